set_option maxHeartbeats 4000000 in
set_option maxRecDepth 100000 in
theorem w_X9_fault {p : Program} {l : Launch} {e : Env} {R : Room} {s : State} {m : MethodId} {args : Array Value} {below : List Frame} {meth : Method} {c : Code} {D : va_G} {cA : Nat → ClassId} {b n : Nat} (hn : sg_okN n) {a : Nat} {h : HP} {Rz : Int32 × HP} (hc : sg_Cx p s m args c cX9_fault RX9 D cA) (hz : s.heap.size = b + n) (hr : meth.sig.returnType = some .int) (hlocks : meth.locks = false) (hml : c.maxLocals = 2) (hRf : 4 ≤ R.frames) (hRl : 94 ≤ R.locals) (ha_a : a < n) (hT_a : sg_T a = 9) (hf : F_X9_fault a h = some Rz) (H : Heap) (locs : List Loc) (ls : Array Slot) (hw : sg_Wo D b cA n s.heap h H locs) (hl : lv_has ls 2 [(0, .ref (b + a))]) : W p l e R s m args below meth c H locs 0 0 (sg_Qi below args s D b cA n (fun r u => r = Rz.1 ∧ u = Rz.2)) (F0 m 0 ls []) := by
  have hx := hc.1
  have hb := hc.2.1
  have hn0 : 0 < n := sg_pos hn
  have L9 : ∀ (k : Nat) (x : HP), F_X9_fault_L9 a k x = some Rz → ∀ (H : Heap) (locs : List Loc) (ls : Array Slot), sg_Wo D b cA n s.heap x H locs → lv_has ls 2 [(0, .ref (b + a))] → W p l e R s m args below meth c H locs 0 0 (sg_Qi below args s D b cA n (fun r u => r = Rz.1 ∧ u = Rz.2)) (F0 m 9 ls []) := by
    unfold F_X9_fault_L9
    refine lp_walk ?_
    intro rc9 hrc9 x hf H locs ls hw hl
    obtain ⟨h, rfl⟩ : ∃ z, z = x := ⟨x, rfl⟩
    refine lv_aload_n hx hb dX9_fault_9 rfl (lv_at hl 0 rfl) ?_
    refine sg_geti hc hw ha_a hT_a fi_9_12 k_885 dX9_fault_10 ?_
    refine lv_aload_n hx hb dX9_fault_13 rfl (lv_at hl 0 rfl) ?_
    refine sg_geti hc hw ha_a hT_a fi_9_9 k_882 dX9_fault_14 ?_
    refine lv_icmp_ge (tgt := 37) hx hb dX9_fault_17 (by decide) (fun c17 => ?_) (fun c17 => ?_)
    · have hf := if_of c17 hf
      refine lv_bipush (v := (-4)) hx hb dX9_fault_37 (by decide) ?_
      cases hf
      exact sg_iret hc hw hz hn0 hr hlocks ⟨rfl, rfl⟩ dX9_fault_39
    · have hf := if_no c17 hf
      refine lv_aload_n hx hb dX9_fault_20 rfl (lv_at hl 0 rfl) ?_
      refine sg_geti hc hw ha_a hT_a fi_9_12 k_885 dX9_fault_21 ?_
      refine lv_topi (fun v24 e24 => ?_)
      have hf := nm_of e24 hf
      refine lv_istore_n (lv' := [(1, .int v24), (0, .ref (b + a))]) hx hb dX9_fault_24 rfl hl (by decide) rfl (fun ls hl => ?_)
      refine lv_aload_n hx hb dX9_fault_25 rfl (lv_at hl 1 rfl) ?_
      obtain ⟨p26, hp26, hf⟩ := cl_of hf
      refine sg_vi (rest := []) (c_X9_takesItem hn ha_a hT_a hp26) hc hw hz hml hl ha_a hT_a (by decide) rfl cv_X9_136 ⟨⟨rfl, rfl⟩, Nat.le_trans (Nat.le_of_ble_eq_true rfl) hRf, Nat.le_trans (Nat.le_of_ble_eq_true rfl) hRl⟩ ⟨Nat.zero_le _, Nat.zero_le _⟩ rfl rfl (Nat.le_of_ble_eq_true rfl) dX9_fault_26 (fun r h1 H locs hp hw => ?_)
      obtain ⟨⟨e1, e2⟩, hb26⟩ := hp; subst r; subst h1
      refine lv_if_ne (tgt := 34) hx hb dX9_fault_29 (by decide) (fun c29 => ?_) (fun c29 => ?_)
      · have hf := if_no c29 hf
        refine lv_goto (tgt := 9) hx hb dX9_fault_34 (by decide) ?_
        exact hrc9 _ hf _ _ _ hw (lv_sub hl [1] rfl)
      · have hf := if_of c29 hf
        refine lv_iload_n hx hb dX9_fault_32 rfl (lv_at hl 0 rfl) ?_
        cases hf
        exact sg_iret hc hw hz hn0 hr hlocks ⟨rfl, rfl⟩ dX9_fault_33
  unfold F_X9_fault at hf
  refine lv_aload_n hx hb dX9_fault_0 rfl (lv_at hl 0 rfl) ?_
  obtain ⟨p1, hp1, hf⟩ := cl_of hf
  refine sg_vv (rest := []) (c_X9_clean hn ha_a hT_a hp1) hc hw hz hml hl ha_a hT_a (by decide) rfl cv_X9_70 ⟨⟨rfl, rfl⟩, Nat.le_trans (Nat.le_of_ble_eq_true rfl) hRf, Nat.le_trans (Nat.le_of_ble_eq_true rfl) hRl⟩ ⟨Nat.zero_le _, Nat.zero_le _⟩ rfl rfl (Nat.le_of_ble_eq_true rfl) dX9_fault_1 (fun h1 H locs hp hw => ?_)
  subst h1
  refine lv_aload_n hx hb dX9_fault_4 rfl (lv_at hl 0 rfl) ?_
  refine lv_iconst (v := 0) hx hb dX9_fault_5 (by decide) ?_
  refine sg_puti hc hw ha_a hT_a fp_9_12 rfl rfl k_885 dX9_fault_6 (fun H locs hw => ?_)
  obtain ⟨h6, hw, hf⟩ := sg_name hw hf
  exact L9 _ _ hf _ _ _ hw (lv_sub hl [0] rfl)
theorem c_X9_fault {l : Launch} {D : va_G} {cA : Nat → ClassId} {b n : Nat} (hn : sg_okN n) {a : Nat} (ha_a : a < n) (hT_a : sg_T a = 9) {h : HP} {Rz : Int32 × HP} (hf : F_X9_fault a h = some Rz) : Met l yX9_fault (Cond.code yX9_fault cX9_fault 2 (some .int) :: sg_tbl) ({ frames := 4, cells := 0, slots := 0, locals := 94 } : Room) (va_Pc [.ref (b + a)] (sg_Wd D b cA n h)) (va_Qi (fun r u => r = Rz.1 ∧ u = Rz.2) (sg_Wd D b cA n) (sg_A b)) 0 0 (sg_A b) := by
  refine Met.ofW (cc := cX9_fault) (maxL := 2) (ret := (some .int)) (by decide) rfl ?_
  intro p e s m args below meth c s₁ B hml hv
  obtain ⟨rfl, hP, hK, hz, hY, hN⟩ := hv
  have hl := lv_entry [.ref (b + a)] (n := 2) (Nat.le_of_ble_eq_true rfl)
  rw [lg_entry_eq]
  exact w_X9_fault hn ⟨B.exec, B.bytes, findClass_of_methodNamed B.named, fun w h => atoms_spec (ws := Cond.code yX9_fault cX9_fault 2 (some .int) :: sg_tbl) B.pre w (List.mem_cons_of_mem _ h), hK, hN⟩ hz B.returns B.notSynchronized hml (Nat.le_refl _) (Nat.le_refl _) ha_a hT_a hf _ _ _ ⟨hP, hY, va_S.rf⟩ hl
set_option maxHeartbeats 4000000 in
set_option maxRecDepth 100000 in
theorem w_X9_begins {p : Program} {l : Launch} {e : Env} {R : Room} {s : State} {m : MethodId} {args : Array Value} {below : List Frame} {meth : Method} {c : Code} {D : va_G} {cA : Nat → ClassId} {b n : Nat} (hn : sg_okN n) {a : Nat} {h : HP} {Rz : HP} (hc : sg_Cx p s m args c cX9_begins RX9 D cA) (hz : s.heap.size = b + n) (hr : meth.sig.returnType = none) (hlocks : meth.locks = false) (hml : c.maxLocals = 2) (hRf : 0 ≤ R.frames) (hRl : 0 ≤ R.locals) (ha_a : a < n) (hT_a : sg_T a = 9) (hf : F_X9_begins a h = some Rz) (H : Heap) (locs : List Loc) (ls : Array Slot) (hw : sg_Wo D b cA n s.heap h H locs) (hl : lv_has ls 2 [(0, .ref (b + a))]) : W p l e R s m args below meth c H locs 0 0 (sg_Qv below args s D b cA n (fun u => u = Rz)) (F0 m 0 ls []) := by
  have hx := hc.1
  have hb := hc.2.1
  have hn0 : 0 < n := sg_pos hn
  have J52 : ∀ (h : HP) (H : Heap) (locs : List Loc) (ls : Array Slot), F_X9_begins_J52 a h = some Rz → sg_Wo D b cA n s.heap h H locs → lv_has ls 2 [(0, .ref (b + a))] → W p l e R s m args below meth c H locs 0 0 (sg_Qv below args s D b cA n (fun u => u = Rz)) (F0 m 52 ls []) := by
    intro h H locs ls hf hw hl
    unfold F_X9_begins_J52 at hf
    refine lv_aload_n hx hb dX9_begins_52 rfl (lv_at hl 0 rfl) ?_
    refine lv_iconst (v := 0) hx hb dX9_begins_53 (by decide) ?_
    refine sg_puti hc hw ha_a hT_a fp_9_11 rfl rfl k_884 dX9_begins_54 (fun H locs hw => ?_)
    obtain ⟨h54, hw, hf⟩ := sg_name hw hf
    refine lv_aload_n hx hb dX9_begins_57 rfl (lv_at hl 0 rfl) ?_
    refine lv_iconst (v := 0) hx hb dX9_begins_58 (by decide) ?_
    refine sg_puti hc hw ha_a hT_a fp_9_5 rfl rfl k_878 dX9_begins_59 (fun H locs hw => ?_)
    obtain ⟨h59, hw, hf⟩ := sg_name hw hf
    refine lv_aload_n hx hb dX9_begins_62 rfl (lv_at hl 0 rfl) ?_
    refine lv_iconst (v := 0) hx hb dX9_begins_63 (by decide) ?_
    refine sg_puti hc hw ha_a hT_a fp_9_7 rfl rfl k_880 dX9_begins_64 (fun H locs hw => ?_)
    obtain ⟨h64, hw, hf⟩ := sg_name hw hf
    cases hf
    exact sg_vret hc hw hz hn0 hr hlocks rfl dX9_begins_67
  have L28 : ∀ (k : Nat) (x : (Int32 × HP)), F_X9_begins_L28 a k x = some Rz → ∀ (H : Heap) (locs : List Loc) (ls : Array Slot), sg_Wo D b cA n s.heap x.2 H locs → lv_has ls 2 [(0, .ref (b + a)), (1, .int x.1)] → W p l e R s m args below meth c H locs 0 0 (sg_Qv below args s D b cA n (fun u => u = Rz)) (F0 m 28 ls []) := by
    unfold F_X9_begins_L28
    refine lp_walk ?_
    intro rc28 hrc28 x hf H locs ls hw hl
    obtain ⟨x1, h⟩ := x
    dsimp only at hf hw hl
    refine lv_iload_n hx hb dX9_begins_28 rfl (lv_at hl 1 rfl) ?_
    refine lv_bipush (v := 31) hx hb dX9_begins_29 (by decide) ?_
    refine lv_icmp_ge (tgt := 52) hx hb dX9_begins_31 (by decide) (fun c31 => ?_) (fun c31 => ?_)
    · have hf := if_of c31 hf
      exact J52 _ _ _ _ hf hw (lv_sub hl [0] rfl)
    · have hf := if_no c31 hf
      refine lv_aload_n hx hb dX9_begins_34 rfl (lv_at hl 0 rfl) ?_
      obtain ⟨hF35, hT35, ha35, hN35⟩ := ft_9_2 hn ha_a hT_a
      refine sg_getf (q := (a + 3)) hc hw ha_a hT_a fr_9_2 (by decide) k_875 dX9_begins_35 hF35 ?_
      refine lv_iload_n hx hb dX9_begins_38 rfl (lv_at hl 1 rfl) ?_
      refine lv_aload_n hx hb dX9_begins_39 rfl (lv_at hl 0 rfl) ?_
      obtain ⟨hF40, hT40, ha40, hN40⟩ := ft_9_3 hn ha_a hT_a
      refine sg_getf (q := (a + 4)) hc hw ha_a hT_a fr_9_3 (by decide) k_876 dX9_begins_40 hF40 ?_
      refine lv_iload_n hx hb dX9_begins_43 rfl (lv_at hl 1 rfl) ?_
      obtain ⟨hg44, hf⟩ := gd_of hf
      refine sg_ild hc hw ha40 hT40 hN40 hg44 dX9_begins_44 ?_
      obtain ⟨hg45, hf⟩ := gd_of hf
      refine sg_ist hc hw ha35 hT35 hN35 hg45 dX9_begins_45 (fun H locs hw => ?_)
      obtain ⟨h45, hw, hf⟩ := sg_name hw hf
      refine lv_iinc (v := (x1 + 1)) (lv' := [(1, .int (x1 + 1)), (0, .ref (b + a))]) hx hb dX9_begins_46 hl (k := 1) rfl rfl (by decide) rfl (fun ls hl => ?_)
      refine lv_goto (tgt := 28) hx hb dX9_begins_49 (by decide) ?_
      exact hrc28 _ hf _ _ _ hw (lv_sub hl [1, 0] rfl)
  have J26 : ∀ (h : HP) (H : Heap) (locs : List Loc) (ls : Array Slot), F_X9_begins_J26 a h = some Rz → sg_Wo D b cA n s.heap h H locs → lv_has ls 2 [(0, .ref (b + a))] → W p l e R s m args below meth c H locs 0 0 (sg_Qv below args s D b cA n (fun u => u = Rz)) (F0 m 26 ls []) := by
    intro h H locs ls hf hw hl
    unfold F_X9_begins_J26 at hf
    refine lv_iconst (v := 0) hx hb dX9_begins_26 (by decide) ?_
    refine lv_istore_n (lv' := [(1, .int 0), (0, .ref (b + a))]) hx hb dX9_begins_27 rfl hl (by decide) rfl (fun ls hl => ?_)
    exact L28 _ _ hf _ _ _ hw (lv_sub hl [1, 0] rfl)
  have L2 : ∀ (k : Nat) (x : (Int32 × HP)), F_X9_begins_L2 a k x = some Rz → ∀ (H : Heap) (locs : List Loc) (ls : Array Slot), sg_Wo D b cA n s.heap x.2 H locs → lv_has ls 2 [(0, .ref (b + a)), (1, .int x.1)] → W p l e R s m args below meth c H locs 0 0 (sg_Qv below args s D b cA n (fun u => u = Rz)) (F0 m 2 ls []) := by
    unfold F_X9_begins_L2
    refine lp_walk ?_
    intro rc2 hrc2 x hf H locs ls hw hl
    obtain ⟨x1, h⟩ := x
    dsimp only at hf hw hl
    refine lv_iload_n hx hb dX9_begins_2 rfl (lv_at hl 1 rfl) ?_
    refine lv_bipush (v := 34) hx hb dX9_begins_3 (by decide) ?_
    refine lv_icmp_ge (tgt := 26) hx hb dX9_begins_5 (by decide) (fun c5 => ?_) (fun c5 => ?_)
    · have hf := if_of c5 hf
      exact J26 _ _ _ _ hf hw (lv_sub hl [0] rfl)
    · have hf := if_no c5 hf
      refine lv_aload_n hx hb dX9_begins_8 rfl (lv_at hl 0 rfl) ?_
      obtain ⟨hF9, hT9, ha9, hN9⟩ := ft_9_0 hn ha_a hT_a
      refine sg_getf (q := (a + 1)) hc hw ha_a hT_a fr_9_0 (by decide) k_873 dX9_begins_9 hF9 ?_
      refine lv_iload_n hx hb dX9_begins_12 rfl (lv_at hl 1 rfl) ?_
      refine lv_aload_n hx hb dX9_begins_13 rfl (lv_at hl 0 rfl) ?_
      obtain ⟨hF14, hT14, ha14, hN14⟩ := ft_9_1 hn ha_a hT_a
      refine sg_getf (q := (a + 2)) hc hw ha_a hT_a fr_9_1 (by decide) k_874 dX9_begins_14 hF14 ?_
      refine lv_iload_n hx hb dX9_begins_17 rfl (lv_at hl 1 rfl) ?_
      obtain ⟨hg18, hf⟩ := gd_of hf
      refine sg_ild hc hw ha14 hT14 hN14 hg18 dX9_begins_18 ?_
      obtain ⟨hg19, hf⟩ := gd_of hf
      refine sg_ist hc hw ha9 hT9 hN9 hg19 dX9_begins_19 (fun H locs hw => ?_)
      obtain ⟨h19, hw, hf⟩ := sg_name hw hf
      refine lv_iinc (v := (x1 + 1)) (lv' := [(1, .int (x1 + 1)), (0, .ref (b + a))]) hx hb dX9_begins_20 hl (k := 1) rfl rfl (by decide) rfl (fun ls hl => ?_)
      refine lv_goto (tgt := 2) hx hb dX9_begins_23 (by decide) ?_
      exact hrc2 _ hf _ _ _ hw (lv_sub hl [1, 0] rfl)
  unfold F_X9_begins at hf
  refine lv_iconst (v := 0) hx hb dX9_begins_0 (by decide) ?_
  refine lv_istore_n (lv' := [(1, .int 0), (0, .ref (b + a))]) hx hb dX9_begins_1 rfl hl (by decide) rfl (fun ls hl => ?_)
  exact L2 _ _ hf _ _ _ hw (lv_sub hl [1, 0] rfl)
theorem c_X9_begins {l : Launch} {D : va_G} {cA : Nat → ClassId} {b n : Nat} (hn : sg_okN n) {a : Nat} (ha_a : a < n) (hT_a : sg_T a = 9) {h : HP} {Rz : HP} (hf : F_X9_begins a h = some Rz) : Met l yX9_begins (Cond.code yX9_begins cX9_begins 2 none :: sg_tbl) ({ frames := 0, cells := 0, slots := 0, locals := 0 } : Room) (va_Pc [.ref (b + a)] (sg_Wd D b cA n h)) (va_Qv (fun u => u = Rz) (sg_Wd D b cA n) (sg_A b)) 0 0 (sg_A b) := by
  refine Met.ofW (cc := cX9_begins) (maxL := 2) (ret := none) (by decide) rfl ?_
  intro p e s m args below meth c s₁ B hml hv
  obtain ⟨rfl, hP, hK, hz, hY, hN⟩ := hv
  have hl := lv_entry [.ref (b + a)] (n := 2) (Nat.le_of_ble_eq_true rfl)
  rw [lg_entry_eq]
  exact w_X9_begins hn ⟨B.exec, B.bytes, findClass_of_methodNamed B.named, fun w h => atoms_spec (ws := Cond.code yX9_begins cX9_begins 2 none :: sg_tbl) B.pre w (List.mem_cons_of_mem _ h), hK, hN⟩ hz B.returns B.notSynchronized hml (Nat.le_refl _) (Nat.le_refl _) ha_a hT_a hf _ _ _ ⟨hP, hY, va_S.rf⟩ hl
set_option maxHeartbeats 4000000 in
set_option maxRecDepth 100000 in
theorem w_X9_lay {p : Program} {l : Launch} {e : Env} {R : Room} {s : State} {m : MethodId} {args : Array Value} {below : List Frame} {meth : Method} {c : Code} {D : va_G} {cA : Nat → ClassId} {b n : Nat} (hn : sg_okN n) {a : Nat} {h : HP} {Rz : Int32 × HP} (hc : sg_Cx p s m args c cX9_lay RX9 D cA) (hz : s.heap.size = b + n) (hr : meth.sig.returnType = some .int) (hlocks : meth.locks = false) (hml : c.maxLocals = 1) (hRf : 5 ≤ R.frames) (hRl : 115 ≤ R.locals) (ha_a : a < n) (hT_a : sg_T a = 9) (hf : F_X9_lay a h = some Rz) (H : Heap) (locs : List Loc) (ls : Array Slot) (hw : sg_Wo D b cA n s.heap h H locs) (hl : lv_has ls 1 [(0, .ref (b + a))]) : W p l e R s m args below meth c H locs 0 0 (sg_Qi below args s D b cA n (fun r u => r = Rz.1 ∧ u = Rz.2)) (F0 m 0 ls []) := by
  have hx := hc.1
  have hb := hc.2.1
  have hn0 : 0 < n := sg_pos hn
  unfold F_X9_lay at hf
  refine lv_aload_n hx hb dX9_lay_0 rfl (lv_at hl 0 rfl) ?_
  obtain ⟨p1, hp1, hf⟩ := cl_of hf
  refine sg_vi (rest := []) (c_X9_fault hn ha_a hT_a hp1) hc hw hz hml hl ha_a hT_a (by decide) rfl cv_X9_148 ⟨⟨rfl, rfl⟩, Nat.le_trans (Nat.le_of_ble_eq_true rfl) hRf, Nat.le_trans (Nat.le_of_ble_eq_true rfl) hRl⟩ ⟨Nat.zero_le _, Nat.zero_le _⟩ rfl rfl (Nat.le_of_ble_eq_true rfl) dX9_lay_1 (fun r h1 H locs hp hw => ?_)
  obtain ⟨e1, e2⟩ := hp; subst r; subst h1
  refine lv_bipush (v := (-4)) hx hb dX9_lay_4 (by decide) ?_
  refine lv_icmp_ne (tgt := 27) hx hb dX9_lay_6 (by decide) (fun c6 => ?_) (fun c6 => ?_)
  · have hf := if_no c6 hf
    refine lv_bipush (v := (-2)) hx hb dX9_lay_27 (by decide) ?_
    cases hf
    exact sg_iret hc hw hz hn0 hr hlocks ⟨rfl, rfl⟩ dX9_lay_29
  · have hf := if_of c6 hf
    refine lv_aload_n hx hb dX9_lay_9 rfl (lv_at hl 0 rfl) ?_
    obtain ⟨hF10, hT10, ha10, hN10⟩ := ft_9_1 hn ha_a hT_a
    refine sg_getf (q := (a + 2)) hc hw ha_a hT_a fr_9_1 (by decide) k_874 dX9_lay_10 hF10 ?_
    refine lv_iconst (v := 0) hx hb dX9_lay_13 (by decide) ?_
    refine sg_ild hc hw ha10 hT10 hN10 (show vp_in 0 34 by unfold vp_in; decide) dX9_lay_14 ?_
    refine lv_if_eq (tgt := 27) hx hb dX9_lay_15 (by decide) (fun c15 => ?_) (fun c15 => ?_)
    · have hf := if_of c15 hf
      refine lv_bipush (v := (-2)) hx hb dX9_lay_27 (by decide) ?_
      cases hf
      exact sg_iret hc hw hz hn0 hr hlocks ⟨rfl, rfl⟩ dX9_lay_29
    · have hf := if_no c15 hf
      refine lv_aload_n hx hb dX9_lay_18 rfl (lv_at hl 0 rfl) ?_
      refine sg_getf (q := (a + 2)) hc hw ha_a hT_a fr_9_1 (by decide) k_874 dX9_lay_19 (ft_9_1 hn ha_a hT_a).1 ?_
      refine lv_iconst (v := 1) hx hb dX9_lay_22 (by decide) ?_
      refine sg_ild hc hw ha10 hT10 hN10 (show vp_in 1 34 by unfold vp_in; decide) dX9_lay_23 ?_
      refine lv_if_ne (tgt := 30) hx hb dX9_lay_24 (by decide) (fun c24 => ?_) (fun c24 => ?_)
      · have hf := if_no c24 hf
        refine lv_aload_n hx hb dX9_lay_30 rfl (lv_at hl 0 rfl) ?_
        obtain ⟨p31, hp31, hf⟩ := cl_of hf
        refine sg_vv (rest := []) (c_X9_begins hn ha_a hT_a hp31) hc hw hz hml hl ha_a hT_a (by decide) rfl cv_X9_84 ⟨⟨rfl, rfl⟩, Nat.le_trans (Nat.le_of_ble_eq_true rfl) hRf, Nat.le_trans (Nat.le_of_ble_eq_true rfl) hRl⟩ ⟨Nat.zero_le _, Nat.zero_le _⟩ rfl rfl (Nat.le_of_ble_eq_true rfl) dX9_lay_31 (fun h1 H locs hp hw => ?_)
        subst h1
        refine lv_aload_n hx hb dX9_lay_34 rfl (lv_at hl 0 rfl) ?_
        obtain ⟨hF35, hT35, ha35, hN35⟩ := ft_9_0 hn ha_a hT_a
        refine sg_getf (q := (a + 1)) hc hw ha_a hT_a fr_9_0 (by decide) k_873 dX9_lay_35 hF35 ?_
        obtain ⟨p38, hp38, hf⟩ := cl_of hf
        refine sg_si (rest := []) (c_X9_yardsOf hn ha35 hT35 hp38) hc hw hz hn0 hml hl cs_X9_116 ⟨⟨rfl, rfl⟩, Nat.le_trans (Nat.le_of_ble_eq_true rfl) hRf, Nat.le_trans (Nat.le_of_ble_eq_true rfl) hRl⟩ ⟨Nat.zero_le _, Nat.zero_le _⟩ rfl rfl (Nat.le_of_ble_eq_true rfl) dX9_lay_38 (fun r h1 H locs hp hw => ?_)
        obtain ⟨e1, e2⟩ := hp; subst r; subst h1
        cases hf
        exact sg_iret hc hw hz hn0 hr hlocks ⟨rfl, rfl⟩ dX9_lay_41
      · have hf := if_of c24 hf
        refine lv_bipush (v := (-2)) hx hb dX9_lay_27 (by decide) ?_
        cases hf
        exact sg_iret hc hw hz hn0 hr hlocks ⟨rfl, rfl⟩ dX9_lay_29
theorem c_X9_lay {l : Launch} {D : va_G} {cA : Nat → ClassId} {b n : Nat} (hn : sg_okN n) {a : Nat} (ha_a : a < n) (hT_a : sg_T a = 9) {h : HP} {Rz : Int32 × HP} (hf : F_X9_lay a h = some Rz) : Met l yX9_lay (Cond.code yX9_lay cX9_lay 1 (some .int) :: sg_tbl) ({ frames := 5, cells := 0, slots := 0, locals := 115 } : Room) (va_Pc [.ref (b + a)] (sg_Wd D b cA n h)) (va_Qi (fun r u => r = Rz.1 ∧ u = Rz.2) (sg_Wd D b cA n) (sg_A b)) 0 0 (sg_A b) := by
  refine Met.ofW (cc := cX9_lay) (maxL := 1) (ret := (some .int)) (by decide) rfl ?_
  intro p e s m args below meth c s₁ B hml hv
  obtain ⟨rfl, hP, hK, hz, hY, hN⟩ := hv
  have hl := lv_entry [.ref (b + a)] (n := 1) (Nat.le_of_ble_eq_true rfl)
  rw [lg_entry_eq]
  exact w_X9_lay hn ⟨B.exec, B.bytes, findClass_of_methodNamed B.named, fun w h => atoms_spec (ws := Cond.code yX9_lay cX9_lay 1 (some .int) :: sg_tbl) B.pre w (List.mem_cons_of_mem _ h), hK, hN⟩ hz B.returns B.notSynchronized hml (Nat.le_refl _) (Nat.le_refl _) ha_a hT_a hf _ _ _ ⟨hP, hY, va_S.rf⟩ hl
set_option maxHeartbeats 4000000 in
set_option maxRecDepth 100000 in
theorem w_X9_isBearer {p : Program} {l : Launch} {e : Env} {R : Room} {s : State} {m : MethodId} {args : Array Value} {below : List Frame} {meth : Method} {c : Code} {D : va_G} {cA : Nat → ClassId} {b n : Nat} (hn : sg_okN n) {a : Nat} {x1 : Int32} {h : HP} {Rz : Int32} (hc : sg_Cx p s m args c cX9_isBearer RX9 D cA) (hz : s.heap.size = b + n) (hr : meth.sig.returnType = some .boolean) (hlocks : meth.locks = false) (hml : c.maxLocals = 2) (hRf : 1 ≤ R.frames) (hRl : 25 ≤ R.locals) (ha_a : a < n) (hT_a : sg_T a = 9) (hf : F_X9_isBearer a x1 h = some Rz) (H : Heap) (locs : List Loc) (ls : Array Slot) (hw : sg_Wo D b cA n s.heap h H locs) (hl : lv_has ls 2 [(0, .ref (b + a)), (1, .int x1)]) : W p l e R s m args below meth c H locs 0 0 (sg_Qi below args s D b cA n (fun r u => (r = Rz ∧ u = h) ∧ narrow .boolean (.int r) = .int r)) (F0 m 0 ls []) := by
  have hx := hc.1
  have hb := hc.2.1
  have hn0 : 0 < n := sg_pos hn
  unfold F_X9_isBearer at hf
  refine lv_iload_n hx hb dX9_isBearer_0 rfl (lv_at hl 1 rfl) ?_
  refine lv_i2l hx hb dX9_isBearer_1 rfl ?_
  refine lv_lconst (v := 0) hx hb dX9_isBearer_2 (by decide) ?_
  refine lv_aload_n hx hb dX9_isBearer_3 rfl (lv_at hl 0 rfl) ?_
  obtain ⟨hF4, hT4, ha4, hN4⟩ := ft_9_0 hn ha_a hT_a
  refine sg_getf (q := (a + 1)) hc hw ha_a hT_a fr_9_0 (by decide) k_873 dX9_isBearer_4 hF4 ?_
  refine lv_iconst (v := 1) hx hb dX9_isBearer_7 (by decide) ?_
  refine sg_ild hc hw ha4 hT4 hN4 (show vp_in 1 34 by unfold vp_in; decide) dX9_isBearer_8 ?_
  refine lv_iconst (v := 1) hx hb dX9_isBearer_9 (by decide) ?_
  refine lv_isub hx hb dX9_isBearer_10 ?_
  refine lv_i2l hx hb dX9_isBearer_11 rfl ?_
  obtain ⟨p12, hp12, hf⟩ := cl_of hf
  refine sg_si (rest := []) (c_X9_in hn (h := h) hp12) hc hw hz hn0 hml hl cs_X9_87 ⟨⟨rfl, rfl⟩, Nat.le_trans (Nat.le_of_ble_eq_true rfl) hRf, Nat.le_trans (Nat.le_of_ble_eq_true rfl) hRl⟩ ⟨Nat.zero_le _, Nat.zero_le _⟩ rfl rfl (Nat.le_of_ble_eq_true rfl) dX9_isBearer_12 (fun r h1 H locs hp hw => ?_)
  obtain ⟨⟨e1, e2⟩, hb12⟩ := hp; subst r; subst h1
  cases hf
  exact sg_zret hc hw hz hn0 hr hlocks hb12 ⟨⟨rfl, rfl⟩, hb12⟩ dX9_isBearer_15
theorem c_X9_isBearer {l : Launch} {D : va_G} {cA : Nat → ClassId} {b n : Nat} (hn : sg_okN n) {a : Nat} {x1 : Int32} (ha_a : a < n) (hT_a : sg_T a = 9) {h : HP} {Rz : Int32} (hf : F_X9_isBearer a x1 h = some Rz) : Met l yX9_isBearer (Cond.code yX9_isBearer cX9_isBearer 2 (some .boolean) :: sg_tbl) ({ frames := 1, cells := 0, slots := 0, locals := 25 } : Room) (va_Pc [.ref (b + a), .int x1] (sg_Wd D b cA n h)) (va_Qi (fun r u => (r = Rz ∧ u = h) ∧ narrow .boolean (.int r) = .int r) (sg_Wd D b cA n) (sg_A b)) 0 0 (sg_A b) := by
  refine Met.ofW (cc := cX9_isBearer) (maxL := 2) (ret := (some .boolean)) (by decide) rfl ?_
  intro p e s m args below meth c s₁ B hml hv
  obtain ⟨rfl, hP, hK, hz, hY, hN⟩ := hv
  have hl := lv_entry [.ref (b + a), .int x1] (n := 2) (Nat.le_of_ble_eq_true rfl)
  rw [lg_entry_eq]
  exact w_X9_isBearer hn ⟨B.exec, B.bytes, findClass_of_methodNamed B.named, fun w h => atoms_spec (ws := Cond.code yX9_isBearer cX9_isBearer 2 (some .boolean) :: sg_tbl) B.pre w (List.mem_cons_of_mem _ h), hK, hN⟩ hz B.returns B.notSynchronized hml (Nat.le_refl _) (Nat.le_refl _) ha_a hT_a hf _ _ _ ⟨hP, hY, va_S.rf⟩ hl
set_option maxHeartbeats 4000000 in
set_option maxRecDepth 100000 in
theorem w_X9_isYard {p : Program} {l : Launch} {e : Env} {R : Room} {s : State} {m : MethodId} {args : Array Value} {below : List Frame} {meth : Method} {c : Code} {D : va_G} {cA : Nat → ClassId} {b n : Nat} (hn : sg_okN n) {a : Nat} {x1 : Int32} {h : HP} {Rz : Int32} (hc : sg_Cx p s m args c cX9_isYard RX9 D cA) (hz : s.heap.size = b + n) (hr : meth.sig.returnType = some .boolean) (hlocks : meth.locks = false) (hml : c.maxLocals = 2) (hRf : 1 ≤ R.frames) (hRl : 25 ≤ R.locals) (ha_a : a < n) (hT_a : sg_T a = 9) (hf : F_X9_isYard a x1 h = some Rz) (H : Heap) (locs : List Loc) (ls : Array Slot) (hw : sg_Wo D b cA n s.heap h H locs) (hl : lv_has ls 2 [(0, .ref (b + a)), (1, .int x1)]) : W p l e R s m args below meth c H locs 0 0 (sg_Qi below args s D b cA n (fun r u => (r = Rz ∧ u = h) ∧ narrow .boolean (.int r) = .int r)) (F0 m 0 ls []) := by
  have hx := hc.1
  have hb := hc.2.1
  have hn0 : 0 < n := sg_pos hn
  unfold F_X9_isYard at hf
  refine lv_iload_n hx hb dX9_isYard_0 rfl (lv_at hl 1 rfl) ?_
  refine lv_i2l hx hb dX9_isYard_1 rfl ?_
  refine lv_lconst (v := 0) hx hb dX9_isYard_2 (by decide) ?_
  refine lv_aload_n hx hb dX9_isYard_3 rfl (lv_at hl 0 rfl) ?_
  obtain ⟨hF4, hT4, ha4, hN4⟩ := ft_9_0 hn ha_a hT_a
  refine sg_getf (q := (a + 1)) hc hw ha_a hT_a fr_9_0 (by decide) k_873 dX9_isYard_4 hF4 ?_
  obtain ⟨p7, hp7, hf⟩ := cl_of hf
  refine sg_si (rest := [.long 0, .long (x1.toInt64)]) (c_X9_yardsOf hn ha4 hT4 hp7) hc hw hz hn0 hml hl cs_X9_116 ⟨⟨rfl, rfl⟩, Nat.le_trans (Nat.le_of_ble_eq_true rfl) hRf, Nat.le_trans (Nat.le_of_ble_eq_true rfl) hRl⟩ ⟨Nat.zero_le _, Nat.zero_le _⟩ rfl rfl (Nat.le_of_ble_eq_true rfl) dX9_isYard_7 (fun r h1 H locs hp hw => ?_)
  obtain ⟨e1, e2⟩ := hp; subst r; subst h1
  refine lv_iconst (v := 1) hx hb dX9_isYard_10 (by decide) ?_
  refine lv_isub hx hb dX9_isYard_11 ?_
  refine lv_i2l hx hb dX9_isYard_12 rfl ?_
  obtain ⟨p13, hp13, hf⟩ := cl_of hf
  refine sg_si (rest := []) (c_X9_in hn (h := h) hp13) hc hw hz hn0 hml hl cs_X9_87 ⟨⟨rfl, rfl⟩, Nat.le_trans (Nat.le_of_ble_eq_true rfl) hRf, Nat.le_trans (Nat.le_of_ble_eq_true rfl) hRl⟩ ⟨Nat.zero_le _, Nat.zero_le _⟩ rfl rfl (Nat.le_of_ble_eq_true rfl) dX9_isYard_13 (fun r h1 H locs hp hw => ?_)
  obtain ⟨⟨e1, e2⟩, hb13⟩ := hp; subst r; subst h1
  cases hf
  exact sg_zret hc hw hz hn0 hr hlocks hb13 ⟨⟨rfl, rfl⟩, hb13⟩ dX9_isYard_16
theorem c_X9_isYard {l : Launch} {D : va_G} {cA : Nat → ClassId} {b n : Nat} (hn : sg_okN n) {a : Nat} {x1 : Int32} (ha_a : a < n) (hT_a : sg_T a = 9) {h : HP} {Rz : Int32} (hf : F_X9_isYard a x1 h = some Rz) : Met l yX9_isYard (Cond.code yX9_isYard cX9_isYard 2 (some .boolean) :: sg_tbl) ({ frames := 1, cells := 0, slots := 0, locals := 25 } : Room) (va_Pc [.ref (b + a), .int x1] (sg_Wd D b cA n h)) (va_Qi (fun r u => (r = Rz ∧ u = h) ∧ narrow .boolean (.int r) = .int r) (sg_Wd D b cA n) (sg_A b)) 0 0 (sg_A b) := by
  refine Met.ofW (cc := cX9_isYard) (maxL := 2) (ret := (some .boolean)) (by decide) rfl ?_
  intro p e s m args below meth c s₁ B hml hv
  obtain ⟨rfl, hP, hK, hz, hY, hN⟩ := hv
  have hl := lv_entry [.ref (b + a), .int x1] (n := 2) (Nat.le_of_ble_eq_true rfl)
  rw [lg_entry_eq]
  exact w_X9_isYard hn ⟨B.exec, B.bytes, findClass_of_methodNamed B.named, fun w h => atoms_spec (ws := Cond.code yX9_isYard cX9_isYard 2 (some .boolean) :: sg_tbl) B.pre w (List.mem_cons_of_mem _ h), hK, hN⟩ hz B.returns B.notSynchronized hml (Nat.le_refl _) (Nat.le_refl _) ha_a hT_a hf _ _ _ ⟨hP, hY, va_S.rf⟩ hl
set_option maxHeartbeats 4000000 in
set_option maxRecDepth 100000 in
theorem w_X9_stretchAt {p : Program} {l : Launch} {e : Env} {R : Room} {s : State} {m : MethodId} {args : Array Value} {below : List Frame} {meth : Method} {c : Code} {D : va_G} {cA : Nat → ClassId} {b n : Nat} (hn : sg_okN n) {q0 : Nat} {x1 : Int32} {h : HP} {Rz : Int32} (hc : sg_Cx p s m args c cX9_stretchAt RX9 D cA) (hz : s.heap.size = b + n) (hr : meth.sig.returnType = some .int) (hlocks : meth.locks = false) (hml : c.maxLocals = 4) (hRf : 0 ≤ R.frames) (hRl : 0 ≤ R.locals) (ha_q0 : q0 < n) (hT_q0 : sg_T q0 = 11) (hf : F_X9_stretchAt q0 x1 h = some Rz) (H : Heap) (locs : List Loc) (ls : Array Slot) (hw : sg_Wo D b cA n s.heap h H locs) (hl : lv_has ls 4 [(0, .ref (b + q0)), (1, .int x1)]) : W p l e R s m args below meth c H locs 0 0 (sg_Qi below args s D b cA n (fun r u => r = Rz ∧ u = h)) (F0 m 0 ls []) := by
  have hx := hc.1
  have hb := hc.2.1
  have hn0 : 0 < n := sg_pos hn
  have L4 : ∀ (k : Nat) (x : (Int32 × Int32)), F_X9_stretchAt_L4 q0 h k x = some Rz → ∀ (H : Heap) (locs : List Loc) (ls : Array Slot), sg_Wo D b cA n s.heap h H locs → lv_has ls 4 [(0, .ref (b + q0)), (2, .int x.1), (3, .int x.2)] → W p l e R s m args below meth c H locs 0 0 (sg_Qi below args s D b cA n (fun r u => r = Rz ∧ u = h)) (F0 m 4 ls []) := by
    unfold F_X9_stretchAt_L4
    refine lp_walk ?_
    intro rc4 hrc4 x hf H locs ls hw hl
    obtain ⟨x2, x3⟩ := x
    dsimp only at hf hw hl
    refine lv_iload_n hx hb dX9_stretchAt_4 rfl (lv_at hl 2 rfl) ?_
    refine lv_aload_n hx hb dX9_stretchAt_5 rfl (lv_at hl 0 rfl) ?_
    refine lv_iconst (v := 4) hx hb dX9_stretchAt_6 (by decide) ?_
    refine lv_iload_n hx hb dX9_stretchAt_7 rfl (lv_at hl 1 rfl) ?_
    refine lv_iadd hx hb dX9_stretchAt_8 ?_
    obtain ⟨hg9, hf⟩ := gd_of hf
    refine sg_ild hc hw ha_q0 hT_q0 rfl hg9 dX9_stretchAt_9 ?_
    refine lv_icmp_lt (tgt := 27) hx hb dX9_stretchAt_10 (by decide) (fun c10 => ?_) (fun c10 => ?_)
    · have hf := if_of c10 hf
      refine lv_iload_n hx hb dX9_stretchAt_27 rfl (lv_at hl 1 rfl) ?_
      cases hf
      exact sg_iret hc hw hz hn0 hr hlocks ⟨rfl, rfl⟩ dX9_stretchAt_28
    · have hf := if_no c10 hf
      refine lv_iload_n hx hb dX9_stretchAt_13 rfl (lv_at hl 2 rfl) ?_
      refine lv_aload_n hx hb dX9_stretchAt_14 rfl (lv_at hl 0 rfl) ?_
      refine lv_iconst (v := 4) hx hb dX9_stretchAt_15 (by decide) ?_
      refine lv_iload_n hx hb dX9_stretchAt_16 rfl (lv_at hl 1 rfl) ?_
      refine lv_iadd hx hb dX9_stretchAt_17 ?_
      obtain ⟨hg18, hf⟩ := gd_of hf
      refine sg_ild hc hw ha_q0 hT_q0 rfl hg18 dX9_stretchAt_18 ?_
      refine lv_isub hx hb dX9_stretchAt_19 ?_
      refine lv_topi (fun v20 e20 => ?_)
      have hf := nm_of e20 hf
      refine lv_istore_n (lv' := [(3, .int v20), (0, .ref (b + q0)), (2, .int x2)]) hx hb dX9_stretchAt_20 rfl hl (by decide) rfl (fun ls hl => ?_)
      refine lv_iinc (v := (x2 + 1)) (lv' := [(2, .int (x2 + 1)), (3, .int v20), (0, .ref (b + q0))]) hx hb dX9_stretchAt_21 hl (k := 2) rfl rfl (by decide) rfl (fun ls hl => ?_)
      refine lv_goto (tgt := 4) hx hb dX9_stretchAt_24 (by decide) ?_
      exact hrc4 _ hf _ _ _ hw (lv_sub hl [2, 0, 1] rfl)
  unfold F_X9_stretchAt at hf
  refine lv_iconst (v := 0) hx hb dX9_stretchAt_0 (by decide) ?_
  refine lv_istore_n (lv' := [(2, .int 0), (0, .ref (b + q0)), (1, .int x1)]) hx hb dX9_stretchAt_1 rfl hl (by decide) rfl (fun ls hl => ?_)
  refine lv_iload_n hx hb dX9_stretchAt_2 rfl (lv_at hl 2 rfl) ?_
  refine lv_istore_n (lv' := [(3, .int x1), (2, .int 0), (0, .ref (b + q0)), (1, .int x1)]) hx hb dX9_stretchAt_3 rfl hl (by decide) rfl (fun ls hl => ?_)
  exact L4 _ _ hf _ _ _ hw (lv_sub hl [2, 1, 0] rfl)
theorem c_X9_stretchAt {l : Launch} {D : va_G} {cA : Nat → ClassId} {b n : Nat} (hn : sg_okN n) {q0 : Nat} {x1 : Int32} (ha_q0 : q0 < n) (hT_q0 : sg_T q0 = 11) {h : HP} {Rz : Int32} (hf : F_X9_stretchAt q0 x1 h = some Rz) : Met l yX9_stretchAt (Cond.code yX9_stretchAt cX9_stretchAt 4 (some .int) :: sg_tbl) ({ frames := 0, cells := 0, slots := 0, locals := 0 } : Room) (va_Pc [.ref (b + q0), .int x1] (sg_Wd D b cA n h)) (va_Qi (fun r u => r = Rz ∧ u = h) (sg_Wd D b cA n) (sg_A b)) 0 0 (sg_A b) := by
  refine Met.ofW (cc := cX9_stretchAt) (maxL := 4) (ret := (some .int)) (by decide) rfl ?_
  intro p e s m args below meth c s₁ B hml hv
  obtain ⟨rfl, hP, hK, hz, hY, hN⟩ := hv
  have hl := lv_entry [.ref (b + q0), .int x1] (n := 4) (Nat.le_of_ble_eq_true rfl)
  rw [lg_entry_eq]
  exact w_X9_stretchAt hn ⟨B.exec, B.bytes, findClass_of_methodNamed B.named, fun w h => atoms_spec (ws := Cond.code yX9_stretchAt cX9_stretchAt 4 (some .int) :: sg_tbl) B.pre w (List.mem_cons_of_mem _ h), hK, hN⟩ hz B.returns B.notSynchronized hml (Nat.le_refl _) (Nat.le_refl _) ha_q0 hT_q0 hf _ _ _ ⟨hP, hY, va_S.rf⟩ hl
set_option maxHeartbeats 4000000 in
set_option maxRecDepth 100000 in
theorem w_X9_asItIs {p : Program} {l : Launch} {e : Env} {R : Room} {s : State} {m : MethodId} {args : Array Value} {below : List Frame} {meth : Method} {c : Code} {D : va_G} {cA : Nat → ClassId} {b n : Nat} (hn : sg_okN n) {a : Nat} {h : HP} {Rz : HP} (hc : sg_Cx p s m args c cX9_asItIs RX9 D cA) (hz : s.heap.size = b + n) (hr : meth.sig.returnType = none) (hlocks : meth.locks = false) (hml : c.maxLocals = 2) (hRf : 0 ≤ R.frames) (hRl : 0 ≤ R.locals) (ha_a : a < n) (hT_a : sg_T a = 9) (hf : F_X9_asItIs a h = some Rz) (H : Heap) (locs : List Loc) (ls : Array Slot) (hw : sg_Wo D b cA n s.heap h H locs) (hl : lv_has ls 2 [(0, .ref (b + a))]) : W p l e R s m args below meth c H locs 0 0 (sg_Qv below args s D b cA n (fun u => u = Rz)) (F0 m 0 ls []) := by
  have hx := hc.1
  have hb := hc.2.1
  have hn0 : 0 < n := sg_pos hn
  have J52 : ∀ (h : HP) (H : Heap) (locs : List Loc) (ls : Array Slot), F_X9_asItIs_J52 a h = some Rz → sg_Wo D b cA n s.heap h H locs → lv_has ls 2 [(0, .ref (b + a))] → W p l e R s m args below meth c H locs 0 0 (sg_Qv below args s D b cA n (fun u => u = Rz)) (F0 m 52 ls []) := by
    intro h H locs ls hf hw hl
    unfold F_X9_asItIs_J52 at hf
    refine lv_aload_n hx hb dX9_asItIs_52 rfl (lv_at hl 0 rfl) ?_
    refine lv_iconst (v := (-1)) hx hb dX9_asItIs_53 (by decide) ?_
    refine sg_puti hc hw ha_a hT_a fp_9_16 rfl rfl k_889 dX9_asItIs_54 (fun H locs hw => ?_)
    obtain ⟨h54, hw, hf⟩ := sg_name hw hf
    refine lv_aload_n hx hb dX9_asItIs_57 rfl (lv_at hl 0 rfl) ?_
    refine lv_iconst (v := (-1)) hx hb dX9_asItIs_58 (by decide) ?_
    refine sg_puti hc hw ha_a hT_a fp_9_17 rfl rfl k_890 dX9_asItIs_59 (fun H locs hw => ?_)
    obtain ⟨h59, hw, hf⟩ := sg_name hw hf
    cases hf
    exact sg_vret hc hw hz hn0 hr hlocks rfl dX9_asItIs_62
  have L28 : ∀ (k : Nat) (x : (Int32 × HP)), F_X9_asItIs_L28 a k x = some Rz → ∀ (H : Heap) (locs : List Loc) (ls : Array Slot), sg_Wo D b cA n s.heap x.2 H locs → lv_has ls 2 [(0, .ref (b + a)), (1, .int x.1)] → W p l e R s m args below meth c H locs 0 0 (sg_Qv below args s D b cA n (fun u => u = Rz)) (F0 m 28 ls []) := by
    unfold F_X9_asItIs_L28
    refine lp_walk ?_
    intro rc28 hrc28 x hf H locs ls hw hl
    obtain ⟨x1, h⟩ := x
    dsimp only at hf hw hl
    refine lv_iload_n hx hb dX9_asItIs_28 rfl (lv_at hl 1 rfl) ?_
    refine lv_bipush (v := 31) hx hb dX9_asItIs_29 (by decide) ?_
    refine lv_icmp_ge (tgt := 52) hx hb dX9_asItIs_31 (by decide) (fun c31 => ?_) (fun c31 => ?_)
    · have hf := if_of c31 hf
      exact J52 _ _ _ _ hf hw (lv_sub hl [0] rfl)
    · have hf := if_no c31 hf
      refine lv_aload_n hx hb dX9_asItIs_34 rfl (lv_at hl 0 rfl) ?_
      obtain ⟨hF35, hT35, ha35, hN35⟩ := ft_9_15 hn ha_a hT_a
      refine sg_getf (q := (a + 11)) hc hw ha_a hT_a fr_9_15 (by decide) k_888 dX9_asItIs_35 hF35 ?_
      refine lv_iload_n hx hb dX9_asItIs_38 rfl (lv_at hl 1 rfl) ?_
      refine lv_aload_n hx hb dX9_asItIs_39 rfl (lv_at hl 0 rfl) ?_
      obtain ⟨hF40, hT40, ha40, hN40⟩ := ft_9_2 hn ha_a hT_a
      refine sg_getf (q := (a + 3)) hc hw ha_a hT_a fr_9_2 (by decide) k_875 dX9_asItIs_40 hF40 ?_
      refine lv_iload_n hx hb dX9_asItIs_43 rfl (lv_at hl 1 rfl) ?_
      obtain ⟨hg44, hf⟩ := gd_of hf
      refine sg_ild hc hw ha40 hT40 hN40 hg44 dX9_asItIs_44 ?_
      obtain ⟨hg45, hf⟩ := gd_of hf
      refine sg_ist hc hw ha35 hT35 hN35 hg45 dX9_asItIs_45 (fun H locs hw => ?_)
      obtain ⟨h45, hw, hf⟩ := sg_name hw hf
      refine lv_iinc (v := (x1 + 1)) (lv' := [(1, .int (x1 + 1)), (0, .ref (b + a))]) hx hb dX9_asItIs_46 hl (k := 1) rfl rfl (by decide) rfl (fun ls hl => ?_)
      refine lv_goto (tgt := 28) hx hb dX9_asItIs_49 (by decide) ?_
      exact hrc28 _ hf _ _ _ hw (lv_sub hl [1, 0] rfl)
  have J26 : ∀ (h : HP) (H : Heap) (locs : List Loc) (ls : Array Slot), F_X9_asItIs_J26 a h = some Rz → sg_Wo D b cA n s.heap h H locs → lv_has ls 2 [(0, .ref (b + a))] → W p l e R s m args below meth c H locs 0 0 (sg_Qv below args s D b cA n (fun u => u = Rz)) (F0 m 26 ls []) := by
    intro h H locs ls hf hw hl
    unfold F_X9_asItIs_J26 at hf
    refine lv_iconst (v := 0) hx hb dX9_asItIs_26 (by decide) ?_
    refine lv_istore_n (lv' := [(1, .int 0), (0, .ref (b + a))]) hx hb dX9_asItIs_27 rfl hl (by decide) rfl (fun ls hl => ?_)
    exact L28 _ _ hf _ _ _ hw (lv_sub hl [1, 0] rfl)
  have L2 : ∀ (k : Nat) (x : (Int32 × HP)), F_X9_asItIs_L2 a k x = some Rz → ∀ (H : Heap) (locs : List Loc) (ls : Array Slot), sg_Wo D b cA n s.heap x.2 H locs → lv_has ls 2 [(0, .ref (b + a)), (1, .int x.1)] → W p l e R s m args below meth c H locs 0 0 (sg_Qv below args s D b cA n (fun u => u = Rz)) (F0 m 2 ls []) := by
    unfold F_X9_asItIs_L2
    refine lp_walk ?_
    intro rc2 hrc2 x hf H locs ls hw hl
    obtain ⟨x1, h⟩ := x
    dsimp only at hf hw hl
    refine lv_iload_n hx hb dX9_asItIs_2 rfl (lv_at hl 1 rfl) ?_
    refine lv_bipush (v := 34) hx hb dX9_asItIs_3 (by decide) ?_
    refine lv_icmp_ge (tgt := 26) hx hb dX9_asItIs_5 (by decide) (fun c5 => ?_) (fun c5 => ?_)
    · have hf := if_of c5 hf
      exact J26 _ _ _ _ hf hw (lv_sub hl [0] rfl)
    · have hf := if_no c5 hf
      refine lv_aload_n hx hb dX9_asItIs_8 rfl (lv_at hl 0 rfl) ?_
      obtain ⟨hF9, hT9, ha9, hN9⟩ := ft_9_14 hn ha_a hT_a
      refine sg_getf (q := (a + 10)) hc hw ha_a hT_a fr_9_14 (by decide) k_887 dX9_asItIs_9 hF9 ?_
      refine lv_iload_n hx hb dX9_asItIs_12 rfl (lv_at hl 1 rfl) ?_
      refine lv_aload_n hx hb dX9_asItIs_13 rfl (lv_at hl 0 rfl) ?_
      obtain ⟨hF14, hT14, ha14, hN14⟩ := ft_9_0 hn ha_a hT_a
      refine sg_getf (q := (a + 1)) hc hw ha_a hT_a fr_9_0 (by decide) k_873 dX9_asItIs_14 hF14 ?_
      refine lv_iload_n hx hb dX9_asItIs_17 rfl (lv_at hl 1 rfl) ?_
      obtain ⟨hg18, hf⟩ := gd_of hf
      refine sg_ild hc hw ha14 hT14 hN14 hg18 dX9_asItIs_18 ?_
      obtain ⟨hg19, hf⟩ := gd_of hf
      refine sg_ist hc hw ha9 hT9 hN9 hg19 dX9_asItIs_19 (fun H locs hw => ?_)
      obtain ⟨h19, hw, hf⟩ := sg_name hw hf
      refine lv_iinc (v := (x1 + 1)) (lv' := [(1, .int (x1 + 1)), (0, .ref (b + a))]) hx hb dX9_asItIs_20 hl (k := 1) rfl rfl (by decide) rfl (fun ls hl => ?_)
      refine lv_goto (tgt := 2) hx hb dX9_asItIs_23 (by decide) ?_
      exact hrc2 _ hf _ _ _ hw (lv_sub hl [1, 0] rfl)
  unfold F_X9_asItIs at hf
  refine lv_iconst (v := 0) hx hb dX9_asItIs_0 (by decide) ?_
  refine lv_istore_n (lv' := [(1, .int 0), (0, .ref (b + a))]) hx hb dX9_asItIs_1 rfl hl (by decide) rfl (fun ls hl => ?_)
  exact L2 _ _ hf _ _ _ hw (lv_sub hl [1, 0] rfl)
theorem c_X9_asItIs {l : Launch} {D : va_G} {cA : Nat → ClassId} {b n : Nat} (hn : sg_okN n) {a : Nat} (ha_a : a < n) (hT_a : sg_T a = 9) {h : HP} {Rz : HP} (hf : F_X9_asItIs a h = some Rz) : Met l yX9_asItIs (Cond.code yX9_asItIs cX9_asItIs 2 none :: sg_tbl) ({ frames := 0, cells := 0, slots := 0, locals := 0 } : Room) (va_Pc [.ref (b + a)] (sg_Wd D b cA n h)) (va_Qv (fun u => u = Rz) (sg_Wd D b cA n) (sg_A b)) 0 0 (sg_A b) := by
  refine Met.ofW (cc := cX9_asItIs) (maxL := 2) (ret := none) (by decide) rfl ?_
  intro p e s m args below meth c s₁ B hml hv
  obtain ⟨rfl, hP, hK, hz, hY, hN⟩ := hv
  have hl := lv_entry [.ref (b + a)] (n := 2) (Nat.le_of_ble_eq_true rfl)
  rw [lg_entry_eq]
  exact w_X9_asItIs hn ⟨B.exec, B.bytes, findClass_of_methodNamed B.named, fun w h => atoms_spec (ws := Cond.code yX9_asItIs cX9_asItIs 2 none :: sg_tbl) B.pre w (List.mem_cons_of_mem _ h), hK, hN⟩ hz B.returns B.notSynchronized hml (Nat.le_refl _) (Nat.le_refl _) ha_a hT_a hf _ _ _ ⟨hP, hY, va_S.rf⟩ hl
set_option maxHeartbeats 4000000 in
set_option maxRecDepth 100000 in
theorem w_X9_tolds {p : Program} {l : Launch} {e : Env} {R : Room} {s : State} {m : MethodId} {args : Array Value} {below : List Frame} {meth : Method} {c : Code} {D : va_G} {cA : Nat → ClassId} {b n : Nat} (hn : sg_okN n) {a : Nat} {x1 : Int32} {h : HP} {Rz : Int32} (hc : sg_Cx p s m args c cX9_tolds RX9 D cA) (hz : s.heap.size = b + n) (hr : meth.sig.returnType = some .int) (hlocks : meth.locks = false) (hml : c.maxLocals = 4) (hRf : 1 ≤ R.frames) (hRl : 25 ≤ R.locals) (ha_a : a < n) (hT_a : sg_T a = 9) (hf : F_X9_tolds a x1 h = some Rz) (H : Heap) (locs : List Loc) (ls : Array Slot) (hw : sg_Wo D b cA n s.heap h H locs) (hl : lv_has ls 4 [(0, .ref (b + a)), (1, .int x1)]) : W p l e R s m args below meth c H locs 0 0 (sg_Qi below args s D b cA n (fun r u => r = Rz ∧ u = h)) (F0 m 0 ls []) := by
  have hx := hc.1
  have hb := hc.2.1
  have hn0 : 0 < n := sg_pos hn
  have L4 : ∀ (k : Nat) (x : (Int32 × Int32)), F_X9_tolds_L4 a x1 h k x = some Rz → ∀ (H : Heap) (locs : List Loc) (ls : Array Slot), sg_Wo D b cA n s.heap h H locs → lv_has ls 4 [(0, .ref (b + a)), (1, .int x1), (2, .int x.1), (3, .int x.2)] → W p l e R s m args below meth c H locs 0 0 (sg_Qi below args s D b cA n (fun r u => r = Rz ∧ u = h)) (F0 m 4 ls []) := by
    unfold F_X9_tolds_L4
    refine lp_walk ?_
    intro rc4 hrc4 x hf H locs ls hw hl
    obtain ⟨x2, x3⟩ := x
    dsimp only at hf hw hl
    have J57 : ∀ (x3 : Int32) (s0 : Int32) (s1 : Int32) (H : Heap) (locs : List Loc) (ls : Array Slot), F_X9_tolds_J57 a rc4 x1 x3 s0 s1 h = some Rz → sg_Wo D b cA n s.heap h H locs → lv_has ls 4 [(0, .ref (b + a)), (1, .int x1), (3, .int x3)] → W p l e R s m args below meth c H locs 0 0 (sg_Qi below args s D b cA n (fun r u => r = Rz ∧ u = h)) (F0 m 57 ls [.int s0, .int s1]) := by
      intro x3 s0 s1 H locs ls hf hw hl
      unfold F_X9_tolds_J57 at hf
      refine lv_ior hx hb dX9_tolds_57 ?_
      refine lv_topi (fun v58 e58 => ?_)
      have hf := nm_of e58 hf
      refine lv_istore_n (lv' := [(2, .int v58), (0, .ref (b + a)), (1, .int x1), (3, .int x3)]) hx hb dX9_tolds_58 rfl hl (by decide) rfl (fun ls hl => ?_)
      refine lv_iinc (v := (x3 + 1)) (lv' := [(3, .int (x3 + 1)), (2, .int v58), (0, .ref (b + a)), (1, .int x1)]) hx hb dX9_tolds_59 hl (k := 3) rfl rfl (by decide) rfl (fun ls hl => ?_)
      refine lv_goto (tgt := 4) hx hb dX9_tolds_62 (by decide) ?_
      exact hrc4 _ hf _ _ _ hw (lv_sub hl [2, 3, 1, 0] rfl)
    refine lv_iload_n hx hb dX9_tolds_4 rfl (lv_at hl 3 rfl) ?_
    refine lv_aload_n hx hb dX9_tolds_5 rfl (lv_at hl 0 rfl) ?_
    obtain ⟨hF6, hT6, ha6, hN6⟩ := ft_9_15 hn ha_a hT_a
    refine sg_getf (q := (a + 11)) hc hw ha_a hT_a fr_9_15 (by decide) k_888 dX9_tolds_6 hF6 ?_
    refine lv_iconst (v := 0) hx hb dX9_tolds_9 (by decide) ?_
    refine sg_ild hc hw ha6 hT6 hN6 (show vp_in 0 31 by unfold vp_in; decide) dX9_tolds_10 ?_
    refine lv_icmp_ge (tgt := 65) hx hb dX9_tolds_11 (by decide) (fun c11 => ?_) (fun c11 => ?_)
    · have hf := if_of c11 hf
      refine lv_iload_n hx hb dX9_tolds_65 rfl (lv_at hl 2 rfl) ?_
      cases hf
      exact sg_iret hc hw hz hn0 hr hlocks ⟨rfl, rfl⟩ dX9_tolds_66
    · have hf := if_no c11 hf
      refine lv_iload_n hx hb dX9_tolds_14 rfl (lv_at hl 2 rfl) ?_
      refine lv_iload_n hx hb dX9_tolds_15 rfl (lv_at hl 1 rfl) ?_
      refine lv_i2l hx hb dX9_tolds_16 rfl ?_
      refine lv_aload_n hx hb dX9_tolds_17 rfl (lv_at hl 0 rfl) ?_
      refine sg_getf (q := (a + 11)) hc hw ha_a hT_a fr_9_15 (by decide) k_888 dX9_tolds_18 (ft_9_15 hn ha_a hT_a).1 ?_
      refine lv_bipush (v := 11) hx hb dX9_tolds_21 (by decide) ?_
      refine lv_iload_n hx hb dX9_tolds_23 rfl (lv_at hl 3 rfl) ?_
      refine lv_iadd hx hb dX9_tolds_24 ?_
      obtain ⟨hg25, hf⟩ := gd_of hf
      refine sg_ild hc hw ha6 hT6 hN6 hg25 dX9_tolds_25 ?_
      refine lv_i2l hx hb dX9_tolds_26 rfl ?_
      refine lv_aload_n hx hb dX9_tolds_27 rfl (lv_at hl 0 rfl) ?_
      refine sg_getf (q := (a + 11)) hc hw ha_a hT_a fr_9_15 (by decide) k_888 dX9_tolds_28 (ft_9_15 hn ha_a hT_a).1 ?_
      refine lv_bipush (v := 21) hx hb dX9_tolds_31 (by decide) ?_
      refine lv_iload_n hx hb dX9_tolds_33 rfl (lv_at hl 3 rfl) ?_
      refine lv_iadd hx hb dX9_tolds_34 ?_
      obtain ⟨hg35, hf⟩ := gd_of hf
      refine sg_ild hc hw ha6 hT6 hN6 hg35 dX9_tolds_35 ?_
      refine lv_i2l hx hb dX9_tolds_36 rfl ?_
      obtain ⟨p37, hp37, hf⟩ := cl_of hf
      refine sg_si (rest := [.int x2]) (c_X9_in hn (h := h) hp37) hc hw hz hn0 hml hl cs_X9_87 ⟨⟨rfl, rfl⟩, Nat.le_trans (Nat.le_of_ble_eq_true rfl) hRf, Nat.le_trans (Nat.le_of_ble_eq_true rfl) hRl⟩ ⟨Nat.zero_le _, Nat.zero_le _⟩ rfl rfl (Nat.le_of_ble_eq_true rfl) dX9_tolds_37 (fun r h1 H locs hp hw => ?_)
      obtain ⟨⟨e1, e2⟩, hb37⟩ := hp; subst r; subst h1
      refine lv_if_eq (tgt := 56) hx hb dX9_tolds_40 (by decide) (fun c40 => ?_) (fun c40 => ?_)
      · have hf := if_of c40 hf
        refine lv_iconst (v := 0) hx hb dX9_tolds_56 (by decide) ?_
        exact J57 x3 0 x2 _ _ _ hf hw (lv_sub hl [0, 1, 3] rfl)
      · have hf := if_no c40 hf
        refine lv_iconst (v := 1) hx hb dX9_tolds_43 (by decide) ?_
        refine lv_aload_n hx hb dX9_tolds_44 rfl (lv_at hl 0 rfl) ?_
        refine sg_getf (q := (a + 11)) hc hw ha_a hT_a fr_9_15 (by decide) k_888 dX9_tolds_45 (ft_9_15 hn ha_a hT_a).1 ?_
        refine lv_iconst (v := 1) hx hb dX9_tolds_48 (by decide) ?_
        refine lv_iload_n hx hb dX9_tolds_49 rfl (lv_at hl 3 rfl) ?_
        refine lv_iadd hx hb dX9_tolds_50 ?_
        obtain ⟨hg51, hf⟩ := gd_of hf
        refine sg_ild hc hw ha6 hT6 hN6 hg51 dX9_tolds_51 ?_
        refine lv_ishl hx hb dX9_tolds_52 ?_
        refine lv_goto (tgt := 57) hx hb dX9_tolds_53 (by decide) ?_
        exact J57 x3 (1 <<< ((ld h (a + 11) (1 + x3)) &&& 31)) x2 _ _ _ hf hw (lv_sub hl [0, 1, 3] rfl)
  unfold F_X9_tolds at hf
  refine lv_iconst (v := 0) hx hb dX9_tolds_0 (by decide) ?_
  refine lv_istore_n (lv' := [(2, .int 0), (0, .ref (b + a)), (1, .int x1)]) hx hb dX9_tolds_1 rfl hl (by decide) rfl (fun ls hl => ?_)
  refine lv_iconst (v := 0) hx hb dX9_tolds_2 (by decide) ?_
  refine lv_istore_n (lv' := [(3, .int 0), (2, .int 0), (0, .ref (b + a)), (1, .int x1)]) hx hb dX9_tolds_3 rfl hl (by decide) rfl (fun ls hl => ?_)
  exact L4 _ _ hf _ _ _ hw (lv_sub hl [2, 3, 1, 0] rfl)
theorem c_X9_tolds {l : Launch} {D : va_G} {cA : Nat → ClassId} {b n : Nat} (hn : sg_okN n) {a : Nat} {x1 : Int32} (ha_a : a < n) (hT_a : sg_T a = 9) {h : HP} {Rz : Int32} (hf : F_X9_tolds a x1 h = some Rz) : Met l yX9_tolds (Cond.code yX9_tolds cX9_tolds 4 (some .int) :: sg_tbl) ({ frames := 1, cells := 0, slots := 0, locals := 25 } : Room) (va_Pc [.ref (b + a), .int x1] (sg_Wd D b cA n h)) (va_Qi (fun r u => r = Rz ∧ u = h) (sg_Wd D b cA n) (sg_A b)) 0 0 (sg_A b) := by
  refine Met.ofW (cc := cX9_tolds) (maxL := 4) (ret := (some .int)) (by decide) rfl ?_
  intro p e s m args below meth c s₁ B hml hv
  obtain ⟨rfl, hP, hK, hz, hY, hN⟩ := hv
  have hl := lv_entry [.ref (b + a), .int x1] (n := 4) (Nat.le_of_ble_eq_true rfl)
  rw [lg_entry_eq]
  exact w_X9_tolds hn ⟨B.exec, B.bytes, findClass_of_methodNamed B.named, fun w h => atoms_spec (ws := Cond.code yX9_tolds cX9_tolds 4 (some .int) :: sg_tbl) B.pre w (List.mem_cons_of_mem _ h), hK, hN⟩ hz B.returns B.notSynchronized hml (Nat.le_refl _) (Nat.le_refl _) ha_a hT_a hf _ _ _ ⟨hP, hY, va_S.rf⟩ hl
set_option maxHeartbeats 4000000 in
set_option maxRecDepth 100000 in
theorem w_X9_rainAt {p : Program} {l : Launch} {e : Env} {R : Room} {s : State} {m : MethodId} {args : Array Value} {below : List Frame} {meth : Method} {c : Code} {D : va_G} {cA : Nat → ClassId} {b n : Nat} (hn : sg_okN n) {a : Nat} {x1 : Int32} {h : HP} {Rz : Int32} (hc : sg_Cx p s m args c cX9_rainAt RX9 D cA) (hz : s.heap.size = b + n) (hr : meth.sig.returnType = some .int) (hlocks : meth.locks = false) (hml : c.maxLocals = 4) (hRf : 0 ≤ R.frames) (hRl : 0 ≤ R.locals) (ha_a : a < n) (hT_a : sg_T a = 9) (hf : F_X9_rainAt a x1 h = some Rz) (H : Heap) (locs : List Loc) (ls : Array Slot) (hw : sg_Wo D b cA n s.heap h H locs) (hl : lv_has ls 4 [(0, .ref (b + a)), (1, .int x1)]) : W p l e R s m args below meth c H locs 0 0 (sg_Qi below args s D b cA n (fun r u => r = Rz ∧ u = h)) (F0 m 0 ls []) := by
  have hx := hc.1
  have hb := hc.2.1
  have hn0 : 0 < n := sg_pos hn
  unfold F_X9_rainAt at hf
  refine lv_aload_n hx hb dX9_rainAt_0 rfl (lv_at hl 0 rfl) ?_
  refine sg_geti hc hw ha_a hT_a fi_9_17 k_890 dX9_rainAt_1 ?_
  refine lv_if_ge (tgt := 14) hx hb dX9_rainAt_4 (by decide) (fun c4 => ?_) (fun c4 => ?_)
  · have hf := if_of c4 hf
    refine lv_ldc2 hx hb hc.2.2.1 (hc.2.2.2.1 _ k_1050) dX9_rainAt_14 ?_
    refine lv_aload_n hx hb dX9_rainAt_17 rfl (lv_at hl 0 rfl) ?_
    refine sg_geti hc hw ha_a hT_a fi_9_17 k_890 dX9_rainAt_18 ?_
    refine lv_i2l hx hb dX9_rainAt_21 rfl ?_
    refine lv_lmul hx hb dX9_rainAt_22 ?_
    refine lv_ldc2 hx hb hc.2.2.1 (hc.2.2.2.1 _ k_1051) dX9_rainAt_23 ?_
    refine lv_iload_n hx hb dX9_rainAt_26 rfl (lv_at hl 1 rfl) ?_
    refine lv_i2l hx hb dX9_rainAt_27 rfl ?_
    refine lv_lmul hx hb dX9_rainAt_28 ?_
    refine lv_ladd hx hb dX9_rainAt_29 ?_
    refine lv_lconst (v := 1) hx hb dX9_rainAt_30 (by decide) ?_
    refine lv_ladd hx hb dX9_rainAt_31 ?_
    refine lv_topl (fun v32 e32 => ?_)
    have hf := nm_of e32 hf
    refine lv_lstore_n (lv' := [(2, .long v32), (0, .ref (b + a)), (1, .int x1)]) hx hb dX9_rainAt_32 rfl hl (by decide) rfl (fun ls hl => ?_)
    refine lv_aload_n hx hb dX9_rainAt_33 rfl (lv_at hl 1 rfl) ?_
    obtain ⟨hF34, hT34, ha34, hN34⟩ := ft_9_14 hn ha_a hT_a
    refine sg_getf (q := (a + 10)) hc hw ha_a hT_a fr_9_14 (by decide) k_887 dX9_rainAt_34 hF34 ?_
    refine lv_iconst (v := 3) hx hb dX9_rainAt_37 (by decide) ?_
    refine sg_ild hc hw ha34 hT34 hN34 (show vp_in 3 34 by unfold vp_in; decide) dX9_rainAt_38 ?_
    refine lv_lload_n hx hb dX9_rainAt_39 rfl (lv_at hl 0 rfl) ?_
    refine lv_lload_n hx hb dX9_rainAt_40 rfl (lv_at hl 0 rfl) ?_
    refine lv_lmul hx hb dX9_rainAt_41 ?_
    refine lv_ldc2 hx hb hc.2.2.1 (hc.2.2.2.1 _ k_1052) dX9_rainAt_42 ?_
    refine lv_lrem hx hb dX9_rainAt_45 (by decide) ?_
    refine lv_ldc2 hx hb hc.2.2.1 (hc.2.2.2.1 _ k_1053) dX9_rainAt_46 ?_
    refine lv_lrem hx hb dX9_rainAt_49 (by decide) ?_
    refine lv_l2i hx hb dX9_rainAt_50 rfl ?_
    refine lv_iadd hx hb dX9_rainAt_51 ?_
    cases hf
    exact sg_iret hc hw hz hn0 hr hlocks ⟨rfl, rfl⟩ dX9_rainAt_52
  · have hf := if_no c4 hf
    refine lv_aload_n hx hb dX9_rainAt_7 rfl (lv_at hl 0 rfl) ?_
    obtain ⟨hF8, hT8, ha8, hN8⟩ := ft_9_14 hn ha_a hT_a
    refine sg_getf (q := (a + 10)) hc hw ha_a hT_a fr_9_14 (by decide) k_887 dX9_rainAt_8 hF8 ?_
    refine lv_iconst (v := 3) hx hb dX9_rainAt_11 (by decide) ?_
    refine sg_ild hc hw ha8 hT8 hN8 (show vp_in 3 34 by unfold vp_in; decide) dX9_rainAt_12 ?_
    cases hf
    exact sg_iret hc hw hz hn0 hr hlocks ⟨rfl, rfl⟩ dX9_rainAt_13
theorem c_X9_rainAt {l : Launch} {D : va_G} {cA : Nat → ClassId} {b n : Nat} (hn : sg_okN n) {a : Nat} {x1 : Int32} (ha_a : a < n) (hT_a : sg_T a = 9) {h : HP} {Rz : Int32} (hf : F_X9_rainAt a x1 h = some Rz) : Met l yX9_rainAt (Cond.code yX9_rainAt cX9_rainAt 4 (some .int) :: sg_tbl) ({ frames := 0, cells := 0, slots := 0, locals := 0 } : Room) (va_Pc [.ref (b + a), .int x1] (sg_Wd D b cA n h)) (va_Qi (fun r u => r = Rz ∧ u = h) (sg_Wd D b cA n) (sg_A b)) 0 0 (sg_A b) := by
  refine Met.ofW (cc := cX9_rainAt) (maxL := 4) (ret := (some .int)) (by decide) rfl ?_
  intro p e s m args below meth c s₁ B hml hv
  obtain ⟨rfl, hP, hK, hz, hY, hN⟩ := hv
  have hl := lv_entry [.ref (b + a), .int x1] (n := 4) (Nat.le_of_ble_eq_true rfl)
  rw [lg_entry_eq]
  exact w_X9_rainAt hn ⟨B.exec, B.bytes, findClass_of_methodNamed B.named, fun w h => atoms_spec (ws := Cond.code yX9_rainAt cX9_rainAt 4 (some .int) :: sg_tbl) B.pre w (List.mem_cons_of_mem _ h), hK, hN⟩ hz B.returns B.notSynchronized hml (Nat.le_refl _) (Nat.le_refl _) ha_a hT_a hf _ _ _ ⟨hP, hY, va_S.rf⟩ hl
set_option maxHeartbeats 4000000 in
set_option maxRecDepth 100000 in
theorem w_X9_isTwin {p : Program} {l : Launch} {e : Env} {R : Room} {s : State} {m : MethodId} {args : Array Value} {below : List Frame} {meth : Method} {c : Code} {D : va_G} {cA : Nat → ClassId} {b n : Nat} (hn : sg_okN n) {q0 : Nat} {x1 : Int32} {x2 : Int32} {h : HP} {Rz : Int32} (hc : sg_Cx p s m args c cX9_isTwin RX9 D cA) (hz : s.heap.size = b + n) (hr : meth.sig.returnType = some .boolean) (hlocks : meth.locks = false) (hml : c.maxLocals = 5) (hRf : 1 ≤ R.frames) (hRl : 21 ≤ R.locals) (ha_q0 : q0 < n) (hT_q0 : sg_T q0 = 11) (hf : F_X9_isTwin q0 x1 x2 h = some Rz) (H : Heap) (locs : List Loc) (ls : Array Slot) (hw : sg_Wo D b cA n s.heap h H locs) (hl : lv_has ls 5 [(0, .ref (b + q0)), (1, .int x1), (2, .int x2)]) : W p l e R s m args below meth c H locs 0 0 (sg_Qi below args s D b cA n (fun r u => (r = Rz ∧ u = h) ∧ narrow .boolean (.int r) = .int r)) (F0 m 0 ls []) := by
  have hx := hc.1
  have hb := hc.2.1
  have hn0 : 0 < n := sg_pos hn
  have L5 : ∀ (k : Nat) (x : (Int32 × Int32)), F_X9_isTwin_L5 q0 x1 x2 h k x = some Rz → ∀ (H : Heap) (locs : List Loc) (ls : Array Slot), sg_Wo D b cA n s.heap h H locs → lv_has ls 5 [(0, .ref (b + q0)), (1, .int x1), (2, .int x2), (3, .int x.1), (4, .int x.2)] → W p l e R s m args below meth c H locs 0 0 (sg_Qi below args s D b cA n (fun r u => (r = Rz ∧ u = h) ∧ narrow .boolean (.int r) = .int r)) (F0 m 5 ls []) := by
    unfold F_X9_isTwin_L5
    refine lp_walk ?_
    intro rc5 hrc5 x hf H locs ls hw hl
    obtain ⟨x3, x4⟩ := x
    dsimp only at hf hw hl
    have J48 : ∀ (x4 : Int32) (s0 : Int32) (H : Heap) (locs : List Loc) (ls : Array Slot), F_X9_isTwin_J48 q0 rc5 x1 x2 x4 s0 h = some Rz → sg_Wo D b cA n s.heap h H locs → lv_has ls 5 [(0, .ref (b + q0)), (1, .int x1), (2, .int x2), (4, .int x4)] → W p l e R s m args below meth c H locs 0 0 (sg_Qi below args s D b cA n (fun r u => (r = Rz ∧ u = h) ∧ narrow .boolean (.int r) = .int r)) (F0 m 48 ls [.int s0]) := by
      intro x4 s0 H locs ls hf hw hl
      unfold F_X9_isTwin_J48 at hf
      refine lv_istore_n (lv' := [(3, .int s0), (0, .ref (b + q0)), (1, .int x1), (2, .int x2), (4, .int x4)]) hx hb dX9_isTwin_48 rfl hl (by decide) rfl (fun ls hl => ?_)
      refine lv_iinc (v := (x4 + 1)) (lv' := [(4, .int (x4 + 1)), (3, .int s0), (0, .ref (b + q0)), (1, .int x1), (2, .int x2)]) hx hb dX9_isTwin_49 hl (k := 4) rfl rfl (by decide) rfl (fun ls hl => ?_)
      refine lv_goto (tgt := 5) hx hb dX9_isTwin_52 (by decide) ?_
      exact hrc5 _ hf _ _ _ hw (lv_sub hl [2, 3, 4, 1, 0] rfl)
    have J43 : ∀ (x4 : Int32) (H : Heap) (locs : List Loc) (ls : Array Slot), F_X9_isTwin_J43 q0 rc5 x1 x2 x4 h = some Rz → sg_Wo D b cA n s.heap h H locs → lv_has ls 5 [(0, .ref (b + q0)), (1, .int x1), (2, .int x2), (4, .int x4)] → W p l e R s m args below meth c H locs 0 0 (sg_Qi below args s D b cA n (fun r u => (r = Rz ∧ u = h) ∧ narrow .boolean (.int r) = .int r)) (F0 m 43 ls []) := by
      intro x4 H locs ls hf hw hl
      unfold F_X9_isTwin_J43 at hf
      refine lv_iconst (v := 1) hx hb dX9_isTwin_43 (by decide) ?_
      refine lv_goto (tgt := 48) hx hb dX9_isTwin_44 (by decide) ?_
      exact J48 x4 1 _ _ _ hf hw (lv_sub hl [0, 1, 2, 3] rfl)
    have J47 : ∀ (x4 : Int32) (H : Heap) (locs : List Loc) (ls : Array Slot), F_X9_isTwin_J47 q0 rc5 x1 x2 x4 h = some Rz → sg_Wo D b cA n s.heap h H locs → lv_has ls 5 [(0, .ref (b + q0)), (1, .int x1), (2, .int x2), (4, .int x4)] → W p l e R s m args below meth c H locs 0 0 (sg_Qi below args s D b cA n (fun r u => (r = Rz ∧ u = h) ∧ narrow .boolean (.int r) = .int r)) (F0 m 47 ls []) := by
      intro x4 H locs ls hf hw hl
      unfold F_X9_isTwin_J47 at hf
      refine lv_iconst (v := 0) hx hb dX9_isTwin_47 (by decide) ?_
      exact J48 x4 0 _ _ _ hf hw (lv_sub hl [0, 1, 2, 3] rfl)
    refine lv_iload hx hb dX9_isTwin_5 (lv_at hl 4 rfl) ?_
    refine lv_aload_n hx hb dX9_isTwin_7 rfl (lv_at hl 0 rfl) ?_
    refine lv_iconst (v := 1) hx hb dX9_isTwin_8 (by decide) ?_
    obtain ⟨hg9, hf⟩ := gd_of hf
    refine sg_ild hc hw ha_q0 hT_q0 rfl hg9 dX9_isTwin_9 ?_
    refine lv_icmp_ge (tgt := 55) hx hb dX9_isTwin_10 (by decide) (fun c10 => ?_) (fun c10 => ?_)
    · have hf := if_of c10 hf
      refine lv_iload_n hx hb dX9_isTwin_55 rfl (lv_at hl 3 rfl) ?_
      obtain ⟨hg56, hf⟩ := gb_of hf
      cases hf
      exact sg_zret hc hw hz hn0 hr hlocks hg56 ⟨⟨rfl, rfl⟩, hg56⟩ dX9_isTwin_56
    · have hf := if_no c10 hf
      refine lv_iload_n hx hb dX9_isTwin_13 rfl (lv_at hl 3 rfl) ?_
      refine lv_if_ne (tgt := 43) hx hb dX9_isTwin_14 (by decide) (fun c14 => ?_) (fun c14 => ?_)
      · have hf := if_no c14 hf
        exact J43 x4 _ _ _ hf hw (lv_sub hl [0, 1, 2, 4] rfl)
      · have hf := if_of c14 hf
        refine lv_iload hx hb dX9_isTwin_17 (lv_at hl 4 rfl) ?_
        refine lv_iload_n hx hb dX9_isTwin_19 rfl (lv_at hl 2 rfl) ?_
        refine lv_icmp_eq (tgt := 47) hx hb dX9_isTwin_20 (by decide) (fun c20 => ?_) (fun c20 => ?_)
        · have hf := if_of c20 hf
          exact J47 x4 _ _ _ hf hw (lv_sub hl [0, 1, 2, 4] rfl)
        · have hf := if_no c20 hf
          refine lv_iload_n hx hb dX9_isTwin_23 rfl (lv_at hl 1 rfl) ?_
          refine lv_iload hx hb dX9_isTwin_24 (lv_at hl 4 rfl) ?_
          obtain ⟨p26, hp26, hf⟩ := cl_of hf
          refine sg_si (rest := []) (c_X9_has hn (h := h) hp26) hc hw hz hn0 hml hl cs_X9_166 ⟨⟨rfl, rfl⟩, Nat.le_trans (Nat.le_of_ble_eq_true rfl) hRf, Nat.le_trans (Nat.le_of_ble_eq_true rfl) hRl⟩ ⟨Nat.zero_le _, Nat.zero_le _⟩ rfl rfl (Nat.le_of_ble_eq_true rfl) dX9_isTwin_26 (fun r h1 H locs hp hw => ?_)
          obtain ⟨⟨e1, e2⟩, hb26⟩ := hp; subst r; subst h1
          refine lv_if_eq (tgt := 47) hx hb dX9_isTwin_29 (by decide) (fun c29 => ?_) (fun c29 => ?_)
          · have hf := if_of c29 hf
            exact J47 x4 _ _ _ hf hw (lv_sub hl [0, 1, 2, 4] rfl)
          · have hf := if_no c29 hf
            refine lv_aload_n hx hb dX9_isTwin_32 rfl (lv_at hl 0 rfl) ?_
            refine lv_bipush (v := 28) hx hb dX9_isTwin_33 (by decide) ?_
            refine lv_iload hx hb dX9_isTwin_35 (lv_at hl 4 rfl) ?_
            refine lv_iadd hx hb dX9_isTwin_37 ?_
            obtain ⟨hg38, hf⟩ := gd_of hf
            refine sg_ild hc hw ha_q0 hT_q0 rfl hg38 dX9_isTwin_38 ?_
            refine lv_iconst (v := 3) hx hb dX9_isTwin_39 (by decide) ?_
            refine lv_icmp_ne (tgt := 47) hx hb dX9_isTwin_40 (by decide) (fun c40 => ?_) (fun c40 => ?_)
            · have hf := if_no c40 hf
              exact J47 x4 _ _ _ hf hw (lv_sub hl [0, 1, 2, 4] rfl)
            · have hf := if_of c40 hf
              exact J43 x4 _ _ _ hf hw (lv_sub hl [0, 1, 2, 4] rfl)
  unfold F_X9_isTwin at hf
  refine lv_iconst (v := 0) hx hb dX9_isTwin_0 (by decide) ?_
  refine lv_istore_n (lv' := [(3, .int 0), (0, .ref (b + q0)), (1, .int x1), (2, .int x2)]) hx hb dX9_isTwin_1 rfl hl (by decide) rfl (fun ls hl => ?_)
  refine lv_iconst (v := 0) hx hb dX9_isTwin_2 (by decide) ?_
  refine lv_istore (lv' := [(4, .int 0), (3, .int 0), (0, .ref (b + q0)), (1, .int x1), (2, .int x2)]) hx hb dX9_isTwin_3 hl (by decide) rfl (fun ls hl => ?_)
  exact L5 _ _ hf _ _ _ hw (lv_sub hl [2, 3, 4, 1, 0] rfl)
theorem c_X9_isTwin {l : Launch} {D : va_G} {cA : Nat → ClassId} {b n : Nat} (hn : sg_okN n) {q0 : Nat} {x1 : Int32} {x2 : Int32} (ha_q0 : q0 < n) (hT_q0 : sg_T q0 = 11) {h : HP} {Rz : Int32} (hf : F_X9_isTwin q0 x1 x2 h = some Rz) : Met l yX9_isTwin (Cond.code yX9_isTwin cX9_isTwin 5 (some .boolean) :: sg_tbl) ({ frames := 1, cells := 0, slots := 0, locals := 21 } : Room) (va_Pc [.ref (b + q0), .int x1, .int x2] (sg_Wd D b cA n h)) (va_Qi (fun r u => (r = Rz ∧ u = h) ∧ narrow .boolean (.int r) = .int r) (sg_Wd D b cA n) (sg_A b)) 0 0 (sg_A b) := by
  refine Met.ofW (cc := cX9_isTwin) (maxL := 5) (ret := (some .boolean)) (by decide) rfl ?_
  intro p e s m args below meth c s₁ B hml hv
  obtain ⟨rfl, hP, hK, hz, hY, hN⟩ := hv
  have hl := lv_entry [.ref (b + q0), .int x1, .int x2] (n := 5) (Nat.le_of_ble_eq_true rfl)
  rw [lg_entry_eq]
  exact w_X9_isTwin hn ⟨B.exec, B.bytes, findClass_of_methodNamed B.named, fun w h => atoms_spec (ws := Cond.code yX9_isTwin cX9_isTwin 5 (some .boolean) :: sg_tbl) B.pre w (List.mem_cons_of_mem _ h), hK, hN⟩ hz B.returns B.notSynchronized hml (Nat.le_refl _) (Nat.le_refl _) ha_q0 hT_q0 hf _ _ _ ⟨hP, hY, va_S.rf⟩ hl
set_option maxHeartbeats 4000000 in
set_option maxRecDepth 100000 in
theorem w_X9_cost {p : Program} {l : Launch} {e : Env} {R : Room} {s : State} {m : MethodId} {args : Array Value} {below : List Frame} {meth : Method} {c : Code} {D : va_G} {cA : Nat → ClassId} {b n : Nat} (hn : sg_okN n) {q0 : Nat} {x1 : Int32} {x2 : Int32} {x3 : Int32} {h : HP} {Rz : Int32} (hc : sg_Cx p s m args c cX9_cost RX9 D cA) (hz : s.heap.size = b + n) (hr : meth.sig.returnType = some .int) (hlocks : meth.locks = false) (hml : c.maxLocals = 6) (hRf : 2 ≤ R.frames) (hRl : 45 ≤ R.locals) (ha_q0 : q0 < n) (hT_q0 : sg_T q0 = 11) (hf : F_X9_cost q0 x1 x2 x3 h = some Rz) (H : Heap) (locs : List Loc) (ls : Array Slot) (hw : sg_Wo D b cA n s.heap h H locs) (hl : lv_has ls 6 [(0, .ref (b + q0)), (1, .int x1), (2, .int x2), (3, .int x3)]) : W p l e R s m args below meth c H locs 0 0 (sg_Qi below args s D b cA n (fun r u => r = Rz ∧ u = h)) (F0 m 0 ls []) := by
  have hx := hc.1
  have hb := hc.2.1
  have hn0 : 0 < n := sg_pos hn
  have J42 : ∀ (s0 : Int32) (H : Heap) (locs : List Loc) (ls : Array Slot), F_X9_cost_J42 q0 x2 s0 h = some Rz → sg_Wo D b cA n s.heap h H locs → lv_has ls 6 [(2, .int x2)] → W p l e R s m args below meth c H locs 0 0 (sg_Qi below args s D b cA n (fun r u => r = Rz ∧ u = h)) (F0 m 42 ls [.int s0]) := by
    intro s0 H locs ls hf hw hl
    unfold F_X9_cost_J42 at hf
    refine lv_istore (lv' := [(5, .int s0), (2, .int x2)]) hx hb dX9_cost_42 hl (by decide) rfl (fun ls hl => ?_)
    refine lv_iload hx hb dX9_cost_44 (lv_at hl 0 rfl) ?_
    refine lv_iload_n hx hb dX9_cost_46 rfl (lv_at hl 1 rfl) ?_
    obtain ⟨p47, hp47, hf⟩ := cl_of hf
    refine sg_si (rest := [.int s0]) (c_X9_bits hn (h := h) hp47) hc hw hz hn0 hml hl cs_X9_174 ⟨⟨rfl, rfl⟩, Nat.le_trans (Nat.le_of_ble_eq_true rfl) hRf, Nat.le_trans (Nat.le_of_ble_eq_true rfl) hRl⟩ ⟨Nat.zero_le _, Nat.zero_le _⟩ rfl rfl (Nat.le_of_ble_eq_true rfl) dX9_cost_47 (fun r h1 H locs hp hw => ?_)
    obtain ⟨e1, e2⟩ := hp; subst r; subst h1
    obtain ⟨hg50, hf⟩ := gz_of hf
    refine lv_idiv hx hb dX9_cost_50 hg50 ?_
    refine lv_topi (fun v51 e51 => ?_)
    have hf := nm_of e51 hf
    refine lv_istore (lv' := [(5, .int v51), (2, .int x2)]) hx hb dX9_cost_51 hl (by decide) rfl (fun ls hl => ?_)
    refine lv_iload hx hb dX9_cost_53 (lv_at hl 0 rfl) ?_
    refine lv_iconst (v := 1) hx hb dX9_cost_55 (by decide) ?_
    refine lv_icmp_ge (tgt := 63) hx hb dX9_cost_56 (by decide) (fun c56 => ?_) (fun c56 => ?_)
    · have hf := if_of c56 hf
      refine lv_iload hx hb dX9_cost_63 (lv_at hl 0 rfl) ?_
      cases hf
      exact sg_iret hc hw hz hn0 hr hlocks ⟨rfl, rfl⟩ dX9_cost_65
    · have hf := if_no c56 hf
      refine lv_iconst (v := 1) hx hb dX9_cost_59 (by decide) ?_
      refine lv_goto (tgt := 65) hx hb dX9_cost_60 (by decide) ?_
      cases hf
      exact sg_iret hc hw hz hn0 hr hlocks ⟨rfl, rfl⟩ dX9_cost_65
  have J41 : ∀ (H : Heap) (locs : List Loc) (ls : Array Slot), F_X9_cost_J41 q0 x2 x3 h = some Rz → sg_Wo D b cA n s.heap h H locs → lv_has ls 6 [(2, .int x2), (3, .int x3)] → W p l e R s m args below meth c H locs 0 0 (sg_Qi below args s D b cA n (fun r u => r = Rz ∧ u = h)) (F0 m 41 ls []) := by
    intro H locs ls hf hw hl
    unfold F_X9_cost_J41 at hf
    refine lv_iload_n hx hb dX9_cost_41 rfl (lv_at hl 1 rfl) ?_
    exact J42 x3 _ _ _ hf hw (lv_sub hl [0] rfl)
  unfold F_X9_cost at hf
  refine lv_aload_n hx hb dX9_cost_0 rfl (lv_at hl 0 rfl) ?_
  refine lv_bipush (v := 28) hx hb dX9_cost_1 (by decide) ?_
  refine lv_iload_n hx hb dX9_cost_3 rfl (lv_at hl 1 rfl) ?_
  refine lv_iadd hx hb dX9_cost_4 ?_
  obtain ⟨hg5, hf⟩ := gd_of hf
  refine sg_ild hc hw ha_q0 hT_q0 rfl hg5 dX9_cost_5 ?_
  refine lv_topi (fun v6 e6 => ?_)
  have hf := nm_of e6 hf
  refine lv_istore (lv' := [(4, .int v6), (0, .ref (b + q0)), (1, .int x1), (2, .int x2), (3, .int x3)]) hx hb dX9_cost_6 hl (by decide) rfl (fun ls hl => ?_)
  refine lv_iload hx hb dX9_cost_8 (lv_at hl 0 rfl) ?_
  refine lv_iconst (v := 1) hx hb dX9_cost_10 (by decide) ?_
  refine lv_icmp_ne (tgt := 20) hx hb dX9_cost_11 (by decide) (fun c11 => ?_) (fun c11 => ?_)
  · have hf := if_no c11 hf
    refine lv_iload hx hb dX9_cost_20 (lv_at hl 0 rfl) ?_
    refine lv_iconst (v := 3) hx hb dX9_cost_22 (by decide) ?_
    refine lv_icmp_ne (tgt := 41) hx hb dX9_cost_23 (by decide) (fun c23 => ?_) (fun c23 => ?_)
    · have hf := if_no c23 hf
      exact J41 _ _ _ hf hw (lv_sub hl [3, 4] rfl)
    · have hf := if_of c23 hf
      refine lv_aload_n hx hb dX9_cost_26 rfl (lv_at hl 1 rfl) ?_
      refine lv_iload_n hx hb dX9_cost_27 rfl (lv_at hl 3 rfl) ?_
      refine lv_iload_n hx hb dX9_cost_28 rfl (lv_at hl 2 rfl) ?_
      obtain ⟨p29, hp29, hf⟩ := cl_of hf
      refine sg_si (rest := []) (c_X9_isTwin hn ha_q0 hT_q0 hp29) hc hw hz hn0 hml hl cs_X9_170 ⟨⟨rfl, rfl⟩, Nat.le_trans (Nat.le_of_ble_eq_true rfl) hRf, Nat.le_trans (Nat.le_of_ble_eq_true rfl) hRl⟩ ⟨Nat.zero_le _, Nat.zero_le _⟩ rfl rfl (Nat.le_of_ble_eq_true rfl) dX9_cost_29 (fun r h1 H locs hp hw => ?_)
      obtain ⟨⟨e1, e2⟩, hb29⟩ := hp; subst r; subst h1
      refine lv_if_eq (tgt := 41) hx hb dX9_cost_32 (by decide) (fun c32 => ?_) (fun c32 => ?_)
      · have hf := if_of c32 hf
        exact J41 _ _ _ hf hw (lv_sub hl [3, 4] rfl)
      · have hf := if_no c32 hf
        refine lv_iload_n hx hb dX9_cost_35 rfl (lv_at hl 4 rfl) ?_
        refine lv_iconst (v := 1) hx hb dX9_cost_36 (by decide) ?_
        refine lv_isub hx hb dX9_cost_37 ?_
        refine lv_goto (tgt := 42) hx hb dX9_cost_38 (by decide) ?_
        exact J42 (x3 - 1) _ _ _ hf hw (lv_sub hl [3] rfl)
  · have hf := if_of c11 hf
    refine lv_iconst (v := 2) hx hb dX9_cost_14 (by decide) ?_
    refine lv_iload_n hx hb dX9_cost_15 rfl (lv_at hl 4 rfl) ?_
    refine lv_imul hx hb dX9_cost_16 ?_
    refine lv_goto (tgt := 42) hx hb dX9_cost_17 (by decide) ?_
    exact J42 (2 * x3) _ _ _ hf hw (lv_sub hl [3] rfl)
theorem c_X9_cost {l : Launch} {D : va_G} {cA : Nat → ClassId} {b n : Nat} (hn : sg_okN n) {q0 : Nat} {x1 : Int32} {x2 : Int32} {x3 : Int32} (ha_q0 : q0 < n) (hT_q0 : sg_T q0 = 11) {h : HP} {Rz : Int32} (hf : F_X9_cost q0 x1 x2 x3 h = some Rz) : Met l yX9_cost (Cond.code yX9_cost cX9_cost 6 (some .int) :: sg_tbl) ({ frames := 2, cells := 0, slots := 0, locals := 45 } : Room) (va_Pc [.ref (b + q0), .int x1, .int x2, .int x3] (sg_Wd D b cA n h)) (va_Qi (fun r u => r = Rz ∧ u = h) (sg_Wd D b cA n) (sg_A b)) 0 0 (sg_A b) := by
  refine Met.ofW (cc := cX9_cost) (maxL := 6) (ret := (some .int)) (by decide) rfl ?_
  intro p e s m args below meth c s₁ B hml hv
  obtain ⟨rfl, hP, hK, hz, hY, hN⟩ := hv
  have hl := lv_entry [.ref (b + q0), .int x1, .int x2, .int x3] (n := 6) (Nat.le_of_ble_eq_true rfl)
  rw [lg_entry_eq]
  exact w_X9_cost hn ⟨B.exec, B.bytes, findClass_of_methodNamed B.named, fun w h => atoms_spec (ws := Cond.code yX9_cost cX9_cost 6 (some .int) :: sg_tbl) B.pre w (List.mem_cons_of_mem _ h), hK, hN⟩ hz B.returns B.notSynchronized hml (Nat.le_refl _) (Nat.le_refl _) ha_q0 hT_q0 hf _ _ _ ⟨hP, hY, va_S.rf⟩ hl
set_option maxHeartbeats 4000000 in
set_option maxRecDepth 100000 in
theorem w_X9_bears {p : Program} {l : Launch} {e : Env} {R : Room} {s : State} {m : MethodId} {args : Array Value} {below : List Frame} {meth : Method} {c : Code} {D : va_G} {cA : Nat → ClassId} {b n : Nat} (hn : sg_okN n) {a : Nat} {x1 : Int32} {x2 : Int32} {x3 : Int32} {h : HP} {Rz : Int32 × HP} (hc : sg_Cx p s m args c cX9_bears RX9 D cA) (hz : s.heap.size = b + n) (hr : meth.sig.returnType = some .int) (hlocks : meth.locks = false) (hml : c.maxLocals = 7) (hRf : 3 ≤ R.frames) (hRl : 70 ≤ R.locals) (ha_a : a < n) (hT_a : sg_T a = 9) (hf : F_X9_bears a x1 x2 x3 h = some Rz) (H : Heap) (locs : List Loc) (ls : Array Slot) (hw : sg_Wo D b cA n s.heap h H locs) (hl : lv_has ls 7 [(0, .ref (b + a)), (1, .int x1), (2, .int x2), (3, .int x3)]) : W p l e R s m args below meth c H locs 0 0 (sg_Qi below args s D b cA n (fun r u => r = Rz.1 ∧ u = Rz.2)) (F0 m 0 ls []) := by
  have hx := hc.1
  have hb := hc.2.1
  have hn0 : 0 < n := sg_pos hn
  have L6 : ∀ (k : Nat) (x : (Int32 × Int32 × HP)), F_X9_bears_L6 a x1 x2 x3 k x = some Rz → ∀ (H : Heap) (locs : List Loc) (ls : Array Slot), sg_Wo D b cA n s.heap x.2.2 H locs → lv_has ls 7 [(0, .ref (b + a)), (1, .int x1), (2, .int x2), (3, .int x3), (4, .int x.1), (5, .int x.2.1)] → W p l e R s m args below meth c H locs 0 0 (sg_Qi below args s D b cA n (fun r u => r = Rz.1 ∧ u = Rz.2)) (F0 m 6 ls []) := by
    unfold F_X9_bears_L6
    refine lp_walk ?_
    intro rc6 hrc6 x hf H locs ls hw hl
    obtain ⟨x4, x5, h⟩ := x
    dsimp only at hf hw hl
    have J95 : ∀ (x4 : Int32) (x5 : Int32) (h : HP) (H : Heap) (locs : List Loc) (ls : Array Slot), F_X9_bears_J95 a rc6 x1 x2 x3 x4 x5 h = some Rz → sg_Wo D b cA n s.heap h H locs → lv_has ls 7 [(0, .ref (b + a)), (1, .int x1), (2, .int x2), (3, .int x3), (4, .int x4), (5, .int x5)] → W p l e R s m args below meth c H locs 0 0 (sg_Qi below args s D b cA n (fun r u => r = Rz.1 ∧ u = Rz.2)) (F0 m 95 ls []) := by
      intro x4 x5 h H locs ls hf hw hl
      unfold F_X9_bears_J95 at hf
      refine lv_iinc (v := (x5 + 1)) (lv' := [(5, .int (x5 + 1)), (0, .ref (b + a)), (1, .int x1), (2, .int x2), (3, .int x3), (4, .int x4)]) hx hb dX9_bears_95 hl (k := 5) rfl rfl (by decide) rfl (fun ls hl => ?_)
      refine lv_goto (tgt := 6) hx hb dX9_bears_98 (by decide) ?_
      exact hrc6 _ hf _ _ _ hw (lv_sub hl [1, 2, 3, 4, 5, 0] rfl)
    have J94 : ∀ (x4 : Int32) (x5 : Int32) (s0 : Int32) (s1 : Int32) (ja0 : (a + 14) < n) (jT0 : sg_T (a + 14) = 11) (jN0 : sg_N (a + 14) = 6) (h : HP) (H : Heap) (locs : List Loc) (ls : Array Slot), F_X9_bears_J94 a rc6 x1 x2 x3 x4 x5 s0 s1 h = some Rz → sg_Wo D b cA n s.heap h H locs → lv_has ls 7 [(0, .ref (b + a)), (1, .int x1), (2, .int x2), (3, .int x3), (4, .int x4), (5, .int x5)] → W p l e R s m args below meth c H locs 0 0 (sg_Qi below args s D b cA n (fun r u => r = Rz.1 ∧ u = Rz.2)) (F0 m 94 ls [.int s0, .int s1, .ref (b + (a + 14))]) := by
      intro x4 x5 s0 s1 ja0 jT0 jN0 h H locs ls hf hw hl
      unfold F_X9_bears_J94 at hf
      obtain ⟨hg94, hf⟩ := gd_of hf
      refine sg_ist hc hw ja0 jT0 jN0 hg94 dX9_bears_94 (fun H locs hw => ?_)
      obtain ⟨h94, hw, hf⟩ := sg_name hw hf
      exact J95 x4 x5 _ _ _ _ hf hw (lv_sub hl [0, 1, 2, 3, 4, 5] rfl)
    have J69 : ∀ (x5 : Int32) (x6 : Int32) (s0 : Int32) (s1 : Int32) (h : HP) (H : Heap) (locs : List Loc) (ls : Array Slot), F_X9_bears_J69 a rc6 x1 x2 x3 x5 x6 s0 s1 h = some Rz → sg_Wo D b cA n s.heap h H locs → lv_has ls 7 [(0, .ref (b + a)), (1, .int x1), (2, .int x2), (3, .int x3), (5, .int x5), (6, .int x6)] → W p l e R s m args below meth c H locs 0 0 (sg_Qi below args s D b cA n (fun r u => r = Rz.1 ∧ u = Rz.2)) (F0 m 69 ls [.int s0, .int s1]) := by
      intro x5 x6 s0 s1 h H locs ls hf hw hl
      unfold F_X9_bears_J69 at hf
      refine lv_ior hx hb dX9_bears_69 ?_
      refine lv_topi (fun v70 e70 => ?_)
      have hf := nm_of e70 hf
      refine lv_istore (lv' := [(4, .int v70), (0, .ref (b + a)), (1, .int x1), (2, .int x2), (3, .int x3), (5, .int x5), (6, .int x6)]) hx hb dX9_bears_70 hl (by decide) rfl (fun ls hl => ?_)
      refine lv_aload_n hx hb dX9_bears_72 rfl (lv_at hl 1 rfl) ?_
      obtain ⟨hF73, hT73, ha73, hN73⟩ := ft_9_20 hn ha_a hT_a
      refine sg_getf (q := (a + 14)) hc hw ha_a hT_a fr_9_20 (by decide) k_893 dX9_bears_73 hF73 ?_
      refine lv_iload hx hb dX9_bears_76 (lv_at hl 5 rfl) ?_
      refine lv_iload hx hb dX9_bears_78 (lv_at hl 6 rfl) ?_
      refine lv_if_eq (tgt := 93) hx hb dX9_bears_80 (by decide) (fun c80 => ?_) (fun c80 => ?_)
      · have hf := if_of c80 hf
        refine lv_iload_n hx hb dX9_bears_93 rfl (lv_at hl 2 rfl) ?_
        exact J94 v70 x5 x1 x5 ha73 hT73 hN73 _ _ _ _ hf hw (lv_sub hl [1, 2, 3, 4, 0, 5] rfl)
      · have hf := if_no c80 hf
        refine lv_aload_n hx hb dX9_bears_83 rfl (lv_at hl 1 rfl) ?_
        refine sg_getf (q := (a + 14)) hc hw ha_a hT_a fr_9_20 (by decide) k_893 dX9_bears_84 (ft_9_20 hn ha_a hT_a).1 ?_
        refine lv_iload hx hb dX9_bears_87 (lv_at hl 5 rfl) ?_
        obtain ⟨hg89, hf⟩ := gd_of hf
        refine sg_ild hc hw ha73 hT73 hN73 hg89 dX9_bears_89 ?_
        refine lv_goto (tgt := 94) hx hb dX9_bears_90 (by decide) ?_
        exact J94 v70 x5 (ld h (a + 14) x5) x5 ha73 hT73 hN73 _ _ _ _ hf hw (lv_sub hl [1, 2, 3, 4, 0, 5] rfl)
    have J52 : ∀ (x4 : Int32) (x5 : Int32) (s0 : Int32) (h : HP) (H : Heap) (locs : List Loc) (ls : Array Slot), F_X9_bears_J52 a rc6 x1 x2 x3 x4 x5 s0 h = some Rz → sg_Wo D b cA n s.heap h H locs → lv_has ls 7 [(0, .ref (b + a)), (1, .int x1), (2, .int x2), (3, .int x3), (4, .int x4), (5, .int x5)] → W p l e R s m args below meth c H locs 0 0 (sg_Qi below args s D b cA n (fun r u => r = Rz.1 ∧ u = Rz.2)) (F0 m 52 ls [.int s0]) := by
      intro x4 x5 s0 h H locs ls hf hw hl
      unfold F_X9_bears_J52 at hf
      refine lv_istore (lv' := [(6, .int s0), (0, .ref (b + a)), (1, .int x1), (2, .int x2), (3, .int x3), (4, .int x4), (5, .int x5)]) hx hb dX9_bears_52 hl (by decide) rfl (fun ls hl => ?_)
      refine lv_iload hx hb dX9_bears_54 (lv_at hl 5 rfl) ?_
      refine lv_iload hx hb dX9_bears_56 (lv_at hl 0 rfl) ?_
      refine lv_if_eq (tgt := 68) hx hb dX9_bears_58 (by decide) (fun c58 => ?_) (fun c58 => ?_)
      · have hf := if_of c58 hf
        refine lv_iconst (v := 0) hx hb dX9_bears_68 (by decide) ?_
        exact J69 x5 s0 0 x4 _ _ _ _ hf hw (lv_sub hl [1, 2, 3, 4, 6, 0] rfl)
      · have hf := if_no c58 hf
        refine lv_iconst (v := 1) hx hb dX9_bears_61 (by decide) ?_
        refine lv_iload hx hb dX9_bears_62 (lv_at hl 6 rfl) ?_
        refine lv_ishl hx hb dX9_bears_64 ?_
        refine lv_goto (tgt := 69) hx hb dX9_bears_65 (by decide) ?_
        exact J69 x5 s0 (1 <<< (x5 &&& 31)) x4 _ _ _ _ hf hw (lv_sub hl [1, 2, 3, 4, 6, 0] rfl)
    refine lv_iload hx hb dX9_bears_6 (lv_at hl 5 rfl) ?_
    refine lv_aload_n hx hb dX9_bears_8 rfl (lv_at hl 0 rfl) ?_
    obtain ⟨hF9, hT9, ha9, hN9⟩ := ft_9_14 hn ha_a hT_a
    refine sg_getf (q := (a + 10)) hc hw ha_a hT_a fr_9_14 (by decide) k_887 dX9_bears_9 hF9 ?_
    refine lv_iconst (v := 1) hx hb dX9_bears_12 (by decide) ?_
    refine sg_ild hc hw ha9 hT9 hN9 (show vp_in 1 34 by unfold vp_in; decide) dX9_bears_13 ?_
    refine lv_icmp_ge (tgt := 101) hx hb dX9_bears_14 (by decide) (fun c14 => ?_) (fun c14 => ?_)
    · have hf := if_of c14 hf
      refine lv_iload hx hb dX9_bears_101 (lv_at hl 4 rfl) ?_
      cases hf
      exact sg_iret hc hw hz hn0 hr hlocks ⟨rfl, rfl⟩ dX9_bears_103
    · have hf := if_no c14 hf
      refine lv_iload_n hx hb dX9_bears_17 rfl (lv_at hl 2 rfl) ?_
      refine lv_iload hx hb dX9_bears_18 (lv_at hl 5 rfl) ?_
      obtain ⟨p20, hp20, hf⟩ := cl_of hf
      refine sg_si (rest := []) (c_X9_has hn (h := h) hp20) hc hw hz hn0 hml hl cs_X9_166 ⟨⟨rfl, rfl⟩, Nat.le_trans (Nat.le_of_ble_eq_true rfl) hRf, Nat.le_trans (Nat.le_of_ble_eq_true rfl) hRl⟩ ⟨Nat.zero_le _, Nat.zero_le _⟩ rfl rfl (Nat.le_of_ble_eq_true rfl) dX9_bears_20 (fun r h1 H locs hp hw => ?_)
      obtain ⟨⟨e1, e2⟩, hb20⟩ := hp; subst r; subst h1
      refine lv_if_eq (tgt := 95) hx hb dX9_bears_23 (by decide) (fun c23 => ?_) (fun c23 => ?_)
      · have hf := if_of c23 hf
        exact J95 x4 x5 _ _ _ _ hf hw (lv_sub hl [0, 1, 2, 3, 4, 5] rfl)
      · have hf := if_no c23 hf
        refine lv_aload_n hx hb dX9_bears_26 rfl (lv_at hl 0 rfl) ?_
        obtain ⟨hF27, hT27, ha27, hN27⟩ := ft_9_18 hn ha_a hT_a
        refine sg_getf (q := (a + 12)) hc hw ha_a hT_a fr_9_18 (by decide) k_891 dX9_bears_27 hF27 ?_
        refine lv_iload hx hb dX9_bears_30 (lv_at hl 5 rfl) ?_
        obtain ⟨hg32, hf⟩ := gd_of hf
        refine sg_ild hc hw ha27 hT27 hN27 hg32 dX9_bears_32 ?_
        refine lv_aload_n hx hb dX9_bears_33 rfl (lv_at hl 0 rfl) ?_
        refine sg_getf (q := (a + 10)) hc hw ha_a hT_a fr_9_14 (by decide) k_887 dX9_bears_34 (ft_9_14 hn ha_a hT_a).1 ?_
        refine lv_iload hx hb dX9_bears_37 (lv_at hl 5 rfl) ?_
        refine lv_iload_n hx hb dX9_bears_39 rfl (lv_at hl 2 rfl) ?_
        refine lv_iload_n hx hb dX9_bears_40 rfl (lv_at hl 3 rfl) ?_
        obtain ⟨p41, hp41, hf⟩ := cl_of hf
        refine sg_si (rest := [.int (ld h (a + 12) x5)]) (c_X9_cost hn ha9 hT9 hp41) hc hw hz hn0 hml hl cs_X9_178 ⟨⟨rfl, rfl⟩, Nat.le_trans (Nat.le_of_ble_eq_true rfl) hRf, Nat.le_trans (Nat.le_of_ble_eq_true rfl) hRl⟩ ⟨Nat.zero_le _, Nat.zero_le _⟩ rfl rfl (Nat.le_of_ble_eq_true rfl) dX9_bears_41 (fun r h1 H locs hp hw => ?_)
        obtain ⟨e1, e2⟩ := hp; subst r; subst h1
        refine lv_icmp_lt (tgt := 51) hx hb dX9_bears_44 (by decide) (fun c44 => ?_) (fun c44 => ?_)
        · have hf := if_of c44 hf
          refine lv_iconst (v := 0) hx hb dX9_bears_51 (by decide) ?_
          exact J52 x4 x5 0 _ _ _ _ hf hw (lv_sub hl [0, 1, 2, 3, 4, 5] rfl)
        · have hf := if_no c44 hf
          refine lv_iconst (v := 1) hx hb dX9_bears_47 (by decide) ?_
          refine lv_goto (tgt := 52) hx hb dX9_bears_48 (by decide) ?_
          exact J52 x4 x5 1 _ _ _ _ hf hw (lv_sub hl [0, 1, 2, 3, 4, 5] rfl)
  unfold F_X9_bears at hf
  refine lv_iconst (v := 0) hx hb dX9_bears_0 (by decide) ?_
  refine lv_istore (lv' := [(4, .int 0), (0, .ref (b + a)), (1, .int x1), (2, .int x2), (3, .int x3)]) hx hb dX9_bears_1 hl (by decide) rfl (fun ls hl => ?_)
  refine lv_iconst (v := 0) hx hb dX9_bears_3 (by decide) ?_
  refine lv_istore (lv' := [(5, .int 0), (4, .int 0), (0, .ref (b + a)), (1, .int x1), (2, .int x2), (3, .int x3)]) hx hb dX9_bears_4 hl (by decide) rfl (fun ls hl => ?_)
  exact L6 _ _ hf _ _ _ hw (lv_sub hl [2, 3, 4, 5, 1, 0] rfl)
theorem c_X9_bears {l : Launch} {D : va_G} {cA : Nat → ClassId} {b n : Nat} (hn : sg_okN n) {a : Nat} {x1 : Int32} {x2 : Int32} {x3 : Int32} (ha_a : a < n) (hT_a : sg_T a = 9) {h : HP} {Rz : Int32 × HP} (hf : F_X9_bears a x1 x2 x3 h = some Rz) : Met l yX9_bears (Cond.code yX9_bears cX9_bears 7 (some .int) :: sg_tbl) ({ frames := 3, cells := 0, slots := 0, locals := 70 } : Room) (va_Pc [.ref (b + a), .int x1, .int x2, .int x3] (sg_Wd D b cA n h)) (va_Qi (fun r u => r = Rz.1 ∧ u = Rz.2) (sg_Wd D b cA n) (sg_A b)) 0 0 (sg_A b) := by
  refine Met.ofW (cc := cX9_bears) (maxL := 7) (ret := (some .int)) (by decide) rfl ?_
  intro p e s m args below meth c s₁ B hml hv
  obtain ⟨rfl, hP, hK, hz, hY, hN⟩ := hv
  have hl := lv_entry [.ref (b + a), .int x1, .int x2, .int x3] (n := 7) (Nat.le_of_ble_eq_true rfl)
  rw [lg_entry_eq]
  exact w_X9_bears hn ⟨B.exec, B.bytes, findClass_of_methodNamed B.named, fun w h => atoms_spec (ws := Cond.code yX9_bears cX9_bears 7 (some .int) :: sg_tbl) B.pre w (List.mem_cons_of_mem _ h), hK, hN⟩ hz B.returns B.notSynchronized hml (Nat.le_refl _) (Nat.le_refl _) ha_a hT_a hf _ _ _ ⟨hP, hY, va_S.rf⟩ hl
set_option maxHeartbeats 4000000 in
set_option maxRecDepth 100000 in
theorem w_X9_unfallen {p : Program} {l : Launch} {e : Env} {R : Room} {s : State} {m : MethodId} {args : Array Value} {below : List Frame} {meth : Method} {c : Code} {D : va_G} {cA : Nat → ClassId} {b n : Nat} (hn : sg_okN n) {a : Nat} {x1 : Int32} {h : HP} {Rz : Int32} (hc : sg_Cx p s m args c cX9_unfallen RX9 D cA) (hz : s.heap.size = b + n) (hr : meth.sig.returnType = some .int) (hlocks : meth.locks = false) (hml : c.maxLocals = 4) (hRf : 1 ≤ R.frames) (hRl : 21 ≤ R.locals) (ha_a : a < n) (hT_a : sg_T a = 9) (hf : F_X9_unfallen a x1 h = some Rz) (H : Heap) (locs : List Loc) (ls : Array Slot) (hw : sg_Wo D b cA n s.heap h H locs) (hl : lv_has ls 4 [(0, .ref (b + a)), (1, .int x1)]) : W p l e R s m args below meth c H locs 0 0 (sg_Qi below args s D b cA n (fun r u => r = Rz ∧ u = h)) (F0 m 0 ls []) := by
  have hx := hc.1
  have hb := hc.2.1
  have hn0 : 0 < n := sg_pos hn
  have L4 : ∀ (k : Nat) (x : (Int32 × Int32)), F_X9_unfallen_L4 a x1 h k x = some Rz → ∀ (H : Heap) (locs : List Loc) (ls : Array Slot), sg_Wo D b cA n s.heap h H locs → lv_has ls 4 [(0, .ref (b + a)), (1, .int x1), (2, .int x.1), (3, .int x.2)] → W p l e R s m args below meth c H locs 0 0 (sg_Qi below args s D b cA n (fun r u => r = Rz ∧ u = h)) (F0 m 4 ls []) := by
    unfold F_X9_unfallen_L4
    refine lp_walk ?_
    intro rc4 hrc4 x hf H locs ls hw hl
    obtain ⟨x2, x3⟩ := x
    dsimp only at hf hw hl
    have J39 : ∀ (x3 : Int32) (s0 : Int32) (s1 : Int32) (H : Heap) (locs : List Loc) (ls : Array Slot), F_X9_unfallen_J39 a rc4 x1 x3 s0 s1 h = some Rz → sg_Wo D b cA n s.heap h H locs → lv_has ls 4 [(0, .ref (b + a)), (1, .int x1), (3, .int x3)] → W p l e R s m args below meth c H locs 0 0 (sg_Qi below args s D b cA n (fun r u => r = Rz ∧ u = h)) (F0 m 39 ls [.int s0, .int s1]) := by
      intro x3 s0 s1 H locs ls hf hw hl
      unfold F_X9_unfallen_J39 at hf
      refine lv_ior hx hb dX9_unfallen_39 ?_
      refine lv_topi (fun v40 e40 => ?_)
      have hf := nm_of e40 hf
      refine lv_istore_n (lv' := [(2, .int v40), (0, .ref (b + a)), (1, .int x1), (3, .int x3)]) hx hb dX9_unfallen_40 rfl hl (by decide) rfl (fun ls hl => ?_)
      refine lv_iinc (v := (x3 + 1)) (lv' := [(3, .int (x3 + 1)), (2, .int v40), (0, .ref (b + a)), (1, .int x1)]) hx hb dX9_unfallen_41 hl (k := 3) rfl rfl (by decide) rfl (fun ls hl => ?_)
      refine lv_goto (tgt := 4) hx hb dX9_unfallen_44 (by decide) ?_
      exact hrc4 _ hf _ _ _ hw (lv_sub hl [2, 3, 1, 0] rfl)
    have J38 : ∀ (x3 : Int32) (s0 : Int32) (H : Heap) (locs : List Loc) (ls : Array Slot), F_X9_unfallen_J38 a rc4 x1 x3 s0 h = some Rz → sg_Wo D b cA n s.heap h H locs → lv_has ls 4 [(0, .ref (b + a)), (1, .int x1), (3, .int x3)] → W p l e R s m args below meth c H locs 0 0 (sg_Qi below args s D b cA n (fun r u => r = Rz ∧ u = h)) (F0 m 38 ls [.int s0]) := by
      intro x3 s0 H locs ls hf hw hl
      unfold F_X9_unfallen_J38 at hf
      refine lv_iconst (v := 0) hx hb dX9_unfallen_38 (by decide) ?_
      exact J39 x3 0 s0 _ _ _ hf hw (lv_sub hl [0, 1, 2] rfl)
    refine lv_iload_n hx hb dX9_unfallen_4 rfl (lv_at hl 3 rfl) ?_
    refine lv_aload_n hx hb dX9_unfallen_5 rfl (lv_at hl 0 rfl) ?_
    obtain ⟨hF6, hT6, ha6, hN6⟩ := ft_9_14 hn ha_a hT_a
    refine sg_getf (q := (a + 10)) hc hw ha_a hT_a fr_9_14 (by decide) k_887 dX9_unfallen_6 hF6 ?_
    refine lv_iconst (v := 1) hx hb dX9_unfallen_9 (by decide) ?_
    refine sg_ild hc hw ha6 hT6 hN6 (show vp_in 1 34 by unfold vp_in; decide) dX9_unfallen_10 ?_
    refine lv_icmp_ge (tgt := 47) hx hb dX9_unfallen_11 (by decide) (fun c11 => ?_) (fun c11 => ?_)
    · have hf := if_of c11 hf
      refine lv_iload_n hx hb dX9_unfallen_47 rfl (lv_at hl 2 rfl) ?_
      cases hf
      exact sg_iret hc hw hz hn0 hr hlocks ⟨rfl, rfl⟩ dX9_unfallen_48
    · have hf := if_no c11 hf
      refine lv_iload_n hx hb dX9_unfallen_14 rfl (lv_at hl 2 rfl) ?_
      refine lv_iload_n hx hb dX9_unfallen_15 rfl (lv_at hl 1 rfl) ?_
      refine lv_iload_n hx hb dX9_unfallen_16 rfl (lv_at hl 3 rfl) ?_
      obtain ⟨p17, hp17, hf⟩ := cl_of hf
      refine sg_si (rest := [.int x2]) (c_X9_has hn (h := h) hp17) hc hw hz hn0 hml hl cs_X9_166 ⟨⟨rfl, rfl⟩, Nat.le_trans (Nat.le_of_ble_eq_true rfl) hRf, Nat.le_trans (Nat.le_of_ble_eq_true rfl) hRl⟩ ⟨Nat.zero_le _, Nat.zero_le _⟩ rfl rfl (Nat.le_of_ble_eq_true rfl) dX9_unfallen_17 (fun r h1 H locs hp hw => ?_)
      obtain ⟨⟨e1, e2⟩, hb17⟩ := hp; subst r; subst h1
      refine lv_if_eq (tgt := 38) hx hb dX9_unfallen_20 (by decide) (fun c20 => ?_) (fun c20 => ?_)
      · have hf := if_of c20 hf
        exact J38 x3 x2 _ _ _ hf hw (lv_sub hl [0, 1, 3] rfl)
      · have hf := if_no c20 hf
        refine lv_aload_n hx hb dX9_unfallen_23 rfl (lv_at hl 0 rfl) ?_
        obtain ⟨hF24, hT24, ha24, hN24⟩ := ft_9_20 hn ha_a hT_a
        refine sg_getf (q := (a + 14)) hc hw ha_a hT_a fr_9_20 (by decide) k_893 dX9_unfallen_24 hF24 ?_
        refine lv_iload_n hx hb dX9_unfallen_27 rfl (lv_at hl 3 rfl) ?_
        obtain ⟨hg28, hf⟩ := gd_of hf
        refine sg_ild hc hw ha24 hT24 hN24 hg28 dX9_unfallen_28 ?_
        refine lv_if_ge (tgt := 38) hx hb dX9_unfallen_29 (by decide) (fun c29 => ?_) (fun c29 => ?_)
        · have hf := if_of c29 hf
          exact J38 x3 x2 _ _ _ hf hw (lv_sub hl [0, 1, 3] rfl)
        · have hf := if_no c29 hf
          refine lv_iconst (v := 1) hx hb dX9_unfallen_32 (by decide) ?_
          refine lv_iload_n hx hb dX9_unfallen_33 rfl (lv_at hl 3 rfl) ?_
          refine lv_ishl hx hb dX9_unfallen_34 ?_
          refine lv_goto (tgt := 39) hx hb dX9_unfallen_35 (by decide) ?_
          exact J39 x3 (1 <<< (x3 &&& 31)) x2 _ _ _ hf hw (lv_sub hl [0, 1, 3] rfl)
  unfold F_X9_unfallen at hf
  refine lv_iconst (v := 0) hx hb dX9_unfallen_0 (by decide) ?_
  refine lv_istore_n (lv' := [(2, .int 0), (0, .ref (b + a)), (1, .int x1)]) hx hb dX9_unfallen_1 rfl hl (by decide) rfl (fun ls hl => ?_)
  refine lv_iconst (v := 0) hx hb dX9_unfallen_2 (by decide) ?_
  refine lv_istore_n (lv' := [(3, .int 0), (2, .int 0), (0, .ref (b + a)), (1, .int x1)]) hx hb dX9_unfallen_3 rfl hl (by decide) rfl (fun ls hl => ?_)
  exact L4 _ _ hf _ _ _ hw (lv_sub hl [2, 3, 1, 0] rfl)
theorem c_X9_unfallen {l : Launch} {D : va_G} {cA : Nat → ClassId} {b n : Nat} (hn : sg_okN n) {a : Nat} {x1 : Int32} (ha_a : a < n) (hT_a : sg_T a = 9) {h : HP} {Rz : Int32} (hf : F_X9_unfallen a x1 h = some Rz) : Met l yX9_unfallen (Cond.code yX9_unfallen cX9_unfallen 4 (some .int) :: sg_tbl) ({ frames := 1, cells := 0, slots := 0, locals := 21 } : Room) (va_Pc [.ref (b + a), .int x1] (sg_Wd D b cA n h)) (va_Qi (fun r u => r = Rz ∧ u = h) (sg_Wd D b cA n) (sg_A b)) 0 0 (sg_A b) := by
  refine Met.ofW (cc := cX9_unfallen) (maxL := 4) (ret := (some .int)) (by decide) rfl ?_
  intro p e s m args below meth c s₁ B hml hv
  obtain ⟨rfl, hP, hK, hz, hY, hN⟩ := hv
  have hl := lv_entry [.ref (b + a), .int x1] (n := 4) (Nat.le_of_ble_eq_true rfl)
  rw [lg_entry_eq]
  exact w_X9_unfallen hn ⟨B.exec, B.bytes, findClass_of_methodNamed B.named, fun w h => atoms_spec (ws := Cond.code yX9_unfallen cX9_unfallen 4 (some .int) :: sg_tbl) B.pre w (List.mem_cons_of_mem _ h), hK, hN⟩ hz B.returns B.notSynchronized hml (Nat.le_refl _) (Nat.le_refl _) ha_a hT_a hf _ _ _ ⟨hP, hY, va_S.rf⟩ hl
set_option maxHeartbeats 4000000 in
set_option maxRecDepth 100000 in
theorem w_X9_startsUp {p : Program} {l : Launch} {e : Env} {R : Room} {s : State} {m : MethodId} {args : Array Value} {below : List Frame} {meth : Method} {c : Code} {D : va_G} {cA : Nat → ClassId} {b n : Nat} (hn : sg_okN n) {a : Nat} {h : HP} {Rz : HP} (hc : sg_Cx p s m args c cX9_startsUp RX9 D cA) (hz : s.heap.size = b + n) (hr : meth.sig.returnType = none) (hlocks : meth.locks = false) (hml : c.maxLocals = 2) (hRf : 0 ≤ R.frames) (hRl : 0 ≤ R.locals) (ha_a : a < n) (hT_a : sg_T a = 9) (hf : F_X9_startsUp a h = some Rz) (H : Heap) (locs : List Loc) (ls : Array Slot) (hw : sg_Wo D b cA n s.heap h H locs) (hl : lv_has ls 2 [(0, .ref (b + a))]) : W p l e R s m args below meth c H locs 0 0 (sg_Qv below args s D b cA n (fun u => u = Rz)) (F0 m 0 ls []) := by
  have hx := hc.1
  have hb := hc.2.1
  have hn0 : 0 < n := sg_pos hn
  have J62 : ∀ (h : HP) (H : Heap) (locs : List Loc) (ls : Array Slot), F_X9_startsUp_J62 a h = some Rz → sg_Wo D b cA n s.heap h H locs → lv_has ls 2 [(0, .ref (b + a))] → W p l e R s m args below meth c H locs 0 0 (sg_Qv below args s D b cA n (fun u => u = Rz)) (F0 m 62 ls []) := by
    intro h H locs ls hf hw hl
    unfold F_X9_startsUp_J62 at hf
    refine lv_aload_n hx hb dX9_startsUp_62 rfl (lv_at hl 0 rfl) ?_
    refine lv_bipush (v := (-4)) hx hb dX9_startsUp_63 (by decide) ?_
    refine sg_puti hc hw ha_a hT_a fp_9_23 rfl rfl k_896 dX9_startsUp_65 (fun H locs hw => ?_)
    obtain ⟨h65, hw, hf⟩ := sg_name hw hf
    cases hf
    exact sg_vret hc hw hz hn0 hr hlocks rfl dX9_startsUp_68
  have L2 : ∀ (k : Nat) (x : (Int32 × HP)), F_X9_startsUp_L2 a k x = some Rz → ∀ (H : Heap) (locs : List Loc) (ls : Array Slot), sg_Wo D b cA n s.heap x.2 H locs → lv_has ls 2 [(0, .ref (b + a)), (1, .int x.1)] → W p l e R s m args below meth c H locs 0 0 (sg_Qv below args s D b cA n (fun u => u = Rz)) (F0 m 2 ls []) := by
    unfold F_X9_startsUp_L2
    refine lp_walk ?_
    intro rc2 hrc2 x hf H locs ls hw hl
    obtain ⟨x1, h⟩ := x
    dsimp only at hf hw hl
    have J34 : ∀ (x1 : Int32) (s0 : Int32) (s1 : Int32) (ja0 : (a + 12) < n) (jT0 : sg_T (a + 12) = 11) (jN0 : sg_N (a + 12) = 6) (h : HP) (H : Heap) (locs : List Loc) (ls : Array Slot), F_X9_startsUp_J34 a rc2 x1 s0 s1 h = some Rz → sg_Wo D b cA n s.heap h H locs → lv_has ls 2 [(0, .ref (b + a)), (1, .int x1)] → W p l e R s m args below meth c H locs 0 0 (sg_Qv below args s D b cA n (fun u => u = Rz)) (F0 m 34 ls [.int s0, .int s1, .ref (b + (a + 12))]) := by
      intro x1 s0 s1 ja0 jT0 jN0 h H locs ls hf hw hl
      unfold F_X9_startsUp_J34 at hf
      obtain ⟨hg34, hf⟩ := gd_of hf
      refine sg_ist hc hw ja0 jT0 jN0 hg34 dX9_startsUp_34 (fun H locs hw => ?_)
      obtain ⟨h34, hw, hf⟩ := sg_name hw hf
      refine lv_aload_n hx hb dX9_startsUp_35 rfl (lv_at hl 0 rfl) ?_
      obtain ⟨hF36, hT36, ha36, hN36⟩ := ft_9_19 hn ha_a hT_a
      refine sg_getf (q := (a + 13)) hc hw ha_a hT_a fr_9_19 (by decide) k_892 dX9_startsUp_36 hF36 ?_
      refine lv_iload_n hx hb dX9_startsUp_39 rfl (lv_at hl 1 rfl) ?_
      refine lv_iconst (v := 0) hx hb dX9_startsUp_40 (by decide) ?_
      obtain ⟨hg41, hf⟩ := gd_of hf
      refine sg_ist hc hw ha36 hT36 hN36 hg41 dX9_startsUp_41 (fun H locs hw => ?_)
      obtain ⟨h41, hw, hf⟩ := sg_name hw hf
      refine lv_aload_n hx hb dX9_startsUp_42 rfl (lv_at hl 0 rfl) ?_
      obtain ⟨hF43, hT43, ha43, hN43⟩ := ft_9_20 hn ha_a hT_a
      refine sg_getf (q := (a + 14)) hc hw ha_a hT_a fr_9_20 (by decide) k_893 dX9_startsUp_43 hF43 ?_
      refine lv_iload_n hx hb dX9_startsUp_46 rfl (lv_at hl 1 rfl) ?_
      refine lv_iconst (v := (-1)) hx hb dX9_startsUp_47 (by decide) ?_
      obtain ⟨hg48, hf⟩ := gd_of hf
      refine sg_ist hc hw ha43 hT43 hN43 hg48 dX9_startsUp_48 (fun H locs hw => ?_)
      obtain ⟨h48, hw, hf⟩ := sg_name hw hf
      refine lv_aload_n hx hb dX9_startsUp_49 rfl (lv_at hl 0 rfl) ?_
      obtain ⟨hF50, hT50, ha50, hN50⟩ := ft_9_21 hn ha_a hT_a
      refine sg_getf (q := (a + 15)) hc hw ha_a hT_a fr_9_21 (by decide) k_894 dX9_startsUp_50 hF50 ?_
      refine lv_iload_n hx hb dX9_startsUp_53 rfl (lv_at hl 1 rfl) ?_
      refine lv_iconst (v := 0) hx hb dX9_startsUp_54 (by decide) ?_
      obtain ⟨hg55, hf⟩ := gd_of hf
      refine sg_ist hc hw ha50 hT50 hN50 hg55 dX9_startsUp_55 (fun H locs hw => ?_)
      obtain ⟨h55, hw, hf⟩ := sg_name hw hf
      refine lv_iinc (v := (x1 + 1)) (lv' := [(1, .int (x1 + 1)), (0, .ref (b + a))]) hx hb dX9_startsUp_56 hl (k := 1) rfl rfl (by decide) rfl (fun ls hl => ?_)
      refine lv_goto (tgt := 2) hx hb dX9_startsUp_59 (by decide) ?_
      exact hrc2 _ hf _ _ _ hw (lv_sub hl [1, 0] rfl)
    refine lv_iload_n hx hb dX9_startsUp_2 rfl (lv_at hl 1 rfl) ?_
    refine lv_bipush (v := 6) hx hb dX9_startsUp_3 (by decide) ?_
    refine lv_icmp_ge (tgt := 62) hx hb dX9_startsUp_5 (by decide) (fun c5 => ?_) (fun c5 => ?_)
    · have hf := if_of c5 hf
      exact J62 _ _ _ _ hf hw (lv_sub hl [0] rfl)
    · have hf := if_no c5 hf
      refine lv_aload_n hx hb dX9_startsUp_8 rfl (lv_at hl 0 rfl) ?_
      obtain ⟨hF9, hT9, ha9, hN9⟩ := ft_9_18 hn ha_a hT_a
      refine sg_getf (q := (a + 12)) hc hw ha_a hT_a fr_9_18 (by decide) k_891 dX9_startsUp_9 hF9 ?_
      refine lv_iload_n hx hb dX9_startsUp_12 rfl (lv_at hl 1 rfl) ?_
      refine lv_iload_n hx hb dX9_startsUp_13 rfl (lv_at hl 1 rfl) ?_
      refine lv_aload_n hx hb dX9_startsUp_14 rfl (lv_at hl 0 rfl) ?_
      refine sg_geti hc hw ha_a hT_a fi_9_16 k_889 dX9_startsUp_15 ?_
      refine lv_icmp_ne (tgt := 25) hx hb dX9_startsUp_18 (by decide) (fun c18 => ?_) (fun c18 => ?_)
      · have hf := if_no c18 hf
        refine lv_aload_n hx hb dX9_startsUp_25 rfl (lv_at hl 0 rfl) ?_
        obtain ⟨hF26, hT26, ha26, hN26⟩ := ft_9_14 hn ha_a hT_a
        refine sg_getf (q := (a + 10)) hc hw ha_a hT_a fr_9_14 (by decide) k_887 dX9_startsUp_26 hF26 ?_
        refine lv_bipush (v := 22) hx hb dX9_startsUp_29 (by decide) ?_
        refine lv_iload_n hx hb dX9_startsUp_31 rfl (lv_at hl 1 rfl) ?_
        refine lv_iadd hx hb dX9_startsUp_32 ?_
        obtain ⟨hg33, hf⟩ := gd_of hf
        refine sg_ild hc hw ha26 hT26 hN26 hg33 dX9_startsUp_33 ?_
        exact J34 x1 (ld h (a + 10) (22 + x1)) x1 ha9 hT9 hN9 _ _ _ _ hf hw (lv_sub hl [0, 1] rfl)
      · have hf := if_of c18 hf
        refine lv_iconst (v := 0) hx hb dX9_startsUp_21 (by decide) ?_
        refine lv_goto (tgt := 34) hx hb dX9_startsUp_22 (by decide) ?_
        exact J34 x1 0 x1 ha9 hT9 hN9 _ _ _ _ hf hw (lv_sub hl [0, 1] rfl)
  unfold F_X9_startsUp at hf
  refine lv_iconst (v := 0) hx hb dX9_startsUp_0 (by decide) ?_
  refine lv_istore_n (lv' := [(1, .int 0), (0, .ref (b + a))]) hx hb dX9_startsUp_1 rfl hl (by decide) rfl (fun ls hl => ?_)
  exact L2 _ _ hf _ _ _ hw (lv_sub hl [1, 0] rfl)
theorem c_X9_startsUp {l : Launch} {D : va_G} {cA : Nat → ClassId} {b n : Nat} (hn : sg_okN n) {a : Nat} (ha_a : a < n) (hT_a : sg_T a = 9) {h : HP} {Rz : HP} (hf : F_X9_startsUp a h = some Rz) : Met l yX9_startsUp (Cond.code yX9_startsUp cX9_startsUp 2 none :: sg_tbl) ({ frames := 0, cells := 0, slots := 0, locals := 0 } : Room) (va_Pc [.ref (b + a)] (sg_Wd D b cA n h)) (va_Qv (fun u => u = Rz) (sg_Wd D b cA n) (sg_A b)) 0 0 (sg_A b) := by
  refine Met.ofW (cc := cX9_startsUp) (maxL := 2) (ret := none) (by decide) rfl ?_
  intro p e s m args below meth c s₁ B hml hv
  obtain ⟨rfl, hP, hK, hz, hY, hN⟩ := hv
  have hl := lv_entry [.ref (b + a)] (n := 2) (Nat.le_of_ble_eq_true rfl)
  rw [lg_entry_eq]
  exact w_X9_startsUp hn ⟨B.exec, B.bytes, findClass_of_methodNamed B.named, fun w h => atoms_spec (ws := Cond.code yX9_startsUp cX9_startsUp 2 none :: sg_tbl) B.pre w (List.mem_cons_of_mem _ h), hK, hN⟩ hz B.returns B.notSynchronized hml (Nat.le_refl _) (Nat.le_refl _) ha_a hT_a hf _ _ _ ⟨hP, hY, va_S.rf⟩ hl
set_option maxHeartbeats 4000000 in
set_option maxRecDepth 100000 in
theorem w_X9_pays {p : Program} {l : Launch} {e : Env} {R : Room} {s : State} {m : MethodId} {args : Array Value} {below : List Frame} {meth : Method} {c : Code} {D : va_G} {cA : Nat → ClassId} {b n : Nat} (hn : sg_okN n) {a : Nat} {x1 : Int32} {x2 : Int32} {x3 : Int32} {x4 : Int32} {h : HP} {Rz : HP} (hc : sg_Cx p s m args c cX9_pays RX9 D cA) (hz : s.heap.size = b + n) (hr : meth.sig.returnType = none) (hlocks : meth.locks = false) (hml : c.maxLocals = 6) (hRf : 3 ≤ R.frames) (hRl : 70 ≤ R.locals) (ha_a : a < n) (hT_a : sg_T a = 9) (hf : F_X9_pays a x1 x2 x3 x4 h = some Rz) (H : Heap) (locs : List Loc) (ls : Array Slot) (hw : sg_Wo D b cA n s.heap h H locs) (hl : lv_has ls 6 [(0, .ref (b + a)), (1, .int x1), (2, .int x2), (3, .int x3), (4, .int x4)]) : W p l e R s m args below meth c H locs 0 0 (sg_Qv below args s D b cA n (fun u => u = Rz)) (F0 m 0 ls []) := by
  have hx := hc.1
  have hb := hc.2.1
  have hn0 : 0 < n := sg_pos hn
  have L3 : ∀ (k : Nat) (x : (Int32 × HP)), F_X9_pays_L3 a x1 x2 x3 x4 k x = some Rz → ∀ (H : Heap) (locs : List Loc) (ls : Array Slot), sg_Wo D b cA n s.heap x.2 H locs → lv_has ls 6 [(0, .ref (b + a)), (1, .int x1), (2, .int x2), (3, .int x3), (4, .int x4), (5, .int x.1)] → W p l e R s m args below meth c H locs 0 0 (sg_Qv below args s D b cA n (fun u => u = Rz)) (F0 m 3 ls []) := by
    unfold F_X9_pays_L3
    refine lp_walk ?_
    intro rc3 hrc3 x hf H locs ls hw hl
    obtain ⟨x5, h⟩ := x
    dsimp only at hf hw hl
    have J72 : ∀ (x5 : Int32) (h : HP) (H : Heap) (locs : List Loc) (ls : Array Slot), F_X9_pays_J72 a rc3 x1 x2 x3 x4 x5 h = some Rz → sg_Wo D b cA n s.heap h H locs → lv_has ls 6 [(0, .ref (b + a)), (1, .int x1), (2, .int x2), (3, .int x3), (4, .int x4), (5, .int x5)] → W p l e R s m args below meth c H locs 0 0 (sg_Qv below args s D b cA n (fun u => u = Rz)) (F0 m 72 ls []) := by
      intro x5 h H locs ls hf hw hl
      unfold F_X9_pays_J72 at hf
      refine lv_iinc (v := (x5 + 1)) (lv' := [(5, .int (x5 + 1)), (0, .ref (b + a)), (1, .int x1), (2, .int x2), (3, .int x3), (4, .int x4)]) hx hb dX9_pays_72 hl (k := 5) rfl rfl (by decide) rfl (fun ls hl => ?_)
      refine lv_goto (tgt := 3) hx hb dX9_pays_75 (by decide) ?_
      exact hrc3 _ hf _ _ _ hw (lv_sub hl [1, 2, 3, 4, 5, 0] rfl)
    refine lv_iload hx hb dX9_pays_3 (lv_at hl 5 rfl) ?_
    refine lv_aload_n hx hb dX9_pays_5 rfl (lv_at hl 0 rfl) ?_
    obtain ⟨hF6, hT6, ha6, hN6⟩ := ft_9_14 hn ha_a hT_a
    refine sg_getf (q := (a + 10)) hc hw ha_a hT_a fr_9_14 (by decide) k_887 dX9_pays_6 hF6 ?_
    refine lv_iconst (v := 1) hx hb dX9_pays_9 (by decide) ?_
    refine sg_ild hc hw ha6 hT6 hN6 (show vp_in 1 34 by unfold vp_in; decide) dX9_pays_10 ?_
    refine lv_icmp_ge (tgt := 78) hx hb dX9_pays_11 (by decide) (fun c11 => ?_) (fun c11 => ?_)
    · have hf := if_of c11 hf
      cases hf
      exact sg_vret hc hw hz hn0 hr hlocks rfl dX9_pays_78
    · have hf := if_no c11 hf
      refine lv_iload_n hx hb dX9_pays_14 rfl (lv_at hl 1 rfl) ?_
      refine lv_iload hx hb dX9_pays_15 (lv_at hl 5 rfl) ?_
      obtain ⟨p17, hp17, hf⟩ := cl_of hf
      refine sg_si (rest := []) (c_X9_has hn (h := h) hp17) hc hw hz hn0 hml hl cs_X9_166 ⟨⟨rfl, rfl⟩, Nat.le_trans (Nat.le_of_ble_eq_true rfl) hRf, Nat.le_trans (Nat.le_of_ble_eq_true rfl) hRl⟩ ⟨Nat.zero_le _, Nat.zero_le _⟩ rfl rfl (Nat.le_of_ble_eq_true rfl) dX9_pays_17 (fun r h1 H locs hp hw => ?_)
      obtain ⟨⟨e1, e2⟩, hb17⟩ := hp; subst r; subst h1
      refine lv_if_eq (tgt := 72) hx hb dX9_pays_20 (by decide) (fun c20 => ?_) (fun c20 => ?_)
      · have hf := if_of c20 hf
        exact J72 x5 _ _ _ _ hf hw (lv_sub hl [0, 1, 2, 3, 4, 5] rfl)
      · have hf := if_no c20 hf
        refine lv_aload_n hx hb dX9_pays_23 rfl (lv_at hl 0 rfl) ?_
        obtain ⟨hF24, hT24, ha24, hN24⟩ := ft_9_18 hn ha_a hT_a
        refine sg_getf (q := (a + 12)) hc hw ha_a hT_a fr_9_18 (by decide) k_891 dX9_pays_24 hF24 ?_
        refine lv_iload hx hb dX9_pays_27 (lv_at hl 5 rfl) ?_
        refine lv_dup2_11 hx hb dX9_pays_29 rfl rfl ?_
        obtain ⟨hg30, hf⟩ := gd_of hf
        refine sg_ild hc hw ha24 hT24 hN24 hg30 dX9_pays_30 ?_
        refine lv_aload_n hx hb dX9_pays_31 rfl (lv_at hl 0 rfl) ?_
        refine sg_getf (q := (a + 10)) hc hw ha_a hT_a fr_9_14 (by decide) k_887 dX9_pays_32 (ft_9_14 hn ha_a hT_a).1 ?_
        refine lv_iload hx hb dX9_pays_35 (lv_at hl 5 rfl) ?_
        refine lv_iload_n hx hb dX9_pays_37 rfl (lv_at hl 2 rfl) ?_
        refine lv_iload_n hx hb dX9_pays_38 rfl (lv_at hl 3 rfl) ?_
        obtain ⟨p39, hp39, hf⟩ := cl_of hf
        refine sg_si (rest := [.int (ld h (a + 12) x5), .int x5, .ref (b + (a + 12))]) (c_X9_cost hn ha6 hT6 hp39) hc hw hz hn0 hml hl cs_X9_178 ⟨⟨rfl, rfl⟩, Nat.le_trans (Nat.le_of_ble_eq_true rfl) hRf, Nat.le_trans (Nat.le_of_ble_eq_true rfl) hRl⟩ ⟨Nat.zero_le _, Nat.zero_le _⟩ rfl rfl (Nat.le_of_ble_eq_true rfl) dX9_pays_39 (fun r h1 H locs hp hw => ?_)
        obtain ⟨e1, e2⟩ := hp; subst r; subst h1
        refine lv_isub hx hb dX9_pays_42 ?_
        obtain ⟨hg43, hf⟩ := gd_of hf
        refine sg_ist hc hw ha24 hT24 hN24 hg43 dX9_pays_43 (fun H locs hw => ?_)
        obtain ⟨h43, hw, hf⟩ := sg_name hw hf
        refine lv_aload_n hx hb dX9_pays_44 rfl (lv_at hl 0 rfl) ?_
        obtain ⟨hF45, hT45, ha45, hN45⟩ := ft_9_19 hn ha_a hT_a
        refine sg_getf (q := (a + 13)) hc hw ha_a hT_a fr_9_19 (by decide) k_892 dX9_pays_45 hF45 ?_
        refine lv_iload hx hb dX9_pays_48 (lv_at hl 5 rfl) ?_
        refine lv_dup2_11 hx hb dX9_pays_50 rfl rfl ?_
        obtain ⟨hg51, hf⟩ := gd_of hf
        refine sg_ild hc hw ha45 hT45 hN45 hg51 dX9_pays_51 ?_
        refine lv_iload hx hb dX9_pays_52 (lv_at hl 4 rfl) ?_
        refine lv_iload_n hx hb dX9_pays_54 rfl (lv_at hl 1 rfl) ?_
        obtain ⟨p55, hp55, hf⟩ := cl_of hf
        refine sg_si (rest := [.int x4, .int (ld h43 (a + 13) x5), .int x5, .ref (b + (a + 13))]) (c_X9_bits hn (h := h43) hp55) hc hw hz hn0 hml hl cs_X9_174 ⟨⟨rfl, rfl⟩, Nat.le_trans (Nat.le_of_ble_eq_true rfl) hRf, Nat.le_trans (Nat.le_of_ble_eq_true rfl) hRl⟩ ⟨Nat.zero_le _, Nat.zero_le _⟩ rfl rfl (Nat.le_of_ble_eq_true rfl) dX9_pays_55 (fun r h1 H locs hp hw => ?_)
        obtain ⟨e1, e2⟩ := hp; subst r; subst h1
        obtain ⟨hg58, hf⟩ := gz_of hf
        refine lv_idiv hx hb dX9_pays_58 hg58 ?_
        refine lv_iadd hx hb dX9_pays_59 ?_
        obtain ⟨hg60, hf⟩ := gd_of hf
        refine sg_ist hc hw ha45 hT45 hN45 hg60 dX9_pays_60 (fun H locs hw => ?_)
        obtain ⟨h60, hw, hf⟩ := sg_name hw hf
        refine lv_aload_n hx hb dX9_pays_61 rfl (lv_at hl 0 rfl) ?_
        obtain ⟨hF62, hT62, ha62, hN62⟩ := ft_9_21 hn ha_a hT_a
        refine sg_getf (q := (a + 15)) hc hw ha_a hT_a fr_9_21 (by decide) k_894 dX9_pays_62 hF62 ?_
        refine lv_iload hx hb dX9_pays_65 (lv_at hl 5 rfl) ?_
        refine lv_dup2_11 hx hb dX9_pays_67 rfl rfl ?_
        obtain ⟨hg68, hf⟩ := gd_of hf
        refine sg_ild hc hw ha62 hT62 hN62 hg68 dX9_pays_68 ?_
        refine lv_iconst (v := 1) hx hb dX9_pays_69 (by decide) ?_
        refine lv_iadd hx hb dX9_pays_70 ?_
        obtain ⟨hg71, hf⟩ := gd_of hf
        refine sg_ist hc hw ha62 hT62 hN62 hg71 dX9_pays_71 (fun H locs hw => ?_)
        obtain ⟨h71, hw, hf⟩ := sg_name hw hf
        exact J72 x5 _ _ _ _ hf hw (lv_sub hl [0, 1, 2, 3, 4, 5] rfl)
  unfold F_X9_pays at hf
  refine lv_iconst (v := 0) hx hb dX9_pays_0 (by decide) ?_
  refine lv_istore (lv' := [(5, .int 0), (0, .ref (b + a)), (1, .int x1), (2, .int x2), (3, .int x3), (4, .int x4)]) hx hb dX9_pays_1 hl (by decide) rfl (fun ls hl => ?_)
  exact L3 _ _ hf _ _ _ hw (lv_sub hl [1, 2, 3, 4, 5, 0] rfl)
theorem c_X9_pays {l : Launch} {D : va_G} {cA : Nat → ClassId} {b n : Nat} (hn : sg_okN n) {a : Nat} {x1 : Int32} {x2 : Int32} {x3 : Int32} {x4 : Int32} (ha_a : a < n) (hT_a : sg_T a = 9) {h : HP} {Rz : HP} (hf : F_X9_pays a x1 x2 x3 x4 h = some Rz) : Met l yX9_pays (Cond.code yX9_pays cX9_pays 6 none :: sg_tbl) ({ frames := 3, cells := 0, slots := 0, locals := 70 } : Room) (va_Pc [.ref (b + a), .int x1, .int x2, .int x3, .int x4] (sg_Wd D b cA n h)) (va_Qv (fun u => u = Rz) (sg_Wd D b cA n) (sg_A b)) 0 0 (sg_A b) := by
  refine Met.ofW (cc := cX9_pays) (maxL := 6) (ret := none) (by decide) rfl ?_
  intro p e s m args below meth c s₁ B hml hv
  obtain ⟨rfl, hP, hK, hz, hY, hN⟩ := hv
  have hl := lv_entry [.ref (b + a), .int x1, .int x2, .int x3, .int x4] (n := 6) (Nat.le_of_ble_eq_true rfl)
  rw [lg_entry_eq]
  exact w_X9_pays hn ⟨B.exec, B.bytes, findClass_of_methodNamed B.named, fun w h => atoms_spec (ws := Cond.code yX9_pays cX9_pays 6 none :: sg_tbl) B.pre w (List.mem_cons_of_mem _ h), hK, hN⟩ hz B.returns B.notSynchronized hml (Nat.le_refl _) (Nat.le_refl _) ha_a hT_a hf _ _ _ ⟨hP, hY, va_S.rf⟩ hl
set_option maxHeartbeats 4000000 in
set_option maxRecDepth 100000 in
theorem w_X9_goesUp {p : Program} {l : Launch} {e : Env} {R : Room} {s : State} {m : MethodId} {args : Array Value} {below : List Frame} {meth : Method} {c : Code} {D : va_G} {cA : Nat → ClassId} {b n : Nat} (hn : sg_okN n) {a : Nat} {h : HP} {Rz : HP} (hc : sg_Cx p s m args c cX9_goesUp RX9 D cA) (hz : s.heap.size = b + n) (hr : meth.sig.returnType = none) (hlocks : meth.locks = false) (hml : c.maxLocals = 7) (hRf : 4 ≤ R.frames) (hRl : 96 ≤ R.locals) (ha_a : a < n) (hT_a : sg_T a = 9) (hf : F_X9_goesUp a h = some Rz) (H : Heap) (locs : List Loc) (ls : Array Slot) (hw : sg_Wo D b cA n s.heap h H locs) (hl : lv_has ls 7 [(0, .ref (b + a))]) : W p l e R s m args below meth c H locs 0 0 (sg_Qv below args s D b cA n (fun u => u = Rz)) (F0 m 0 ls []) := by
  have hx := hc.1
  have hb := hc.2.1
  have hn0 : 0 < n := sg_pos hn
  have L159 : ∀ (k : Nat) (x : (Int32 × HP)), F_X9_goesUp_L159 a k x = some Rz → ∀ (H : Heap) (locs : List Loc) (ls : Array Slot), sg_Wo D b cA n s.heap x.2 H locs → lv_has ls 7 [(0, .ref (b + a)), (2, .int x.1)] → W p l e R s m args below meth c H locs 0 0 (sg_Qv below args s D b cA n (fun u => u = Rz)) (F0 m 159 ls []) := by
    unfold F_X9_goesUp_L159
    refine lp_walk ?_
    intro rc159 hrc159 x hf H locs ls hw hl
    obtain ⟨x2, h⟩ := x
    dsimp only at hf hw hl
    have J202 : ∀ (x2 : Int32) (s0 : Int32) (s1 : Int32) (ja0 : (a + 13) < n) (jT0 : sg_T (a + 13) = 11) (jN0 : sg_N (a + 13) = 6) (h : HP) (H : Heap) (locs : List Loc) (ls : Array Slot), F_X9_goesUp_J202 a rc159 x2 s0 s1 h = some Rz → sg_Wo D b cA n s.heap h H locs → lv_has ls 7 [(0, .ref (b + a)), (2, .int x2)] → W p l e R s m args below meth c H locs 0 0 (sg_Qv below args s D b cA n (fun u => u = Rz)) (F0 m 202 ls [.int s0, .int s1, .ref (b + (a + 13))]) := by
      intro x2 s0 s1 ja0 jT0 jN0 h H locs ls hf hw hl
      unfold F_X9_goesUp_J202 at hf
      obtain ⟨hg202, hf⟩ := gd_of hf
      refine sg_ist hc hw ja0 jT0 jN0 hg202 dX9_goesUp_202 (fun H locs hw => ?_)
      obtain ⟨h202, hw, hf⟩ := sg_name hw hf
      refine lv_iinc (v := (x2 + 1)) (lv' := [(2, .int (x2 + 1)), (0, .ref (b + a))]) hx hb dX9_goesUp_203 hl (k := 1) rfl rfl (by decide) rfl (fun ls hl => ?_)
      refine lv_goto (tgt := 159) hx hb dX9_goesUp_206 (by decide) ?_
      exact hrc159 _ hf _ _ _ hw (lv_sub hl [1, 0] rfl)
    have J192 : ∀ (x2 : Int32) (s0 : Int32) (ja0 : (a + 13) < n) (jT0 : sg_T (a + 13) = 11) (jN0 : sg_N (a + 13) = 6) (h : HP) (H : Heap) (locs : List Loc) (ls : Array Slot), F_X9_goesUp_J192 a rc159 x2 s0 h = some Rz → sg_Wo D b cA n s.heap h H locs → lv_has ls 7 [(0, .ref (b + a)), (2, .int x2)] → W p l e R s m args below meth c H locs 0 0 (sg_Qv below args s D b cA n (fun u => u = Rz)) (F0 m 192 ls [.int s0, .ref (b + (a + 13))]) := by
      intro x2 s0 ja0 jT0 jN0 h H locs ls hf hw hl
      unfold F_X9_goesUp_J192 at hf
      refine lv_iconst (v := 0) hx hb dX9_goesUp_192 (by decide) ?_
      refine lv_goto (tgt := 202) hx hb dX9_goesUp_193 (by decide) ?_
      exact J202 x2 0 s0 ja0 jT0 jN0 _ _ _ _ hf hw (lv_sub hl [0, 1] rfl)
    refine lv_iload_n hx hb dX9_goesUp_159 rfl (lv_at hl 1 rfl) ?_
    refine lv_bipush (v := 6) hx hb dX9_goesUp_160 (by decide) ?_
    refine lv_icmp_ge (tgt := 209) hx hb dX9_goesUp_162 (by decide) (fun c162 => ?_) (fun c162 => ?_)
    · have hf := if_of c162 hf
      cases hf
      exact sg_vret hc hw hz hn0 hr hlocks rfl dX9_goesUp_209
    · have hf := if_no c162 hf
      refine lv_aload_n hx hb dX9_goesUp_165 rfl (lv_at hl 0 rfl) ?_
      obtain ⟨hF166, hT166, ha166, hN166⟩ := ft_9_19 hn ha_a hT_a
      refine sg_getf (q := (a + 13)) hc hw ha_a hT_a fr_9_19 (by decide) k_892 dX9_goesUp_166 hF166 ?_
      refine lv_iload_n hx hb dX9_goesUp_169 rfl (lv_at hl 1 rfl) ?_
      refine lv_aload_n hx hb dX9_goesUp_170 rfl (lv_at hl 0 rfl) ?_
      obtain ⟨hF171, hT171, ha171, hN171⟩ := ft_9_20 hn ha_a hT_a
      refine sg_getf (q := (a + 14)) hc hw ha_a hT_a fr_9_20 (by decide) k_893 dX9_goesUp_171 hF171 ?_
      refine lv_iload_n hx hb dX9_goesUp_174 rfl (lv_at hl 1 rfl) ?_
      obtain ⟨hg175, hf⟩ := gd_of hf
      refine sg_ild hc hw ha171 hT171 hN171 hg175 dX9_goesUp_175 ?_
      refine lv_if_ge (tgt := 192) hx hb dX9_goesUp_176 (by decide) (fun c176 => ?_) (fun c176 => ?_)
      · have hf := if_of c176 hf
        exact J192 x2 x2 ha166 hT166 hN166 _ _ _ _ hf hw (lv_sub hl [0, 1] rfl)
      · have hf := if_no c176 hf
        refine lv_aload_n hx hb dX9_goesUp_179 rfl (lv_at hl 0 rfl) ?_
        obtain ⟨hF180, hT180, ha180, hN180⟩ := ft_9_14 hn ha_a hT_a
        refine sg_getf (q := (a + 10)) hc hw ha_a hT_a fr_9_14 (by decide) k_887 dX9_goesUp_180 hF180 ?_
        refine lv_bipush (v := 28) hx hb dX9_goesUp_183 (by decide) ?_
        refine lv_iload_n hx hb dX9_goesUp_185 rfl (lv_at hl 1 rfl) ?_
        refine lv_iadd hx hb dX9_goesUp_186 ?_
        obtain ⟨hg187, hf⟩ := gd_of hf
        refine sg_ild hc hw ha180 hT180 hN180 hg187 dX9_goesUp_187 ?_
        refine lv_iconst (v := 2) hx hb dX9_goesUp_188 (by decide) ?_
        refine lv_icmp_ne (tgt := 196) hx hb dX9_goesUp_189 (by decide) (fun c189 => ?_) (fun c189 => ?_)
        · have hf := if_no c189 hf
          refine lv_aload_n hx hb dX9_goesUp_196 rfl (lv_at hl 0 rfl) ?_
          refine sg_getf (q := (a + 13)) hc hw ha_a hT_a fr_9_19 (by decide) k_892 dX9_goesUp_197 (ft_9_19 hn ha_a hT_a).1 ?_
          refine lv_iload_n hx hb dX9_goesUp_200 rfl (lv_at hl 1 rfl) ?_
          obtain ⟨hg201, hf⟩ := gd_of hf
          refine sg_ild hc hw ha166 hT166 hN166 hg201 dX9_goesUp_201 ?_
          exact J202 x2 (ld h (a + 13) x2) x2 ha166 hT166 hN166 _ _ _ _ hf hw (lv_sub hl [0, 1] rfl)
        · have hf := if_of c189 hf
          exact J192 x2 x2 ha166 hT166 hN166 _ _ _ _ hf hw (lv_sub hl [0, 1] rfl)
  have J157 : ∀ (h : HP) (H : Heap) (locs : List Loc) (ls : Array Slot), F_X9_goesUp_J157 a h = some Rz → sg_Wo D b cA n s.heap h H locs → lv_has ls 7 [(0, .ref (b + a))] → W p l e R s m args below meth c H locs 0 0 (sg_Qv below args s D b cA n (fun u => u = Rz)) (F0 m 157 ls []) := by
    intro h H locs ls hf hw hl
    unfold F_X9_goesUp_J157 at hf
    refine lv_iconst (v := 0) hx hb dX9_goesUp_157 (by decide) ?_
    refine lv_istore_n (lv' := [(2, .int 0), (0, .ref (b + a))]) hx hb dX9_goesUp_158 rfl hl (by decide) rfl (fun ls hl => ?_)
    exact L159 _ _ hf _ _ _ hw (lv_sub hl [1, 0] rfl)
  have L35 : ∀ (x1 : Int32) (k : Nat) (x : (Int32 × HP)), F_X9_goesUp_L35 a x1 k x = some Rz → ∀ (H : Heap) (locs : List Loc) (ls : Array Slot), sg_Wo D b cA n s.heap x.2 H locs → lv_has ls 7 [(0, .ref (b + a)), (1, .int x1), (2, .int x.1)] → W p l e R s m args below meth c H locs 0 0 (sg_Qv below args s D b cA n (fun u => u = Rz)) (F0 m 35 ls []) := by
    intro x1
    unfold F_X9_goesUp_L35
    refine lp_walk ?_
    intro rc35 hrc35 x hf H locs ls hw hl
    obtain ⟨x2, h⟩ := x
    dsimp only at hf hw hl
    have J151 : ∀ (x2 : Int32) (h : HP) (H : Heap) (locs : List Loc) (ls : Array Slot), F_X9_goesUp_J151 a rc35 x1 x2 h = some Rz → sg_Wo D b cA n s.heap h H locs → lv_has ls 7 [(0, .ref (b + a)), (1, .int x1), (2, .int x2)] → W p l e R s m args below meth c H locs 0 0 (sg_Qv below args s D b cA n (fun u => u = Rz)) (F0 m 151 ls []) := by
      intro x2 h H locs ls hf hw hl
      unfold F_X9_goesUp_J151 at hf
      refine lv_iinc (v := (x2 + 1)) (lv' := [(2, .int (x2 + 1)), (0, .ref (b + a)), (1, .int x1)]) hx hb dX9_goesUp_151 hl (k := 2) rfl rfl (by decide) rfl (fun ls hl => ?_)
      refine lv_goto (tgt := 35) hx hb dX9_goesUp_154 (by decide) ?_
      exact hrc35 _ hf _ _ _ hw (lv_sub hl [1, 2, 0] rfl)
    refine lv_iload_n hx hb dX9_goesUp_35 rfl (lv_at hl 2 rfl) ?_
    refine lv_iload_n hx hb dX9_goesUp_36 rfl (lv_at hl 1 rfl) ?_
    refine lv_icmp_ge (tgt := 157) hx hb dX9_goesUp_37 (by decide) (fun c37 => ?_) (fun c37 => ?_)
    · have hf := if_of c37 hf
      exact J157 _ _ _ _ hf hw (lv_sub hl [0] rfl)
    · have hf := if_no c37 hf
      refine lv_aload_n hx hb dX9_goesUp_40 rfl (lv_at hl 0 rfl) ?_
      refine sg_geti hc hw ha_a hT_a fi_9_23 k_896 dX9_goesUp_41 ?_
      refine lv_bipush (v := (-4)) hx hb dX9_goesUp_44 (by decide) ?_
      refine lv_icmp_ne (tgt := 157) hx hb dX9_goesUp_46 (by decide) (fun c46 => ?_) (fun c46 => ?_)
      · have hf := if_no c46 hf
        exact J157 _ _ _ _ hf hw (lv_sub hl [0] rfl)
      · have hf := if_of c46 hf
        refine lv_aload_n hx hb dX9_goesUp_49 rfl (lv_at hl 0 rfl) ?_
        obtain ⟨hF50, hT50, ha50, hN50⟩ := ft_9_14 hn ha_a hT_a
        refine sg_getf (q := (a + 10)) hc hw ha_a hT_a fr_9_14 (by decide) k_887 dX9_goesUp_50 hF50 ?_
        refine lv_iload_n hx hb dX9_goesUp_53 rfl (lv_at hl 2 rfl) ?_
        obtain ⟨p54, hp54, hf⟩ := cl_of hf
        refine sg_si (rest := []) (c_X9_stretchAt hn ha50 hT50 hp54) hc hw hz hn0 hml hl cs_X9_188 ⟨⟨rfl, rfl⟩, Nat.le_trans (Nat.le_of_ble_eq_true rfl) hRf, Nat.le_trans (Nat.le_of_ble_eq_true rfl) hRl⟩ ⟨Nat.zero_le _, Nat.zero_le _⟩ rfl rfl (Nat.le_of_ble_eq_true rfl) dX9_goesUp_54 (fun r h1 H locs hp hw => ?_)
        obtain ⟨e1, e2⟩ := hp; subst r; subst h1
        refine lv_istore_n (lv' := [(3, .int p54), (0, .ref (b + a)), (1, .int x1), (2, .int x2)]) hx hb dX9_goesUp_57 rfl hl (by decide) rfl (fun ls hl => ?_)
        refine lv_iconst (v := 1) hx hb dX9_goesUp_58 (by decide) ?_
        refine lv_aload_n hx hb dX9_goesUp_59 rfl (lv_at hl 1 rfl) ?_
        refine sg_getf (q := (a + 10)) hc hw ha_a hT_a fr_9_14 (by decide) k_887 dX9_goesUp_60 (ft_9_14 hn ha_a hT_a).1 ?_
        refine lv_bipush (v := 10) hx hb dX9_goesUp_63 (by decide) ?_
        refine lv_iload_n hx hb dX9_goesUp_65 rfl (lv_at hl 0 rfl) ?_
        refine lv_iadd hx hb dX9_goesUp_66 ?_
        obtain ⟨hg67, hf⟩ := gd_of hf
        refine sg_ild hc hw ha50 hT50 hN50 hg67 dX9_goesUp_67 ?_
        refine lv_iadd hx hb dX9_goesUp_68 ?_
        refine lv_aload_n hx hb dX9_goesUp_69 rfl (lv_at hl 1 rfl) ?_
        refine lv_iload_n hx hb dX9_goesUp_70 rfl (lv_at hl 3 rfl) ?_
        obtain ⟨p71, hp71, hf⟩ := cl_of hf
        refine sg_vi (rest := [.int (1 + (ld h (a + 10) (10 + p54)))]) (c_X9_rainAt hn ha_a hT_a hp71) hc hw hz hml hl ha_a hT_a (by decide) rfl cv_X9_192 ⟨⟨rfl, rfl⟩, Nat.le_trans (Nat.le_of_ble_eq_true rfl) hRf, Nat.le_trans (Nat.le_of_ble_eq_true rfl) hRl⟩ ⟨Nat.zero_le _, Nat.zero_le _⟩ rfl rfl (Nat.le_of_ble_eq_true rfl) dX9_goesUp_71 (fun r h1 H locs hp hw => ?_)
        obtain ⟨e1, e2⟩ := hp; subst r; subst h1
        refine lv_iadd hx hb dX9_goesUp_74 ?_
        refine lv_topi (fun v75 e75 => ?_)
        have hf := nm_of e75 hf
        refine lv_istore (lv' := [(4, .int v75), (3, .int p54), (0, .ref (b + a)), (1, .int x1), (2, .int x2)]) hx hb dX9_goesUp_75 hl (by decide) rfl (fun ls hl => ?_)
        refine lv_aload_n hx hb dX9_goesUp_77 rfl (lv_at hl 2 rfl) ?_
        refine lv_aload_n hx hb dX9_goesUp_78 rfl (lv_at hl 2 rfl) ?_
        refine lv_iload_n hx hb dX9_goesUp_79 rfl (lv_at hl 4 rfl) ?_
        obtain ⟨p80, hp80, hf⟩ := cl_of hf
        refine sg_vi (rest := [.ref (b + a)]) (c_X9_tolds hn ha_a hT_a hp80) hc hw hz hml hl ha_a hT_a (by decide) rfl cv_X9_195 ⟨⟨rfl, rfl⟩, Nat.le_trans (Nat.le_of_ble_eq_true rfl) hRf, Nat.le_trans (Nat.le_of_ble_eq_true rfl) hRl⟩ ⟨Nat.zero_le _, Nat.zero_le _⟩ rfl rfl (Nat.le_of_ble_eq_true rfl) dX9_goesUp_80 (fun r h1 H locs hp hw => ?_)
        obtain ⟨e1, e2⟩ := hp; subst r; subst h1
        obtain ⟨p83, hp83, hf⟩ := cl_of hf
        refine sg_vi (rest := []) (c_X9_unfallen hn ha_a hT_a hp83) hc hw hz hml hl ha_a hT_a (by decide) rfl cv_X9_198 ⟨⟨rfl, rfl⟩, Nat.le_trans (Nat.le_of_ble_eq_true rfl) hRf, Nat.le_trans (Nat.le_of_ble_eq_true rfl) hRl⟩ ⟨Nat.zero_le _, Nat.zero_le _⟩ rfl rfl (Nat.le_of_ble_eq_true rfl) dX9_goesUp_83 (fun r h1 H locs hp hw => ?_)
        obtain ⟨e1, e2⟩ := hp; subst r; subst h1
        refine lv_istore (lv' := [(5, .int p83), (4, .int v75), (3, .int p54), (0, .ref (b + a)), (1, .int x1), (2, .int x2)]) hx hb dX9_goesUp_86 hl (by decide) rfl (fun ls hl => ?_)
        refine lv_aload_n hx hb dX9_goesUp_88 rfl (lv_at hl 3 rfl) ?_
        refine lv_iload_n hx hb dX9_goesUp_89 rfl (lv_at hl 5 rfl) ?_
        refine lv_iload hx hb dX9_goesUp_90 (lv_at hl 0 rfl) ?_
        refine lv_iload hx hb dX9_goesUp_92 (lv_at hl 1 rfl) ?_
        obtain ⟨p94, hp94, hf⟩ := cl_of hf
        refine sg_vi (rest := []) (c_X9_bears hn ha_a hT_a hp94) hc hw hz hml hl ha_a hT_a (by decide) rfl cv_X9_201 ⟨⟨rfl, rfl⟩, Nat.le_trans (Nat.le_of_ble_eq_true rfl) hRf, Nat.le_trans (Nat.le_of_ble_eq_true rfl) hRl⟩ ⟨Nat.zero_le _, Nat.zero_le _⟩ rfl rfl (Nat.le_of_ble_eq_true rfl) dX9_goesUp_94 (fun r h1 H locs hp hw => ?_)
        obtain ⟨e1, e2⟩ := hp; subst r; subst h1
        refine lv_istore (lv' := [(6, .int p94.1), (5, .int p83), (4, .int v75), (3, .int p54), (0, .ref (b + a)), (1, .int x1), (2, .int x2)]) hx hb dX9_goesUp_97 hl (by decide) rfl (fun ls hl => ?_)
        refine lv_iload hx hb dX9_goesUp_99 (lv_at hl 0 rfl) ?_
        obtain ⟨p101, hp101, hf⟩ := cl_of hf
        refine sg_si (rest := []) (c_X9_bits hn (h := p94.2) hp101) hc hw hz hn0 hml hl cs_X9_174 ⟨⟨rfl, rfl⟩, Nat.le_trans (Nat.le_of_ble_eq_true rfl) hRf, Nat.le_trans (Nat.le_of_ble_eq_true rfl) hRl⟩ ⟨Nat.zero_le _, Nat.zero_le _⟩ rfl rfl (Nat.le_of_ble_eq_true rfl) dX9_goesUp_101 (fun r h1 H locs hp hw => ?_)
        obtain ⟨e1, e2⟩ := hp; subst r; subst h1
        refine lv_aload_n hx hb dX9_goesUp_104 rfl (lv_at hl 4 rfl) ?_
        refine sg_getf (q := (a + 10)) hc hw ha_a hT_a fr_9_14 (by decide) k_887 dX9_goesUp_105 (ft_9_14 hn ha_a hT_a).1 ?_
        refine lv_iconst (v := 2) hx hb dX9_goesUp_108 (by decide) ?_
        refine sg_ild hc hw ha50 hT50 hN50 (show vp_in 2 34 by unfold vp_in; decide) dX9_goesUp_109 ?_
        refine lv_icmp_ge (tgt := 121) hx hb dX9_goesUp_110 (by decide) (fun c110 => ?_) (fun c110 => ?_)
        · have hf := if_of c110 hf
          refine lv_aload_n hx hb dX9_goesUp_121 rfl (lv_at hl 4 rfl) ?_
          obtain ⟨hF122, hT122, ha122, hN122⟩ := ft_9_22 hn ha_a hT_a
          refine sg_getf (q := (a + 16)) hc hw ha_a hT_a fr_9_22 (by decide) k_895 dX9_goesUp_122 hF122 ?_
          refine lv_iload_n hx hb dX9_goesUp_125 rfl (lv_at hl 6 rfl) ?_
          refine lv_iload hx hb dX9_goesUp_126 (lv_at hl 0 rfl) ?_
          obtain ⟨hg128, hf⟩ := gd_of hf
          refine sg_ist hc hw ha122 hT122 hN122 hg128 dX9_goesUp_128 (fun H locs hw => ?_)
          obtain ⟨h128, hw, hf⟩ := sg_name hw hf
          refine lv_aload_n hx hb dX9_goesUp_129 rfl (lv_at hl 4 rfl) ?_
          refine lv_iload hx hb dX9_goesUp_130 (lv_at hl 0 rfl) ?_
          refine lv_iload hx hb dX9_goesUp_132 (lv_at hl 1 rfl) ?_
          refine lv_iload hx hb dX9_goesUp_134 (lv_at hl 2 rfl) ?_
          refine lv_bipush (v := 60) hx hb dX9_goesUp_136 (by decide) ?_
          refine lv_aload_n hx hb dX9_goesUp_138 rfl (lv_at hl 4 rfl) ?_
          refine sg_getf (q := (a + 10)) hc hw ha_a hT_a fr_9_14 (by decide) k_887 dX9_goesUp_139 (ft_9_14 hn ha_a hT_a).1 ?_
          refine lv_bipush (v := 16) hx hb dX9_goesUp_142 (by decide) ?_
          refine lv_iload_n hx hb dX9_goesUp_144 rfl (lv_at hl 3 rfl) ?_
          refine lv_iadd hx hb dX9_goesUp_145 ?_
          obtain ⟨hg146, hf⟩ := gd_of hf
          refine sg_ild hc hw ha50 hT50 hN50 hg146 dX9_goesUp_146 ?_
          refine lv_imul hx hb dX9_goesUp_147 ?_
          obtain ⟨p148, hp148, hf⟩ := cl_of hf
          refine sg_vv (rest := []) (c_X9_pays hn ha_a hT_a hp148) hc hw hz hml hl ha_a hT_a (by decide) rfl cv_X9_205 ⟨⟨rfl, rfl⟩, Nat.le_trans (Nat.le_of_ble_eq_true rfl) hRf, Nat.le_trans (Nat.le_of_ble_eq_true rfl) hRl⟩ ⟨Nat.zero_le _, Nat.zero_le _⟩ rfl rfl (Nat.le_of_ble_eq_true rfl) dX9_goesUp_148 (fun h1 H locs hp hw => ?_)
          subst h1
          exact J151 x2 _ _ _ _ hf hw (lv_sub hl [4, 5, 6] rfl)
        · have hf := if_no c110 hf
          refine lv_aload_n hx hb dX9_goesUp_113 rfl (lv_at hl 4 rfl) ?_
          refine lv_iload_n hx hb dX9_goesUp_114 rfl (lv_at hl 6 rfl) ?_
          refine sg_puti hc hw ha_a hT_a fp_9_23 rfl rfl k_896 dX9_goesUp_115 (fun H locs hw => ?_)
          obtain ⟨h115, hw, hf⟩ := sg_name hw hf
          refine lv_goto (tgt := 151) hx hb dX9_goesUp_118 (by decide) ?_
          exact J151 x2 _ _ _ _ hf hw (lv_sub hl [4, 5, 6] rfl)
  have J33 : ∀ (x1 : Int32) (h : HP) (H : Heap) (locs : List Loc) (ls : Array Slot), F_X9_goesUp_J33 a x1 h = some Rz → sg_Wo D b cA n s.heap h H locs → lv_has ls 7 [(0, .ref (b + a)), (1, .int x1)] → W p l e R s m args below meth c H locs 0 0 (sg_Qv below args s D b cA n (fun u => u = Rz)) (F0 m 33 ls []) := by
    intro x1 h H locs ls hf hw hl
    unfold F_X9_goesUp_J33 at hf
    refine lv_iconst (v := 0) hx hb dX9_goesUp_33 (by decide) ?_
    refine lv_istore_n (lv' := [(2, .int 0), (0, .ref (b + a)), (1, .int x1)]) hx hb dX9_goesUp_34 rfl hl (by decide) rfl (fun ls hl => ?_)
    exact L35 x1 _ _ hf _ _ _ hw (lv_sub hl [1, 2, 0] rfl)
  have L14 : ∀ (x1 : Int32) (k : Nat) (x : (Int32 × HP)), F_X9_goesUp_L14 a x1 k x = some Rz → ∀ (H : Heap) (locs : List Loc) (ls : Array Slot), sg_Wo D b cA n s.heap x.2 H locs → lv_has ls 7 [(0, .ref (b + a)), (1, .int x1), (2, .int x.1)] → W p l e R s m args below meth c H locs 0 0 (sg_Qv below args s D b cA n (fun u => u = Rz)) (F0 m 14 ls []) := by
    intro x1
    unfold F_X9_goesUp_L14
    refine lp_walk ?_
    intro rc14 hrc14 x hf H locs ls hw hl
    obtain ⟨x2, h⟩ := x
    dsimp only at hf hw hl
    refine lv_iload_n hx hb dX9_goesUp_14 rfl (lv_at hl 2 rfl) ?_
    refine lv_bipush (v := 120) hx hb dX9_goesUp_15 (by decide) ?_
    refine lv_icmp_ge (tgt := 33) hx hb dX9_goesUp_17 (by decide) (fun c17 => ?_) (fun c17 => ?_)
    · have hf := if_of c17 hf
      exact J33 x1 _ _ _ _ hf hw (lv_sub hl [0, 1] rfl)
    · have hf := if_no c17 hf
      refine lv_aload_n hx hb dX9_goesUp_20 rfl (lv_at hl 0 rfl) ?_
      obtain ⟨hF21, hT21, ha21, hN21⟩ := ft_9_22 hn ha_a hT_a
      refine sg_getf (q := (a + 16)) hc hw ha_a hT_a fr_9_22 (by decide) k_895 dX9_goesUp_21 hF21 ?_
      refine lv_iload_n hx hb dX9_goesUp_24 rfl (lv_at hl 2 rfl) ?_
      refine lv_iconst (v := 0) hx hb dX9_goesUp_25 (by decide) ?_
      obtain ⟨hg26, hf⟩ := gd_of hf
      refine sg_ist hc hw ha21 hT21 hN21 hg26 dX9_goesUp_26 (fun H locs hw => ?_)
      obtain ⟨h26, hw, hf⟩ := sg_name hw hf
      refine lv_iinc (v := (x2 + 1)) (lv' := [(2, .int (x2 + 1)), (0, .ref (b + a)), (1, .int x1)]) hx hb dX9_goesUp_27 hl (k := 2) rfl rfl (by decide) rfl (fun ls hl => ?_)
      refine lv_goto (tgt := 14) hx hb dX9_goesUp_30 (by decide) ?_
      exact hrc14 _ hf _ _ _ hw (lv_sub hl [1, 2, 0] rfl)
  unfold F_X9_goesUp at hf
  refine lv_aload_n hx hb dX9_goesUp_0 rfl (lv_at hl 0 rfl) ?_
  obtain ⟨p1, hp1, hf⟩ := cl_of hf
  refine sg_vv (rest := []) (c_X9_startsUp hn ha_a hT_a hp1) hc hw hz hml hl ha_a hT_a (by decide) rfl cv_X9_185 ⟨⟨rfl, rfl⟩, Nat.le_trans (Nat.le_of_ble_eq_true rfl) hRf, Nat.le_trans (Nat.le_of_ble_eq_true rfl) hRl⟩ ⟨Nat.zero_le _, Nat.zero_le _⟩ rfl rfl (Nat.le_of_ble_eq_true rfl) dX9_goesUp_1 (fun h1 H locs hp hw => ?_)
  subst h1
  refine lv_aload_n hx hb dX9_goesUp_4 rfl (lv_at hl 0 rfl) ?_
  obtain ⟨hF5, hT5, ha5, hN5⟩ := ft_9_14 hn ha_a hT_a
  refine sg_getf (q := (a + 10)) hc hw ha_a hT_a fr_9_14 (by decide) k_887 dX9_goesUp_5 hF5 ?_
  obtain ⟨p8, hp8, hf⟩ := cl_of hf
  refine sg_si (rest := []) (c_X9_yardsOf hn ha5 hT5 hp8) hc hw hz hn0 hml hl cs_X9_116 ⟨⟨rfl, rfl⟩, Nat.le_trans (Nat.le_of_ble_eq_true rfl) hRf, Nat.le_trans (Nat.le_of_ble_eq_true rfl) hRl⟩ ⟨Nat.zero_le _, Nat.zero_le _⟩ rfl rfl (Nat.le_of_ble_eq_true rfl) dX9_goesUp_8 (fun r h1 H locs hp hw => ?_)
  obtain ⟨e1, e2⟩ := hp; subst r; subst h1
  refine lv_istore_n (lv' := [(1, .int p8), (0, .ref (b + a))]) hx hb dX9_goesUp_11 rfl hl (by decide) rfl (fun ls hl => ?_)
  refine lv_iconst (v := 0) hx hb dX9_goesUp_12 (by decide) ?_
  refine lv_istore_n (lv' := [(2, .int 0), (1, .int p8), (0, .ref (b + a))]) hx hb dX9_goesUp_13 rfl hl (by decide) rfl (fun ls hl => ?_)
  exact L14 p8 _ _ hf _ _ _ hw (lv_sub hl [2, 1, 0] rfl)
theorem c_X9_goesUp {l : Launch} {D : va_G} {cA : Nat → ClassId} {b n : Nat} (hn : sg_okN n) {a : Nat} (ha_a : a < n) (hT_a : sg_T a = 9) {h : HP} {Rz : HP} (hf : F_X9_goesUp a h = some Rz) : Met l yX9_goesUp (Cond.code yX9_goesUp cX9_goesUp 7 none :: sg_tbl) ({ frames := 4, cells := 0, slots := 0, locals := 96 } : Room) (va_Pc [.ref (b + a)] (sg_Wd D b cA n h)) (va_Qv (fun u => u = Rz) (sg_Wd D b cA n) (sg_A b)) 0 0 (sg_A b) := by
  refine Met.ofW (cc := cX9_goesUp) (maxL := 7) (ret := none) (by decide) rfl ?_
  intro p e s m args below meth c s₁ B hml hv
  obtain ⟨rfl, hP, hK, hz, hY, hN⟩ := hv
  have hl := lv_entry [.ref (b + a)] (n := 7) (Nat.le_of_ble_eq_true rfl)
  rw [lg_entry_eq]
  exact w_X9_goesUp hn ⟨B.exec, B.bytes, findClass_of_methodNamed B.named, fun w h => atoms_spec (ws := Cond.code yX9_goesUp cX9_goesUp 7 none :: sg_tbl) B.pre w (List.mem_cons_of_mem _ h), hK, hN⟩ hz B.returns B.notSynchronized hml (Nat.le_refl _) (Nat.le_refl _) ha_a hT_a hf _ _ _ ⟨hP, hY, va_S.rf⟩ hl
set_option maxHeartbeats 4000000 in
set_option maxRecDepth 100000 in
theorem w_X9_yard {p : Program} {l : Launch} {e : Env} {R : Room} {s : State} {m : MethodId} {args : Array Value} {below : List Frame} {meth : Method} {c : Code} {D : va_G} {cA : Nat → ClassId} {b n : Nat} (hn : sg_okN n) {a : Nat} {x1 : Int32} {x2 : Int32} {h : HP} {Rz : Int32 × HP} (hc : sg_Cx p s m args c cX9_yard RX9 D cA) (hz : s.heap.size = b + n) (hr : meth.sig.returnType = some .int) (hlocks : meth.locks = false) (hml : c.maxLocals = 4) (hRf : 5 ≤ R.frames) (hRl : 122 ≤ R.locals) (ha_a : a < n) (hT_a : sg_T a = 9) (hf : F_X9_yard a x1 x2 h = some Rz) (H : Heap) (locs : List Loc) (ls : Array Slot) (hw : sg_Wo D b cA n s.heap h H locs) (hl : lv_has ls 4 [(0, .ref (b + a)), (1, .int x1), (2, .int x2)]) : W p l e R s m args below meth c H locs 0 0 (sg_Qi below args s D b cA n (fun r u => r = Rz.1 ∧ u = Rz.2)) (F0 m 0 ls []) := by
  have hx := hc.1
  have hb := hc.2.1
  have hn0 : 0 < n := sg_pos hn
  unfold F_X9_yard at hf
  refine lv_aload_n hx hb dX9_yard_0 rfl (lv_at hl 0 rfl) ?_
  refine lv_iload_n hx hb dX9_yard_1 rfl (lv_at hl 1 rfl) ?_
  obtain ⟨p2, hp2, hf⟩ := cl_of hf
  refine sg_vi (rest := []) (c_X9_isYard hn ha_a hT_a hp2) hc hw hz hml hl ha_a hT_a (by decide) rfl cv_X9_209 ⟨⟨rfl, rfl⟩, Nat.le_trans (Nat.le_of_ble_eq_true rfl) hRf, Nat.le_trans (Nat.le_of_ble_eq_true rfl) hRl⟩ ⟨Nat.zero_le _, Nat.zero_le _⟩ rfl rfl (Nat.le_of_ble_eq_true rfl) dX9_yard_2 (fun r h1 H locs hp hw => ?_)
  obtain ⟨⟨e1, e2⟩, hb2⟩ := hp; subst r; subst h1
  refine lv_if_eq (tgt := 20) hx hb dX9_yard_5 (by decide) (fun c5 => ?_) (fun c5 => ?_)
  · have hf := if_of c5 hf
    refine lv_iconst (v := (-1)) hx hb dX9_yard_20 (by decide) ?_
    cases hf
    exact sg_iret hc hw hz hn0 hr hlocks ⟨rfl, rfl⟩ dX9_yard_21
  · have hf := if_no c5 hf
    refine lv_iload_n hx hb dX9_yard_8 rfl (lv_at hl 2 rfl) ?_
    refine lv_i2l hx hb dX9_yard_9 rfl ?_
    refine lv_lconst (v := 0) hx hb dX9_yard_10 (by decide) ?_
    refine lv_ldc2 hx hb hc.2.2.1 (hc.2.2.2.1 _ k_1026) dX9_yard_11 ?_
    obtain ⟨p14, hp14, hf⟩ := cl_of hf
    refine sg_si (rest := []) (c_X9_in hn (h := h) hp14) hc hw hz hn0 hml hl cs_X9_87 ⟨⟨rfl, rfl⟩, Nat.le_trans (Nat.le_of_ble_eq_true rfl) hRf, Nat.le_trans (Nat.le_of_ble_eq_true rfl) hRl⟩ ⟨Nat.zero_le _, Nat.zero_le _⟩ rfl rfl (Nat.le_of_ble_eq_true rfl) dX9_yard_14 (fun r h1 H locs hp hw => ?_)
    obtain ⟨⟨e1, e2⟩, hb14⟩ := hp; subst r; subst h1
    refine lv_if_ne (tgt := 22) hx hb dX9_yard_17 (by decide) (fun c17 => ?_) (fun c17 => ?_)
    · have hf := if_no c17 hf
      refine lv_aload_n hx hb dX9_yard_22 rfl (lv_at hl 0 rfl) ?_
      obtain ⟨hF23, hT23, ha23, hN23⟩ := ft_9_0 hn ha_a hT_a
      refine sg_getf (q := (a + 1)) hc hw ha_a hT_a fr_9_0 (by decide) k_873 dX9_yard_23 hF23 ?_
      refine lv_iload_n hx hb dX9_yard_26 rfl (lv_at hl 1 rfl) ?_
      obtain ⟨p27, hp27, hf⟩ := cl_of hf
      refine sg_si (rest := []) (c_X9_stretchAt hn ha23 hT23 hp27) hc hw hz hn0 hml hl cs_X9_188 ⟨⟨rfl, rfl⟩, Nat.le_trans (Nat.le_of_ble_eq_true rfl) hRf, Nat.le_trans (Nat.le_of_ble_eq_true rfl) hRl⟩ ⟨Nat.zero_le _, Nat.zero_le _⟩ rfl rfl (Nat.le_of_ble_eq_true rfl) dX9_yard_27 (fun r h1 H locs hp hw => ?_)
      obtain ⟨e1, e2⟩ := hp; subst r; subst h1
      refine lv_istore_n (lv' := [(3, .int p27), (0, .ref (b + a)), (1, .int x1), (2, .int x2)]) hx hb dX9_yard_30 rfl hl (by decide) rfl (fun ls hl => ?_)
      refine lv_aload_n hx hb dX9_yard_31 rfl (lv_at hl 1 rfl) ?_
      obtain ⟨p32, hp32, hf⟩ := cl_of hf
      refine sg_vv (rest := []) (c_X9_asItIs hn ha_a hT_a hp32) hc hw hz hml hl ha_a hT_a (by decide) rfl cv_X9_214 ⟨⟨rfl, rfl⟩, Nat.le_trans (Nat.le_of_ble_eq_true rfl) hRf, Nat.le_trans (Nat.le_of_ble_eq_true rfl) hRl⟩ ⟨Nat.zero_le _, Nat.zero_le _⟩ rfl rfl (Nat.le_of_ble_eq_true rfl) dX9_yard_32 (fun h1 H locs hp hw => ?_)
      subst h1
      refine lv_iload_n hx hb dX9_yard_35 rfl (lv_at hl 3 rfl) ?_
      by_cases hk36_0 : x2 = 0
      · have hf := if_of hk36_0 hf
        refine lv_tableIn (off := 32) (tgt := 68) hx hb dX9_yard_36 (by rw [hk36_0]; decide) (by rw [hk36_0]; decide) (by rw [hk36_0]; decide) (by decide) ?_
        refine lv_iload_n hx hb dX9_yard_68 rfl (lv_at hl 0 rfl) ?_
        cases hf
        exact sg_iret hc hw hz hn0 hr hlocks ⟨rfl, rfl⟩ dX9_yard_69
      · have hf := if_no hk36_0 hf
        by_cases hk36_1 : x2 = 1
        · have hf := if_of hk36_1 hf
          refine lv_tableIn (off := 34) (tgt := 70) hx hb dX9_yard_36 (by rw [hk36_1]; decide) (by rw [hk36_1]; decide) (by rw [hk36_1]; decide) (by decide) ?_
          refine lv_aload_n hx hb dX9_yard_70 rfl (lv_at hl 1 rfl) ?_
          refine sg_getf (q := (a + 1)) hc hw ha_a hT_a fr_9_0 (by decide) k_873 dX9_yard_71 (ft_9_0 hn ha_a hT_a).1 ?_
          refine lv_bipush (v := 10) hx hb dX9_yard_74 (by decide) ?_
          refine lv_iload_n hx hb dX9_yard_76 rfl (lv_at hl 0 rfl) ?_
          refine lv_iadd hx hb dX9_yard_77 ?_
          obtain ⟨hg78, hf⟩ := gd_of hf
          refine sg_ild hc hw ha23 hT23 hN23 hg78 dX9_yard_78 ?_
          cases hf
          exact sg_iret hc hw hz hn0 hr hlocks ⟨rfl, rfl⟩ dX9_yard_79
        · have hf := if_no hk36_1 hf
          by_cases hk36_2 : x2 = 2
          · have hf := if_of hk36_2 hf
            refine lv_tableIn (off := 44) (tgt := 80) hx hb dX9_yard_36 (by rw [hk36_2]; decide) (by rw [hk36_2]; decide) (by rw [hk36_2]; decide) (by decide) ?_
            refine lv_aload_n hx hb dX9_yard_80 rfl (lv_at hl 1 rfl) ?_
            refine sg_getf (q := (a + 1)) hc hw ha_a hT_a fr_9_0 (by decide) k_873 dX9_yard_81 (ft_9_0 hn ha_a hT_a).1 ?_
            refine lv_bipush (v := 16) hx hb dX9_yard_84 (by decide) ?_
            refine lv_iload_n hx hb dX9_yard_86 rfl (lv_at hl 0 rfl) ?_
            refine lv_iadd hx hb dX9_yard_87 ?_
            obtain ⟨hg88, hf⟩ := gd_of hf
            refine sg_ild hc hw ha23 hT23 hN23 hg88 dX9_yard_88 ?_
            cases hf
            exact sg_iret hc hw hz hn0 hr hlocks ⟨rfl, rfl⟩ dX9_yard_89
          · have hf := if_no hk36_2 hf
            by_cases hk36_3 : x2 = 3
            · have hf := if_of hk36_3 hf
              refine lv_tableIn (off := 54) (tgt := 90) hx hb dX9_yard_36 (by rw [hk36_3]; decide) (by rw [hk36_3]; decide) (by rw [hk36_3]; decide) (by decide) ?_
              refine lv_aload_n hx hb dX9_yard_90 rfl (lv_at hl 1 rfl) ?_
              refine lv_iload_n hx hb dX9_yard_91 rfl (lv_at hl 2 rfl) ?_
              obtain ⟨p92, hp92, hf⟩ := cl_of hf
              refine sg_vi (rest := []) (c_X9_tolds hn ha_a hT_a hp92) hc hw hz hml hl ha_a hT_a (by decide) rfl cv_X9_195 ⟨⟨rfl, rfl⟩, Nat.le_trans (Nat.le_of_ble_eq_true rfl) hRf, Nat.le_trans (Nat.le_of_ble_eq_true rfl) hRl⟩ ⟨Nat.zero_le _, Nat.zero_le _⟩ rfl rfl (Nat.le_of_ble_eq_true rfl) dX9_yard_92 (fun r h1 H locs hp hw => ?_)
              obtain ⟨e1, e2⟩ := hp; subst r; subst h1
              cases hf
              exact sg_iret hc hw hz hn0 hr hlocks ⟨rfl, rfl⟩ dX9_yard_95
            · have hf := if_no hk36_3 hf
              refine lv_tableOut (tgt := 96) hx hb dX9_yard_36 (by have e0 := sg_ne hk36_0 (k := 0) (by decide); have e1 := sg_ne hk36_1 (k := 1) (by decide); have e2 := sg_ne hk36_2 (k := 2) (by decide); have e3 := sg_ne hk36_3 (k := 3) (by decide); omega) (by decide) ?_
              refine lv_aload_n hx hb dX9_yard_96 rfl (lv_at hl 1 rfl) ?_
              obtain ⟨p97, hp97, hf⟩ := cl_of hf
              refine sg_vv (rest := []) (c_X9_goesUp hn ha_a hT_a hp97) hc hw hz hml hl ha_a hT_a (by decide) rfl cv_X9_217 ⟨⟨rfl, rfl⟩, Nat.le_trans (Nat.le_of_ble_eq_true rfl) hRf, Nat.le_trans (Nat.le_of_ble_eq_true rfl) hRl⟩ ⟨Nat.zero_le _, Nat.zero_le _⟩ rfl rfl (Nat.le_of_ble_eq_true rfl) dX9_yard_97 (fun h1 H locs hp hw => ?_)
              subst h1
              refine lv_aload_n hx hb dX9_yard_100 rfl (lv_at hl 1 rfl) ?_
              obtain ⟨hF101, hT101, ha101, hN101⟩ := ft_9_22 hn ha_a hT_a
              refine sg_getf (q := (a + 16)) hc hw ha_a hT_a fr_9_22 (by decide) k_895 dX9_yard_101 hF101 ?_
              refine lv_iload_n hx hb dX9_yard_104 rfl (lv_at hl 2 rfl) ?_
              obtain ⟨hg105, hf⟩ := gd_of hf
              refine sg_ild hc hw ha101 hT101 hN101 hg105 dX9_yard_105 ?_
              cases hf
              exact sg_iret hc hw hz hn0 hr hlocks ⟨rfl, rfl⟩ dX9_yard_106
    · have hf := if_of c17 hf
      refine lv_iconst (v := (-1)) hx hb dX9_yard_20 (by decide) ?_
      cases hf
      exact sg_iret hc hw hz hn0 hr hlocks ⟨rfl, rfl⟩ dX9_yard_21
theorem c_X9_yard {l : Launch} {D : va_G} {cA : Nat → ClassId} {b n : Nat} (hn : sg_okN n) {a : Nat} {x1 : Int32} {x2 : Int32} (ha_a : a < n) (hT_a : sg_T a = 9) {h : HP} {Rz : Int32 × HP} (hf : F_X9_yard a x1 x2 h = some Rz) : Met l yX9_yard (Cond.code yX9_yard cX9_yard 4 (some .int) :: sg_tbl) ({ frames := 5, cells := 0, slots := 0, locals := 122 } : Room) (va_Pc [.ref (b + a), .int x1, .int x2] (sg_Wd D b cA n h)) (va_Qi (fun r u => r = Rz.1 ∧ u = Rz.2) (sg_Wd D b cA n) (sg_A b)) 0 0 (sg_A b) := by
  refine Met.ofW (cc := cX9_yard) (maxL := 4) (ret := (some .int)) (by decide) rfl ?_
  intro p e s m args below meth c s₁ B hml hv
  obtain ⟨rfl, hP, hK, hz, hY, hN⟩ := hv
  have hl := lv_entry [.ref (b + a), .int x1, .int x2] (n := 4) (Nat.le_of_ble_eq_true rfl)
  rw [lg_entry_eq]
  exact w_X9_yard hn ⟨B.exec, B.bytes, findClass_of_methodNamed B.named, fun w h => atoms_spec (ws := Cond.code yX9_yard cX9_yard 4 (some .int) :: sg_tbl) B.pre w (List.mem_cons_of_mem _ h), hK, hN⟩ hz B.returns B.notSynchronized hml (Nat.le_refl _) (Nat.le_refl _) ha_a hT_a hf _ _ _ ⟨hP, hY, va_S.rf⟩ hl
set_option maxHeartbeats 4000000 in
set_option maxRecDepth 100000 in
theorem w_X9_bearer {p : Program} {l : Launch} {e : Env} {R : Room} {s : State} {m : MethodId} {args : Array Value} {below : List Frame} {meth : Method} {c : Code} {D : va_G} {cA : Nat → ClassId} {b n : Nat} (hn : sg_okN n) {a : Nat} {x1 : Int32} {x2 : Int32} {h : HP} {Rz : Int32 × HP} (hc : sg_Cx p s m args c cX9_bearer RX9 D cA) (hz : s.heap.size = b + n) (hr : meth.sig.returnType = some .int) (hlocks : meth.locks = false) (hml : c.maxLocals = 3) (hRf : 5 ≤ R.frames) (hRl : 122 ≤ R.locals) (ha_a : a < n) (hT_a : sg_T a = 9) (hf : F_X9_bearer a x1 x2 h = some Rz) (H : Heap) (locs : List Loc) (ls : Array Slot) (hw : sg_Wo D b cA n s.heap h H locs) (hl : lv_has ls 3 [(0, .ref (b + a)), (1, .int x1), (2, .int x2)]) : W p l e R s m args below meth c H locs 0 0 (sg_Qi below args s D b cA n (fun r u => r = Rz.1 ∧ u = Rz.2)) (F0 m 0 ls []) := by
  have hx := hc.1
  have hb := hc.2.1
  have hn0 : 0 < n := sg_pos hn
  unfold F_X9_bearer at hf
  refine lv_aload_n hx hb dX9_bearer_0 rfl (lv_at hl 0 rfl) ?_
  refine lv_iload_n hx hb dX9_bearer_1 rfl (lv_at hl 1 rfl) ?_
  obtain ⟨p2, hp2, hf⟩ := cl_of hf
  refine sg_vi (rest := []) (c_X9_isBearer hn ha_a hT_a hp2) hc hw hz hml hl ha_a hT_a (by decide) rfl cv_X9_220 ⟨⟨rfl, rfl⟩, Nat.le_trans (Nat.le_of_ble_eq_true rfl) hRf, Nat.le_trans (Nat.le_of_ble_eq_true rfl) hRl⟩ ⟨Nat.zero_le _, Nat.zero_le _⟩ rfl rfl (Nat.le_of_ble_eq_true rfl) dX9_bearer_2 (fun r h1 H locs hp hw => ?_)
  obtain ⟨⟨e1, e2⟩, hb2⟩ := hp; subst r; subst h1
  refine lv_if_eq (tgt := 20) hx hb dX9_bearer_5 (by decide) (fun c5 => ?_) (fun c5 => ?_)
  · have hf := if_of c5 hf
    refine lv_iconst (v := (-1)) hx hb dX9_bearer_20 (by decide) ?_
    cases hf
    exact sg_iret hc hw hz hn0 hr hlocks ⟨rfl, rfl⟩ dX9_bearer_21
  · have hf := if_no c5 hf
    refine lv_iload_n hx hb dX9_bearer_8 rfl (lv_at hl 2 rfl) ?_
    refine lv_i2l hx hb dX9_bearer_9 rfl ?_
    refine lv_lconst (v := 0) hx hb dX9_bearer_10 (by decide) ?_
    refine lv_ldc2 hx hb hc.2.2.1 (hc.2.2.2.1 _ k_1086) dX9_bearer_11 ?_
    obtain ⟨p14, hp14, hf⟩ := cl_of hf
    refine sg_si (rest := []) (c_X9_in hn (h := h) hp14) hc hw hz hn0 hml hl cs_X9_87 ⟨⟨rfl, rfl⟩, Nat.le_trans (Nat.le_of_ble_eq_true rfl) hRf, Nat.le_trans (Nat.le_of_ble_eq_true rfl) hRl⟩ ⟨Nat.zero_le _, Nat.zero_le _⟩ rfl rfl (Nat.le_of_ble_eq_true rfl) dX9_bearer_14 (fun r h1 H locs hp hw => ?_)
    obtain ⟨⟨e1, e2⟩, hb14⟩ := hp; subst r; subst h1
    refine lv_if_ne (tgt := 22) hx hb dX9_bearer_17 (by decide) (fun c17 => ?_) (fun c17 => ?_)
    · have hf := if_no c17 hf
      refine lv_aload_n hx hb dX9_bearer_22 rfl (lv_at hl 0 rfl) ?_
      obtain ⟨p23, hp23, hf⟩ := cl_of hf
      refine sg_vv (rest := []) (c_X9_asItIs hn ha_a hT_a hp23) hc hw hz hml hl ha_a hT_a (by decide) rfl cv_X9_214 ⟨⟨rfl, rfl⟩, Nat.le_trans (Nat.le_of_ble_eq_true rfl) hRf, Nat.le_trans (Nat.le_of_ble_eq_true rfl) hRl⟩ ⟨Nat.zero_le _, Nat.zero_le _⟩ rfl rfl (Nat.le_of_ble_eq_true rfl) dX9_bearer_23 (fun h1 H locs hp hw => ?_)
      subst h1
      refine lv_aload_n hx hb dX9_bearer_26 rfl (lv_at hl 0 rfl) ?_
      obtain ⟨p27, hp27, hf⟩ := cl_of hf
      refine sg_vv (rest := []) (c_X9_goesUp hn ha_a hT_a hp27) hc hw hz hml hl ha_a hT_a (by decide) rfl cv_X9_217 ⟨⟨rfl, rfl⟩, Nat.le_trans (Nat.le_of_ble_eq_true rfl) hRf, Nat.le_trans (Nat.le_of_ble_eq_true rfl) hRl⟩ ⟨Nat.zero_le _, Nat.zero_le _⟩ rfl rfl (Nat.le_of_ble_eq_true rfl) dX9_bearer_27 (fun h1 H locs hp hw => ?_)
      subst h1
      refine lv_iload_n hx hb dX9_bearer_30 rfl (lv_at hl 2 rfl) ?_
      by_cases hk31_0 : x2 = 0
      · have hf := if_of hk31_0 hf
        refine lv_tableIn (off := 33) (tgt := 64) hx hb dX9_bearer_31 (by rw [hk31_0]; decide) (by rw [hk31_0]; decide) (by rw [hk31_0]; decide) (by decide) ?_
        refine lv_aload_n hx hb dX9_bearer_64 rfl (lv_at hl 0 rfl) ?_
        obtain ⟨hF65, hT65, ha65, hN65⟩ := ft_9_0 hn ha_a hT_a
        refine sg_getf (q := (a + 1)) hc hw ha_a hT_a fr_9_0 (by decide) k_873 dX9_bearer_65 hF65 ?_
        refine lv_bipush (v := 22) hx hb dX9_bearer_68 (by decide) ?_
        refine lv_iload_n hx hb dX9_bearer_70 rfl (lv_at hl 1 rfl) ?_
        refine lv_iadd hx hb dX9_bearer_71 ?_
        obtain ⟨hg72, hf⟩ := gd_of hf
        refine sg_ild hc hw ha65 hT65 hN65 hg72 dX9_bearer_72 ?_
        cases hf
        exact sg_iret hc hw hz hn0 hr hlocks ⟨rfl, rfl⟩ dX9_bearer_73
      · have hf := if_no hk31_0 hf
        by_cases hk31_1 : x2 = 1
        · have hf := if_of hk31_1 hf
          refine lv_tableIn (off := 43) (tgt := 74) hx hb dX9_bearer_31 (by rw [hk31_1]; decide) (by rw [hk31_1]; decide) (by rw [hk31_1]; decide) (by decide) ?_
          refine lv_aload_n hx hb dX9_bearer_74 rfl (lv_at hl 0 rfl) ?_
          obtain ⟨hF75, hT75, ha75, hN75⟩ := ft_9_0 hn ha_a hT_a
          refine sg_getf (q := (a + 1)) hc hw ha_a hT_a fr_9_0 (by decide) k_873 dX9_bearer_75 hF75 ?_
          refine lv_bipush (v := 28) hx hb dX9_bearer_78 (by decide) ?_
          refine lv_iload_n hx hb dX9_bearer_80 rfl (lv_at hl 1 rfl) ?_
          refine lv_iadd hx hb dX9_bearer_81 ?_
          obtain ⟨hg82, hf⟩ := gd_of hf
          refine sg_ild hc hw ha75 hT75 hN75 hg82 dX9_bearer_82 ?_
          cases hf
          exact sg_iret hc hw hz hn0 hr hlocks ⟨rfl, rfl⟩ dX9_bearer_83
        · have hf := if_no hk31_1 hf
          by_cases hk31_2 : x2 = 2
          · have hf := if_of hk31_2 hf
            refine lv_tableIn (off := 53) (tgt := 84) hx hb dX9_bearer_31 (by rw [hk31_2]; decide) (by rw [hk31_2]; decide) (by rw [hk31_2]; decide) (by decide) ?_
            refine lv_aload_n hx hb dX9_bearer_84 rfl (lv_at hl 0 rfl) ?_
            obtain ⟨hF85, hT85, ha85, hN85⟩ := ft_9_18 hn ha_a hT_a
            refine sg_getf (q := (a + 12)) hc hw ha_a hT_a fr_9_18 (by decide) k_891 dX9_bearer_85 hF85 ?_
            refine lv_iload_n hx hb dX9_bearer_88 rfl (lv_at hl 1 rfl) ?_
            obtain ⟨hg89, hf⟩ := gd_of hf
            refine sg_ild hc hw ha85 hT85 hN85 hg89 dX9_bearer_89 ?_
            cases hf
            exact sg_iret hc hw hz hn0 hr hlocks ⟨rfl, rfl⟩ dX9_bearer_90
          · have hf := if_no hk31_2 hf
            by_cases hk31_3 : x2 = 3
            · have hf := if_of hk31_3 hf
              refine lv_tableIn (off := 60) (tgt := 91) hx hb dX9_bearer_31 (by rw [hk31_3]; decide) (by rw [hk31_3]; decide) (by rw [hk31_3]; decide) (by decide) ?_
              refine lv_aload_n hx hb dX9_bearer_91 rfl (lv_at hl 0 rfl) ?_
              obtain ⟨hF92, hT92, ha92, hN92⟩ := ft_9_19 hn ha_a hT_a
              refine sg_getf (q := (a + 13)) hc hw ha_a hT_a fr_9_19 (by decide) k_892 dX9_bearer_92 hF92 ?_
              refine lv_iload_n hx hb dX9_bearer_95 rfl (lv_at hl 1 rfl) ?_
              obtain ⟨hg96, hf⟩ := gd_of hf
              refine sg_ild hc hw ha92 hT92 hN92 hg96 dX9_bearer_96 ?_
              cases hf
              exact sg_iret hc hw hz hn0 hr hlocks ⟨rfl, rfl⟩ dX9_bearer_97
            · have hf := if_no hk31_3 hf
              by_cases hk31_4 : x2 = 4
              · have hf := if_of hk31_4 hf
                refine lv_tableIn (off := 67) (tgt := 98) hx hb dX9_bearer_31 (by rw [hk31_4]; decide) (by rw [hk31_4]; decide) (by rw [hk31_4]; decide) (by decide) ?_
                refine lv_aload_n hx hb dX9_bearer_98 rfl (lv_at hl 0 rfl) ?_
                obtain ⟨hF99, hT99, ha99, hN99⟩ := ft_9_20 hn ha_a hT_a
                refine sg_getf (q := (a + 14)) hc hw ha_a hT_a fr_9_20 (by decide) k_893 dX9_bearer_99 hF99 ?_
                refine lv_iload_n hx hb dX9_bearer_102 rfl (lv_at hl 1 rfl) ?_
                obtain ⟨hg103, hf⟩ := gd_of hf
                refine sg_ild hc hw ha99 hT99 hN99 hg103 dX9_bearer_103 ?_
                refine lv_if_ge (tgt := 112) hx hb dX9_bearer_104 (by decide) (fun c104 => ?_) (fun c104 => ?_)
                · have hf := if_of c104 hf
                  refine lv_aload_n hx hb dX9_bearer_112 rfl (lv_at hl 0 rfl) ?_
                  refine sg_getf (q := (a + 14)) hc hw ha_a hT_a fr_9_20 (by decide) k_893 dX9_bearer_113 (ft_9_20 hn ha_a hT_a).1 ?_
                  refine lv_iload_n hx hb dX9_bearer_116 rfl (lv_at hl 1 rfl) ?_
                  obtain ⟨hg117, hf⟩ := gd_of hf
                  refine sg_ild hc hw ha99 hT99 hN99 hg117 dX9_bearer_117 ?_
                  cases hf
                  exact sg_iret hc hw hz hn0 hr hlocks ⟨rfl, rfl⟩ dX9_bearer_118
                · have hf := if_no c104 hf
                  refine lv_bipush (v := (-4)) hx hb dX9_bearer_107 (by decide) ?_
                  refine lv_goto (tgt := 118) hx hb dX9_bearer_109 (by decide) ?_
                  cases hf
                  exact sg_iret hc hw hz hn0 hr hlocks ⟨rfl, rfl⟩ dX9_bearer_118
              · have hf := if_no hk31_4 hf
                refine lv_tableOut (tgt := 119) hx hb dX9_bearer_31 (by have e0 := sg_ne hk31_0 (k := 0) (by decide); have e1 := sg_ne hk31_1 (k := 1) (by decide); have e2 := sg_ne hk31_2 (k := 2) (by decide); have e3 := sg_ne hk31_3 (k := 3) (by decide); have e4 := sg_ne hk31_4 (k := 4) (by decide); omega) (by decide) ?_
                refine lv_aload_n hx hb dX9_bearer_119 rfl (lv_at hl 0 rfl) ?_
                obtain ⟨hF120, hT120, ha120, hN120⟩ := ft_9_21 hn ha_a hT_a
                refine sg_getf (q := (a + 15)) hc hw ha_a hT_a fr_9_21 (by decide) k_894 dX9_bearer_120 hF120 ?_
                refine lv_iload_n hx hb dX9_bearer_123 rfl (lv_at hl 1 rfl) ?_
                obtain ⟨hg124, hf⟩ := gd_of hf
                refine sg_ild hc hw ha120 hT120 hN120 hg124 dX9_bearer_124 ?_
                cases hf
                exact sg_iret hc hw hz hn0 hr hlocks ⟨rfl, rfl⟩ dX9_bearer_125
    · have hf := if_of c17 hf
      refine lv_iconst (v := (-1)) hx hb dX9_bearer_20 (by decide) ?_
      cases hf
      exact sg_iret hc hw hz hn0 hr hlocks ⟨rfl, rfl⟩ dX9_bearer_21
theorem c_X9_bearer {l : Launch} {D : va_G} {cA : Nat → ClassId} {b n : Nat} (hn : sg_okN n) {a : Nat} {x1 : Int32} {x2 : Int32} (ha_a : a < n) (hT_a : sg_T a = 9) {h : HP} {Rz : Int32 × HP} (hf : F_X9_bearer a x1 x2 h = some Rz) : Met l yX9_bearer (Cond.code yX9_bearer cX9_bearer 3 (some .int) :: sg_tbl) ({ frames := 5, cells := 0, slots := 0, locals := 122 } : Room) (va_Pc [.ref (b + a), .int x1, .int x2] (sg_Wd D b cA n h)) (va_Qi (fun r u => r = Rz.1 ∧ u = Rz.2) (sg_Wd D b cA n) (sg_A b)) 0 0 (sg_A b) := by
  refine Met.ofW (cc := cX9_bearer) (maxL := 3) (ret := (some .int)) (by decide) rfl ?_
  intro p e s m args below meth c s₁ B hml hv
  obtain ⟨rfl, hP, hK, hz, hY, hN⟩ := hv
  have hl := lv_entry [.ref (b + a), .int x1, .int x2] (n := 3) (Nat.le_of_ble_eq_true rfl)
  rw [lg_entry_eq]
  exact w_X9_bearer hn ⟨B.exec, B.bytes, findClass_of_methodNamed B.named, fun w h => atoms_spec (ws := Cond.code yX9_bearer cX9_bearer 3 (some .int) :: sg_tbl) B.pre w (List.mem_cons_of_mem _ h), hK, hN⟩ hz B.returns B.notSynchronized hml (Nat.le_refl _) (Nat.le_refl _) ha_a hT_a hf _ _ _ ⟨hP, hY, va_S.rf⟩ hl
set_option maxHeartbeats 4000000 in
set_option maxRecDepth 100000 in
theorem w_X9_stands {p : Program} {l : Launch} {e : Env} {R : Room} {s : State} {m : MethodId} {args : Array Value} {below : List Frame} {meth : Method} {c : Code} {D : va_G} {cA : Nat → ClassId} {b n : Nat} (hn : sg_okN n) {a : Nat} {h : HP} {Rz : Int32 × HP} (hc : sg_Cx p s m args c cX9_stands RX9 D cA) (hz : s.heap.size = b + n) (hr : meth.sig.returnType = some .int) (hlocks : meth.locks = false) (hml : c.maxLocals = 1) (hRf : 5 ≤ R.frames) (hRl : 122 ≤ R.locals) (ha_a : a < n) (hT_a : sg_T a = 9) (hf : F_X9_stands a h = some Rz) (H : Heap) (locs : List Loc) (ls : Array Slot) (hw : sg_Wo D b cA n s.heap h H locs) (hl : lv_has ls 1 [(0, .ref (b + a))]) : W p l e R s m args below meth c H locs 0 0 (sg_Qi below args s D b cA n (fun r u => r = Rz.1 ∧ u = Rz.2)) (F0 m 0 ls []) := by
  have hx := hc.1
  have hb := hc.2.1
  have hn0 : 0 < n := sg_pos hn
  unfold F_X9_stands at hf
  refine lv_aload_n hx hb dX9_stands_0 rfl (lv_at hl 0 rfl) ?_
  obtain ⟨p1, hp1, hf⟩ := cl_of hf
  refine sg_vv (rest := []) (c_X9_asItIs hn ha_a hT_a hp1) hc hw hz hml hl ha_a hT_a (by decide) rfl cv_X9_214 ⟨⟨rfl, rfl⟩, Nat.le_trans (Nat.le_of_ble_eq_true rfl) hRf, Nat.le_trans (Nat.le_of_ble_eq_true rfl) hRl⟩ ⟨Nat.zero_le _, Nat.zero_le _⟩ rfl rfl (Nat.le_of_ble_eq_true rfl) dX9_stands_1 (fun h1 H locs hp hw => ?_)
  subst h1
  refine lv_aload_n hx hb dX9_stands_4 rfl (lv_at hl 0 rfl) ?_
  obtain ⟨p5, hp5, hf⟩ := cl_of hf
  refine sg_vv (rest := []) (c_X9_goesUp hn ha_a hT_a hp5) hc hw hz hml hl ha_a hT_a (by decide) rfl cv_X9_217 ⟨⟨rfl, rfl⟩, Nat.le_trans (Nat.le_of_ble_eq_true rfl) hRf, Nat.le_trans (Nat.le_of_ble_eq_true rfl) hRl⟩ ⟨Nat.zero_le _, Nat.zero_le _⟩ rfl rfl (Nat.le_of_ble_eq_true rfl) dX9_stands_5 (fun h1 H locs hp hw => ?_)
  subst h1
  refine lv_aload_n hx hb dX9_stands_8 rfl (lv_at hl 0 rfl) ?_
  refine sg_geti hc hw ha_a hT_a fi_9_23 k_896 dX9_stands_9 ?_
  cases hf
  exact sg_iret hc hw hz hn0 hr hlocks ⟨rfl, rfl⟩ dX9_stands_12
theorem c_X9_stands {l : Launch} {D : va_G} {cA : Nat → ClassId} {b n : Nat} (hn : sg_okN n) {a : Nat} (ha_a : a < n) (hT_a : sg_T a = 9) {h : HP} {Rz : Int32 × HP} (hf : F_X9_stands a h = some Rz) : Met l yX9_stands (Cond.code yX9_stands cX9_stands 1 (some .int) :: sg_tbl) ({ frames := 5, cells := 0, slots := 0, locals := 122 } : Room) (va_Pc [.ref (b + a)] (sg_Wd D b cA n h)) (va_Qi (fun r u => r = Rz.1 ∧ u = Rz.2) (sg_Wd D b cA n) (sg_A b)) 0 0 (sg_A b) := by
  refine Met.ofW (cc := cX9_stands) (maxL := 1) (ret := (some .int)) (by decide) rfl ?_
  intro p e s m args below meth c s₁ B hml hv
  obtain ⟨rfl, hP, hK, hz, hY, hN⟩ := hv
  have hl := lv_entry [.ref (b + a)] (n := 1) (Nat.le_of_ble_eq_true rfl)
  rw [lg_entry_eq]
  exact w_X9_stands hn ⟨B.exec, B.bytes, findClass_of_methodNamed B.named, fun w h => atoms_spec (ws := Cond.code yX9_stands cX9_stands 1 (some .int) :: sg_tbl) B.pre w (List.mem_cons_of_mem _ h), hK, hN⟩ hz B.returns B.notSynchronized hml (Nat.le_refl _) (Nat.le_refl _) ha_a hT_a hf _ _ _ ⟨hP, hY, va_S.rf⟩ hl
set_option maxHeartbeats 4000000 in
set_option maxRecDepth 100000 in
theorem w_X9_fraction {p : Program} {l : Launch} {e : Env} {R : Room} {s : State} {m : MethodId} {args : Array Value} {below : List Frame} {meth : Method} {c : Code} {D : va_G} {cA : Nat → ClassId} {b n : Nat} (hn : sg_okN n) {z0 : Int64} {z2 : Int64} {x4 : Int32} {h : HP} {Rz : Int32} (hc : sg_Cx p s m args c cX9_fraction RX9 D cA) (hz : s.heap.size = b + n) (hr : meth.sig.returnType = some .int) (hlocks : meth.locks = false) (hml : c.maxLocals = 11) (hRf : 0 ≤ R.frames) (hRl : 0 ≤ R.locals) (hf : F_X9_fraction z0 z2 x4 = some Rz) (H : Heap) (locs : List Loc) (ls : Array Slot) (hw : sg_Wo D b cA n s.heap h H locs) (hl : lv_has ls 11 [(0, .long z0), (2, .long z2), (4, .int x4)]) : W p l e R s m args below meth c H locs 0 0 (sg_Qi below args s D b cA n (fun r u => r = Rz ∧ u = h)) (F0 m 0 ls []) := by
  have hx := hc.1
  have hb := hc.2.1
  have hn0 : 0 < n := sg_pos hn
  have J41 : ∀ (z5 : Int64) (s0 : Int64) (H : Heap) (locs : List Loc) (ls : Array Slot), F_X9_fraction_J41 z5 s0 = some Rz → sg_Wo D b cA n s.heap h H locs → lv_has ls 11 [(5, .long z5)] → W p l e R s m args below meth c H locs 0 0 (sg_Qi below args s D b cA n (fun r u => r = Rz ∧ u = h)) (F0 m 41 ls [.long s0]) := by
    intro z5 s0 H locs ls hf hw hl
    unfold F_X9_fraction_J41 at hf
    refine lv_lload hx hb dX9_fraction_41 (lv_at hl 0 rfl) ?_
    obtain ⟨hg43, hf⟩ := gzl_of hf
    refine lv_ldiv hx hb dX9_fraction_43 hg43 ?_
    refine lv_l2i hx hb dX9_fraction_44 rfl ?_
    cases hf
    exact sg_iret hc hw hz hn0 hr hlocks ⟨rfl, rfl⟩ dX9_fraction_45
  have J31 : ∀ (z5 : Int64) (H : Heap) (locs : List Loc) (ls : Array Slot), F_X9_fraction_J31 z0 z2 x4 z5 = some Rz → sg_Wo D b cA n s.heap h H locs → lv_has ls 11 [(0, .long z0), (2, .long z2), (4, .int x4), (5, .long z5)] → W p l e R s m args below meth c H locs 0 0 (sg_Qi below args s D b cA n (fun r u => r = Rz ∧ u = h)) (F0 m 31 ls []) := by
    intro z5 H locs ls hf hw hl
    unfold F_X9_fraction_J31 at hf
    refine lv_iload hx hb dX9_fraction_31 (lv_at hl 2 rfl) ?_
    refine lv_if_ne (tgt := 40) hx hb dX9_fraction_33 (by decide) (fun c33 => ?_) (fun c33 => ?_)
    · have hf := if_no c33 hf
      refine lv_lload_n hx hb dX9_fraction_40 rfl (lv_at hl 1 rfl) ?_
      exact J41 z5 z2 _ _ _ hf hw (lv_sub hl [3] rfl)
    · have hf := if_of c33 hf
      refine lv_lload_n hx hb dX9_fraction_36 rfl (lv_at hl 0 rfl) ?_
      refine lv_goto (tgt := 41) hx hb dX9_fraction_37 (by decide) ?_
      exact J41 z5 z0 _ _ _ hf hw (lv_sub hl [3] rfl)
  have L6 : ∀ (k : Nat) (x : (Int64 × Int64)), F_X9_fraction_L6 z0 z2 x4 k x = some Rz → ∀ (H : Heap) (locs : List Loc) (ls : Array Slot), sg_Wo D b cA n s.heap h H locs → lv_has ls 11 [(0, .long z0), (2, .long z2), (4, .int x4), (5, .long x.1), (7, .long x.2)] → W p l e R s m args below meth c H locs 0 0 (sg_Qi below args s D b cA n (fun r u => r = Rz ∧ u = h)) (F0 m 6 ls []) := by
    unfold F_X9_fraction_L6
    refine lp_walk ?_
    intro rc6 hrc6 x hf H locs ls hw hl
    obtain ⟨z5, z7⟩ := x
    dsimp only at hf hw hl
    refine lv_lload hx hb dX9_fraction_6 (lv_at hl 4 rfl) ?_
    refine lv_lconst (v := 0) hx hb dX9_fraction_8 (by decide) ?_
    refine W.lcmp hx hb dX9_fraction_9 ?_
    refine lv_if_eq (tgt := 31) hx hb dX9_fraction_10 (by decide) (fun c10 => ?_) (fun c10 => ?_)
    · have hf := if_of c10 hf
      exact J31 z5 _ _ _ hf hw (lv_sub hl [0, 1, 2, 3] rfl)
    · have hf := if_no c10 hf
      refine lv_lload hx hb dX9_fraction_13 (lv_at hl 3 rfl) ?_
      refine lv_lload hx hb dX9_fraction_15 (lv_at hl 4 rfl) ?_
      obtain ⟨hg17, hf⟩ := gzl_of hf
      refine lv_lrem hx hb dX9_fraction_17 hg17 ?_
      refine lv_topl (fun v18 e18 => ?_)
      have hf := nm_of e18 hf
      refine lv_lstore (lv' := [(9, .long v18), (0, .long z0), (2, .long z2), (4, .int x4), (5, .long z5), (7, .long z7)]) hx hb dX9_fraction_18 hl (by decide) rfl (fun ls hl => ?_)
      refine lv_lload hx hb dX9_fraction_20 (lv_at hl 5 rfl) ?_
      refine lv_lstore (lv' := [(5, .long z7), (9, .long v18), (0, .long z0), (2, .long z2), (4, .int x4), (7, .long z7)]) hx hb dX9_fraction_22 hl (by decide) rfl (fun ls hl => ?_)
      refine lv_lload hx hb dX9_fraction_24 (lv_at hl 1 rfl) ?_
      refine lv_lstore (lv' := [(7, .long v18), (5, .long z7), (9, .long v18), (0, .long z0), (2, .long z2), (4, .int x4)]) hx hb dX9_fraction_26 hl (by decide) rfl (fun ls hl => ?_)
      refine lv_goto (tgt := 6) hx hb dX9_fraction_28 (by decide) ?_
      exact hrc6 _ hf _ _ _ hw (lv_sub hl [3, 4, 5, 1, 0] rfl)
  unfold F_X9_fraction at hf
  refine lv_lload_n hx hb dX9_fraction_0 rfl (lv_at hl 0 rfl) ?_
  refine lv_lstore (lv' := [(5, .long z0), (0, .long z0), (2, .long z2), (4, .int x4)]) hx hb dX9_fraction_1 hl (by decide) rfl (fun ls hl => ?_)
  refine lv_lload_n hx hb dX9_fraction_3 rfl (lv_at hl 2 rfl) ?_
  refine lv_lstore (lv' := [(7, .long z2), (5, .long z0), (0, .long z0), (2, .long z2), (4, .int x4)]) hx hb dX9_fraction_4 hl (by decide) rfl (fun ls hl => ?_)
  exact L6 _ _ hf _ _ _ hw (lv_sub hl [2, 3, 4, 1, 0] rfl)
theorem c_X9_fraction {l : Launch} {D : va_G} {cA : Nat → ClassId} {b n : Nat} (hn : sg_okN n) {z0 : Int64} {z2 : Int64} {x4 : Int32} {h : HP} {Rz : Int32} (hf : F_X9_fraction z0 z2 x4 = some Rz) : Met l yX9_fraction (Cond.code yX9_fraction cX9_fraction 11 (some .int) :: sg_tbl) ({ frames := 0, cells := 0, slots := 0, locals := 0 } : Room) (va_Pc [.long z0, .long z2, .int x4] (sg_Wd D b cA n h)) (va_Qi (fun r u => r = Rz ∧ u = h) (sg_Wd D b cA n) (sg_A b)) 0 0 (sg_A b) := by
  refine Met.ofW (cc := cX9_fraction) (maxL := 11) (ret := (some .int)) (by decide) rfl ?_
  intro p e s m args below meth c s₁ B hml hv
  obtain ⟨rfl, hP, hK, hz, hY, hN⟩ := hv
  have hl := lv_entry [.long z0, .long z2, .int x4] (n := 11) (Nat.le_of_ble_eq_true rfl)
  rw [lg_entry_eq]
  exact w_X9_fraction hn ⟨B.exec, B.bytes, findClass_of_methodNamed B.named, fun w h => atoms_spec (ws := Cond.code yX9_fraction cX9_fraction 11 (some .int) :: sg_tbl) B.pre w (List.mem_cons_of_mem _ h), hK, hN⟩ hz B.returns B.notSynchronized hml (Nat.le_refl _) (Nat.le_refl _) hf _ _ _ ⟨hP, hY, va_S.rf⟩ hl
set_option maxHeartbeats 4000000 in
set_option maxRecDepth 100000 in
theorem w_X9_share {p : Program} {l : Launch} {e : Env} {R : Room} {s : State} {m : MethodId} {args : Array Value} {below : List Frame} {meth : Method} {c : Code} {D : va_G} {cA : Nat → ClassId} {b n : Nat} (hn : sg_okN n) {a : Nat} {x1 : Int32} {x2 : Int32} {h : HP} {Rz : Int32 × HP} (hc : sg_Cx p s m args c cX9_share RX9 D cA) (hz : s.heap.size = b + n) (hr : meth.sig.returnType = some .int) (hlocks : meth.locks = false) (hml : c.maxLocals = 5) (hRf : 5 ≤ R.frames) (hRl : 122 ≤ R.locals) (ha_a : a < n) (hT_a : sg_T a = 9) (hf : F_X9_share a x1 x2 h = some Rz) (H : Heap) (locs : List Loc) (ls : Array Slot) (hw : sg_Wo D b cA n s.heap h H locs) (hl : lv_has ls 5 [(0, .ref (b + a)), (1, .int x1), (2, .int x2)]) : W p l e R s m args below meth c H locs 0 0 (sg_Qi below args s D b cA n (fun r u => r = Rz.1 ∧ u = Rz.2)) (F0 m 0 ls []) := by
  have hx := hc.1
  have hb := hc.2.1
  have hn0 : 0 < n := sg_pos hn
  have J74 : ∀ (s0 : Int64) (s1 : Int64) (h : HP) (H : Heap) (locs : List Loc) (ls : Array Slot), F_X9_share_J74 a x2 s0 s1 h = some Rz → sg_Wo D b cA n s.heap h H locs → lv_has ls 5 [(2, .int x2)] → W p l e R s m args below meth c H locs 0 0 (sg_Qi below args s D b cA n (fun r u => r = Rz.1 ∧ u = Rz.2)) (F0 m 74 ls [.long s0, .long s1]) := by
    intro s0 s1 h H locs ls hf hw hl
    unfold F_X9_share_J74 at hf
    refine lv_iload_n hx hb dX9_share_74 rfl (lv_at hl 0 rfl) ?_
    obtain ⟨p75, hp75, hf⟩ := cl_of hf
    refine sg_si (rest := []) (c_X9_fraction hn (h := h) hp75) hc hw hz hn0 hml hl cs_X9_228 ⟨⟨rfl, rfl⟩, Nat.le_trans (Nat.le_of_ble_eq_true rfl) hRf, Nat.le_trans (Nat.le_of_ble_eq_true rfl) hRl⟩ ⟨Nat.zero_le _, Nat.zero_le _⟩ rfl rfl (Nat.le_of_ble_eq_true rfl) dX9_share_75 (fun r h1 H locs hp hw => ?_)
    obtain ⟨e1, e2⟩ := hp; subst r; subst h1
    cases hf
    exact sg_iret hc hw hz hn0 hr hlocks ⟨rfl, rfl⟩ dX9_share_78
  have J57 : ∀ (x3 : Int32) (h : HP) (H : Heap) (locs : List Loc) (ls : Array Slot), F_X9_share_J57 a x1 x2 x3 h = some Rz → sg_Wo D b cA n s.heap h H locs → lv_has ls 5 [(0, .ref (b + a)), (1, .int x1), (2, .int x2), (3, .int x3)] → W p l e R s m args below meth c H locs 0 0 (sg_Qi below args s D b cA n (fun r u => r = Rz.1 ∧ u = Rz.2)) (F0 m 57 ls []) := by
    intro x3 h H locs ls hf hw hl
    unfold F_X9_share_J57 at hf
    refine lv_aload_n hx hb dX9_share_57 rfl (lv_at hl 0 rfl) ?_
    obtain ⟨hF58, hT58, ha58, hN58⟩ := ft_9_19 hn ha_a hT_a
    refine sg_getf (q := (a + 13)) hc hw ha_a hT_a fr_9_19 (by decide) k_892 dX9_share_58 hF58 ?_
    refine lv_iload_n hx hb dX9_share_61 rfl (lv_at hl 1 rfl) ?_
    obtain ⟨hg62, hf⟩ := gd_of hf
    refine sg_ild hc hw ha58 hT58 hN58 hg62 dX9_share_62 ?_
    refine lv_i2l hx hb dX9_share_63 rfl ?_
    refine lv_iload_n hx hb dX9_share_64 rfl (lv_at hl 3 rfl) ?_
    refine lv_if_ne (tgt := 72) hx hb dX9_share_65 (by decide) (fun c65 => ?_) (fun c65 => ?_)
    · have hf := if_no c65 hf
      refine lv_iload_n hx hb dX9_share_72 rfl (lv_at hl 3 rfl) ?_
      refine lv_i2l hx hb dX9_share_73 rfl ?_
      exact J74 (x3.toInt64) ((ld h (a + 13) x1).toInt64) _ _ _ _ hf hw (lv_sub hl [2] rfl)
    · have hf := if_of c65 hf
      refine lv_lconst (v := 1) hx hb dX9_share_68 (by decide) ?_
      refine lv_goto (tgt := 74) hx hb dX9_share_69 (by decide) ?_
      exact J74 1 ((ld h (a + 13) x1).toInt64) _ _ _ _ hf hw (lv_sub hl [2] rfl)
  have L30 : ∀ (h : HP) (k : Nat) (x : (Int32 × Int32)), F_X9_share_L30 a x1 x2 h k x = some Rz → ∀ (H : Heap) (locs : List Loc) (ls : Array Slot), sg_Wo D b cA n s.heap h H locs → lv_has ls 5 [(0, .ref (b + a)), (1, .int x1), (2, .int x2), (3, .int x.1), (4, .int x.2)] → W p l e R s m args below meth c H locs 0 0 (sg_Qi below args s D b cA n (fun r u => r = Rz.1 ∧ u = Rz.2)) (F0 m 30 ls []) := by
    intro h
    unfold F_X9_share_L30
    refine lp_walk ?_
    intro rc30 hrc30 x hf H locs ls hw hl
    obtain ⟨x3, x4⟩ := x
    dsimp only at hf hw hl
    refine lv_iload hx hb dX9_share_30 (lv_at hl 4 rfl) ?_
    refine lv_aload_n hx hb dX9_share_32 rfl (lv_at hl 0 rfl) ?_
    obtain ⟨hF33, hT33, ha33, hN33⟩ := ft_9_0 hn ha_a hT_a
    refine sg_getf (q := (a + 1)) hc hw ha_a hT_a fr_9_0 (by decide) k_873 dX9_share_33 hF33 ?_
    refine lv_iconst (v := 1) hx hb dX9_share_36 (by decide) ?_
    refine sg_ild hc hw ha33 hT33 hN33 (show vp_in 1 34 by unfold vp_in; decide) dX9_share_37 ?_
    refine lv_icmp_ge (tgt := 57) hx hb dX9_share_38 (by decide) (fun c38 => ?_) (fun c38 => ?_)
    · have hf := if_of c38 hf
      exact J57 x3 _ _ _ _ hf hw (lv_sub hl [0, 1, 2, 3] rfl)
    · have hf := if_no c38 hf
      refine lv_iload_n hx hb dX9_share_41 rfl (lv_at hl 3 rfl) ?_
      refine lv_aload_n hx hb dX9_share_42 rfl (lv_at hl 0 rfl) ?_
      obtain ⟨hF43, hT43, ha43, hN43⟩ := ft_9_19 hn ha_a hT_a
      refine sg_getf (q := (a + 13)) hc hw ha_a hT_a fr_9_19 (by decide) k_892 dX9_share_43 hF43 ?_
      refine lv_iload hx hb dX9_share_46 (lv_at hl 4 rfl) ?_
      obtain ⟨hg48, hf⟩ := gd_of hf
      refine sg_ild hc hw ha43 hT43 hN43 hg48 dX9_share_48 ?_
      refine lv_iadd hx hb dX9_share_49 ?_
      refine lv_topi (fun v50 e50 => ?_)
      have hf := nm_of e50 hf
      refine lv_istore_n (lv' := [(3, .int v50), (0, .ref (b + a)), (1, .int x1), (2, .int x2), (4, .int x4)]) hx hb dX9_share_50 rfl hl (by decide) rfl (fun ls hl => ?_)
      refine lv_iinc (v := (x4 + 1)) (lv' := [(4, .int (x4 + 1)), (3, .int v50), (0, .ref (b + a)), (1, .int x1), (2, .int x2)]) hx hb dX9_share_51 hl (k := 4) rfl rfl (by decide) rfl (fun ls hl => ?_)
      refine lv_goto (tgt := 30) hx hb dX9_share_54 (by decide) ?_
      exact hrc30 _ hf _ _ _ hw (lv_sub hl [2, 3, 4, 1, 0] rfl)
  unfold F_X9_share at hf
  refine lv_aload_n hx hb dX9_share_0 rfl (lv_at hl 0 rfl) ?_
  refine lv_iload_n hx hb dX9_share_1 rfl (lv_at hl 1 rfl) ?_
  obtain ⟨p2, hp2, hf⟩ := cl_of hf
  refine sg_vi (rest := []) (c_X9_isBearer hn ha_a hT_a hp2) hc hw hz hml hl ha_a hT_a (by decide) rfl cv_X9_220 ⟨⟨rfl, rfl⟩, Nat.le_trans (Nat.le_of_ble_eq_true rfl) hRf, Nat.le_trans (Nat.le_of_ble_eq_true rfl) hRl⟩ ⟨Nat.zero_le _, Nat.zero_le _⟩ rfl rfl (Nat.le_of_ble_eq_true rfl) dX9_share_2 (fun r h1 H locs hp hw => ?_)
  obtain ⟨⟨e1, e2⟩, hb2⟩ := hp; subst r; subst h1
  refine lv_if_eq (tgt := 15) hx hb dX9_share_5 (by decide) (fun c5 => ?_) (fun c5 => ?_)
  · have hf := if_of c5 hf
    refine lv_iconst (v := (-1)) hx hb dX9_share_15 (by decide) ?_
    cases hf
    exact sg_iret hc hw hz hn0 hr hlocks ⟨rfl, rfl⟩ dX9_share_16
  · have hf := if_no c5 hf
    refine lv_iload_n hx hb dX9_share_8 rfl (lv_at hl 2 rfl) ?_
    obtain ⟨p9, hp9, hf⟩ := cl_of hf
    refine sg_si (rest := []) (c_X9_isTwo hn (h := h) hp9) hc hw hz hn0 hml hl cs_X9_225 ⟨⟨rfl, rfl⟩, Nat.le_trans (Nat.le_of_ble_eq_true rfl) hRf, Nat.le_trans (Nat.le_of_ble_eq_true rfl) hRl⟩ ⟨Nat.zero_le _, Nat.zero_le _⟩ rfl rfl (Nat.le_of_ble_eq_true rfl) dX9_share_9 (fun r h1 H locs hp hw => ?_)
    obtain ⟨⟨e1, e2⟩, hb9⟩ := hp; subst r; subst h1
    refine lv_if_ne (tgt := 17) hx hb dX9_share_12 (by decide) (fun c12 => ?_) (fun c12 => ?_)
    · have hf := if_no c12 hf
      refine lv_aload_n hx hb dX9_share_17 rfl (lv_at hl 0 rfl) ?_
      obtain ⟨p18, hp18, hf⟩ := cl_of hf
      refine sg_vv (rest := []) (c_X9_asItIs hn ha_a hT_a hp18) hc hw hz hml hl ha_a hT_a (by decide) rfl cv_X9_214 ⟨⟨rfl, rfl⟩, Nat.le_trans (Nat.le_of_ble_eq_true rfl) hRf, Nat.le_trans (Nat.le_of_ble_eq_true rfl) hRl⟩ ⟨Nat.zero_le _, Nat.zero_le _⟩ rfl rfl (Nat.le_of_ble_eq_true rfl) dX9_share_18 (fun h1 H locs hp hw => ?_)
      subst h1
      refine lv_aload_n hx hb dX9_share_21 rfl (lv_at hl 0 rfl) ?_
      obtain ⟨p22, hp22, hf⟩ := cl_of hf
      refine sg_vv (rest := []) (c_X9_goesUp hn ha_a hT_a hp22) hc hw hz hml hl ha_a hT_a (by decide) rfl cv_X9_217 ⟨⟨rfl, rfl⟩, Nat.le_trans (Nat.le_of_ble_eq_true rfl) hRf, Nat.le_trans (Nat.le_of_ble_eq_true rfl) hRl⟩ ⟨Nat.zero_le _, Nat.zero_le _⟩ rfl rfl (Nat.le_of_ble_eq_true rfl) dX9_share_22 (fun h1 H locs hp hw => ?_)
      subst h1
      refine lv_iconst (v := 0) hx hb dX9_share_25 (by decide) ?_
      refine lv_istore_n (lv' := [(3, .int 0), (0, .ref (b + a)), (1, .int x1), (2, .int x2)]) hx hb dX9_share_26 rfl hl (by decide) rfl (fun ls hl => ?_)
      refine lv_iconst (v := 0) hx hb dX9_share_27 (by decide) ?_
      refine lv_istore (lv' := [(4, .int 0), (3, .int 0), (0, .ref (b + a)), (1, .int x1), (2, .int x2)]) hx hb dX9_share_28 hl (by decide) rfl (fun ls hl => ?_)
      exact L30 _ _ _ hf _ _ _ hw (lv_sub hl [2, 3, 4, 1, 0] rfl)
    · have hf := if_of c12 hf
      refine lv_iconst (v := (-1)) hx hb dX9_share_15 (by decide) ?_
      cases hf
      exact sg_iret hc hw hz hn0 hr hlocks ⟨rfl, rfl⟩ dX9_share_16
theorem c_X9_share {l : Launch} {D : va_G} {cA : Nat → ClassId} {b n : Nat} (hn : sg_okN n) {a : Nat} {x1 : Int32} {x2 : Int32} (ha_a : a < n) (hT_a : sg_T a = 9) {h : HP} {Rz : Int32 × HP} (hf : F_X9_share a x1 x2 h = some Rz) : Met l yX9_share (Cond.code yX9_share cX9_share 5 (some .int) :: sg_tbl) ({ frames := 5, cells := 0, slots := 0, locals := 122 } : Room) (va_Pc [.ref (b + a), .int x1, .int x2] (sg_Wd D b cA n h)) (va_Qi (fun r u => r = Rz.1 ∧ u = Rz.2) (sg_Wd D b cA n) (sg_A b)) 0 0 (sg_A b) := by
  refine Met.ofW (cc := cX9_share) (maxL := 5) (ret := (some .int)) (by decide) rfl ?_
  intro p e s m args below meth c s₁ B hml hv
  obtain ⟨rfl, hP, hK, hz, hY, hN⟩ := hv
  have hl := lv_entry [.ref (b + a), .int x1, .int x2] (n := 5) (Nat.le_of_ble_eq_true rfl)
  rw [lg_entry_eq]
  exact w_X9_share hn ⟨B.exec, B.bytes, findClass_of_methodNamed B.named, fun w h => atoms_spec (ws := Cond.code yX9_share cX9_share 5 (some .int) :: sg_tbl) B.pre w (List.mem_cons_of_mem _ h), hK, hN⟩ hz B.returns B.notSynchronized hml (Nat.le_refl _) (Nat.le_refl _) ha_a hT_a hf _ _ _ ⟨hP, hY, va_S.rf⟩ hl
set_option maxHeartbeats 4000000 in
set_option maxRecDepth 100000 in
theorem w_X9_copies {p : Program} {l : Launch} {e : Env} {R : Room} {s : State} {m : MethodId} {args : Array Value} {below : List Frame} {meth : Method} {c : Code} {D : va_G} {cA : Nat → ClassId} {b n : Nat} (hn : sg_okN n) {q0 : Nat} {x1 : Int32} {q2 : Nat} {x3 : Int32} {h : HP} {Rz : HP} (hc : sg_Cx p s m args c cX9_copies RX9 D cA) (hz : s.heap.size = b + n) (hr : meth.sig.returnType = none) (hlocks : meth.locks = false) (hml : c.maxLocals = 5) (hRf : 0 ≤ R.frames) (hRl : 0 ≤ R.locals) (ha_q0 : q0 < n) (hT_q0 : sg_T q0 = 11) (ha_q2 : q2 < n) (hT_q2 : sg_T q2 = 11) (hf : F_X9_copies q0 x1 q2 x3 h = some Rz) (H : Heap) (locs : List Loc) (ls : Array Slot) (hw : sg_Wo D b cA n s.heap h H locs) (hl : lv_has ls 5 [(0, .ref (b + q0)), (1, .int x1), (2, .ref (b + q2)), (3, .int x3)]) : W p l e R s m args below meth c H locs 0 0 (sg_Qv below args s D b cA n (fun u => u = Rz)) (F0 m 0 ls []) := by
  have hx := hc.1
  have hb := hc.2.1
  have hn0 : 0 < n := sg_pos hn
  have L3 : ∀ (k : Nat) (x : (Int32 × HP)), F_X9_copies_L3 q0 q2 x1 x3 k x = some Rz → ∀ (H : Heap) (locs : List Loc) (ls : Array Slot), sg_Wo D b cA n s.heap x.2 H locs → lv_has ls 5 [(0, .ref (b + q0)), (1, .int x1), (2, .ref (b + q2)), (3, .int x3), (4, .int x.1)] → W p l e R s m args below meth c H locs 0 0 (sg_Qv below args s D b cA n (fun u => u = Rz)) (F0 m 3 ls []) := by
    unfold F_X9_copies_L3
    refine lp_walk ?_
    intro rc3 hrc3 x hf H locs ls hw hl
    obtain ⟨x4, h⟩ := x
    dsimp only at hf hw hl
    refine lv_iload hx hb dX9_copies_3 (lv_at hl 4 rfl) ?_
    refine lv_bipush (v := 31) hx hb dX9_copies_5 (by decide) ?_
    refine lv_icmp_ge (tgt := 28) hx hb dX9_copies_7 (by decide) (fun c7 => ?_) (fun c7 => ?_)
    · have hf := if_of c7 hf
      cases hf
      exact sg_vret hc hw hz hn0 hr hlocks rfl dX9_copies_28
    · have hf := if_no c7 hf
      refine lv_aload_n hx hb dX9_copies_10 rfl (lv_at hl 2 rfl) ?_
      refine lv_iload_n hx hb dX9_copies_11 rfl (lv_at hl 3 rfl) ?_
      refine lv_iload hx hb dX9_copies_12 (lv_at hl 4 rfl) ?_
      refine lv_iadd hx hb dX9_copies_14 ?_
      refine lv_aload_n hx hb dX9_copies_15 rfl (lv_at hl 0 rfl) ?_
      refine lv_iload_n hx hb dX9_copies_16 rfl (lv_at hl 1 rfl) ?_
      refine lv_iload hx hb dX9_copies_17 (lv_at hl 4 rfl) ?_
      refine lv_iadd hx hb dX9_copies_19 ?_
      obtain ⟨hg20, hf⟩ := gd_of hf
      refine sg_ild hc hw ha_q0 hT_q0 rfl hg20 dX9_copies_20 ?_
      obtain ⟨hg21, hf⟩ := gd_of hf
      refine sg_ist hc hw ha_q2 hT_q2 rfl hg21 dX9_copies_21 (fun H locs hw => ?_)
      obtain ⟨h21, hw, hf⟩ := sg_name hw hf
      refine lv_iinc (v := (x4 + 1)) (lv' := [(4, .int (x4 + 1)), (0, .ref (b + q0)), (1, .int x1), (2, .ref (b + q2)), (3, .int x3)]) hx hb dX9_copies_22 hl (k := 4) rfl rfl (by decide) rfl (fun ls hl => ?_)
      refine lv_goto (tgt := 3) hx hb dX9_copies_25 (by decide) ?_
      exact hrc3 _ hf _ _ _ hw (lv_sub hl [1, 2, 3, 4, 0] rfl)
  unfold F_X9_copies at hf
  refine lv_iconst (v := 0) hx hb dX9_copies_0 (by decide) ?_
  refine lv_istore (lv' := [(4, .int 0), (0, .ref (b + q0)), (1, .int x1), (2, .ref (b + q2)), (3, .int x3)]) hx hb dX9_copies_1 hl (by decide) rfl (fun ls hl => ?_)
  exact L3 _ _ hf _ _ _ hw (lv_sub hl [1, 2, 3, 4, 0] rfl)
theorem c_X9_copies {l : Launch} {D : va_G} {cA : Nat → ClassId} {b n : Nat} (hn : sg_okN n) {q0 : Nat} {x1 : Int32} {q2 : Nat} {x3 : Int32} (ha_q0 : q0 < n) (hT_q0 : sg_T q0 = 11) (ha_q2 : q2 < n) (hT_q2 : sg_T q2 = 11) {h : HP} {Rz : HP} (hf : F_X9_copies q0 x1 q2 x3 h = some Rz) : Met l yX9_copies (Cond.code yX9_copies cX9_copies 5 none :: sg_tbl) ({ frames := 0, cells := 0, slots := 0, locals := 0 } : Room) (va_Pc [.ref (b + q0), .int x1, .ref (b + q2), .int x3] (sg_Wd D b cA n h)) (va_Qv (fun u => u = Rz) (sg_Wd D b cA n) (sg_A b)) 0 0 (sg_A b) := by
  refine Met.ofW (cc := cX9_copies) (maxL := 5) (ret := none) (by decide) rfl ?_
  intro p e s m args below meth c s₁ B hml hv
  obtain ⟨rfl, hP, hK, hz, hY, hN⟩ := hv
  have hl := lv_entry [.ref (b + q0), .int x1, .ref (b + q2), .int x3] (n := 5) (Nat.le_of_ble_eq_true rfl)
  rw [lg_entry_eq]
  exact w_X9_copies hn ⟨B.exec, B.bytes, findClass_of_methodNamed B.named, fun w h => atoms_spec (ws := Cond.code yX9_copies cX9_copies 5 none :: sg_tbl) B.pre w (List.mem_cons_of_mem _ h), hK, hN⟩ hz B.returns B.notSynchronized hml (Nat.le_refl _) (Nat.le_refl _) ha_q0 hT_q0 ha_q2 hT_q2 hf _ _ _ ⟨hP, hY, va_S.rf⟩ hl
set_option maxHeartbeats 4000000 in
set_option maxRecDepth 100000 in
theorem w_X9_isTurn {p : Program} {l : Launch} {e : Env} {R : Room} {s : State} {m : MethodId} {args : Array Value} {below : List Frame} {meth : Method} {c : Code} {D : va_G} {cA : Nat → ClassId} {b n : Nat} (hn : sg_okN n) {a : Nat} {x1 : Int32} {h : HP} {Rz : Int32} (hc : sg_Cx p s m args c cX9_isTurn RX9 D cA) (hz : s.heap.size = b + n) (hr : meth.sig.returnType = some .boolean) (hlocks : meth.locks = false) (hml : c.maxLocals = 2) (hRf : 1 ≤ R.frames) (hRl : 25 ≤ R.locals) (ha_a : a < n) (hT_a : sg_T a = 9) (hf : F_X9_isTurn a x1 h = some Rz) (H : Heap) (locs : List Loc) (ls : Array Slot) (hw : sg_Wo D b cA n s.heap h H locs) (hl : lv_has ls 2 [(0, .ref (b + a)), (1, .int x1)]) : W p l e R s m args below meth c H locs 0 0 (sg_Qi below args s D b cA n (fun r u => (r = Rz ∧ u = h) ∧ narrow .boolean (.int r) = .int r)) (F0 m 0 ls []) := by
  have hx := hc.1
  have hb := hc.2.1
  have hn0 : 0 < n := sg_pos hn
  unfold F_X9_isTurn at hf
  refine lv_iload_n hx hb dX9_isTurn_0 rfl (lv_at hl 1 rfl) ?_
  refine lv_i2l hx hb dX9_isTurn_1 rfl ?_
  refine lv_lconst (v := 0) hx hb dX9_isTurn_2 (by decide) ?_
  refine lv_aload_n hx hb dX9_isTurn_3 rfl (lv_at hl 0 rfl) ?_
  obtain ⟨hF4, hT4, ha4, hN4⟩ := ft_9_2 hn ha_a hT_a
  refine sg_getf (q := (a + 3)) hc hw ha_a hT_a fr_9_2 (by decide) k_875 dX9_isTurn_4 hF4 ?_
  refine lv_iconst (v := 0) hx hb dX9_isTurn_7 (by decide) ?_
  refine sg_ild hc hw ha4 hT4 hN4 (show vp_in 0 31 by unfold vp_in; decide) dX9_isTurn_8 ?_
  refine lv_iconst (v := 1) hx hb dX9_isTurn_9 (by decide) ?_
  refine lv_isub hx hb dX9_isTurn_10 ?_
  refine lv_i2l hx hb dX9_isTurn_11 rfl ?_
  obtain ⟨p12, hp12, hf⟩ := cl_of hf
  refine sg_si (rest := []) (c_X9_in hn (h := h) hp12) hc hw hz hn0 hml hl cs_X9_87 ⟨⟨rfl, rfl⟩, Nat.le_trans (Nat.le_of_ble_eq_true rfl) hRf, Nat.le_trans (Nat.le_of_ble_eq_true rfl) hRl⟩ ⟨Nat.zero_le _, Nat.zero_le _⟩ rfl rfl (Nat.le_of_ble_eq_true rfl) dX9_isTurn_12 (fun r h1 H locs hp hw => ?_)
  obtain ⟨⟨e1, e2⟩, hb12⟩ := hp; subst r; subst h1
  cases hf
  exact sg_zret hc hw hz hn0 hr hlocks hb12 ⟨⟨rfl, rfl⟩, hb12⟩ dX9_isTurn_15
theorem c_X9_isTurn {l : Launch} {D : va_G} {cA : Nat → ClassId} {b n : Nat} (hn : sg_okN n) {a : Nat} {x1 : Int32} (ha_a : a < n) (hT_a : sg_T a = 9) {h : HP} {Rz : Int32} (hf : F_X9_isTurn a x1 h = some Rz) : Met l yX9_isTurn (Cond.code yX9_isTurn cX9_isTurn 2 (some .boolean) :: sg_tbl) ({ frames := 1, cells := 0, slots := 0, locals := 25 } : Room) (va_Pc [.ref (b + a), .int x1] (sg_Wd D b cA n h)) (va_Qi (fun r u => (r = Rz ∧ u = h) ∧ narrow .boolean (.int r) = .int r) (sg_Wd D b cA n) (sg_A b)) 0 0 (sg_A b) := by
  refine Met.ofW (cc := cX9_isTurn) (maxL := 2) (ret := (some .boolean)) (by decide) rfl ?_
  intro p e s m args below meth c s₁ B hml hv
  obtain ⟨rfl, hP, hK, hz, hY, hN⟩ := hv
  have hl := lv_entry [.ref (b + a), .int x1] (n := 2) (Nat.le_of_ble_eq_true rfl)
  rw [lg_entry_eq]
  exact w_X9_isTurn hn ⟨B.exec, B.bytes, findClass_of_methodNamed B.named, fun w h => atoms_spec (ws := Cond.code yX9_isTurn cX9_isTurn 2 (some .boolean) :: sg_tbl) B.pre w (List.mem_cons_of_mem _ h), hK, hN⟩ hz B.returns B.notSynchronized hml (Nat.le_refl _) (Nat.le_refl _) ha_a hT_a hf _ _ _ ⟨hP, hY, va_S.rf⟩ hl
set_option maxHeartbeats 4000000 in
set_option maxRecDepth 100000 in
theorem w_X9_turn {p : Program} {l : Launch} {e : Env} {R : Room} {s : State} {m : MethodId} {args : Array Value} {below : List Frame} {meth : Method} {c : Code} {D : va_G} {cA : Nat → ClassId} {b n : Nat} (hn : sg_okN n) {a : Nat} {x1 : Int32} {x2 : Int32} {h : HP} {Rz : Int32} (hc : sg_Cx p s m args c cX9_turn RX9 D cA) (hz : s.heap.size = b + n) (hr : meth.sig.returnType = some .int) (hlocks : meth.locks = false) (hml : c.maxLocals = 3) (hRf : 2 ≤ R.frames) (hRl : 46 ≤ R.locals) (ha_a : a < n) (hT_a : sg_T a = 9) (hf : F_X9_turn a x1 x2 h = some Rz) (H : Heap) (locs : List Loc) (ls : Array Slot) (hw : sg_Wo D b cA n s.heap h H locs) (hl : lv_has ls 3 [(0, .ref (b + a)), (1, .int x1), (2, .int x2)]) : W p l e R s m args below meth c H locs 0 0 (sg_Qi below args s D b cA n (fun r u => r = Rz ∧ u = h)) (F0 m 0 ls []) := by
  have hx := hc.1
  have hb := hc.2.1
  have hn0 : 0 < n := sg_pos hn
  unfold F_X9_turn at hf
  refine lv_aload_n hx hb dX9_turn_0 rfl (lv_at hl 0 rfl) ?_
  refine lv_iload_n hx hb dX9_turn_1 rfl (lv_at hl 1 rfl) ?_
  obtain ⟨p2, hp2, hf⟩ := cl_of hf
  refine sg_vi (rest := []) (c_X9_isTurn hn ha_a hT_a hp2) hc hw hz hml hl ha_a hT_a (by decide) rfl cv_X9_232 ⟨⟨rfl, rfl⟩, Nat.le_trans (Nat.le_of_ble_eq_true rfl) hRf, Nat.le_trans (Nat.le_of_ble_eq_true rfl) hRl⟩ ⟨Nat.zero_le _, Nat.zero_le _⟩ rfl rfl (Nat.le_of_ble_eq_true rfl) dX9_turn_2 (fun r h1 H locs hp hw => ?_)
  obtain ⟨⟨e1, e2⟩, hb2⟩ := hp; subst r; subst h1
  refine lv_if_eq (tgt := 36) hx hb dX9_turn_5 (by decide) (fun c5 => ?_) (fun c5 => ?_)
  · have hf := if_of c5 hf
    refine lv_iconst (v := (-1)) hx hb dX9_turn_36 (by decide) ?_
    cases hf
    exact sg_iret hc hw hz hn0 hr hlocks ⟨rfl, rfl⟩ dX9_turn_37
  · have hf := if_no c5 hf
    refine lv_iload_n hx hb dX9_turn_8 rfl (lv_at hl 2 rfl) ?_
    refine lv_i2l hx hb dX9_turn_9 rfl ?_
    refine lv_lconst (v := 0) hx hb dX9_turn_10 (by decide) ?_
    refine lv_ldc2 hx hb hc.2.2.1 (hc.2.2.2.1 _ k_989) dX9_turn_11 ?_
    obtain ⟨p14, hp14, hf⟩ := cl_of hf
    refine sg_si (rest := []) (c_X9_in hn (h := h) hp14) hc hw hz hn0 hml hl cs_X9_87 ⟨⟨rfl, rfl⟩, Nat.le_trans (Nat.le_of_ble_eq_true rfl) hRf, Nat.le_trans (Nat.le_of_ble_eq_true rfl) hRl⟩ ⟨Nat.zero_le _, Nat.zero_le _⟩ rfl rfl (Nat.le_of_ble_eq_true rfl) dX9_turn_14 (fun r h1 H locs hp hw => ?_)
    obtain ⟨⟨e1, e2⟩, hb14⟩ := hp; subst r; subst h1
    refine lv_if_eq (tgt := 36) hx hb dX9_turn_17 (by decide) (fun c17 => ?_) (fun c17 => ?_)
    · have hf := if_of c17 hf
      refine lv_iconst (v := (-1)) hx hb dX9_turn_36 (by decide) ?_
      cases hf
      exact sg_iret hc hw hz hn0 hr hlocks ⟨rfl, rfl⟩ dX9_turn_37
    · have hf := if_no c17 hf
      refine lv_aload_n hx hb dX9_turn_20 rfl (lv_at hl 0 rfl) ?_
      obtain ⟨hF21, hT21, ha21, hN21⟩ := ft_9_2 hn ha_a hT_a
      refine sg_getf (q := (a + 3)) hc hw ha_a hT_a fr_9_2 (by decide) k_875 dX9_turn_21 hF21 ?_
      refine lv_iconst (v := 1) hx hb dX9_turn_24 (by decide) ?_
      refine lv_bipush (v := 10) hx hb dX9_turn_25 (by decide) ?_
      refine lv_iload_n hx hb dX9_turn_27 rfl (lv_at hl 2 rfl) ?_
      refine lv_imul hx hb dX9_turn_28 ?_
      refine lv_iadd hx hb dX9_turn_29 ?_
      refine lv_iload_n hx hb dX9_turn_30 rfl (lv_at hl 1 rfl) ?_
      refine lv_iadd hx hb dX9_turn_31 ?_
      obtain ⟨hg32, hf⟩ := gd_of hf
      refine sg_ild hc hw ha21 hT21 hN21 hg32 dX9_turn_32 ?_
      refine lv_goto (tgt := 37) hx hb dX9_turn_33 (by decide) ?_
      cases hf
      exact sg_iret hc hw hz hn0 hr hlocks ⟨rfl, rfl⟩ dX9_turn_37
theorem c_X9_turn {l : Launch} {D : va_G} {cA : Nat → ClassId} {b n : Nat} (hn : sg_okN n) {a : Nat} {x1 : Int32} {x2 : Int32} (ha_a : a < n) (hT_a : sg_T a = 9) {h : HP} {Rz : Int32} (hf : F_X9_turn a x1 x2 h = some Rz) : Met l yX9_turn (Cond.code yX9_turn cX9_turn 3 (some .int) :: sg_tbl) ({ frames := 2, cells := 0, slots := 0, locals := 46 } : Room) (va_Pc [.ref (b + a), .int x1, .int x2] (sg_Wd D b cA n h)) (va_Qi (fun r u => r = Rz ∧ u = h) (sg_Wd D b cA n) (sg_A b)) 0 0 (sg_A b) := by
  refine Met.ofW (cc := cX9_turn) (maxL := 3) (ret := (some .int)) (by decide) rfl ?_
  intro p e s m args below meth c s₁ B hml hv
  obtain ⟨rfl, hP, hK, hz, hY, hN⟩ := hv
  have hl := lv_entry [.ref (b + a), .int x1, .int x2] (n := 3) (Nat.le_of_ble_eq_true rfl)
  rw [lg_entry_eq]
  exact w_X9_turn hn ⟨B.exec, B.bytes, findClass_of_methodNamed B.named, fun w h => atoms_spec (ws := Cond.code yX9_turn cX9_turn 3 (some .int) :: sg_tbl) B.pre w (List.mem_cons_of_mem _ h), hK, hN⟩ hz B.returns B.notSynchronized hml (Nat.le_refl _) (Nat.le_refl _) ha_a hT_a hf _ _ _ ⟨hP, hY, va_S.rf⟩ hl
set_option maxHeartbeats 4000000 in
set_option maxRecDepth 100000 in
theorem w_X9_remember {p : Program} {l : Launch} {e : Env} {R : Room} {s : State} {m : MethodId} {args : Array Value} {below : List Frame} {meth : Method} {c : Code} {D : va_G} {cA : Nat → ClassId} {b n : Nat} (hn : sg_okN n) {a : Nat} {h : HP} {Rz : HP} (hc : sg_Cx p s m args c cX9_remember RX9 D cA) (hz : s.heap.size = b + n) (hr : meth.sig.returnType = none) (hlocks : meth.locks = false) (hml : c.maxLocals = 2) (hRf : 1 ≤ R.frames) (hRl : 24 ≤ R.locals) (ha_a : a < n) (hT_a : sg_T a = 9) (hf : F_X9_remember a h = some Rz) (H : Heap) (locs : List Loc) (ls : Array Slot) (hw : sg_Wo D b cA n s.heap h H locs) (hl : lv_has ls 2 [(0, .ref (b + a))]) : W p l e R s m args below meth c H locs 0 0 (sg_Qv below args s D b cA n (fun u => u = Rz)) (F0 m 0 ls []) := by
  have hx := hc.1
  have hb := hc.2.1
  have hn0 : 0 < n := sg_pos hn
  have J49 : ∀ (h : HP) (H : Heap) (locs : List Loc) (ls : Array Slot), F_X9_remember_J49 a h = some Rz → sg_Wo D b cA n s.heap h H locs → lv_has ls 2 [(0, .ref (b + a))] → W p l e R s m args below meth c H locs 0 0 (sg_Qv below args s D b cA n (fun u => u = Rz)) (F0 m 49 ls []) := by
    intro h H locs ls hf hw hl
    unfold F_X9_remember_J49 at hf
    refine lv_aload_n hx hb dX9_remember_49 rfl (lv_at hl 0 rfl) ?_
    obtain ⟨hF50, hT50, ha50, hN50⟩ := ft_9_2 hn ha_a hT_a
    refine sg_getf (q := (a + 3)) hc hw ha_a hT_a fr_9_2 (by decide) k_875 dX9_remember_50 hF50 ?_
    refine lv_iconst (v := 0) hx hb dX9_remember_53 (by decide) ?_
    refine lv_aload_n hx hb dX9_remember_54 rfl (lv_at hl 0 rfl) ?_
    obtain ⟨hF55, hT55, ha55, hN55⟩ := ft_9_4 hn ha_a hT_a
    refine sg_getf (q := (a + 5)) hc hw ha_a hT_a fr_9_4 (by decide) k_877 dX9_remember_55 hF55 ?_
    refine lv_bipush (v := 31) hx hb dX9_remember_58 (by decide) ?_
    refine lv_aload_n hx hb dX9_remember_60 rfl (lv_at hl 0 rfl) ?_
    refine sg_geti hc hw ha_a hT_a fi_9_5 k_878 dX9_remember_61 ?_
    refine lv_imul hx hb dX9_remember_64 ?_
    obtain ⟨p65, hp65, hf⟩ := cl_of hf
    refine sg_sv' (rest := []) (c_X9_copies hn ha50 hT50 ha55 hT55 hp65) hc hw hz hn0 hml hl cs_X9_235 ⟨⟨rfl, rfl⟩, Nat.le_trans (Nat.le_of_ble_eq_true rfl) hRf, Nat.le_trans (Nat.le_of_ble_eq_true rfl) hRl⟩ ⟨Nat.zero_le _, Nat.zero_le _⟩ rfl rfl (Nat.le_of_ble_eq_true rfl) dX9_remember_65 (fun h1 H locs hp hw => ?_)
    subst h1
    refine lv_aload_n hx hb dX9_remember_68 rfl (lv_at hl 0 rfl) ?_
    refine lv_dup hx hb dX9_remember_69 rfl ?_
    refine sg_geti hc hw ha_a hT_a fi_9_5 k_878 dX9_remember_70 ?_
    refine lv_iconst (v := 1) hx hb dX9_remember_73 (by decide) ?_
    refine lv_iadd hx hb dX9_remember_74 ?_
    refine sg_puti hc hw ha_a hT_a fp_9_5 rfl rfl k_878 dX9_remember_75 (fun H locs hw => ?_)
    obtain ⟨h75, hw, hf⟩ := sg_name hw hf
    cases hf
    exact sg_vret hc hw hz hn0 hr hlocks rfl dX9_remember_78
  have J39 : ∀ (h : HP) (H : Heap) (locs : List Loc) (ls : Array Slot), F_X9_remember_J39 a h = some Rz → sg_Wo D b cA n s.heap h H locs → lv_has ls 2 [(0, .ref (b + a))] → W p l e R s m args below meth c H locs 0 0 (sg_Qv below args s D b cA n (fun u => u = Rz)) (F0 m 39 ls []) := by
    intro h H locs ls hf hw hl
    unfold F_X9_remember_J39 at hf
    refine lv_aload_n hx hb dX9_remember_39 rfl (lv_at hl 0 rfl) ?_
    refine lv_dup hx hb dX9_remember_40 rfl ?_
    refine sg_geti hc hw ha_a hT_a fi_9_5 k_878 dX9_remember_41 ?_
    refine lv_iconst (v := 1) hx hb dX9_remember_44 (by decide) ?_
    refine lv_isub hx hb dX9_remember_45 ?_
    refine sg_puti hc hw ha_a hT_a fp_9_5 rfl rfl k_878 dX9_remember_46 (fun H locs hw => ?_)
    obtain ⟨h46, hw, hf⟩ := sg_name hw hf
    exact J49 _ _ _ _ hf hw (lv_sub hl [0] rfl)
  have L11 : ∀ (k : Nat) (x : (Int32 × HP)), F_X9_remember_L11 a k x = some Rz → ∀ (H : Heap) (locs : List Loc) (ls : Array Slot), sg_Wo D b cA n s.heap x.2 H locs → lv_has ls 2 [(0, .ref (b + a)), (1, .int x.1)] → W p l e R s m args below meth c H locs 0 0 (sg_Qv below args s D b cA n (fun u => u = Rz)) (F0 m 11 ls []) := by
    unfold F_X9_remember_L11
    refine lp_walk ?_
    intro rc11 hrc11 x hf H locs ls hw hl
    obtain ⟨x1, h⟩ := x
    dsimp only at hf hw hl
    refine lv_iload_n hx hb dX9_remember_11 rfl (lv_at hl 1 rfl) ?_
    refine lv_sipush (v := 217) hx hb dX9_remember_12 (by decide) ?_
    refine lv_icmp_ge (tgt := 39) hx hb dX9_remember_15 (by decide) (fun c15 => ?_) (fun c15 => ?_)
    · have hf := if_of c15 hf
      exact J39 _ _ _ _ hf hw (lv_sub hl [0] rfl)
    · have hf := if_no c15 hf
      refine lv_aload_n hx hb dX9_remember_18 rfl (lv_at hl 0 rfl) ?_
      obtain ⟨hF19, hT19, ha19, hN19⟩ := ft_9_4 hn ha_a hT_a
      refine sg_getf (q := (a + 5)) hc hw ha_a hT_a fr_9_4 (by decide) k_877 dX9_remember_19 hF19 ?_
      refine lv_iload_n hx hb dX9_remember_22 rfl (lv_at hl 1 rfl) ?_
      refine lv_aload_n hx hb dX9_remember_23 rfl (lv_at hl 0 rfl) ?_
      refine sg_getf (q := (a + 5)) hc hw ha_a hT_a fr_9_4 (by decide) k_877 dX9_remember_24 (ft_9_4 hn ha_a hT_a).1 ?_
      refine lv_iload_n hx hb dX9_remember_27 rfl (lv_at hl 1 rfl) ?_
      refine lv_bipush (v := 31) hx hb dX9_remember_28 (by decide) ?_
      refine lv_iadd hx hb dX9_remember_30 ?_
      obtain ⟨hg31, hf⟩ := gd_of hf
      refine sg_ild hc hw ha19 hT19 hN19 hg31 dX9_remember_31 ?_
      obtain ⟨hg32, hf⟩ := gd_of hf
      refine sg_ist hc hw ha19 hT19 hN19 hg32 dX9_remember_32 (fun H locs hw => ?_)
      obtain ⟨h32, hw, hf⟩ := sg_name hw hf
      refine lv_iinc (v := (x1 + 1)) (lv' := [(1, .int (x1 + 1)), (0, .ref (b + a))]) hx hb dX9_remember_33 hl (k := 1) rfl rfl (by decide) rfl (fun ls hl => ?_)
      refine lv_goto (tgt := 11) hx hb dX9_remember_36 (by decide) ?_
      exact hrc11 _ hf _ _ _ hw (lv_sub hl [1, 0] rfl)
  unfold F_X9_remember at hf
  refine lv_aload_n hx hb dX9_remember_0 rfl (lv_at hl 0 rfl) ?_
  refine sg_geti hc hw ha_a hT_a fi_9_5 k_878 dX9_remember_1 ?_
  refine lv_bipush (v := 8) hx hb dX9_remember_4 (by decide) ?_
  refine lv_icmp_ne (tgt := 49) hx hb dX9_remember_6 (by decide) (fun c6 => ?_) (fun c6 => ?_)
  · have hf := if_no c6 hf
    exact J49 _ _ _ _ hf hw (lv_sub hl [0] rfl)
  · have hf := if_of c6 hf
    refine lv_iconst (v := 0) hx hb dX9_remember_9 (by decide) ?_
    refine lv_istore_n (lv' := [(1, .int 0), (0, .ref (b + a))]) hx hb dX9_remember_10 rfl hl (by decide) rfl (fun ls hl => ?_)
    exact L11 _ _ hf _ _ _ hw (lv_sub hl [1, 0] rfl)
theorem c_X9_remember {l : Launch} {D : va_G} {cA : Nat → ClassId} {b n : Nat} (hn : sg_okN n) {a : Nat} (ha_a : a < n) (hT_a : sg_T a = 9) {h : HP} {Rz : HP} (hf : F_X9_remember a h = some Rz) : Met l yX9_remember (Cond.code yX9_remember cX9_remember 2 none :: sg_tbl) ({ frames := 1, cells := 0, slots := 0, locals := 24 } : Room) (va_Pc [.ref (b + a)] (sg_Wd D b cA n h)) (va_Qv (fun u => u = Rz) (sg_Wd D b cA n) (sg_A b)) 0 0 (sg_A b) := by
  refine Met.ofW (cc := cX9_remember) (maxL := 2) (ret := none) (by decide) rfl ?_
  intro p e s m args below meth c s₁ B hml hv
  obtain ⟨rfl, hP, hK, hz, hY, hN⟩ := hv
  have hl := lv_entry [.ref (b + a)] (n := 2) (Nat.le_of_ble_eq_true rfl)
  rw [lg_entry_eq]
  exact w_X9_remember hn ⟨B.exec, B.bytes, findClass_of_methodNamed B.named, fun w h => atoms_spec (ws := Cond.code yX9_remember cX9_remember 2 none :: sg_tbl) B.pre w (List.mem_cons_of_mem _ h), hK, hN⟩ hz B.returns B.notSynchronized hml (Nat.le_refl _) (Nat.le_refl _) ha_a hT_a hf _ _ _ ⟨hP, hY, va_S.rf⟩ hl
