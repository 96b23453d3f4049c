set_option maxHeartbeats 4000000 in
set_option maxRecDepth 100000 in
theorem w_X1_hasYard {p : Program} {l : Launch} {e : Env} {R : Room} {s : State} {m : MethodId} {args : Array Value} {below : List Frame} {meth : Method} {c : Code} {D : va_G} {cA : Nat → ClassId} {b n : Nat} (hn : sg_okN n) {a : Nat} {x1 : Int32} {h : HP} {Rz : Int32} (hc : sg_Cx p s m args c cX1_hasYard RX1 D cA) (hz : s.heap.size = b + n) (hr : meth.sig.returnType = some .boolean) (hlocks : meth.locks = false) (hml : c.maxLocals = 2) (hRf : 0 ≤ R.frames) (hRl : 0 ≤ R.locals) (ha_a : a < n) (hT_a : sg_T a = 1) (hf : F_X1_hasYard a x1 h = some Rz) (H : Heap) (locs : List Loc) (ls : Array Slot) (hw : sg_Wo D b cA n s.heap h H locs) (hl : lv_has ls 2 [(0, .ref (b + a)), (1, .int x1)]) : W p l e R s m args below meth c H locs 0 0 (sg_Qi below args s D b cA n (fun r u => (r = Rz ∧ u = h) ∧ narrow .boolean (.int r) = .int r)) (F0 m 0 ls []) := by
  have hx := hc.1
  have hb := hc.2.1
  have hn0 : 0 < n := sg_pos hn
  unfold F_X1_hasYard at hf
  refine lv_iload_n hx hb dX1_hasYard_0 rfl (lv_at hl 1 rfl) ?_
  refine lv_if_lt (tgt := 16) hx hb dX1_hasYard_1 (by decide) (fun c1 => ?_) (fun c1 => ?_)
  · have hf := if_of c1 hf
    refine lv_iconst (v := 0) hx hb dX1_hasYard_16 (by decide) ?_
    cases hf
    exact sg_zret hc hw hz hn0 hr hlocks rfl ⟨⟨rfl, rfl⟩, rfl⟩ dX1_hasYard_17
  · have hf := if_no c1 hf
    refine lv_iload_n hx hb dX1_hasYard_4 rfl (lv_at hl 1 rfl) ?_
    refine lv_aload_n hx hb dX1_hasYard_5 rfl (lv_at hl 0 rfl) ?_
    refine sg_geti hc hw ha_a hT_a fi_1_1 k_41 dX1_hasYard_6 ?_
    refine lv_icmp_ge (tgt := 16) hx hb dX1_hasYard_9 (by decide) (fun c9 => ?_) (fun c9 => ?_)
    · have hf := if_of c9 hf
      refine lv_iconst (v := 0) hx hb dX1_hasYard_16 (by decide) ?_
      cases hf
      exact sg_zret hc hw hz hn0 hr hlocks rfl ⟨⟨rfl, rfl⟩, rfl⟩ dX1_hasYard_17
    · have hf := if_no c9 hf
      refine lv_iconst (v := 1) hx hb dX1_hasYard_12 (by decide) ?_
      refine lv_goto (tgt := 17) hx hb dX1_hasYard_13 (by decide) ?_
      cases hf
      exact sg_zret hc hw hz hn0 hr hlocks rfl ⟨⟨rfl, rfl⟩, rfl⟩ dX1_hasYard_17
theorem c_X1_hasYard {l : Launch} {D : va_G} {cA : Nat → ClassId} {b n : Nat} (hn : sg_okN n) {a : Nat} {x1 : Int32} (ha_a : a < n) (hT_a : sg_T a = 1) {h : HP} {Rz : Int32} (hf : F_X1_hasYard a x1 h = some Rz) : Met l yX1_hasYard (Cond.code yX1_hasYard cX1_hasYard 2 (some .boolean) :: sg_tbl) ({ frames := 0, cells := 0, slots := 0, locals := 0 } : Room) (va_Pc [.ref (b + a), .int x1] (sg_Wd D b cA n h)) (va_Qi (fun r u => (r = Rz ∧ u = h) ∧ narrow .boolean (.int r) = .int r) (sg_Wd D b cA n) (sg_A b)) 0 0 (sg_A b) := by
  refine Met.ofW (cc := cX1_hasYard) (maxL := 2) (ret := (some .boolean)) (by decide) rfl ?_
  intro p e s m args below meth c s₁ B hml hv
  obtain ⟨rfl, hP, hK, hz, hY, hN⟩ := hv
  have hl := lv_entry [.ref (b + a), .int x1] (n := 2) (Nat.le_of_ble_eq_true rfl)
  rw [lg_entry_eq]
  exact w_X1_hasYard hn ⟨B.exec, B.bytes, findClass_of_methodNamed B.named, fun w h => atoms_spec (ws := Cond.code yX1_hasYard cX1_hasYard 2 (some .boolean) :: sg_tbl) B.pre w (List.mem_cons_of_mem _ h), hK, hN⟩ hz B.returns B.notSynchronized hml (Nat.le_refl _) (Nat.le_refl _) ha_a hT_a hf _ _ _ ⟨hP, hY, va_S.rf⟩ hl
set_option maxHeartbeats 4000000 in
set_option maxRecDepth 100000 in
theorem w_X1_hasBearer {p : Program} {l : Launch} {e : Env} {R : Room} {s : State} {m : MethodId} {args : Array Value} {below : List Frame} {meth : Method} {c : Code} {D : va_G} {cA : Nat → ClassId} {b n : Nat} (hn : sg_okN n) {a : Nat} {x1 : Int32} {h : HP} {Rz : Int32} (hc : sg_Cx p s m args c cX1_hasBearer RX1 D cA) (hz : s.heap.size = b + n) (hr : meth.sig.returnType = some .boolean) (hlocks : meth.locks = false) (hml : c.maxLocals = 2) (hRf : 0 ≤ R.frames) (hRl : 0 ≤ R.locals) (ha_a : a < n) (hT_a : sg_T a = 1) (hf : F_X1_hasBearer a x1 h = some Rz) (H : Heap) (locs : List Loc) (ls : Array Slot) (hw : sg_Wo D b cA n s.heap h H locs) (hl : lv_has ls 2 [(0, .ref (b + a)), (1, .int x1)]) : W p l e R s m args below meth c H locs 0 0 (sg_Qi below args s D b cA n (fun r u => (r = Rz ∧ u = h) ∧ narrow .boolean (.int r) = .int r)) (F0 m 0 ls []) := by
  have hx := hc.1
  have hb := hc.2.1
  have hn0 : 0 < n := sg_pos hn
  unfold F_X1_hasBearer at hf
  refine lv_iload_n hx hb dX1_hasBearer_0 rfl (lv_at hl 1 rfl) ?_
  refine lv_if_lt (tgt := 16) hx hb dX1_hasBearer_1 (by decide) (fun c1 => ?_) (fun c1 => ?_)
  · have hf := if_of c1 hf
    refine lv_iconst (v := 0) hx hb dX1_hasBearer_16 (by decide) ?_
    cases hf
    exact sg_zret hc hw hz hn0 hr hlocks rfl ⟨⟨rfl, rfl⟩, rfl⟩ dX1_hasBearer_17
  · have hf := if_no c1 hf
    refine lv_iload_n hx hb dX1_hasBearer_4 rfl (lv_at hl 1 rfl) ?_
    refine lv_aload_n hx hb dX1_hasBearer_5 rfl (lv_at hl 0 rfl) ?_
    refine sg_geti hc hw ha_a hT_a fi_1_2 k_46 dX1_hasBearer_6 ?_
    refine lv_icmp_ge (tgt := 16) hx hb dX1_hasBearer_9 (by decide) (fun c9 => ?_) (fun c9 => ?_)
    · have hf := if_of c9 hf
      refine lv_iconst (v := 0) hx hb dX1_hasBearer_16 (by decide) ?_
      cases hf
      exact sg_zret hc hw hz hn0 hr hlocks rfl ⟨⟨rfl, rfl⟩, rfl⟩ dX1_hasBearer_17
    · have hf := if_no c9 hf
      refine lv_iconst (v := 1) hx hb dX1_hasBearer_12 (by decide) ?_
      refine lv_goto (tgt := 17) hx hb dX1_hasBearer_13 (by decide) ?_
      cases hf
      exact sg_zret hc hw hz hn0 hr hlocks rfl ⟨⟨rfl, rfl⟩, rfl⟩ dX1_hasBearer_17
theorem c_X1_hasBearer {l : Launch} {D : va_G} {cA : Nat → ClassId} {b n : Nat} (hn : sg_okN n) {a : Nat} {x1 : Int32} (ha_a : a < n) (hT_a : sg_T a = 1) {h : HP} {Rz : Int32} (hf : F_X1_hasBearer a x1 h = some Rz) : Met l yX1_hasBearer (Cond.code yX1_hasBearer cX1_hasBearer 2 (some .boolean) :: sg_tbl) ({ frames := 0, cells := 0, slots := 0, locals := 0 } : Room) (va_Pc [.ref (b + a), .int x1] (sg_Wd D b cA n h)) (va_Qi (fun r u => (r = Rz ∧ u = h) ∧ narrow .boolean (.int r) = .int r) (sg_Wd D b cA n) (sg_A b)) 0 0 (sg_A b) := by
  refine Met.ofW (cc := cX1_hasBearer) (maxL := 2) (ret := (some .boolean)) (by decide) rfl ?_
  intro p e s m args below meth c s₁ B hml hv
  obtain ⟨rfl, hP, hK, hz, hY, hN⟩ := hv
  have hl := lv_entry [.ref (b + a), .int x1] (n := 2) (Nat.le_of_ble_eq_true rfl)
  rw [lg_entry_eq]
  exact w_X1_hasBearer hn ⟨B.exec, B.bytes, findClass_of_methodNamed B.named, fun w h => atoms_spec (ws := Cond.code yX1_hasBearer cX1_hasBearer 2 (some .boolean) :: sg_tbl) B.pre w (List.mem_cons_of_mem _ h), hK, hN⟩ hz B.returns B.notSynchronized hml (Nat.le_refl _) (Nat.le_refl _) ha_a hT_a hf _ _ _ ⟨hP, hY, va_S.rf⟩ hl
set_option maxHeartbeats 4000000 in
set_option maxRecDepth 100000 in
theorem w_X2_note {p : Program} {l : Launch} {e : Env} {R : Room} {s : State} {m : MethodId} {args : Array Value} {below : List Frame} {meth : Method} {c : Code} {D : va_G} {cA : Nat → ClassId} {b n : Nat} (hn : sg_okN n) {a : Nat} {x1 : Int32} {h : HP} {Rz : HP} (hc : sg_Cx p s m args c cX2_note RX2 D cA) (hz : s.heap.size = b + n) (hr : meth.sig.returnType = none) (hlocks : meth.locks = false) (hml : c.maxLocals = 2) (hRf : 1 ≤ R.frames) (hRl : 100 ≤ R.locals) (ha_a : a < n) (hT_a : sg_T a = 2) (hf : F_X2_note a x1 h = some Rz) (H : Heap) (locs : List Loc) (ls : Array Slot) (hw : sg_Wo D b cA n s.heap h H locs) (hl : lv_has ls 2 [(0, .ref (b + a)), (1, .int x1)]) : W p l e R s m args below meth c H locs 0 0 (sg_Qv below args s D b cA n (fun u => u = Rz)) (F0 m 0 ls []) := by
  have hx := hc.1
  have hb := hc.2.1
  have hn0 : 0 < n := sg_pos hn
  unfold F_X2_note at hf
  refine lv_iload_n hx hb dX2_note_0 rfl (lv_at hl 1 rfl) ?_
  refine lv_aload_n hx hb dX2_note_1 rfl (lv_at hl 0 rfl) ?_
  refine sg_geti hc hw ha_a hT_a fi_2_0 k_259 dX2_note_2 ?_
  refine lv_icmp_le (tgt := 28) hx hb dX2_note_5 (by decide) (fun c5 => ?_) (fun c5 => ?_)
  · have hf := if_of c5 hf
    cases hf
    exact sg_vret hc hw hz hn0 hr hlocks rfl dX2_note_28
  · have hf := if_no c5 hf
    refine lv_aload_n hx hb dX2_note_8 rfl (lv_at hl 0 rfl) ?_
    refine lv_iload_n hx hb dX2_note_9 rfl (lv_at hl 1 rfl) ?_
    refine sg_puti hc hw ha_a hT_a fp_2_0 rfl rfl k_259 dX2_note_10 (fun H locs hw => ?_)
    obtain ⟨h10, hw, hf⟩ := sg_name hw hf
    refine lv_aload_n hx hb dX2_note_13 rfl (lv_at hl 0 rfl) ?_
    obtain ⟨hF14, hT14, ha14, hN14⟩ := ft_2_2 hn ha_a hT_a
    refine sg_getf (q := (a + 2)) hc hw ha_a hT_a fr_2_2 (by decide) k_263 dX2_note_14 hF14 ?_
    refine lv_iconst (v := 0) hx hb dX2_note_17 (by decide) ?_
    refine lv_aload_n hx hb dX2_note_18 rfl (lv_at hl 0 rfl) ?_
    obtain ⟨hF19, hT19, ha19, hN19⟩ := ft_2_1 hn ha_a hT_a
    refine sg_getf (q := (a + 1)) hc hw ha_a hT_a fr_2_1 (by decide) k_261 dX2_note_19 hF19 ?_
    refine lv_iconst (v := 0) hx hb dX2_note_22 (by decide) ?_
    refine lv_bipush (v := 6) hx hb dX2_note_23 (by decide) ?_
    refine sg_copy hc hw hml hl k_737 k_442 k_441 k_15 ha14 hT14 hN14 ha19 hT19 hN19 (by decide) (by decide) (by decide) (by decide) (by decide) (Nat.le_trans (by decide) hRf) (Nat.le_trans (by decide) hRl) dX2_note_25 (fun H locs hw => ?_)
    obtain ⟨h25, hw, hf⟩ := sg_name hw hf
    cases hf
    exact sg_vret hc hw hz hn0 hr hlocks rfl dX2_note_28
theorem c_X2_note {l : Launch} {D : va_G} {cA : Nat → ClassId} {b n : Nat} (hn : sg_okN n) {a : Nat} {x1 : Int32} (ha_a : a < n) (hT_a : sg_T a = 2) {h : HP} {Rz : HP} (hf : F_X2_note a x1 h = some Rz) : Met l yX2_note (Cond.code yX2_note cX2_note 2 none :: sg_tbl) ({ frames := 1, cells := 0, slots := 0, locals := 100 } : Room) (va_Pc [.ref (b + a), .int x1] (sg_Wd D b cA n h)) (va_Qv (fun u => u = Rz) (sg_Wd D b cA n) (sg_A b)) 0 0 (sg_A b) := by
  refine Met.ofW (cc := cX2_note) (maxL := 2) (ret := none) (by decide) rfl ?_
  intro p e s m args below meth c s₁ B hml hv
  obtain ⟨rfl, hP, hK, hz, hY, hN⟩ := hv
  have hl := lv_entry [.ref (b + a), .int x1] (n := 2) (Nat.le_of_ble_eq_true rfl)
  rw [lg_entry_eq]
  exact w_X2_note hn ⟨B.exec, B.bytes, findClass_of_methodNamed B.named, fun w h => atoms_spec (ws := Cond.code yX2_note cX2_note 2 none :: sg_tbl) B.pre w (List.mem_cons_of_mem _ h), hK, hN⟩ hz B.returns B.notSynchronized hml (Nat.le_refl _) (Nat.le_refl _) ha_a hT_a hf _ _ _ ⟨hP, hY, va_S.rf⟩ hl
set_option maxHeartbeats 4000000 in
set_option maxRecDepth 100000 in
theorem w_X2_goAlone {p : Program} {l : Launch} {e : Env} {R : Room} {s : State} {m : MethodId} {args : Array Value} {below : List Frame} {meth : Method} {c : Code} {D : va_G} {cA : Nat → ClassId} {b n : Nat} (hn : sg_okN n) {a : Nat} {x1 : Int32} {x2 : Int32} {h : HP} {Rz : Int32} (hc : sg_Cx p s m args c cX2_goAlone RX2 D cA) (hz : s.heap.size = b + n) (hr : meth.sig.returnType = some .int) (hlocks : meth.locks = false) (hml : c.maxLocals = 5) (hRf : 1 ≤ R.frames) (hRl : 25 ≤ R.locals) (ha_a : a < n) (hT_a : sg_T a = 2) (hf : F_X2_goAlone a x1 x2 h = some Rz) (H : Heap) (locs : List Loc) (ls : Array Slot) (hw : sg_Wo D b cA n s.heap h H locs) (hl : lv_has ls 5 [(0, .ref (b + a)), (1, .int x1), (2, .int x2)]) : W p l e R s m args below meth c H locs 0 0 (sg_Qi below args s D b cA n (fun r u => r = Rz ∧ u = h)) (F0 m 0 ls []) := by
  have hx := hc.1
  have hb := hc.2.1
  have hn0 : 0 < n := sg_pos hn
  have J91 : ∀ (H : Heap) (locs : List Loc) (ls : Array Slot), F_X2_goAlone_J91 a h = some Rz → sg_Wo D b cA n s.heap h H locs → lv_has ls 5 [(0, .ref (b + a))] → W p l e R s m args below meth c H locs 0 0 (sg_Qi below args s D b cA n (fun r u => r = Rz ∧ u = h)) (F0 m 91 ls []) := by
    intro H locs ls hf hw hl
    unfold F_X2_goAlone_J91 at hf
    refine lv_aload_n hx hb dX2_goAlone_91 rfl (lv_at hl 0 rfl) ?_
    obtain ⟨hF92, hT92, ha92⟩ := ft_2_3 hn ha_a hT_a
    refine sg_getf (q := 15) hc hw ha_a hT_a fr_2_3 (by decide) k_264 dX2_goAlone_92 hF92 ?_
    refine sg_geti hc hw ha92 hT92 fi_1_1 k_43 dX2_goAlone_95 ?_
    cases hf
    exact sg_iret hc hw hz hn0 hr hlocks ⟨rfl, rfl⟩ dX2_goAlone_98
  have L30 : ∀ (k : Nat) (x : (Int32 × Int32)), F_X2_goAlone_L30 a x1 h k x = some Rz → ∀ (H : Heap) (locs : List Loc) (ls : Array Slot), sg_Wo D b cA n s.heap h H locs → lv_has ls 5 [(0, .ref (b + a)), (1, .int x1), (3, .int x.1), (4, .int x.2)] → W p l e R s m args below meth c H locs 0 0 (sg_Qi below args s D b cA n (fun r u => r = Rz ∧ u = h)) (F0 m 30 ls []) := by
    unfold F_X2_goAlone_L30
    refine lp_walk ?_
    intro rc30 hrc30 x hf H locs ls hw hl
    obtain ⟨x3, x4⟩ := x
    dsimp only at hf hw hl
    refine lv_iload hx hb dX2_goAlone_30 (lv_at hl 3 rfl) ?_
    refine lv_aload_n hx hb dX2_goAlone_32 rfl (lv_at hl 0 rfl) ?_
    obtain ⟨hF33, hT33, ha33⟩ := ft_2_3 hn ha_a hT_a
    refine sg_getf (q := 15) hc hw ha_a hT_a fr_2_3 (by decide) k_264 dX2_goAlone_33 hF33 ?_
    refine sg_geti hc hw ha33 hT33 fi_1_1 k_43 dX2_goAlone_36 ?_
    refine lv_icmp_ge (tgt := 91) hx hb dX2_goAlone_39 (by decide) (fun c39 => ?_) (fun c39 => ?_)
    · have hf := if_of c39 hf
      exact J91 _ _ _ hf hw (lv_sub hl [0] rfl)
    · have hf := if_no c39 hf
      refine lv_iload_n hx hb dX2_goAlone_42 rfl (lv_at hl 2 rfl) ?_
      refine lv_iconst (v := 1) hx hb dX2_goAlone_43 (by decide) ?_
      refine lv_aload_n hx hb dX2_goAlone_44 rfl (lv_at hl 0 rfl) ?_
      refine sg_getf (q := 15) hc hw ha_a hT_a fr_2_3 (by decide) k_264 dX2_goAlone_45 (ft_2_3 hn ha_a hT_a).1 ?_
      refine lv_iload hx hb dX2_goAlone_48 (lv_at hl 3 rfl) ?_
      obtain ⟨p50, hp50, hf⟩ := cl_of hf
      refine sg_vi (rest := [.int 1, .int x3]) (c_X1_slopeAt hn ha33 hT33 hp50) hc hw hz hml hl ha33 hT33 (by decide) rfl cv_X2_65 ⟨⟨rfl, rfl⟩, Nat.le_trans (Nat.le_of_ble_eq_true rfl) hRf, Nat.le_trans (Nat.le_of_ble_eq_true rfl) hRl⟩ ⟨Nat.zero_le _, Nat.zero_le _⟩ rfl rfl (Nat.le_of_ble_eq_true rfl) dX2_goAlone_50 (fun r h1 H locs hp hw => ?_)
      obtain ⟨e1, e2⟩ := hp; subst r; subst h1
      refine lv_iadd hx hb dX2_goAlone_53 ?_
      refine lv_aload_n hx hb dX2_goAlone_54 rfl (lv_at hl 0 rfl) ?_
      refine sg_getf (q := 15) hc hw ha_a hT_a fr_2_3 (by decide) k_264 dX2_goAlone_55 (ft_2_3 hn ha_a hT_a).1 ?_
      refine sg_geti hc hw ha33 hT33 fi_1_4 k_55 dX2_goAlone_58 ?_
      refine lv_iadd hx hb dX2_goAlone_61 ?_
      refine lv_aload_n hx hb dX2_goAlone_62 rfl (lv_at hl 0 rfl) ?_
      refine sg_getf (q := 15) hc hw ha_a hT_a fr_2_3 (by decide) k_264 dX2_goAlone_63 (ft_2_3 hn ha_a hT_a).1 ?_
      obtain ⟨hF66, hT66, ha66, hN66⟩ := ft_1_9 hn ha33 hT33
      refine sg_getf (q := 20) hc hw ha33 hT33 fr_1_9 (by decide) k_67 dX2_goAlone_66 hF66 ?_
      refine lv_iload_n hx hb dX2_goAlone_69 rfl (lv_at hl 1 rfl) ?_
      obtain ⟨hg70, hf⟩ := gd_of hf
      refine sg_ild hc hw ha66 hT66 hN66 hg70 dX2_goAlone_70 ?_
      refine lv_iconst (v := 1) hx hb dX2_goAlone_71 (by decide) ?_
      refine lv_iconst (v := 1) hx hb dX2_goAlone_72 (by decide) ?_
      obtain ⟨p73, hp73, hf⟩ := cl_of hf
      refine sg_ni (rest := [.int x3]) (c_X8_toll hn (h := h) hp73) hc hw hz hn0 hml hl cn_X2_75 ⟨⟨rfl, rfl⟩, Nat.le_trans (Nat.le_of_ble_eq_true rfl) hRf, Nat.le_trans (Nat.le_of_ble_eq_true rfl) hRl⟩ ⟨Nat.zero_le _, Nat.zero_le _⟩ rfl rfl (Nat.le_of_ble_eq_true rfl) dX2_goAlone_73 (fun r h1 H locs hp hw => ?_)
      obtain ⟨e1, e2⟩ := hp; subst r; subst h1
      refine lv_isub hx hb dX2_goAlone_76 ?_
      refine lv_topi (fun v77 e77 => ?_)
      have hf := nm_of e77 hf
      refine lv_istore_n (lv' := [(3, .int v77), (0, .ref (b + a)), (1, .int x1), (4, .int x4)]) hx hb dX2_goAlone_77 rfl hl (by decide) rfl (fun ls hl => ?_)
      refine lv_iload_n hx hb dX2_goAlone_78 rfl (lv_at hl 0 rfl) ?_
      refine lv_if_ge (tgt := 85) hx hb dX2_goAlone_79 (by decide) (fun c79 => ?_) (fun c79 => ?_)
      · have hf := if_of c79 hf
        refine lv_iinc (v := (x4 + 1)) (lv' := [(4, .int (x4 + 1)), (3, .int v77), (0, .ref (b + a)), (1, .int x1)]) hx hb dX2_goAlone_85 hl (k := 3) rfl rfl (by decide) rfl (fun ls hl => ?_)
        refine lv_goto (tgt := 30) hx hb dX2_goAlone_88 (by decide) ?_
        exact hrc30 _ hf _ _ _ hw (lv_sub hl [2, 3, 1, 0] rfl)
      · have hf := if_no c79 hf
        refine lv_iload hx hb dX2_goAlone_82 (lv_at hl 3 rfl) ?_
        cases hf
        exact sg_iret hc hw hz hn0 hr hlocks ⟨rfl, rfl⟩ dX2_goAlone_84
  have J25 : ∀ (s0 : Int32) (s1 : Int32) (H : Heap) (locs : List Loc) (ls : Array Slot), F_X2_goAlone_J25 a x1 x2 s0 s1 h = some Rz → sg_Wo D b cA n s.heap h H locs → lv_has ls 5 [(0, .ref (b + a)), (1, .int x1), (2, .int x2)] → W p l e R s m args below meth c H locs 0 0 (sg_Qi below args s D b cA n (fun r u => r = Rz ∧ u = h)) (F0 m 25 ls [.int s0, .int s1]) := by
    intro s0 s1 H locs ls hf hw hl
    unfold F_X2_goAlone_J25 at hf
    refine lv_iadd hx hb dX2_goAlone_25 ?_
    refine lv_topi (fun v26 e26 => ?_)
    have hf := nm_of e26 hf
    refine lv_istore_n (lv' := [(3, .int v26), (0, .ref (b + a)), (1, .int x1), (2, .int x2)]) hx hb dX2_goAlone_26 rfl hl (by decide) rfl (fun ls hl => ?_)
    refine lv_iload_n hx hb dX2_goAlone_27 rfl (lv_at hl 3 rfl) ?_
    refine lv_istore (lv' := [(4, .int x2), (3, .int v26), (0, .ref (b + a)), (1, .int x1), (2, .int x2)]) hx hb dX2_goAlone_28 hl (by decide) rfl (fun ls hl => ?_)
    exact L30 _ _ hf _ _ _ hw (lv_sub hl [2, 3, 1, 0] rfl)
  unfold F_X2_goAlone at hf
  refine lv_aload_n hx hb dX2_goAlone_0 rfl (lv_at hl 0 rfl) ?_
  obtain ⟨hF1, hT1, ha1⟩ := ft_2_3 hn ha_a hT_a
  refine sg_getf (q := 15) hc hw ha_a hT_a fr_2_3 (by decide) k_264 dX2_goAlone_1 hF1 ?_
  obtain ⟨hF4, hT4, ha4, hN4⟩ := ft_1_8 hn ha1 hT1
  refine sg_getf (q := 19) hc hw ha1 hT1 fr_1_8 (by decide) k_63 dX2_goAlone_4 hF4 ?_
  refine lv_iload_n hx hb dX2_goAlone_7 rfl (lv_at hl 1 rfl) ?_
  obtain ⟨hg8, hf⟩ := gd_of hf
  refine sg_ild hc hw ha4 hT4 hN4 hg8 dX2_goAlone_8 ?_
  refine lv_iload_n hx hb dX2_goAlone_9 rfl (lv_at hl 1 rfl) ?_
  refine lv_aload_n hx hb dX2_goAlone_10 rfl (lv_at hl 0 rfl) ?_
  refine sg_geti hc hw ha_a hT_a fi_2_4 k_265 dX2_goAlone_11 ?_
  refine lv_icmp_ne (tgt := 24) hx hb dX2_goAlone_14 (by decide) (fun c14 => ?_) (fun c14 => ?_)
  · have hf := if_no c14 hf
    refine lv_iconst (v := 0) hx hb dX2_goAlone_24 (by decide) ?_
    exact J25 0 (ld h 19 x1) _ _ _ hf hw (lv_sub hl [0, 1, 2] rfl)
  · have hf := if_of c14 hf
    refine lv_aload_n hx hb dX2_goAlone_17 rfl (lv_at hl 0 rfl) ?_
    refine sg_geti hc hw ha_a hT_a fi_2_5 k_266 dX2_goAlone_18 ?_
    refine lv_goto (tgt := 25) hx hb dX2_goAlone_21 (by decide) ?_
    exact J25 (h.1 a 5) (ld h 19 x1) _ _ _ hf hw (lv_sub hl [0, 1, 2] rfl)
theorem c_X2_goAlone {l : Launch} {D : va_G} {cA : Nat → ClassId} {b n : Nat} (hn : sg_okN n) {a : Nat} {x1 : Int32} {x2 : Int32} (ha_a : a < n) (hT_a : sg_T a = 2) {h : HP} {Rz : Int32} (hf : F_X2_goAlone a x1 x2 h = some Rz) : Met l yX2_goAlone (Cond.code yX2_goAlone cX2_goAlone 5 (some .int) :: sg_tbl) ({ frames := 1, cells := 0, slots := 0, locals := 25 } : Room) (va_Pc [.ref (b + a), .int x1, .int x2] (sg_Wd D b cA n h)) (va_Qi (fun r u => r = Rz ∧ u = h) (sg_Wd D b cA n) (sg_A b)) 0 0 (sg_A b) := by
  refine Met.ofW (cc := cX2_goAlone) (maxL := 5) (ret := (some .int)) (by decide) rfl ?_
  intro p e s m args below meth c s₁ B hml hv
  obtain ⟨rfl, hP, hK, hz, hY, hN⟩ := hv
  have hl := lv_entry [.ref (b + a), .int x1, .int x2] (n := 5) (Nat.le_of_ble_eq_true rfl)
  rw [lg_entry_eq]
  exact w_X2_goAlone hn ⟨B.exec, B.bytes, findClass_of_methodNamed B.named, fun w h => atoms_spec (ws := Cond.code yX2_goAlone cX2_goAlone 5 (some .int) :: sg_tbl) B.pre w (List.mem_cons_of_mem _ h), hK, hN⟩ hz B.returns B.notSynchronized hml (Nat.le_refl _) (Nat.le_refl _) ha_a hT_a hf _ _ _ ⟨hP, hY, va_S.rf⟩ hl
set_option maxHeartbeats 4000000 in
set_option maxRecDepth 100000 in
theorem w_X2_tryNext {p : Program} {l : Launch} {e : Env} {R : Room} {s : State} {m : MethodId} {args : Array Value} {below : List Frame} {meth : Method} {c : Code} {D : va_G} {cA : Nat → ClassId} {b n : Nat} {rcS : (Nat × Int32 × Int32 × Int32 × HP) → Option (HP)} {rmS : Room} (hrmS : rmS.cells = 0 ∧ rmS.slots = 0) (hRf2 : rmS.frames + 1 ≤ R.frames) (hRl2 : 8 + (5 + 11) + rmS.locals ≤ R.locals) (hrcS : ∀ {q0 : Nat} {x1 : Int32} {x2 : Int32} {x3 : Int32} (ha_q0 : q0 < n) (hT_q0 : sg_T q0 = 2) {h : HP} {Rz : HP}, rcS (q0, x1, x2, x3, h) = some Rz → Met l yX2_tryNext (Cond.code yX2_tryNext cX2_tryNext 5 none :: sg_tbl) rmS (va_Pc [.ref (b + q0), .int x1, .int x2, .int x3] (sg_Wd D b cA n h)) (va_Qv (fun u => u = Rz) (sg_Wd D b cA n) (sg_A b)) 0 0 (sg_A b)) (hn : sg_okN n) {q0 : Nat} {x1 : Int32} {x2 : Int32} {x3 : Int32} {h : HP} {Rz : HP} (hc : sg_Cx p s m args c cX2_tryNext RX2 D cA) (hz : s.heap.size = b + n) (hr : meth.sig.returnType = none) (hlocks : meth.locks = false) (hml : c.maxLocals = 5) (hRf : 2 ≤ R.frames) (hRl : 121 ≤ R.locals) (ha_q0 : q0 < n) (hT_q0 : sg_T q0 = 2) (hf : F_X2_tryNext_B rcS q0 x1 x2 x3 h = some Rz) (H : Heap) (locs : List Loc) (ls : Array Slot) (hw : sg_Wo D b cA n s.heap h H locs) (hl : lv_has ls 5 [(0, .ref (b + q0)), (1, .int x1), (2, .int x2), (3, .int x3)]) : W p l e R s m args below meth c H locs 0 0 (sg_Qv below args s D b cA n (fun u => u = Rz)) (F0 m 0 ls []) := by
  have hx := hc.1
  have hb := hc.2.1
  have hn0 : 0 < n := sg_pos hn
  have J17 : ∀ (h : HP) (H : Heap) (locs : List Loc) (ls : Array Slot), F_X2_tryNext_J17 rcS q0 x3 h = some Rz → sg_Wo D b cA n s.heap h H locs → lv_has ls 5 [(0, .ref (b + q0)), (3, .int x3)] → W p l e R s m args below meth c H locs 0 0 (sg_Qv below args s D b cA n (fun u => u = Rz)) (F0 m 17 ls []) := by
    intro h H locs ls hf hw hl
    unfold F_X2_tryNext_J17 at hf
    refine lv_aload_n hx hb dX2_tryNext_17 rfl (lv_at hl 0 rfl) ?_
    refine lv_iload_n hx hb dX2_tryNext_18 rfl (lv_at hl 1 rfl) ?_
    obtain ⟨p19, hp19, hf⟩ := cl_of hf
    refine sg_vv (rest := []) (c_X2_note hn ha_q0 hT_q0 hp19) hc hw hz hml hl ha_q0 hT_q0 (by decide) rfl cv_X2_41 ⟨⟨rfl, rfl⟩, Nat.le_trans (Nat.le_of_ble_eq_true rfl) hRf, Nat.le_trans (Nat.le_of_ble_eq_true rfl) hRl⟩ ⟨Nat.zero_le _, Nat.zero_le _⟩ rfl rfl (Nat.le_of_ble_eq_true rfl) dX2_tryNext_19 (fun h1 H locs hp hw => ?_)
    subst h1
    cases hf
    exact sg_vret hc hw hz hn0 hr hlocks rfl dX2_tryNext_22
  have L26 : ∀ (k : Nat) (x : (Int32 × HP)), F_X2_tryNext_L26 rcS q0 x1 x2 x3 k x = some Rz → ∀ (H : Heap) (locs : List Loc) (ls : Array Slot), sg_Wo D b cA n s.heap x.2 H locs → lv_has ls 5 [(0, .ref (b + q0)), (1, .int x1), (2, .int x2), (3, .int x3), (4, .int x.1)] → W p l e R s m args below meth c H locs 0 0 (sg_Qv below args s D b cA n (fun u => u = Rz)) (F0 m 26 ls []) := by
    unfold F_X2_tryNext_L26
    refine lp_walk ?_
    intro rc26 hrc26 x hf H locs ls hw hl
    obtain ⟨x4, h⟩ := x
    dsimp only at hf hw hl
    have J89 : ∀ (x4 : Int32) (h : HP) (H : Heap) (locs : List Loc) (ls : Array Slot), F_X2_tryNext_J89 rcS q0 rc26 x1 x2 x3 x4 h = some Rz → sg_Wo D b cA n s.heap h H locs → lv_has ls 5 [(0, .ref (b + q0)), (1, .int x1), (2, .int x2), (3, .int x3), (4, .int x4)] → W p l e R s m args below meth c H locs 0 0 (sg_Qv below args s D b cA n (fun u => u = Rz)) (F0 m 89 ls []) := by
      intro x4 h H locs ls hf hw hl
      unfold F_X2_tryNext_J89 at hf
      refine lv_iinc (v := (x4 + 1)) (lv' := [(4, .int (x4 + 1)), (0, .ref (b + q0)), (1, .int x1), (2, .int x2), (3, .int x3)]) hx hb dX2_tryNext_89 hl (k := 4) rfl rfl (by decide) rfl (fun ls hl => ?_)
      refine lv_goto (tgt := 26) hx hb dX2_tryNext_92 (by decide) ?_
      exact hrc26 _ hf _ _ _ hw (lv_sub hl [1, 2, 3, 4, 0] rfl)
    refine lv_iload hx hb dX2_tryNext_26 (lv_at hl 4 rfl) ?_
    refine lv_aload_n hx hb dX2_tryNext_28 rfl (lv_at hl 0 rfl) ?_
    obtain ⟨hF29, hT29, ha29⟩ := ft_2_3 hn ha_q0 hT_q0
    refine sg_getf (q := 15) hc hw ha_q0 hT_q0 fr_2_3 (by decide) k_264 dX2_tryNext_29 hF29 ?_
    refine sg_geti hc hw ha29 hT29 fi_1_2 k_47 dX2_tryNext_32 ?_
    refine lv_icmp_ge (tgt := 95) hx hb dX2_tryNext_35 (by decide) (fun c35 => ?_) (fun c35 => ?_)
    · have hf := if_of c35 hf
      cases hf
      exact sg_vret hc hw hz hn0 hr hlocks rfl dX2_tryNext_95
    · have hf := if_no c35 hf
      refine lv_aload_n hx hb dX2_tryNext_38 rfl (lv_at hl 0 rfl) ?_
      refine sg_geti hc hw ha_q0 hT_q0 fi_2_0 k_259 dX2_tryNext_39 ?_
      refine lv_aload_n hx hb dX2_tryNext_42 rfl (lv_at hl 0 rfl) ?_
      refine sg_getf (q := 15) hc hw ha_q0 hT_q0 fr_2_3 (by decide) k_264 dX2_tryNext_43 (ft_2_3 hn ha_q0 hT_q0).1 ?_
      refine sg_geti hc hw ha29 hT29 fi_1_1 k_43 dX2_tryNext_46 ?_
      refine lv_icmp_ge (tgt := 95) hx hb dX2_tryNext_49 (by decide) (fun c49 => ?_) (fun c49 => ?_)
      · have hf := if_of c49 hf
        cases hf
        exact sg_vret hc hw hz hn0 hr hlocks rfl dX2_tryNext_95
      · have hf := if_no c49 hf
        refine lv_iload hx hb dX2_tryNext_52 (lv_at hl 4 rfl) ?_
        refine lv_iload_n hx hb dX2_tryNext_54 rfl (lv_at hl 2 rfl) ?_
        obtain ⟨p55, hp55, hf⟩ := cl_of hf
        refine sg_ni (rest := []) (c_X8_isIn hn (h := h) hp55) hc hw hz hn0 hml hl cn_X2_48 ⟨⟨rfl, rfl⟩, Nat.le_trans (Nat.le_of_ble_eq_true rfl) hRf, Nat.le_trans (Nat.le_of_ble_eq_true rfl) hRl⟩ ⟨Nat.zero_le _, Nat.zero_le _⟩ rfl rfl (Nat.le_of_ble_eq_true rfl) dX2_tryNext_55 (fun r h1 H locs hp hw => ?_)
        obtain ⟨⟨e1, e2⟩, hb55⟩ := hp; subst r; subst h1
        refine lv_if_ne (tgt := 89) hx hb dX2_tryNext_58 (by decide) (fun c58 => ?_) (fun c58 => ?_)
        · have hf := if_no c58 hf
          exact J89 x4 _ _ _ _ hf hw (lv_sub hl [0, 1, 2, 3, 4] rfl)
        · have hf := if_of c58 hf
          refine lv_aload_n hx hb dX2_tryNext_61 rfl (lv_at hl 0 rfl) ?_
          obtain ⟨hF62, hT62, ha62, hN62⟩ := ft_2_2 hn ha_q0 hT_q0
          refine sg_getf (q := (q0 + 2)) hc hw ha_q0 hT_q0 fr_2_2 (by decide) k_263 dX2_tryNext_62 hF62 ?_
          refine lv_iload_n hx hb dX2_tryNext_65 rfl (lv_at hl 1 rfl) ?_
          refine lv_iload hx hb dX2_tryNext_66 (lv_at hl 4 rfl) ?_
          obtain ⟨hg68, hf⟩ := gd_of hf
          refine sg_ist hc hw ha62 hT62 hN62 hg68 dX2_tryNext_68 (fun H locs hw => ?_)
          obtain ⟨h68, hw, hf⟩ := sg_name hw hf
          refine lv_aload_n hx hb dX2_tryNext_69 rfl (lv_at hl 0 rfl) ?_
          refine lv_iload_n hx hb dX2_tryNext_70 rfl (lv_at hl 1 rfl) ?_
          refine lv_iconst (v := 1) hx hb dX2_tryNext_71 (by decide) ?_
          refine lv_iadd hx hb dX2_tryNext_72 ?_
          refine lv_iload_n hx hb dX2_tryNext_73 rfl (lv_at hl 2 rfl) ?_
          refine lv_iconst (v := 1) hx hb dX2_tryNext_74 (by decide) ?_
          refine lv_iload hx hb dX2_tryNext_75 (lv_at hl 4 rfl) ?_
          refine lv_ishl hx hb dX2_tryNext_77 ?_
          refine lv_ior hx hb dX2_tryNext_78 ?_
          refine lv_aload_n hx hb dX2_tryNext_79 rfl (lv_at hl 0 rfl) ?_
          refine lv_iload hx hb dX2_tryNext_80 (lv_at hl 4 rfl) ?_
          refine lv_iload_n hx hb dX2_tryNext_82 rfl (lv_at hl 3 rfl) ?_
          obtain ⟨p83, hp83, hf⟩ := cl_of hf
          refine sg_vi (rest := [.int (x2 ||| (1 <<< (x4 &&& 31))), .int (x1 + 1), .ref (b + q0)]) (c_X2_goAlone hn ha_q0 hT_q0 hp83) hc hw hz hml hl ha_q0 hT_q0 (by decide) rfl cv_X2_52 ⟨⟨rfl, rfl⟩, Nat.le_trans (Nat.le_of_ble_eq_true rfl) hRf, Nat.le_trans (Nat.le_of_ble_eq_true rfl) hRl⟩ ⟨Nat.zero_le _, Nat.zero_le _⟩ rfl rfl (Nat.le_of_ble_eq_true rfl) dX2_tryNext_83 (fun r h1 H locs hp hw => ?_)
          obtain ⟨e1, e2⟩ := hp; subst r; subst h1
          obtain ⟨p86, hp86, hf⟩ := cl_of hf
          refine sg_sv' (rest := []) (hrcS ha_q0 hT_q0 hp86) hc hw hz hn0 hml hl cs_X2_32 ⟨hrmS, hRf2, hRl2⟩ ⟨Nat.zero_le _, Nat.zero_le _⟩ rfl rfl (Nat.le_of_ble_eq_true rfl) dX2_tryNext_86 (fun h1 H locs hp hw => ?_)
          subst h1
          exact J89 x4 _ _ _ _ hf hw (lv_sub hl [0, 1, 2, 3, 4] rfl)
  unfold F_X2_tryNext_B at hf
  refine lv_iload_n hx hb dX2_tryNext_0 rfl (lv_at hl 1 rfl) ?_
  refine lv_aload_n hx hb dX2_tryNext_1 rfl (lv_at hl 0 rfl) ?_
  obtain ⟨hF2, hT2, ha2⟩ := ft_2_3 hn ha_q0 hT_q0
  refine sg_getf (q := 15) hc hw ha_q0 hT_q0 fr_2_3 (by decide) k_264 dX2_tryNext_2 hF2 ?_
  refine sg_geti hc hw ha2 hT2 fi_1_2 k_47 dX2_tryNext_5 ?_
  refine lv_icmp_ge (tgt := 17) hx hb dX2_tryNext_8 (by decide) (fun c8 => ?_) (fun c8 => ?_)
  · have hf := if_of c8 hf
    exact J17 _ _ _ _ hf hw (lv_sub hl [0, 3] rfl)
  · have hf := if_no c8 hf
    refine lv_iload_n hx hb dX2_tryNext_11 rfl (lv_at hl 1 rfl) ?_
    refine lv_bipush (v := 6) hx hb dX2_tryNext_12 (by decide) ?_
    refine lv_icmp_lt (tgt := 23) hx hb dX2_tryNext_14 (by decide) (fun c14 => ?_) (fun c14 => ?_)
    · have hf := if_of c14 hf
      refine lv_iconst (v := 0) hx hb dX2_tryNext_23 (by decide) ?_
      refine lv_istore (lv' := [(4, .int 0), (0, .ref (b + q0)), (1, .int x1), (2, .int x2), (3, .int x3)]) hx hb dX2_tryNext_24 hl (by decide) rfl (fun ls hl => ?_)
      exact L26 _ _ hf _ _ _ hw (lv_sub hl [1, 2, 3, 4, 0] rfl)
    · have hf := if_no c14 hf
      exact J17 _ _ _ _ hf hw (lv_sub hl [0, 3] rfl)
theorem c_X2_tryNext_R {l : Launch} {D : va_G} {cA : Nat → ClassId} {b n : Nat} (hn : sg_okN n) (d : Nat) : ∀ {q0 : Nat} {x1 : Int32} {x2 : Int32} {x3 : Int32} (ha_q0 : q0 < n) (hT_q0 : sg_T q0 = 2) {h : HP} {Rz : HP}, F_X2_tryNext_R d (q0, x1, x2, x3, h) = some Rz → Met l yX2_tryNext (Cond.code yX2_tryNext cX2_tryNext 5 none :: sg_tbl) ({ frames := 2 + d, cells := 0, slots := 0, locals := 121 + 24 * d } : Room) (va_Pc [.ref (b + q0), .int x1, .int x2, .int x3] (sg_Wd D b cA n h)) (va_Qv (fun u => u = Rz) (sg_Wd D b cA n) (sg_A b)) 0 0 (sg_A b) := by
  induction d with
  | zero => intro q0 x1 x2 x3 ha_q0 hT_q0 h Rz hf; cases hf
  | succ d ih =>
    intro q0 x1 x2 x3 ha_q0 hT_q0 h Rz hf
    refine Met.ofW (cc := cX2_tryNext) (maxL := 5) (ret := none) (by decide) rfl ?_
    intro p e s m args below meth c s₁ B hml hv
    obtain ⟨rfl, hP, hK, hz, hY, hN⟩ := hv
    have hl := lv_entry [.ref (b + q0), .int x1, .int x2, .int x3] (n := 5) (Nat.le_of_ble_eq_true rfl)
    rw [lg_entry_eq]
    exact w_X2_tryNext ⟨rfl, rfl⟩ (by show 2 + d + 1 ≤ 2 + (d + 1); omega) (by show 8 + (5 + 11) + (121 + 24 * d) ≤ 121 + 24 * (d + 1); omega) ih hn ⟨B.exec, B.bytes, findClass_of_methodNamed B.named, fun w h => atoms_spec (ws := Cond.code yX2_tryNext cX2_tryNext 5 none :: sg_tbl) B.pre w (List.mem_cons_of_mem _ h), hK, hN⟩ hz B.returns B.notSynchronized hml (by show 2 ≤ 2 + (d + 1); omega) (by show 121 ≤ 121 + 24 * (d + 1); omega) ha_q0 hT_q0 hf _ _ _ ⟨hP, hY, va_S.rf⟩ hl
theorem c_X2_tryNext {l : Launch} {D : va_G} {cA : Nat → ClassId} {b n : Nat} (hn : sg_okN n) {q0 : Nat} {x1 : Int32} {x2 : Int32} {x3 : Int32} (ha_q0 : q0 < n) (hT_q0 : sg_T q0 = 2) {h : HP} {Rz : HP} (hf : F_X2_tryNext q0 x1 x2 x3 h = some Rz) : Met l yX2_tryNext (Cond.code yX2_tryNext cX2_tryNext 5 none :: sg_tbl) ({ frames := 10, cells := 0, slots := 0, locals := 313 } : Room) (va_Pc [.ref (b + q0), .int x1, .int x2, .int x3] (sg_Wd D b cA n h)) (va_Qv (fun u => u = Rz) (sg_Wd D b cA n) (sg_A b)) 0 0 (sg_A b) := c_X2_tryNext_R hn 8 ha_q0 hT_q0 hf
set_option maxHeartbeats 4000000 in
set_option maxRecDepth 100000 in
theorem w_X2_seek {p : Program} {l : Launch} {e : Env} {R : Room} {s : State} {m : MethodId} {args : Array Value} {below : List Frame} {meth : Method} {c : Code} {D : va_G} {cA : Nat → ClassId} {b n : Nat} (hn : sg_okN n) {a : Nat} {x1 : Int32} {x2 : Int32} {h : HP} {Rz : HP} (hc : sg_Cx p s m args c cX2_seek RX2 D cA) (hz : s.heap.size = b + n) (hr : meth.sig.returnType = none) (hlocks : meth.locks = false) (hml : c.maxLocals = 3) (hRf : 11 ≤ R.frames) (hRl : 337 ≤ R.locals) (ha_a : a < n) (hT_a : sg_T a = 2) (hf : F_X2_seek a x1 x2 h = some Rz) (H : Heap) (locs : List Loc) (ls : Array Slot) (hw : sg_Wo D b cA n s.heap h H locs) (hl : lv_has ls 3 [(0, .ref (b + a)), (1, .int x1), (2, .int x2)]) : W p l e R s m args below meth c H locs 0 0 (sg_Qv below args s D b cA n (fun u => u = Rz)) (F0 m 0 ls []) := by
  have hx := hc.1
  have hb := hc.2.1
  have hn0 : 0 < n := sg_pos hn
  unfold F_X2_seek at hf
  refine lv_aload_n hx hb dX2_seek_0 rfl (lv_at hl 0 rfl) ?_
  refine lv_iload_n hx hb dX2_seek_1 rfl (lv_at hl 1 rfl) ?_
  refine sg_puti hc hw ha_a hT_a fp_2_4 rfl rfl k_265 dX2_seek_2 (fun H locs hw => ?_)
  obtain ⟨h2, hw, hf⟩ := sg_name hw hf
  refine lv_aload_n hx hb dX2_seek_5 rfl (lv_at hl 0 rfl) ?_
  refine lv_iload_n hx hb dX2_seek_6 rfl (lv_at hl 2 rfl) ?_
  refine sg_puti hc hw ha_a hT_a fp_2_5 rfl rfl k_266 dX2_seek_7 (fun H locs hw => ?_)
  obtain ⟨h7, hw, hf⟩ := sg_name hw hf
  refine lv_aload_n hx hb dX2_seek_10 rfl (lv_at hl 0 rfl) ?_
  refine lv_bipush (v := (-4)) hx hb dX2_seek_11 (by decide) ?_
  refine sg_puti hc hw ha_a hT_a fp_2_0 rfl rfl k_259 dX2_seek_13 (fun H locs hw => ?_)
  obtain ⟨h13, hw, hf⟩ := sg_name hw hf
  refine lv_aload_n hx hb dX2_seek_16 rfl (lv_at hl 0 rfl) ?_
  refine lv_iconst (v := 0) hx hb dX2_seek_17 (by decide) ?_
  refine lv_iconst (v := 0) hx hb dX2_seek_18 (by decide) ?_
  refine lv_iconst (v := 0) hx hb dX2_seek_19 (by decide) ?_
  obtain ⟨p20, hp20, hf⟩ := cl_of hf
  refine sg_sv' (rest := []) (c_X2_tryNext hn ha_a hT_a hp20) hc hw hz hn0 hml hl cs_X2_32 ⟨⟨rfl, rfl⟩, Nat.le_trans (Nat.le_of_ble_eq_true rfl) hRf, Nat.le_trans (Nat.le_of_ble_eq_true rfl) hRl⟩ ⟨Nat.zero_le _, Nat.zero_le _⟩ rfl rfl (Nat.le_of_ble_eq_true rfl) dX2_seek_20 (fun h1 H locs hp hw => ?_)
  subst h1
  cases hf
  exact sg_vret hc hw hz hn0 hr hlocks rfl dX2_seek_23
theorem c_X2_seek {l : Launch} {D : va_G} {cA : Nat → ClassId} {b n : Nat} (hn : sg_okN n) {a : Nat} {x1 : Int32} {x2 : Int32} (ha_a : a < n) (hT_a : sg_T a = 2) {h : HP} {Rz : HP} (hf : F_X2_seek a x1 x2 h = some Rz) : Met l yX2_seek (Cond.code yX2_seek cX2_seek 3 none :: sg_tbl) ({ frames := 11, cells := 0, slots := 0, locals := 337 } : Room) (va_Pc [.ref (b + a), .int x1, .int x2] (sg_Wd D b cA n h)) (va_Qv (fun u => u = Rz) (sg_Wd D b cA n) (sg_A b)) 0 0 (sg_A b) := by
  refine Met.ofW (cc := cX2_seek) (maxL := 3) (ret := none) (by decide) rfl ?_
  intro p e s m args below meth c s₁ B hml hv
  obtain ⟨rfl, hP, hK, hz, hY, hN⟩ := hv
  have hl := lv_entry [.ref (b + a), .int x1, .int x2] (n := 3) (Nat.le_of_ble_eq_true rfl)
  rw [lg_entry_eq]
  exact w_X2_seek hn ⟨B.exec, B.bytes, findClass_of_methodNamed B.named, fun w h => atoms_spec (ws := Cond.code yX2_seek cX2_seek 3 none :: sg_tbl) B.pre w (List.mem_cons_of_mem _ h), hK, hN⟩ hz B.returns B.notSynchronized hml (Nat.le_refl _) (Nat.le_refl _) ha_a hT_a hf _ _ _ ⟨hP, hY, va_S.rf⟩ hl
set_option maxHeartbeats 4000000 in
set_option maxRecDepth 100000 in
theorem w_X3_isFull {p : Program} {l : Launch} {e : Env} {R : Room} {s : State} {m : MethodId} {args : Array Value} {below : List Frame} {meth : Method} {c : Code} {D : va_G} {cA : Nat → ClassId} {b n : Nat} (hn : sg_okN n) {a : Nat} {h : HP} {Rz : Int32} (hc : sg_Cx p s m args c cX3_isFull RX3 D cA) (hz : s.heap.size = b + n) (hr : meth.sig.returnType = some .boolean) (hlocks : meth.locks = false) (hml : c.maxLocals = 1) (hRf : 0 ≤ R.frames) (hRl : 0 ≤ R.locals) (ha_a : a < n) (hT_a : sg_T a = 3) (hf : F_X3_isFull a h = some Rz) (H : Heap) (locs : List Loc) (ls : Array Slot) (hw : sg_Wo D b cA n s.heap h H locs) (hl : lv_has ls 1 [(0, .ref (b + a))]) : W p l e R s m args below meth c H locs 0 0 (sg_Qi below args s D b cA n (fun r u => (r = Rz ∧ u = h) ∧ narrow .boolean (.int r) = .int r)) (F0 m 0 ls []) := by
  have hx := hc.1
  have hb := hc.2.1
  have hn0 : 0 < n := sg_pos hn
  unfold F_X3_isFull at hf
  refine lv_aload_n hx hb dX3_isFull_0 rfl (lv_at hl 0 rfl) ?_
  refine sg_geti hc hw ha_a hT_a fi_3_1 k_147 dX3_isFull_1 ?_
  refine lv_aload_n hx hb dX3_isFull_4 rfl (lv_at hl 0 rfl) ?_
  obtain ⟨hF5, hT5, ha5⟩ := ft_3_0 hn ha_a hT_a
  refine sg_getf (q := (a + 1)) hc hw ha_a hT_a fr_3_0 (by decide) k_146 dX3_isFull_5 hF5 ?_
  refine sg_alen hc hw ha5 hT5 rfl rfl dX3_isFull_8 ?_
  refine lv_icmp_lt (tgt := 16) hx hb dX3_isFull_9 (by decide) (fun c9 => ?_) (fun c9 => ?_)
  · have hf := if_of c9 hf
    refine lv_iconst (v := 0) hx hb dX3_isFull_16 (by decide) ?_
    cases hf
    exact sg_zret hc hw hz hn0 hr hlocks rfl ⟨⟨rfl, rfl⟩, rfl⟩ dX3_isFull_17
  · have hf := if_no c9 hf
    refine lv_iconst (v := 1) hx hb dX3_isFull_12 (by decide) ?_
    refine lv_goto (tgt := 17) hx hb dX3_isFull_13 (by decide) ?_
    cases hf
    exact sg_zret hc hw hz hn0 hr hlocks rfl ⟨⟨rfl, rfl⟩, rfl⟩ dX3_isFull_17
theorem c_X3_isFull {l : Launch} {D : va_G} {cA : Nat → ClassId} {b n : Nat} (hn : sg_okN n) {a : Nat} (ha_a : a < n) (hT_a : sg_T a = 3) {h : HP} {Rz : Int32} (hf : F_X3_isFull a h = some Rz) : Met l yX3_isFull (Cond.code yX3_isFull cX3_isFull 1 (some .boolean) :: sg_tbl) ({ frames := 0, cells := 0, slots := 0, locals := 0 } : Room) (va_Pc [.ref (b + a)] (sg_Wd D b cA n h)) (va_Qi (fun r u => (r = Rz ∧ u = h) ∧ narrow .boolean (.int r) = .int r) (sg_Wd D b cA n) (sg_A b)) 0 0 (sg_A b) := by
  refine Met.ofW (cc := cX3_isFull) (maxL := 1) (ret := (some .boolean)) (by decide) rfl ?_
  intro p e s m args below meth c s₁ B hml hv
  obtain ⟨rfl, hP, hK, hz, hY, hN⟩ := hv
  have hl := lv_entry [.ref (b + a)] (n := 1) (Nat.le_of_ble_eq_true rfl)
  rw [lg_entry_eq]
  exact w_X3_isFull hn ⟨B.exec, B.bytes, findClass_of_methodNamed B.named, fun w h => atoms_spec (ws := Cond.code yX3_isFull cX3_isFull 1 (some .boolean) :: sg_tbl) B.pre w (List.mem_cons_of_mem _ h), hK, hN⟩ hz B.returns B.notSynchronized hml (Nat.le_refl _) (Nat.le_refl _) ha_a hT_a hf _ _ _ ⟨hP, hY, va_S.rf⟩ hl
set_option maxHeartbeats 4000000 in
set_option maxRecDepth 100000 in
theorem w_X3_dropOldest {p : Program} {l : Launch} {e : Env} {R : Room} {s : State} {m : MethodId} {args : Array Value} {below : List Frame} {meth : Method} {c : Code} {D : va_G} {cA : Nat → ClassId} {b n : Nat} (hn : sg_okN n) {a : Nat} {h : HP} {Rz : HP} (hc : sg_Cx p s m args c cX3_dropOldest RX3 D cA) (hz : s.heap.size = b + n) (hr : meth.sig.returnType = none) (hlocks : meth.locks = false) (hml : c.maxLocals = 3) (hRf : 0 ≤ R.frames) (hRl : 0 ≤ R.locals) (ha_a : a < n) (hT_a : sg_T a = 3) (hf : F_X3_dropOldest a h = some Rz) (H : Heap) (locs : List Loc) (ls : Array Slot) (hw : sg_Wo D b cA n s.heap h H locs) (hl : lv_has ls 3 [(0, .ref (b + a))]) : W p l e R s m args below meth c H locs 0 0 (sg_Qv below args s D b cA n (fun u => u = Rz)) (F0 m 0 ls []) := by
  have hx := hc.1
  have hb := hc.2.1
  have hn0 : 0 < n := sg_pos hn
  have J40 : ∀ (q1 : Nat) (ha_q1 : q1 < n) (hT_q1 : sg_T q1 = 6) (h : HP) (H : Heap) (locs : List Loc) (ls : Array Slot), F_X3_dropOldest_J40 a q1 h = some Rz → sg_Wo D b cA n s.heap h H locs → lv_has ls 3 [(0, .ref (b + a)), (1, .ref (b + q1))] → W p l e R s m args below meth c H locs 0 0 (sg_Qv below args s D b cA n (fun u => u = Rz)) (F0 m 40 ls []) := by
    intro q1 ha_q1 hT_q1 h H locs ls hf hw hl
    unfold F_X3_dropOldest_J40 at hf
    refine lv_aload_n hx hb dX3_dropOldest_40 rfl (lv_at hl 0 rfl) ?_
    obtain ⟨hF41, hT41, ha41⟩ := ft_3_0 hn ha_a hT_a
    refine sg_getf (q := (a + 1)) hc hw ha_a hT_a fr_3_0 (by decide) k_146 dX3_dropOldest_41 hF41 ?_
    refine lv_aload_n hx hb dX3_dropOldest_44 rfl (lv_at hl 0 rfl) ?_
    refine sg_getf (q := (a + 1)) hc hw ha_a hT_a fr_3_0 (by decide) k_146 dX3_dropOldest_45 (ft_3_0 hn ha_a hT_a).1 ?_
    refine sg_alen hc hw ha41 hT41 rfl rfl dX3_dropOldest_48 ?_
    refine lv_iconst (v := 1) hx hb dX3_dropOldest_49 (by decide) ?_
    refine lv_isub hx hb dX3_dropOldest_50 ?_
    refine lv_aload_n hx hb dX3_dropOldest_51 rfl (lv_at hl 1 rfl) ?_
    obtain ⟨hg52, hf⟩ := gd_of hf
    refine sg_ast hc hw ha41 hT41 rfl hg52 ha_q1 hT_q1 dX3_dropOldest_52 (fun H locs hw => ?_)
    obtain ⟨h52, hw, hf⟩ := sg_name hw hf
    refine lv_aload_n hx hb dX3_dropOldest_53 rfl (lv_at hl 0 rfl) ?_
    refine lv_dup hx hb dX3_dropOldest_54 rfl ?_
    refine sg_geti hc hw ha_a hT_a fi_3_1 k_147 dX3_dropOldest_55 ?_
    refine lv_iconst (v := 1) hx hb dX3_dropOldest_58 (by decide) ?_
    refine lv_isub hx hb dX3_dropOldest_59 ?_
    refine sg_puti hc hw ha_a hT_a fp_3_1 rfl rfl k_147 dX3_dropOldest_60 (fun H locs hw => ?_)
    obtain ⟨h60, hw, hf⟩ := sg_name hw hf
    cases hf
    exact sg_vret hc hw hz hn0 hr hlocks rfl dX3_dropOldest_63
  have L9 : ∀ (q1 : Nat) (ha_q1 : q1 < n) (hT_q1 : sg_T q1 = 6) (k : Nat) (x : (Int32 × HP)), F_X3_dropOldest_L9 a q1 k x = some Rz → ∀ (H : Heap) (locs : List Loc) (ls : Array Slot), sg_Wo D b cA n s.heap x.2 H locs → lv_has ls 3 [(0, .ref (b + a)), (1, .ref (b + q1)), (2, .int x.1)] → W p l e R s m args below meth c H locs 0 0 (sg_Qv below args s D b cA n (fun u => u = Rz)) (F0 m 9 ls []) := by
    intro q1 ha_q1 hT_q1
    unfold F_X3_dropOldest_L9
    refine lp_walk ?_
    intro rc9 hrc9 x hf H locs ls hw hl
    obtain ⟨x2, h⟩ := x
    dsimp only at hf hw hl
    refine lv_iload_n hx hb dX3_dropOldest_9 rfl (lv_at hl 2 rfl) ?_
    refine lv_iconst (v := 1) hx hb dX3_dropOldest_10 (by decide) ?_
    refine lv_iadd hx hb dX3_dropOldest_11 ?_
    refine lv_aload_n hx hb dX3_dropOldest_12 rfl (lv_at hl 0 rfl) ?_
    obtain ⟨hF13, hT13, ha13⟩ := ft_3_0 hn ha_a hT_a
    refine sg_getf (q := (a + 1)) hc hw ha_a hT_a fr_3_0 (by decide) k_146 dX3_dropOldest_13 hF13 ?_
    refine sg_alen hc hw ha13 hT13 rfl rfl dX3_dropOldest_16 ?_
    refine lv_icmp_ge (tgt := 40) hx hb dX3_dropOldest_17 (by decide) (fun c17 => ?_) (fun c17 => ?_)
    · have hf := if_of c17 hf
      exact J40 q1 ha_q1 hT_q1 _ _ _ _ hf hw (lv_sub hl [0, 1] rfl)
    · have hf := if_no c17 hf
      refine lv_aload_n hx hb dX3_dropOldest_20 rfl (lv_at hl 0 rfl) ?_
      refine sg_getf (q := (a + 1)) hc hw ha_a hT_a fr_3_0 (by decide) k_146 dX3_dropOldest_21 (ft_3_0 hn ha_a hT_a).1 ?_
      refine lv_iload_n hx hb dX3_dropOldest_24 rfl (lv_at hl 2 rfl) ?_
      refine lv_aload_n hx hb dX3_dropOldest_25 rfl (lv_at hl 0 rfl) ?_
      refine sg_getf (q := (a + 1)) hc hw ha_a hT_a fr_3_0 (by decide) k_146 dX3_dropOldest_26 (ft_3_0 hn ha_a hT_a).1 ?_
      refine lv_iload_n hx hb dX3_dropOldest_29 rfl (lv_at hl 2 rfl) ?_
      refine lv_iconst (v := 1) hx hb dX3_dropOldest_30 (by decide) ?_
      refine lv_iadd hx hb dX3_dropOldest_31 ?_
      obtain ⟨hi32, hf⟩ := gd_of hf
      obtain ⟨hg32, hf⟩ := gn_of hf
      obtain ⟨ha32, hT32⟩ := (hw.2.1 _ ha13).2.2 hT13 _ (vp_lt hi32) hg32
      obtain ⟨q32, hq32, ha32, hT32, hf⟩ := sg_nq hg32 ha32 hT32 hf
      refine sg_ald hc hw ha13 hT13 rfl hi32 hq32 dX3_dropOldest_32 ?_
      obtain ⟨hg33, hf⟩ := gd_of hf
      refine sg_ast hc hw ha13 hT13 rfl hg33 ha32 hT32 dX3_dropOldest_33 (fun H locs hw => ?_)
      obtain ⟨h33, hw, hf⟩ := sg_name hw hf
      refine lv_iinc (v := (x2 + 1)) (lv' := [(2, .int (x2 + 1)), (0, .ref (b + a)), (1, .ref (b + q1))]) hx hb dX3_dropOldest_34 hl (k := 2) rfl rfl (by decide) rfl (fun ls hl => ?_)
      refine lv_goto (tgt := 9) hx hb dX3_dropOldest_37 (by decide) ?_
      exact hrc9 _ hf _ _ _ hw (lv_sub hl [1, 2, 0] rfl)
  unfold F_X3_dropOldest at hf
  refine lv_aload_n hx hb dX3_dropOldest_0 rfl (lv_at hl 0 rfl) ?_
  obtain ⟨hF1, hT1, ha1⟩ := ft_3_0 hn ha_a hT_a
  refine sg_getf (q := (a + 1)) hc hw ha_a hT_a fr_3_0 (by decide) k_146 dX3_dropOldest_1 hF1 ?_
  refine lv_iconst (v := 0) hx hb dX3_dropOldest_4 (by decide) ?_
  obtain ⟨hi5, hf⟩ := gd_of hf
  obtain ⟨hg5, hf⟩ := gn_of hf
  obtain ⟨ha5, hT5⟩ := (hw.2.1 _ ha1).2.2 hT1 _ (vp_lt hi5) hg5
  obtain ⟨q5, hq5, ha5, hT5, hf⟩ := sg_nq hg5 ha5 hT5 hf
  refine sg_ald hc hw ha1 hT1 rfl hi5 hq5 dX3_dropOldest_5 ?_
  refine lv_astore_n (lv' := [(1, .ref (b + q5)), (0, .ref (b + a))]) hx hb dX3_dropOldest_6 rfl hl (by decide) rfl (fun ls hl => ?_)
  refine lv_iconst (v := 0) hx hb dX3_dropOldest_7 (by decide) ?_
  refine lv_istore_n (lv' := [(2, .int 0), (1, .ref (b + q5)), (0, .ref (b + a))]) hx hb dX3_dropOldest_8 rfl hl (by decide) rfl (fun ls hl => ?_)
  exact L9 q5 ha5 hT5 _ _ hf _ _ _ hw (lv_sub hl [2, 1, 0] rfl)
theorem c_X3_dropOldest {l : Launch} {D : va_G} {cA : Nat → ClassId} {b n : Nat} (hn : sg_okN n) {a : Nat} (ha_a : a < n) (hT_a : sg_T a = 3) {h : HP} {Rz : HP} (hf : F_X3_dropOldest a h = some Rz) : Met l yX3_dropOldest (Cond.code yX3_dropOldest cX3_dropOldest 3 none :: sg_tbl) ({ frames := 0, cells := 0, slots := 0, locals := 0 } : Room) (va_Pc [.ref (b + a)] (sg_Wd D b cA n h)) (va_Qv (fun u => u = Rz) (sg_Wd D b cA n) (sg_A b)) 0 0 (sg_A b) := by
  refine Met.ofW (cc := cX3_dropOldest) (maxL := 3) (ret := none) (by decide) rfl ?_
  intro p e s m args below meth c s₁ B hml hv
  obtain ⟨rfl, hP, hK, hz, hY, hN⟩ := hv
  have hl := lv_entry [.ref (b + a)] (n := 3) (Nat.le_of_ble_eq_true rfl)
  rw [lg_entry_eq]
  exact w_X3_dropOldest hn ⟨B.exec, B.bytes, findClass_of_methodNamed B.named, fun w h => atoms_spec (ws := Cond.code yX3_dropOldest cX3_dropOldest 3 none :: sg_tbl) B.pre w (List.mem_cons_of_mem _ h), hK, hN⟩ hz B.returns B.notSynchronized hml (Nat.le_refl _) (Nat.le_refl _) ha_a hT_a hf _ _ _ ⟨hP, hY, va_S.rf⟩ hl
set_option maxHeartbeats 4000000 in
set_option maxRecDepth 100000 in
theorem w_X6_copy {p : Program} {l : Launch} {e : Env} {R : Room} {s : State} {m : MethodId} {args : Array Value} {below : List Frame} {meth : Method} {c : Code} {D : va_G} {cA : Nat → ClassId} {b n : Nat} (hn : sg_okN n) {a : Nat} {q1 : Nat} {h : HP} {Rz : HP} (hc : sg_Cx p s m args c cX6_copy RX6 D cA) (hz : s.heap.size = b + n) (hr : meth.sig.returnType = none) (hlocks : meth.locks = false) (hml : c.maxLocals = 2) (hRf : 1 ≤ R.frames) (hRl : 100 ≤ R.locals) (ha_a : a < n) (hT_a : sg_T a = 6) (ha_q1 : q1 < n) (hT_q1 : sg_T q1 = 6) (hf : F_X6_copy a q1 h = some Rz) (H : Heap) (locs : List Loc) (ls : Array Slot) (hw : sg_Wo D b cA n s.heap h H locs) (hl : lv_has ls 2 [(0, .ref (b + a)), (1, .ref (b + q1))]) : W p l e R s m args below meth c H locs 0 0 (sg_Qv below args s D b cA n (fun u => u = Rz)) (F0 m 0 ls []) := by
  have hx := hc.1
  have hb := hc.2.1
  have hn0 : 0 < n := sg_pos hn
  unfold F_X6_copy at hf
  refine lv_aload_n hx hb dX6_copy_0 rfl (lv_at hl 0 rfl) ?_
  refine lv_aload_n hx hb dX6_copy_1 rfl (lv_at hl 1 rfl) ?_
  refine sg_geti hc hw ha_q1 hT_q1 fi_6_0 k_103 dX6_copy_2 ?_
  refine sg_puti hc hw ha_a hT_a fp_6_0 rfl rfl k_103 dX6_copy_5 (fun H locs hw => ?_)
  obtain ⟨h5, hw, hf⟩ := sg_name hw hf
  refine lv_aload_n hx hb dX6_copy_8 rfl (lv_at hl 1 rfl) ?_
  obtain ⟨hF9, hT9, ha9, hN9⟩ := ft_6_1 hn ha_q1 hT_q1
  refine sg_getf (q := (q1 + 1)) hc hw ha_q1 hT_q1 fr_6_1 (by decide) k_106 dX6_copy_9 hF9 ?_
  refine lv_iconst (v := 0) hx hb dX6_copy_12 (by decide) ?_
  refine lv_aload_n hx hb dX6_copy_13 rfl (lv_at hl 0 rfl) ?_
  obtain ⟨hF14, hT14, ha14, hN14⟩ := ft_6_1 hn ha_a hT_a
  refine sg_getf (q := (a + 1)) hc hw ha_a hT_a fr_6_1 (by decide) k_106 dX6_copy_14 hF14 ?_
  refine lv_iconst (v := 0) hx hb dX6_copy_17 (by decide) ?_
  refine lv_bipush (v := 9) hx hb dX6_copy_18 (by decide) ?_
  refine sg_copy hc hw hml hl k_451 k_442 k_441 k_15 ha9 hT9 hN9 ha14 hT14 hN14 (by decide) (by decide) (by decide) (by decide) (by decide) (Nat.le_trans (by decide) hRf) (Nat.le_trans (by decide) hRl) dX6_copy_20 (fun H locs hw => ?_)
  obtain ⟨h20, hw, hf⟩ := sg_name hw hf
  refine lv_aload_n hx hb dX6_copy_23 rfl (lv_at hl 1 rfl) ?_
  obtain ⟨hF24, hT24, ha24, hN24⟩ := ft_6_2 hn ha_q1 hT_q1
  refine sg_getf (q := (q1 + 2)) hc hw ha_q1 hT_q1 fr_6_2 (by decide) k_108 dX6_copy_24 hF24 ?_
  refine lv_iconst (v := 0) hx hb dX6_copy_27 (by decide) ?_
  refine lv_aload_n hx hb dX6_copy_28 rfl (lv_at hl 0 rfl) ?_
  obtain ⟨hF29, hT29, ha29, hN29⟩ := ft_6_2 hn ha_a hT_a
  refine sg_getf (q := (a + 2)) hc hw ha_a hT_a fr_6_2 (by decide) k_108 dX6_copy_29 hF29 ?_
  refine lv_iconst (v := 0) hx hb dX6_copy_32 (by decide) ?_
  refine lv_bipush (v := 9) hx hb dX6_copy_33 (by decide) ?_
  refine sg_copy hc hw hml hl k_451 k_442 k_441 k_15 ha24 hT24 hN24 ha29 hT29 hN29 (by decide) (by decide) (by decide) (by decide) (by decide) (Nat.le_trans (by decide) hRf) (Nat.le_trans (by decide) hRl) dX6_copy_35 (fun H locs hw => ?_)
  obtain ⟨h35, hw, hf⟩ := sg_name hw hf
  refine lv_aload_n hx hb dX6_copy_38 rfl (lv_at hl 1 rfl) ?_
  obtain ⟨hF39, hT39, ha39, hN39⟩ := ft_6_3 hn ha_q1 hT_q1
  refine sg_getf (q := (q1 + 3)) hc hw ha_q1 hT_q1 fr_6_3 (by decide) k_110 dX6_copy_39 hF39 ?_
  refine lv_iconst (v := 0) hx hb dX6_copy_42 (by decide) ?_
  refine lv_aload_n hx hb dX6_copy_43 rfl (lv_at hl 0 rfl) ?_
  obtain ⟨hF44, hT44, ha44, hN44⟩ := ft_6_3 hn ha_a hT_a
  refine sg_getf (q := (a + 3)) hc hw ha_a hT_a fr_6_3 (by decide) k_110 dX6_copy_44 hF44 ?_
  refine lv_iconst (v := 0) hx hb dX6_copy_47 (by decide) ?_
  refine lv_bipush (v := 9) hx hb dX6_copy_48 (by decide) ?_
  refine sg_copy hc hw hml hl k_451 k_442 k_441 k_15 ha39 hT39 hN39 ha44 hT44 hN44 (by decide) (by decide) (by decide) (by decide) (by decide) (Nat.le_trans (by decide) hRf) (Nat.le_trans (by decide) hRl) dX6_copy_50 (fun H locs hw => ?_)
  obtain ⟨h50, hw, hf⟩ := sg_name hw hf
  cases hf
  exact sg_vret hc hw hz hn0 hr hlocks rfl dX6_copy_53
theorem c_X6_copy {l : Launch} {D : va_G} {cA : Nat → ClassId} {b n : Nat} (hn : sg_okN n) {a : Nat} {q1 : Nat} (ha_a : a < n) (hT_a : sg_T a = 6) (ha_q1 : q1 < n) (hT_q1 : sg_T q1 = 6) {h : HP} {Rz : HP} (hf : F_X6_copy a q1 h = some Rz) : Met l yX6_copy (Cond.code yX6_copy cX6_copy 2 none :: sg_tbl) ({ frames := 1, cells := 0, slots := 0, locals := 100 } : Room) (va_Pc [.ref (b + a), .ref (b + q1)] (sg_Wd D b cA n h)) (va_Qv (fun u => u = Rz) (sg_Wd D b cA n) (sg_A b)) 0 0 (sg_A b) := by
  refine Met.ofW (cc := cX6_copy) (maxL := 2) (ret := none) (by decide) rfl ?_
  intro p e s m args below meth c s₁ B hml hv
  obtain ⟨rfl, hP, hK, hz, hY, hN⟩ := hv
  have hl := lv_entry [.ref (b + a), .ref (b + q1)] (n := 2) (Nat.le_of_ble_eq_true rfl)
  rw [lg_entry_eq]
  exact w_X6_copy hn ⟨B.exec, B.bytes, findClass_of_methodNamed B.named, fun w h => atoms_spec (ws := Cond.code yX6_copy cX6_copy 2 none :: sg_tbl) B.pre w (List.mem_cons_of_mem _ h), hK, hN⟩ hz B.returns B.notSynchronized hml (Nat.le_refl _) (Nat.le_refl _) ha_a hT_a ha_q1 hT_q1 hf _ _ _ ⟨hP, hY, va_S.rf⟩ hl
set_option maxHeartbeats 4000000 in
set_option maxRecDepth 100000 in
theorem w_X3_push {p : Program} {l : Launch} {e : Env} {R : Room} {s : State} {m : MethodId} {args : Array Value} {below : List Frame} {meth : Method} {c : Code} {D : va_G} {cA : Nat → ClassId} {b n : Nat} (hn : sg_okN n) {a : Nat} {q1 : Nat} {h : HP} {Rz : HP} (hc : sg_Cx p s m args c cX3_push RX3 D cA) (hz : s.heap.size = b + n) (hr : meth.sig.returnType = none) (hlocks : meth.locks = false) (hml : c.maxLocals = 2) (hRf : 2 ≤ R.frames) (hRl : 121 ≤ R.locals) (ha_a : a < n) (hT_a : sg_T a = 3) (ha_q1 : q1 < n) (hT_q1 : sg_T q1 = 6) (hf : F_X3_push a q1 h = some Rz) (H : Heap) (locs : List Loc) (ls : Array Slot) (hw : sg_Wo D b cA n s.heap h H locs) (hl : lv_has ls 2 [(0, .ref (b + a)), (1, .ref (b + q1))]) : W p l e R s m args below meth c H locs 0 0 (sg_Qv below args s D b cA n (fun u => u = Rz)) (F0 m 0 ls []) := by
  have hx := hc.1
  have hb := hc.2.1
  have hn0 : 0 < n := sg_pos hn
  have J11 : ∀ (h : HP) (H : Heap) (locs : List Loc) (ls : Array Slot), F_X3_push_J11 a q1 h = some Rz → sg_Wo D b cA n s.heap h H locs → lv_has ls 2 [(0, .ref (b + a)), (1, .ref (b + q1))] → W p l e R s m args below meth c H locs 0 0 (sg_Qv below args s D b cA n (fun u => u = Rz)) (F0 m 11 ls []) := by
    intro h H locs ls hf hw hl
    unfold F_X3_push_J11 at hf
    refine lv_aload_n hx hb dX3_push_11 rfl (lv_at hl 0 rfl) ?_
    obtain ⟨hF12, hT12, ha12⟩ := ft_3_0 hn ha_a hT_a
    refine sg_getf (q := (a + 1)) hc hw ha_a hT_a fr_3_0 (by decide) k_146 dX3_push_12 hF12 ?_
    refine lv_aload_n hx hb dX3_push_15 rfl (lv_at hl 0 rfl) ?_
    refine sg_geti hc hw ha_a hT_a fi_3_1 k_147 dX3_push_16 ?_
    obtain ⟨hi19, hf⟩ := gd_of hf
    obtain ⟨hg19, hf⟩ := gn_of hf
    obtain ⟨ha19, hT19⟩ := (hw.2.1 _ ha12).2.2 hT12 _ (vp_lt hi19) hg19
    obtain ⟨q19, hq19, ha19, hT19, hf⟩ := sg_nq hg19 ha19 hT19 hf
    refine sg_ald hc hw ha12 hT12 rfl hi19 hq19 dX3_push_19 ?_
    refine lv_aload_n hx hb dX3_push_20 rfl (lv_at hl 1 rfl) ?_
    obtain ⟨p21, hp21, hf⟩ := cl_of hf
    refine sg_vv (rest := []) (c_X6_copy hn ha19 hT19 ha_q1 hT_q1 hp21) hc hw hz hml hl ha19 hT19 (by decide) rfl cv_X3_27 ⟨⟨rfl, rfl⟩, Nat.le_trans (Nat.le_of_ble_eq_true rfl) hRf, Nat.le_trans (Nat.le_of_ble_eq_true rfl) hRl⟩ ⟨Nat.zero_le _, Nat.zero_le _⟩ rfl rfl (Nat.le_of_ble_eq_true rfl) dX3_push_21 (fun h1 H locs hp hw => ?_)
    subst h1
    refine lv_aload_n hx hb dX3_push_24 rfl (lv_at hl 0 rfl) ?_
    refine lv_dup hx hb dX3_push_25 rfl ?_
    refine sg_geti hc hw ha_a hT_a fi_3_1 k_147 dX3_push_26 ?_
    refine lv_iconst (v := 1) hx hb dX3_push_29 (by decide) ?_
    refine lv_iadd hx hb dX3_push_30 ?_
    refine sg_puti hc hw ha_a hT_a fp_3_1 rfl rfl k_147 dX3_push_31 (fun H locs hw => ?_)
    obtain ⟨h31, hw, hf⟩ := sg_name hw hf
    cases hf
    exact sg_vret hc hw hz hn0 hr hlocks rfl dX3_push_34
  unfold F_X3_push at hf
  refine lv_aload_n hx hb dX3_push_0 rfl (lv_at hl 0 rfl) ?_
  obtain ⟨p1, hp1, hf⟩ := cl_of hf
  refine sg_vi (rest := []) (c_X3_isFull hn ha_a hT_a hp1) hc hw hz hml hl ha_a hT_a (by decide) rfl cv_X3_20 ⟨⟨rfl, rfl⟩, Nat.le_trans (Nat.le_of_ble_eq_true rfl) hRf, Nat.le_trans (Nat.le_of_ble_eq_true rfl) hRl⟩ ⟨Nat.zero_le _, Nat.zero_le _⟩ rfl rfl (Nat.le_of_ble_eq_true rfl) dX3_push_1 (fun r h1 H locs hp hw => ?_)
  obtain ⟨⟨e1, e2⟩, hb1⟩ := hp; subst r; subst h1
  refine lv_if_eq (tgt := 11) hx hb dX3_push_4 (by decide) (fun c4 => ?_) (fun c4 => ?_)
  · have hf := if_of c4 hf
    exact J11 _ _ _ _ hf hw (lv_sub hl [0, 1] rfl)
  · have hf := if_no c4 hf
    refine lv_aload_n hx hb dX3_push_7 rfl (lv_at hl 0 rfl) ?_
    obtain ⟨p8, hp8, hf⟩ := cl_of hf
    refine sg_vv (rest := []) (c_X3_dropOldest hn ha_a hT_a hp8) hc hw hz hml hl ha_a hT_a (by decide) rfl cv_X3_24 ⟨⟨rfl, rfl⟩, Nat.le_trans (Nat.le_of_ble_eq_true rfl) hRf, Nat.le_trans (Nat.le_of_ble_eq_true rfl) hRl⟩ ⟨Nat.zero_le _, Nat.zero_le _⟩ rfl rfl (Nat.le_of_ble_eq_true rfl) dX3_push_8 (fun h1 H locs hp hw => ?_)
    subst h1
    exact J11 _ _ _ _ hf hw (lv_sub hl [0, 1] rfl)
theorem c_X3_push {l : Launch} {D : va_G} {cA : Nat → ClassId} {b n : Nat} (hn : sg_okN n) {a : Nat} {q1 : Nat} (ha_a : a < n) (hT_a : sg_T a = 3) (ha_q1 : q1 < n) (hT_q1 : sg_T q1 = 6) {h : HP} {Rz : HP} (hf : F_X3_push a q1 h = some Rz) : Met l yX3_push (Cond.code yX3_push cX3_push 2 none :: sg_tbl) ({ frames := 2, cells := 0, slots := 0, locals := 121 } : Room) (va_Pc [.ref (b + a), .ref (b + q1)] (sg_Wd D b cA n h)) (va_Qv (fun u => u = Rz) (sg_Wd D b cA n) (sg_A b)) 0 0 (sg_A b) := by
  refine Met.ofW (cc := cX3_push) (maxL := 2) (ret := none) (by decide) rfl ?_
  intro p e s m args below meth c s₁ B hml hv
  obtain ⟨rfl, hP, hK, hz, hY, hN⟩ := hv
  have hl := lv_entry [.ref (b + a), .ref (b + q1)] (n := 2) (Nat.le_of_ble_eq_true rfl)
  rw [lg_entry_eq]
  exact w_X3_push hn ⟨B.exec, B.bytes, findClass_of_methodNamed B.named, fun w h => atoms_spec (ws := Cond.code yX3_push cX3_push 2 none :: sg_tbl) B.pre w (List.mem_cons_of_mem _ h), hK, hN⟩ hz B.returns B.notSynchronized hml (Nat.le_refl _) (Nat.le_refl _) ha_a hT_a ha_q1 hT_q1 hf _ _ _ ⟨hP, hY, va_S.rf⟩ hl
set_option maxHeartbeats 4000000 in
set_option maxRecDepth 100000 in
theorem w_X3_popInto {p : Program} {l : Launch} {e : Env} {R : Room} {s : State} {m : MethodId} {args : Array Value} {below : List Frame} {meth : Method} {c : Code} {D : va_G} {cA : Nat → ClassId} {b n : Nat} (hn : sg_okN n) {a : Nat} {q1 : Nat} {h : HP} {Rz : Int32 × HP} (hc : sg_Cx p s m args c cX3_popInto RX3 D cA) (hz : s.heap.size = b + n) (hr : meth.sig.returnType = some .boolean) (hlocks : meth.locks = false) (hml : c.maxLocals = 2) (hRf : 2 ≤ R.frames) (hRl : 121 ≤ R.locals) (ha_a : a < n) (hT_a : sg_T a = 3) (ha_q1 : q1 < n) (hT_q1 : sg_T q1 = 6) (hf : F_X3_popInto a q1 h = some Rz) (H : Heap) (locs : List Loc) (ls : Array Slot) (hw : sg_Wo D b cA n s.heap h H locs) (hl : lv_has ls 2 [(0, .ref (b + a)), (1, .ref (b + q1))]) : W p l e R s m args below meth c H locs 0 0 (sg_Qi below args s D b cA n (fun r u => (r = Rz.1 ∧ u = Rz.2) ∧ narrow .boolean (.int r) = .int r)) (F0 m 0 ls []) := by
  have hx := hc.1
  have hb := hc.2.1
  have hn0 : 0 < n := sg_pos hn
  unfold F_X3_popInto at hf
  refine lv_aload_n hx hb dX3_popInto_0 rfl (lv_at hl 0 rfl) ?_
  refine sg_geti hc hw ha_a hT_a fi_3_1 k_147 dX3_popInto_1 ?_
  refine lv_if_ne (tgt := 9) hx hb dX3_popInto_4 (by decide) (fun c4 => ?_) (fun c4 => ?_)
  · have hf := if_no c4 hf
    refine lv_aload_n hx hb dX3_popInto_9 rfl (lv_at hl 0 rfl) ?_
    refine lv_dup hx hb dX3_popInto_10 rfl ?_
    refine sg_geti hc hw ha_a hT_a fi_3_1 k_147 dX3_popInto_11 ?_
    refine lv_iconst (v := 1) hx hb dX3_popInto_14 (by decide) ?_
    refine lv_isub hx hb dX3_popInto_15 ?_
    refine sg_puti hc hw ha_a hT_a fp_3_1 rfl rfl k_147 dX3_popInto_16 (fun H locs hw => ?_)
    obtain ⟨h16, hw, hf⟩ := sg_name hw hf
    refine lv_aload_n hx hb dX3_popInto_19 rfl (lv_at hl 1 rfl) ?_
    refine lv_aload_n hx hb dX3_popInto_20 rfl (lv_at hl 0 rfl) ?_
    obtain ⟨hF21, hT21, ha21⟩ := ft_3_0 hn ha_a hT_a
    refine sg_getf (q := (a + 1)) hc hw ha_a hT_a fr_3_0 (by decide) k_146 dX3_popInto_21 hF21 ?_
    refine lv_aload_n hx hb dX3_popInto_24 rfl (lv_at hl 0 rfl) ?_
    refine sg_geti hc hw ha_a hT_a fi_3_1 k_147 dX3_popInto_25 ?_
    obtain ⟨hi28, hf⟩ := gd_of hf
    obtain ⟨hg28, hf⟩ := gn_of hf
    obtain ⟨ha28, hT28⟩ := (hw.2.1 _ ha21).2.2 hT21 _ (vp_lt hi28) hg28
    obtain ⟨q28, hq28, ha28, hT28, hf⟩ := sg_nq hg28 ha28 hT28 hf
    refine sg_ald hc hw ha21 hT21 rfl hi28 hq28 dX3_popInto_28 ?_
    obtain ⟨p29, hp29, hf⟩ := cl_of hf
    refine sg_vv (rest := []) (c_X6_copy hn ha_q1 hT_q1 ha28 hT28 hp29) hc hw hz hml hl ha_q1 hT_q1 (by decide) rfl cv_X3_27 ⟨⟨rfl, rfl⟩, Nat.le_trans (Nat.le_of_ble_eq_true rfl) hRf, Nat.le_trans (Nat.le_of_ble_eq_true rfl) hRl⟩ ⟨Nat.zero_le _, Nat.zero_le _⟩ rfl rfl (Nat.le_of_ble_eq_true rfl) dX3_popInto_29 (fun h1 H locs hp hw => ?_)
    subst h1
    refine lv_iconst (v := 1) hx hb dX3_popInto_32 (by decide) ?_
    cases hf
    exact sg_zret hc hw hz hn0 hr hlocks rfl ⟨⟨rfl, rfl⟩, rfl⟩ dX3_popInto_33
  · have hf := if_of c4 hf
    refine lv_iconst (v := 0) hx hb dX3_popInto_7 (by decide) ?_
    cases hf
    exact sg_zret hc hw hz hn0 hr hlocks rfl ⟨⟨rfl, rfl⟩, rfl⟩ dX3_popInto_8
theorem c_X3_popInto {l : Launch} {D : va_G} {cA : Nat → ClassId} {b n : Nat} (hn : sg_okN n) {a : Nat} {q1 : Nat} (ha_a : a < n) (hT_a : sg_T a = 3) (ha_q1 : q1 < n) (hT_q1 : sg_T q1 = 6) {h : HP} {Rz : Int32 × HP} (hf : F_X3_popInto a q1 h = some Rz) : Met l yX3_popInto (Cond.code yX3_popInto cX3_popInto 2 (some .boolean) :: sg_tbl) ({ frames := 2, cells := 0, slots := 0, locals := 121 } : Room) (va_Pc [.ref (b + a), .ref (b + q1)] (sg_Wd D b cA n h)) (va_Qi (fun r u => (r = Rz.1 ∧ u = Rz.2) ∧ narrow .boolean (.int r) = .int r) (sg_Wd D b cA n) (sg_A b)) 0 0 (sg_A b) := by
  refine Met.ofW (cc := cX3_popInto) (maxL := 2) (ret := (some .boolean)) (by decide) rfl ?_
  intro p e s m args below meth c s₁ B hml hv
  obtain ⟨rfl, hP, hK, hz, hY, hN⟩ := hv
  have hl := lv_entry [.ref (b + a), .ref (b + q1)] (n := 2) (Nat.le_of_ble_eq_true rfl)
  rw [lg_entry_eq]
  exact w_X3_popInto hn ⟨B.exec, B.bytes, findClass_of_methodNamed B.named, fun w h => atoms_spec (ws := Cond.code yX3_popInto cX3_popInto 2 (some .boolean) :: sg_tbl) B.pre w (List.mem_cons_of_mem _ h), hK, hN⟩ hz B.returns B.notSynchronized hml (Nat.le_refl _) (Nat.le_refl _) ha_a hT_a ha_q1 hT_q1 hf _ _ _ ⟨hP, hY, va_S.rf⟩ hl
set_option maxHeartbeats 4000000 in
set_option maxRecDepth 100000 in
theorem w_X4_numbersOf {p : Program} {l : Launch} {e : Env} {R : Room} {s : State} {m : MethodId} {args : Array Value} {below : List Frame} {meth : Method} {c : Code} {D : va_G} {cA : Nat → ClassId} {b n : Nat} (hn : sg_okN n) {x0 : Int32} {h : HP} {Rz : Int32} (hc : sg_Cx p s m args c cX4_numbersOf RX4 D cA) (hz : s.heap.size = b + n) (hr : meth.sig.returnType = some .int) (hlocks : meth.locks = false) (hml : c.maxLocals = 1) (hRf : 0 ≤ R.frames) (hRl : 0 ≤ R.locals) (hf : F_X4_numbersOf x0 = some Rz) (H : Heap) (locs : List Loc) (ls : Array Slot) (hw : sg_Wo D b cA n s.heap h H locs) (hl : lv_has ls 1 [(0, .int x0)]) : W p l e R s m args below meth c H locs 0 0 (sg_Qi below args s D b cA n (fun r u => r = Rz ∧ u = h)) (F0 m 0 ls []) := by
  have hx := hc.1
  have hb := hc.2.1
  have hn0 : 0 < n := sg_pos hn
  unfold F_X4_numbersOf at hf
  refine lv_iload_n hx hb dX4_numbersOf_0 rfl (lv_at hl 0 rfl) ?_
  by_cases hk1_98 : x0 = 98
  · have hf := if_of hk1_98 hf
    refine lv_lookup (off := 61) (tgt := 62) hx hb dX4_numbersOf_1 (by decide) (by rw [hk1_98]; decide) (by decide) ?_
    refine lv_iconst (v := 2) hx hb dX4_numbersOf_62 (by decide) ?_
    cases hf
    exact sg_iret hc hw hz hn0 hr hlocks ⟨rfl, rfl⟩ dX4_numbersOf_63
  · have hf := if_no hk1_98 hf
    by_cases hk1_109 : x0 = 109
    · have hf := if_of hk1_109 hf
      refine lv_lookup (off := 59) (tgt := 60) hx hb dX4_numbersOf_1 (by decide) (by rw [hk1_109]; decide) (by decide) ?_
      refine lv_iconst (v := 1) hx hb dX4_numbersOf_60 (by decide) ?_
      cases hf
      exact sg_iret hc hw hz hn0 hr hlocks ⟨rfl, rfl⟩ dX4_numbersOf_61
    · have hf := if_no hk1_109 hf
      by_cases hk1_114 : x0 = 114
      · have hf := if_of hk1_114 hf
        refine lv_lookup (off := 59) (tgt := 60) hx hb dX4_numbersOf_1 (by decide) (by rw [hk1_114]; decide) (by decide) ?_
        refine lv_iconst (v := 1) hx hb dX4_numbersOf_60 (by decide) ?_
        cases hf
        exact sg_iret hc hw hz hn0 hr hlocks ⟨rfl, rfl⟩ dX4_numbersOf_61
      · have hf := if_no hk1_114 hf
        by_cases hk1_115 : x0 = 115
        · have hf := if_of hk1_115 hf
          refine lv_lookup (off := 61) (tgt := 62) hx hb dX4_numbersOf_1 (by decide) (by rw [hk1_115]; decide) (by decide) ?_
          refine lv_iconst (v := 2) hx hb dX4_numbersOf_62 (by decide) ?_
          cases hf
          exact sg_iret hc hw hz hn0 hr hlocks ⟨rfl, rfl⟩ dX4_numbersOf_63
        · have hf := if_no hk1_115 hf
          by_cases hk1_116 : x0 = 116
          · have hf := if_of hk1_116 hf
            refine lv_lookup (off := 63) (tgt := 64) hx hb dX4_numbersOf_1 (by decide) (by rw [hk1_116]; decide) (by decide) ?_
            refine lv_iconst (v := 3) hx hb dX4_numbersOf_64 (by decide) ?_
            cases hf
            exact sg_iret hc hw hz hn0 hr hlocks ⟨rfl, rfl⟩ dX4_numbersOf_65
          · have hf := if_no hk1_116 hf
            by_cases hk1_120 : x0 = 120
            · have hf := if_of hk1_120 hf
              refine lv_lookup (off := 61) (tgt := 62) hx hb dX4_numbersOf_1 (by decide) (by rw [hk1_120]; decide) (by decide) ?_
              refine lv_iconst (v := 2) hx hb dX4_numbersOf_62 (by decide) ?_
              cases hf
              exact sg_iret hc hw hz hn0 hr hlocks ⟨rfl, rfl⟩ dX4_numbersOf_63
            · have hf := if_no hk1_120 hf
              refine lv_lookup (off := 65) (tgt := 66) hx hb dX4_numbersOf_1 (by decide) (by simp [Op.lookupswitch.offset, Ne.symm (sg_ne hk1_98 (k := 98) (by decide)), Ne.symm (sg_ne hk1_109 (k := 109) (by decide)), Ne.symm (sg_ne hk1_114 (k := 114) (by decide)), Ne.symm (sg_ne hk1_115 (k := 115) (by decide)), Ne.symm (sg_ne hk1_116 (k := 116) (by decide)), Ne.symm (sg_ne hk1_120 (k := 120) (by decide))]) (by decide) ?_
              refine lv_iconst (v := 0) hx hb dX4_numbersOf_66 (by decide) ?_
              cases hf
              exact sg_iret hc hw hz hn0 hr hlocks ⟨rfl, rfl⟩ dX4_numbersOf_67
theorem c_X4_numbersOf {l : Launch} {D : va_G} {cA : Nat → ClassId} {b n : Nat} (hn : sg_okN n) {x0 : Int32} {h : HP} {Rz : Int32} (hf : F_X4_numbersOf x0 = some Rz) : Met l yX4_numbersOf (Cond.code yX4_numbersOf cX4_numbersOf 1 (some .int) :: sg_tbl) ({ frames := 0, cells := 0, slots := 0, locals := 0 } : Room) (va_Pc [.int x0] (sg_Wd D b cA n h)) (va_Qi (fun r u => r = Rz ∧ u = h) (sg_Wd D b cA n) (sg_A b)) 0 0 (sg_A b) := by
  refine Met.ofW (cc := cX4_numbersOf) (maxL := 1) (ret := (some .int)) (by decide) rfl ?_
  intro p e s m args below meth c s₁ B hml hv
  obtain ⟨rfl, hP, hK, hz, hY, hN⟩ := hv
  have hl := lv_entry [.int x0] (n := 1) (Nat.le_of_ble_eq_true rfl)
  rw [lg_entry_eq]
  exact w_X4_numbersOf hn ⟨B.exec, B.bytes, findClass_of_methodNamed B.named, fun w h => atoms_spec (ws := Cond.code yX4_numbersOf cX4_numbersOf 1 (some .int) :: sg_tbl) B.pre w (List.mem_cons_of_mem _ h), hK, hN⟩ hz B.returns B.notSynchronized hml (Nat.le_refl _) (Nat.le_refl _) hf _ _ _ ⟨hP, hY, va_S.rf⟩ hl
set_option maxHeartbeats 4000000 in
set_option maxRecDepth 100000 in
theorem w_X4_readNumbers {p : Program} {l : Launch} {e : Env} {R : Room} {s : State} {m : MethodId} {args : Array Value} {below : List Frame} {meth : Method} {c : Code} {D : va_G} {cA : Nat → ClassId} {b n : Nat} (hn : sg_okN n) {a : Nat} {q1 : Nat} {x2 : Int32} {x3 : Int32} {x4 : Int32} {h : HP} {Rz : Int32 × HP} (hc : sg_Cx p s m args c cX4_readNumbers RX4 D cA) (hz : s.heap.size = b + n) (hr : meth.sig.returnType = some .int) (hlocks : meth.locks = false) (hml : c.maxLocals = 9) (hRf : 1 ≤ R.frames) (hRl : 22 ≤ R.locals) (ha_a : a < n) (hT_a : sg_T a = 4) (ha_q1 : q1 < n) (hT_q1 : sg_T q1 = 10) (hf : F_X4_readNumbers a q1 x2 x3 x4 h = some Rz) (H : Heap) (locs : List Loc) (ls : Array Slot) (hw : sg_Wo D b cA n s.heap h H locs) (hl : lv_has ls 9 [(0, .ref (b + a)), (1, .ref (b + q1)), (2, .int x2), (3, .int x3), (4, .int x4)]) : W p l e R s m args below meth c H locs 0 0 (sg_Qi below args s D b cA n (fun r u => r = Rz.1 ∧ u = Rz.2)) (F0 m 0 ls []) := by
  have hx := hc.1
  have hb := hc.2.1
  have hn0 : 0 < n := sg_pos hn
  have J137 : ∀ (x5 : Int32) (h : HP) (H : Heap) (locs : List Loc) (ls : Array Slot), F_X4_readNumbers_J137 a q1 x4 x5 h = some Rz → sg_Wo D b cA n s.heap h H locs → lv_has ls 9 [(4, .int x4), (5, .int x5)] → W p l e R s m args below meth c H locs 0 0 (sg_Qi below args s D b cA n (fun r u => r = Rz.1 ∧ u = Rz.2)) (F0 m 137 ls []) := by
    intro x5 h H locs ls hf hw hl
    unfold F_X4_readNumbers_J137 at hf
    refine lv_iload hx hb dX4_readNumbers_137 (lv_at hl 0 rfl) ?_
    refine lv_if_le (tgt := 147) hx hb dX4_readNumbers_139 (by decide) (fun c139 => ?_) (fun c139 => ?_)
    · have hf := if_of c139 hf
      refine lv_bipush (v := (-4)) hx hb dX4_readNumbers_147 (by decide) ?_
      cases hf
      exact sg_iret hc hw hz hn0 hr hlocks ⟨rfl, rfl⟩ dX4_readNumbers_149
    · have hf := if_no c139 hf
      refine lv_iload hx hb dX4_readNumbers_142 (lv_at hl 1 rfl) ?_
      refine lv_goto (tgt := 149) hx hb dX4_readNumbers_144 (by decide) ?_
      cases hf
      exact sg_iret hc hw hz hn0 hr hlocks ⟨rfl, rfl⟩ dX4_readNumbers_149
  have L6 : ∀ (k : Nat) (x : (Int32 × Int32 × HP)), F_X4_readNumbers_L6 a q1 x3 x4 k x = some Rz → ∀ (H : Heap) (locs : List Loc) (ls : Array Slot), sg_Wo D b cA n s.heap x.2.2 H locs → lv_has ls 9 [(0, .ref (b + a)), (1, .ref (b + q1)), (3, .int x3), (4, .int x4), (5, .int x.1), (6, .int x.2.1)] → W p l e R s m args below meth c H locs 0 0 (sg_Qi below args s D b cA n (fun r u => r = Rz.1 ∧ u = Rz.2)) (F0 m 6 ls []) := by
    unfold F_X4_readNumbers_L6
    refine lp_walk ?_
    intro rc6 hrc6 x hf H locs ls hw hl
    obtain ⟨x5, x6, h⟩ := x
    dsimp only at hf hw hl
    have J101 : ∀ (x5 : Int32) (x6 : Int32) (x7 : Int32) (s0 : Int32) (h : HP) (H : Heap) (locs : List Loc) (ls : Array Slot), F_X4_readNumbers_J101 a q1 rc6 x3 x4 x5 x6 x7 s0 h = some Rz → sg_Wo D b cA n s.heap h H locs → lv_has ls 9 [(0, .ref (b + a)), (1, .ref (b + q1)), (3, .int x3), (4, .int x4), (5, .int x5), (6, .int x6), (7, .int x7)] → W p l e R s m args below meth c H locs 0 0 (sg_Qi below args s D b cA n (fun r u => r = Rz.1 ∧ u = Rz.2)) (F0 m 101 ls [.int s0]) := by
      intro x5 x6 x7 s0 h H locs ls hf hw hl
      unfold F_X4_readNumbers_J101 at hf
      refine lv_istore (lv' := [(8, .int s0), (0, .ref (b + a)), (1, .ref (b + q1)), (3, .int x3), (4, .int x4), (5, .int x5), (6, .int x6), (7, .int x7)]) hx hb dX4_readNumbers_101 hl (by decide) rfl (fun ls hl => ?_)
      refine lv_iload hx hb dX4_readNumbers_103 (lv_at hl 5 rfl) ?_
      refine lv_iload hx hb dX4_readNumbers_105 (lv_at hl 7 rfl) ?_
      refine lv_icmp_eq (tgt := 125) hx hb dX4_readNumbers_107 (by decide) (fun c107 => ?_) (fun c107 => ?_)
      · have hf := if_of c107 hf
        refine lv_bipush (v := (-4)) hx hb dX4_readNumbers_125 (by decide) ?_
        cases hf
        exact sg_iret hc hw hz hn0 hr hlocks ⟨rfl, rfl⟩ dX4_readNumbers_127
      · have hf := if_no c107 hf
        refine lv_iload hx hb dX4_readNumbers_110 (lv_at hl 5 rfl) ?_
        refine lv_iload_n hx hb dX4_readNumbers_112 rfl (lv_at hl 3 rfl) ?_
        refine lv_icmp_ge (tgt := 125) hx hb dX4_readNumbers_113 (by decide) (fun c113 => ?_) (fun c113 => ?_)
        · have hf := if_of c113 hf
          refine lv_bipush (v := (-4)) hx hb dX4_readNumbers_125 (by decide) ?_
          cases hf
          exact sg_iret hc hw hz hn0 hr hlocks ⟨rfl, rfl⟩ dX4_readNumbers_127
        · have hf := if_no c113 hf
          refine lv_aload_n hx hb dX4_readNumbers_116 rfl (lv_at hl 2 rfl) ?_
          refine lv_iload hx hb dX4_readNumbers_117 (lv_at hl 5 rfl) ?_
          obtain ⟨hg119, hf⟩ := gd_of hf
          refine sg_cld hc hw ha_q1 hT_q1 rfl hg119 dX4_readNumbers_119 ?_
          refine lv_iload hx hb dX4_readNumbers_120 (lv_at hl 0 rfl) ?_
          refine lv_icmp_eq (tgt := 128) hx hb dX4_readNumbers_122 (by decide) (fun c122 => ?_) (fun c122 => ?_)
          · have hf := if_of c122 hf
            refine lv_iinc (v := (x5 + 1)) (lv' := [(5, .int (x5 + 1)), (8, .int s0), (0, .ref (b + a)), (1, .ref (b + q1)), (3, .int x3), (4, .int x4), (6, .int x6), (7, .int x7)]) hx hb dX4_readNumbers_128 hl (k := 5) rfl rfl (by decide) rfl (fun ls hl => ?_)
            refine lv_iinc (v := (x6 + 1)) (lv' := [(6, .int (x6 + 1)), (5, .int (x5 + 1)), (8, .int s0), (0, .ref (b + a)), (1, .ref (b + q1)), (3, .int x3), (4, .int x4), (7, .int x7)]) hx hb dX4_readNumbers_131 hl (k := 6) rfl rfl (by decide) rfl (fun ls hl => ?_)
            refine lv_goto (tgt := 6) hx hb dX4_readNumbers_134 (by decide) ?_
            exact hrc6 _ hf _ _ _ hw (lv_sub hl [3, 4, 5, 6, 1, 0] rfl)
          · have hf := if_no c122 hf
            refine lv_bipush (v := (-4)) hx hb dX4_readNumbers_125 (by decide) ?_
            cases hf
            exact sg_iret hc hw hz hn0 hr hlocks ⟨rfl, rfl⟩ dX4_readNumbers_127
    have J85 : ∀ (x5 : Int32) (x6 : Int32) (x7 : Int32) (h : HP) (H : Heap) (locs : List Loc) (ls : Array Slot), F_X4_readNumbers_J85 a q1 rc6 x3 x4 x5 x6 x7 h = some Rz → sg_Wo D b cA n s.heap h H locs → lv_has ls 9 [(0, .ref (b + a)), (1, .ref (b + q1)), (3, .int x3), (4, .int x4), (5, .int x5), (6, .int x6), (7, .int x7)] → W p l e R s m args below meth c H locs 0 0 (sg_Qi below args s D b cA n (fun r u => r = Rz.1 ∧ u = Rz.2)) (F0 m 85 ls []) := by
      intro x5 x6 x7 h H locs ls hf hw hl
      unfold F_X4_readNumbers_J85 at hf
      refine lv_iload hx hb dX4_readNumbers_85 (lv_at hl 5 rfl) ?_
      refine lv_iconst (v := 1) hx hb dX4_readNumbers_87 (by decide) ?_
      refine lv_iadd hx hb dX4_readNumbers_88 ?_
      refine lv_iload hx hb dX4_readNumbers_89 (lv_at hl 3 rfl) ?_
      refine lv_icmp_ge (tgt := 99) hx hb dX4_readNumbers_91 (by decide) (fun c91 => ?_) (fun c91 => ?_)
      · have hf := if_of c91 hf
        refine lv_bipush (v := 59) hx hb dX4_readNumbers_99 (by decide) ?_
        exact J101 x5 x6 x7 59 _ _ _ _ hf hw (lv_sub hl [0, 1, 2, 3, 4, 5, 6] rfl)
      · have hf := if_no c91 hf
        refine lv_bipush (v := 44) hx hb dX4_readNumbers_94 (by decide) ?_
        refine lv_goto (tgt := 101) hx hb dX4_readNumbers_96 (by decide) ?_
        exact J101 x5 x6 x7 44 _ _ _ _ hf hw (lv_sub hl [0, 1, 2, 3, 4, 5, 6] rfl)
    have L25 : ∀ (x6 : Int32) (x7 : Int32) (k : Nat) (x : (Int32 × HP)), F_X4_readNumbers_L25 a q1 rc6 x3 x4 x6 x7 k x = some Rz → ∀ (H : Heap) (locs : List Loc) (ls : Array Slot), sg_Wo D b cA n s.heap x.2 H locs → lv_has ls 9 [(0, .ref (b + a)), (1, .ref (b + q1)), (3, .int x3), (4, .int x4), (5, .int x.1), (6, .int x6), (7, .int x7)] → W p l e R s m args below meth c H locs 0 0 (sg_Qi below args s D b cA n (fun r u => r = Rz.1 ∧ u = Rz.2)) (F0 m 25 ls []) := by
      intro x6 x7
      unfold F_X4_readNumbers_L25
      refine lp_walk ?_
      intro rc25 hrc25 x hf H locs ls hw hl
      obtain ⟨x5, h⟩ := x
      dsimp only at hf hw hl
      refine lv_iload hx hb dX4_readNumbers_25 (lv_at hl 4 rfl) ?_
      refine lv_iload_n hx hb dX4_readNumbers_27 rfl (lv_at hl 2 rfl) ?_
      refine lv_icmp_ge (tgt := 85) hx hb dX4_readNumbers_28 (by decide) (fun c28 => ?_) (fun c28 => ?_)
      · have hf := if_of c28 hf
        exact J85 x5 x6 x7 _ _ _ _ hf hw (lv_sub hl [0, 1, 2, 3, 4, 5, 6] rfl)
      · have hf := if_no c28 hf
        refine lv_iload hx hb dX4_readNumbers_31 (lv_at hl 4 rfl) ?_
        refine lv_iload hx hb dX4_readNumbers_33 (lv_at hl 6 rfl) ?_
        refine lv_iconst (v := 2) hx hb dX4_readNumbers_35 (by decide) ?_
        refine lv_iadd hx hb dX4_readNumbers_36 ?_
        refine lv_icmp_ge (tgt := 85) hx hb dX4_readNumbers_37 (by decide) (fun c37 => ?_) (fun c37 => ?_)
        · have hf := if_of c37 hf
          exact J85 x5 x6 x7 _ _ _ _ hf hw (lv_sub hl [0, 1, 2, 3, 4, 5, 6] rfl)
        · have hf := if_no c37 hf
          refine lv_aload_n hx hb dX4_readNumbers_40 rfl (lv_at hl 1 rfl) ?_
          refine lv_iload hx hb dX4_readNumbers_41 (lv_at hl 4 rfl) ?_
          obtain ⟨hg43, hf⟩ := gd_of hf
          refine sg_cld hc hw ha_q1 hT_q1 rfl hg43 dX4_readNumbers_43 ?_
          refine lv_bipush (v := 48) hx hb dX4_readNumbers_44 (by decide) ?_
          refine lv_bipush (v := 57) hx hb dX4_readNumbers_46 (by decide) ?_
          obtain ⟨p48, hp48, hf⟩ := cl_of hf
          refine sg_ni (rest := []) (c_X8_within hn (h := h) hp48) hc hw hz hn0 hml hl cn_X4_48 ⟨⟨rfl, rfl⟩, Nat.le_trans (Nat.le_of_ble_eq_true rfl) hRf, Nat.le_trans (Nat.le_of_ble_eq_true rfl) hRl⟩ ⟨Nat.zero_le _, Nat.zero_le _⟩ rfl rfl (Nat.le_of_ble_eq_true rfl) dX4_readNumbers_48 (fun r h1 H locs hp hw => ?_)
          obtain ⟨⟨e1, e2⟩, hb48⟩ := hp; subst r; subst h1
          refine lv_if_eq (tgt := 85) hx hb dX4_readNumbers_51 (by decide) (fun c51 => ?_) (fun c51 => ?_)
          · have hf := if_of c51 hf
            exact J85 x5 x6 x7 _ _ _ _ hf hw (lv_sub hl [0, 1, 2, 3, 4, 5, 6] rfl)
          · have hf := if_no c51 hf
            refine lv_aload_n hx hb dX4_readNumbers_54 rfl (lv_at hl 0 rfl) ?_
            obtain ⟨hF55, hT55, ha55, hN55⟩ := ft_4_2 hn ha_a hT_a
            refine sg_getf (q := (a + 12)) hc hw ha_a hT_a fr_4_2 (by decide) k_125 dX4_readNumbers_55 hF55 ?_
            refine lv_iload hx hb dX4_readNumbers_58 (lv_at hl 5 rfl) ?_
            refine lv_bipush (v := 10) hx hb dX4_readNumbers_60 (by decide) ?_
            refine lv_aload_n hx hb dX4_readNumbers_62 rfl (lv_at hl 0 rfl) ?_
            refine sg_getf (q := (a + 12)) hc hw ha_a hT_a fr_4_2 (by decide) k_125 dX4_readNumbers_63 (ft_4_2 hn ha_a hT_a).1 ?_
            refine lv_iload hx hb dX4_readNumbers_66 (lv_at hl 5 rfl) ?_
            obtain ⟨hg68, hf⟩ := gd_of hf
            refine sg_ild hc hw ha55 hT55 hN55 hg68 dX4_readNumbers_68 ?_
            refine lv_imul hx hb dX4_readNumbers_69 ?_
            refine lv_aload_n hx hb dX4_readNumbers_70 rfl (lv_at hl 1 rfl) ?_
            refine lv_iload hx hb dX4_readNumbers_71 (lv_at hl 4 rfl) ?_
            obtain ⟨hg73, hf⟩ := gd_of hf
            refine sg_cld hc hw ha_q1 hT_q1 rfl hg73 dX4_readNumbers_73 ?_
            refine lv_iadd hx hb dX4_readNumbers_74 ?_
            refine lv_bipush (v := 48) hx hb dX4_readNumbers_75 (by decide) ?_
            refine lv_isub hx hb dX4_readNumbers_77 ?_
            obtain ⟨hg78, hf⟩ := gd_of hf
            refine sg_ist hc hw ha55 hT55 hN55 hg78 dX4_readNumbers_78 (fun H locs hw => ?_)
            obtain ⟨h78, hw, hf⟩ := sg_name hw hf
            refine lv_iinc (v := (x5 + 1)) (lv' := [(5, .int (x5 + 1)), (0, .ref (b + a)), (1, .ref (b + q1)), (3, .int x3), (4, .int x4), (6, .int x6), (7, .int x7)]) hx hb dX4_readNumbers_79 hl (k := 4) rfl rfl (by decide) rfl (fun ls hl => ?_)
            refine lv_goto (tgt := 25) hx hb dX4_readNumbers_82 (by decide) ?_
            exact hrc25 _ hf _ _ _ hw (lv_sub hl [1, 2, 3, 4, 0, 5, 6] rfl)
    refine lv_iload hx hb dX4_readNumbers_6 (lv_at hl 5 rfl) ?_
    refine lv_iload hx hb dX4_readNumbers_8 (lv_at hl 3 rfl) ?_
    refine lv_icmp_ge (tgt := 137) hx hb dX4_readNumbers_10 (by decide) (fun c10 => ?_) (fun c10 => ?_)
    · have hf := if_of c10 hf
      exact J137 x5 _ _ _ _ hf hw (lv_sub hl [3, 4] rfl)
    · have hf := if_no c10 hf
      refine lv_iload hx hb dX4_readNumbers_13 (lv_at hl 4 rfl) ?_
      refine lv_istore (lv' := [(7, .int x5), (0, .ref (b + a)), (1, .ref (b + q1)), (3, .int x3), (4, .int x4), (5, .int x5), (6, .int x6)]) hx hb dX4_readNumbers_15 hl (by decide) rfl (fun ls hl => ?_)
      refine lv_aload_n hx hb dX4_readNumbers_17 rfl (lv_at hl 1 rfl) ?_
      obtain ⟨hF18, hT18, ha18, hN18⟩ := ft_4_2 hn ha_a hT_a
      refine sg_getf (q := (a + 12)) hc hw ha_a hT_a fr_4_2 (by decide) k_125 dX4_readNumbers_18 hF18 ?_
      refine lv_iload hx hb dX4_readNumbers_21 (lv_at hl 6 rfl) ?_
      refine lv_iconst (v := 0) hx hb dX4_readNumbers_23 (by decide) ?_
      obtain ⟨hg24, hf⟩ := gd_of hf
      refine sg_ist hc hw ha18 hT18 hN18 hg24 dX4_readNumbers_24 (fun H locs hw => ?_)
      obtain ⟨h24, hw, hf⟩ := sg_name hw hf
      exact L25 x6 x5 _ _ hf _ _ _ hw (lv_sub hl [1, 2, 3, 4, 5, 6, 0] rfl)
  unfold F_X4_readNumbers at hf
  refine lv_iload_n hx hb dX4_readNumbers_0 rfl (lv_at hl 2 rfl) ?_
  refine lv_istore (lv' := [(5, .int x2), (0, .ref (b + a)), (1, .ref (b + q1)), (2, .int x2), (3, .int x3), (4, .int x4)]) hx hb dX4_readNumbers_1 hl (by decide) rfl (fun ls hl => ?_)
  refine lv_iconst (v := 0) hx hb dX4_readNumbers_3 (by decide) ?_
  refine lv_istore (lv' := [(6, .int 0), (5, .int x2), (0, .ref (b + a)), (1, .ref (b + q1)), (2, .int x2), (3, .int x3), (4, .int x4)]) hx hb dX4_readNumbers_4 hl (by decide) rfl (fun ls hl => ?_)
  exact L6 _ _ hf _ _ _ hw (lv_sub hl [2, 3, 5, 6, 1, 0] rfl)
theorem c_X4_readNumbers {l : Launch} {D : va_G} {cA : Nat → ClassId} {b n : Nat} (hn : sg_okN n) {a : Nat} {q1 : Nat} {x2 : Int32} {x3 : Int32} {x4 : Int32} (ha_a : a < n) (hT_a : sg_T a = 4) (ha_q1 : q1 < n) (hT_q1 : sg_T q1 = 10) {h : HP} {Rz : Int32 × HP} (hf : F_X4_readNumbers a q1 x2 x3 x4 h = some Rz) : Met l yX4_readNumbers (Cond.code yX4_readNumbers cX4_readNumbers 9 (some .int) :: sg_tbl) ({ frames := 1, cells := 0, slots := 0, locals := 22 } : Room) (va_Pc [.ref (b + a), .ref (b + q1), .int x2, .int x3, .int x4] (sg_Wd D b cA n h)) (va_Qi (fun r u => r = Rz.1 ∧ u = Rz.2) (sg_Wd D b cA n) (sg_A b)) 0 0 (sg_A b) := by
  refine Met.ofW (cc := cX4_readNumbers) (maxL := 9) (ret := (some .int)) (by decide) rfl ?_
  intro p e s m args below meth c s₁ B hml hv
  obtain ⟨rfl, hP, hK, hz, hY, hN⟩ := hv
  have hl := lv_entry [.ref (b + a), .ref (b + q1), .int x2, .int x3, .int x4] (n := 9) (Nat.le_of_ble_eq_true rfl)
  rw [lg_entry_eq]
  exact w_X4_readNumbers hn ⟨B.exec, B.bytes, findClass_of_methodNamed B.named, fun w h => atoms_spec (ws := Cond.code yX4_readNumbers cX4_readNumbers 9 (some .int) :: sg_tbl) B.pre w (List.mem_cons_of_mem _ h), hK, hN⟩ hz B.returns B.notSynchronized hml (Nat.le_refl _) (Nat.le_refl _) ha_a hT_a ha_q1 hT_q1 hf _ _ _ ⟨hP, hY, va_S.rf⟩ hl
set_option maxHeartbeats 4000000 in
set_option maxRecDepth 100000 in
theorem w_X6_isFull {p : Program} {l : Launch} {e : Env} {R : Room} {s : State} {m : MethodId} {args : Array Value} {below : List Frame} {meth : Method} {c : Code} {D : va_G} {cA : Nat → ClassId} {b n : Nat} (hn : sg_okN n) {a : Nat} {h : HP} {Rz : Int32} (hc : sg_Cx p s m args c cX6_isFull RX6 D cA) (hz : s.heap.size = b + n) (hr : meth.sig.returnType = some .boolean) (hlocks : meth.locks = false) (hml : c.maxLocals = 1) (hRf : 0 ≤ R.frames) (hRl : 0 ≤ R.locals) (ha_a : a < n) (hT_a : sg_T a = 6) (hf : F_X6_isFull a h = some Rz) (H : Heap) (locs : List Loc) (ls : Array Slot) (hw : sg_Wo D b cA n s.heap h H locs) (hl : lv_has ls 1 [(0, .ref (b + a))]) : W p l e R s m args below meth c H locs 0 0 (sg_Qi below args s D b cA n (fun r u => (r = Rz ∧ u = h) ∧ narrow .boolean (.int r) = .int r)) (F0 m 0 ls []) := by
  have hx := hc.1
  have hb := hc.2.1
  have hn0 : 0 < n := sg_pos hn
  unfold F_X6_isFull at hf
  refine lv_aload_n hx hb dX6_isFull_0 rfl (lv_at hl 0 rfl) ?_
  refine sg_geti hc hw ha_a hT_a fi_6_0 k_103 dX6_isFull_1 ?_
  refine lv_bipush (v := 9) hx hb dX6_isFull_4 (by decide) ?_
  refine lv_icmp_lt (tgt := 13) hx hb dX6_isFull_6 (by decide) (fun c6 => ?_) (fun c6 => ?_)
  · have hf := if_of c6 hf
    refine lv_iconst (v := 0) hx hb dX6_isFull_13 (by decide) ?_
    cases hf
    exact sg_zret hc hw hz hn0 hr hlocks rfl ⟨⟨rfl, rfl⟩, rfl⟩ dX6_isFull_14
  · have hf := if_no c6 hf
    refine lv_iconst (v := 1) hx hb dX6_isFull_9 (by decide) ?_
    refine lv_goto (tgt := 14) hx hb dX6_isFull_10 (by decide) ?_
    cases hf
    exact sg_zret hc hw hz hn0 hr hlocks rfl ⟨⟨rfl, rfl⟩, rfl⟩ dX6_isFull_14
theorem c_X6_isFull {l : Launch} {D : va_G} {cA : Nat → ClassId} {b n : Nat} (hn : sg_okN n) {a : Nat} (ha_a : a < n) (hT_a : sg_T a = 6) {h : HP} {Rz : Int32} (hf : F_X6_isFull a h = some Rz) : Met l yX6_isFull (Cond.code yX6_isFull cX6_isFull 1 (some .boolean) :: sg_tbl) ({ frames := 0, cells := 0, slots := 0, locals := 0 } : Room) (va_Pc [.ref (b + a)] (sg_Wd D b cA n h)) (va_Qi (fun r u => (r = Rz ∧ u = h) ∧ narrow .boolean (.int r) = .int r) (sg_Wd D b cA n) (sg_A b)) 0 0 (sg_A b) := by
  refine Met.ofW (cc := cX6_isFull) (maxL := 1) (ret := (some .boolean)) (by decide) rfl ?_
  intro p e s m args below meth c s₁ B hml hv
  obtain ⟨rfl, hP, hK, hz, hY, hN⟩ := hv
  have hl := lv_entry [.ref (b + a)] (n := 1) (Nat.le_of_ble_eq_true rfl)
  rw [lg_entry_eq]
  exact w_X6_isFull hn ⟨B.exec, B.bytes, findClass_of_methodNamed B.named, fun w h => atoms_spec (ws := Cond.code yX6_isFull cX6_isFull 1 (some .boolean) :: sg_tbl) B.pre w (List.mem_cons_of_mem _ h), hK, hN⟩ hz B.returns B.notSynchronized hml (Nat.le_refl _) (Nat.le_refl _) ha_a hT_a hf _ _ _ ⟨hP, hY, va_S.rf⟩ hl
set_option maxHeartbeats 4000000 in
set_option maxRecDepth 100000 in
theorem w_X6_add {p : Program} {l : Launch} {e : Env} {R : Room} {s : State} {m : MethodId} {args : Array Value} {below : List Frame} {meth : Method} {c : Code} {D : va_G} {cA : Nat → ClassId} {b n : Nat} (hn : sg_okN n) {a : Nat} {x1 : Int32} {x2 : Int32} {x3 : Int32} {h : HP} {Rz : Int32 × HP} (hc : sg_Cx p s m args c cX6_add RX6 D cA) (hz : s.heap.size = b + n) (hr : meth.sig.returnType = some .boolean) (hlocks : meth.locks = false) (hml : c.maxLocals = 4) (hRf : 1 ≤ R.frames) (hRl : 20 ≤ R.locals) (ha_a : a < n) (hT_a : sg_T a = 6) (hf : F_X6_add a x1 x2 x3 h = some Rz) (H : Heap) (locs : List Loc) (ls : Array Slot) (hw : sg_Wo D b cA n s.heap h H locs) (hl : lv_has ls 4 [(0, .ref (b + a)), (1, .int x1), (2, .int x2), (3, .int x3)]) : W p l e R s m args below meth c H locs 0 0 (sg_Qi below args s D b cA n (fun r u => (r = Rz.1 ∧ u = Rz.2) ∧ narrow .boolean (.int r) = .int r)) (F0 m 0 ls []) := by
  have hx := hc.1
  have hb := hc.2.1
  have hn0 : 0 < n := sg_pos hn
  unfold F_X6_add at hf
  refine lv_aload_n hx hb dX6_add_0 rfl (lv_at hl 0 rfl) ?_
  obtain ⟨p1, hp1, hf⟩ := cl_of hf
  refine sg_vi (rest := []) (c_X6_isFull hn ha_a hT_a hp1) hc hw hz hml hl ha_a hT_a (by decide) rfl cv_X6_25 ⟨⟨rfl, rfl⟩, Nat.le_trans (Nat.le_of_ble_eq_true rfl) hRf, Nat.le_trans (Nat.le_of_ble_eq_true rfl) hRl⟩ ⟨Nat.zero_le _, Nat.zero_le _⟩ rfl rfl (Nat.le_of_ble_eq_true rfl) dX6_add_1 (fun r h1 H locs hp hw => ?_)
  obtain ⟨⟨e1, e2⟩, hb1⟩ := hp; subst r; subst h1
  refine lv_if_ne (tgt := 12) hx hb dX6_add_4 (by decide) (fun c4 => ?_) (fun c4 => ?_)
  · have hf := if_no c4 hf
    refine lv_iconst (v := 0) hx hb dX6_add_12 (by decide) ?_
    cases hf
    exact sg_zret hc hw hz hn0 hr hlocks rfl ⟨⟨rfl, rfl⟩, rfl⟩ dX6_add_13
  · have hf := if_of c4 hf
    refine lv_iload_n hx hb dX6_add_7 rfl (lv_at hl 2 rfl) ?_
    refine lv_iload_n hx hb dX6_add_8 rfl (lv_at hl 3 rfl) ?_
    refine lv_icmp_le (tgt := 14) hx hb dX6_add_9 (by decide) (fun c9 => ?_) (fun c9 => ?_)
    · have hf := if_of c9 hf
      refine lv_aload_n hx hb dX6_add_14 rfl (lv_at hl 0 rfl) ?_
      obtain ⟨hF15, hT15, ha15, hN15⟩ := ft_6_1 hn ha_a hT_a
      refine sg_getf (q := (a + 1)) hc hw ha_a hT_a fr_6_1 (by decide) k_106 dX6_add_15 hF15 ?_
      refine lv_aload_n hx hb dX6_add_18 rfl (lv_at hl 0 rfl) ?_
      refine sg_geti hc hw ha_a hT_a fi_6_0 k_103 dX6_add_19 ?_
      refine lv_iload_n hx hb dX6_add_22 rfl (lv_at hl 1 rfl) ?_
      obtain ⟨hg23, hf⟩ := gd_of hf
      refine sg_ist hc hw ha15 hT15 hN15 hg23 dX6_add_23 (fun H locs hw => ?_)
      obtain ⟨h23, hw, hf⟩ := sg_name hw hf
      refine lv_aload_n hx hb dX6_add_24 rfl (lv_at hl 0 rfl) ?_
      obtain ⟨hF25, hT25, ha25, hN25⟩ := ft_6_2 hn ha_a hT_a
      refine sg_getf (q := (a + 2)) hc hw ha_a hT_a fr_6_2 (by decide) k_108 dX6_add_25 hF25 ?_
      refine lv_aload_n hx hb dX6_add_28 rfl (lv_at hl 0 rfl) ?_
      refine sg_geti hc hw ha_a hT_a fi_6_0 k_103 dX6_add_29 ?_
      refine lv_iload_n hx hb dX6_add_32 rfl (lv_at hl 2 rfl) ?_
      obtain ⟨hg33, hf⟩ := gd_of hf
      refine sg_ist hc hw ha25 hT25 hN25 hg33 dX6_add_33 (fun H locs hw => ?_)
      obtain ⟨h33, hw, hf⟩ := sg_name hw hf
      refine lv_aload_n hx hb dX6_add_34 rfl (lv_at hl 0 rfl) ?_
      obtain ⟨hF35, hT35, ha35, hN35⟩ := ft_6_3 hn ha_a hT_a
      refine sg_getf (q := (a + 3)) hc hw ha_a hT_a fr_6_3 (by decide) k_110 dX6_add_35 hF35 ?_
      refine lv_aload_n hx hb dX6_add_38 rfl (lv_at hl 0 rfl) ?_
      refine sg_geti hc hw ha_a hT_a fi_6_0 k_103 dX6_add_39 ?_
      refine lv_iload_n hx hb dX6_add_42 rfl (lv_at hl 3 rfl) ?_
      obtain ⟨hg43, hf⟩ := gd_of hf
      refine sg_ist hc hw ha35 hT35 hN35 hg43 dX6_add_43 (fun H locs hw => ?_)
      obtain ⟨h43, hw, hf⟩ := sg_name hw hf
      refine lv_aload_n hx hb dX6_add_44 rfl (lv_at hl 0 rfl) ?_
      refine lv_dup hx hb dX6_add_45 rfl ?_
      refine sg_geti hc hw ha_a hT_a fi_6_0 k_103 dX6_add_46 ?_
      refine lv_iconst (v := 1) hx hb dX6_add_49 (by decide) ?_
      refine lv_iadd hx hb dX6_add_50 ?_
      refine sg_puti hc hw ha_a hT_a fp_6_0 rfl rfl k_103 dX6_add_51 (fun H locs hw => ?_)
      obtain ⟨h51, hw, hf⟩ := sg_name hw hf
      refine lv_iconst (v := 1) hx hb dX6_add_54 (by decide) ?_
      cases hf
      exact sg_zret hc hw hz hn0 hr hlocks rfl ⟨⟨rfl, rfl⟩, rfl⟩ dX6_add_55
    · have hf := if_no c9 hf
      refine lv_iconst (v := 0) hx hb dX6_add_12 (by decide) ?_
      cases hf
      exact sg_zret hc hw hz hn0 hr hlocks rfl ⟨⟨rfl, rfl⟩, rfl⟩ dX6_add_13
theorem c_X6_add {l : Launch} {D : va_G} {cA : Nat → ClassId} {b n : Nat} (hn : sg_okN n) {a : Nat} {x1 : Int32} {x2 : Int32} {x3 : Int32} (ha_a : a < n) (hT_a : sg_T a = 6) {h : HP} {Rz : Int32 × HP} (hf : F_X6_add a x1 x2 x3 h = some Rz) : Met l yX6_add (Cond.code yX6_add cX6_add 4 (some .boolean) :: sg_tbl) ({ frames := 1, cells := 0, slots := 0, locals := 20 } : Room) (va_Pc [.ref (b + a), .int x1, .int x2, .int x3] (sg_Wd D b cA n h)) (va_Qi (fun r u => (r = Rz.1 ∧ u = Rz.2) ∧ narrow .boolean (.int r) = .int r) (sg_Wd D b cA n) (sg_A b)) 0 0 (sg_A b) := by
  refine Met.ofW (cc := cX6_add) (maxL := 4) (ret := (some .boolean)) (by decide) rfl ?_
  intro p e s m args below meth c s₁ B hml hv
  obtain ⟨rfl, hP, hK, hz, hY, hN⟩ := hv
  have hl := lv_entry [.ref (b + a), .int x1, .int x2, .int x3] (n := 4) (Nat.le_of_ble_eq_true rfl)
  rw [lg_entry_eq]
  exact w_X6_add hn ⟨B.exec, B.bytes, findClass_of_methodNamed B.named, fun w h => atoms_spec (ws := Cond.code yX6_add cX6_add 4 (some .boolean) :: sg_tbl) B.pre w (List.mem_cons_of_mem _ h), hK, hN⟩ hz B.returns B.notSynchronized hml (Nat.le_refl _) (Nat.le_refl _) ha_a hT_a hf _ _ _ ⟨hP, hY, va_S.rf⟩ hl
set_option maxHeartbeats 4000000 in
set_option maxRecDepth 100000 in
theorem w_X4_take {p : Program} {l : Launch} {e : Env} {R : Room} {s : State} {m : MethodId} {args : Array Value} {below : List Frame} {meth : Method} {c : Code} {D : va_G} {cA : Nat → ClassId} {b n : Nat} (hn : sg_okN n) {a : Nat} {x1 : Int32} {h : HP} {Rz : Int32 × HP} (hc : sg_Cx p s m args c cX4_take RX4 D cA) (hz : s.heap.size = b + n) (hr : meth.sig.returnType = some .boolean) (hlocks : meth.locks = false) (hml : c.maxLocals = 2) (hRf : 2 ≤ R.frames) (hRl : 44 ≤ R.locals) (ha_a : a < n) (hT_a : sg_T a = 4) (hf : F_X4_take a x1 h = some Rz) (H : Heap) (locs : List Loc) (ls : Array Slot) (hw : sg_Wo D b cA n s.heap h H locs) (hl : lv_has ls 2 [(0, .ref (b + a)), (1, .int x1)]) : W p l e R s m args below meth c H locs 0 0 (sg_Qi below args s D b cA n (fun r u => (r = Rz.1 ∧ u = Rz.2) ∧ narrow .boolean (.int r) = .int r)) (F0 m 0 ls []) := by
  have hx := hc.1
  have hb := hc.2.1
  have hn0 : 0 < n := sg_pos hn
  unfold F_X4_take at hf
  refine lv_iload_n hx hb dX4_take_0 rfl (lv_at hl 1 rfl) ?_
  by_cases hk1_98 : x1 = 98
  · have hf := if_of hk1_98 hf
    refine lv_lookup (off := 79) (tgt := 80) hx hb dX4_take_1 (by decide) (by rw [hk1_98]; decide) (by decide) ?_
    refine lv_aload_n hx hb dX4_take_80 rfl (lv_at hl 0 rfl) ?_
    obtain ⟨hF81, hT81, ha81⟩ := ft_4_0 hn ha_a hT_a
    refine sg_getf (q := (a + 1)) hc hw ha_a hT_a fr_4_0 (by decide) k_121 dX4_take_81 hF81 ?_
    refine lv_aload_n hx hb dX4_take_84 rfl (lv_at hl 0 rfl) ?_
    obtain ⟨hF85, hT85, ha85, hN85⟩ := ft_4_2 hn ha_a hT_a
    refine sg_getf (q := (a + 12)) hc hw ha_a hT_a fr_4_2 (by decide) k_125 dX4_take_85 hF85 ?_
    refine lv_iconst (v := 0) hx hb dX4_take_88 (by decide) ?_
    refine sg_ild hc hw ha85 hT85 hN85 (show vp_in 0 3 by unfold vp_in; decide) dX4_take_89 ?_
    refine lv_aload_n hx hb dX4_take_90 rfl (lv_at hl 0 rfl) ?_
    refine sg_getf (q := (a + 12)) hc hw ha_a hT_a fr_4_2 (by decide) k_125 dX4_take_91 (ft_4_2 hn ha_a hT_a).1 ?_
    refine lv_iconst (v := 1) hx hb dX4_take_94 (by decide) ?_
    refine sg_ild hc hw ha85 hT85 hN85 (show vp_in 1 3 by unfold vp_in; decide) dX4_take_95 ?_
    obtain ⟨p96, hp96, hf⟩ := cl_of hf
    refine sg_vi (rest := []) (c_X1_addBearer hn ha81 hT81 hp96) hc hw hz hml hl ha81 hT81 (by decide) rfl cv_X4_56 ⟨⟨rfl, rfl⟩, Nat.le_trans (Nat.le_of_ble_eq_true rfl) hRf, Nat.le_trans (Nat.le_of_ble_eq_true rfl) hRl⟩ ⟨Nat.zero_le _, Nat.zero_le _⟩ rfl rfl (Nat.le_of_ble_eq_true rfl) dX4_take_96 (fun r h1 H locs hp hw => ?_)
    obtain ⟨⟨e1, e2⟩, hb96⟩ := hp; subst r; subst h1
    cases hf
    exact sg_zret hc hw hz hn0 hr hlocks hb96 ⟨⟨rfl, rfl⟩, hb96⟩ dX4_take_99
  · have hf := if_no hk1_98 hf
    by_cases hk1_109 : x1 = 109
    · have hf := if_of hk1_109 hf
      refine lv_lookup (off := 99) (tgt := 100) hx hb dX4_take_1 (by decide) (by rw [hk1_109]; decide) (by decide) ?_
      refine lv_aload_n hx hb dX4_take_100 rfl (lv_at hl 0 rfl) ?_
      obtain ⟨hF101, hT101, ha101⟩ := ft_4_0 hn ha_a hT_a
      refine sg_getf (q := (a + 1)) hc hw ha_a hT_a fr_4_0 (by decide) k_121 dX4_take_101 hF101 ?_
      refine lv_aload_n hx hb dX4_take_104 rfl (lv_at hl 0 rfl) ?_
      obtain ⟨hF105, hT105, ha105, hN105⟩ := ft_4_2 hn ha_a hT_a
      refine sg_getf (q := (a + 12)) hc hw ha_a hT_a fr_4_2 (by decide) k_125 dX4_take_105 hF105 ?_
      refine lv_iconst (v := 0) hx hb dX4_take_108 (by decide) ?_
      refine sg_ild hc hw ha105 hT105 hN105 (show vp_in 0 3 by unfold vp_in; decide) dX4_take_109 ?_
      obtain ⟨p110, hp110, hf⟩ := cl_of hf
      refine sg_vi (rest := []) (c_X1_setMust hn ha101 hT101 hp110) hc hw hz hml hl ha101 hT101 (by decide) rfl cv_X4_59 ⟨⟨rfl, rfl⟩, Nat.le_trans (Nat.le_of_ble_eq_true rfl) hRf, Nat.le_trans (Nat.le_of_ble_eq_true rfl) hRl⟩ ⟨Nat.zero_le _, Nat.zero_le _⟩ rfl rfl (Nat.le_of_ble_eq_true rfl) dX4_take_110 (fun r h1 H locs hp hw => ?_)
      obtain ⟨⟨e1, e2⟩, hb110⟩ := hp; subst r; subst h1
      cases hf
      exact sg_zret hc hw hz hn0 hr hlocks hb110 ⟨⟨rfl, rfl⟩, hb110⟩ dX4_take_113
    · have hf := if_no hk1_109 hf
      by_cases hk1_114 : x1 = 114
      · have hf := if_of hk1_114 hf
        refine lv_lookup (off := 113) (tgt := 114) hx hb dX4_take_1 (by decide) (by rw [hk1_114]; decide) (by decide) ?_
        refine lv_aload_n hx hb dX4_take_114 rfl (lv_at hl 0 rfl) ?_
        obtain ⟨hF115, hT115, ha115⟩ := ft_4_0 hn ha_a hT_a
        refine sg_getf (q := (a + 1)) hc hw ha_a hT_a fr_4_0 (by decide) k_121 dX4_take_115 hF115 ?_
        refine lv_aload_n hx hb dX4_take_118 rfl (lv_at hl 0 rfl) ?_
        obtain ⟨hF119, hT119, ha119, hN119⟩ := ft_4_2 hn ha_a hT_a
        refine sg_getf (q := (a + 12)) hc hw ha_a hT_a fr_4_2 (by decide) k_125 dX4_take_119 hF119 ?_
        refine lv_iconst (v := 0) hx hb dX4_take_122 (by decide) ?_
        refine sg_ild hc hw ha119 hT119 hN119 (show vp_in 0 3 by unfold vp_in; decide) dX4_take_123 ?_
        obtain ⟨p124, hp124, hf⟩ := cl_of hf
        refine sg_vi (rest := []) (c_X1_setWet hn ha115 hT115 hp124) hc hw hz hml hl ha115 hT115 (by decide) rfl cv_X4_62 ⟨⟨rfl, rfl⟩, Nat.le_trans (Nat.le_of_ble_eq_true rfl) hRf, Nat.le_trans (Nat.le_of_ble_eq_true rfl) hRl⟩ ⟨Nat.zero_le _, Nat.zero_le _⟩ rfl rfl (Nat.le_of_ble_eq_true rfl) dX4_take_124 (fun r h1 H locs hp hw => ?_)
        obtain ⟨⟨e1, e2⟩, hb124⟩ := hp; subst r; subst h1
        cases hf
        exact sg_zret hc hw hz hn0 hr hlocks hb124 ⟨⟨rfl, rfl⟩, hb124⟩ dX4_take_127
      · have hf := if_no hk1_114 hf
        by_cases hk1_115 : x1 = 115
        · have hf := if_of hk1_115 hf
          refine lv_lookup (off := 59) (tgt := 60) hx hb dX4_take_1 (by decide) (by rw [hk1_115]; decide) (by decide) ?_
          refine lv_aload_n hx hb dX4_take_60 rfl (lv_at hl 0 rfl) ?_
          obtain ⟨hF61, hT61, ha61⟩ := ft_4_0 hn ha_a hT_a
          refine sg_getf (q := (a + 1)) hc hw ha_a hT_a fr_4_0 (by decide) k_121 dX4_take_61 hF61 ?_
          refine lv_aload_n hx hb dX4_take_64 rfl (lv_at hl 0 rfl) ?_
          obtain ⟨hF65, hT65, ha65, hN65⟩ := ft_4_2 hn ha_a hT_a
          refine sg_getf (q := (a + 12)) hc hw ha_a hT_a fr_4_2 (by decide) k_125 dX4_take_65 hF65 ?_
          refine lv_iconst (v := 0) hx hb dX4_take_68 (by decide) ?_
          refine sg_ild hc hw ha65 hT65 hN65 (show vp_in 0 3 by unfold vp_in; decide) dX4_take_69 ?_
          refine lv_aload_n hx hb dX4_take_70 rfl (lv_at hl 0 rfl) ?_
          refine sg_getf (q := (a + 12)) hc hw ha_a hT_a fr_4_2 (by decide) k_125 dX4_take_71 (ft_4_2 hn ha_a hT_a).1 ?_
          refine lv_iconst (v := 1) hx hb dX4_take_74 (by decide) ?_
          refine sg_ild hc hw ha65 hT65 hN65 (show vp_in 1 3 by unfold vp_in; decide) dX4_take_75 ?_
          obtain ⟨p76, hp76, hf⟩ := cl_of hf
          refine sg_vi (rest := []) (c_X1_addStretch hn ha61 hT61 hp76) hc hw hz hml hl ha61 hT61 (by decide) rfl cv_X4_52 ⟨⟨rfl, rfl⟩, Nat.le_trans (Nat.le_of_ble_eq_true rfl) hRf, Nat.le_trans (Nat.le_of_ble_eq_true rfl) hRl⟩ ⟨Nat.zero_le _, Nat.zero_le _⟩ rfl rfl (Nat.le_of_ble_eq_true rfl) dX4_take_76 (fun r h1 H locs hp hw => ?_)
          obtain ⟨⟨e1, e2⟩, hb76⟩ := hp; subst r; subst h1
          cases hf
          exact sg_zret hc hw hz hn0 hr hlocks hb76 ⟨⟨rfl, rfl⟩, hb76⟩ dX4_take_79
        · have hf := if_no hk1_115 hf
          by_cases hk1_116 : x1 = 116
          · have hf := if_of hk1_116 hf
            refine lv_lookup (off := 127) (tgt := 128) hx hb dX4_take_1 (by decide) (by rw [hk1_116]; decide) (by decide) ?_
            refine lv_aload_n hx hb dX4_take_128 rfl (lv_at hl 0 rfl) ?_
            obtain ⟨hF129, hT129, ha129⟩ := ft_4_0 hn ha_a hT_a
            refine sg_getf (q := (a + 1)) hc hw ha_a hT_a fr_4_0 (by decide) k_121 dX4_take_129 hF129 ?_
            refine lv_aload_n hx hb dX4_take_132 rfl (lv_at hl 0 rfl) ?_
            obtain ⟨hF133, hT133, ha133, hN133⟩ := ft_4_2 hn ha_a hT_a
            refine sg_getf (q := (a + 12)) hc hw ha_a hT_a fr_4_2 (by decide) k_125 dX4_take_133 hF133 ?_
            refine lv_iconst (v := 0) hx hb dX4_take_136 (by decide) ?_
            refine sg_ild hc hw ha133 hT133 hN133 (show vp_in 0 3 by unfold vp_in; decide) dX4_take_137 ?_
            obtain ⟨p138, hp138, hf⟩ := cl_of hf
            refine sg_vi (rest := []) (c_X1_hasBearer hn ha129 hT129 hp138) hc hw hz hml hl ha129 hT129 (by decide) rfl cv_X4_65 ⟨⟨rfl, rfl⟩, Nat.le_trans (Nat.le_of_ble_eq_true rfl) hRf, Nat.le_trans (Nat.le_of_ble_eq_true rfl) hRl⟩ ⟨Nat.zero_le _, Nat.zero_le _⟩ rfl rfl (Nat.le_of_ble_eq_true rfl) dX4_take_138 (fun r h1 H locs hp hw => ?_)
            obtain ⟨⟨e1, e2⟩, hb138⟩ := hp; subst r; subst h1
            refine lv_if_eq (tgt := 176) hx hb dX4_take_141 (by decide) (fun c141 => ?_) (fun c141 => ?_)
            · have hf := if_of c141 hf
              refine lv_iconst (v := 0) hx hb dX4_take_176 (by decide) ?_
              cases hf
              exact sg_zret hc hw hz hn0 hr hlocks rfl ⟨⟨rfl, rfl⟩, rfl⟩ dX4_take_177
            · have hf := if_no c141 hf
              refine lv_aload_n hx hb dX4_take_144 rfl (lv_at hl 0 rfl) ?_
              obtain ⟨hF145, hT145, ha145⟩ := ft_4_1 hn ha_a hT_a
              refine sg_getf (q := (a + 8)) hc hw ha_a hT_a fr_4_1 (by decide) k_123 dX4_take_145 hF145 ?_
              refine lv_aload_n hx hb dX4_take_148 rfl (lv_at hl 0 rfl) ?_
              refine sg_getf (q := (a + 12)) hc hw ha_a hT_a fr_4_2 (by decide) k_125 dX4_take_149 (ft_4_2 hn ha_a hT_a).1 ?_
              refine lv_iconst (v := 0) hx hb dX4_take_152 (by decide) ?_
              refine sg_ild hc hw ha133 hT133 hN133 (show vp_in 0 3 by unfold vp_in; decide) dX4_take_153 ?_
              refine lv_aload_n hx hb dX4_take_154 rfl (lv_at hl 0 rfl) ?_
              refine sg_getf (q := (a + 12)) hc hw ha_a hT_a fr_4_2 (by decide) k_125 dX4_take_155 (ft_4_2 hn ha_a hT_a).1 ?_
              refine lv_iconst (v := 1) hx hb dX4_take_158 (by decide) ?_
              refine sg_ild hc hw ha133 hT133 hN133 (show vp_in 1 3 by unfold vp_in; decide) dX4_take_159 ?_
              refine lv_aload_n hx hb dX4_take_160 rfl (lv_at hl 0 rfl) ?_
              refine sg_getf (q := (a + 12)) hc hw ha_a hT_a fr_4_2 (by decide) k_125 dX4_take_161 (ft_4_2 hn ha_a hT_a).1 ?_
              refine lv_iconst (v := 2) hx hb dX4_take_164 (by decide) ?_
              refine sg_ild hc hw ha133 hT133 hN133 (show vp_in 2 3 by unfold vp_in; decide) dX4_take_165 ?_
              obtain ⟨p166, hp166, hf⟩ := cl_of hf
              refine sg_vi (rest := []) (c_X6_add hn ha145 hT145 hp166) hc hw hz hml hl ha145 hT145 (by decide) rfl cv_X4_68 ⟨⟨rfl, rfl⟩, Nat.le_trans (Nat.le_of_ble_eq_true rfl) hRf, Nat.le_trans (Nat.le_of_ble_eq_true rfl) hRl⟩ ⟨Nat.zero_le _, Nat.zero_le _⟩ rfl rfl (Nat.le_of_ble_eq_true rfl) dX4_take_166 (fun r h1 H locs hp hw => ?_)
              obtain ⟨⟨e1, e2⟩, hb166⟩ := hp; subst r; subst h1
              refine lv_if_eq (tgt := 176) hx hb dX4_take_169 (by decide) (fun c169 => ?_) (fun c169 => ?_)
              · have hf := if_of c169 hf
                refine lv_iconst (v := 0) hx hb dX4_take_176 (by decide) ?_
                cases hf
                exact sg_zret hc hw hz hn0 hr hlocks rfl ⟨⟨rfl, rfl⟩, rfl⟩ dX4_take_177
              · have hf := if_no c169 hf
                refine lv_iconst (v := 1) hx hb dX4_take_172 (by decide) ?_
                refine lv_goto (tgt := 177) hx hb dX4_take_173 (by decide) ?_
                cases hf
                exact sg_zret hc hw hz hn0 hr hlocks rfl ⟨⟨rfl, rfl⟩, rfl⟩ dX4_take_177
          · have hf := if_no hk1_116 hf
            by_cases hk1_120 : x1 = 120
            · have hf := if_of hk1_120 hf
              refine lv_lookup (off := 177) (tgt := 178) hx hb dX4_take_1 (by decide) (by rw [hk1_120]; decide) (by decide) ?_
              refine lv_aload_n hx hb dX4_take_178 rfl (lv_at hl 0 rfl) ?_
              obtain ⟨hF179, hT179, ha179⟩ := ft_4_0 hn ha_a hT_a
              refine sg_getf (q := (a + 1)) hc hw ha_a hT_a fr_4_0 (by decide) k_121 dX4_take_179 hF179 ?_
              refine lv_aload_n hx hb dX4_take_182 rfl (lv_at hl 0 rfl) ?_
              obtain ⟨hF183, hT183, ha183, hN183⟩ := ft_4_2 hn ha_a hT_a
              refine sg_getf (q := (a + 12)) hc hw ha_a hT_a fr_4_2 (by decide) k_125 dX4_take_183 hF183 ?_
              refine lv_iconst (v := 0) hx hb dX4_take_186 (by decide) ?_
              refine sg_ild hc hw ha183 hT183 hN183 (show vp_in 0 3 by unfold vp_in; decide) dX4_take_187 ?_
              refine lv_aload_n hx hb dX4_take_188 rfl (lv_at hl 0 rfl) ?_
              refine sg_getf (q := (a + 12)) hc hw ha_a hT_a fr_4_2 (by decide) k_125 dX4_take_189 (ft_4_2 hn ha_a hT_a).1 ?_
              refine lv_iconst (v := 1) hx hb dX4_take_192 (by decide) ?_
              refine sg_ild hc hw ha183 hT183 hN183 (show vp_in 1 3 by unfold vp_in; decide) dX4_take_193 ?_
              obtain ⟨p194, hp194, hf⟩ := cl_of hf
              refine sg_vi (rest := []) (c_X1_setPrice hn ha179 hT179 hp194) hc hw hz hml hl ha179 hT179 (by decide) rfl cv_X4_71 ⟨⟨rfl, rfl⟩, Nat.le_trans (Nat.le_of_ble_eq_true rfl) hRf, Nat.le_trans (Nat.le_of_ble_eq_true rfl) hRl⟩ ⟨Nat.zero_le _, Nat.zero_le _⟩ rfl rfl (Nat.le_of_ble_eq_true rfl) dX4_take_194 (fun r h1 H locs hp hw => ?_)
              obtain ⟨⟨e1, e2⟩, hb194⟩ := hp; subst r; subst h1
              cases hf
              exact sg_zret hc hw hz hn0 hr hlocks hb194 ⟨⟨rfl, rfl⟩, hb194⟩ dX4_take_197
            · have hf := if_no hk1_120 hf
              refine lv_lookup (off := 197) (tgt := 198) hx hb dX4_take_1 (by decide) (by simp [Op.lookupswitch.offset, Ne.symm (sg_ne hk1_98 (k := 98) (by decide)), Ne.symm (sg_ne hk1_109 (k := 109) (by decide)), Ne.symm (sg_ne hk1_114 (k := 114) (by decide)), Ne.symm (sg_ne hk1_115 (k := 115) (by decide)), Ne.symm (sg_ne hk1_116 (k := 116) (by decide)), Ne.symm (sg_ne hk1_120 (k := 120) (by decide))]) (by decide) ?_
              refine lv_iconst (v := 0) hx hb dX4_take_198 (by decide) ?_
              cases hf
              exact sg_zret hc hw hz hn0 hr hlocks rfl ⟨⟨rfl, rfl⟩, rfl⟩ dX4_take_199
theorem c_X4_take {l : Launch} {D : va_G} {cA : Nat → ClassId} {b n : Nat} (hn : sg_okN n) {a : Nat} {x1 : Int32} (ha_a : a < n) (hT_a : sg_T a = 4) {h : HP} {Rz : Int32 × HP} (hf : F_X4_take a x1 h = some Rz) : Met l yX4_take (Cond.code yX4_take cX4_take 2 (some .boolean) :: sg_tbl) ({ frames := 2, cells := 0, slots := 0, locals := 44 } : Room) (va_Pc [.ref (b + a), .int x1] (sg_Wd D b cA n h)) (va_Qi (fun r u => (r = Rz.1 ∧ u = Rz.2) ∧ narrow .boolean (.int r) = .int r) (sg_Wd D b cA n) (sg_A b)) 0 0 (sg_A b) := by
  refine Met.ofW (cc := cX4_take) (maxL := 2) (ret := (some .boolean)) (by decide) rfl ?_
  intro p e s m args below meth c s₁ B hml hv
  obtain ⟨rfl, hP, hK, hz, hY, hN⟩ := hv
  have hl := lv_entry [.ref (b + a), .int x1] (n := 2) (Nat.le_of_ble_eq_true rfl)
  rw [lg_entry_eq]
  exact w_X4_take hn ⟨B.exec, B.bytes, findClass_of_methodNamed B.named, fun w h => atoms_spec (ws := Cond.code yX4_take cX4_take 2 (some .boolean) :: sg_tbl) B.pre w (List.mem_cons_of_mem _ h), hK, hN⟩ hz B.returns B.notSynchronized hml (Nat.le_refl _) (Nat.le_refl _) ha_a hT_a hf _ _ _ ⟨hP, hY, va_S.rf⟩ hl
set_option maxHeartbeats 4000000 in
set_option maxRecDepth 100000 in
theorem w_X4_firstFault {p : Program} {l : Launch} {e : Env} {R : Room} {s : State} {m : MethodId} {args : Array Value} {below : List Frame} {meth : Method} {c : Code} {D : va_G} {cA : Nat → ClassId} {b n : Nat} (hn : sg_okN n) {a : Nat} {q1 : Nat} {x2 : Int32} {h : HP} {Rz : Int32 × HP} (hc : sg_Cx p s m args c cX4_firstFault RX4 D cA) (hz : s.heap.size = b + n) (hr : meth.sig.returnType = some .int) (hlocks : meth.locks = false) (hml : c.maxLocals = 6) (hRf : 3 ≤ R.frames) (hRl : 65 ≤ R.locals) (ha_a : a < n) (hT_a : sg_T a = 4) (ha_q1 : q1 < n) (hT_q1 : sg_T q1 = 10) (hf : F_X4_firstFault a q1 x2 h = some Rz) (H : Heap) (locs : List Loc) (ls : Array Slot) (hw : sg_Wo D b cA n s.heap h H locs) (hl : lv_has ls 6 [(0, .ref (b + a)), (1, .ref (b + q1)), (2, .int x2)]) : W p l e R s m args below meth c H locs 0 0 (sg_Qi below args s D b cA n (fun r u => r = Rz.1 ∧ u = Rz.2)) (F0 m 0 ls []) := by
  have hx := hc.1
  have hb := hc.2.1
  have hn0 : 0 < n := sg_pos hn
  have L17 : ∀ (k : Nat) (x : (Int32 × HP)), F_X4_firstFault_L17 a q1 x2 k x = some Rz → ∀ (H : Heap) (locs : List Loc) (ls : Array Slot), sg_Wo D b cA n s.heap x.2 H locs → lv_has ls 6 [(0, .ref (b + a)), (1, .ref (b + q1)), (2, .int x2), (3, .int x.1)] → W p l e R s m args below meth c H locs 0 0 (sg_Qi below args s D b cA n (fun r u => r = Rz.1 ∧ u = Rz.2)) (F0 m 17 ls []) := by
    unfold F_X4_firstFault_L17
    refine lp_walk ?_
    intro rc17 hrc17 x hf H locs ls hw hl
    obtain ⟨x3, h⟩ := x
    dsimp only at hf hw hl
    refine lv_iload_n hx hb dX4_firstFault_17 rfl (lv_at hl 3 rfl) ?_
    refine lv_iload_n hx hb dX4_firstFault_18 rfl (lv_at hl 2 rfl) ?_
    refine lv_icmp_ge (tgt := 66) hx hb dX4_firstFault_19 (by decide) (fun c19 => ?_) (fun c19 => ?_)
    · have hf := if_of c19 hf
      refine lv_bipush (v := (-4)) hx hb dX4_firstFault_66 (by decide) ?_
      cases hf
      exact sg_iret hc hw hz hn0 hr hlocks ⟨rfl, rfl⟩ dX4_firstFault_68
    · have hf := if_no c19 hf
      refine lv_aload_n hx hb dX4_firstFault_22 rfl (lv_at hl 1 rfl) ?_
      refine lv_iload_n hx hb dX4_firstFault_23 rfl (lv_at hl 3 rfl) ?_
      obtain ⟨hg24, hf⟩ := gd_of hf
      refine sg_cld hc hw ha_q1 hT_q1 rfl hg24 dX4_firstFault_24 ?_
      refine lv_topi (fun v25 e25 => ?_)
      have hf := nm_of e25 hf
      refine lv_istore (lv' := [(4, .int v25), (0, .ref (b + a)), (1, .ref (b + q1)), (2, .int x2), (3, .int x3)]) hx hb dX4_firstFault_25 hl (by decide) rfl (fun ls hl => ?_)
      refine lv_aload_n hx hb dX4_firstFault_27 rfl (lv_at hl 1 rfl) ?_
      refine lv_aload_n hx hb dX4_firstFault_28 rfl (lv_at hl 2 rfl) ?_
      refine lv_iload_n hx hb dX4_firstFault_29 rfl (lv_at hl 4 rfl) ?_
      refine lv_iconst (v := 1) hx hb dX4_firstFault_30 (by decide) ?_
      refine lv_iadd hx hb dX4_firstFault_31 ?_
      refine lv_iload_n hx hb dX4_firstFault_32 rfl (lv_at hl 3 rfl) ?_
      refine lv_iload hx hb dX4_firstFault_33 (lv_at hl 0 rfl) ?_
      obtain ⟨p35, hp35, hf⟩ := cl_of hf
      refine sg_si (rest := [.int x2, .int (x3 + 1), .ref (b + q1), .ref (b + a)]) (c_X4_numbersOf hn (h := h) hp35) hc hw hz hn0 hml hl cs_X4_36 ⟨⟨rfl, rfl⟩, Nat.le_trans (Nat.le_of_ble_eq_true rfl) hRf, Nat.le_trans (Nat.le_of_ble_eq_true rfl) hRl⟩ ⟨Nat.zero_le _, Nat.zero_le _⟩ rfl rfl (Nat.le_of_ble_eq_true rfl) dX4_firstFault_35 (fun r h1 H locs hp hw => ?_)
      obtain ⟨e1, e2⟩ := hp; subst r; subst h1
      obtain ⟨p38, hp38, hf⟩ := cl_of hf
      refine sg_vi (rest := []) (c_X4_readNumbers hn ha_a hT_a ha_q1 hT_q1 hp38) hc hw hz hml hl ha_a hT_a (by decide) rfl cv_X4_40 ⟨⟨rfl, rfl⟩, Nat.le_trans (Nat.le_of_ble_eq_true rfl) hRf, Nat.le_trans (Nat.le_of_ble_eq_true rfl) hRl⟩ ⟨Nat.zero_le _, Nat.zero_le _⟩ rfl rfl (Nat.le_of_ble_eq_true rfl) dX4_firstFault_38 (fun r h1 H locs hp hw => ?_)
      obtain ⟨e1, e2⟩ := hp; subst r; subst h1
      refine lv_istore (lv' := [(5, .int p38.1), (4, .int v25), (0, .ref (b + a)), (1, .ref (b + q1)), (2, .int x2), (3, .int x3)]) hx hb dX4_firstFault_41 hl (by decide) rfl (fun ls hl => ?_)
      refine lv_iload hx hb dX4_firstFault_43 (lv_at hl 0 rfl) ?_
      refine lv_iload_n hx hb dX4_firstFault_45 rfl (lv_at hl 5 rfl) ?_
      refine lv_icmp_le (tgt := 58) hx hb dX4_firstFault_46 (by decide) (fun c46 => ?_) (fun c46 => ?_)
      · have hf := if_of c46 hf
        refine lv_iload_n hx hb dX4_firstFault_58 rfl (lv_at hl 5 rfl) ?_
        cases hf
        exact sg_iret hc hw hz hn0 hr hlocks ⟨rfl, rfl⟩ dX4_firstFault_59
      · have hf := if_no c46 hf
        refine lv_aload_n hx hb dX4_firstFault_49 rfl (lv_at hl 2 rfl) ?_
        refine lv_iload hx hb dX4_firstFault_50 (lv_at hl 1 rfl) ?_
        obtain ⟨p52, hp52, hf⟩ := cl_of hf
        refine sg_vi (rest := []) (c_X4_take hn ha_a hT_a hp52) hc hw hz hml hl ha_a hT_a (by decide) rfl cv_X4_44 ⟨⟨rfl, rfl⟩, Nat.le_trans (Nat.le_of_ble_eq_true rfl) hRf, Nat.le_trans (Nat.le_of_ble_eq_true rfl) hRl⟩ ⟨Nat.zero_le _, Nat.zero_le _⟩ rfl rfl (Nat.le_of_ble_eq_true rfl) dX4_firstFault_52 (fun r h1 H locs hp hw => ?_)
        obtain ⟨⟨e1, e2⟩, hb52⟩ := hp; subst r; subst h1
        refine lv_if_ne (tgt := 60) hx hb dX4_firstFault_55 (by decide) (fun c55 => ?_) (fun c55 => ?_)
        · have hf := if_no c55 hf
          refine lv_iload hx hb dX4_firstFault_60 (lv_at hl 0 rfl) ?_
          refine lv_istore_n (lv' := [(3, .int p38.1), (5, .int p38.1), (4, .int v25), (0, .ref (b + a)), (1, .ref (b + q1)), (2, .int x2)]) hx hb dX4_firstFault_62 rfl hl (by decide) rfl (fun ls hl => ?_)
          refine lv_goto (tgt := 17) hx hb dX4_firstFault_63 (by decide) ?_
          exact hrc17 _ hf _ _ _ hw (lv_sub hl [3, 4, 5, 0] rfl)
        · have hf := if_of c55 hf
          refine lv_iload_n hx hb dX4_firstFault_58 rfl (lv_at hl 5 rfl) ?_
          cases hf
          exact sg_iret hc hw hz hn0 hr hlocks ⟨rfl, rfl⟩ dX4_firstFault_59
  unfold F_X4_firstFault at hf
  refine lv_aload_n hx hb dX4_firstFault_0 rfl (lv_at hl 0 rfl) ?_
  obtain ⟨hF1, hT1, ha1⟩ := ft_4_0 hn ha_a hT_a
  refine sg_getf (q := (a + 1)) hc hw ha_a hT_a fr_4_0 (by decide) k_121 dX4_firstFault_1 hF1 ?_
  obtain ⟨p4, hp4, hf⟩ := cl_of hf
  refine sg_vv (rest := []) (c_X1_clear hn ha1 hT1 hp4) hc hw hz hml hl ha1 hT1 (by decide) rfl cv_X4_29 ⟨⟨rfl, rfl⟩, Nat.le_trans (Nat.le_of_ble_eq_true rfl) hRf, Nat.le_trans (Nat.le_of_ble_eq_true rfl) hRl⟩ ⟨Nat.zero_le _, Nat.zero_le _⟩ rfl rfl (Nat.le_of_ble_eq_true rfl) dX4_firstFault_4 (fun h1 H locs hp hw => ?_)
  subst h1
  refine lv_aload_n hx hb dX4_firstFault_7 rfl (lv_at hl 0 rfl) ?_
  obtain ⟨hF8, hT8, ha8⟩ := ft_4_1 hn ha_a hT_a
  refine sg_getf (q := (a + 8)) hc hw ha_a hT_a fr_4_1 (by decide) k_123 dX4_firstFault_8 hF8 ?_
  refine lv_iconst (v := 0) hx hb dX4_firstFault_11 (by decide) ?_
  refine sg_puti hc hw ha8 hT8 fp_6_0 rfl rfl k_104 dX4_firstFault_12 (fun H locs hw => ?_)
  obtain ⟨h12, hw, hf⟩ := sg_name hw hf
  refine lv_iconst (v := 0) hx hb dX4_firstFault_15 (by decide) ?_
  refine lv_istore_n (lv' := [(3, .int 0), (0, .ref (b + a)), (1, .ref (b + q1)), (2, .int x2)]) hx hb dX4_firstFault_16 rfl hl (by decide) rfl (fun ls hl => ?_)
  exact L17 _ _ hf _ _ _ hw (lv_sub hl [1, 2, 3, 0] rfl)
theorem c_X4_firstFault {l : Launch} {D : va_G} {cA : Nat → ClassId} {b n : Nat} (hn : sg_okN n) {a : Nat} {q1 : Nat} {x2 : Int32} (ha_a : a < n) (hT_a : sg_T a = 4) (ha_q1 : q1 < n) (hT_q1 : sg_T q1 = 10) {h : HP} {Rz : Int32 × HP} (hf : F_X4_firstFault a q1 x2 h = some Rz) : Met l yX4_firstFault (Cond.code yX4_firstFault cX4_firstFault 6 (some .int) :: sg_tbl) ({ frames := 3, cells := 0, slots := 0, locals := 65 } : Room) (va_Pc [.ref (b + a), .ref (b + q1), .int x2] (sg_Wd D b cA n h)) (va_Qi (fun r u => r = Rz.1 ∧ u = Rz.2) (sg_Wd D b cA n) (sg_A b)) 0 0 (sg_A b) := by
  refine Met.ofW (cc := cX4_firstFault) (maxL := 6) (ret := (some .int)) (by decide) rfl ?_
  intro p e s m args below meth c s₁ B hml hv
  obtain ⟨rfl, hP, hK, hz, hY, hN⟩ := hv
  have hl := lv_entry [.ref (b + a), .ref (b + q1), .int x2] (n := 6) (Nat.le_of_ble_eq_true rfl)
  rw [lg_entry_eq]
  exact w_X4_firstFault hn ⟨B.exec, B.bytes, findClass_of_methodNamed B.named, fun w h => atoms_spec (ws := Cond.code yX4_firstFault cX4_firstFault 6 (some .int) :: sg_tbl) B.pre w (List.mem_cons_of_mem _ h), hK, hN⟩ hz B.returns B.notSynchronized hml (Nat.le_refl _) (Nat.le_refl _) ha_a hT_a ha_q1 hT_q1 hf _ _ _ ⟨hP, hY, va_S.rf⟩ hl
set_option maxHeartbeats 4000000 in
set_option maxRecDepth 100000 in
theorem w_X5_lookAhead {p : Program} {l : Launch} {e : Env} {R : Room} {s : State} {m : MethodId} {args : Array Value} {below : List Frame} {meth : Method} {c : Code} {D : va_G} {cA : Nat → ClassId} {b n : Nat} (hn : sg_okN n) {a : Nat} {h : HP} {Rz : HP} (hc : sg_Cx p s m args c cX5_lookAhead RX5 D cA) (hz : s.heap.size = b + n) (hr : meth.sig.returnType = none) (hlocks : meth.locks = false) (hml : c.maxLocals = 3) (hRf : 1 ≤ R.frames) (hRl : 21 ≤ R.locals) (ha_a : a < n) (hT_a : sg_T a = 5) (hf : F_X5_lookAhead a h = some Rz) (H : Heap) (locs : List Loc) (ls : Array Slot) (hw : sg_Wo D b cA n s.heap h H locs) (hl : lv_has ls 3 [(0, .ref (b + a))]) : W p l e R s m args below meth c H locs 0 0 (sg_Qv below args s D b cA n (fun u => u = Rz)) (F0 m 0 ls []) := by
  have hx := hc.1
  have hb := hc.2.1
  have hn0 : 0 < n := sg_pos hn
  have L29 : ∀ (k : Nat) (x : (Int32 × HP)), F_X5_lookAhead_L29 a k x = some Rz → ∀ (H : Heap) (locs : List Loc) (ls : Array Slot), sg_Wo D b cA n s.heap x.2 H locs → lv_has ls 3 [(0, .ref (b + a)), (1, .int x.1)] → W p l e R s m args below meth c H locs 0 0 (sg_Qv below args s D b cA n (fun u => u = Rz)) (F0 m 29 ls []) := by
    unfold F_X5_lookAhead_L29
    refine lp_walk ?_
    intro rc29 hrc29 x hf H locs ls hw hl
    obtain ⟨x1, h⟩ := x
    dsimp only at hf hw hl
    have J99 : ∀ (x1 : Int32) (h : HP) (H : Heap) (locs : List Loc) (ls : Array Slot), F_X5_lookAhead_J99 a rc29 x1 h = some Rz → sg_Wo D b cA n s.heap h H locs → lv_has ls 3 [(0, .ref (b + a)), (1, .int x1)] → W p l e R s m args below meth c H locs 0 0 (sg_Qv below args s D b cA n (fun u => u = Rz)) (F0 m 99 ls []) := by
      intro x1 h H locs ls hf hw hl
      unfold F_X5_lookAhead_J99 at hf
      refine lv_iinc (v := (x1 + (-1))) (lv' := [(1, .int (x1 + (-1))), (0, .ref (b + a))]) hx hb dX5_lookAhead_99 hl (k := 1) rfl rfl (by decide) rfl (fun ls hl => ?_)
      refine lv_goto (tgt := 29) hx hb dX5_lookAhead_102 (by decide) ?_
      exact hrc29 _ hf _ _ _ hw (lv_sub hl [1, 0] rfl)
    have J79 : ∀ (x1 : Int32) (x2 : Int32) (s0 : Int32) (s1 : Int32) (s2 : Int32) (ja0 : (a + 1) < n) (jT0 : sg_T (a + 1) = 11) (jN0 : sg_N (a + 1) = 121) (h : HP) (H : Heap) (locs : List Loc) (ls : Array Slot), F_X5_lookAhead_J79 a rc29 x1 x2 s0 s1 s2 h = some Rz → sg_Wo D b cA n s.heap h H locs → lv_has ls 3 [(0, .ref (b + a)), (1, .int x1), (2, .int x2)] → W p l e R s m args below meth c H locs 0 0 (sg_Qv below args s D b cA n (fun u => u = Rz)) (F0 m 79 ls [.int s0, .int s1, .int s2, .ref (b + (a + 1))]) := by
      intro x1 x2 s0 s1 s2 ja0 jT0 jN0 h H locs ls hf hw hl
      unfold F_X5_lookAhead_J79 at hf
      refine lv_iadd hx hb dX5_lookAhead_79 ?_
      obtain ⟨hg80, hf⟩ := gd_of hf
      refine sg_ist hc hw ja0 jT0 jN0 hg80 dX5_lookAhead_80 (fun H locs hw => ?_)
      obtain ⟨h80, hw, hf⟩ := sg_name hw hf
      refine lv_iload_n hx hb dX5_lookAhead_81 rfl (lv_at hl 2 rfl) ?_
      refine lv_if_eq (tgt := 99) hx hb dX5_lookAhead_82 (by decide) (fun c82 => ?_) (fun c82 => ?_)
      · have hf := if_of c82 hf
        exact J99 x1 _ _ _ _ hf hw (lv_sub hl [0, 1] rfl)
      · have hf := if_no c82 hf
        refine lv_aload_n hx hb dX5_lookAhead_85 rfl (lv_at hl 0 rfl) ?_
        refine sg_geti hc hw ha_a hT_a fi_5_4 k_220 dX5_lookAhead_86 ?_
        refine lv_bipush (v := (-4)) hx hb dX5_lookAhead_89 (by decide) ?_
        refine lv_icmp_ne (tgt := 99) hx hb dX5_lookAhead_91 (by decide) (fun c91 => ?_) (fun c91 => ?_)
        · have hf := if_no c91 hf
          exact J99 x1 _ _ _ _ hf hw (lv_sub hl [0, 1] rfl)
        · have hf := if_of c91 hf
          refine lv_aload_n hx hb dX5_lookAhead_94 rfl (lv_at hl 0 rfl) ?_
          refine lv_iload_n hx hb dX5_lookAhead_95 rfl (lv_at hl 1 rfl) ?_
          refine sg_puti hc hw ha_a hT_a fp_5_4 rfl rfl k_220 dX5_lookAhead_96 (fun H locs hw => ?_)
          obtain ⟨h96, hw, hf⟩ := sg_name hw hf
          exact J99 x1 _ _ _ _ hf hw (lv_sub hl [0, 1] rfl)
    refine lv_iload_n hx hb dX5_lookAhead_29 rfl (lv_at hl 1 rfl) ?_
    refine lv_if_lt (tgt := 105) hx hb dX5_lookAhead_30 (by decide) (fun c30 => ?_) (fun c30 => ?_)
    · have hf := if_of c30 hf
      cases hf
      exact sg_vret hc hw hz hn0 hr hlocks rfl dX5_lookAhead_105
    · have hf := if_no c30 hf
      refine lv_aload_n hx hb dX5_lookAhead_33 rfl (lv_at hl 0 rfl) ?_
      refine sg_geti hc hw ha_a hT_a fi_5_3 k_219 dX5_lookAhead_34 ?_
      refine lv_aload_n hx hb dX5_lookAhead_37 rfl (lv_at hl 0 rfl) ?_
      obtain ⟨hF38, hT38, ha38, hN38⟩ := ft_5_7 hn ha_a hT_a
      refine sg_getf (q := 79) hc hw ha_a hT_a fr_5_7 (by decide) k_223 dX5_lookAhead_38 hF38 ?_
      refine lv_iload_n hx hb dX5_lookAhead_41 rfl (lv_at hl 1 rfl) ?_
      obtain ⟨hg42, hf⟩ := gd_of hf
      refine sg_ild hc hw ha38 hT38 hN38 hg42 dX5_lookAhead_42 ?_
      obtain ⟨p43, hp43, hf⟩ := cl_of hf
      refine sg_ni (rest := []) (c_X8_isIn hn (h := h) hp43) hc hw hz hn0 hml hl cn_X5_66 ⟨⟨rfl, rfl⟩, Nat.le_trans (Nat.le_of_ble_eq_true rfl) hRf, Nat.le_trans (Nat.le_of_ble_eq_true rfl) hRl⟩ ⟨Nat.zero_le _, Nat.zero_le _⟩ rfl rfl (Nat.le_of_ble_eq_true rfl) dX5_lookAhead_43 (fun r h1 H locs hp hw => ?_)
      obtain ⟨⟨e1, e2⟩, hb43⟩ := hp; subst r; subst h1
      refine lv_istore_n (lv' := [(2, .int p43), (0, .ref (b + a)), (1, .int x1)]) hx hb dX5_lookAhead_46 rfl hl (by decide) rfl (fun ls hl => ?_)
      refine lv_aload_n hx hb dX5_lookAhead_47 rfl (lv_at hl 1 rfl) ?_
      obtain ⟨hF48, hT48, ha48, hN48⟩ := ft_5_11 hn ha_a hT_a
      refine sg_getf (q := (a + 1)) hc hw ha_a hT_a fr_5_11 (by decide) k_227 dX5_lookAhead_48 hF48 ?_
      refine lv_iload_n hx hb dX5_lookAhead_51 rfl (lv_at hl 2 rfl) ?_
      refine lv_aload_n hx hb dX5_lookAhead_52 rfl (lv_at hl 1 rfl) ?_
      refine sg_getf (q := (a + 1)) hc hw ha_a hT_a fr_5_11 (by decide) k_227 dX5_lookAhead_53 (ft_5_11 hn ha_a hT_a).1 ?_
      refine lv_iload_n hx hb dX5_lookAhead_56 rfl (lv_at hl 2 rfl) ?_
      refine lv_iconst (v := 1) hx hb dX5_lookAhead_57 (by decide) ?_
      refine lv_iadd hx hb dX5_lookAhead_58 ?_
      obtain ⟨hg59, hf⟩ := gd_of hf
      refine sg_ild hc hw ha48 hT48 hN48 hg59 dX5_lookAhead_59 ?_
      refine lv_iload_n hx hb dX5_lookAhead_60 rfl (lv_at hl 0 rfl) ?_
      refine lv_if_eq (tgt := 78) hx hb dX5_lookAhead_61 (by decide) (fun c61 => ?_) (fun c61 => ?_)
      · have hf := if_of c61 hf
        refine lv_iconst (v := 0) hx hb dX5_lookAhead_78 (by decide) ?_
        exact J79 x1 p43 0 (ld h (a + 1) (x1 + 1)) x1 ha48 hT48 hN48 _ _ _ _ hf hw (lv_sub hl [1, 2, 0] rfl)
      · have hf := if_no c61 hf
        refine lv_bipush (v := 60) hx hb dX5_lookAhead_64 (by decide) ?_
        refine lv_aload_n hx hb dX5_lookAhead_66 rfl (lv_at hl 1 rfl) ?_
        obtain ⟨hF67, hT67, ha67⟩ := ft_5_6 hn ha_a hT_a
        refine sg_getf (q := 15) hc hw ha_a hT_a fr_5_6 (by decide) k_222 dX5_lookAhead_67 hF67 ?_
        refine lv_iload_n hx hb dX5_lookAhead_70 rfl (lv_at hl 2 rfl) ?_
        obtain ⟨p71, hp71, hf⟩ := cl_of hf
        refine sg_vi (rest := [.int 60, .int (ld h (a + 1) (x1 + 1)), .int x1, .ref (b + (a + 1))]) (c_X1_priceAt hn ha67 hT67 hp71) hc hw hz hml hl ha67 hT67 (by decide) rfl cv_X5_81 ⟨⟨rfl, rfl⟩, Nat.le_trans (Nat.le_of_ble_eq_true rfl) hRf, Nat.le_trans (Nat.le_of_ble_eq_true rfl) hRl⟩ ⟨Nat.zero_le _, Nat.zero_le _⟩ rfl rfl (Nat.le_of_ble_eq_true rfl) dX5_lookAhead_71 (fun r h1 H locs hp hw => ?_)
        obtain ⟨e1, e2⟩ := hp; subst r; subst h1
        refine lv_imul hx hb dX5_lookAhead_74 ?_
        refine lv_goto (tgt := 79) hx hb dX5_lookAhead_75 (by decide) ?_
        exact J79 x1 p43 (60 * p71) (ld h (a + 1) (x1 + 1)) x1 ha48 hT48 hN48 _ _ _ _ hf hw (lv_sub hl [1, 2, 0] rfl)
  unfold F_X5_lookAhead at hf
  refine lv_aload_n hx hb dX5_lookAhead_0 rfl (lv_at hl 0 rfl) ?_
  refine lv_bipush (v := (-4)) hx hb dX5_lookAhead_1 (by decide) ?_
  refine sg_puti hc hw ha_a hT_a fp_5_4 rfl rfl k_220 dX5_lookAhead_3 (fun H locs hw => ?_)
  obtain ⟨h3, hw, hf⟩ := sg_name hw hf
  refine lv_aload_n hx hb dX5_lookAhead_6 rfl (lv_at hl 0 rfl) ?_
  obtain ⟨hF7, hT7, ha7, hN7⟩ := ft_5_11 hn ha_a hT_a
  refine sg_getf (q := (a + 1)) hc hw ha_a hT_a fr_5_11 (by decide) k_227 dX5_lookAhead_7 hF7 ?_
  refine lv_aload_n hx hb dX5_lookAhead_10 rfl (lv_at hl 0 rfl) ?_
  obtain ⟨hF11, hT11, ha11⟩ := ft_5_6 hn ha_a hT_a
  refine sg_getf (q := 15) hc hw ha_a hT_a fr_5_6 (by decide) k_222 dX5_lookAhead_11 hF11 ?_
  refine sg_geti hc hw ha11 hT11 fi_1_1 k_42 dX5_lookAhead_14 ?_
  refine lv_iconst (v := 0) hx hb dX5_lookAhead_17 (by decide) ?_
  obtain ⟨hg18, hf⟩ := gd_of hf
  refine sg_ist hc hw ha7 hT7 hN7 hg18 dX5_lookAhead_18 (fun H locs hw => ?_)
  obtain ⟨h18, hw, hf⟩ := sg_name hw hf
  refine lv_aload_n hx hb dX5_lookAhead_19 rfl (lv_at hl 0 rfl) ?_
  refine sg_getf (q := 15) hc hw ha_a hT_a fr_5_6 (by decide) k_222 dX5_lookAhead_20 (ft_5_6 hn ha_a hT_a).1 ?_
  refine sg_geti hc hw ha11 hT11 fi_1_1 k_42 dX5_lookAhead_23 ?_
  refine lv_iconst (v := 1) hx hb dX5_lookAhead_26 (by decide) ?_
  refine lv_isub hx hb dX5_lookAhead_27 ?_
  refine lv_topi (fun v28 e28 => ?_)
  have hf := nm_of e28 hf
  refine lv_istore_n (lv' := [(1, .int v28), (0, .ref (b + a))]) hx hb dX5_lookAhead_28 rfl hl (by decide) rfl (fun ls hl => ?_)
  exact L29 _ _ hf _ _ _ hw (lv_sub hl [1, 0] rfl)
theorem c_X5_lookAhead {l : Launch} {D : va_G} {cA : Nat → ClassId} {b n : Nat} (hn : sg_okN n) {a : Nat} (ha_a : a < n) (hT_a : sg_T a = 5) {h : HP} {Rz : HP} (hf : F_X5_lookAhead a h = some Rz) : Met l yX5_lookAhead (Cond.code yX5_lookAhead cX5_lookAhead 3 none :: sg_tbl) ({ frames := 1, cells := 0, slots := 0, locals := 21 } : Room) (va_Pc [.ref (b + a)] (sg_Wd D b cA n h)) (va_Qv (fun u => u = Rz) (sg_Wd D b cA n) (sg_A b)) 0 0 (sg_A b) := by
  refine Met.ofW (cc := cX5_lookAhead) (maxL := 3) (ret := none) (by decide) rfl ?_
  intro p e s m args below meth c s₁ B hml hv
  obtain ⟨rfl, hP, hK, hz, hY, hN⟩ := hv
  have hl := lv_entry [.ref (b + a)] (n := 3) (Nat.le_of_ble_eq_true rfl)
  rw [lg_entry_eq]
  exact w_X5_lookAhead hn ⟨B.exec, B.bytes, findClass_of_methodNamed B.named, fun w h => atoms_spec (ws := Cond.code yX5_lookAhead cX5_lookAhead 3 none :: sg_tbl) B.pre w (List.mem_cons_of_mem _ h), hK, hN⟩ hz B.returns B.notSynchronized hml (Nat.le_refl _) (Nat.le_refl _) ha_a hT_a hf _ _ _ ⟨hP, hY, va_S.rf⟩ hl
set_option maxHeartbeats 4000000 in
set_option maxRecDepth 100000 in
theorem w_X7_hasStumbled {p : Program} {l : Launch} {e : Env} {R : Room} {s : State} {m : MethodId} {args : Array Value} {below : List Frame} {meth : Method} {c : Code} {D : va_G} {cA : Nat → ClassId} {b n : Nat} (hn : sg_okN n) {a : Nat} {x1 : Int32} {h : HP} {Rz : Int32} (hc : sg_Cx p s m args c cX7_hasStumbled RX7 D cA) (hz : s.heap.size = b + n) (hr : meth.sig.returnType = some .boolean) (hlocks : meth.locks = false) (hml : c.maxLocals = 2) (hRf : 1 ≤ R.frames) (hRl : 21 ≤ R.locals) (ha_a : a < n) (hT_a : sg_T a = 7) (hf : F_X7_hasStumbled a x1 h = some Rz) (H : Heap) (locs : List Loc) (ls : Array Slot) (hw : sg_Wo D b cA n s.heap h H locs) (hl : lv_has ls 2 [(0, .ref (b + a)), (1, .int x1)]) : W p l e R s m args below meth c H locs 0 0 (sg_Qi below args s D b cA n (fun r u => (r = Rz ∧ u = h) ∧ narrow .boolean (.int r) = .int r)) (F0 m 0 ls []) := by
  have hx := hc.1
  have hb := hc.2.1
  have hn0 : 0 < n := sg_pos hn
  unfold F_X7_hasStumbled at hf
  refine lv_iload_n hx hb dX7_hasStumbled_0 rfl (lv_at hl 1 rfl) ?_
  refine lv_aload_n hx hb dX7_hasStumbled_1 rfl (lv_at hl 0 rfl) ?_
  refine sg_geti hc hw ha_a hT_a fi_7_4 k_168 dX7_hasStumbled_2 ?_
  obtain ⟨p5, hp5, hf⟩ := cl_of hf
  refine sg_ni (rest := []) (c_X8_isIn hn (h := h) hp5) hc hw hz hn0 hml hl cn_X7_103 ⟨⟨rfl, rfl⟩, Nat.le_trans (Nat.le_of_ble_eq_true rfl) hRf, Nat.le_trans (Nat.le_of_ble_eq_true rfl) hRl⟩ ⟨Nat.zero_le _, Nat.zero_le _⟩ rfl rfl (Nat.le_of_ble_eq_true rfl) dX7_hasStumbled_5 (fun r h1 H locs hp hw => ?_)
  obtain ⟨⟨e1, e2⟩, hb5⟩ := hp; subst r; subst h1
  cases hf
  exact sg_zret hc hw hz hn0 hr hlocks hb5 ⟨⟨rfl, rfl⟩, hb5⟩ dX7_hasStumbled_8
theorem c_X7_hasStumbled {l : Launch} {D : va_G} {cA : Nat → ClassId} {b n : Nat} (hn : sg_okN n) {a : Nat} {x1 : Int32} (ha_a : a < n) (hT_a : sg_T a = 7) {h : HP} {Rz : Int32} (hf : F_X7_hasStumbled a x1 h = some Rz) : Met l yX7_hasStumbled (Cond.code yX7_hasStumbled cX7_hasStumbled 2 (some .boolean) :: sg_tbl) ({ frames := 1, cells := 0, slots := 0, locals := 21 } : Room) (va_Pc [.ref (b + a), .int x1] (sg_Wd D b cA n h)) (va_Qi (fun r u => (r = Rz ∧ u = h) ∧ narrow .boolean (.int r) = .int r) (sg_Wd D b cA n) (sg_A b)) 0 0 (sg_A b) := by
  refine Met.ofW (cc := cX7_hasStumbled) (maxL := 2) (ret := (some .boolean)) (by decide) rfl ?_
  intro p e s m args below meth c s₁ B hml hv
  obtain ⟨rfl, hP, hK, hz, hY, hN⟩ := hv
  have hl := lv_entry [.ref (b + a), .int x1] (n := 2) (Nat.le_of_ble_eq_true rfl)
  rw [lg_entry_eq]
  exact w_X7_hasStumbled hn ⟨B.exec, B.bytes, findClass_of_methodNamed B.named, fun w h => atoms_spec (ws := Cond.code yX7_hasStumbled cX7_hasStumbled 2 (some .boolean) :: sg_tbl) B.pre w (List.mem_cons_of_mem _ h), hK, hN⟩ hz B.returns B.notSynchronized hml (Nat.le_refl _) (Nat.le_refl _) ha_a hT_a hf _ _ _ ⟨hP, hY, va_S.rf⟩ hl
set_option maxHeartbeats 4000000 in
set_option maxRecDepth 100000 in
theorem w_X5_isOpen {p : Program} {l : Launch} {e : Env} {R : Room} {s : State} {m : MethodId} {args : Array Value} {below : List Frame} {meth : Method} {c : Code} {D : va_G} {cA : Nat → ClassId} {b n : Nat} (hn : sg_okN n) {a : Nat} {q1 : Nat} {h : HP} {Rz : Int32} (hc : sg_Cx p s m args c cX5_isOpen RX5 D cA) (hz : s.heap.size = b + n) (hr : meth.sig.returnType = some .boolean) (hlocks : meth.locks = false) (hml : c.maxLocals = 2) (hRf : 2 ≤ R.frames) (hRl : 42 ≤ R.locals) (ha_a : a < n) (hT_a : sg_T a = 5) (ha_q1 : q1 < n) (hT_q1 : sg_T q1 = 7) (hf : F_X5_isOpen a q1 h = some Rz) (H : Heap) (locs : List Loc) (ls : Array Slot) (hw : sg_Wo D b cA n s.heap h H locs) (hl : lv_has ls 2 [(0, .ref (b + a)), (1, .ref (b + q1))]) : W p l e R s m args below meth c H locs 0 0 (sg_Qi below args s D b cA n (fun r u => (r = Rz ∧ u = h) ∧ narrow .boolean (.int r) = .int r)) (F0 m 0 ls []) := by
  have hx := hc.1
  have hb := hc.2.1
  have hn0 : 0 < n := sg_pos hn
  unfold F_X5_isOpen at hf
  refine lv_aload_n hx hb dX5_isOpen_0 rfl (lv_at hl 1 rfl) ?_
  refine sg_geti hc hw ha_q1 hT_q1 fi_7_3 k_166 dX5_isOpen_1 ?_
  refine lv_bipush (v := (-4)) hx hb dX5_isOpen_4 (by decide) ?_
  refine lv_icmp_ne (tgt := 24) hx hb dX5_isOpen_6 (by decide) (fun c6 => ?_) (fun c6 => ?_)
  · have hf := if_no c6 hf
    refine lv_iconst (v := 0) hx hb dX5_isOpen_24 (by decide) ?_
    cases hf
    exact sg_zret hc hw hz hn0 hr hlocks rfl ⟨⟨rfl, rfl⟩, rfl⟩ dX5_isOpen_25
  · have hf := if_of c6 hf
    refine lv_aload_n hx hb dX5_isOpen_9 rfl (lv_at hl 1 rfl) ?_
    refine lv_aload_n hx hb dX5_isOpen_10 rfl (lv_at hl 0 rfl) ?_
    refine sg_geti hc hw ha_a hT_a fi_5_3 k_219 dX5_isOpen_11 ?_
    obtain ⟨p14, hp14, hf⟩ := cl_of hf
    refine sg_vi (rest := []) (c_X7_hasStumbled hn ha_q1 hT_q1 hp14) hc hw hz hml hl ha_q1 hT_q1 (by decide) rfl cv_X5_88 ⟨⟨rfl, rfl⟩, Nat.le_trans (Nat.le_of_ble_eq_true rfl) hRf, Nat.le_trans (Nat.le_of_ble_eq_true rfl) hRl⟩ ⟨Nat.zero_le _, Nat.zero_le _⟩ rfl rfl (Nat.le_of_ble_eq_true rfl) dX5_isOpen_14 (fun r h1 H locs hp hw => ?_)
    obtain ⟨⟨e1, e2⟩, hb14⟩ := hp; subst r; subst h1
    refine lv_if_ne (tgt := 24) hx hb dX5_isOpen_17 (by decide) (fun c17 => ?_) (fun c17 => ?_)
    · have hf := if_no c17 hf
      refine lv_iconst (v := 0) hx hb dX5_isOpen_24 (by decide) ?_
      cases hf
      exact sg_zret hc hw hz hn0 hr hlocks rfl ⟨⟨rfl, rfl⟩, rfl⟩ dX5_isOpen_25
    · have hf := if_of c17 hf
      refine lv_iconst (v := 1) hx hb dX5_isOpen_20 (by decide) ?_
      refine lv_goto (tgt := 25) hx hb dX5_isOpen_21 (by decide) ?_
      cases hf
      exact sg_zret hc hw hz hn0 hr hlocks rfl ⟨⟨rfl, rfl⟩, rfl⟩ dX5_isOpen_25
theorem c_X5_isOpen {l : Launch} {D : va_G} {cA : Nat → ClassId} {b n : Nat} (hn : sg_okN n) {a : Nat} {q1 : Nat} (ha_a : a < n) (hT_a : sg_T a = 5) (ha_q1 : q1 < n) (hT_q1 : sg_T q1 = 7) {h : HP} {Rz : Int32} (hf : F_X5_isOpen a q1 h = some Rz) : Met l yX5_isOpen (Cond.code yX5_isOpen cX5_isOpen 2 (some .boolean) :: sg_tbl) ({ frames := 2, cells := 0, slots := 0, locals := 42 } : Room) (va_Pc [.ref (b + a), .ref (b + q1)] (sg_Wd D b cA n h)) (va_Qi (fun r u => (r = Rz ∧ u = h) ∧ narrow .boolean (.int r) = .int r) (sg_Wd D b cA n) (sg_A b)) 0 0 (sg_A b) := by
  refine Met.ofW (cc := cX5_isOpen) (maxL := 2) (ret := (some .boolean)) (by decide) rfl ?_
  intro p e s m args below meth c s₁ B hml hv
  obtain ⟨rfl, hP, hK, hz, hY, hN⟩ := hv
  have hl := lv_entry [.ref (b + a), .ref (b + q1)] (n := 2) (Nat.le_of_ble_eq_true rfl)
  rw [lg_entry_eq]
  exact w_X5_isOpen hn ⟨B.exec, B.bytes, findClass_of_methodNamed B.named, fun w h => atoms_spec (ws := Cond.code yX5_isOpen cX5_isOpen 2 (some .boolean) :: sg_tbl) B.pre w (List.mem_cons_of_mem _ h), hK, hN⟩ hz B.returns B.notSynchronized hml (Nat.le_refl _) (Nat.le_refl _) ha_a hT_a ha_q1 hT_q1 hf _ _ _ ⟨hP, hY, va_S.rf⟩ hl
set_option maxHeartbeats 4000000 in
set_option maxRecDepth 100000 in
theorem w_X7_follow {p : Program} {l : Launch} {e : Env} {R : Room} {s : State} {m : MethodId} {args : Array Value} {below : List Frame} {meth : Method} {c : Code} {D : va_G} {cA : Nat → ClassId} {b n : Nat} (hn : sg_okN n) {a : Nat} {q1 : Nat} {h : HP} {Rz : HP} (hc : sg_Cx p s m args c cX7_follow RX7 D cA) (hz : s.heap.size = b + n) (hr : meth.sig.returnType = none) (hlocks : meth.locks = false) (hml : c.maxLocals = 2) (hRf : 1 ≤ R.frames) (hRl : 100 ≤ R.locals) (ha_a : a < n) (hT_a : sg_T a = 7) (ha_q1 : q1 < n) (hT_q1 : sg_T q1 = 7) (hf : F_X7_follow a q1 h = some Rz) (H : Heap) (locs : List Loc) (ls : Array Slot) (hw : sg_Wo D b cA n s.heap h H locs) (hl : lv_has ls 2 [(0, .ref (b + a)), (1, .ref (b + q1))]) : W p l e R s m args below meth c H locs 0 0 (sg_Qv below args s D b cA n (fun u => u = Rz)) (F0 m 0 ls []) := by
  have hx := hc.1
  have hb := hc.2.1
  have hn0 : 0 < n := sg_pos hn
  unfold F_X7_follow at hf
  refine lv_aload_n hx hb dX7_follow_0 rfl (lv_at hl 0 rfl) ?_
  refine lv_aload_n hx hb dX7_follow_1 rfl (lv_at hl 1 rfl) ?_
  obtain ⟨hg2, hf⟩ := gn_of hf
  obtain ⟨ha2, hT2⟩ := (hw.2.1 _ ha_q1).2.1 hT_q1 hg2
  obtain ⟨q2, hq2, ha2, hT2, hf⟩ := sg_nq hg2 ha2 hT2 hf
  refine sg_getr hc hw ha_q1 hT_q1 fr_7_0 k_160 dX7_follow_2 hq2 ?_
  refine sg_putr hc hw ha_a hT_a ha2 hT2 k_160 sg_in7 dX7_follow_5 (fun H locs hw => ?_)
  obtain ⟨h5, hw, hf⟩ := sg_name hw hf
  refine lv_aload_n hx hb dX7_follow_8 rfl (lv_at hl 0 rfl) ?_
  refine lv_aload_n hx hb dX7_follow_9 rfl (lv_at hl 1 rfl) ?_
  refine sg_geti hc hw ha_q1 hT_q1 fi_7_1 k_161 dX7_follow_10 ?_
  refine sg_puti hc hw ha_a hT_a fp_7_1 rfl rfl k_161 dX7_follow_13 (fun H locs hw => ?_)
  obtain ⟨h13, hw, hf⟩ := sg_name hw hf
  refine lv_aload_n hx hb dX7_follow_16 rfl (lv_at hl 0 rfl) ?_
  refine lv_aload_n hx hb dX7_follow_17 rfl (lv_at hl 1 rfl) ?_
  refine sg_geti hc hw ha_q1 hT_q1 fi_7_2 k_163 dX7_follow_18 ?_
  refine sg_puti hc hw ha_a hT_a fp_7_2 rfl rfl k_163 dX7_follow_21 (fun H locs hw => ?_)
  obtain ⟨h21, hw, hf⟩ := sg_name hw hf
  refine lv_aload_n hx hb dX7_follow_24 rfl (lv_at hl 0 rfl) ?_
  refine lv_aload_n hx hb dX7_follow_25 rfl (lv_at hl 1 rfl) ?_
  refine sg_geti hc hw ha_q1 hT_q1 fi_7_3 k_165 dX7_follow_26 ?_
  refine sg_puti hc hw ha_a hT_a fp_7_3 rfl rfl k_165 dX7_follow_29 (fun H locs hw => ?_)
  obtain ⟨h29, hw, hf⟩ := sg_name hw hf
  refine lv_aload_n hx hb dX7_follow_32 rfl (lv_at hl 0 rfl) ?_
  refine lv_aload_n hx hb dX7_follow_33 rfl (lv_at hl 1 rfl) ?_
  refine sg_geti hc hw ha_q1 hT_q1 fi_7_4 k_168 dX7_follow_34 ?_
  refine sg_puti hc hw ha_a hT_a fp_7_4 rfl rfl k_168 dX7_follow_37 (fun H locs hw => ?_)
  obtain ⟨h37, hw, hf⟩ := sg_name hw hf
  refine lv_aload_n hx hb dX7_follow_40 rfl (lv_at hl 0 rfl) ?_
  refine lv_aload_n hx hb dX7_follow_41 rfl (lv_at hl 1 rfl) ?_
  refine sg_geti hc hw ha_q1 hT_q1 fi_7_5 k_169 dX7_follow_42 ?_
  refine sg_puti hc hw ha_a hT_a fp_7_5 rfl rfl k_169 dX7_follow_45 (fun H locs hw => ?_)
  obtain ⟨h45, hw, hf⟩ := sg_name hw hf
  refine lv_aload_n hx hb dX7_follow_48 rfl (lv_at hl 1 rfl) ?_
  obtain ⟨hF49, hT49, ha49, hN49⟩ := ft_7_6 hn ha_q1 hT_q1
  refine sg_getf (q := (q1 + 1)) hc hw ha_q1 hT_q1 fr_7_6 (by decide) k_170 dX7_follow_49 hF49 ?_
  refine lv_iconst (v := 0) hx hb dX7_follow_52 (by decide) ?_
  refine lv_aload_n hx hb dX7_follow_53 rfl (lv_at hl 0 rfl) ?_
  obtain ⟨hF54, hT54, ha54, hN54⟩ := ft_7_6 hn ha_a hT_a
  refine sg_getf (q := (a + 1)) hc hw ha_a hT_a fr_7_6 (by decide) k_170 dX7_follow_54 hF54 ?_
  refine lv_iconst (v := 0) hx hb dX7_follow_57 (by decide) ?_
  refine lv_bipush (v := 6) hx hb dX7_follow_58 (by decide) ?_
  refine sg_copy hc hw hml hl k_698 k_442 k_441 k_15 ha49 hT49 hN49 ha54 hT54 hN54 (by decide) (by decide) (by decide) (by decide) (by decide) (Nat.le_trans (by decide) hRf) (Nat.le_trans (by decide) hRl) dX7_follow_60 (fun H locs hw => ?_)
  obtain ⟨h60, hw, hf⟩ := sg_name hw hf
  refine lv_aload_n hx hb dX7_follow_63 rfl (lv_at hl 1 rfl) ?_
  obtain ⟨hF64, hT64, ha64, hN64⟩ := ft_7_7 hn ha_q1 hT_q1
  refine sg_getf (q := (q1 + 2)) hc hw ha_q1 hT_q1 fr_7_7 (by decide) k_172 dX7_follow_64 hF64 ?_
  refine lv_iconst (v := 0) hx hb dX7_follow_67 (by decide) ?_
  refine lv_aload_n hx hb dX7_follow_68 rfl (lv_at hl 0 rfl) ?_
  obtain ⟨hF69, hT69, ha69, hN69⟩ := ft_7_7 hn ha_a hT_a
  refine sg_getf (q := (a + 2)) hc hw ha_a hT_a fr_7_7 (by decide) k_172 dX7_follow_69 hF69 ?_
  refine lv_iconst (v := 0) hx hb dX7_follow_72 (by decide) ?_
  refine lv_bipush (v := 6) hx hb dX7_follow_73 (by decide) ?_
  refine sg_copy hc hw hml hl k_698 k_442 k_441 k_15 ha64 hT64 hN64 ha69 hT69 hN69 (by decide) (by decide) (by decide) (by decide) (by decide) (Nat.le_trans (by decide) hRf) (Nat.le_trans (by decide) hRl) dX7_follow_75 (fun H locs hw => ?_)
  obtain ⟨h75, hw, hf⟩ := sg_name hw hf
  refine lv_aload_n hx hb dX7_follow_78 rfl (lv_at hl 1 rfl) ?_
  obtain ⟨hF79, hT79, ha79, hN79⟩ := ft_7_8 hn ha_q1 hT_q1
  refine sg_getf (q := (q1 + 3)) hc hw ha_q1 hT_q1 fr_7_8 (by decide) k_174 dX7_follow_79 hF79 ?_
  refine lv_iconst (v := 0) hx hb dX7_follow_82 (by decide) ?_
  refine lv_aload_n hx hb dX7_follow_83 rfl (lv_at hl 0 rfl) ?_
  obtain ⟨hF84, hT84, ha84, hN84⟩ := ft_7_8 hn ha_a hT_a
  refine sg_getf (q := (a + 3)) hc hw ha_a hT_a fr_7_8 (by decide) k_174 dX7_follow_84 hF84 ?_
  refine lv_iconst (v := 0) hx hb dX7_follow_87 (by decide) ?_
  refine lv_bipush (v := 6) hx hb dX7_follow_88 (by decide) ?_
  refine sg_copy hc hw hml hl k_698 k_442 k_441 k_15 ha79 hT79 hN79 ha84 hT84 hN84 (by decide) (by decide) (by decide) (by decide) (by decide) (Nat.le_trans (by decide) hRf) (Nat.le_trans (by decide) hRl) dX7_follow_90 (fun H locs hw => ?_)
  obtain ⟨h90, hw, hf⟩ := sg_name hw hf
  refine lv_aload_n hx hb dX7_follow_93 rfl (lv_at hl 1 rfl) ?_
  obtain ⟨hF94, hT94, ha94, hN94⟩ := ft_7_9 hn ha_q1 hT_q1
  refine sg_getf (q := (q1 + 4)) hc hw ha_q1 hT_q1 fr_7_9 (by decide) k_176 dX7_follow_94 hF94 ?_
  refine lv_iconst (v := 0) hx hb dX7_follow_97 (by decide) ?_
  refine lv_aload_n hx hb dX7_follow_98 rfl (lv_at hl 0 rfl) ?_
  obtain ⟨hF99, hT99, ha99, hN99⟩ := ft_7_9 hn ha_a hT_a
  refine sg_getf (q := (a + 4)) hc hw ha_a hT_a fr_7_9 (by decide) k_176 dX7_follow_99 hF99 ?_
  refine lv_iconst (v := 0) hx hb dX7_follow_102 (by decide) ?_
  refine lv_bipush (v := 6) hx hb dX7_follow_103 (by decide) ?_
  refine sg_copy hc hw hml hl k_698 k_442 k_441 k_15 ha94 hT94 hN94 ha99 hT99 hN99 (by decide) (by decide) (by decide) (by decide) (by decide) (Nat.le_trans (by decide) hRf) (Nat.le_trans (by decide) hRl) dX7_follow_105 (fun H locs hw => ?_)
  obtain ⟨h105, hw, hf⟩ := sg_name hw hf
  cases hf
  exact sg_vret hc hw hz hn0 hr hlocks rfl dX7_follow_108
theorem c_X7_follow {l : Launch} {D : va_G} {cA : Nat → ClassId} {b n : Nat} (hn : sg_okN n) {a : Nat} {q1 : Nat} (ha_a : a < n) (hT_a : sg_T a = 7) (ha_q1 : q1 < n) (hT_q1 : sg_T q1 = 7) {h : HP} {Rz : HP} (hf : F_X7_follow a q1 h = some Rz) : Met l yX7_follow (Cond.code yX7_follow cX7_follow 2 none :: sg_tbl) ({ frames := 1, cells := 0, slots := 0, locals := 100 } : Room) (va_Pc [.ref (b + a), .ref (b + q1)] (sg_Wd D b cA n h)) (va_Qv (fun u => u = Rz) (sg_Wd D b cA n) (sg_A b)) 0 0 (sg_A b) := by
  refine Met.ofW (cc := cX7_follow) (maxL := 2) (ret := none) (by decide) rfl ?_
  intro p e s m args below meth c s₁ B hml hv
  obtain ⟨rfl, hP, hK, hz, hY, hN⟩ := hv
  have hl := lv_entry [.ref (b + a), .ref (b + q1)] (n := 2) (Nat.le_of_ble_eq_true rfl)
  rw [lg_entry_eq]
  exact w_X7_follow hn ⟨B.exec, B.bytes, findClass_of_methodNamed B.named, fun w h => atoms_spec (ws := Cond.code yX7_follow cX7_follow 2 none :: sg_tbl) B.pre w (List.mem_cons_of_mem _ h), hK, hN⟩ hz B.returns B.notSynchronized hml (Nat.le_refl _) (Nat.le_refl _) ha_a hT_a ha_q1 hT_q1 hf _ _ _ ⟨hP, hY, va_S.rf⟩ hl
set_option maxHeartbeats 4000000 in
set_option maxRecDepth 100000 in
theorem w_X7_acres {p : Program} {l : Launch} {e : Env} {R : Room} {s : State} {m : MethodId} {args : Array Value} {below : List Frame} {meth : Method} {c : Code} {D : va_G} {cA : Nat → ClassId} {b n : Nat} (hn : sg_okN n) {a : Nat} {x1 : Int32} {h : HP} {Rz : Int32} (hc : sg_Cx p s m args c cX7_acres RX7 D cA) (hz : s.heap.size = b + n) (hr : meth.sig.returnType = some .int) (hlocks : meth.locks = false) (hml : c.maxLocals = 2) (hRf : 2 ≤ R.frames) (hRl : 42 ≤ R.locals) (ha_a : a < n) (hT_a : sg_T a = 7) (hf : F_X7_acres a x1 h = some Rz) (H : Heap) (locs : List Loc) (ls : Array Slot) (hw : sg_Wo D b cA n s.heap h H locs) (hl : lv_has ls 2 [(0, .ref (b + a)), (1, .int x1)]) : W p l e R s m args below meth c H locs 0 0 (sg_Qi below args s D b cA n (fun r u => r = Rz ∧ u = h)) (F0 m 0 ls []) := by
  have hx := hc.1
  have hb := hc.2.1
  have hn0 : 0 < n := sg_pos hn
  unfold F_X7_acres at hf
  refine lv_aload_n hx hb dX7_acres_0 rfl (lv_at hl 0 rfl) ?_
  obtain ⟨hg1, hf⟩ := gn_of hf
  obtain ⟨ha1, hT1⟩ := (hw.2.1 _ ha_a).2.1 hT_a hg1
  obtain ⟨q1, hq1, ha1, hT1, hf⟩ := sg_nq hg1 ha1 hT1 hf
  refine sg_getr hc hw ha_a hT_a fr_7_0 k_160 dX7_acres_1 hq1 ?_
  obtain ⟨hF4, hT4, ha4, hN4⟩ := ft_1_9 hn ha1 hT1
  refine sg_getf (q := (q1 + 5)) hc hw ha1 hT1 fr_1_9 (by decide) k_68 dX7_acres_4 hF4 ?_
  refine lv_iload_n hx hb dX7_acres_7 rfl (lv_at hl 1 rfl) ?_
  obtain ⟨hg8, hf⟩ := gd_of hf
  refine sg_ild hc hw ha4 hT4 hN4 hg8 dX7_acres_8 ?_
  refine lv_iconst (v := 2) hx hb dX7_acres_9 (by decide) ?_
  refine lv_icmp_eq (tgt := 21) hx hb dX7_acres_10 (by decide) (fun c10 => ?_) (fun c10 => ?_)
  · have hf := if_of c10 hf
    refine lv_iconst (v := 0) hx hb dX7_acres_21 (by decide) ?_
    refine lv_goto (tgt := 31) hx hb dX7_acres_22 (by decide) ?_
    cases hf
    exact sg_iret hc hw hz hn0 hr hlocks ⟨rfl, rfl⟩ dX7_acres_31
  · have hf := if_no c10 hf
    refine lv_aload_n hx hb dX7_acres_13 rfl (lv_at hl 0 rfl) ?_
    refine lv_iload_n hx hb dX7_acres_14 rfl (lv_at hl 1 rfl) ?_
    obtain ⟨p15, hp15, hf⟩ := cl_of hf
    refine sg_vi (rest := []) (c_X7_hasStumbled hn ha_a hT_a hp15) hc hw hz hml hl ha_a hT_a (by decide) rfl cv_X7_122 ⟨⟨rfl, rfl⟩, Nat.le_trans (Nat.le_of_ble_eq_true rfl) hRf, Nat.le_trans (Nat.le_of_ble_eq_true rfl) hRl⟩ ⟨Nat.zero_le _, Nat.zero_le _⟩ rfl rfl (Nat.le_of_ble_eq_true rfl) dX7_acres_15 (fun r h1 H locs hp hw => ?_)
    obtain ⟨⟨e1, e2⟩, hb15⟩ := hp; subst r; subst h1
    refine lv_if_eq (tgt := 25) hx hb dX7_acres_18 (by decide) (fun c18 => ?_) (fun c18 => ?_)
    · have hf := if_of c18 hf
      refine lv_aload_n hx hb dX7_acres_25 rfl (lv_at hl 0 rfl) ?_
      obtain ⟨hF26, hT26, ha26, hN26⟩ := ft_7_9 hn ha_a hT_a
      refine sg_getf (q := (a + 4)) hc hw ha_a hT_a fr_7_9 (by decide) k_176 dX7_acres_26 hF26 ?_
      refine lv_iload_n hx hb dX7_acres_29 rfl (lv_at hl 1 rfl) ?_
      obtain ⟨hg30, hf⟩ := gd_of hf
      refine sg_ild hc hw ha26 hT26 hN26 hg30 dX7_acres_30 ?_
      cases hf
      exact sg_iret hc hw hz hn0 hr hlocks ⟨rfl, rfl⟩ dX7_acres_31
    · have hf := if_no c18 hf
      refine lv_iconst (v := 0) hx hb dX7_acres_21 (by decide) ?_
      refine lv_goto (tgt := 31) hx hb dX7_acres_22 (by decide) ?_
      cases hf
      exact sg_iret hc hw hz hn0 hr hlocks ⟨rfl, rfl⟩ dX7_acres_31
theorem c_X7_acres {l : Launch} {D : va_G} {cA : Nat → ClassId} {b n : Nat} (hn : sg_okN n) {a : Nat} {x1 : Int32} (ha_a : a < n) (hT_a : sg_T a = 7) {h : HP} {Rz : Int32} (hf : F_X7_acres a x1 h = some Rz) : Met l yX7_acres (Cond.code yX7_acres cX7_acres 2 (some .int) :: sg_tbl) ({ frames := 2, cells := 0, slots := 0, locals := 42 } : Room) (va_Pc [.ref (b + a), .int x1] (sg_Wd D b cA n h)) (va_Qi (fun r u => r = Rz ∧ u = h) (sg_Wd D b cA n) (sg_A b)) 0 0 (sg_A b) := by
  refine Met.ofW (cc := cX7_acres) (maxL := 2) (ret := (some .int)) (by decide) rfl ?_
  intro p e s m args below meth c s₁ B hml hv
  obtain ⟨rfl, hP, hK, hz, hY, hN⟩ := hv
  have hl := lv_entry [.ref (b + a), .int x1] (n := 2) (Nat.le_of_ble_eq_true rfl)
  rw [lg_entry_eq]
  exact w_X7_acres hn ⟨B.exec, B.bytes, findClass_of_methodNamed B.named, fun w h => atoms_spec (ws := Cond.code yX7_acres cX7_acres 2 (some .int) :: sg_tbl) B.pre w (List.mem_cons_of_mem _ h), hK, hN⟩ hz B.returns B.notSynchronized hml (Nat.le_refl _) (Nat.le_refl _) ha_a hT_a hf _ _ _ ⟨hP, hY, va_S.rf⟩ hl
set_option maxHeartbeats 4000000 in
set_option maxRecDepth 100000 in
theorem w_X5_weigh {p : Program} {l : Launch} {e : Env} {R : Room} {s : State} {m : MethodId} {args : Array Value} {below : List Frame} {meth : Method} {c : Code} {D : va_G} {cA : Nat → ClassId} {b n : Nat} (hn : sg_okN n) {a : Nat} {x1 : Int32} {x2 : Int32} {h : HP} {Rz : HP} (hc : sg_Cx p s m args c cX5_weigh RX5 D cA) (hz : s.heap.size = b + n) (hr : meth.sig.returnType = none) (hlocks : meth.locks = false) (hml : c.maxLocals = 4) (hRf : 3 ≤ R.frames) (hRl : 121 ≤ R.locals) (ha_a : a < n) (hT_a : sg_T a = 5) (hf : F_X5_weigh a x1 x2 h = some Rz) (H : Heap) (locs : List Loc) (ls : Array Slot) (hw : sg_Wo D b cA n s.heap h H locs) (hl : lv_has ls 4 [(0, .ref (b + a)), (1, .int x1), (2, .int x2)]) : W p l e R s m args below meth c H locs 0 0 (sg_Qv below args s D b cA n (fun u => u = Rz)) (F0 m 0 ls []) := by
  have hx := hc.1
  have hb := hc.2.1
  have hn0 : 0 < n := sg_pos hn
  have J83 : ∀ (h : HP) (H : Heap) (locs : List Loc) (ls : Array Slot), F_X5_weigh_J83 a x1 x2 h = some Rz → sg_Wo D b cA n s.heap h H locs → lv_has ls 4 [(0, .ref (b + a)), (1, .int x1), (2, .int x2)] → W p l e R s m args below meth c H locs 0 0 (sg_Qv below args s D b cA n (fun u => u = Rz)) (F0 m 83 ls []) := by
    intro h H locs ls hf hw hl
    unfold F_X5_weigh_J83 at hf
    refine lv_aload_n hx hb dX5_weigh_83 rfl (lv_at hl 0 rfl) ?_
    obtain ⟨hF84, hT84, ha84⟩ := ft_5_10 hn ha_a hT_a
    refine sg_getf (q := (a + 16)) hc hw ha_a hT_a fr_5_10 (by decide) k_226 dX5_weigh_84 hF84 ?_
    refine lv_aload_n hx hb dX5_weigh_87 rfl (lv_at hl 0 rfl) ?_
    refine sg_geti hc hw ha_a hT_a fi_5_3 k_219 dX5_weigh_88 ?_
    obtain ⟨p91, hp91, hf⟩ := cl_of hf
    refine sg_vi (rest := []) (c_X7_acres hn ha84 hT84 hp91) hc hw hz hml hl ha84 hT84 (by decide) rfl cv_X5_100 ⟨⟨rfl, rfl⟩, Nat.le_trans (Nat.le_of_ble_eq_true rfl) hRf, Nat.le_trans (Nat.le_of_ble_eq_true rfl) hRl⟩ ⟨Nat.zero_le _, Nat.zero_le _⟩ rfl rfl (Nat.le_of_ble_eq_true rfl) dX5_weigh_91 (fun r h1 H locs hp hw => ?_)
    obtain ⟨e1, e2⟩ := hp; subst r; subst h1
    refine lv_aload_n hx hb dX5_weigh_94 rfl (lv_at hl 0 rfl) ?_
    refine sg_geti hc hw ha_a hT_a fi_5_0 k_213 dX5_weigh_95 ?_
    refine lv_icmp_le (tgt := 131) hx hb dX5_weigh_98 (by decide) (fun c98 => ?_) (fun c98 => ?_)
    · have hf := if_of c98 hf
      cases hf
      exact sg_vret hc hw hz hn0 hr hlocks rfl dX5_weigh_131
    · have hf := if_no c98 hf
      refine lv_aload_n hx hb dX5_weigh_101 rfl (lv_at hl 0 rfl) ?_
      refine lv_aload_n hx hb dX5_weigh_102 rfl (lv_at hl 0 rfl) ?_
      refine sg_getf (q := (a + 16)) hc hw ha_a hT_a fr_5_10 (by decide) k_226 dX5_weigh_103 (ft_5_10 hn ha_a hT_a).1 ?_
      refine lv_aload_n hx hb dX5_weigh_106 rfl (lv_at hl 0 rfl) ?_
      refine sg_geti hc hw ha_a hT_a fi_5_3 k_219 dX5_weigh_107 ?_
      obtain ⟨p110, hp110, hf⟩ := cl_of hf
      refine sg_vi (rest := [.ref (b + a)]) (c_X7_acres hn ha84 hT84 hp110) hc hw hz hml hl ha84 hT84 (by decide) rfl cv_X5_100 ⟨⟨rfl, rfl⟩, Nat.le_trans (Nat.le_of_ble_eq_true rfl) hRf, Nat.le_trans (Nat.le_of_ble_eq_true rfl) hRl⟩ ⟨Nat.zero_le _, Nat.zero_le _⟩ rfl rfl (Nat.le_of_ble_eq_true rfl) dX5_weigh_110 (fun r h1 H locs hp hw => ?_)
      obtain ⟨e1, e2⟩ := hp; subst r; subst h1
      refine sg_puti hc hw ha_a hT_a fp_5_0 rfl rfl k_213 dX5_weigh_113 (fun H locs hw => ?_)
      obtain ⟨h113, hw, hf⟩ := sg_name hw hf
      refine lv_aload_n hx hb dX5_weigh_116 rfl (lv_at hl 0 rfl) ?_
      refine lv_iload_n hx hb dX5_weigh_117 rfl (lv_at hl 1 rfl) ?_
      refine sg_puti hc hw ha_a hT_a fp_5_1 rfl rfl k_215 dX5_weigh_118 (fun H locs hw => ?_)
      obtain ⟨h118, hw, hf⟩ := sg_name hw hf
      refine lv_aload_n hx hb dX5_weigh_121 rfl (lv_at hl 0 rfl) ?_
      refine lv_iload_n hx hb dX5_weigh_122 rfl (lv_at hl 2 rfl) ?_
      refine sg_puti hc hw ha_a hT_a fp_5_2 rfl rfl k_217 dX5_weigh_123 (fun H locs hw => ?_)
      obtain ⟨h123, hw, hf⟩ := sg_name hw hf
      refine lv_aload_n hx hb dX5_weigh_126 rfl (lv_at hl 0 rfl) ?_
      refine lv_iconst (v := 1) hx hb dX5_weigh_127 (by decide) ?_
      refine sg_puti hc hw ha_a hT_a fp_5_5 rfl rfl k_221 dX5_weigh_128 (fun H locs hw => ?_)
      obtain ⟨h128, hw, hf⟩ := sg_name hw hf
      cases hf
      exact sg_vret hc hw hz hn0 hr hlocks rfl dX5_weigh_131
  have L43 : ∀ (k : Nat) (x : (Int32 × HP)), F_X5_weigh_L43 a x1 x2 k x = some Rz → ∀ (H : Heap) (locs : List Loc) (ls : Array Slot), sg_Wo D b cA n s.heap x.2 H locs → lv_has ls 4 [(0, .ref (b + a)), (1, .int x1), (2, .int x2), (3, .int x.1)] → W p l e R s m args below meth c H locs 0 0 (sg_Qv below args s D b cA n (fun u => u = Rz)) (F0 m 43 ls []) := by
    unfold F_X5_weigh_L43
    refine lp_walk ?_
    intro rc43 hrc43 x hf H locs ls hw hl
    obtain ⟨x3, h⟩ := x
    dsimp only at hf hw hl
    refine lv_iload_n hx hb dX5_weigh_43 rfl (lv_at hl 3 rfl) ?_
    refine lv_aload_n hx hb dX5_weigh_44 rfl (lv_at hl 0 rfl) ?_
    refine sg_geti hc hw ha_a hT_a fi_5_4 k_220 dX5_weigh_45 ?_
    refine lv_icmp_gt (tgt := 83) hx hb dX5_weigh_48 (by decide) (fun c48 => ?_) (fun c48 => ?_)
    · have hf := if_of c48 hf
      exact J83 _ _ _ _ hf hw (lv_sub hl [0, 1, 2] rfl)
    · have hf := if_no c48 hf
      refine lv_aload_n hx hb dX5_weigh_51 rfl (lv_at hl 0 rfl) ?_
      refine lv_aload_n hx hb dX5_weigh_52 rfl (lv_at hl 0 rfl) ?_
      obtain ⟨hF53, hT53, ha53⟩ := ft_5_10 hn ha_a hT_a
      refine sg_getf (q := (a + 16)) hc hw ha_a hT_a fr_5_10 (by decide) k_226 dX5_weigh_53 hF53 ?_
      obtain ⟨p56, hp56, hf⟩ := cl_of hf
      refine sg_vi (rest := []) (c_X5_isOpen hn ha_a hT_a ha53 hT53 hp56) hc hw hz hml hl ha_a hT_a (by decide) rfl cv_X5_62 ⟨⟨rfl, rfl⟩, Nat.le_trans (Nat.le_of_ble_eq_true rfl) hRf, Nat.le_trans (Nat.le_of_ble_eq_true rfl) hRl⟩ ⟨Nat.zero_le _, Nat.zero_le _⟩ rfl rfl (Nat.le_of_ble_eq_true rfl) dX5_weigh_56 (fun r h1 H locs hp hw => ?_)
      obtain ⟨⟨e1, e2⟩, hb56⟩ := hp; subst r; subst h1
      refine lv_if_eq (tgt := 83) hx hb dX5_weigh_59 (by decide) (fun c59 => ?_) (fun c59 => ?_)
      · have hf := if_of c59 hf
        exact J83 _ _ _ _ hf hw (lv_sub hl [0, 1, 2] rfl)
      · have hf := if_no c59 hf
        refine lv_aload_n hx hb dX5_weigh_62 rfl (lv_at hl 0 rfl) ?_
        refine sg_getf (q := (a + 16)) hc hw ha_a hT_a fr_5_10 (by decide) k_226 dX5_weigh_63 (ft_5_10 hn ha_a hT_a).1 ?_
        refine lv_iload_n hx hb dX5_weigh_66 rfl (lv_at hl 3 rfl) ?_
        refine lv_aload_n hx hb dX5_weigh_67 rfl (lv_at hl 0 rfl) ?_
        obtain ⟨hF68, hT68, ha68, hN68⟩ := ft_5_7 hn ha_a hT_a
        refine sg_getf (q := 79) hc hw ha_a hT_a fr_5_7 (by decide) k_223 dX5_weigh_68 hF68 ?_
        refine lv_iload_n hx hb dX5_weigh_71 rfl (lv_at hl 3 rfl) ?_
        obtain ⟨hg72, hf⟩ := gd_of hf
        refine sg_ild hc hw ha68 hT68 hN68 hg72 dX5_weigh_72 ?_
        obtain ⟨p73, hp73, hf⟩ := cl_of hf
        refine sg_vi (rest := []) (c_X7_step hn ha53 hT53 hp73) hc hw hz hml hl ha53 hT53 (by decide) rfl cv_X5_74 ⟨⟨rfl, rfl⟩, Nat.le_trans (Nat.le_of_ble_eq_true rfl) hRf, Nat.le_trans (Nat.le_of_ble_eq_true rfl) hRl⟩ ⟨Nat.zero_le _, Nat.zero_le _⟩ rfl rfl (Nat.le_of_ble_eq_true rfl) dX5_weigh_73 (fun r h1 H locs hp hw => ?_)
        obtain ⟨e1, e2⟩ := hp; subst r; subst h1
        refine lv_pop hx hb dX5_weigh_76 rfl ?_
        refine lv_iinc (v := (x3 + 1)) (lv' := [(3, .int (x3 + 1)), (0, .ref (b + a)), (1, .int x1), (2, .int x2)]) hx hb dX5_weigh_77 hl (k := 3) rfl rfl (by decide) rfl (fun ls hl => ?_)
        refine lv_goto (tgt := 43) hx hb dX5_weigh_80 (by decide) ?_
        exact hrc43 _ hf _ _ _ hw (lv_sub hl [1, 2, 3, 0] rfl)
  unfold F_X5_weigh at hf
  refine lv_aload_n hx hb dX5_weigh_0 rfl (lv_at hl 0 rfl) ?_
  obtain ⟨hF1, hT1, ha1⟩ := ft_5_9 hn ha_a hT_a
  refine sg_getf (q := (a + 9)) hc hw ha_a hT_a fr_5_9 (by decide) k_225 dX5_weigh_1 hF1 ?_
  refine lv_aload_n hx hb dX5_weigh_4 rfl (lv_at hl 0 rfl) ?_
  refine sg_geti hc hw ha_a hT_a fi_5_3 k_219 dX5_weigh_5 ?_
  obtain ⟨p8, hp8, hf⟩ := cl_of hf
  refine sg_vi (rest := []) (c_X7_acres hn ha1 hT1 hp8) hc hw hz hml hl ha1 hT1 (by decide) rfl cv_X5_100 ⟨⟨rfl, rfl⟩, Nat.le_trans (Nat.le_of_ble_eq_true rfl) hRf, Nat.le_trans (Nat.le_of_ble_eq_true rfl) hRl⟩ ⟨Nat.zero_le _, Nat.zero_le _⟩ rfl rfl (Nat.le_of_ble_eq_true rfl) dX5_weigh_8 (fun r h1 H locs hp hw => ?_)
  obtain ⟨e1, e2⟩ := hp; subst r; subst h1
  refine lv_aload_n hx hb dX5_weigh_11 rfl (lv_at hl 0 rfl) ?_
  obtain ⟨hF12, hT12, ha12, hN12⟩ := ft_5_11 hn ha_a hT_a
  refine sg_getf (q := (a + 1)) hc hw ha_a hT_a fr_5_11 (by decide) k_227 dX5_weigh_12 hF12 ?_
  refine lv_iload_n hx hb dX5_weigh_15 rfl (lv_at hl 2 rfl) ?_
  refine lv_iconst (v := 1) hx hb dX5_weigh_16 (by decide) ?_
  refine lv_iadd hx hb dX5_weigh_17 ?_
  obtain ⟨hg18, hf⟩ := gd_of hf
  refine sg_ild hc hw ha12 hT12 hN12 hg18 dX5_weigh_18 ?_
  refine lv_iadd hx hb dX5_weigh_19 ?_
  refine lv_aload_n hx hb dX5_weigh_20 rfl (lv_at hl 0 rfl) ?_
  refine sg_geti hc hw ha_a hT_a fi_5_0 k_213 dX5_weigh_21 ?_
  refine lv_icmp_gt (tgt := 28) hx hb dX5_weigh_24 (by decide) (fun c24 => ?_) (fun c24 => ?_)
  · have hf := if_of c24 hf
    refine lv_aload_n hx hb dX5_weigh_28 rfl (lv_at hl 0 rfl) ?_
    obtain ⟨hF29, hT29, ha29⟩ := ft_5_10 hn ha_a hT_a
    refine sg_getf (q := (a + 16)) hc hw ha_a hT_a fr_5_10 (by decide) k_226 dX5_weigh_29 hF29 ?_
    refine lv_aload_n hx hb dX5_weigh_32 rfl (lv_at hl 0 rfl) ?_
    refine sg_getf (q := (a + 9)) hc hw ha_a hT_a fr_5_9 (by decide) k_225 dX5_weigh_33 (ft_5_9 hn ha_a hT_a).1 ?_
    obtain ⟨p36, hp36, hf⟩ := cl_of hf
    refine sg_vv (rest := []) (c_X7_follow hn ha29 hT29 ha1 hT1 hp36) hc hw hz hml hl ha29 hT29 (by decide) rfl cv_X5_92 ⟨⟨rfl, rfl⟩, Nat.le_trans (Nat.le_of_ble_eq_true rfl) hRf, Nat.le_trans (Nat.le_of_ble_eq_true rfl) hRl⟩ ⟨Nat.zero_le _, Nat.zero_le _⟩ rfl rfl (Nat.le_of_ble_eq_true rfl) dX5_weigh_36 (fun h1 H locs hp hw => ?_)
    subst h1
    refine lv_iload_n hx hb dX5_weigh_39 rfl (lv_at hl 2 rfl) ?_
    refine lv_iconst (v := 1) hx hb dX5_weigh_40 (by decide) ?_
    refine lv_iadd hx hb dX5_weigh_41 ?_
    refine lv_topi (fun v42 e42 => ?_)
    have hf := nm_of e42 hf
    refine lv_istore_n (lv' := [(3, .int v42), (0, .ref (b + a)), (1, .int x1), (2, .int x2)]) hx hb dX5_weigh_42 rfl hl (by decide) rfl (fun ls hl => ?_)
    exact L43 _ _ hf _ _ _ hw (lv_sub hl [1, 2, 3, 0] rfl)
  · have hf := if_no c24 hf
    cases hf
    exact sg_vret hc hw hz hn0 hr hlocks rfl dX5_weigh_27
theorem c_X5_weigh {l : Launch} {D : va_G} {cA : Nat → ClassId} {b n : Nat} (hn : sg_okN n) {a : Nat} {x1 : Int32} {x2 : Int32} (ha_a : a < n) (hT_a : sg_T a = 5) {h : HP} {Rz : HP} (hf : F_X5_weigh a x1 x2 h = some Rz) : Met l yX5_weigh (Cond.code yX5_weigh cX5_weigh 4 none :: sg_tbl) ({ frames := 3, cells := 0, slots := 0, locals := 121 } : Room) (va_Pc [.ref (b + a), .int x1, .int x2] (sg_Wd D b cA n h)) (va_Qv (fun u => u = Rz) (sg_Wd D b cA n) (sg_A b)) 0 0 (sg_A b) := by
  refine Met.ofW (cc := cX5_weigh) (maxL := 4) (ret := none) (by decide) rfl ?_
  intro p e s m args below meth c s₁ B hml hv
  obtain ⟨rfl, hP, hK, hz, hY, hN⟩ := hv
  have hl := lv_entry [.ref (b + a), .int x1, .int x2] (n := 4) (Nat.le_of_ble_eq_true rfl)
  rw [lg_entry_eq]
  exact w_X5_weigh hn ⟨B.exec, B.bytes, findClass_of_methodNamed B.named, fun w h => atoms_spec (ws := Cond.code yX5_weigh cX5_weigh 4 none :: sg_tbl) B.pre w (List.mem_cons_of_mem _ h), hK, hN⟩ hz B.returns B.notSynchronized hml (Nat.le_refl _) (Nat.le_refl _) ha_a hT_a hf _ _ _ ⟨hP, hY, va_S.rf⟩ hl
set_option maxHeartbeats 4000000 in
set_option maxRecDepth 100000 in
theorem w_X5_seekFrom {p : Program} {l : Launch} {e : Env} {R : Room} {s : State} {m : MethodId} {args : Array Value} {below : List Frame} {meth : Method} {c : Code} {D : va_G} {cA : Nat → ClassId} {b n : Nat} (hn : sg_okN n) {a : Nat} {x1 : Int32} {h : HP} {Rz : HP} (hc : sg_Cx p s m args c cX5_seekFrom RX5 D cA) (hz : s.heap.size = b + n) (hr : meth.sig.returnType = none) (hlocks : meth.locks = false) (hml : c.maxLocals = 3) (hRf : 4 ≤ R.frames) (hRl : 144 ≤ R.locals) (ha_a : a < n) (hT_a : sg_T a = 5) (hf : F_X5_seekFrom a x1 h = some Rz) (H : Heap) (locs : List Loc) (ls : Array Slot) (hw : sg_Wo D b cA n s.heap h H locs) (hl : lv_has ls 3 [(0, .ref (b + a)), (1, .int x1)]) : W p l e R s m args below meth c H locs 0 0 (sg_Qv below args s D b cA n (fun u => u = Rz)) (F0 m 0 ls []) := by
  have hx := hc.1
  have hb := hc.2.1
  have hn0 : 0 < n := sg_pos hn
  have L13 : ∀ (k : Nat) (x : (Int32 × HP)), F_X5_seekFrom_L13 a x1 k x = some Rz → ∀ (H : Heap) (locs : List Loc) (ls : Array Slot), sg_Wo D b cA n s.heap x.2 H locs → lv_has ls 3 [(0, .ref (b + a)), (1, .int x1), (2, .int x.1)] → W p l e R s m args below meth c H locs 0 0 (sg_Qv below args s D b cA n (fun u => u = Rz)) (F0 m 13 ls []) := by
    unfold F_X5_seekFrom_L13
    refine lp_walk ?_
    intro rc13 hrc13 x hf H locs ls hw hl
    obtain ⟨x2, h⟩ := x
    dsimp only at hf hw hl
    have J79 : ∀ (x2 : Int32) (h : HP) (H : Heap) (locs : List Loc) (ls : Array Slot), F_X5_seekFrom_J79 a rc13 x1 x2 h = some Rz → sg_Wo D b cA n s.heap h H locs → lv_has ls 3 [(0, .ref (b + a)), (1, .int x1), (2, .int x2)] → W p l e R s m args below meth c H locs 0 0 (sg_Qv below args s D b cA n (fun u => u = Rz)) (F0 m 79 ls []) := by
      intro x2 h H locs ls hf hw hl
      unfold F_X5_seekFrom_J79 at hf
      refine lv_iinc (v := (x2 + 1)) (lv' := [(2, .int (x2 + 1)), (0, .ref (b + a)), (1, .int x1)]) hx hb dX5_seekFrom_79 hl (k := 2) rfl rfl (by decide) rfl (fun ls hl => ?_)
      refine lv_goto (tgt := 13) hx hb dX5_seekFrom_82 (by decide) ?_
      exact hrc13 _ hf _ _ _ hw (lv_sub hl [1, 2, 0] rfl)
    refine lv_iload_n hx hb dX5_seekFrom_13 rfl (lv_at hl 2 rfl) ?_
    refine lv_aload_n hx hb dX5_seekFrom_14 rfl (lv_at hl 0 rfl) ?_
    obtain ⟨hF15, hT15, ha15⟩ := ft_5_6 hn ha_a hT_a
    refine sg_getf (q := 15) hc hw ha_a hT_a fr_5_6 (by decide) k_222 dX5_seekFrom_15 hF15 ?_
    refine sg_geti hc hw ha15 hT15 fi_1_1 k_42 dX5_seekFrom_18 ?_
    refine lv_icmp_ge (tgt := 85) hx hb dX5_seekFrom_21 (by decide) (fun c21 => ?_) (fun c21 => ?_)
    · have hf := if_of c21 hf
      cases hf
      exact sg_vret hc hw hz hn0 hr hlocks rfl dX5_seekFrom_85
    · have hf := if_no c21 hf
      refine lv_aload_n hx hb dX5_seekFrom_24 rfl (lv_at hl 0 rfl) ?_
      refine lv_aload_n hx hb dX5_seekFrom_25 rfl (lv_at hl 0 rfl) ?_
      obtain ⟨hF26, hT26, ha26⟩ := ft_5_9 hn ha_a hT_a
      refine sg_getf (q := (a + 9)) hc hw ha_a hT_a fr_5_9 (by decide) k_225 dX5_seekFrom_26 hF26 ?_
      obtain ⟨p29, hp29, hf⟩ := cl_of hf
      refine sg_vi (rest := []) (c_X5_isOpen hn ha_a hT_a ha26 hT26 hp29) hc hw hz hml hl ha_a hT_a (by decide) rfl cv_X5_62 ⟨⟨rfl, rfl⟩, Nat.le_trans (Nat.le_of_ble_eq_true rfl) hRf, Nat.le_trans (Nat.le_of_ble_eq_true rfl) hRl⟩ ⟨Nat.zero_le _, Nat.zero_le _⟩ rfl rfl (Nat.le_of_ble_eq_true rfl) dX5_seekFrom_29 (fun r h1 H locs hp hw => ?_)
      obtain ⟨⟨e1, e2⟩, hb29⟩ := hp; subst r; subst h1
      refine lv_if_eq (tgt := 85) hx hb dX5_seekFrom_32 (by decide) (fun c32 => ?_) (fun c32 => ?_)
      · have hf := if_of c32 hf
        cases hf
        exact sg_vret hc hw hz hn0 hr hlocks rfl dX5_seekFrom_85
      · have hf := if_no c32 hf
        refine lv_aload_n hx hb dX5_seekFrom_35 rfl (lv_at hl 0 rfl) ?_
        refine sg_getf (q := (a + 9)) hc hw ha_a hT_a fr_5_9 (by decide) k_225 dX5_seekFrom_36 (ft_5_9 hn ha_a hT_a).1 ?_
        refine lv_iload_n hx hb dX5_seekFrom_39 rfl (lv_at hl 2 rfl) ?_
        refine lv_aload_n hx hb dX5_seekFrom_40 rfl (lv_at hl 0 rfl) ?_
        obtain ⟨hF41, hT41, ha41, hN41⟩ := ft_5_7 hn ha_a hT_a
        refine sg_getf (q := 79) hc hw ha_a hT_a fr_5_7 (by decide) k_223 dX5_seekFrom_41 hF41 ?_
        refine lv_iload_n hx hb dX5_seekFrom_44 rfl (lv_at hl 2 rfl) ?_
        obtain ⟨hg45, hf⟩ := gd_of hf
        refine sg_ild hc hw ha41 hT41 hN41 hg45 dX5_seekFrom_45 ?_
        refine lv_iconst (v := 1) hx hb dX5_seekFrom_46 (by decide) ?_
        refine lv_aload_n hx hb dX5_seekFrom_47 rfl (lv_at hl 0 rfl) ?_
        refine sg_geti hc hw ha_a hT_a fi_5_3 k_219 dX5_seekFrom_48 ?_
        refine lv_ishl hx hb dX5_seekFrom_51 ?_
        refine lv_ior hx hb dX5_seekFrom_52 ?_
        obtain ⟨p53, hp53, hf⟩ := cl_of hf
        refine sg_vi (rest := []) (c_X7_step hn ha26 hT26 hp53) hc hw hz hml hl ha26 hT26 (by decide) rfl cv_X5_74 ⟨⟨rfl, rfl⟩, Nat.le_trans (Nat.le_of_ble_eq_true rfl) hRf, Nat.le_trans (Nat.le_of_ble_eq_true rfl) hRl⟩ ⟨Nat.zero_le _, Nat.zero_le _⟩ rfl rfl (Nat.le_of_ble_eq_true rfl) dX5_seekFrom_53 (fun r h1 H locs hp hw => ?_)
        obtain ⟨e1, e2⟩ := hp; subst r; subst h1
        refine lv_pop hx hb dX5_seekFrom_56 rfl ?_
        refine lv_aload_n hx hb dX5_seekFrom_57 rfl (lv_at hl 0 rfl) ?_
        refine sg_geti hc hw ha_a hT_a fi_5_3 k_219 dX5_seekFrom_58 ?_
        refine lv_aload_n hx hb dX5_seekFrom_61 rfl (lv_at hl 0 rfl) ?_
        refine sg_getf (q := 79) hc hw ha_a hT_a fr_5_7 (by decide) k_223 dX5_seekFrom_62 (ft_5_7 hn ha_a hT_a).1 ?_
        refine lv_iload_n hx hb dX5_seekFrom_65 rfl (lv_at hl 2 rfl) ?_
        obtain ⟨hg66, hf⟩ := gd_of hf
        refine sg_ild hc hw ha41 hT41 hN41 hg66 dX5_seekFrom_66 ?_
        obtain ⟨p67, hp67, hf⟩ := cl_of hf
        refine sg_ni (rest := []) (c_X8_isIn hn (h := p53.2) hp67) hc hw hz hn0 hml hl cn_X5_66 ⟨⟨rfl, rfl⟩, Nat.le_trans (Nat.le_of_ble_eq_true rfl) hRf, Nat.le_trans (Nat.le_of_ble_eq_true rfl) hRl⟩ ⟨Nat.zero_le _, Nat.zero_le _⟩ rfl rfl (Nat.le_of_ble_eq_true rfl) dX5_seekFrom_67 (fun r h1 H locs hp hw => ?_)
        obtain ⟨⟨e1, e2⟩, hb67⟩ := hp; subst r; subst h1
        refine lv_if_ne (tgt := 79) hx hb dX5_seekFrom_70 (by decide) (fun c70 => ?_) (fun c70 => ?_)
        · have hf := if_no c70 hf
          exact J79 x2 _ _ _ _ hf hw (lv_sub hl [0, 1, 2] rfl)
        · have hf := if_of c70 hf
          refine lv_aload_n hx hb dX5_seekFrom_73 rfl (lv_at hl 0 rfl) ?_
          refine lv_iload_n hx hb dX5_seekFrom_74 rfl (lv_at hl 1 rfl) ?_
          refine lv_iload_n hx hb dX5_seekFrom_75 rfl (lv_at hl 2 rfl) ?_
          obtain ⟨p76, hp76, hf⟩ := cl_of hf
          refine sg_vv (rest := []) (c_X5_weigh hn ha_a hT_a hp76) hc hw hz hml hl ha_a hT_a (by decide) rfl cv_X5_96 ⟨⟨rfl, rfl⟩, Nat.le_trans (Nat.le_of_ble_eq_true rfl) hRf, Nat.le_trans (Nat.le_of_ble_eq_true rfl) hRl⟩ ⟨Nat.zero_le _, Nat.zero_le _⟩ rfl rfl (Nat.le_of_ble_eq_true rfl) dX5_seekFrom_76 (fun h1 H locs hp hw => ?_)
          subst h1
          exact J79 x2 _ _ _ _ hf hw (lv_sub hl [0, 1, 2] rfl)
  unfold F_X5_seekFrom at hf
  refine lv_aload_n hx hb dX5_seekFrom_0 rfl (lv_at hl 0 rfl) ?_
  obtain ⟨hF1, hT1, ha1⟩ := ft_5_9 hn ha_a hT_a
  refine sg_getf (q := (a + 9)) hc hw ha_a hT_a fr_5_9 (by decide) k_225 dX5_seekFrom_1 hF1 ?_
  refine lv_aload_n hx hb dX5_seekFrom_4 rfl (lv_at hl 0 rfl) ?_
  obtain ⟨hF5, hT5, ha5⟩ := ft_5_8 hn ha_a hT_a
  refine sg_getf (q := (a + 2)) hc hw ha_a hT_a fr_5_8 (by decide) k_224 dX5_seekFrom_5 hF5 ?_
  obtain ⟨p8, hp8, hf⟩ := cl_of hf
  refine sg_vv (rest := []) (c_X7_follow hn ha1 hT1 ha5 hT5 hp8) hc hw hz hml hl ha1 hT1 (by decide) rfl cv_X5_92 ⟨⟨rfl, rfl⟩, Nat.le_trans (Nat.le_of_ble_eq_true rfl) hRf, Nat.le_trans (Nat.le_of_ble_eq_true rfl) hRl⟩ ⟨Nat.zero_le _, Nat.zero_le _⟩ rfl rfl (Nat.le_of_ble_eq_true rfl) dX5_seekFrom_8 (fun h1 H locs hp hw => ?_)
  subst h1
  refine lv_iload_n hx hb dX5_seekFrom_11 rfl (lv_at hl 1 rfl) ?_
  refine lv_istore_n (lv' := [(2, .int x1), (0, .ref (b + a)), (1, .int x1)]) hx hb dX5_seekFrom_12 rfl hl (by decide) rfl (fun ls hl => ?_)
  exact L13 _ _ hf _ _ _ hw (lv_sub hl [1, 2, 0] rfl)
theorem c_X5_seekFrom {l : Launch} {D : va_G} {cA : Nat → ClassId} {b n : Nat} (hn : sg_okN n) {a : Nat} {x1 : Int32} (ha_a : a < n) (hT_a : sg_T a = 5) {h : HP} {Rz : HP} (hf : F_X5_seekFrom a x1 h = some Rz) : Met l yX5_seekFrom (Cond.code yX5_seekFrom cX5_seekFrom 3 none :: sg_tbl) ({ frames := 4, cells := 0, slots := 0, locals := 144 } : Room) (va_Pc [.ref (b + a), .int x1] (sg_Wd D b cA n h)) (va_Qv (fun u => u = Rz) (sg_Wd D b cA n) (sg_A b)) 0 0 (sg_A b) := by
  refine Met.ofW (cc := cX5_seekFrom) (maxL := 3) (ret := none) (by decide) rfl ?_
  intro p e s m args below meth c s₁ B hml hv
  obtain ⟨rfl, hP, hK, hz, hY, hN⟩ := hv
  have hl := lv_entry [.ref (b + a), .int x1] (n := 3) (Nat.le_of_ble_eq_true rfl)
  rw [lg_entry_eq]
  exact w_X5_seekFrom hn ⟨B.exec, B.bytes, findClass_of_methodNamed B.named, fun w h => atoms_spec (ws := Cond.code yX5_seekFrom cX5_seekFrom 3 none :: sg_tbl) B.pre w (List.mem_cons_of_mem _ h), hK, hN⟩ hz B.returns B.notSynchronized hml (Nat.le_refl _) (Nat.le_refl _) ha_a hT_a hf _ _ _ ⟨hP, hY, va_S.rf⟩ hl
set_option maxHeartbeats 4000000 in
set_option maxRecDepth 100000 in
theorem w_X5_seek {p : Program} {l : Launch} {e : Env} {R : Room} {s : State} {m : MethodId} {args : Array Value} {below : List Frame} {meth : Method} {c : Code} {D : va_G} {cA : Nat → ClassId} {b n : Nat} (hn : sg_okN n) {a : Nat} {x1 : Int32} {x2 : Int32} {h : HP} {Rz : Int32 × HP} (hc : sg_Cx p s m args c cX5_seek RX5 D cA) (hz : s.heap.size = b + n) (hr : meth.sig.returnType = some .boolean) (hlocks : meth.locks = false) (hml : c.maxLocals = 4) (hRf : 5 ≤ R.frames) (hRl : 166 ≤ R.locals) (ha_a : a < n) (hT_a : sg_T a = 5) (hf : F_X5_seek a x1 x2 h = some Rz) (H : Heap) (locs : List Loc) (ls : Array Slot) (hw : sg_Wo D b cA n s.heap h H locs) (hl : lv_has ls 4 [(0, .ref (b + a)), (1, .int x1), (2, .int x2)]) : W p l e R s m args below meth c H locs 0 0 (sg_Qi below args s D b cA n (fun r u => (r = Rz.1 ∧ u = Rz.2) ∧ narrow .boolean (.int r) = .int r)) (F0 m 0 ls []) := by
  have hx := hc.1
  have hb := hc.2.1
  have hn0 : 0 < n := sg_pos hn
  have J117 : ∀ (h : HP) (H : Heap) (locs : List Loc) (ls : Array Slot), F_X5_seek_J117 a h = some Rz → sg_Wo D b cA n s.heap h H locs → lv_has ls 4 [(0, .ref (b + a))] → W p l e R s m args below meth c H locs 0 0 (sg_Qi below args s D b cA n (fun r u => (r = Rz.1 ∧ u = Rz.2) ∧ narrow .boolean (.int r) = .int r)) (F0 m 117 ls []) := by
    intro h H locs ls hf hw hl
    unfold F_X5_seek_J117 at hf
    refine lv_aload_n hx hb dX5_seek_117 rfl (lv_at hl 0 rfl) ?_
    refine sg_geti hc hw ha_a hT_a fi_5_5 k_221 dX5_seek_118 ?_
    obtain ⟨hg121, hf⟩ := gb_of hf
    cases hf
    exact sg_zret hc hw hz hn0 hr hlocks hg121 ⟨⟨rfl, rfl⟩, hg121⟩ dX5_seek_121
  have L47 : ∀ (k : Nat) (x : (Int32 × HP)), F_X5_seek_L47 a k x = some Rz → ∀ (H : Heap) (locs : List Loc) (ls : Array Slot), sg_Wo D b cA n s.heap x.2 H locs → lv_has ls 4 [(0, .ref (b + a)), (3, .int x.1)] → W p l e R s m args below meth c H locs 0 0 (sg_Qi below args s D b cA n (fun r u => (r = Rz.1 ∧ u = Rz.2) ∧ narrow .boolean (.int r) = .int r)) (F0 m 47 ls []) := by
    unfold F_X5_seek_L47
    refine lp_walk ?_
    intro rc47 hrc47 x hf H locs ls hw hl
    obtain ⟨x3, h⟩ := x
    dsimp only at hf hw hl
    have J96 : ∀ (x3 : Int32) (h : HP) (H : Heap) (locs : List Loc) (ls : Array Slot), F_X5_seek_J96 a rc47 x3 h = some Rz → sg_Wo D b cA n s.heap h H locs → lv_has ls 4 [(0, .ref (b + a)), (3, .int x3)] → W p l e R s m args below meth c H locs 0 0 (sg_Qi below args s D b cA n (fun r u => (r = Rz.1 ∧ u = Rz.2) ∧ narrow .boolean (.int r) = .int r)) (F0 m 96 ls []) := by
      intro x3 h H locs ls hf hw hl
      unfold F_X5_seek_J96 at hf
      refine lv_aload_n hx hb dX5_seek_96 rfl (lv_at hl 0 rfl) ?_
      obtain ⟨hF97, hT97, ha97⟩ := ft_5_8 hn ha_a hT_a
      refine sg_getf (q := (a + 2)) hc hw ha_a hT_a fr_5_8 (by decide) k_224 dX5_seek_97 hF97 ?_
      refine lv_iload_n hx hb dX5_seek_100 rfl (lv_at hl 1 rfl) ?_
      refine lv_aload_n hx hb dX5_seek_101 rfl (lv_at hl 0 rfl) ?_
      obtain ⟨hF102, hT102, ha102, hN102⟩ := ft_5_7 hn ha_a hT_a
      refine sg_getf (q := 79) hc hw ha_a hT_a fr_5_7 (by decide) k_223 dX5_seek_102 hF102 ?_
      refine lv_iload_n hx hb dX5_seek_105 rfl (lv_at hl 1 rfl) ?_
      obtain ⟨hg106, hf⟩ := gd_of hf
      refine sg_ild hc hw ha102 hT102 hN102 hg106 dX5_seek_106 ?_
      obtain ⟨p107, hp107, hf⟩ := cl_of hf
      refine sg_vi (rest := []) (c_X7_step hn ha97 hT97 hp107) hc hw hz hml hl ha97 hT97 (by decide) rfl cv_X5_74 ⟨⟨rfl, rfl⟩, Nat.le_trans (Nat.le_of_ble_eq_true rfl) hRf, Nat.le_trans (Nat.le_of_ble_eq_true rfl) hRl⟩ ⟨Nat.zero_le _, Nat.zero_le _⟩ rfl rfl (Nat.le_of_ble_eq_true rfl) dX5_seek_107 (fun r h1 H locs hp hw => ?_)
      obtain ⟨e1, e2⟩ := hp; subst r; subst h1
      refine lv_pop hx hb dX5_seek_110 rfl ?_
      refine lv_iinc (v := (x3 + 1)) (lv' := [(3, .int (x3 + 1)), (0, .ref (b + a))]) hx hb dX5_seek_111 hl (k := 1) rfl rfl (by decide) rfl (fun ls hl => ?_)
      refine lv_goto (tgt := 47) hx hb dX5_seek_114 (by decide) ?_
      exact hrc47 _ hf _ _ _ hw (lv_sub hl [1, 0] rfl)
    have J91 : ∀ (x3 : Int32) (h : HP) (H : Heap) (locs : List Loc) (ls : Array Slot), F_X5_seek_J91 a rc47 x3 h = some Rz → sg_Wo D b cA n s.heap h H locs → lv_has ls 4 [(0, .ref (b + a)), (3, .int x3)] → W p l e R s m args below meth c H locs 0 0 (sg_Qi below args s D b cA n (fun r u => (r = Rz.1 ∧ u = Rz.2) ∧ narrow .boolean (.int r) = .int r)) (F0 m 91 ls []) := by
      intro x3 h H locs ls hf hw hl
      unfold F_X5_seek_J91 at hf
      refine lv_aload_n hx hb dX5_seek_91 rfl (lv_at hl 0 rfl) ?_
      refine lv_iload_n hx hb dX5_seek_92 rfl (lv_at hl 1 rfl) ?_
      obtain ⟨p93, hp93, hf⟩ := cl_of hf
      refine sg_vv (rest := []) (c_X5_seekFrom hn ha_a hT_a hp93) hc hw hz hml hl ha_a hT_a (by decide) rfl cv_X5_70 ⟨⟨rfl, rfl⟩, Nat.le_trans (Nat.le_of_ble_eq_true rfl) hRf, Nat.le_trans (Nat.le_of_ble_eq_true rfl) hRl⟩ ⟨Nat.zero_le _, Nat.zero_le _⟩ rfl rfl (Nat.le_of_ble_eq_true rfl) dX5_seek_93 (fun h1 H locs hp hw => ?_)
      subst h1
      exact J96 x3 _ _ _ _ hf hw (lv_sub hl [0, 1] rfl)
    refine lv_iload_n hx hb dX5_seek_47 rfl (lv_at hl 1 rfl) ?_
    refine lv_aload_n hx hb dX5_seek_48 rfl (lv_at hl 0 rfl) ?_
    obtain ⟨hF49, hT49, ha49⟩ := ft_5_6 hn ha_a hT_a
    refine sg_getf (q := 15) hc hw ha_a hT_a fr_5_6 (by decide) k_222 dX5_seek_49 hF49 ?_
    refine sg_geti hc hw ha49 hT49 fi_1_1 k_42 dX5_seek_52 ?_
    refine lv_icmp_ge (tgt := 117) hx hb dX5_seek_55 (by decide) (fun c55 => ?_) (fun c55 => ?_)
    · have hf := if_of c55 hf
      exact J117 _ _ _ _ hf hw (lv_sub hl [0] rfl)
    · have hf := if_no c55 hf
      refine lv_aload_n hx hb dX5_seek_58 rfl (lv_at hl 0 rfl) ?_
      refine lv_aload_n hx hb dX5_seek_59 rfl (lv_at hl 0 rfl) ?_
      obtain ⟨hF60, hT60, ha60⟩ := ft_5_8 hn ha_a hT_a
      refine sg_getf (q := (a + 2)) hc hw ha_a hT_a fr_5_8 (by decide) k_224 dX5_seek_60 hF60 ?_
      obtain ⟨p63, hp63, hf⟩ := cl_of hf
      refine sg_vi (rest := []) (c_X5_isOpen hn ha_a hT_a ha60 hT60 hp63) hc hw hz hml hl ha_a hT_a (by decide) rfl cv_X5_62 ⟨⟨rfl, rfl⟩, Nat.le_trans (Nat.le_of_ble_eq_true rfl) hRf, Nat.le_trans (Nat.le_of_ble_eq_true rfl) hRl⟩ ⟨Nat.zero_le _, Nat.zero_le _⟩ rfl rfl (Nat.le_of_ble_eq_true rfl) dX5_seek_63 (fun r h1 H locs hp hw => ?_)
      obtain ⟨⟨e1, e2⟩, hb63⟩ := hp; subst r; subst h1
      refine lv_if_eq (tgt := 117) hx hb dX5_seek_66 (by decide) (fun c66 => ?_) (fun c66 => ?_)
      · have hf := if_of c66 hf
        exact J117 _ _ _ _ hf hw (lv_sub hl [0] rfl)
      · have hf := if_no c66 hf
        refine lv_iload_n hx hb dX5_seek_69 rfl (lv_at hl 1 rfl) ?_
        refine lv_if_eq (tgt := 91) hx hb dX5_seek_70 (by decide) (fun c70 => ?_) (fun c70 => ?_)
        · have hf := if_of c70 hf
          exact J91 x3 _ _ _ _ hf hw (lv_sub hl [0, 1] rfl)
        · have hf := if_no c70 hf
          refine lv_aload_n hx hb dX5_seek_73 rfl (lv_at hl 0 rfl) ?_
          refine sg_geti hc hw ha_a hT_a fi_5_3 k_219 dX5_seek_74 ?_
          refine lv_aload_n hx hb dX5_seek_77 rfl (lv_at hl 0 rfl) ?_
          obtain ⟨hF78, hT78, ha78, hN78⟩ := ft_5_7 hn ha_a hT_a
          refine sg_getf (q := 79) hc hw ha_a hT_a fr_5_7 (by decide) k_223 dX5_seek_78 hF78 ?_
          refine lv_iload_n hx hb dX5_seek_81 rfl (lv_at hl 1 rfl) ?_
          refine lv_iconst (v := 1) hx hb dX5_seek_82 (by decide) ?_
          refine lv_isub hx hb dX5_seek_83 ?_
          obtain ⟨hg84, hf⟩ := gd_of hf
          refine sg_ild hc hw ha78 hT78 hN78 hg84 dX5_seek_84 ?_
          obtain ⟨p85, hp85, hf⟩ := cl_of hf
          refine sg_ni (rest := []) (c_X8_isIn hn (h := h) hp85) hc hw hz hn0 hml hl cn_X5_66 ⟨⟨rfl, rfl⟩, Nat.le_trans (Nat.le_of_ble_eq_true rfl) hRf, Nat.le_trans (Nat.le_of_ble_eq_true rfl) hRl⟩ ⟨Nat.zero_le _, Nat.zero_le _⟩ rfl rfl (Nat.le_of_ble_eq_true rfl) dX5_seek_85 (fun r h1 H locs hp hw => ?_)
          obtain ⟨⟨e1, e2⟩, hb85⟩ := hp; subst r; subst h1
          refine lv_if_ne (tgt := 96) hx hb dX5_seek_88 (by decide) (fun c88 => ?_) (fun c88 => ?_)
          · have hf := if_no c88 hf
            exact J96 x3 _ _ _ _ hf hw (lv_sub hl [0, 1] rfl)
          · have hf := if_of c88 hf
            exact J91 x3 _ _ _ _ hf hw (lv_sub hl [0, 1] rfl)
  unfold F_X5_seek at hf
  refine lv_aload_n hx hb dX5_seek_0 rfl (lv_at hl 0 rfl) ?_
  refine lv_iload_n hx hb dX5_seek_1 rfl (lv_at hl 2 rfl) ?_
  refine sg_puti hc hw ha_a hT_a fp_5_0 rfl rfl k_213 dX5_seek_2 (fun H locs hw => ?_)
  obtain ⟨h2, hw, hf⟩ := sg_name hw hf
  refine lv_aload_n hx hb dX5_seek_5 rfl (lv_at hl 0 rfl) ?_
  refine lv_iload_n hx hb dX5_seek_6 rfl (lv_at hl 1 rfl) ?_
  refine sg_puti hc hw ha_a hT_a fp_5_3 rfl rfl k_219 dX5_seek_7 (fun H locs hw => ?_)
  obtain ⟨h7, hw, hf⟩ := sg_name hw hf
  refine lv_aload_n hx hb dX5_seek_10 rfl (lv_at hl 0 rfl) ?_
  refine lv_iconst (v := 0) hx hb dX5_seek_11 (by decide) ?_
  refine sg_puti hc hw ha_a hT_a fp_5_5 rfl rfl k_221 dX5_seek_12 (fun H locs hw => ?_)
  obtain ⟨h12, hw, hf⟩ := sg_name hw hf
  refine lv_aload_n hx hb dX5_seek_15 rfl (lv_at hl 0 rfl) ?_
  obtain ⟨hF16, hT16, ha16⟩ := ft_5_6 hn ha_a hT_a
  refine sg_getf (q := 15) hc hw ha_a hT_a fr_5_6 (by decide) k_222 dX5_seek_16 hF16 ?_
  obtain ⟨hF19, hT19, ha19, hN19⟩ := ft_1_9 hn ha16 hT16
  refine sg_getf (q := 20) hc hw ha16 hT16 fr_1_9 (by decide) k_66 dX5_seek_19 hF19 ?_
  refine lv_iload_n hx hb dX5_seek_22 rfl (lv_at hl 1 rfl) ?_
  obtain ⟨hg23, hf⟩ := gd_of hf
  refine sg_ild hc hw ha19 hT19 hN19 hg23 dX5_seek_23 ?_
  refine lv_iconst (v := 2) hx hb dX5_seek_24 (by decide) ?_
  refine lv_icmp_ne (tgt := 30) hx hb dX5_seek_25 (by decide) (fun c25 => ?_) (fun c25 => ?_)
  · have hf := if_no c25 hf
    refine lv_aload_n hx hb dX5_seek_30 rfl (lv_at hl 0 rfl) ?_
    obtain ⟨p31, hp31, hf⟩ := cl_of hf
    refine sg_vv (rest := []) (c_X5_lookAhead hn ha_a hT_a hp31) hc hw hz hml hl ha_a hT_a (by decide) rfl cv_X5_53 ⟨⟨rfl, rfl⟩, Nat.le_trans (Nat.le_of_ble_eq_true rfl) hRf, Nat.le_trans (Nat.le_of_ble_eq_true rfl) hRl⟩ ⟨Nat.zero_le _, Nat.zero_le _⟩ rfl rfl (Nat.le_of_ble_eq_true rfl) dX5_seek_31 (fun h1 H locs hp hw => ?_)
    subst h1
    refine lv_aload_n hx hb dX5_seek_34 rfl (lv_at hl 0 rfl) ?_
    obtain ⟨hF35, hT35, ha35⟩ := ft_5_8 hn ha_a hT_a
    refine sg_getf (q := (a + 2)) hc hw ha_a hT_a fr_5_8 (by decide) k_224 dX5_seek_35 hF35 ?_
    refine lv_aload_n hx hb dX5_seek_38 rfl (lv_at hl 0 rfl) ?_
    refine sg_getf (q := 15) hc hw ha_a hT_a fr_5_6 (by decide) k_222 dX5_seek_39 (ft_5_6 hn ha_a hT_a).1 ?_
    obtain ⟨p42, hp42, hf⟩ := cl_of hf
    refine sg_vv (rest := []) (c_X7_begin hn ha35 hT35 ha16 hT16 hp42) hc hw hz hml hl ha35 hT35 (by decide) rfl cv_X5_56 ⟨⟨rfl, rfl⟩, Nat.le_trans (Nat.le_of_ble_eq_true rfl) hRf, Nat.le_trans (Nat.le_of_ble_eq_true rfl) hRl⟩ ⟨Nat.zero_le _, Nat.zero_le _⟩ rfl rfl (Nat.le_of_ble_eq_true rfl) dX5_seek_42 (fun h1 H locs hp hw => ?_)
    subst h1
    refine lv_iconst (v := 0) hx hb dX5_seek_45 (by decide) ?_
    refine lv_istore_n (lv' := [(3, .int 0), (0, .ref (b + a)), (1, .int x1), (2, .int x2)]) hx hb dX5_seek_46 rfl hl (by decide) rfl (fun ls hl => ?_)
    exact L47 _ _ hf _ _ _ hw (lv_sub hl [1, 0] rfl)
  · have hf := if_of c25 hf
    refine lv_iconst (v := 0) hx hb dX5_seek_28 (by decide) ?_
    cases hf
    exact sg_zret hc hw hz hn0 hr hlocks rfl ⟨⟨rfl, rfl⟩, rfl⟩ dX5_seek_29
theorem c_X5_seek {l : Launch} {D : va_G} {cA : Nat → ClassId} {b n : Nat} (hn : sg_okN n) {a : Nat} {x1 : Int32} {x2 : Int32} (ha_a : a < n) (hT_a : sg_T a = 5) {h : HP} {Rz : Int32 × HP} (hf : F_X5_seek a x1 x2 h = some Rz) : Met l yX5_seek (Cond.code yX5_seek cX5_seek 4 (some .boolean) :: sg_tbl) ({ frames := 5, cells := 0, slots := 0, locals := 166 } : Room) (va_Pc [.ref (b + a), .int x1, .int x2] (sg_Wd D b cA n h)) (va_Qi (fun r u => (r = Rz.1 ∧ u = Rz.2) ∧ narrow .boolean (.int r) = .int r) (sg_Wd D b cA n) (sg_A b)) 0 0 (sg_A b) := by
  refine Met.ofW (cc := cX5_seek) (maxL := 4) (ret := (some .boolean)) (by decide) rfl ?_
  intro p e s m args below meth c s₁ B hml hv
  obtain ⟨rfl, hP, hK, hz, hY, hN⟩ := hv
  have hl := lv_entry [.ref (b + a), .int x1, .int x2] (n := 4) (Nat.le_of_ble_eq_true rfl)
  rw [lg_entry_eq]
  exact w_X5_seek hn ⟨B.exec, B.bytes, findClass_of_methodNamed B.named, fun w h => atoms_spec (ws := Cond.code yX5_seek cX5_seek 4 (some .boolean) :: sg_tbl) B.pre w (List.mem_cons_of_mem _ h), hK, hN⟩ hz B.returns B.notSynchronized hml (Nat.le_refl _) (Nat.le_refl _) ha_a hT_a hf _ _ _ ⟨hP, hY, va_S.rf⟩ hl
set_option maxHeartbeats 4000000 in
set_option maxRecDepth 100000 in
theorem w_X6_has {p : Program} {l : Launch} {e : Env} {R : Room} {s : State} {m : MethodId} {args : Array Value} {below : List Frame} {meth : Method} {c : Code} {D : va_G} {cA : Nat → ClassId} {b n : Nat} (hn : sg_okN n) {a : Nat} {x1 : Int32} {h : HP} {Rz : Int32} (hc : sg_Cx p s m args c cX6_has RX6 D cA) (hz : s.heap.size = b + n) (hr : meth.sig.returnType = some .boolean) (hlocks : meth.locks = false) (hml : c.maxLocals = 2) (hRf : 0 ≤ R.frames) (hRl : 0 ≤ R.locals) (ha_a : a < n) (hT_a : sg_T a = 6) (hf : F_X6_has a x1 h = some Rz) (H : Heap) (locs : List Loc) (ls : Array Slot) (hw : sg_Wo D b cA n s.heap h H locs) (hl : lv_has ls 2 [(0, .ref (b + a)), (1, .int x1)]) : W p l e R s m args below meth c H locs 0 0 (sg_Qi below args s D b cA n (fun r u => (r = Rz ∧ u = h) ∧ narrow .boolean (.int r) = .int r)) (F0 m 0 ls []) := by
  have hx := hc.1
  have hb := hc.2.1
  have hn0 : 0 < n := sg_pos hn
  unfold F_X6_has at hf
  refine lv_iload_n hx hb dX6_has_0 rfl (lv_at hl 1 rfl) ?_
  refine lv_if_lt (tgt := 16) hx hb dX6_has_1 (by decide) (fun c1 => ?_) (fun c1 => ?_)
  · have hf := if_of c1 hf
    refine lv_iconst (v := 0) hx hb dX6_has_16 (by decide) ?_
    cases hf
    exact sg_zret hc hw hz hn0 hr hlocks rfl ⟨⟨rfl, rfl⟩, rfl⟩ dX6_has_17
  · have hf := if_no c1 hf
    refine lv_iload_n hx hb dX6_has_4 rfl (lv_at hl 1 rfl) ?_
    refine lv_aload_n hx hb dX6_has_5 rfl (lv_at hl 0 rfl) ?_
    refine sg_geti hc hw ha_a hT_a fi_6_0 k_103 dX6_has_6 ?_
    refine lv_icmp_ge (tgt := 16) hx hb dX6_has_9 (by decide) (fun c9 => ?_) (fun c9 => ?_)
    · have hf := if_of c9 hf
      refine lv_iconst (v := 0) hx hb dX6_has_16 (by decide) ?_
      cases hf
      exact sg_zret hc hw hz hn0 hr hlocks rfl ⟨⟨rfl, rfl⟩, rfl⟩ dX6_has_17
    · have hf := if_no c9 hf
      refine lv_iconst (v := 1) hx hb dX6_has_12 (by decide) ?_
      refine lv_goto (tgt := 17) hx hb dX6_has_13 (by decide) ?_
      cases hf
      exact sg_zret hc hw hz hn0 hr hlocks rfl ⟨⟨rfl, rfl⟩, rfl⟩ dX6_has_17
theorem c_X6_has {l : Launch} {D : va_G} {cA : Nat → ClassId} {b n : Nat} (hn : sg_okN n) {a : Nat} {x1 : Int32} (ha_a : a < n) (hT_a : sg_T a = 6) {h : HP} {Rz : Int32} (hf : F_X6_has a x1 h = some Rz) : Met l yX6_has (Cond.code yX6_has cX6_has 2 (some .boolean) :: sg_tbl) ({ frames := 0, cells := 0, slots := 0, locals := 0 } : Room) (va_Pc [.ref (b + a), .int x1] (sg_Wd D b cA n h)) (va_Qi (fun r u => (r = Rz ∧ u = h) ∧ narrow .boolean (.int r) = .int r) (sg_Wd D b cA n) (sg_A b)) 0 0 (sg_A b) := by
  refine Met.ofW (cc := cX6_has) (maxL := 2) (ret := (some .boolean)) (by decide) rfl ?_
  intro p e s m args below meth c s₁ B hml hv
  obtain ⟨rfl, hP, hK, hz, hY, hN⟩ := hv
  have hl := lv_entry [.ref (b + a), .int x1] (n := 2) (Nat.le_of_ble_eq_true rfl)
  rw [lg_entry_eq]
  exact w_X6_has hn ⟨B.exec, B.bytes, findClass_of_methodNamed B.named, fun w h => atoms_spec (ws := Cond.code yX6_has cX6_has 2 (some .boolean) :: sg_tbl) B.pre w (List.mem_cons_of_mem _ h), hK, hN⟩ hz B.returns B.notSynchronized hml (Nat.le_refl _) (Nat.le_refl _) ha_a hT_a hf _ _ _ ⟨hP, hY, va_S.rf⟩ hl
set_option maxHeartbeats 4000000 in
set_option maxRecDepth 100000 in
theorem w_X6_drop {p : Program} {l : Launch} {e : Env} {R : Room} {s : State} {m : MethodId} {args : Array Value} {below : List Frame} {meth : Method} {c : Code} {D : va_G} {cA : Nat → ClassId} {b n : Nat} (hn : sg_okN n) {a : Nat} {x1 : Int32} {h : HP} {Rz : HP} (hc : sg_Cx p s m args c cX6_drop RX6 D cA) (hz : s.heap.size = b + n) (hr : meth.sig.returnType = none) (hlocks : meth.locks = false) (hml : c.maxLocals = 3) (hRf : 0 ≤ R.frames) (hRl : 0 ≤ R.locals) (ha_a : a < n) (hT_a : sg_T a = 6) (hf : F_X6_drop a x1 h = some Rz) (H : Heap) (locs : List Loc) (ls : Array Slot) (hw : sg_Wo D b cA n s.heap h H locs) (hl : lv_has ls 3 [(0, .ref (b + a)), (1, .int x1)]) : W p l e R s m args below meth c H locs 0 0 (sg_Qv below args s D b cA n (fun u => u = Rz)) (F0 m 0 ls []) := by
  have hx := hc.1
  have hb := hc.2.1
  have hn0 : 0 < n := sg_pos hn
  have J60 : ∀ (h : HP) (H : Heap) (locs : List Loc) (ls : Array Slot), F_X6_drop_J60 a h = some Rz → sg_Wo D b cA n s.heap h H locs → lv_has ls 3 [(0, .ref (b + a))] → W p l e R s m args below meth c H locs 0 0 (sg_Qv below args s D b cA n (fun u => u = Rz)) (F0 m 60 ls []) := by
    intro h H locs ls hf hw hl
    unfold F_X6_drop_J60 at hf
    refine lv_aload_n hx hb dX6_drop_60 rfl (lv_at hl 0 rfl) ?_
    refine lv_dup hx hb dX6_drop_61 rfl ?_
    refine sg_geti hc hw ha_a hT_a fi_6_0 k_103 dX6_drop_62 ?_
    refine lv_iconst (v := 1) hx hb dX6_drop_65 (by decide) ?_
    refine lv_isub hx hb dX6_drop_66 ?_
    refine sg_puti hc hw ha_a hT_a fp_6_0 rfl rfl k_103 dX6_drop_67 (fun H locs hw => ?_)
    obtain ⟨h67, hw, hf⟩ := sg_name hw hf
    cases hf
    exact sg_vret hc hw hz hn0 hr hlocks rfl dX6_drop_70
  have L2 : ∀ (k : Nat) (x : (Int32 × HP)), F_X6_drop_L2 a k x = some Rz → ∀ (H : Heap) (locs : List Loc) (ls : Array Slot), sg_Wo D b cA n s.heap x.2 H locs → lv_has ls 3 [(0, .ref (b + a)), (2, .int x.1)] → W p l e R s m args below meth c H locs 0 0 (sg_Qv below args s D b cA n (fun u => u = Rz)) (F0 m 2 ls []) := by
    unfold F_X6_drop_L2
    refine lp_walk ?_
    intro rc2 hrc2 x hf H locs ls hw hl
    obtain ⟨x2, h⟩ := x
    dsimp only at hf hw hl
    refine lv_iload_n hx hb dX6_drop_2 rfl (lv_at hl 1 rfl) ?_
    refine lv_iconst (v := 1) hx hb dX6_drop_3 (by decide) ?_
    refine lv_iadd hx hb dX6_drop_4 ?_
    refine lv_aload_n hx hb dX6_drop_5 rfl (lv_at hl 0 rfl) ?_
    refine sg_geti hc hw ha_a hT_a fi_6_0 k_103 dX6_drop_6 ?_
    refine lv_icmp_ge (tgt := 60) hx hb dX6_drop_9 (by decide) (fun c9 => ?_) (fun c9 => ?_)
    · have hf := if_of c9 hf
      exact J60 _ _ _ _ hf hw (lv_sub hl [0] rfl)
    · have hf := if_no c9 hf
      refine lv_aload_n hx hb dX6_drop_12 rfl (lv_at hl 0 rfl) ?_
      obtain ⟨hF13, hT13, ha13, hN13⟩ := ft_6_1 hn ha_a hT_a
      refine sg_getf (q := (a + 1)) hc hw ha_a hT_a fr_6_1 (by decide) k_106 dX6_drop_13 hF13 ?_
      refine lv_iload_n hx hb dX6_drop_16 rfl (lv_at hl 1 rfl) ?_
      refine lv_aload_n hx hb dX6_drop_17 rfl (lv_at hl 0 rfl) ?_
      refine sg_getf (q := (a + 1)) hc hw ha_a hT_a fr_6_1 (by decide) k_106 dX6_drop_18 (ft_6_1 hn ha_a hT_a).1 ?_
      refine lv_iload_n hx hb dX6_drop_21 rfl (lv_at hl 1 rfl) ?_
      refine lv_iconst (v := 1) hx hb dX6_drop_22 (by decide) ?_
      refine lv_iadd hx hb dX6_drop_23 ?_
      obtain ⟨hg24, hf⟩ := gd_of hf
      refine sg_ild hc hw ha13 hT13 hN13 hg24 dX6_drop_24 ?_
      obtain ⟨hg25, hf⟩ := gd_of hf
      refine sg_ist hc hw ha13 hT13 hN13 hg25 dX6_drop_25 (fun H locs hw => ?_)
      obtain ⟨h25, hw, hf⟩ := sg_name hw hf
      refine lv_aload_n hx hb dX6_drop_26 rfl (lv_at hl 0 rfl) ?_
      obtain ⟨hF27, hT27, ha27, hN27⟩ := ft_6_2 hn ha_a hT_a
      refine sg_getf (q := (a + 2)) hc hw ha_a hT_a fr_6_2 (by decide) k_108 dX6_drop_27 hF27 ?_
      refine lv_iload_n hx hb dX6_drop_30 rfl (lv_at hl 1 rfl) ?_
      refine lv_aload_n hx hb dX6_drop_31 rfl (lv_at hl 0 rfl) ?_
      refine sg_getf (q := (a + 2)) hc hw ha_a hT_a fr_6_2 (by decide) k_108 dX6_drop_32 (ft_6_2 hn ha_a hT_a).1 ?_
      refine lv_iload_n hx hb dX6_drop_35 rfl (lv_at hl 1 rfl) ?_
      refine lv_iconst (v := 1) hx hb dX6_drop_36 (by decide) ?_
      refine lv_iadd hx hb dX6_drop_37 ?_
      obtain ⟨hg38, hf⟩ := gd_of hf
      refine sg_ild hc hw ha27 hT27 hN27 hg38 dX6_drop_38 ?_
      obtain ⟨hg39, hf⟩ := gd_of hf
      refine sg_ist hc hw ha27 hT27 hN27 hg39 dX6_drop_39 (fun H locs hw => ?_)
      obtain ⟨h39, hw, hf⟩ := sg_name hw hf
      refine lv_aload_n hx hb dX6_drop_40 rfl (lv_at hl 0 rfl) ?_
      obtain ⟨hF41, hT41, ha41, hN41⟩ := ft_6_3 hn ha_a hT_a
      refine sg_getf (q := (a + 3)) hc hw ha_a hT_a fr_6_3 (by decide) k_110 dX6_drop_41 hF41 ?_
      refine lv_iload_n hx hb dX6_drop_44 rfl (lv_at hl 1 rfl) ?_
      refine lv_aload_n hx hb dX6_drop_45 rfl (lv_at hl 0 rfl) ?_
      refine sg_getf (q := (a + 3)) hc hw ha_a hT_a fr_6_3 (by decide) k_110 dX6_drop_46 (ft_6_3 hn ha_a hT_a).1 ?_
      refine lv_iload_n hx hb dX6_drop_49 rfl (lv_at hl 1 rfl) ?_
      refine lv_iconst (v := 1) hx hb dX6_drop_50 (by decide) ?_
      refine lv_iadd hx hb dX6_drop_51 ?_
      obtain ⟨hg52, hf⟩ := gd_of hf
      refine sg_ild hc hw ha41 hT41 hN41 hg52 dX6_drop_52 ?_
      obtain ⟨hg53, hf⟩ := gd_of hf
      refine sg_ist hc hw ha41 hT41 hN41 hg53 dX6_drop_53 (fun H locs hw => ?_)
      obtain ⟨h53, hw, hf⟩ := sg_name hw hf
      refine lv_iinc (v := (x2 + 1)) (lv' := [(2, .int (x2 + 1)), (0, .ref (b + a))]) hx hb dX6_drop_54 hl (k := 1) rfl rfl (by decide) rfl (fun ls hl => ?_)
      refine lv_goto (tgt := 2) hx hb dX6_drop_57 (by decide) ?_
      exact hrc2 _ hf _ _ _ hw (lv_sub hl [1, 0] rfl)
  unfold F_X6_drop at hf
  refine lv_iload_n hx hb dX6_drop_0 rfl (lv_at hl 1 rfl) ?_
  refine lv_istore_n (lv' := [(2, .int x1), (0, .ref (b + a)), (1, .int x1)]) hx hb dX6_drop_1 rfl hl (by decide) rfl (fun ls hl => ?_)
  exact L2 _ _ hf _ _ _ hw (lv_sub hl [1, 0] rfl)
theorem c_X6_drop {l : Launch} {D : va_G} {cA : Nat → ClassId} {b n : Nat} (hn : sg_okN n) {a : Nat} {x1 : Int32} (ha_a : a < n) (hT_a : sg_T a = 6) {h : HP} {Rz : HP} (hf : F_X6_drop a x1 h = some Rz) : Met l yX6_drop (Cond.code yX6_drop cX6_drop 3 none :: sg_tbl) ({ frames := 0, cells := 0, slots := 0, locals := 0 } : Room) (va_Pc [.ref (b + a), .int x1] (sg_Wd D b cA n h)) (va_Qv (fun u => u = Rz) (sg_Wd D b cA n) (sg_A b)) 0 0 (sg_A b) := by
  refine Met.ofW (cc := cX6_drop) (maxL := 3) (ret := none) (by decide) rfl ?_
  intro p e s m args below meth c s₁ B hml hv
  obtain ⟨rfl, hP, hK, hz, hY, hN⟩ := hv
  have hl := lv_entry [.ref (b + a), .int x1] (n := 3) (Nat.le_of_ble_eq_true rfl)
  rw [lg_entry_eq]
  exact w_X6_drop hn ⟨B.exec, B.bytes, findClass_of_methodNamed B.named, fun w h => atoms_spec (ws := Cond.code yX6_drop cX6_drop 3 none :: sg_tbl) B.pre w (List.mem_cons_of_mem _ h), hK, hN⟩ hz B.returns B.notSynchronized hml (Nat.le_refl _) (Nat.le_refl _) ha_a hT_a hf _ _ _ ⟨hP, hY, va_S.rf⟩ hl
