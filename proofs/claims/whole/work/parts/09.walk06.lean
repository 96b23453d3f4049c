set_option maxHeartbeats 4000000 in
set_option maxRecDepth 100000 in
theorem w_X9_print {p : Program} {l : Launch} {e : Env} {R : Room} {s : State} {m : MethodId} {args : Array Value} {below : List Frame} {meth : Method} {c : Code} {D : va_G} {cA : Nat → ClassId} {b n : Nat} (hn : sg_okN n) {a : Nat} {x1 : Int32} {x2 : Int32} {h : HP} {Rz : Int32 × HP} (hc : sg_Cx p s m args c cX9_print RX9 D cA) (hz : s.heap.size = b + n) (hr : meth.sig.returnType = some .int) (hlocks : meth.locks = false) (hml : c.maxLocals = 3) (hRf : 2 ≤ R.frames) (hRl : 46 ≤ R.locals) (ha_a : a < n) (hT_a : sg_T a = 9) (hf : F_X9_print a x1 x2 h = some Rz) (H : Heap) (locs : List Loc) (ls : Array Slot) (hw : sg_Wo D b cA n s.heap h H locs) (hl : lv_has ls 3 [(0, .ref (b + a)), (1, .int x1), (2, .int x2)]) : W p l e R s m args below meth c H locs 0 0 (sg_Qi below args s D b cA n (fun r u => r = Rz.1 ∧ u = Rz.2)) (F0 m 0 ls []) := by
  have hx := hc.1
  have hb := hc.2.1
  have hn0 : 0 < n := sg_pos hn
  unfold F_X9_print at hf
  refine lv_aload_n hx hb dX9_print_0 rfl (lv_at hl 0 rfl) ?_
  refine lv_iload_n hx hb dX9_print_1 rfl (lv_at hl 1 rfl) ?_
  obtain ⟨p2, hp2, hf⟩ := cl_of hf
  refine sg_vi (rest := []) (c_X9_isYard hn ha_a hT_a hp2) hc hw hz hml hl ha_a hT_a (by decide) rfl cv_X9_209 ⟨⟨rfl, rfl⟩, Nat.le_trans (Nat.le_of_ble_eq_true rfl) hRf, Nat.le_trans (Nat.le_of_ble_eq_true rfl) hRl⟩ ⟨Nat.zero_le _, Nat.zero_le _⟩ rfl rfl (Nat.le_of_ble_eq_true rfl) dX9_print_2 (fun r h1 H locs hp hw => ?_)
  obtain ⟨⟨e1, e2⟩, hb2⟩ := hp; subst r; subst h1
  refine lv_if_eq (tgt := 20) hx hb dX9_print_5 (by decide) (fun c5 => ?_) (fun c5 => ?_)
  · have hf := if_of c5 hf
    refine lv_iconst (v := (-1)) hx hb dX9_print_20 (by decide) ?_
    cases hf
    exact sg_iret hc hw hz hn0 hr hlocks ⟨rfl, rfl⟩ dX9_print_21
  · have hf := if_no c5 hf
    refine lv_iload_n hx hb dX9_print_8 rfl (lv_at hl 2 rfl) ?_
    refine lv_i2l hx hb dX9_print_9 rfl ?_
    refine lv_lconst (v := 0) hx hb dX9_print_10 (by decide) ?_
    refine lv_ldc2 hx hb hc.2.2.1 (hc.2.2.2.1 _ k_1192) dX9_print_11 ?_
    obtain ⟨p14, hp14, hf⟩ := cl_of hf
    refine sg_si (rest := []) (c_X9_in hn (h := h) hp14) hc hw hz hn0 hml hl cs_X9_87 ⟨⟨rfl, rfl⟩, Nat.le_trans (Nat.le_of_ble_eq_true rfl) hRf, Nat.le_trans (Nat.le_of_ble_eq_true rfl) hRl⟩ ⟨Nat.zero_le _, Nat.zero_le _⟩ rfl rfl (Nat.le_of_ble_eq_true rfl) dX9_print_14 (fun r h1 H locs hp hw => ?_)
    obtain ⟨⟨e1, e2⟩, hb14⟩ := hp; subst r; subst h1
    refine lv_if_ne (tgt := 22) hx hb dX9_print_17 (by decide) (fun c17 => ?_) (fun c17 => ?_)
    · have hf := if_no c17 hf
      refine lv_aload_n hx hb dX9_print_22 rfl (lv_at hl 0 rfl) ?_
      refine sg_geti hc hw ha_a hT_a fi_9_11 k_884 dX9_print_23 ?_
      refine lv_bipush (v := 8) hx hb dX9_print_26 (by decide) ?_
      refine lv_icmp_ne (tgt := 34) hx hb dX9_print_28 (by decide) (fun c28 => ?_) (fun c28 => ?_)
      · have hf := if_no c28 hf
        refine lv_aload_n hx hb dX9_print_34 rfl (lv_at hl 0 rfl) ?_
        obtain ⟨hF35, hT35, ha35, hN35⟩ := ft_9_10 hn ha_a hT_a
        refine sg_getf (q := (a + 8)) hc hw ha_a hT_a fr_9_10 (by decide) k_883 dX9_print_35 hF35 ?_
        refine lv_iconst (v := 2) hx hb dX9_print_38 (by decide) ?_
        refine lv_aload_n hx hb dX9_print_39 rfl (lv_at hl 0 rfl) ?_
        refine sg_geti hc hw ha_a hT_a fi_9_11 k_884 dX9_print_40 ?_
        refine lv_imul hx hb dX9_print_43 ?_
        refine lv_iload_n hx hb dX9_print_44 rfl (lv_at hl 1 rfl) ?_
        obtain ⟨hg45, hf⟩ := gd_of hf
        refine sg_ist hc hw ha35 hT35 hN35 hg45 dX9_print_45 (fun H locs hw => ?_)
        obtain ⟨h45, hw, hf⟩ := sg_name hw hf
        refine lv_aload_n hx hb dX9_print_46 rfl (lv_at hl 0 rfl) ?_
        refine sg_getf (q := (a + 8)) hc hw ha_a hT_a fr_9_10 (by decide) k_883 dX9_print_47 (ft_9_10 hn ha_a hT_a).1 ?_
        refine lv_iconst (v := 2) hx hb dX9_print_50 (by decide) ?_
        refine lv_aload_n hx hb dX9_print_51 rfl (lv_at hl 0 rfl) ?_
        refine sg_geti hc hw ha_a hT_a fi_9_11 k_884 dX9_print_52 ?_
        refine lv_imul hx hb dX9_print_55 ?_
        refine lv_iconst (v := 1) hx hb dX9_print_56 (by decide) ?_
        refine lv_iadd hx hb dX9_print_57 ?_
        refine lv_iload_n hx hb dX9_print_58 rfl (lv_at hl 2 rfl) ?_
        obtain ⟨hg59, hf⟩ := gd_of hf
        refine sg_ist hc hw ha35 hT35 hN35 hg59 dX9_print_59 (fun H locs hw => ?_)
        obtain ⟨h59, hw, hf⟩ := sg_name hw hf
        refine lv_aload_n hx hb dX9_print_60 rfl (lv_at hl 0 rfl) ?_
        refine lv_dup hx hb dX9_print_61 rfl ?_
        refine sg_geti hc hw ha_a hT_a fi_9_11 k_884 dX9_print_62 ?_
        refine lv_iconst (v := 1) hx hb dX9_print_65 (by decide) ?_
        refine lv_iadd hx hb dX9_print_66 ?_
        refine sg_puti hc hw ha_a hT_a fp_9_11 rfl rfl k_884 dX9_print_67 (fun H locs hw => ?_)
        obtain ⟨h67, hw, hf⟩ := sg_name hw hf
        refine lv_aload_n hx hb dX9_print_70 rfl (lv_at hl 0 rfl) ?_
        refine sg_geti hc hw ha_a hT_a fi_9_11 k_884 dX9_print_71 ?_
        cases hf
        exact sg_iret hc hw hz hn0 hr hlocks ⟨rfl, rfl⟩ dX9_print_74
      · have hf := if_of c28 hf
        refine lv_bipush (v := (-3)) hx hb dX9_print_31 (by decide) ?_
        cases hf
        exact sg_iret hc hw hz hn0 hr hlocks ⟨rfl, rfl⟩ dX9_print_33
    · have hf := if_of c17 hf
      refine lv_iconst (v := (-1)) hx hb dX9_print_20 (by decide) ?_
      cases hf
      exact sg_iret hc hw hz hn0 hr hlocks ⟨rfl, rfl⟩ dX9_print_21
theorem c_X9_print {l : Launch} {D : va_G} {cA : Nat → ClassId} {b n : Nat} (hn : sg_okN n) {a : Nat} {x1 : Int32} {x2 : Int32} (ha_a : a < n) (hT_a : sg_T a = 9) {h : HP} {Rz : Int32 × HP} (hf : F_X9_print a x1 x2 h = some Rz) : Met l yX9_print (Cond.code yX9_print cX9_print 3 (some .int) :: sg_tbl) ({ frames := 2, cells := 0, slots := 0, locals := 46 } : Room) (va_Pc [.ref (b + a), .int x1, .int x2] (sg_Wd D b cA n h)) (va_Qi (fun r u => r = Rz.1 ∧ u = Rz.2) (sg_Wd D b cA n) (sg_A b)) 0 0 (sg_A b) := by
  refine Met.ofW (cc := cX9_print) (maxL := 3) (ret := (some .int)) (by decide) rfl ?_
  intro p e s m args below meth c s₁ B hml hv
  obtain ⟨rfl, hP, hK, hz, hY, hN⟩ := hv
  have hl := lv_entry [.ref (b + a), .int x1, .int x2] (n := 3) (Nat.le_of_ble_eq_true rfl)
  rw [lg_entry_eq]
  exact w_X9_print hn ⟨B.exec, B.bytes, findClass_of_methodNamed B.named, fun w h => atoms_spec (ws := Cond.code yX9_print cX9_print 3 (some .int) :: sg_tbl) B.pre w (List.mem_cons_of_mem _ h), hK, hN⟩ hz B.returns B.notSynchronized hml (Nat.le_refl _) (Nat.le_refl _) ha_a hT_a hf _ _ _ ⟨hP, hY, va_S.rf⟩ hl
set_option maxHeartbeats 4000000 in
set_option maxRecDepth 100000 in
theorem w_X9_forget {p : Program} {l : Launch} {e : Env} {R : Room} {s : State} {m : MethodId} {args : Array Value} {below : List Frame} {meth : Method} {c : Code} {D : va_G} {cA : Nat → ClassId} {b n : Nat} (hn : sg_okN n) {a : Nat} {h : HP} {Rz : Int32 × HP} (hc : sg_Cx p s m args c cX9_forget RX9 D cA) (hz : s.heap.size = b + n) (hr : meth.sig.returnType = some .int) (hlocks : meth.locks = false) (hml : c.maxLocals = 2) (hRf : 0 ≤ R.frames) (hRl : 0 ≤ R.locals) (ha_a : a < n) (hT_a : sg_T a = 9) (hf : F_X9_forget a h = some Rz) (H : Heap) (locs : List Loc) (ls : Array Slot) (hw : sg_Wo D b cA n s.heap h H locs) (hl : lv_has ls 2 [(0, .ref (b + a))]) : W p l e R s m args below meth c H locs 0 0 (sg_Qi below args s D b cA n (fun r u => r = Rz.1 ∧ u = Rz.2)) (F0 m 0 ls []) := by
  have hx := hc.1
  have hb := hc.2.1
  have hn0 : 0 < n := sg_pos hn
  unfold F_X9_forget at hf
  refine lv_aload_n hx hb dX9_forget_0 rfl (lv_at hl 0 rfl) ?_
  refine sg_geti hc hw ha_a hT_a fi_9_11 k_884 dX9_forget_1 ?_
  refine lv_topi (fun v4 e4 => ?_)
  have hf := nm_of e4 hf
  refine lv_istore_n (lv' := [(1, .int v4), (0, .ref (b + a))]) hx hb dX9_forget_4 rfl hl (by decide) rfl (fun ls hl => ?_)
  refine lv_aload_n hx hb dX9_forget_5 rfl (lv_at hl 1 rfl) ?_
  refine lv_iconst (v := 0) hx hb dX9_forget_6 (by decide) ?_
  refine sg_puti hc hw ha_a hT_a fp_9_11 rfl rfl k_884 dX9_forget_7 (fun H locs hw => ?_)
  obtain ⟨h7, hw, hf⟩ := sg_name hw hf
  refine lv_iload_n hx hb dX9_forget_10 rfl (lv_at hl 0 rfl) ?_
  cases hf
  exact sg_iret hc hw hz hn0 hr hlocks ⟨rfl, rfl⟩ dX9_forget_11
theorem c_X9_forget {l : Launch} {D : va_G} {cA : Nat → ClassId} {b n : Nat} (hn : sg_okN n) {a : Nat} (ha_a : a < n) (hT_a : sg_T a = 9) {h : HP} {Rz : Int32 × HP} (hf : F_X9_forget a h = some Rz) : Met l yX9_forget (Cond.code yX9_forget cX9_forget 2 (some .int) :: sg_tbl) ({ frames := 0, cells := 0, slots := 0, locals := 0 } : Room) (va_Pc [.ref (b + a)] (sg_Wd D b cA n h)) (va_Qi (fun r u => r = Rz.1 ∧ u = Rz.2) (sg_Wd D b cA n) (sg_A b)) 0 0 (sg_A b) := by
  refine Met.ofW (cc := cX9_forget) (maxL := 2) (ret := (some .int)) (by decide) rfl ?_
  intro p e s m args below meth c s₁ B hml hv
  obtain ⟨rfl, hP, hK, hz, hY, hN⟩ := hv
  have hl := lv_entry [.ref (b + a)] (n := 2) (Nat.le_of_ble_eq_true rfl)
  rw [lg_entry_eq]
  exact w_X9_forget hn ⟨B.exec, B.bytes, findClass_of_methodNamed B.named, fun w h => atoms_spec (ws := Cond.code yX9_forget cX9_forget 2 (some .int) :: sg_tbl) B.pre w (List.mem_cons_of_mem _ h), hK, hN⟩ hz B.returns B.notSynchronized hml (Nat.le_refl _) (Nat.le_refl _) ha_a hT_a hf _ _ _ ⟨hP, hY, va_S.rf⟩ hl
set_option maxHeartbeats 4000000 in
set_option maxRecDepth 100000 in
theorem w_X9_areSo {p : Program} {l : Launch} {e : Env} {R : Room} {s : State} {m : MethodId} {args : Array Value} {below : List Frame} {meth : Method} {c : Code} {D : va_G} {cA : Nat → ClassId} {b n : Nat} (hn : sg_okN n) {a : Nat} {x1 : Int32} {h : HP} {Rz : Int32 × HP} (hc : sg_Cx p s m args c cX9_areSo RX9 D cA) (hz : s.heap.size = b + n) (hr : meth.sig.returnType = some .boolean) (hlocks : meth.locks = false) (hml : c.maxLocals = 4) (hRf : 5 ≤ R.frames) (hRl : 122 ≤ R.locals) (ha_a : a < n) (hT_a : sg_T a = 9) (hf : F_X9_areSo a x1 h = some Rz) (H : Heap) (locs : List Loc) (ls : Array Slot) (hw : sg_Wo D b cA n s.heap h H locs) (hl : lv_has ls 4 [(0, .ref (b + a)), (1, .int x1)]) : W p l e R s m args below meth c H locs 0 0 (sg_Qi below args s D b cA n (fun r u => (r = Rz.1 ∧ u = Rz.2) ∧ narrow .boolean (.int r) = .int r)) (F0 m 0 ls []) := by
  have hx := hc.1
  have hb := hc.2.1
  have hn0 : 0 < n := sg_pos hn
  have L17 : ∀ (h : HP) (k : Nat) (x : (Int32 × Int32)), F_X9_areSo_L17 a h k x = some Rz → ∀ (H : Heap) (locs : List Loc) (ls : Array Slot), sg_Wo D b cA n s.heap h H locs → lv_has ls 4 [(0, .ref (b + a)), (2, .int x.1), (3, .int x.2)] → W p l e R s m args below meth c H locs 0 0 (sg_Qi below args s D b cA n (fun r u => (r = Rz.1 ∧ u = Rz.2) ∧ narrow .boolean (.int r) = .int r)) (F0 m 17 ls []) := by
    intro h
    unfold F_X9_areSo_L17
    refine lp_walk ?_
    intro rc17 hrc17 x hf H locs ls hw hl
    obtain ⟨x2, x3⟩ := x
    dsimp only at hf hw hl
    have J63 : ∀ (x3 : Int32) (s0 : Int32) (H : Heap) (locs : List Loc) (ls : Array Slot), F_X9_areSo_J63 a rc17 x3 s0 h = some Rz → sg_Wo D b cA n s.heap h H locs → lv_has ls 4 [(0, .ref (b + a)), (3, .int x3)] → W p l e R s m args below meth c H locs 0 0 (sg_Qi below args s D b cA n (fun r u => (r = Rz.1 ∧ u = Rz.2) ∧ narrow .boolean (.int r) = .int r)) (F0 m 63 ls [.int s0]) := by
      intro x3 s0 H locs ls hf hw hl
      unfold F_X9_areSo_J63 at hf
      refine lv_istore_n (lv' := [(2, .int s0), (0, .ref (b + a)), (3, .int x3)]) hx hb dX9_areSo_63 rfl hl (by decide) rfl (fun ls hl => ?_)
      refine lv_iinc (v := (x3 + 1)) (lv' := [(3, .int (x3 + 1)), (2, .int s0), (0, .ref (b + a))]) hx hb dX9_areSo_64 hl (k := 2) rfl rfl (by decide) rfl (fun ls hl => ?_)
      refine lv_goto (tgt := 17) hx hb dX9_areSo_67 (by decide) ?_
      exact hrc17 _ hf _ _ _ hw (lv_sub hl [2, 1, 0] rfl)
    have J62 : ∀ (x3 : Int32) (H : Heap) (locs : List Loc) (ls : Array Slot), F_X9_areSo_J62 a rc17 x3 h = some Rz → sg_Wo D b cA n s.heap h H locs → lv_has ls 4 [(0, .ref (b + a)), (3, .int x3)] → W p l e R s m args below meth c H locs 0 0 (sg_Qi below args s D b cA n (fun r u => (r = Rz.1 ∧ u = Rz.2) ∧ narrow .boolean (.int r) = .int r)) (F0 m 62 ls []) := by
      intro x3 H locs ls hf hw hl
      unfold F_X9_areSo_J62 at hf
      refine lv_iconst (v := 0) hx hb dX9_areSo_62 (by decide) ?_
      exact J63 x3 0 _ _ _ hf hw (lv_sub hl [0, 1] rfl)
    refine lv_iload_n hx hb dX9_areSo_17 rfl (lv_at hl 2 rfl) ?_
    refine lv_aload_n hx hb dX9_areSo_18 rfl (lv_at hl 0 rfl) ?_
    refine sg_geti hc hw ha_a hT_a fi_9_11 k_884 dX9_areSo_19 ?_
    refine lv_icmp_ge (tgt := 70) hx hb dX9_areSo_22 (by decide) (fun c22 => ?_) (fun c22 => ?_)
    · have hf := if_of c22 hf
      refine lv_iload_n hx hb dX9_areSo_70 rfl (lv_at hl 1 rfl) ?_
      obtain ⟨hg71, hf⟩ := gb_of hf
      cases hf
      exact sg_zret hc hw hz hn0 hr hlocks hg71 ⟨⟨rfl, rfl⟩, hg71⟩ dX9_areSo_71
    · have hf := if_no c22 hf
      refine lv_iload_n hx hb dX9_areSo_25 rfl (lv_at hl 1 rfl) ?_
      refine lv_if_eq (tgt := 62) hx hb dX9_areSo_26 (by decide) (fun c26 => ?_) (fun c26 => ?_)
      · have hf := if_of c26 hf
        exact J62 x3 _ _ _ hf hw (lv_sub hl [0, 2] rfl)
      · have hf := if_no c26 hf
        refine lv_aload_n hx hb dX9_areSo_29 rfl (lv_at hl 0 rfl) ?_
        obtain ⟨hF30, hT30, ha30, hN30⟩ := ft_9_22 hn ha_a hT_a
        refine sg_getf (q := (a + 16)) hc hw ha_a hT_a fr_9_22 (by decide) k_895 dX9_areSo_30 hF30 ?_
        refine lv_aload_n hx hb dX9_areSo_33 rfl (lv_at hl 0 rfl) ?_
        obtain ⟨hF34, hT34, ha34, hN34⟩ := ft_9_10 hn ha_a hT_a
        refine sg_getf (q := (a + 8)) hc hw ha_a hT_a fr_9_10 (by decide) k_883 dX9_areSo_34 hF34 ?_
        refine lv_iconst (v := 2) hx hb dX9_areSo_37 (by decide) ?_
        refine lv_iload_n hx hb dX9_areSo_38 rfl (lv_at hl 2 rfl) ?_
        refine lv_imul hx hb dX9_areSo_39 ?_
        obtain ⟨hg40, hf⟩ := gd_of hf
        refine sg_ild hc hw ha34 hT34 hN34 hg40 dX9_areSo_40 ?_
        obtain ⟨hg41, hf⟩ := gd_of hf
        refine sg_ild hc hw ha30 hT30 hN30 hg41 dX9_areSo_41 ?_
        obtain ⟨p42, hp42, hf⟩ := cl_of hf
        refine sg_si (rest := []) (c_X9_bits hn (h := h) hp42) hc hw hz hn0 hml hl cs_X9_174 ⟨⟨rfl, rfl⟩, Nat.le_trans (Nat.le_of_ble_eq_true rfl) hRf, Nat.le_trans (Nat.le_of_ble_eq_true rfl) hRl⟩ ⟨Nat.zero_le _, Nat.zero_le _⟩ rfl rfl (Nat.le_of_ble_eq_true rfl) dX9_areSo_42 (fun r h1 H locs hp hw => ?_)
        obtain ⟨e1, e2⟩ := hp; subst r; subst h1
        refine lv_aload_n hx hb dX9_areSo_45 rfl (lv_at hl 0 rfl) ?_
        refine sg_getf (q := (a + 8)) hc hw ha_a hT_a fr_9_10 (by decide) k_883 dX9_areSo_46 (ft_9_10 hn ha_a hT_a).1 ?_
        refine lv_iconst (v := 2) hx hb dX9_areSo_49 (by decide) ?_
        refine lv_iload_n hx hb dX9_areSo_50 rfl (lv_at hl 2 rfl) ?_
        refine lv_imul hx hb dX9_areSo_51 ?_
        refine lv_iconst (v := 1) hx hb dX9_areSo_52 (by decide) ?_
        refine lv_iadd hx hb dX9_areSo_53 ?_
        obtain ⟨hg54, hf⟩ := gd_of hf
        refine sg_ild hc hw ha34 hT34 hN34 hg54 dX9_areSo_54 ?_
        refine lv_icmp_ne (tgt := 62) hx hb dX9_areSo_55 (by decide) (fun c55 => ?_) (fun c55 => ?_)
        · have hf := if_no c55 hf
          exact J62 x3 _ _ _ hf hw (lv_sub hl [0, 2] rfl)
        · have hf := if_of c55 hf
          refine lv_iconst (v := 1) hx hb dX9_areSo_58 (by decide) ?_
          refine lv_goto (tgt := 63) hx hb dX9_areSo_59 (by decide) ?_
          exact J63 x3 1 _ _ _ hf hw (lv_sub hl [0, 2] rfl)
  unfold F_X9_areSo at hf
  refine lv_aload_n hx hb dX9_areSo_0 rfl (lv_at hl 0 rfl) ?_
  obtain ⟨p1, hp1, hf⟩ := cl_of hf
  refine sg_vv (rest := []) (c_X9_asItIs hn ha_a hT_a hp1) hc hw hz hml hl ha_a hT_a (by decide) rfl cv_X9_214 ⟨⟨rfl, rfl⟩, Nat.le_trans (Nat.le_of_ble_eq_true rfl) hRf, Nat.le_trans (Nat.le_of_ble_eq_true rfl) hRl⟩ ⟨Nat.zero_le _, Nat.zero_le _⟩ rfl rfl (Nat.le_of_ble_eq_true rfl) dX9_areSo_1 (fun h1 H locs hp hw => ?_)
  subst h1
  refine lv_aload_n hx hb dX9_areSo_4 rfl (lv_at hl 0 rfl) ?_
  refine lv_iload_n hx hb dX9_areSo_5 rfl (lv_at hl 1 rfl) ?_
  refine sg_puti hc hw ha_a hT_a fp_9_16 rfl rfl k_889 dX9_areSo_6 (fun H locs hw => ?_)
  obtain ⟨h6, hw, hf⟩ := sg_name hw hf
  refine lv_aload_n hx hb dX9_areSo_9 rfl (lv_at hl 0 rfl) ?_
  obtain ⟨p10, hp10, hf⟩ := cl_of hf
  refine sg_vv (rest := []) (c_X9_goesUp hn ha_a hT_a hp10) hc hw hz hml hl ha_a hT_a (by decide) rfl cv_X9_217 ⟨⟨rfl, rfl⟩, Nat.le_trans (Nat.le_of_ble_eq_true rfl) hRf, Nat.le_trans (Nat.le_of_ble_eq_true rfl) hRl⟩ ⟨Nat.zero_le _, Nat.zero_le _⟩ rfl rfl (Nat.le_of_ble_eq_true rfl) dX9_areSo_10 (fun h1 H locs hp hw => ?_)
  subst h1
  refine lv_iconst (v := 1) hx hb dX9_areSo_13 (by decide) ?_
  refine lv_istore_n (lv' := [(2, .int 1), (0, .ref (b + a)), (1, .int x1)]) hx hb dX9_areSo_14 rfl hl (by decide) rfl (fun ls hl => ?_)
  refine lv_iconst (v := 0) hx hb dX9_areSo_15 (by decide) ?_
  refine lv_istore_n (lv' := [(3, .int 0), (2, .int 1), (0, .ref (b + a)), (1, .int x1)]) hx hb dX9_areSo_16 rfl hl (by decide) rfl (fun ls hl => ?_)
  exact L17 _ _ _ hf _ _ _ hw (lv_sub hl [2, 1, 0] rfl)
theorem c_X9_areSo {l : Launch} {D : va_G} {cA : Nat → ClassId} {b n : Nat} (hn : sg_okN n) {a : Nat} {x1 : Int32} (ha_a : a < n) (hT_a : sg_T a = 9) {h : HP} {Rz : Int32 × HP} (hf : F_X9_areSo a x1 h = some Rz) : Met l yX9_areSo (Cond.code yX9_areSo cX9_areSo 4 (some .boolean) :: sg_tbl) ({ frames := 5, cells := 0, slots := 0, locals := 122 } : Room) (va_Pc [.ref (b + a), .int x1] (sg_Wd D b cA n h)) (va_Qi (fun r u => (r = Rz.1 ∧ u = Rz.2) ∧ narrow .boolean (.int r) = .int r) (sg_Wd D b cA n) (sg_A b)) 0 0 (sg_A b) := by
  refine Met.ofW (cc := cX9_areSo) (maxL := 4) (ret := (some .boolean)) (by decide) rfl ?_
  intro p e s m args below meth c s₁ B hml hv
  obtain ⟨rfl, hP, hK, hz, hY, hN⟩ := hv
  have hl := lv_entry [.ref (b + a), .int x1] (n := 4) (Nat.le_of_ble_eq_true rfl)
  rw [lg_entry_eq]
  exact w_X9_areSo hn ⟨B.exec, B.bytes, findClass_of_methodNamed B.named, fun w h => atoms_spec (ws := Cond.code yX9_areSo cX9_areSo 4 (some .boolean) :: sg_tbl) B.pre w (List.mem_cons_of_mem _ h), hK, hN⟩ hz B.returns B.notSynchronized hml (Nat.le_refl _) (Nat.le_refl _) ha_a hT_a hf _ _ _ ⟨hP, hY, va_S.rf⟩ hl
set_option maxHeartbeats 4000000 in
set_option maxRecDepth 100000 in
theorem w_X9_failed {p : Program} {l : Launch} {e : Env} {R : Room} {s : State} {m : MethodId} {args : Array Value} {below : List Frame} {meth : Method} {c : Code} {D : va_G} {cA : Nat → ClassId} {b n : Nat} (hn : sg_okN n) {a : Nat} {h : HP} {Rz : Int32 × HP} (hc : sg_Cx p s m args c cX9_failed RX9 D cA) (hz : s.heap.size = b + n) (hr : meth.sig.returnType = some .int) (hlocks : meth.locks = false) (hml : c.maxLocals = 3) (hRf : 6 ≤ R.frames) (hRl : 145 ≤ R.locals) (ha_a : a < n) (hT_a : sg_T a = 9) (hf : F_X9_failed a h = some Rz) (H : Heap) (locs : List Loc) (ls : Array Slot) (hw : sg_Wo D b cA n s.heap h H locs) (hl : lv_has ls 3 [(0, .ref (b + a))]) : W p l e R s m args below meth c H locs 0 0 (sg_Qi below args s D b cA n (fun r u => r = Rz.1 ∧ u = Rz.2)) (F0 m 0 ls []) := by
  have hx := hc.1
  have hb := hc.2.1
  have hn0 : 0 < n := sg_pos hn
  have L17 : ∀ (k : Nat) (x : (Int32 × Int32 × HP)), F_X9_failed_L17 a k x = some Rz → ∀ (H : Heap) (locs : List Loc) (ls : Array Slot), sg_Wo D b cA n s.heap x.2.2 H locs → lv_has ls 3 [(0, .ref (b + a)), (1, .int x.1), (2, .int x.2.1)] → W p l e R s m args below meth c H locs 0 0 (sg_Qi below args s D b cA n (fun r u => r = Rz.1 ∧ u = Rz.2)) (F0 m 17 ls []) := by
    unfold F_X9_failed_L17
    refine lp_walk ?_
    intro rc17 hrc17 x hf H locs ls hw hl
    obtain ⟨x1, x2, h⟩ := x
    dsimp only at hf hw hl
    have J43 : ∀ (x2 : Int32) (s0 : Int32) (s1 : Int32) (h : HP) (H : Heap) (locs : List Loc) (ls : Array Slot), F_X9_failed_J43 a rc17 x2 s0 s1 h = some Rz → sg_Wo D b cA n s.heap h H locs → lv_has ls 3 [(0, .ref (b + a)), (2, .int x2)] → W p l e R s m args below meth c H locs 0 0 (sg_Qi below args s D b cA n (fun r u => r = Rz.1 ∧ u = Rz.2)) (F0 m 43 ls [.int s0, .int s1]) := by
      intro x2 s0 s1 h H locs ls hf hw hl
      unfold F_X9_failed_J43 at hf
      refine lv_ior hx hb dX9_failed_43 ?_
      refine lv_topi (fun v44 e44 => ?_)
      have hf := nm_of e44 hf
      refine lv_istore_n (lv' := [(1, .int v44), (0, .ref (b + a)), (2, .int x2)]) hx hb dX9_failed_44 rfl hl (by decide) rfl (fun ls hl => ?_)
      refine lv_iinc (v := (x2 + 1)) (lv' := [(2, .int (x2 + 1)), (1, .int v44), (0, .ref (b + a))]) hx hb dX9_failed_45 hl (k := 2) rfl rfl (by decide) rfl (fun ls hl => ?_)
      refine lv_goto (tgt := 17) hx hb dX9_failed_48 (by decide) ?_
      exact hrc17 _ hf _ _ _ hw (lv_sub hl [2, 1, 0] rfl)
    refine lv_iload_n hx hb dX9_failed_17 rfl (lv_at hl 2 rfl) ?_
    refine lv_aload_n hx hb dX9_failed_18 rfl (lv_at hl 0 rfl) ?_
    obtain ⟨hF19, hT19, ha19, hN19⟩ := ft_9_0 hn ha_a hT_a
    refine sg_getf (q := (a + 1)) hc hw ha_a hT_a fr_9_0 (by decide) k_873 dX9_failed_19 hF19 ?_
    refine lv_iconst (v := 1) hx hb dX9_failed_22 (by decide) ?_
    refine sg_ild hc hw ha19 hT19 hN19 (show vp_in 1 34 by unfold vp_in; decide) dX9_failed_23 ?_
    refine lv_icmp_ge (tgt := 51) hx hb dX9_failed_24 (by decide) (fun c24 => ?_) (fun c24 => ?_)
    · have hf := if_of c24 hf
      refine lv_iload_n hx hb dX9_failed_51 rfl (lv_at hl 1 rfl) ?_
      cases hf
      exact sg_iret hc hw hz hn0 hr hlocks ⟨rfl, rfl⟩ dX9_failed_52
    · have hf := if_no c24 hf
      refine lv_iload_n hx hb dX9_failed_27 rfl (lv_at hl 1 rfl) ?_
      refine lv_aload_n hx hb dX9_failed_28 rfl (lv_at hl 0 rfl) ?_
      refine lv_iload_n hx hb dX9_failed_29 rfl (lv_at hl 2 rfl) ?_
      obtain ⟨p30, hp30, hf⟩ := cl_of hf
      refine sg_vi (rest := [.int x1]) (c_X9_areSo hn ha_a hT_a hp30) hc hw hz hml hl ha_a hT_a (by decide) rfl cv_X9_274 ⟨⟨rfl, rfl⟩, Nat.le_trans (Nat.le_of_ble_eq_true rfl) hRf, Nat.le_trans (Nat.le_of_ble_eq_true rfl) hRl⟩ ⟨Nat.zero_le _, Nat.zero_le _⟩ rfl rfl (Nat.le_of_ble_eq_true rfl) dX9_failed_30 (fun r h1 H locs hp hw => ?_)
      obtain ⟨⟨e1, e2⟩, hb30⟩ := hp; subst r; subst h1
      refine lv_if_eq (tgt := 42) hx hb dX9_failed_33 (by decide) (fun c33 => ?_) (fun c33 => ?_)
      · have hf := if_of c33 hf
        refine lv_iconst (v := 0) hx hb dX9_failed_42 (by decide) ?_
        exact J43 x2 0 x1 _ _ _ _ hf hw (lv_sub hl [0, 2] rfl)
      · have hf := if_no c33 hf
        refine lv_iconst (v := 1) hx hb dX9_failed_36 (by decide) ?_
        refine lv_iload_n hx hb dX9_failed_37 rfl (lv_at hl 2 rfl) ?_
        refine lv_ishl hx hb dX9_failed_38 ?_
        refine lv_goto (tgt := 43) hx hb dX9_failed_39 (by decide) ?_
        exact J43 x2 (1 <<< (x2 &&& 31)) x1 _ _ _ _ hf hw (lv_sub hl [0, 2] rfl)
  have J14 : ∀ (s0 : Int32) (h : HP) (H : Heap) (locs : List Loc) (ls : Array Slot), F_X9_failed_J14 a s0 h = some Rz → sg_Wo D b cA n s.heap h H locs → lv_has ls 3 [(0, .ref (b + a))] → W p l e R s m args below meth c H locs 0 0 (sg_Qi below args s D b cA n (fun r u => r = Rz.1 ∧ u = Rz.2)) (F0 m 14 ls [.int s0]) := by
    intro s0 h H locs ls hf hw hl
    unfold F_X9_failed_J14 at hf
    refine lv_istore_n (lv' := [(1, .int s0), (0, .ref (b + a))]) hx hb dX9_failed_14 rfl hl (by decide) rfl (fun ls hl => ?_)
    refine lv_iconst (v := 0) hx hb dX9_failed_15 (by decide) ?_
    refine lv_istore_n (lv' := [(2, .int 0), (1, .int s0), (0, .ref (b + a))]) hx hb dX9_failed_16 rfl hl (by decide) rfl (fun ls hl => ?_)
    exact L17 _ _ hf _ _ _ hw (lv_sub hl [2, 1, 0] rfl)
  unfold F_X9_failed at hf
  refine lv_aload_n hx hb dX9_failed_0 rfl (lv_at hl 0 rfl) ?_
  refine lv_iconst (v := (-1)) hx hb dX9_failed_1 (by decide) ?_
  obtain ⟨p2, hp2, hf⟩ := cl_of hf
  refine sg_vi (rest := []) (c_X9_areSo hn ha_a hT_a hp2) hc hw hz hml hl ha_a hT_a (by decide) rfl cv_X9_274 ⟨⟨rfl, rfl⟩, Nat.le_trans (Nat.le_of_ble_eq_true rfl) hRf, Nat.le_trans (Nat.le_of_ble_eq_true rfl) hRl⟩ ⟨Nat.zero_le _, Nat.zero_le _⟩ rfl rfl (Nat.le_of_ble_eq_true rfl) dX9_failed_2 (fun r h1 H locs hp hw => ?_)
  obtain ⟨⟨e1, e2⟩, hb2⟩ := hp; subst r; subst h1
  refine lv_if_eq (tgt := 13) hx hb dX9_failed_5 (by decide) (fun c5 => ?_) (fun c5 => ?_)
  · have hf := if_of c5 hf
    refine lv_iconst (v := 0) hx hb dX9_failed_13 (by decide) ?_
    exact J14 0 _ _ _ _ hf hw (lv_sub hl [0] rfl)
  · have hf := if_no c5 hf
    refine lv_bipush (v := 64) hx hb dX9_failed_8 (by decide) ?_
    refine lv_goto (tgt := 14) hx hb dX9_failed_10 (by decide) ?_
    exact J14 64 _ _ _ _ hf hw (lv_sub hl [0] rfl)
theorem c_X9_failed {l : Launch} {D : va_G} {cA : Nat → ClassId} {b n : Nat} (hn : sg_okN n) {a : Nat} (ha_a : a < n) (hT_a : sg_T a = 9) {h : HP} {Rz : Int32 × HP} (hf : F_X9_failed a h = some Rz) : Met l yX9_failed (Cond.code yX9_failed cX9_failed 3 (some .int) :: sg_tbl) ({ frames := 6, cells := 0, slots := 0, locals := 145 } : Room) (va_Pc [.ref (b + a)] (sg_Wd D b cA n h)) (va_Qi (fun r u => r = Rz.1 ∧ u = Rz.2) (sg_Wd D b cA n) (sg_A b)) 0 0 (sg_A b) := by
  refine Met.ofW (cc := cX9_failed) (maxL := 3) (ret := (some .int)) (by decide) rfl ?_
  intro p e s m args below meth c s₁ B hml hv
  obtain ⟨rfl, hP, hK, hz, hY, hN⟩ := hv
  have hl := lv_entry [.ref (b + a)] (n := 3) (Nat.le_of_ble_eq_true rfl)
  rw [lg_entry_eq]
  exact w_X9_failed hn ⟨B.exec, B.bytes, findClass_of_methodNamed B.named, fun w h => atoms_spec (ws := Cond.code yX9_failed cX9_failed 3 (some .int) :: sg_tbl) B.pre w (List.mem_cons_of_mem _ h), hK, hN⟩ hz B.returns B.notSynchronized hml (Nat.le_refl _) (Nat.le_refl _) ha_a hT_a hf _ _ _ ⟨hP, hY, va_S.rf⟩ hl
set_option maxHeartbeats 4000000 in
set_option maxRecDepth 100000 in
theorem w_X9_odds {p : Program} {l : Launch} {e : Env} {R : Room} {s : State} {m : MethodId} {args : Array Value} {below : List Frame} {meth : Method} {c : Code} {D : va_G} {cA : Nat → ClassId} {b n : Nat} (hn : sg_okN n) {a : Nat} {x1 : Int32} {x2 : Int32} {x3 : Int32} {h : HP} {Rz : Int32 × HP} (hc : sg_Cx p s m args c cX9_odds RX9 D cA) (hz : s.heap.size = b + n) (hr : meth.sig.returnType = some .int) (hlocks : meth.locks = false) (hml : c.maxLocals = 14) (hRf : 5 ≤ R.frames) (hRl : 122 ≤ R.locals) (ha_a : a < n) (hT_a : sg_T a = 9) (hf : F_X9_odds a x1 x2 x3 h = some Rz) (H : Heap) (locs : List Loc) (ls : Array Slot) (hw : sg_Wo D b cA n s.heap h H locs) (hl : lv_has ls 14 [(0, .ref (b + a)), (1, .int x1), (2, .int x2), (3, .int x3)]) : W p l e R s m args below meth c H locs 0 0 (sg_Qi below args s D b cA n (fun r u => r = Rz.1 ∧ u = Rz.2)) (F0 m 0 ls []) := by
  have hx := hc.1
  have hb := hc.2.1
  have hn0 : 0 < n := sg_pos hn
  have J258 : ∀ (z5 : Int64) (z7 : Int64) (h : HP) (H : Heap) (locs : List Loc) (ls : Array Slot), F_X9_odds_J258 a x3 z5 z7 h = some Rz → sg_Wo D b cA n s.heap h H locs → lv_has ls 14 [(3, .int x3), (5, .long z5), (7, .long z7)] → W p l e R s m args below meth c H locs 0 0 (sg_Qi below args s D b cA n (fun r u => r = Rz.1 ∧ u = Rz.2)) (F0 m 258 ls []) := by
    intro z5 z7 h H locs ls hf hw hl
    unfold F_X9_odds_J258 at hf
    refine lv_lload hx hb dX9_odds_258 (lv_at hl 1 rfl) ?_
    refine lv_lload hx hb dX9_odds_260 (lv_at hl 2 rfl) ?_
    refine lv_iload_n hx hb dX9_odds_262 rfl (lv_at hl 0 rfl) ?_
    obtain ⟨p263, hp263, hf⟩ := cl_of hf
    refine sg_si (rest := []) (c_X9_fraction hn (h := h) hp263) hc hw hz hn0 hml hl cs_X9_228 ⟨⟨rfl, rfl⟩, Nat.le_trans (Nat.le_of_ble_eq_true rfl) hRf, Nat.le_trans (Nat.le_of_ble_eq_true rfl) hRl⟩ ⟨Nat.zero_le _, Nat.zero_le _⟩ rfl rfl (Nat.le_of_ble_eq_true rfl) dX9_odds_263 (fun r h1 H locs hp hw => ?_)
    obtain ⟨e1, e2⟩ := hp; subst r; subst h1
    cases hf
    exact sg_iret hc hw hz hn0 hr hlocks ⟨rfl, rfl⟩ dX9_odds_266
  have L88 : ∀ (x4 : Int32) (z7 : Int64) (k : Nat) (x : (Int64 × Int32 × HP)), F_X9_odds_L88 a x2 x3 x4 z7 k x = some Rz → ∀ (H : Heap) (locs : List Loc) (ls : Array Slot), sg_Wo D b cA n s.heap x.2.2 H locs → lv_has ls 14 [(0, .ref (b + a)), (2, .int x2), (3, .int x3), (4, .int x4), (5, .long x.1), (7, .long z7), (9, .int x.2.1)] → W p l e R s m args below meth c H locs 0 0 (sg_Qi below args s D b cA n (fun r u => r = Rz.1 ∧ u = Rz.2)) (F0 m 88 ls []) := by
    intro x4 z7
    unfold F_X9_odds_L88
    refine lp_walk ?_
    intro rc88 hrc88 x hf H locs ls hw hl
    obtain ⟨z5, x9, h⟩ := x
    dsimp only at hf hw hl
    have J249 : ∀ (x9 : Int32) (s0 : Int64) (s1 : Int64) (h : HP) (H : Heap) (locs : List Loc) (ls : Array Slot), F_X9_odds_J249 a rc88 x2 x3 x4 z7 x9 s0 s1 h = some Rz → sg_Wo D b cA n s.heap h H locs → lv_has ls 14 [(0, .ref (b + a)), (2, .int x2), (3, .int x3), (4, .int x4), (7, .long z7), (9, .int x9)] → W p l e R s m args below meth c H locs 0 0 (sg_Qi below args s D b cA n (fun r u => r = Rz.1 ∧ u = Rz.2)) (F0 m 249 ls [.long s0, .long s1]) := by
      intro x9 s0 s1 h H locs ls hf hw hl
      unfold F_X9_odds_J249 at hf
      refine lv_ladd hx hb dX9_odds_249 ?_
      refine lv_topl (fun v250 e250 => ?_)
      have hf := nm_of e250 hf
      refine lv_lstore (lv' := [(5, .long v250), (0, .ref (b + a)), (2, .int x2), (3, .int x3), (4, .int x4), (7, .long z7), (9, .int x9)]) hx hb dX9_odds_250 hl (by decide) rfl (fun ls hl => ?_)
      refine lv_iinc (v := (x9 + 1)) (lv' := [(9, .int (x9 + 1)), (5, .long v250), (0, .ref (b + a)), (2, .int x2), (3, .int x3), (4, .int x4), (7, .long z7)]) hx hb dX9_odds_252 hl (k := 6) rfl rfl (by decide) rfl (fun ls hl => ?_)
      refine lv_goto (tgt := 88) hx hb dX9_odds_255 (by decide) ?_
      exact hrc88 _ hf _ _ _ hw (lv_sub hl [2, 3, 4, 5, 1, 6, 0] rfl)
    have J228 : ∀ (z5 : Int64) (x9 : Int32) (z10 : Int64) (h : HP) (H : Heap) (locs : List Loc) (ls : Array Slot), F_X9_odds_J228 a rc88 x2 x3 x4 z5 z7 x9 z10 h = some Rz → sg_Wo D b cA n s.heap h H locs → lv_has ls 14 [(0, .ref (b + a)), (2, .int x2), (3, .int x3), (4, .int x4), (5, .long z5), (7, .long z7), (9, .int x9), (10, .long z10)] → W p l e R s m args below meth c H locs 0 0 (sg_Qi below args s D b cA n (fun r u => r = Rz.1 ∧ u = Rz.2)) (F0 m 228 ls []) := by
      intro z5 x9 z10 h H locs ls hf hw hl
      unfold F_X9_odds_J228 at hf
      refine lv_aload_n hx hb dX9_odds_228 rfl (lv_at hl 0 rfl) ?_
      obtain ⟨p229, hp229, hf⟩ := cl_of hf
      refine sg_vv (rest := []) (c_X9_goesUp hn ha_a hT_a hp229) hc hw hz hml hl ha_a hT_a (by decide) rfl cv_X9_217 ⟨⟨rfl, rfl⟩, Nat.le_trans (Nat.le_of_ble_eq_true rfl) hRf, Nat.le_trans (Nat.le_of_ble_eq_true rfl) hRl⟩ ⟨Nat.zero_le _, Nat.zero_le _⟩ rfl rfl (Nat.le_of_ble_eq_true rfl) dX9_odds_229 (fun h1 H locs hp hw => ?_)
      subst h1
      refine lv_lload hx hb dX9_odds_232 (lv_at hl 4 rfl) ?_
      refine lv_aload_n hx hb dX9_odds_234 rfl (lv_at hl 0 rfl) ?_
      refine sg_geti hc hw ha_a hT_a fi_9_23 k_896 dX9_odds_235 ?_
      refine lv_bipush (v := (-4)) hx hb dX9_odds_238 (by decide) ?_
      refine lv_icmp_ne (tgt := 248) hx hb dX9_odds_240 (by decide) (fun c240 => ?_) (fun c240 => ?_)
      · have hf := if_no c240 hf
        refine lv_lconst (v := 0) hx hb dX9_odds_248 (by decide) ?_
        exact J249 x9 0 z5 _ _ _ _ hf hw (lv_sub hl [0, 1, 2, 3, 5, 6] rfl)
      · have hf := if_of c240 hf
        refine lv_lload hx hb dX9_odds_243 (lv_at hl 7 rfl) ?_
        refine lv_goto (tgt := 249) hx hb dX9_odds_245 (by decide) ?_
        exact J249 x9 z10 z5 _ _ _ _ hf hw (lv_sub hl [0, 1, 2, 3, 5, 6] rfl)
    have L114 : ∀ (z5 : Int64) (x9 : Int32) (k : Nat) (x : (Int64 × Int32 × HP)), F_X9_odds_L114 a rc88 x2 x3 x4 z5 z7 x9 k x = some Rz → ∀ (H : Heap) (locs : List Loc) (ls : Array Slot), sg_Wo D b cA n s.heap x.2.2 H locs → lv_has ls 14 [(0, .ref (b + a)), (2, .int x2), (3, .int x3), (4, .int x4), (5, .long z5), (7, .long z7), (9, .int x9), (10, .long x.1), (12, .int x.2.1)] → W p l e R s m args below meth c H locs 0 0 (sg_Qi below args s D b cA n (fun r u => r = Rz.1 ∧ u = Rz.2)) (F0 m 114 ls []) := by
      intro z5 x9
      unfold F_X9_odds_L114
      refine lp_walk ?_
      intro rc114 hrc114 x hf H locs ls hw hl
      obtain ⟨z10, x12, h⟩ := x
      dsimp only at hf hw hl
      have J219 : ∀ (x12 : Int32) (s0 : Int64) (s1 : Int64) (h : HP) (H : Heap) (locs : List Loc) (ls : Array Slot), F_X9_odds_J219 a rc88 rc114 x2 x3 x4 z5 z7 x9 x12 s0 s1 h = some Rz → sg_Wo D b cA n s.heap h H locs → lv_has ls 14 [(0, .ref (b + a)), (2, .int x2), (3, .int x3), (4, .int x4), (5, .long z5), (7, .long z7), (9, .int x9), (12, .int x12)] → W p l e R s m args below meth c H locs 0 0 (sg_Qi below args s D b cA n (fun r u => r = Rz.1 ∧ u = Rz.2)) (F0 m 219 ls [.long s0, .long s1]) := by
        intro x12 s0 s1 h H locs ls hf hw hl
        unfold F_X9_odds_J219 at hf
        refine lv_lmul hx hb dX9_odds_219 ?_
        refine lv_topl (fun v220 e220 => ?_)
        have hf := nm_of e220 hf
        refine lv_lstore (lv' := [(10, .long v220), (0, .ref (b + a)), (2, .int x2), (3, .int x3), (4, .int x4), (5, .long z5), (7, .long z7), (9, .int x9), (12, .int x12)]) hx hb dX9_odds_220 hl (by decide) rfl (fun ls hl => ?_)
        refine lv_iinc (v := (x12 + 1)) (lv' := [(12, .int (x12 + 1)), (10, .long v220), (0, .ref (b + a)), (2, .int x2), (3, .int x3), (4, .int x4), (5, .long z5), (7, .long z7), (9, .int x9)]) hx hb dX9_odds_222 hl (k := 8) rfl rfl (by decide) rfl (fun ls hl => ?_)
        refine lv_goto (tgt := 114) hx hb dX9_odds_225 (by decide) ?_
        exact hrc114 _ hf _ _ _ hw (lv_sub hl [2, 3, 4, 5, 6, 7, 8, 1, 0] rfl)
      have J190 : ∀ (z10 : Int64) (x12 : Int32) (x13 : Int32) (h : HP) (H : Heap) (locs : List Loc) (ls : Array Slot), F_X9_odds_J190 a rc88 rc114 x2 x3 x4 z5 z7 x9 z10 x12 x13 h = some Rz → sg_Wo D b cA n s.heap h H locs → lv_has ls 14 [(0, .ref (b + a)), (2, .int x2), (3, .int x3), (4, .int x4), (5, .long z5), (7, .long z7), (9, .int x9), (10, .long z10), (12, .int x12), (13, .int x13)] → W p l e R s m args below meth c H locs 0 0 (sg_Qi below args s D b cA n (fun r u => r = Rz.1 ∧ u = Rz.2)) (F0 m 190 ls []) := by
        intro z10 x12 x13 h H locs ls hf hw hl
        unfold F_X9_odds_J190 at hf
        refine lv_lload hx hb dX9_odds_190 (lv_at hl 7 rfl) ?_
        refine lv_iload hx hb dX9_odds_192 (lv_at hl 8 rfl) ?_
        refine lv_iload hx hb dX9_odds_194 (lv_at hl 3 rfl) ?_
        refine lv_icmp_lt (tgt := 203) hx hb dX9_odds_196 (by decide) (fun c196 => ?_) (fun c196 => ?_)
        · have hf := if_of c196 hf
          refine lv_iload hx hb dX9_odds_203 (lv_at hl 9 rfl) ?_
          refine lv_if_eq (tgt := 217) hx hb dX9_odds_205 (by decide) (fun c205 => ?_) (fun c205 => ?_)
          · have hf := if_of c205 hf
            refine lv_iload_n hx hb dX9_odds_217 rfl (lv_at hl 1 rfl) ?_
            refine lv_i2l hx hb dX9_odds_218 rfl ?_
            exact J219 x12 (x2.toInt64) z10 _ _ _ _ hf hw (lv_sub hl [0, 1, 2, 3, 4, 5, 6, 8] rfl)
          · have hf := if_no c205 hf
            refine lv_ldc2 hx hb hc.2.2.1 (hc.2.2.2.1 _ k_1209) dX9_odds_208 ?_
            refine lv_iload_n hx hb dX9_odds_211 rfl (lv_at hl 1 rfl) ?_
            refine lv_i2l hx hb dX9_odds_212 rfl ?_
            refine lv_lsub hx hb dX9_odds_213 ?_
            refine lv_goto (tgt := 219) hx hb dX9_odds_214 (by decide) ?_
            exact J219 x12 (10 - x2.toInt64) z10 _ _ _ _ hf hw (lv_sub hl [0, 1, 2, 3, 4, 5, 6, 8] rfl)
        · have hf := if_no c196 hf
          refine lv_lconst (v := 1) hx hb dX9_odds_199 (by decide) ?_
          refine lv_goto (tgt := 219) hx hb dX9_odds_200 (by decide) ?_
          exact J219 x12 1 z10 _ _ _ _ hf hw (lv_sub hl [0, 1, 2, 3, 4, 5, 6, 8] rfl)
      have J147 : ∀ (z10 : Int64) (x12 : Int32) (s0 : Int32) (h : HP) (H : Heap) (locs : List Loc) (ls : Array Slot), F_X9_odds_J147 a rc88 rc114 x2 x3 x4 z5 z7 x9 z10 x12 s0 h = some Rz → sg_Wo D b cA n s.heap h H locs → lv_has ls 14 [(0, .ref (b + a)), (2, .int x2), (3, .int x3), (4, .int x4), (5, .long z5), (7, .long z7), (9, .int x9), (10, .long z10), (12, .int x12)] → W p l e R s m args below meth c H locs 0 0 (sg_Qi below args s D b cA n (fun r u => r = Rz.1 ∧ u = Rz.2)) (F0 m 147 ls [.int s0]) := by
        intro z10 x12 s0 h H locs ls hf hw hl
        unfold F_X9_odds_J147 at hf
        refine lv_istore (lv' := [(13, .int s0), (0, .ref (b + a)), (2, .int x2), (3, .int x3), (4, .int x4), (5, .long z5), (7, .long z7), (9, .int x9), (10, .long z10), (12, .int x12)]) hx hb dX9_odds_147 hl (by decide) rfl (fun ls hl => ?_)
        refine lv_iload hx hb dX9_odds_149 (lv_at hl 0 rfl) ?_
        refine lv_if_eq (tgt := 190) hx hb dX9_odds_151 (by decide) (fun c151 => ?_) (fun c151 => ?_)
        · have hf := if_of c151 hf
          exact J190 z10 x12 s0 _ _ _ _ hf hw (lv_sub hl [1, 2, 3, 4, 5, 6, 7, 8, 9, 0] rfl)
        · have hf := if_no c151 hf
          refine lv_aload_n hx hb dX9_odds_154 rfl (lv_at hl 1 rfl) ?_
          obtain ⟨hF155, hT155, ha155, hN155⟩ := ft_9_15 hn ha_a hT_a
          refine sg_getf (q := (a + 11)) hc hw ha_a hT_a fr_9_15 (by decide) k_888 dX9_odds_155 hF155 ?_
          refine lv_aload_n hx hb dX9_odds_158 rfl (lv_at hl 1 rfl) ?_
          obtain ⟨hF159, hT159, ha159, hN159⟩ := ft_9_2 hn ha_a hT_a
          refine sg_getf (q := (a + 3)) hc hw ha_a hT_a fr_9_2 (by decide) k_875 dX9_odds_159 hF159 ?_
          refine lv_iconst (v := 1) hx hb dX9_odds_162 (by decide) ?_
          refine lv_iload hx hb dX9_odds_163 (lv_at hl 9 rfl) ?_
          refine lv_iadd hx hb dX9_odds_165 ?_
          obtain ⟨hg166, hf⟩ := gd_of hf
          refine sg_ild hc hw ha159 hT159 hN159 hg166 dX9_odds_166 ?_
          refine lv_aload_n hx hb dX9_odds_167 rfl (lv_at hl 1 rfl) ?_
          refine sg_getf (q := (a + 3)) hc hw ha_a hT_a fr_9_2 (by decide) k_875 dX9_odds_168 (ft_9_2 hn ha_a hT_a).1 ?_
          refine lv_bipush (v := 11) hx hb dX9_odds_171 (by decide) ?_
          refine lv_iload hx hb dX9_odds_173 (lv_at hl 9 rfl) ?_
          refine lv_iadd hx hb dX9_odds_175 ?_
          obtain ⟨hg176, hf⟩ := gd_of hf
          refine sg_ild hc hw ha159 hT159 hN159 hg176 dX9_odds_176 ?_
          refine lv_aload_n hx hb dX9_odds_177 rfl (lv_at hl 1 rfl) ?_
          refine sg_getf (q := (a + 3)) hc hw ha_a hT_a fr_9_2 (by decide) k_875 dX9_odds_178 (ft_9_2 hn ha_a hT_a).1 ?_
          refine lv_bipush (v := 21) hx hb dX9_odds_181 (by decide) ?_
          refine lv_iload hx hb dX9_odds_183 (lv_at hl 9 rfl) ?_
          refine lv_iadd hx hb dX9_odds_185 ?_
          obtain ⟨hg186, hf⟩ := gd_of hf
          refine sg_ild hc hw ha159 hT159 hN159 hg186 dX9_odds_186 ?_
          obtain ⟨p187, hp187, hf⟩ := cl_of hf
          refine sg_sv' (rest := []) (c_X9_adds hn ha155 hT155 hp187) hc hw hz hn0 hml hl cs_X9_244 ⟨⟨rfl, rfl⟩, Nat.le_trans (Nat.le_of_ble_eq_true rfl) hRf, Nat.le_trans (Nat.le_of_ble_eq_true rfl) hRl⟩ ⟨Nat.zero_le _, Nat.zero_le _⟩ rfl rfl (Nat.le_of_ble_eq_true rfl) dX9_odds_187 (fun h1 H locs hp hw => ?_)
          subst h1
          exact J190 z10 x12 s0 _ _ _ _ hf hw (lv_sub hl [1, 2, 3, 4, 5, 6, 7, 8, 9, 0] rfl)
      have J142 : ∀ (z10 : Int64) (x12 : Int32) (h : HP) (H : Heap) (locs : List Loc) (ls : Array Slot), F_X9_odds_J142 a rc88 rc114 x2 x3 x4 z5 z7 x9 z10 x12 h = some Rz → sg_Wo D b cA n s.heap h H locs → lv_has ls 14 [(0, .ref (b + a)), (2, .int x2), (3, .int x3), (4, .int x4), (5, .long z5), (7, .long z7), (9, .int x9), (10, .long z10), (12, .int x12)] → W p l e R s m args below meth c H locs 0 0 (sg_Qi below args s D b cA n (fun r u => r = Rz.1 ∧ u = Rz.2)) (F0 m 142 ls []) := by
        intro z10 x12 h H locs ls hf hw hl
        unfold F_X9_odds_J142 at hf
        refine lv_iconst (v := 1) hx hb dX9_odds_142 (by decide) ?_
        refine lv_goto (tgt := 147) hx hb dX9_odds_143 (by decide) ?_
        exact J147 z10 x12 1 _ _ _ _ hf hw (lv_sub hl [0, 1, 2, 3, 4, 5, 6, 7, 8] rfl)
      refine lv_iload hx hb dX9_odds_114 (lv_at hl 8 rfl) ?_
      refine lv_aload_n hx hb dX9_odds_116 rfl (lv_at hl 0 rfl) ?_
      obtain ⟨hF117, hT117, ha117, hN117⟩ := ft_9_2 hn ha_a hT_a
      refine sg_getf (q := (a + 3)) hc hw ha_a hT_a fr_9_2 (by decide) k_875 dX9_odds_117 hF117 ?_
      refine lv_iconst (v := 0) hx hb dX9_odds_120 (by decide) ?_
      refine sg_ild hc hw ha117 hT117 hN117 (show vp_in 0 31 by unfold vp_in; decide) dX9_odds_121 ?_
      refine lv_icmp_ge (tgt := 228) hx hb dX9_odds_122 (by decide) (fun c122 => ?_) (fun c122 => ?_)
      · have hf := if_of c122 hf
        exact J228 z5 x9 z10 _ _ _ _ hf hw (lv_sub hl [0, 1, 2, 3, 4, 5, 6, 7] rfl)
      · have hf := if_no c122 hf
        refine lv_iload hx hb dX9_odds_125 (lv_at hl 8 rfl) ?_
        refine lv_iload hx hb dX9_odds_127 (lv_at hl 3 rfl) ?_
        refine lv_icmp_ge (tgt := 142) hx hb dX9_odds_129 (by decide) (fun c129 => ?_) (fun c129 => ?_)
        · have hf := if_of c129 hf
          exact J142 z10 x12 _ _ _ _ hf hw (lv_sub hl [0, 1, 2, 3, 4, 5, 6, 7, 8] rfl)
        · have hf := if_no c129 hf
          refine lv_iload hx hb dX9_odds_132 (lv_at hl 6 rfl) ?_
          refine lv_iload hx hb dX9_odds_134 (lv_at hl 8 rfl) ?_
          obtain ⟨p136, hp136, hf⟩ := cl_of hf
          refine sg_si (rest := []) (c_X9_has hn (h := h) hp136) hc hw hz hn0 hml hl cs_X9_166 ⟨⟨rfl, rfl⟩, Nat.le_trans (Nat.le_of_ble_eq_true rfl) hRf, Nat.le_trans (Nat.le_of_ble_eq_true rfl) hRl⟩ ⟨Nat.zero_le _, Nat.zero_le _⟩ rfl rfl (Nat.le_of_ble_eq_true rfl) dX9_odds_136 (fun r h1 H locs hp hw => ?_)
          obtain ⟨⟨e1, e2⟩, hb136⟩ := hp; subst r; subst h1
          refine lv_if_ne (tgt := 146) hx hb dX9_odds_139 (by decide) (fun c139 => ?_) (fun c139 => ?_)
          · have hf := if_no c139 hf
            refine lv_iconst (v := 0) hx hb dX9_odds_146 (by decide) ?_
            exact J147 z10 x12 0 _ _ _ _ hf hw (lv_sub hl [0, 1, 2, 3, 4, 5, 6, 7, 8] rfl)
          · have hf := if_of c139 hf
            exact J142 z10 x12 _ _ _ _ hf hw (lv_sub hl [0, 1, 2, 3, 4, 5, 6, 7, 8] rfl)
    refine lv_iload hx hb dX9_odds_88 (lv_at hl 6 rfl) ?_
    refine lv_iconst (v := 1) hx hb dX9_odds_90 (by decide) ?_
    refine lv_iload hx hb dX9_odds_91 (lv_at hl 3 rfl) ?_
    refine lv_ishl hx hb dX9_odds_93 ?_
    refine lv_icmp_ge (tgt := 258) hx hb dX9_odds_94 (by decide) (fun c94 => ?_) (fun c94 => ?_)
    · have hf := if_of c94 hf
      exact J258 z5 z7 _ _ _ _ hf hw (lv_sub hl [2, 4, 5] rfl)
    · have hf := if_no c94 hf
      refine lv_aload_n hx hb dX9_odds_97 rfl (lv_at hl 0 rfl) ?_
      obtain ⟨p98, hp98, hf⟩ := cl_of hf
      refine sg_vv (rest := []) (c_X9_asItIs hn ha_a hT_a hp98) hc hw hz hml hl ha_a hT_a (by decide) rfl cv_X9_214 ⟨⟨rfl, rfl⟩, Nat.le_trans (Nat.le_of_ble_eq_true rfl) hRf, Nat.le_trans (Nat.le_of_ble_eq_true rfl) hRl⟩ ⟨Nat.zero_le _, Nat.zero_le _⟩ rfl rfl (Nat.le_of_ble_eq_true rfl) dX9_odds_98 (fun h1 H locs hp hw => ?_)
      subst h1
      refine lv_lconst (v := 1) hx hb dX9_odds_101 (by decide) ?_
      refine lv_lstore (lv' := [(10, .long 1), (0, .ref (b + a)), (2, .int x2), (3, .int x3), (4, .int x4), (5, .long z5), (7, .long z7), (9, .int x9)]) hx hb dX9_odds_102 hl (by decide) rfl (fun ls hl => ?_)
      refine lv_aload_n hx hb dX9_odds_104 rfl (lv_at hl 1 rfl) ?_
      obtain ⟨hF105, hT105, ha105, hN105⟩ := ft_9_15 hn ha_a hT_a
      refine sg_getf (q := (a + 11)) hc hw ha_a hT_a fr_9_15 (by decide) k_888 dX9_odds_105 hF105 ?_
      refine lv_iconst (v := 0) hx hb dX9_odds_108 (by decide) ?_
      refine lv_iconst (v := 0) hx hb dX9_odds_109 (by decide) ?_
      refine sg_ist hc hw ha105 hT105 hN105 (show vp_in 0 31 by unfold vp_in; decide) dX9_odds_110 (fun H locs hw => ?_)
      obtain ⟨h110, hw, hf⟩ := sg_name hw hf
      refine lv_iconst (v := 0) hx hb dX9_odds_111 (by decide) ?_
      refine lv_istore (lv' := [(12, .int 0), (10, .long 1), (0, .ref (b + a)), (2, .int x2), (3, .int x3), (4, .int x4), (5, .long z5), (7, .long z7), (9, .int x9)]) hx hb dX9_odds_112 hl (by decide) rfl (fun ls hl => ?_)
      exact L114 z5 x9 _ _ hf _ _ _ hw (lv_sub hl [2, 3, 4, 5, 6, 7, 8, 1, 0] rfl)
  have J85 : ∀ (x4 : Int32) (z5 : Int64) (z7 : Int64) (h : HP) (H : Heap) (locs : List Loc) (ls : Array Slot), F_X9_odds_J85 a x2 x3 x4 z5 z7 h = some Rz → sg_Wo D b cA n s.heap h H locs → lv_has ls 14 [(0, .ref (b + a)), (2, .int x2), (3, .int x3), (4, .int x4), (5, .long z5), (7, .long z7)] → W p l e R s m args below meth c H locs 0 0 (sg_Qi below args s D b cA n (fun r u => r = Rz.1 ∧ u = Rz.2)) (F0 m 85 ls []) := by
    intro x4 z5 z7 h H locs ls hf hw hl
    unfold F_X9_odds_J85 at hf
    refine lv_iconst (v := 0) hx hb dX9_odds_85 (by decide) ?_
    refine lv_istore (lv' := [(9, .int 0), (0, .ref (b + a)), (2, .int x2), (3, .int x3), (4, .int x4), (5, .long z5), (7, .long z7)]) hx hb dX9_odds_86 hl (by decide) rfl (fun ls hl => ?_)
    exact L88 x4 z7 _ _ hf _ _ _ hw (lv_sub hl [1, 2, 3, 4, 5, 6, 0] rfl)
  have L64 : ∀ (x4 : Int32) (z5 : Int64) (h : HP) (k : Nat) (x : (Int64 × Int32)), F_X9_odds_L64 a x2 x3 x4 z5 h k x = some Rz → ∀ (H : Heap) (locs : List Loc) (ls : Array Slot), sg_Wo D b cA n s.heap h H locs → lv_has ls 14 [(0, .ref (b + a)), (2, .int x2), (3, .int x3), (4, .int x4), (5, .long z5), (7, .long x.1), (9, .int x.2)] → W p l e R s m args below meth c H locs 0 0 (sg_Qi below args s D b cA n (fun r u => r = Rz.1 ∧ u = Rz.2)) (F0 m 64 ls []) := by
    intro x4 z5 h
    unfold F_X9_odds_L64
    refine lp_walk ?_
    intro rc64 hrc64 x hf H locs ls hw hl
    obtain ⟨z7, x9⟩ := x
    dsimp only at hf hw hl
    refine lv_iload hx hb dX9_odds_64 (lv_at hl 6 rfl) ?_
    refine lv_iload hx hb dX9_odds_66 (lv_at hl 3 rfl) ?_
    refine lv_icmp_ge (tgt := 85) hx hb dX9_odds_68 (by decide) (fun c68 => ?_) (fun c68 => ?_)
    · have hf := if_of c68 hf
      exact J85 x4 z5 z7 _ _ _ _ hf hw (lv_sub hl [0, 1, 2, 3, 4, 5] rfl)
    · have hf := if_no c68 hf
      refine lv_lload hx hb dX9_odds_71 (lv_at hl 5 rfl) ?_
      refine lv_ldc2 hx hb hc.2.2.1 (hc.2.2.2.1 _ k_1209) dX9_odds_73 ?_
      refine lv_lmul hx hb dX9_odds_76 ?_
      refine lv_topl (fun v77 e77 => ?_)
      have hf := nm_of e77 hf
      refine lv_lstore (lv' := [(7, .long v77), (0, .ref (b + a)), (2, .int x2), (3, .int x3), (4, .int x4), (5, .long z5), (9, .int x9)]) hx hb dX9_odds_77 hl (by decide) rfl (fun ls hl => ?_)
      refine lv_iinc (v := (x9 + 1)) (lv' := [(9, .int (x9 + 1)), (7, .long v77), (0, .ref (b + a)), (2, .int x2), (3, .int x3), (4, .int x4), (5, .long z5)]) hx hb dX9_odds_79 hl (k := 6) rfl rfl (by decide) rfl (fun ls hl => ?_)
      refine lv_goto (tgt := 64) hx hb dX9_odds_82 (by decide) ?_
      exact hrc64 _ hf _ _ _ hw (lv_sub hl [2, 3, 4, 5, 6, 1, 0] rfl)
  have J53 : ∀ (s0 : Int32) (h : HP) (H : Heap) (locs : List Loc) (ls : Array Slot), F_X9_odds_J53 a x2 x3 s0 h = some Rz → sg_Wo D b cA n s.heap h H locs → lv_has ls 14 [(0, .ref (b + a)), (2, .int x2), (3, .int x3)] → W p l e R s m args below meth c H locs 0 0 (sg_Qi below args s D b cA n (fun r u => r = Rz.1 ∧ u = Rz.2)) (F0 m 53 ls [.int s0]) := by
    intro s0 h H locs ls hf hw hl
    unfold F_X9_odds_J53 at hf
    refine lv_istore (lv' := [(4, .int s0), (0, .ref (b + a)), (2, .int x2), (3, .int x3)]) hx hb dX9_odds_53 hl (by decide) rfl (fun ls hl => ?_)
    refine lv_lconst (v := 0) hx hb dX9_odds_55 (by decide) ?_
    refine lv_lstore (lv' := [(5, .long 0), (4, .int s0), (0, .ref (b + a)), (2, .int x2), (3, .int x3)]) hx hb dX9_odds_56 hl (by decide) rfl (fun ls hl => ?_)
    refine lv_lconst (v := 1) hx hb dX9_odds_58 (by decide) ?_
    refine lv_lstore (lv' := [(7, .long 1), (5, .long 0), (4, .int s0), (0, .ref (b + a)), (2, .int x2), (3, .int x3)]) hx hb dX9_odds_59 hl (by decide) rfl (fun ls hl => ?_)
    refine lv_iconst (v := 0) hx hb dX9_odds_61 (by decide) ?_
    refine lv_istore (lv' := [(9, .int 0), (7, .long 1), (5, .long 0), (4, .int s0), (0, .ref (b + a)), (2, .int x2), (3, .int x3)]) hx hb dX9_odds_62 hl (by decide) rfl (fun ls hl => ?_)
    exact L64 s0 0 _ _ _ hf _ _ _ hw (lv_sub hl [4, 5, 6, 3, 2, 1, 0] rfl)
  unfold F_X9_odds at hf
  refine lv_iload_n hx hb dX9_odds_0 rfl (lv_at hl 1 rfl) ?_
  refine lv_i2l hx hb dX9_odds_1 rfl ?_
  refine lv_lconst (v := 0) hx hb dX9_odds_2 (by decide) ?_
  refine lv_ldc2 hx hb hc.2.2.1 (hc.2.2.2.1 _ k_1086) dX9_odds_3 ?_
  obtain ⟨p6, hp6, hf⟩ := cl_of hf
  refine sg_si (rest := []) (c_X9_in hn (h := h) hp6) hc hw hz hn0 hml hl cs_X9_87 ⟨⟨rfl, rfl⟩, Nat.le_trans (Nat.le_of_ble_eq_true rfl) hRf, Nat.le_trans (Nat.le_of_ble_eq_true rfl) hRl⟩ ⟨Nat.zero_le _, Nat.zero_le _⟩ rfl rfl (Nat.le_of_ble_eq_true rfl) dX9_odds_6 (fun r h1 H locs hp hw => ?_)
  obtain ⟨⟨e1, e2⟩, hb6⟩ := hp; subst r; subst h1
  refine lv_if_eq (tgt := 31) hx hb dX9_odds_9 (by decide) (fun c9 => ?_) (fun c9 => ?_)
  · have hf := if_of c9 hf
    refine lv_iconst (v := (-1)) hx hb dX9_odds_31 (by decide) ?_
    cases hf
    exact sg_iret hc hw hz hn0 hr hlocks ⟨rfl, rfl⟩ dX9_odds_32
  · have hf := if_no c9 hf
    refine lv_iload_n hx hb dX9_odds_12 rfl (lv_at hl 2 rfl) ?_
    refine lv_i2l hx hb dX9_odds_13 rfl ?_
    refine lv_lconst (v := 0) hx hb dX9_odds_14 (by decide) ?_
    refine lv_ldc2 hx hb hc.2.2.1 (hc.2.2.2.1 _ k_1209) dX9_odds_15 ?_
    obtain ⟨p18, hp18, hf⟩ := cl_of hf
    refine sg_si (rest := []) (c_X9_in hn (h := h) hp18) hc hw hz hn0 hml hl cs_X9_87 ⟨⟨rfl, rfl⟩, Nat.le_trans (Nat.le_of_ble_eq_true rfl) hRf, Nat.le_trans (Nat.le_of_ble_eq_true rfl) hRl⟩ ⟨Nat.zero_le _, Nat.zero_le _⟩ rfl rfl (Nat.le_of_ble_eq_true rfl) dX9_odds_18 (fun r h1 H locs hp hw => ?_)
    obtain ⟨⟨e1, e2⟩, hb18⟩ := hp; subst r; subst h1
    refine lv_if_eq (tgt := 31) hx hb dX9_odds_21 (by decide) (fun c21 => ?_) (fun c21 => ?_)
    · have hf := if_of c21 hf
      refine lv_iconst (v := (-1)) hx hb dX9_odds_31 (by decide) ?_
      cases hf
      exact sg_iret hc hw hz hn0 hr hlocks ⟨rfl, rfl⟩ dX9_odds_32
    · have hf := if_no c21 hf
      refine lv_iload_n hx hb dX9_odds_24 rfl (lv_at hl 3 rfl) ?_
      obtain ⟨p25, hp25, hf⟩ := cl_of hf
      refine sg_si (rest := []) (c_X9_isTwo hn (h := h) hp25) hc hw hz hn0 hml hl cs_X9_225 ⟨⟨rfl, rfl⟩, Nat.le_trans (Nat.le_of_ble_eq_true rfl) hRf, Nat.le_trans (Nat.le_of_ble_eq_true rfl) hRl⟩ ⟨Nat.zero_le _, Nat.zero_le _⟩ rfl rfl (Nat.le_of_ble_eq_true rfl) dX9_odds_25 (fun r h1 H locs hp hw => ?_)
      obtain ⟨⟨e1, e2⟩, hb25⟩ := hp; subst r; subst h1
      refine lv_if_ne (tgt := 33) hx hb dX9_odds_28 (by decide) (fun c28 => ?_) (fun c28 => ?_)
      · have hf := if_no c28 hf
        refine lv_iload_n hx hb dX9_odds_33 rfl (lv_at hl 1 rfl) ?_
        refine lv_aload_n hx hb dX9_odds_34 rfl (lv_at hl 0 rfl) ?_
        obtain ⟨hF35, hT35, ha35, hN35⟩ := ft_9_2 hn ha_a hT_a
        refine sg_getf (q := (a + 3)) hc hw ha_a hT_a fr_9_2 (by decide) k_875 dX9_odds_35 hF35 ?_
        refine lv_iconst (v := 0) hx hb dX9_odds_38 (by decide) ?_
        refine sg_ild hc hw ha35 hT35 hN35 (show vp_in 0 31 by unfold vp_in; decide) dX9_odds_39 ?_
        refine lv_icmp_ge (tgt := 47) hx hb dX9_odds_40 (by decide) (fun c40 => ?_) (fun c40 => ?_)
        · have hf := if_of c40 hf
          refine lv_aload_n hx hb dX9_odds_47 rfl (lv_at hl 0 rfl) ?_
          refine sg_getf (q := (a + 3)) hc hw ha_a hT_a fr_9_2 (by decide) k_875 dX9_odds_48 (ft_9_2 hn ha_a hT_a).1 ?_
          refine lv_iconst (v := 0) hx hb dX9_odds_51 (by decide) ?_
          refine sg_ild hc hw ha35 hT35 hN35 (show vp_in 0 31 by unfold vp_in; decide) dX9_odds_52 ?_
          exact J53 (ld h (a + 3) 0) _ _ _ _ hf hw (lv_sub hl [0, 2, 3] rfl)
        · have hf := if_no c40 hf
          refine lv_iload_n hx hb dX9_odds_43 rfl (lv_at hl 1 rfl) ?_
          refine lv_goto (tgt := 53) hx hb dX9_odds_44 (by decide) ?_
          exact J53 x1 _ _ _ _ hf hw (lv_sub hl [0, 2, 3] rfl)
      · have hf := if_of c28 hf
        refine lv_iconst (v := (-1)) hx hb dX9_odds_31 (by decide) ?_
        cases hf
        exact sg_iret hc hw hz hn0 hr hlocks ⟨rfl, rfl⟩ dX9_odds_32
theorem c_X9_odds {l : Launch} {D : va_G} {cA : Nat → ClassId} {b n : Nat} (hn : sg_okN n) {a : Nat} {x1 : Int32} {x2 : Int32} {x3 : Int32} (ha_a : a < n) (hT_a : sg_T a = 9) {h : HP} {Rz : Int32 × HP} (hf : F_X9_odds a x1 x2 x3 h = some Rz) : Met l yX9_odds (Cond.code yX9_odds cX9_odds 14 (some .int) :: sg_tbl) ({ frames := 5, cells := 0, slots := 0, locals := 122 } : Room) (va_Pc [.ref (b + a), .int x1, .int x2, .int x3] (sg_Wd D b cA n h)) (va_Qi (fun r u => r = Rz.1 ∧ u = Rz.2) (sg_Wd D b cA n) (sg_A b)) 0 0 (sg_A b) := by
  refine Met.ofW (cc := cX9_odds) (maxL := 14) (ret := (some .int)) (by decide) rfl ?_
  intro p e s m args below meth c s₁ B hml hv
  obtain ⟨rfl, hP, hK, hz, hY, hN⟩ := hv
  have hl := lv_entry [.ref (b + a), .int x1, .int x2, .int x3] (n := 14) (Nat.le_of_ble_eq_true rfl)
  rw [lg_entry_eq]
  exact w_X9_odds hn ⟨B.exec, B.bytes, findClass_of_methodNamed B.named, fun w h => atoms_spec (ws := Cond.code yX9_odds cX9_odds 14 (some .int) :: sg_tbl) B.pre w (List.mem_cons_of_mem _ h), hK, hN⟩ hz B.returns B.notSynchronized hml (Nat.le_refl _) (Nat.le_refl _) ha_a hT_a hf _ _ _ ⟨hP, hY, va_S.rf⟩ hl
set_option maxHeartbeats 4000000 in
set_option maxRecDepth 100000 in
theorem w_X9_rain {p : Program} {l : Launch} {e : Env} {R : Room} {s : State} {m : MethodId} {args : Array Value} {below : List Frame} {meth : Method} {c : Code} {D : va_G} {cA : Nat → ClassId} {b n : Nat} (hn : sg_okN n) {a : Nat} {x1 : Int32} {x2 : Int32} {h : HP} {Rz : Int32 × HP} (hc : sg_Cx p s m args c cX9_rain RX9 D cA) (hz : s.heap.size = b + n) (hr : meth.sig.returnType = some .int) (hlocks : meth.locks = false) (hml : c.maxLocals = 3) (hRf : 5 ≤ R.frames) (hRl : 122 ≤ R.locals) (ha_a : a < n) (hT_a : sg_T a = 9) (hf : F_X9_rain a x1 x2 h = some Rz) (H : Heap) (locs : List Loc) (ls : Array Slot) (hw : sg_Wo D b cA n s.heap h H locs) (hl : lv_has ls 3 [(0, .ref (b + a)), (1, .int x1), (2, .int x2)]) : W p l e R s m args below meth c H locs 0 0 (sg_Qi below args s D b cA n (fun r u => r = Rz.1 ∧ u = Rz.2)) (F0 m 0 ls []) := by
  have hx := hc.1
  have hb := hc.2.1
  have hn0 : 0 < n := sg_pos hn
  unfold F_X9_rain at hf
  refine lv_iload_n hx hb dX9_rain_0 rfl (lv_at hl 1 rfl) ?_
  refine lv_i2l hx hb dX9_rain_1 rfl ?_
  refine lv_lconst (v := 0) hx hb dX9_rain_2 (by decide) ?_
  refine lv_ldc2 hx hb hc.2.2.1 (hc.2.2.2.1 _ k_1214) dX9_rain_3 ?_
  obtain ⟨p6, hp6, hf⟩ := cl_of hf
  refine sg_si (rest := []) (c_X9_in hn (h := h) hp6) hc hw hz hn0 hml hl cs_X9_87 ⟨⟨rfl, rfl⟩, Nat.le_trans (Nat.le_of_ble_eq_true rfl) hRf, Nat.le_trans (Nat.le_of_ble_eq_true rfl) hRl⟩ ⟨Nat.zero_le _, Nat.zero_le _⟩ rfl rfl (Nat.le_of_ble_eq_true rfl) dX9_rain_6 (fun r h1 H locs hp hw => ?_)
  obtain ⟨⟨e1, e2⟩, hb6⟩ := hp; subst r; subst h1
  refine lv_if_eq (tgt := 19) hx hb dX9_rain_9 (by decide) (fun c9 => ?_) (fun c9 => ?_)
  · have hf := if_of c9 hf
    refine lv_iconst (v := (-1)) hx hb dX9_rain_19 (by decide) ?_
    cases hf
    exact sg_iret hc hw hz hn0 hr hlocks ⟨rfl, rfl⟩ dX9_rain_20
  · have hf := if_no c9 hf
    refine lv_iload_n hx hb dX9_rain_12 rfl (lv_at hl 2 rfl) ?_
    obtain ⟨p13, hp13, hf⟩ := cl_of hf
    refine sg_si (rest := []) (c_X9_isTwo hn (h := h) hp13) hc hw hz hn0 hml hl cs_X9_225 ⟨⟨rfl, rfl⟩, Nat.le_trans (Nat.le_of_ble_eq_true rfl) hRf, Nat.le_trans (Nat.le_of_ble_eq_true rfl) hRl⟩ ⟨Nat.zero_le _, Nat.zero_le _⟩ rfl rfl (Nat.le_of_ble_eq_true rfl) dX9_rain_13 (fun r h1 H locs hp hw => ?_)
    obtain ⟨⟨e1, e2⟩, hb13⟩ := hp; subst r; subst h1
    refine lv_if_ne (tgt := 21) hx hb dX9_rain_16 (by decide) (fun c16 => ?_) (fun c16 => ?_)
    · have hf := if_no c16 hf
      refine lv_aload_n hx hb dX9_rain_21 rfl (lv_at hl 0 rfl) ?_
      obtain ⟨p22, hp22, hf⟩ := cl_of hf
      refine sg_vv (rest := []) (c_X9_asItIs hn ha_a hT_a hp22) hc hw hz hml hl ha_a hT_a (by decide) rfl cv_X9_214 ⟨⟨rfl, rfl⟩, Nat.le_trans (Nat.le_of_ble_eq_true rfl) hRf, Nat.le_trans (Nat.le_of_ble_eq_true rfl) hRl⟩ ⟨Nat.zero_le _, Nat.zero_le _⟩ rfl rfl (Nat.le_of_ble_eq_true rfl) dX9_rain_22 (fun h1 H locs hp hw => ?_)
      subst h1
      refine lv_aload_n hx hb dX9_rain_25 rfl (lv_at hl 0 rfl) ?_
      refine lv_iload_n hx hb dX9_rain_26 rfl (lv_at hl 1 rfl) ?_
      refine sg_puti hc hw ha_a hT_a fp_9_17 rfl rfl k_890 dX9_rain_27 (fun H locs hw => ?_)
      obtain ⟨h27, hw, hf⟩ := sg_name hw hf
      refine lv_aload_n hx hb dX9_rain_30 rfl (lv_at hl 0 rfl) ?_
      obtain ⟨p31, hp31, hf⟩ := cl_of hf
      refine sg_vv (rest := []) (c_X9_goesUp hn ha_a hT_a hp31) hc hw hz hml hl ha_a hT_a (by decide) rfl cv_X9_217 ⟨⟨rfl, rfl⟩, Nat.le_trans (Nat.le_of_ble_eq_true rfl) hRf, Nat.le_trans (Nat.le_of_ble_eq_true rfl) hRl⟩ ⟨Nat.zero_le _, Nat.zero_le _⟩ rfl rfl (Nat.le_of_ble_eq_true rfl) dX9_rain_31 (fun h1 H locs hp hw => ?_)
      subst h1
      refine lv_iload_n hx hb dX9_rain_34 rfl (lv_at hl 2 rfl) ?_
      refine lv_if_ne (tgt := 45) hx hb dX9_rain_35 (by decide) (fun c35 => ?_) (fun c35 => ?_)
      · have hf := if_no c35 hf
        refine lv_aload_n hx hb dX9_rain_45 rfl (lv_at hl 0 rfl) ?_
        refine lv_iconst (v := 0) hx hb dX9_rain_46 (by decide) ?_
        obtain ⟨p47, hp47, hf⟩ := cl_of hf
        refine sg_vi (rest := []) (c_X9_heirBy hn ha_a hT_a hp47) hc hw hz hml hl ha_a hT_a (by decide) rfl cv_X9_266 ⟨⟨rfl, rfl⟩, Nat.le_trans (Nat.le_of_ble_eq_true rfl) hRf, Nat.le_trans (Nat.le_of_ble_eq_true rfl) hRl⟩ ⟨Nat.zero_le _, Nat.zero_le _⟩ rfl rfl (Nat.le_of_ble_eq_true rfl) dX9_rain_47 (fun r h1 H locs hp hw => ?_)
        obtain ⟨e1, e2⟩ := hp; subst r; subst h1
        cases hf
        exact sg_iret hc hw hz hn0 hr hlocks ⟨rfl, rfl⟩ dX9_rain_50
      · have hf := if_of c35 hf
        refine lv_aload_n hx hb dX9_rain_38 rfl (lv_at hl 0 rfl) ?_
        refine sg_geti hc hw ha_a hT_a fi_9_23 k_896 dX9_rain_39 ?_
        refine lv_goto (tgt := 50) hx hb dX9_rain_42 (by decide) ?_
        cases hf
        exact sg_iret hc hw hz hn0 hr hlocks ⟨rfl, rfl⟩ dX9_rain_50
    · have hf := if_of c16 hf
      refine lv_iconst (v := (-1)) hx hb dX9_rain_19 (by decide) ?_
      cases hf
      exact sg_iret hc hw hz hn0 hr hlocks ⟨rfl, rfl⟩ dX9_rain_20
theorem c_X9_rain {l : Launch} {D : va_G} {cA : Nat → ClassId} {b n : Nat} (hn : sg_okN n) {a : Nat} {x1 : Int32} {x2 : Int32} (ha_a : a < n) (hT_a : sg_T a = 9) {h : HP} {Rz : Int32 × HP} (hf : F_X9_rain a x1 x2 h = some Rz) : Met l yX9_rain (Cond.code yX9_rain cX9_rain 3 (some .int) :: sg_tbl) ({ frames := 5, cells := 0, slots := 0, locals := 122 } : Room) (va_Pc [.ref (b + a), .int x1, .int x2] (sg_Wd D b cA n h)) (va_Qi (fun r u => r = Rz.1 ∧ u = Rz.2) (sg_Wd D b cA n) (sg_A b)) 0 0 (sg_A b) := by
  refine Met.ofW (cc := cX9_rain) (maxL := 3) (ret := (some .int)) (by decide) rfl ?_
  intro p e s m args below meth c s₁ B hml hv
  obtain ⟨rfl, hP, hK, hz, hY, hN⟩ := hv
  have hl := lv_entry [.ref (b + a), .int x1, .int x2] (n := 3) (Nat.le_of_ble_eq_true rfl)
  rw [lg_entry_eq]
  exact w_X9_rain hn ⟨B.exec, B.bytes, findClass_of_methodNamed B.named, fun w h => atoms_spec (ws := Cond.code yX9_rain cX9_rain 3 (some .int) :: sg_tbl) B.pre w (List.mem_cons_of_mem _ h), hK, hN⟩ hz B.returns B.notSynchronized hml (Nat.le_refl _) (Nat.le_refl _) ha_a hT_a hf _ _ _ ⟨hP, hY, va_S.rf⟩ hl
set_option maxHeartbeats 4000000 in
set_option maxRecDepth 100000 in
theorem w_X9_keep {p : Program} {l : Launch} {e : Env} {R : Room} {s : State} {m : MethodId} {args : Array Value} {below : List Frame} {meth : Method} {c : Code} {D : va_G} {cA : Nat → ClassId} {b n : Nat} (hn : sg_okN n) {a : Nat} {h : HP} {Rz : Int32 × HP} (hc : sg_Cx p s m args c cX9_keep RX9 D cA) (hz : s.heap.size = b + n) (hr : meth.sig.returnType = some .int) (hlocks : meth.locks = false) (hml : c.maxLocals = 1) (hRf : 1 ≤ R.frames) (hRl : 24 ≤ R.locals) (ha_a : a < n) (hT_a : sg_T a = 9) (hf : F_X9_keep a h = some Rz) (H : Heap) (locs : List Loc) (ls : Array Slot) (hw : sg_Wo D b cA n s.heap h H locs) (hl : lv_has ls 1 [(0, .ref (b + a))]) : W p l e R s m args below meth c H locs 0 0 (sg_Qi below args s D b cA n (fun r u => r = Rz.1 ∧ u = Rz.2)) (F0 m 0 ls []) := by
  have hx := hc.1
  have hb := hc.2.1
  have hn0 : 0 < n := sg_pos hn
  unfold F_X9_keep at hf
  refine lv_aload_n hx hb dX9_keep_0 rfl (lv_at hl 0 rfl) ?_
  refine sg_geti hc hw ha_a hT_a fi_9_7 k_880 dX9_keep_1 ?_
  refine lv_iconst (v := 2) hx hb dX9_keep_4 (by decide) ?_
  refine lv_icmp_ne (tgt := 11) hx hb dX9_keep_5 (by decide) (fun c5 => ?_) (fun c5 => ?_)
  · have hf := if_no c5 hf
    refine lv_aload_n hx hb dX9_keep_11 rfl (lv_at hl 0 rfl) ?_
    obtain ⟨hF12, hT12, ha12, hN12⟩ := ft_9_2 hn ha_a hT_a
    refine sg_getf (q := (a + 3)) hc hw ha_a hT_a fr_9_2 (by decide) k_875 dX9_keep_12 hF12 ?_
    refine lv_iconst (v := 0) hx hb dX9_keep_15 (by decide) ?_
    refine lv_aload_n hx hb dX9_keep_16 rfl (lv_at hl 0 rfl) ?_
    obtain ⟨hF17, hT17, ha17, hN17⟩ := ft_9_6 hn ha_a hT_a
    refine sg_getf (q := (a + 6)) hc hw ha_a hT_a fr_9_6 (by decide) k_879 dX9_keep_17 hF17 ?_
    refine lv_bipush (v := 31) hx hb dX9_keep_20 (by decide) ?_
    refine lv_aload_n hx hb dX9_keep_22 rfl (lv_at hl 0 rfl) ?_
    refine sg_geti hc hw ha_a hT_a fi_9_7 k_880 dX9_keep_23 ?_
    refine lv_imul hx hb dX9_keep_26 ?_
    obtain ⟨p27, hp27, hf⟩ := cl_of hf
    refine sg_sv' (rest := []) (c_X9_copies hn ha12 hT12 ha17 hT17 hp27) hc hw hz hn0 hml hl cs_X9_235 ⟨⟨rfl, rfl⟩, Nat.le_trans (Nat.le_of_ble_eq_true rfl) hRf, Nat.le_trans (Nat.le_of_ble_eq_true rfl) hRl⟩ ⟨Nat.zero_le _, Nat.zero_le _⟩ rfl rfl (Nat.le_of_ble_eq_true rfl) dX9_keep_27 (fun h1 H locs hp hw => ?_)
    subst h1
    refine lv_aload_n hx hb dX9_keep_30 rfl (lv_at hl 0 rfl) ?_
    refine lv_dup hx hb dX9_keep_31 rfl ?_
    refine sg_geti hc hw ha_a hT_a fi_9_7 k_880 dX9_keep_32 ?_
    refine lv_iconst (v := 1) hx hb dX9_keep_35 (by decide) ?_
    refine lv_iadd hx hb dX9_keep_36 ?_
    refine sg_puti hc hw ha_a hT_a fp_9_7 rfl rfl k_880 dX9_keep_37 (fun H locs hw => ?_)
    obtain ⟨h37, hw, hf⟩ := sg_name hw hf
    refine lv_aload_n hx hb dX9_keep_40 rfl (lv_at hl 0 rfl) ?_
    refine sg_geti hc hw ha_a hT_a fi_9_7 k_880 dX9_keep_41 ?_
    cases hf
    exact sg_iret hc hw hz hn0 hr hlocks ⟨rfl, rfl⟩ dX9_keep_44
  · have hf := if_of c5 hf
    refine lv_bipush (v := (-3)) hx hb dX9_keep_8 (by decide) ?_
    cases hf
    exact sg_iret hc hw hz hn0 hr hlocks ⟨rfl, rfl⟩ dX9_keep_10
theorem c_X9_keep {l : Launch} {D : va_G} {cA : Nat → ClassId} {b n : Nat} (hn : sg_okN n) {a : Nat} (ha_a : a < n) (hT_a : sg_T a = 9) {h : HP} {Rz : Int32 × HP} (hf : F_X9_keep a h = some Rz) : Met l yX9_keep (Cond.code yX9_keep cX9_keep 1 (some .int) :: sg_tbl) ({ frames := 1, cells := 0, slots := 0, locals := 24 } : Room) (va_Pc [.ref (b + a)] (sg_Wd D b cA n h)) (va_Qi (fun r u => r = Rz.1 ∧ u = Rz.2) (sg_Wd D b cA n) (sg_A b)) 0 0 (sg_A b) := by
  refine Met.ofW (cc := cX9_keep) (maxL := 1) (ret := (some .int)) (by decide) rfl ?_
  intro p e s m args below meth c s₁ B hml hv
  obtain ⟨rfl, hP, hK, hz, hY, hN⟩ := hv
  have hl := lv_entry [.ref (b + a)] (n := 1) (Nat.le_of_ble_eq_true rfl)
  rw [lg_entry_eq]
  exact w_X9_keep hn ⟨B.exec, B.bytes, findClass_of_methodNamed B.named, fun w h => atoms_spec (ws := Cond.code yX9_keep cX9_keep 1 (some .int) :: sg_tbl) B.pre w (List.mem_cons_of_mem _ h), hK, hN⟩ hz B.returns B.notSynchronized hml (Nat.le_refl _) (Nat.le_refl _) ha_a hT_a hf _ _ _ ⟨hP, hY, va_S.rf⟩ hl
set_option maxHeartbeats 4000000 in
set_option maxRecDepth 100000 in
theorem w_X9_back {p : Program} {l : Launch} {e : Env} {R : Room} {s : State} {m : MethodId} {args : Array Value} {below : List Frame} {meth : Method} {c : Code} {D : va_G} {cA : Nat → ClassId} {b n : Nat} (hn : sg_okN n) {a : Nat} {h : HP} {Rz : Int32 × HP} (hc : sg_Cx p s m args c cX9_back RX9 D cA) (hz : s.heap.size = b + n) (hr : meth.sig.returnType = some .int) (hlocks : meth.locks = false) (hml : c.maxLocals = 1) (hRf : 1 ≤ R.frames) (hRl : 24 ≤ R.locals) (ha_a : a < n) (hT_a : sg_T a = 9) (hf : F_X9_back a h = some Rz) (H : Heap) (locs : List Loc) (ls : Array Slot) (hw : sg_Wo D b cA n s.heap h H locs) (hl : lv_has ls 1 [(0, .ref (b + a))]) : W p l e R s m args below meth c H locs 0 0 (sg_Qi below args s D b cA n (fun r u => r = Rz.1 ∧ u = Rz.2)) (F0 m 0 ls []) := by
  have hx := hc.1
  have hb := hc.2.1
  have hn0 : 0 < n := sg_pos hn
  unfold F_X9_back at hf
  refine lv_aload_n hx hb dX9_back_0 rfl (lv_at hl 0 rfl) ?_
  refine sg_geti hc hw ha_a hT_a fi_9_7 k_880 dX9_back_1 ?_
  refine lv_if_ne (tgt := 10) hx hb dX9_back_4 (by decide) (fun c4 => ?_) (fun c4 => ?_)
  · have hf := if_no c4 hf
    refine lv_aload_n hx hb dX9_back_10 rfl (lv_at hl 0 rfl) ?_
    refine lv_dup hx hb dX9_back_11 rfl ?_
    refine sg_geti hc hw ha_a hT_a fi_9_7 k_880 dX9_back_12 ?_
    refine lv_iconst (v := 1) hx hb dX9_back_15 (by decide) ?_
    refine lv_isub hx hb dX9_back_16 ?_
    refine sg_puti hc hw ha_a hT_a fp_9_7 rfl rfl k_880 dX9_back_17 (fun H locs hw => ?_)
    obtain ⟨h17, hw, hf⟩ := sg_name hw hf
    refine lv_aload_n hx hb dX9_back_20 rfl (lv_at hl 0 rfl) ?_
    obtain ⟨hF21, hT21, ha21, hN21⟩ := ft_9_6 hn ha_a hT_a
    refine sg_getf (q := (a + 6)) hc hw ha_a hT_a fr_9_6 (by decide) k_879 dX9_back_21 hF21 ?_
    refine lv_bipush (v := 31) hx hb dX9_back_24 (by decide) ?_
    refine lv_aload_n hx hb dX9_back_26 rfl (lv_at hl 0 rfl) ?_
    refine sg_geti hc hw ha_a hT_a fi_9_7 k_880 dX9_back_27 ?_
    refine lv_imul hx hb dX9_back_30 ?_
    refine lv_aload_n hx hb dX9_back_31 rfl (lv_at hl 0 rfl) ?_
    obtain ⟨hF32, hT32, ha32, hN32⟩ := ft_9_2 hn ha_a hT_a
    refine sg_getf (q := (a + 3)) hc hw ha_a hT_a fr_9_2 (by decide) k_875 dX9_back_32 hF32 ?_
    refine lv_iconst (v := 0) hx hb dX9_back_35 (by decide) ?_
    obtain ⟨p36, hp36, hf⟩ := cl_of hf
    refine sg_sv' (rest := []) (c_X9_copies hn ha21 hT21 ha32 hT32 hp36) hc hw hz hn0 hml hl cs_X9_235 ⟨⟨rfl, rfl⟩, Nat.le_trans (Nat.le_of_ble_eq_true rfl) hRf, Nat.le_trans (Nat.le_of_ble_eq_true rfl) hRl⟩ ⟨Nat.zero_le _, Nat.zero_le _⟩ rfl rfl (Nat.le_of_ble_eq_true rfl) dX9_back_36 (fun h1 H locs hp hw => ?_)
    subst h1
    refine lv_aload_n hx hb dX9_back_39 rfl (lv_at hl 0 rfl) ?_
    refine lv_iconst (v := 0) hx hb dX9_back_40 (by decide) ?_
    refine sg_puti hc hw ha_a hT_a fp_9_5 rfl rfl k_878 dX9_back_41 (fun H locs hw => ?_)
    obtain ⟨h41, hw, hf⟩ := sg_name hw hf
    refine lv_aload_n hx hb dX9_back_44 rfl (lv_at hl 0 rfl) ?_
    refine sg_geti hc hw ha_a hT_a fi_9_7 k_880 dX9_back_45 ?_
    cases hf
    exact sg_iret hc hw hz hn0 hr hlocks ⟨rfl, rfl⟩ dX9_back_48
  · have hf := if_of c4 hf
    refine lv_bipush (v := (-2)) hx hb dX9_back_7 (by decide) ?_
    cases hf
    exact sg_iret hc hw hz hn0 hr hlocks ⟨rfl, rfl⟩ dX9_back_9
theorem c_X9_back {l : Launch} {D : va_G} {cA : Nat → ClassId} {b n : Nat} (hn : sg_okN n) {a : Nat} (ha_a : a < n) (hT_a : sg_T a = 9) {h : HP} {Rz : Int32 × HP} (hf : F_X9_back a h = some Rz) : Met l yX9_back (Cond.code yX9_back cX9_back 1 (some .int) :: sg_tbl) ({ frames := 1, cells := 0, slots := 0, locals := 24 } : Room) (va_Pc [.ref (b + a)] (sg_Wd D b cA n h)) (va_Qi (fun r u => r = Rz.1 ∧ u = Rz.2) (sg_Wd D b cA n) (sg_A b)) 0 0 (sg_A b) := by
  refine Met.ofW (cc := cX9_back) (maxL := 1) (ret := (some .int)) (by decide) rfl ?_
  intro p e s m args below meth c s₁ B hml hv
  obtain ⟨rfl, hP, hK, hz, hY, hN⟩ := hv
  have hl := lv_entry [.ref (b + a)] (n := 1) (Nat.le_of_ble_eq_true rfl)
  rw [lg_entry_eq]
  exact w_X9_back hn ⟨B.exec, B.bytes, findClass_of_methodNamed B.named, fun w h => atoms_spec (ws := Cond.code yX9_back cX9_back 1 (some .int) :: sg_tbl) B.pre w (List.mem_cons_of_mem _ h), hK, hN⟩ hz B.returns B.notSynchronized hml (Nat.le_refl _) (Nat.le_refl _) ha_a hT_a hf _ _ _ ⟨hP, hY, va_S.rf⟩ hl
set_option maxHeartbeats 4000000 in
set_option maxRecDepth 100000 in
theorem w_X9_count {p : Program} {l : Launch} {e : Env} {R : Room} {s : State} {m : MethodId} {args : Array Value} {below : List Frame} {meth : Method} {c : Code} {D : va_G} {cA : Nat → ClassId} {b n : Nat} (hn : sg_okN n) {a : Nat} {x1 : Int32} {h : HP} {Rz : Int32} (hc : sg_Cx p s m args c cX9_count RX9 D cA) (hz : s.heap.size = b + n) (hr : meth.sig.returnType = some .int) (hlocks : meth.locks = false) (hml : c.maxLocals = 2) (hRf : 1 ≤ R.frames) (hRl : 22 ≤ R.locals) (ha_a : a < n) (hT_a : sg_T a = 9) (hf : F_X9_count a x1 h = some Rz) (H : Heap) (locs : List Loc) (ls : Array Slot) (hw : sg_Wo D b cA n s.heap h H locs) (hl : lv_has ls 2 [(0, .ref (b + a)), (1, .int x1)]) : W p l e R s m args below meth c H locs 0 0 (sg_Qi below args s D b cA n (fun r u => r = Rz ∧ u = h)) (F0 m 0 ls []) := by
  have hx := hc.1
  have hb := hc.2.1
  have hn0 : 0 < n := sg_pos hn
  unfold F_X9_count at hf
  refine lv_iload_n hx hb dX9_count_0 rfl (lv_at hl 1 rfl) ?_
  by_cases hk1_0 : x1 = 0
  · have hf := if_of hk1_0 hf
    refine lv_tableIn (off := 55) (tgt := 56) hx hb dX9_count_1 (by rw [hk1_0]; decide) (by rw [hk1_0]; decide) (by rw [hk1_0]; decide) (by decide) ?_
    refine lv_aload_n hx hb dX9_count_56 rfl (lv_at hl 0 rfl) ?_
    obtain ⟨hF57, hT57, ha57, hN57⟩ := ft_9_0 hn ha_a hT_a
    refine sg_getf (q := (a + 1)) hc hw ha_a hT_a fr_9_0 (by decide) k_873 dX9_count_57 hF57 ?_
    refine lv_iconst (v := 0) hx hb dX9_count_60 (by decide) ?_
    refine sg_ild hc hw ha57 hT57 hN57 (show vp_in 0 34 by unfold vp_in; decide) dX9_count_61 ?_
    cases hf
    exact sg_iret hc hw hz hn0 hr hlocks ⟨rfl, rfl⟩ dX9_count_62
  · have hf := if_no hk1_0 hf
    by_cases hk1_1 : x1 = 1
    · have hf := if_of hk1_1 hf
      refine lv_tableIn (off := 62) (tgt := 63) hx hb dX9_count_1 (by rw [hk1_1]; decide) (by rw [hk1_1]; decide) (by rw [hk1_1]; decide) (by decide) ?_
      refine lv_aload_n hx hb dX9_count_63 rfl (lv_at hl 0 rfl) ?_
      obtain ⟨hF64, hT64, ha64, hN64⟩ := ft_9_0 hn ha_a hT_a
      refine sg_getf (q := (a + 1)) hc hw ha_a hT_a fr_9_0 (by decide) k_873 dX9_count_64 hF64 ?_
      obtain ⟨p67, hp67, hf⟩ := cl_of hf
      refine sg_si (rest := []) (c_X9_yardsOf hn ha64 hT64 hp67) hc hw hz hn0 hml hl cs_X9_116 ⟨⟨rfl, rfl⟩, Nat.le_trans (Nat.le_of_ble_eq_true rfl) hRf, Nat.le_trans (Nat.le_of_ble_eq_true rfl) hRl⟩ ⟨Nat.zero_le _, Nat.zero_le _⟩ rfl rfl (Nat.le_of_ble_eq_true rfl) dX9_count_67 (fun r h1 H locs hp hw => ?_)
      obtain ⟨e1, e2⟩ := hp; subst r; subst h1
      cases hf
      exact sg_iret hc hw hz hn0 hr hlocks ⟨rfl, rfl⟩ dX9_count_70
    · have hf := if_no hk1_1 hf
      by_cases hk1_2 : x1 = 2
      · have hf := if_of hk1_2 hf
        refine lv_tableIn (off := 70) (tgt := 71) hx hb dX9_count_1 (by rw [hk1_2]; decide) (by rw [hk1_2]; decide) (by rw [hk1_2]; decide) (by decide) ?_
        refine lv_aload_n hx hb dX9_count_71 rfl (lv_at hl 0 rfl) ?_
        obtain ⟨hF72, hT72, ha72, hN72⟩ := ft_9_0 hn ha_a hT_a
        refine sg_getf (q := (a + 1)) hc hw ha_a hT_a fr_9_0 (by decide) k_873 dX9_count_72 hF72 ?_
        refine lv_iconst (v := 1) hx hb dX9_count_75 (by decide) ?_
        refine sg_ild hc hw ha72 hT72 hN72 (show vp_in 1 34 by unfold vp_in; decide) dX9_count_76 ?_
        cases hf
        exact sg_iret hc hw hz hn0 hr hlocks ⟨rfl, rfl⟩ dX9_count_77
      · have hf := if_no hk1_2 hf
        by_cases hk1_3 : x1 = 3
        · have hf := if_of hk1_3 hf
          refine lv_tableIn (off := 77) (tgt := 78) hx hb dX9_count_1 (by rw [hk1_3]; decide) (by rw [hk1_3]; decide) (by rw [hk1_3]; decide) (by decide) ?_
          refine lv_aload_n hx hb dX9_count_78 rfl (lv_at hl 0 rfl) ?_
          obtain ⟨hF79, hT79, ha79, hN79⟩ := ft_9_0 hn ha_a hT_a
          refine sg_getf (q := (a + 1)) hc hw ha_a hT_a fr_9_0 (by decide) k_873 dX9_count_79 hF79 ?_
          refine lv_iconst (v := 2) hx hb dX9_count_82 (by decide) ?_
          refine sg_ild hc hw ha79 hT79 hN79 (show vp_in 2 34 by unfold vp_in; decide) dX9_count_83 ?_
          cases hf
          exact sg_iret hc hw hz hn0 hr hlocks ⟨rfl, rfl⟩ dX9_count_84
        · have hf := if_no hk1_3 hf
          by_cases hk1_4 : x1 = 4
          · have hf := if_of hk1_4 hf
            refine lv_tableIn (off := 84) (tgt := 85) hx hb dX9_count_1 (by rw [hk1_4]; decide) (by rw [hk1_4]; decide) (by rw [hk1_4]; decide) (by decide) ?_
            refine lv_aload_n hx hb dX9_count_85 rfl (lv_at hl 0 rfl) ?_
            obtain ⟨hF86, hT86, ha86, hN86⟩ := ft_9_0 hn ha_a hT_a
            refine sg_getf (q := (a + 1)) hc hw ha_a hT_a fr_9_0 (by decide) k_873 dX9_count_86 hF86 ?_
            refine lv_iconst (v := 3) hx hb dX9_count_89 (by decide) ?_
            refine sg_ild hc hw ha86 hT86 hN86 (show vp_in 3 34 by unfold vp_in; decide) dX9_count_90 ?_
            cases hf
            exact sg_iret hc hw hz hn0 hr hlocks ⟨rfl, rfl⟩ dX9_count_91
          · have hf := if_no hk1_4 hf
            by_cases hk1_5 : x1 = 5
            · have hf := if_of hk1_5 hf
              refine lv_tableIn (off := 91) (tgt := 92) hx hb dX9_count_1 (by rw [hk1_5]; decide) (by rw [hk1_5]; decide) (by rw [hk1_5]; decide) (by decide) ?_
              refine lv_aload_n hx hb dX9_count_92 rfl (lv_at hl 0 rfl) ?_
              obtain ⟨hF93, hT93, ha93, hN93⟩ := ft_9_2 hn ha_a hT_a
              refine sg_getf (q := (a + 3)) hc hw ha_a hT_a fr_9_2 (by decide) k_875 dX9_count_93 hF93 ?_
              refine lv_iconst (v := 0) hx hb dX9_count_96 (by decide) ?_
              refine sg_ild hc hw ha93 hT93 hN93 (show vp_in 0 31 by unfold vp_in; decide) dX9_count_97 ?_
              cases hf
              exact sg_iret hc hw hz hn0 hr hlocks ⟨rfl, rfl⟩ dX9_count_98
            · have hf := if_no hk1_5 hf
              by_cases hk1_6 : x1 = 6
              · have hf := if_of hk1_6 hf
                refine lv_tableIn (off := 98) (tgt := 99) hx hb dX9_count_1 (by rw [hk1_6]; decide) (by rw [hk1_6]; decide) (by rw [hk1_6]; decide) (by decide) ?_
                refine lv_aload_n hx hb dX9_count_99 rfl (lv_at hl 0 rfl) ?_
                refine sg_geti hc hw ha_a hT_a fi_9_11 k_884 dX9_count_100 ?_
                cases hf
                exact sg_iret hc hw hz hn0 hr hlocks ⟨rfl, rfl⟩ dX9_count_103
              · have hf := if_no hk1_6 hf
                by_cases hk1_7 : x1 = 7
                · have hf := if_of hk1_7 hf
                  refine lv_tableIn (off := 103) (tgt := 104) hx hb dX9_count_1 (by rw [hk1_7]; decide) (by rw [hk1_7]; decide) (by rw [hk1_7]; decide) (by decide) ?_
                  refine lv_aload_n hx hb dX9_count_104 rfl (lv_at hl 0 rfl) ?_
                  refine sg_geti hc hw ha_a hT_a fi_9_5 k_878 dX9_count_105 ?_
                  cases hf
                  exact sg_iret hc hw hz hn0 hr hlocks ⟨rfl, rfl⟩ dX9_count_108
                · have hf := if_no hk1_7 hf
                  by_cases hk1_8 : x1 = 8
                  · have hf := if_of hk1_8 hf
                    refine lv_tableIn (off := 108) (tgt := 109) hx hb dX9_count_1 (by rw [hk1_8]; decide) (by rw [hk1_8]; decide) (by rw [hk1_8]; decide) (by decide) ?_
                    refine lv_aload_n hx hb dX9_count_109 rfl (lv_at hl 0 rfl) ?_
                    refine sg_geti hc hw ha_a hT_a fi_9_7 k_880 dX9_count_110 ?_
                    cases hf
                    exact sg_iret hc hw hz hn0 hr hlocks ⟨rfl, rfl⟩ dX9_count_113
                  · have hf := if_no hk1_8 hf
                    by_cases hk1_9 : x1 = 9
                    · have hf := if_of hk1_9 hf
                      refine lv_tableIn (off := 113) (tgt := 114) hx hb dX9_count_1 (by rw [hk1_9]; decide) (by rw [hk1_9]; decide) (by rw [hk1_9]; decide) (by decide) ?_
                      refine lv_aload_n hx hb dX9_count_114 rfl (lv_at hl 0 rfl) ?_
                      refine sg_geti hc hw ha_a hT_a fi_9_9 k_882 dX9_count_115 ?_
                      cases hf
                      exact sg_iret hc hw hz hn0 hr hlocks ⟨rfl, rfl⟩ dX9_count_118
                    · have hf := if_no hk1_9 hf
                      refine lv_tableOut (tgt := 119) hx hb dX9_count_1 (by have e0 := sg_ne hk1_0 (k := 0) (by decide); have e1 := sg_ne hk1_1 (k := 1) (by decide); have e2 := sg_ne hk1_2 (k := 2) (by decide); have e3 := sg_ne hk1_3 (k := 3) (by decide); have e4 := sg_ne hk1_4 (k := 4) (by decide); have e5 := sg_ne hk1_5 (k := 5) (by decide); have e6 := sg_ne hk1_6 (k := 6) (by decide); have e7 := sg_ne hk1_7 (k := 7) (by decide); have e8 := sg_ne hk1_8 (k := 8) (by decide); have e9 := sg_ne hk1_9 (k := 9) (by decide); omega) (by decide) ?_
                      refine lv_iconst (v := (-1)) hx hb dX9_count_119 (by decide) ?_
                      cases hf
                      exact sg_iret hc hw hz hn0 hr hlocks ⟨rfl, rfl⟩ dX9_count_120
theorem c_X9_count {l : Launch} {D : va_G} {cA : Nat → ClassId} {b n : Nat} (hn : sg_okN n) {a : Nat} {x1 : Int32} (ha_a : a < n) (hT_a : sg_T a = 9) {h : HP} {Rz : Int32} (hf : F_X9_count a x1 h = some Rz) : Met l yX9_count (Cond.code yX9_count cX9_count 2 (some .int) :: sg_tbl) ({ frames := 1, cells := 0, slots := 0, locals := 22 } : Room) (va_Pc [.ref (b + a), .int x1] (sg_Wd D b cA n h)) (va_Qi (fun r u => r = Rz ∧ u = h) (sg_Wd D b cA n) (sg_A b)) 0 0 (sg_A b) := by
  refine Met.ofW (cc := cX9_count) (maxL := 2) (ret := (some .int)) (by decide) rfl ?_
  intro p e s m args below meth c s₁ B hml hv
  obtain ⟨rfl, hP, hK, hz, hY, hN⟩ := hv
  have hl := lv_entry [.ref (b + a), .int x1] (n := 2) (Nat.le_of_ble_eq_true rfl)
  rw [lg_entry_eq]
  exact w_X9_count hn ⟨B.exec, B.bytes, findClass_of_methodNamed B.named, fun w h => atoms_spec (ws := Cond.code yX9_count cX9_count 2 (some .int) :: sg_tbl) B.pre w (List.mem_cons_of_mem _ h), hK, hN⟩ hz B.returns B.notSynchronized hml (Nat.le_refl _) (Nat.le_refl _) ha_a hT_a hf _ _ _ ⟨hP, hY, va_S.rf⟩ hl
