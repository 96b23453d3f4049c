set_option maxHeartbeats 4000000 in
set_option maxRecDepth 100000 in
theorem w_X9_adds {p : Program} {l : Launch} {e : Env} {R : Room} {s : State} {m : MethodId} {args : Array Value} {below : List Frame} {meth : Method} {c : Code} {D : va_G} {cA : Nat → ClassId} {b n : Nat} (hn : sg_okN n) {q0 : Nat} {x1 : Int32} {x2 : Int32} {x3 : Int32} {h : HP} {Rz : HP} (hc : sg_Cx p s m args c cX9_adds RX9 D cA) (hz : s.heap.size = b + n) (hr : meth.sig.returnType = none) (hlocks : meth.locks = false) (hml : c.maxLocals = 5) (hRf : 0 ≤ R.frames) (hRl : 0 ≤ R.locals) (ha_q0 : q0 < n) (hT_q0 : sg_T q0 = 11) (hf : F_X9_adds q0 x1 x2 x3 h = some Rz) (H : Heap) (locs : List Loc) (ls : Array Slot) (hw : sg_Wo D b cA n s.heap h H locs) (hl : lv_has ls 5 [(0, .ref (b + q0)), (1, .int x1), (2, .int x2), (3, .int x3)]) : W p l e R s m args below meth c H locs 0 0 (sg_Qv below args s D b cA n (fun u => u = Rz)) (F0 m 0 ls []) := by
  have hx := hc.1
  have hb := hc.2.1
  have hn0 : 0 < n := sg_pos hn
  unfold F_X9_adds at hf
  refine lv_aload_n hx hb dX9_adds_0 rfl (lv_at hl 0 rfl) ?_
  refine lv_iconst (v := 0) hx hb dX9_adds_1 (by decide) ?_
  obtain ⟨hg2, hf⟩ := gd_of hf
  refine sg_ild hc hw ha_q0 hT_q0 rfl hg2 dX9_adds_2 ?_
  refine lv_topi (fun v3 e3 => ?_)
  have hf := nm_of e3 hf
  refine lv_istore (lv' := [(4, .int v3), (0, .ref (b + q0)), (1, .int x1), (2, .int x2), (3, .int x3)]) hx hb dX9_adds_3 hl (by decide) rfl (fun ls hl => ?_)
  refine lv_aload_n hx hb dX9_adds_5 rfl (lv_at hl 1 rfl) ?_
  refine lv_iconst (v := 1) hx hb dX9_adds_6 (by decide) ?_
  refine lv_iload hx hb dX9_adds_7 (lv_at hl 0 rfl) ?_
  refine lv_iadd hx hb dX9_adds_9 ?_
  refine lv_iload_n hx hb dX9_adds_10 rfl (lv_at hl 2 rfl) ?_
  obtain ⟨hg11, hf⟩ := gd_of hf
  refine sg_ist hc hw ha_q0 hT_q0 rfl hg11 dX9_adds_11 (fun H locs hw => ?_)
  obtain ⟨h11, hw, hf⟩ := sg_name hw hf
  refine lv_aload_n hx hb dX9_adds_12 rfl (lv_at hl 1 rfl) ?_
  refine lv_bipush (v := 11) hx hb dX9_adds_13 (by decide) ?_
  refine lv_iload hx hb dX9_adds_15 (lv_at hl 0 rfl) ?_
  refine lv_iadd hx hb dX9_adds_17 ?_
  refine lv_iload_n hx hb dX9_adds_18 rfl (lv_at hl 3 rfl) ?_
  obtain ⟨hg19, hf⟩ := gd_of hf
  refine sg_ist hc hw ha_q0 hT_q0 rfl hg19 dX9_adds_19 (fun H locs hw => ?_)
  obtain ⟨h19, hw, hf⟩ := sg_name hw hf
  refine lv_aload_n hx hb dX9_adds_20 rfl (lv_at hl 1 rfl) ?_
  refine lv_bipush (v := 21) hx hb dX9_adds_21 (by decide) ?_
  refine lv_iload hx hb dX9_adds_23 (lv_at hl 0 rfl) ?_
  refine lv_iadd hx hb dX9_adds_25 ?_
  refine lv_iload_n hx hb dX9_adds_26 rfl (lv_at hl 4 rfl) ?_
  obtain ⟨hg27, hf⟩ := gd_of hf
  refine sg_ist hc hw ha_q0 hT_q0 rfl hg27 dX9_adds_27 (fun H locs hw => ?_)
  obtain ⟨h27, hw, hf⟩ := sg_name hw hf
  refine lv_aload_n hx hb dX9_adds_28 rfl (lv_at hl 1 rfl) ?_
  refine lv_iconst (v := 0) hx hb dX9_adds_29 (by decide) ?_
  refine lv_dup2_11 hx hb dX9_adds_30 rfl rfl ?_
  obtain ⟨hg31, hf⟩ := gd_of hf
  refine sg_ild hc hw ha_q0 hT_q0 rfl hg31 dX9_adds_31 ?_
  refine lv_iconst (v := 1) hx hb dX9_adds_32 (by decide) ?_
  refine lv_iadd hx hb dX9_adds_33 ?_
  obtain ⟨hg34, hf⟩ := gd_of hf
  refine sg_ist hc hw ha_q0 hT_q0 rfl hg34 dX9_adds_34 (fun H locs hw => ?_)
  obtain ⟨h34, hw, hf⟩ := sg_name hw hf
  cases hf
  exact sg_vret hc hw hz hn0 hr hlocks rfl dX9_adds_35
theorem c_X9_adds {l : Launch} {D : va_G} {cA : Nat → ClassId} {b n : Nat} (hn : sg_okN n) {q0 : Nat} {x1 : Int32} {x2 : Int32} {x3 : Int32} (ha_q0 : q0 < n) (hT_q0 : sg_T q0 = 11) {h : HP} {Rz : HP} (hf : F_X9_adds q0 x1 x2 x3 h = some Rz) : Met l yX9_adds (Cond.code yX9_adds cX9_adds 5 none :: sg_tbl) ({ frames := 0, cells := 0, slots := 0, locals := 0 } : Room) (va_Pc [.ref (b + q0), .int x1, .int x2, .int x3] (sg_Wd D b cA n h)) (va_Qv (fun u => u = Rz) (sg_Wd D b cA n) (sg_A b)) 0 0 (sg_A b) := by
  refine Met.ofW (cc := cX9_adds) (maxL := 5) (ret := none) (by decide) rfl ?_
  intro p e s m args below meth c s₁ B hml hv
  obtain ⟨rfl, hP, hK, hz, hY, hN⟩ := hv
  have hl := lv_entry [.ref (b + q0), .int x1, .int x2, .int x3] (n := 5) (Nat.le_of_ble_eq_true rfl)
  rw [lg_entry_eq]
  exact w_X9_adds hn ⟨B.exec, B.bytes, findClass_of_methodNamed B.named, fun w h => atoms_spec (ws := Cond.code yX9_adds cX9_adds 5 none :: sg_tbl) B.pre w (List.mem_cons_of_mem _ h), hK, hN⟩ hz B.returns B.notSynchronized hml (Nat.le_refl _) (Nat.le_refl _) ha_q0 hT_q0 hf _ _ _ ⟨hP, hY, va_S.rf⟩ hl
set_option maxHeartbeats 4000000 in
set_option maxRecDepth 100000 in
theorem w_X9_bear {p : Program} {l : Launch} {e : Env} {R : Room} {s : State} {m : MethodId} {args : Array Value} {below : List Frame} {meth : Method} {c : Code} {D : va_G} {cA : Nat → ClassId} {b n : Nat} (hn : sg_okN n) {a : Nat} {x1 : Int32} {x2 : Int32} {x3 : Int32} {h : HP} {Rz : Int32 × HP} (hc : sg_Cx p s m args c cX9_bear RX9 D cA) (hz : s.heap.size = b + n) (hr : meth.sig.returnType = some .int) (hlocks : meth.locks = false) (hml : c.maxLocals = 4) (hRf : 2 ≤ R.frames) (hRl : 46 ≤ R.locals) (ha_a : a < n) (hT_a : sg_T a = 9) (hf : F_X9_bear a x1 x2 x3 h = some Rz) (H : Heap) (locs : List Loc) (ls : Array Slot) (hw : sg_Wo D b cA n s.heap h H locs) (hl : lv_has ls 4 [(0, .ref (b + a)), (1, .int x1), (2, .int x2), (3, .int x3)]) : W p l e R s m args below meth c H locs 0 0 (sg_Qi below args s D b cA n (fun r u => r = Rz.1 ∧ u = Rz.2)) (F0 m 0 ls []) := by
  have hx := hc.1
  have hb := hc.2.1
  have hn0 : 0 < n := sg_pos hn
  unfold F_X9_bear at hf
  refine lv_aload_n hx hb dX9_bear_0 rfl (lv_at hl 0 rfl) ?_
  refine lv_iload_n hx hb dX9_bear_1 rfl (lv_at hl 1 rfl) ?_
  obtain ⟨p2, hp2, hf⟩ := cl_of hf
  refine sg_vi (rest := []) (c_X9_isBearer hn ha_a hT_a hp2) hc hw hz hml hl ha_a hT_a (by decide) rfl cv_X9_220 ⟨⟨rfl, rfl⟩, Nat.le_trans (Nat.le_of_ble_eq_true rfl) hRf, Nat.le_trans (Nat.le_of_ble_eq_true rfl) hRl⟩ ⟨Nat.zero_le _, Nat.zero_le _⟩ rfl rfl (Nat.le_of_ble_eq_true rfl) dX9_bear_2 (fun r h1 H locs hp hw => ?_)
  obtain ⟨⟨e1, e2⟩, hb2⟩ := hp; subst r; subst h1
  refine lv_if_eq (tgt := 33) hx hb dX9_bear_5 (by decide) (fun c5 => ?_) (fun c5 => ?_)
  · have hf := if_of c5 hf
    refine lv_iconst (v := (-1)) hx hb dX9_bear_33 (by decide) ?_
    cases hf
    exact sg_iret hc hw hz hn0 hr hlocks ⟨rfl, rfl⟩ dX9_bear_34
  · have hf := if_no c5 hf
    refine lv_iload_n hx hb dX9_bear_8 rfl (lv_at hl 2 rfl) ?_
    refine lv_i2l hx hb dX9_bear_9 rfl ?_
    refine lv_lconst (v := 0) hx hb dX9_bear_10 (by decide) ?_
    refine lv_ldc2 hx hb hc.2.2.1 (hc.2.2.2.1 _ k_1113) dX9_bear_11 ?_
    obtain ⟨p14, hp14, hf⟩ := cl_of hf
    refine sg_si (rest := []) (c_X9_in hn (h := h) hp14) hc hw hz hn0 hml hl cs_X9_87 ⟨⟨rfl, rfl⟩, Nat.le_trans (Nat.le_of_ble_eq_true rfl) hRf, Nat.le_trans (Nat.le_of_ble_eq_true rfl) hRl⟩ ⟨Nat.zero_le _, Nat.zero_le _⟩ rfl rfl (Nat.le_of_ble_eq_true rfl) dX9_bear_14 (fun r h1 H locs hp hw => ?_)
    obtain ⟨⟨e1, e2⟩, hb14⟩ := hp; subst r; subst h1
    refine lv_if_eq (tgt := 33) hx hb dX9_bear_17 (by decide) (fun c17 => ?_) (fun c17 => ?_)
    · have hf := if_of c17 hf
      refine lv_iconst (v := (-1)) hx hb dX9_bear_33 (by decide) ?_
      cases hf
      exact sg_iret hc hw hz hn0 hr hlocks ⟨rfl, rfl⟩ dX9_bear_34
    · have hf := if_no c17 hf
      refine lv_iload_n hx hb dX9_bear_20 rfl (lv_at hl 3 rfl) ?_
      refine lv_i2l hx hb dX9_bear_21 rfl ?_
      refine lv_iload_n hx hb dX9_bear_22 rfl (lv_at hl 2 rfl) ?_
      refine lv_i2l hx hb dX9_bear_23 rfl ?_
      refine lv_ldc2 hx hb hc.2.2.1 (hc.2.2.2.1 _ k_1113) dX9_bear_24 ?_
      obtain ⟨p27, hp27, hf⟩ := cl_of hf
      refine sg_si (rest := []) (c_X9_in hn (h := h) hp27) hc hw hz hn0 hml hl cs_X9_87 ⟨⟨rfl, rfl⟩, Nat.le_trans (Nat.le_of_ble_eq_true rfl) hRf, Nat.le_trans (Nat.le_of_ble_eq_true rfl) hRl⟩ ⟨Nat.zero_le _, Nat.zero_le _⟩ rfl rfl (Nat.le_of_ble_eq_true rfl) dX9_bear_27 (fun r h1 H locs hp hw => ?_)
      obtain ⟨⟨e1, e2⟩, hb27⟩ := hp; subst r; subst h1
      refine lv_if_ne (tgt := 35) hx hb dX9_bear_30 (by decide) (fun c30 => ?_) (fun c30 => ?_)
      · have hf := if_no c30 hf
        refine lv_aload_n hx hb dX9_bear_35 rfl (lv_at hl 0 rfl) ?_
        obtain ⟨hF36, hT36, ha36, hN36⟩ := ft_9_2 hn ha_a hT_a
        refine sg_getf (q := (a + 3)) hc hw ha_a hT_a fr_9_2 (by decide) k_875 dX9_bear_36 hF36 ?_
        refine lv_iconst (v := 0) hx hb dX9_bear_39 (by decide) ?_
        refine sg_ild hc hw ha36 hT36 hN36 (show vp_in 0 31 by unfold vp_in; decide) dX9_bear_40 ?_
        refine lv_bipush (v := 9) hx hb dX9_bear_41 (by decide) ?_
        refine lv_icmp_ne (tgt := 49) hx hb dX9_bear_43 (by decide) (fun c43 => ?_) (fun c43 => ?_)
        · have hf := if_no c43 hf
          refine lv_aload_n hx hb dX9_bear_49 rfl (lv_at hl 0 rfl) ?_
          obtain ⟨p50, hp50, hf⟩ := cl_of hf
          refine sg_vv (rest := []) (c_X9_remember hn ha_a hT_a hp50) hc hw hz hml hl ha_a hT_a (by decide) rfl cv_X9_241 ⟨⟨rfl, rfl⟩, Nat.le_trans (Nat.le_of_ble_eq_true rfl) hRf, Nat.le_trans (Nat.le_of_ble_eq_true rfl) hRl⟩ ⟨Nat.zero_le _, Nat.zero_le _⟩ rfl rfl (Nat.le_of_ble_eq_true rfl) dX9_bear_50 (fun h1 H locs hp hw => ?_)
          subst h1
          refine lv_aload_n hx hb dX9_bear_53 rfl (lv_at hl 0 rfl) ?_
          refine sg_getf (q := (a + 3)) hc hw ha_a hT_a fr_9_2 (by decide) k_875 dX9_bear_54 (ft_9_2 hn ha_a hT_a).1 ?_
          refine lv_iload_n hx hb dX9_bear_57 rfl (lv_at hl 1 rfl) ?_
          refine lv_iload_n hx hb dX9_bear_58 rfl (lv_at hl 2 rfl) ?_
          refine lv_iload_n hx hb dX9_bear_59 rfl (lv_at hl 3 rfl) ?_
          obtain ⟨p60, hp60, hf⟩ := cl_of hf
          refine sg_sv' (rest := []) (c_X9_adds hn ha36 hT36 hp60) hc hw hz hn0 hml hl cs_X9_244 ⟨⟨rfl, rfl⟩, Nat.le_trans (Nat.le_of_ble_eq_true rfl) hRf, Nat.le_trans (Nat.le_of_ble_eq_true rfl) hRl⟩ ⟨Nat.zero_le _, Nat.zero_le _⟩ rfl rfl (Nat.le_of_ble_eq_true rfl) dX9_bear_60 (fun h1 H locs hp hw => ?_)
          subst h1
          refine lv_aload_n hx hb dX9_bear_63 rfl (lv_at hl 0 rfl) ?_
          refine sg_getf (q := (a + 3)) hc hw ha_a hT_a fr_9_2 (by decide) k_875 dX9_bear_64 (ft_9_2 hn ha_a hT_a).1 ?_
          refine lv_iconst (v := 0) hx hb dX9_bear_67 (by decide) ?_
          refine sg_ild hc hw ha36 hT36 hN36 (show vp_in 0 31 by unfold vp_in; decide) dX9_bear_68 ?_
          cases hf
          exact sg_iret hc hw hz hn0 hr hlocks ⟨rfl, rfl⟩ dX9_bear_69
        · have hf := if_of c43 hf
          refine lv_bipush (v := (-3)) hx hb dX9_bear_46 (by decide) ?_
          cases hf
          exact sg_iret hc hw hz hn0 hr hlocks ⟨rfl, rfl⟩ dX9_bear_48
      · have hf := if_of c30 hf
        refine lv_iconst (v := (-1)) hx hb dX9_bear_33 (by decide) ?_
        cases hf
        exact sg_iret hc hw hz hn0 hr hlocks ⟨rfl, rfl⟩ dX9_bear_34
theorem c_X9_bear {l : Launch} {D : va_G} {cA : Nat → ClassId} {b n : Nat} (hn : sg_okN n) {a : Nat} {x1 : Int32} {x2 : Int32} {x3 : Int32} (ha_a : a < n) (hT_a : sg_T a = 9) {h : HP} {Rz : Int32 × HP} (hf : F_X9_bear a x1 x2 x3 h = some Rz) : Met l yX9_bear (Cond.code yX9_bear cX9_bear 4 (some .int) :: sg_tbl) ({ frames := 2, cells := 0, slots := 0, locals := 46 } : Room) (va_Pc [.ref (b + a), .int x1, .int x2, .int x3] (sg_Wd D b cA n h)) (va_Qi (fun r u => r = Rz.1 ∧ u = Rz.2) (sg_Wd D b cA n) (sg_A b)) 0 0 (sg_A b) := by
  refine Met.ofW (cc := cX9_bear) (maxL := 4) (ret := (some .int)) (by decide) rfl ?_
  intro p e s m args below meth c s₁ B hml hv
  obtain ⟨rfl, hP, hK, hz, hY, hN⟩ := hv
  have hl := lv_entry [.ref (b + a), .int x1, .int x2, .int x3] (n := 4) (Nat.le_of_ble_eq_true rfl)
  rw [lg_entry_eq]
  exact w_X9_bear hn ⟨B.exec, B.bytes, findClass_of_methodNamed B.named, fun w h => atoms_spec (ws := Cond.code yX9_bear cX9_bear 4 (some .int) :: sg_tbl) B.pre w (List.mem_cons_of_mem _ h), hK, hN⟩ hz B.returns B.notSynchronized hml (Nat.le_refl _) (Nat.le_refl _) ha_a hT_a hf _ _ _ ⟨hP, hY, va_S.rf⟩ hl
set_option maxHeartbeats 4000000 in
set_option maxRecDepth 100000 in
theorem w_X9_leave {p : Program} {l : Launch} {e : Env} {R : Room} {s : State} {m : MethodId} {args : Array Value} {below : List Frame} {meth : Method} {c : Code} {D : va_G} {cA : Nat → ClassId} {b n : Nat} (hn : sg_okN n) {a : Nat} {x1 : Int32} {h : HP} {Rz : Int32 × HP} (hc : sg_Cx p s m args c cX9_leave RX9 D cA) (hz : s.heap.size = b + n) (hr : meth.sig.returnType = some .int) (hlocks : meth.locks = false) (hml : c.maxLocals = 4) (hRf : 2 ≤ R.frames) (hRl : 46 ≤ R.locals) (ha_a : a < n) (hT_a : sg_T a = 9) (hf : F_X9_leave a x1 h = some Rz) (H : Heap) (locs : List Loc) (ls : Array Slot) (hw : sg_Wo D b cA n s.heap h H locs) (hl : lv_has ls 4 [(0, .ref (b + a)), (1, .int x1)]) : W p l e R s m args below meth c H locs 0 0 (sg_Qi below args s D b cA n (fun r u => r = Rz.1 ∧ u = Rz.2)) (F0 m 0 ls []) := by
  have hx := hc.1
  have hb := hc.2.1
  have hn0 : 0 < n := sg_pos hn
  have J75 : ∀ (h : HP) (H : Heap) (locs : List Loc) (ls : Array Slot), F_X9_leave_J75 a h = some Rz → sg_Wo D b cA n s.heap h H locs → lv_has ls 4 [(0, .ref (b + a))] → W p l e R s m args below meth c H locs 0 0 (sg_Qi below args s D b cA n (fun r u => r = Rz.1 ∧ u = Rz.2)) (F0 m 75 ls []) := by
    intro h H locs ls hf hw hl
    unfold F_X9_leave_J75 at hf
    refine lv_aload_n hx hb dX9_leave_75 rfl (lv_at hl 0 rfl) ?_
    obtain ⟨hF76, hT76, ha76, hN76⟩ := ft_9_2 hn ha_a hT_a
    refine sg_getf (q := (a + 3)) hc hw ha_a hT_a fr_9_2 (by decide) k_875 dX9_leave_76 hF76 ?_
    refine lv_iconst (v := 0) hx hb dX9_leave_79 (by decide) ?_
    refine lv_dup2_11 hx hb dX9_leave_80 rfl rfl ?_
    refine sg_ild hc hw ha76 hT76 hN76 (show vp_in 0 31 by unfold vp_in; decide) dX9_leave_81 ?_
    refine lv_iconst (v := 1) hx hb dX9_leave_82 (by decide) ?_
    refine lv_isub hx hb dX9_leave_83 ?_
    refine sg_ist hc hw ha76 hT76 hN76 (show vp_in 0 31 by unfold vp_in; decide) dX9_leave_84 (fun H locs hw => ?_)
    obtain ⟨h84, hw, hf⟩ := sg_name hw hf
    refine lv_aload_n hx hb dX9_leave_85 rfl (lv_at hl 0 rfl) ?_
    refine sg_getf (q := (a + 3)) hc hw ha_a hT_a fr_9_2 (by decide) k_875 dX9_leave_86 (ft_9_2 hn ha_a hT_a).1 ?_
    refine lv_iconst (v := 0) hx hb dX9_leave_89 (by decide) ?_
    refine sg_ild hc hw ha76 hT76 hN76 (show vp_in 0 31 by unfold vp_in; decide) dX9_leave_90 ?_
    cases hf
    exact sg_iret hc hw hz hn0 hr hlocks ⟨rfl, rfl⟩ dX9_leave_91
  have L16 : ∀ (k : Nat) (x : (Int32 × HP)), F_X9_leave_L16 a k x = some Rz → ∀ (H : Heap) (locs : List Loc) (ls : Array Slot), sg_Wo D b cA n s.heap x.2 H locs → lv_has ls 4 [(0, .ref (b + a)), (2, .int x.1)] → W p l e R s m args below meth c H locs 0 0 (sg_Qi below args s D b cA n (fun r u => r = Rz.1 ∧ u = Rz.2)) (F0 m 16 ls []) := by
    unfold F_X9_leave_L16
    refine lp_walk ?_
    intro rc16 hrc16 x hf H locs ls hw hl
    obtain ⟨x2, h⟩ := x
    dsimp only at hf hw hl
    have J69 : ∀ (x2 : Int32) (h : HP) (H : Heap) (locs : List Loc) (ls : Array Slot), F_X9_leave_J69 a rc16 x2 h = some Rz → sg_Wo D b cA n s.heap h H locs → lv_has ls 4 [(0, .ref (b + a)), (2, .int x2)] → W p l e R s m args below meth c H locs 0 0 (sg_Qi below args s D b cA n (fun r u => r = Rz.1 ∧ u = Rz.2)) (F0 m 69 ls []) := by
      intro x2 h H locs ls hf hw hl
      unfold F_X9_leave_J69 at hf
      refine lv_iinc (v := (x2 + 1)) (lv' := [(2, .int (x2 + 1)), (0, .ref (b + a))]) hx hb dX9_leave_69 hl (k := 1) rfl rfl (by decide) rfl (fun ls hl => ?_)
      refine lv_goto (tgt := 16) hx hb dX9_leave_72 (by decide) ?_
      exact hrc16 _ hf _ _ _ hw (lv_sub hl [1, 0] rfl)
    have L30 : ∀ (x2 : Int32) (k : Nat) (x : (Int32 × HP)), F_X9_leave_L30 a rc16 x2 k x = some Rz → ∀ (H : Heap) (locs : List Loc) (ls : Array Slot), sg_Wo D b cA n s.heap x.2 H locs → lv_has ls 4 [(0, .ref (b + a)), (2, .int x2), (3, .int x.1)] → W p l e R s m args below meth c H locs 0 0 (sg_Qi below args s D b cA n (fun r u => r = Rz.1 ∧ u = Rz.2)) (F0 m 30 ls []) := by
      intro x2
      unfold F_X9_leave_L30
      refine lp_walk ?_
      intro rc30 hrc30 x hf H locs ls hw hl
      obtain ⟨x3, h⟩ := x
      dsimp only at hf hw hl
      refine lv_iload_n hx hb dX9_leave_30 rfl (lv_at hl 2 rfl) ?_
      refine lv_iconst (v := 3) hx hb dX9_leave_31 (by decide) ?_
      refine lv_icmp_ge (tgt := 69) hx hb dX9_leave_32 (by decide) (fun c32 => ?_) (fun c32 => ?_)
      · have hf := if_of c32 hf
        exact J69 x2 _ _ _ _ hf hw (lv_sub hl [0, 1] rfl)
      · have hf := if_no c32 hf
        refine lv_aload_n hx hb dX9_leave_35 rfl (lv_at hl 0 rfl) ?_
        obtain ⟨hF36, hT36, ha36, hN36⟩ := ft_9_2 hn ha_a hT_a
        refine sg_getf (q := (a + 3)) hc hw ha_a hT_a fr_9_2 (by decide) k_875 dX9_leave_36 hF36 ?_
        refine lv_iconst (v := 1) hx hb dX9_leave_39 (by decide) ?_
        refine lv_bipush (v := 10) hx hb dX9_leave_40 (by decide) ?_
        refine lv_iload_n hx hb dX9_leave_42 rfl (lv_at hl 2 rfl) ?_
        refine lv_imul hx hb dX9_leave_43 ?_
        refine lv_iadd hx hb dX9_leave_44 ?_
        refine lv_iload_n hx hb dX9_leave_45 rfl (lv_at hl 1 rfl) ?_
        refine lv_iadd hx hb dX9_leave_46 ?_
        refine lv_aload_n hx hb dX9_leave_47 rfl (lv_at hl 0 rfl) ?_
        refine sg_getf (q := (a + 3)) hc hw ha_a hT_a fr_9_2 (by decide) k_875 dX9_leave_48 (ft_9_2 hn ha_a hT_a).1 ?_
        refine lv_iconst (v := 1) hx hb dX9_leave_51 (by decide) ?_
        refine lv_bipush (v := 10) hx hb dX9_leave_52 (by decide) ?_
        refine lv_iload_n hx hb dX9_leave_54 rfl (lv_at hl 2 rfl) ?_
        refine lv_imul hx hb dX9_leave_55 ?_
        refine lv_iadd hx hb dX9_leave_56 ?_
        refine lv_iload_n hx hb dX9_leave_57 rfl (lv_at hl 1 rfl) ?_
        refine lv_iadd hx hb dX9_leave_58 ?_
        refine lv_iconst (v := 1) hx hb dX9_leave_59 (by decide) ?_
        refine lv_iadd hx hb dX9_leave_60 ?_
        obtain ⟨hg61, hf⟩ := gd_of hf
        refine sg_ild hc hw ha36 hT36 hN36 hg61 dX9_leave_61 ?_
        obtain ⟨hg62, hf⟩ := gd_of hf
        refine sg_ist hc hw ha36 hT36 hN36 hg62 dX9_leave_62 (fun H locs hw => ?_)
        obtain ⟨h62, hw, hf⟩ := sg_name hw hf
        refine lv_iinc (v := (x3 + 1)) (lv' := [(3, .int (x3 + 1)), (0, .ref (b + a)), (2, .int x2)]) hx hb dX9_leave_63 hl (k := 2) rfl rfl (by decide) rfl (fun ls hl => ?_)
        refine lv_goto (tgt := 30) hx hb dX9_leave_66 (by decide) ?_
        exact hrc30 _ hf _ _ _ hw (lv_sub hl [1, 2, 0] rfl)
    refine lv_iload_n hx hb dX9_leave_16 rfl (lv_at hl 1 rfl) ?_
    refine lv_aload_n hx hb dX9_leave_17 rfl (lv_at hl 0 rfl) ?_
    obtain ⟨hF18, hT18, ha18, hN18⟩ := ft_9_2 hn ha_a hT_a
    refine sg_getf (q := (a + 3)) hc hw ha_a hT_a fr_9_2 (by decide) k_875 dX9_leave_18 hF18 ?_
    refine lv_iconst (v := 0) hx hb dX9_leave_21 (by decide) ?_
    refine sg_ild hc hw ha18 hT18 hN18 (show vp_in 0 31 by unfold vp_in; decide) dX9_leave_22 ?_
    refine lv_iconst (v := 1) hx hb dX9_leave_23 (by decide) ?_
    refine lv_isub hx hb dX9_leave_24 ?_
    refine lv_icmp_ge (tgt := 75) hx hb dX9_leave_25 (by decide) (fun c25 => ?_) (fun c25 => ?_)
    · have hf := if_of c25 hf
      exact J75 _ _ _ _ hf hw (lv_sub hl [0] rfl)
    · have hf := if_no c25 hf
      refine lv_iconst (v := 0) hx hb dX9_leave_28 (by decide) ?_
      refine lv_istore_n (lv' := [(3, .int 0), (0, .ref (b + a)), (2, .int x2)]) hx hb dX9_leave_29 rfl hl (by decide) rfl (fun ls hl => ?_)
      exact L30 x2 _ _ hf _ _ _ hw (lv_sub hl [1, 2, 0] rfl)
  unfold F_X9_leave at hf
  refine lv_aload_n hx hb dX9_leave_0 rfl (lv_at hl 0 rfl) ?_
  refine lv_iload_n hx hb dX9_leave_1 rfl (lv_at hl 1 rfl) ?_
  obtain ⟨p2, hp2, hf⟩ := cl_of hf
  refine sg_vi (rest := []) (c_X9_isTurn hn ha_a hT_a hp2) hc hw hz hml hl ha_a hT_a (by decide) rfl cv_X9_232 ⟨⟨rfl, rfl⟩, Nat.le_trans (Nat.le_of_ble_eq_true rfl) hRf, Nat.le_trans (Nat.le_of_ble_eq_true rfl) hRl⟩ ⟨Nat.zero_le _, Nat.zero_le _⟩ rfl rfl (Nat.le_of_ble_eq_true rfl) dX9_leave_2 (fun r h1 H locs hp hw => ?_)
  obtain ⟨⟨e1, e2⟩, hb2⟩ := hp; subst r; subst h1
  refine lv_if_ne (tgt := 10) hx hb dX9_leave_5 (by decide) (fun c5 => ?_) (fun c5 => ?_)
  · have hf := if_no c5 hf
    refine lv_aload_n hx hb dX9_leave_10 rfl (lv_at hl 0 rfl) ?_
    obtain ⟨p11, hp11, hf⟩ := cl_of hf
    refine sg_vv (rest := []) (c_X9_remember hn ha_a hT_a hp11) hc hw hz hml hl ha_a hT_a (by decide) rfl cv_X9_241 ⟨⟨rfl, rfl⟩, Nat.le_trans (Nat.le_of_ble_eq_true rfl) hRf, Nat.le_trans (Nat.le_of_ble_eq_true rfl) hRl⟩ ⟨Nat.zero_le _, Nat.zero_le _⟩ rfl rfl (Nat.le_of_ble_eq_true rfl) dX9_leave_11 (fun h1 H locs hp hw => ?_)
    subst h1
    refine lv_iload_n hx hb dX9_leave_14 rfl (lv_at hl 1 rfl) ?_
    refine lv_istore_n (lv' := [(2, .int x1), (0, .ref (b + a)), (1, .int x1)]) hx hb dX9_leave_15 rfl hl (by decide) rfl (fun ls hl => ?_)
    exact L16 _ _ hf _ _ _ hw (lv_sub hl [1, 0] rfl)
  · have hf := if_of c5 hf
    refine lv_iconst (v := (-1)) hx hb dX9_leave_8 (by decide) ?_
    cases hf
    exact sg_iret hc hw hz hn0 hr hlocks ⟨rfl, rfl⟩ dX9_leave_9
theorem c_X9_leave {l : Launch} {D : va_G} {cA : Nat → ClassId} {b n : Nat} (hn : sg_okN n) {a : Nat} {x1 : Int32} (ha_a : a < n) (hT_a : sg_T a = 9) {h : HP} {Rz : Int32 × HP} (hf : F_X9_leave a x1 h = some Rz) : Met l yX9_leave (Cond.code yX9_leave cX9_leave 4 (some .int) :: sg_tbl) ({ frames := 2, cells := 0, slots := 0, locals := 46 } : Room) (va_Pc [.ref (b + a), .int x1] (sg_Wd D b cA n h)) (va_Qi (fun r u => r = Rz.1 ∧ u = Rz.2) (sg_Wd D b cA n) (sg_A b)) 0 0 (sg_A b) := by
  refine Met.ofW (cc := cX9_leave) (maxL := 4) (ret := (some .int)) (by decide) rfl ?_
  intro p e s m args below meth c s₁ B hml hv
  obtain ⟨rfl, hP, hK, hz, hY, hN⟩ := hv
  have hl := lv_entry [.ref (b + a), .int x1] (n := 4) (Nat.le_of_ble_eq_true rfl)
  rw [lg_entry_eq]
  exact w_X9_leave hn ⟨B.exec, B.bytes, findClass_of_methodNamed B.named, fun w h => atoms_spec (ws := Cond.code yX9_leave cX9_leave 4 (some .int) :: sg_tbl) B.pre w (List.mem_cons_of_mem _ h), hK, hN⟩ hz B.returns B.notSynchronized hml (Nat.le_refl _) (Nat.le_refl _) ha_a hT_a hf _ _ _ ⟨hP, hY, va_S.rf⟩ hl
set_option maxHeartbeats 4000000 in
set_option maxRecDepth 100000 in
theorem w_X9_undo {p : Program} {l : Launch} {e : Env} {R : Room} {s : State} {m : MethodId} {args : Array Value} {below : List Frame} {meth : Method} {c : Code} {D : va_G} {cA : Nat → ClassId} {b n : Nat} (hn : sg_okN n) {a : Nat} {h : HP} {Rz : Int32 × HP} (hc : sg_Cx p s m args c cX9_undo RX9 D cA) (hz : s.heap.size = b + n) (hr : meth.sig.returnType = some .int) (hlocks : meth.locks = false) (hml : c.maxLocals = 1) (hRf : 1 ≤ R.frames) (hRl : 24 ≤ R.locals) (ha_a : a < n) (hT_a : sg_T a = 9) (hf : F_X9_undo a h = some Rz) (H : Heap) (locs : List Loc) (ls : Array Slot) (hw : sg_Wo D b cA n s.heap h H locs) (hl : lv_has ls 1 [(0, .ref (b + a))]) : W p l e R s m args below meth c H locs 0 0 (sg_Qi below args s D b cA n (fun r u => r = Rz.1 ∧ u = Rz.2)) (F0 m 0 ls []) := by
  have hx := hc.1
  have hb := hc.2.1
  have hn0 : 0 < n := sg_pos hn
  unfold F_X9_undo at hf
  refine lv_aload_n hx hb dX9_undo_0 rfl (lv_at hl 0 rfl) ?_
  refine sg_geti hc hw ha_a hT_a fi_9_5 k_878 dX9_undo_1 ?_
  refine lv_if_ne (tgt := 10) hx hb dX9_undo_4 (by decide) (fun c4 => ?_) (fun c4 => ?_)
  · have hf := if_no c4 hf
    refine lv_aload_n hx hb dX9_undo_10 rfl (lv_at hl 0 rfl) ?_
    refine lv_dup hx hb dX9_undo_11 rfl ?_
    refine sg_geti hc hw ha_a hT_a fi_9_5 k_878 dX9_undo_12 ?_
    refine lv_iconst (v := 1) hx hb dX9_undo_15 (by decide) ?_
    refine lv_isub hx hb dX9_undo_16 ?_
    refine sg_puti hc hw ha_a hT_a fp_9_5 rfl rfl k_878 dX9_undo_17 (fun H locs hw => ?_)
    obtain ⟨h17, hw, hf⟩ := sg_name hw hf
    refine lv_aload_n hx hb dX9_undo_20 rfl (lv_at hl 0 rfl) ?_
    obtain ⟨hF21, hT21, ha21, hN21⟩ := ft_9_4 hn ha_a hT_a
    refine sg_getf (q := (a + 5)) hc hw ha_a hT_a fr_9_4 (by decide) k_877 dX9_undo_21 hF21 ?_
    refine lv_bipush (v := 31) hx hb dX9_undo_24 (by decide) ?_
    refine lv_aload_n hx hb dX9_undo_26 rfl (lv_at hl 0 rfl) ?_
    refine sg_geti hc hw ha_a hT_a fi_9_5 k_878 dX9_undo_27 ?_
    refine lv_imul hx hb dX9_undo_30 ?_
    refine lv_aload_n hx hb dX9_undo_31 rfl (lv_at hl 0 rfl) ?_
    obtain ⟨hF32, hT32, ha32, hN32⟩ := ft_9_2 hn ha_a hT_a
    refine sg_getf (q := (a + 3)) hc hw ha_a hT_a fr_9_2 (by decide) k_875 dX9_undo_32 hF32 ?_
    refine lv_iconst (v := 0) hx hb dX9_undo_35 (by decide) ?_
    obtain ⟨p36, hp36, hf⟩ := cl_of hf
    refine sg_sv' (rest := []) (c_X9_copies hn ha21 hT21 ha32 hT32 hp36) hc hw hz hn0 hml hl cs_X9_235 ⟨⟨rfl, rfl⟩, Nat.le_trans (Nat.le_of_ble_eq_true rfl) hRf, Nat.le_trans (Nat.le_of_ble_eq_true rfl) hRl⟩ ⟨Nat.zero_le _, Nat.zero_le _⟩ rfl rfl (Nat.le_of_ble_eq_true rfl) dX9_undo_36 (fun h1 H locs hp hw => ?_)
    subst h1
    refine lv_aload_n hx hb dX9_undo_39 rfl (lv_at hl 0 rfl) ?_
    refine sg_geti hc hw ha_a hT_a fi_9_5 k_878 dX9_undo_40 ?_
    cases hf
    exact sg_iret hc hw hz hn0 hr hlocks ⟨rfl, rfl⟩ dX9_undo_43
  · have hf := if_of c4 hf
    refine lv_bipush (v := (-2)) hx hb dX9_undo_7 (by decide) ?_
    cases hf
    exact sg_iret hc hw hz hn0 hr hlocks ⟨rfl, rfl⟩ dX9_undo_9
theorem c_X9_undo {l : Launch} {D : va_G} {cA : Nat → ClassId} {b n : Nat} (hn : sg_okN n) {a : Nat} (ha_a : a < n) (hT_a : sg_T a = 9) {h : HP} {Rz : Int32 × HP} (hf : F_X9_undo a h = some Rz) : Met l yX9_undo (Cond.code yX9_undo cX9_undo 1 (some .int) :: sg_tbl) ({ frames := 1, cells := 0, slots := 0, locals := 24 } : Room) (va_Pc [.ref (b + a)] (sg_Wd D b cA n h)) (va_Qi (fun r u => r = Rz.1 ∧ u = Rz.2) (sg_Wd D b cA n) (sg_A b)) 0 0 (sg_A b) := by
  refine Met.ofW (cc := cX9_undo) (maxL := 1) (ret := (some .int)) (by decide) rfl ?_
  intro p e s m args below meth c s₁ B hml hv
  obtain ⟨rfl, hP, hK, hz, hY, hN⟩ := hv
  have hl := lv_entry [.ref (b + a)] (n := 1) (Nat.le_of_ble_eq_true rfl)
  rw [lg_entry_eq]
  exact w_X9_undo hn ⟨B.exec, B.bytes, findClass_of_methodNamed B.named, fun w h => atoms_spec (ws := Cond.code yX9_undo cX9_undo 1 (some .int) :: sg_tbl) B.pre w (List.mem_cons_of_mem _ h), hK, hN⟩ hz B.returns B.notSynchronized hml (Nat.le_refl _) (Nat.le_refl _) ha_a hT_a hf _ _ _ ⟨hP, hY, va_S.rf⟩ hl
set_option maxHeartbeats 4000000 in
set_option maxRecDepth 100000 in
theorem w_X9_best {p : Program} {l : Launch} {e : Env} {R : Room} {s : State} {m : MethodId} {args : Array Value} {below : List Frame} {meth : Method} {c : Code} {D : va_G} {cA : Nat → ClassId} {b n : Nat} (hn : sg_okN n) {a : Nat} {x1 : Int32} {x2 : Int32} {h : HP} {Rz : Int32 × HP} (hc : sg_Cx p s m args c cX9_best RX9 D cA) (hz : s.heap.size = b + n) (hr : meth.sig.returnType = some .int) (hlocks : meth.locks = false) (hml : c.maxLocals = 8) (hRf : 5 ≤ R.frames) (hRl : 122 ≤ R.locals) (ha_a : a < n) (hT_a : sg_T a = 9) (hf : F_X9_best a x1 x2 h = some Rz) (H : Heap) (locs : List Loc) (ls : Array Slot) (hw : sg_Wo D b cA n s.heap h H locs) (hl : lv_has ls 8 [(0, .ref (b + a)), (1, .int x1), (2, .int x2)]) : W p l e R s m args below meth c H locs 0 0 (sg_Qi below args s D b cA n (fun r u => r = Rz.1 ∧ u = Rz.2)) (F0 m 0 ls []) := by
  have hx := hc.1
  have hb := hc.2.1
  have hn0 : 0 < n := sg_pos hn
  have J145 : ∀ (x3 : Int32) (x4 : Int32) (h : HP) (H : Heap) (locs : List Loc) (ls : Array Slot), F_X9_best_J145 a x2 x3 x4 h = some Rz → sg_Wo D b cA n s.heap h H locs → lv_has ls 8 [(2, .int x2), (3, .int x3), (4, .int x4)] → W p l e R s m args below meth c H locs 0 0 (sg_Qi below args s D b cA n (fun r u => r = Rz.1 ∧ u = Rz.2)) (F0 m 145 ls []) := by
    intro x3 x4 h H locs ls hf hw hl
    unfold F_X9_best_J145 at hf
    refine lv_iload hx hb dX9_best_145 (lv_at hl 2 rfl) ?_
    refine lv_bipush (v := (-4)) hx hb dX9_best_147 (by decide) ?_
    refine lv_icmp_eq (tgt := 156) hx hb dX9_best_149 (by decide) (fun c149 => ?_) (fun c149 => ?_)
    · have hf := if_of c149 hf
      refine lv_iload hx hb dX9_best_156 (lv_at hl 2 rfl) ?_
      refine lv_goto (tgt := 162) hx hb dX9_best_158 (by decide) ?_
      cases hf
      exact sg_iret hc hw hz hn0 hr hlocks ⟨rfl, rfl⟩ dX9_best_162
    · have hf := if_no c149 hf
      refine lv_iload_n hx hb dX9_best_152 rfl (lv_at hl 0 rfl) ?_
      refine lv_if_ne (tgt := 161) hx hb dX9_best_153 (by decide) (fun c153 => ?_) (fun c153 => ?_)
      · have hf := if_no c153 hf
        refine lv_iload_n hx hb dX9_best_161 rfl (lv_at hl 1 rfl) ?_
        cases hf
        exact sg_iret hc hw hz hn0 hr hlocks ⟨rfl, rfl⟩ dX9_best_162
      · have hf := if_of c153 hf
        refine lv_iload hx hb dX9_best_156 (lv_at hl 2 rfl) ?_
        refine lv_goto (tgt := 162) hx hb dX9_best_158 (by decide) ?_
        cases hf
        exact sg_iret hc hw hz hn0 hr hlocks ⟨rfl, rfl⟩ dX9_best_162
  have L48 : ∀ (x5 : Int32) (k : Nat) (x : (Int32 × Int32 × Int32 × HP)), F_X9_best_L48 a x1 x2 x5 k x = some Rz → ∀ (H : Heap) (locs : List Loc) (ls : Array Slot), sg_Wo D b cA n s.heap x.2.2.2 H locs → lv_has ls 8 [(0, .ref (b + a)), (1, .int x1), (2, .int x2), (3, .int x.1), (4, .int x.2.1), (5, .int x5), (6, .int x.2.2.1)] → W p l e R s m args below meth c H locs 0 0 (sg_Qi below args s D b cA n (fun r u => r = Rz.1 ∧ u = Rz.2)) (F0 m 48 ls []) := by
    intro x5
    unfold F_X9_best_L48
    refine lp_walk ?_
    intro rc48 hrc48 x hf H locs ls hw hl
    obtain ⟨x3, x4, x6, h⟩ := x
    dsimp only at hf hw hl
    have J139 : ∀ (x3 : Int32) (x4 : Int32) (x6 : Int32) (h : HP) (H : Heap) (locs : List Loc) (ls : Array Slot), F_X9_best_J139 a rc48 x1 x2 x3 x4 x5 x6 h = some Rz → sg_Wo D b cA n s.heap h H locs → lv_has ls 8 [(0, .ref (b + a)), (1, .int x1), (2, .int x2), (3, .int x3), (4, .int x4), (5, .int x5), (6, .int x6)] → W p l e R s m args below meth c H locs 0 0 (sg_Qi below args s D b cA n (fun r u => r = Rz.1 ∧ u = Rz.2)) (F0 m 139 ls []) := by
      intro x3 x4 x6 h H locs ls hf hw hl
      unfold F_X9_best_J139 at hf
      refine lv_iinc (v := (x6 + 1)) (lv' := [(6, .int (x6 + 1)), (0, .ref (b + a)), (1, .int x1), (2, .int x2), (3, .int x3), (4, .int x4), (5, .int x5)]) hx hb dX9_best_139 hl (k := 6) rfl rfl (by decide) rfl (fun ls hl => ?_)
      refine lv_goto (tgt := 48) hx hb dX9_best_142 (by decide) ?_
      exact hrc48 _ hf _ _ _ hw (lv_sub hl [1, 2, 3, 4, 5, 6, 0] rfl)
    have L59 : ∀ (x6 : Int32) (k : Nat) (x : (Int32 × Int32 × Int32 × HP)), F_X9_best_L59 a rc48 x1 x2 x5 x6 k x = some Rz → ∀ (H : Heap) (locs : List Loc) (ls : Array Slot), sg_Wo D b cA n s.heap x.2.2.2 H locs → lv_has ls 8 [(0, .ref (b + a)), (1, .int x1), (2, .int x2), (3, .int x.1), (4, .int x.2.1), (5, .int x5), (6, .int x6), (7, .int x.2.2.1)] → W p l e R s m args below meth c H locs 0 0 (sg_Qi below args s D b cA n (fun r u => r = Rz.1 ∧ u = Rz.2)) (F0 m 59 ls []) := by
      intro x6
      unfold F_X9_best_L59
      refine lp_walk ?_
      intro rc59 hrc59 x hf H locs ls hw hl
      obtain ⟨x3, x4, x7, h⟩ := x
      dsimp only at hf hw hl
      have J132 : ∀ (x4 : Int32) (x7 : Int32) (s0 : Int32) (h : HP) (H : Heap) (locs : List Loc) (ls : Array Slot), F_X9_best_J132 a rc48 rc59 x1 x2 x4 x5 x6 x7 s0 h = some Rz → sg_Wo D b cA n s.heap h H locs → lv_has ls 8 [(0, .ref (b + a)), (1, .int x1), (2, .int x2), (4, .int x4), (5, .int x5), (6, .int x6), (7, .int x7)] → W p l e R s m args below meth c H locs 0 0 (sg_Qi below args s D b cA n (fun r u => r = Rz.1 ∧ u = Rz.2)) (F0 m 132 ls [.int s0]) := by
        intro x4 x7 s0 h H locs ls hf hw hl
        unfold F_X9_best_J132 at hf
        refine lv_istore_n (lv' := [(3, .int s0), (0, .ref (b + a)), (1, .int x1), (2, .int x2), (4, .int x4), (5, .int x5), (6, .int x6), (7, .int x7)]) hx hb dX9_best_132 rfl hl (by decide) rfl (fun ls hl => ?_)
        refine lv_iinc (v := (x7 + 1)) (lv' := [(7, .int (x7 + 1)), (3, .int s0), (0, .ref (b + a)), (1, .int x1), (2, .int x2), (4, .int x4), (5, .int x5), (6, .int x6)]) hx hb dX9_best_133 hl (k := 7) rfl rfl (by decide) rfl (fun ls hl => ?_)
        refine lv_goto (tgt := 59) hx hb dX9_best_136 (by decide) ?_
        exact hrc59 _ hf _ _ _ hw (lv_sub hl [2, 3, 4, 1, 5, 6, 7, 0] rfl)
      have J110 : ∀ (x3 : Int32) (x7 : Int32) (s0 : Int32) (h : HP) (H : Heap) (locs : List Loc) (ls : Array Slot), F_X9_best_J110 a rc48 rc59 x1 x2 x3 x5 x6 x7 s0 h = some Rz → sg_Wo D b cA n s.heap h H locs → lv_has ls 8 [(0, .ref (b + a)), (1, .int x1), (2, .int x2), (3, .int x3), (5, .int x5), (6, .int x6), (7, .int x7)] → W p l e R s m args below meth c H locs 0 0 (sg_Qi below args s D b cA n (fun r u => r = Rz.1 ∧ u = Rz.2)) (F0 m 110 ls [.int s0]) := by
        intro x3 x7 s0 h H locs ls hf hw hl
        unfold F_X9_best_J110 at hf
        refine lv_istore (lv' := [(4, .int s0), (0, .ref (b + a)), (1, .int x1), (2, .int x2), (3, .int x3), (5, .int x5), (6, .int x6), (7, .int x7)]) hx hb dX9_best_110 hl (by decide) rfl (fun ls hl => ?_)
        refine lv_aload_n hx hb dX9_best_112 rfl (lv_at hl 1 rfl) ?_
        obtain ⟨hF113, hT113, ha113, hN113⟩ := ft_9_19 hn ha_a hT_a
        refine sg_getf (q := (a + 13)) hc hw ha_a hT_a fr_9_19 (by decide) k_892 dX9_best_113 hF113 ?_
        refine lv_iload_n hx hb dX9_best_116 rfl (lv_at hl 2 rfl) ?_
        obtain ⟨hg117, hf⟩ := gd_of hf
        refine sg_ild hc hw ha113 hT113 hN113 hg117 dX9_best_117 ?_
        refine lv_iload_n hx hb dX9_best_118 rfl (lv_at hl 4 rfl) ?_
        refine lv_icmp_le (tgt := 131) hx hb dX9_best_119 (by decide) (fun c119 => ?_) (fun c119 => ?_)
        · have hf := if_of c119 hf
          refine lv_iload_n hx hb dX9_best_131 rfl (lv_at hl 4 rfl) ?_
          exact J132 s0 x7 x3 _ _ _ _ hf hw (lv_sub hl [1, 2, 3, 0, 5, 6, 7] rfl)
        · have hf := if_no c119 hf
          refine lv_aload_n hx hb dX9_best_122 rfl (lv_at hl 1 rfl) ?_
          refine sg_getf (q := (a + 13)) hc hw ha_a hT_a fr_9_19 (by decide) k_892 dX9_best_123 (ft_9_19 hn ha_a hT_a).1 ?_
          refine lv_iload_n hx hb dX9_best_126 rfl (lv_at hl 2 rfl) ?_
          obtain ⟨hg127, hf⟩ := gd_of hf
          refine sg_ild hc hw ha113 hT113 hN113 hg127 dX9_best_127 ?_
          refine lv_goto (tgt := 132) hx hb dX9_best_128 (by decide) ?_
          exact J132 s0 x7 (ld h (a + 13) x1) _ _ _ _ hf hw (lv_sub hl [1, 2, 3, 0, 5, 6, 7] rfl)
      refine lv_iload hx hb dX9_best_59 (lv_at hl 7 rfl) ?_
      refine lv_iload hx hb dX9_best_61 (lv_at hl 5 rfl) ?_
      refine lv_icmp_ge (tgt := 139) hx hb dX9_best_63 (by decide) (fun c63 => ?_) (fun c63 => ?_)
      · have hf := if_of c63 hf
        exact J139 x3 x4 x6 _ _ _ _ hf hw (lv_sub hl [0, 1, 2, 3, 4, 5, 6] rfl)
      · have hf := if_no c63 hf
        refine lv_aload_n hx hb dX9_best_66 rfl (lv_at hl 0 rfl) ?_
        obtain ⟨p67, hp67, hf⟩ := cl_of hf
        refine sg_vv (rest := []) (c_X9_asItIs hn ha_a hT_a hp67) hc hw hz hml hl ha_a hT_a (by decide) rfl cv_X9_214 ⟨⟨rfl, rfl⟩, Nat.le_trans (Nat.le_of_ble_eq_true rfl) hRf, Nat.le_trans (Nat.le_of_ble_eq_true rfl) hRl⟩ ⟨Nat.zero_le _, Nat.zero_le _⟩ rfl rfl (Nat.le_of_ble_eq_true rfl) dX9_best_67 (fun h1 H locs hp hw => ?_)
        subst h1
        refine lv_aload_n hx hb dX9_best_70 rfl (lv_at hl 0 rfl) ?_
        obtain ⟨hF71, hT71, ha71, hN71⟩ := ft_9_15 hn ha_a hT_a
        refine sg_getf (q := (a + 11)) hc hw ha_a hT_a fr_9_15 (by decide) k_888 dX9_best_71 hF71 ?_
        refine lv_iload_n hx hb dX9_best_74 rfl (lv_at hl 1 rfl) ?_
        refine lv_iload hx hb dX9_best_75 (lv_at hl 6 rfl) ?_
        refine lv_iload hx hb dX9_best_77 (lv_at hl 7 rfl) ?_
        obtain ⟨p79, hp79, hf⟩ := cl_of hf
        refine sg_sv' (rest := []) (c_X9_adds hn ha71 hT71 hp79) hc hw hz hn0 hml hl cs_X9_244 ⟨⟨rfl, rfl⟩, Nat.le_trans (Nat.le_of_ble_eq_true rfl) hRf, Nat.le_trans (Nat.le_of_ble_eq_true rfl) hRl⟩ ⟨Nat.zero_le _, Nat.zero_le _⟩ rfl rfl (Nat.le_of_ble_eq_true rfl) dX9_best_79 (fun h1 H locs hp hw => ?_)
        subst h1
        refine lv_aload_n hx hb dX9_best_82 rfl (lv_at hl 0 rfl) ?_
        obtain ⟨p83, hp83, hf⟩ := cl_of hf
        refine sg_vv (rest := []) (c_X9_goesUp hn ha_a hT_a hp83) hc hw hz hml hl ha_a hT_a (by decide) rfl cv_X9_217 ⟨⟨rfl, rfl⟩, Nat.le_trans (Nat.le_of_ble_eq_true rfl) hRf, Nat.le_trans (Nat.le_of_ble_eq_true rfl) hRl⟩ ⟨Nat.zero_le _, Nat.zero_le _⟩ rfl rfl (Nat.le_of_ble_eq_true rfl) dX9_best_83 (fun h1 H locs hp hw => ?_)
        subst h1
        refine lv_aload_n hx hb dX9_best_86 rfl (lv_at hl 0 rfl) ?_
        obtain ⟨hF87, hT87, ha87, hN87⟩ := ft_9_19 hn ha_a hT_a
        refine sg_getf (q := (a + 13)) hc hw ha_a hT_a fr_9_19 (by decide) k_892 dX9_best_87 hF87 ?_
        refine lv_iload_n hx hb dX9_best_90 rfl (lv_at hl 1 rfl) ?_
        obtain ⟨hg91, hf⟩ := gd_of hf
        refine sg_ild hc hw ha87 hT87 hN87 hg91 dX9_best_91 ?_
        refine lv_iload_n hx hb dX9_best_92 rfl (lv_at hl 3 rfl) ?_
        refine lv_icmp_le (tgt := 108) hx hb dX9_best_93 (by decide) (fun c93 => ?_) (fun c93 => ?_)
        · have hf := if_of c93 hf
          refine lv_iload hx hb dX9_best_108 (lv_at hl 4 rfl) ?_
          exact J110 x3 x7 x4 _ _ _ _ hf hw (lv_sub hl [0, 1, 2, 3, 5, 6, 7] rfl)
        · have hf := if_no c93 hf
          refine lv_sipush (v := 200) hx hb dX9_best_96 (by decide) ?_
          refine lv_iload hx hb dX9_best_99 (lv_at hl 6 rfl) ?_
          refine lv_imul hx hb dX9_best_101 ?_
          refine lv_iload hx hb dX9_best_102 (lv_at hl 7 rfl) ?_
          refine lv_iadd hx hb dX9_best_104 ?_
          refine lv_goto (tgt := 110) hx hb dX9_best_105 (by decide) ?_
          exact J110 x3 x7 ((200 * x6) + x7) _ _ _ _ hf hw (lv_sub hl [0, 1, 2, 3, 5, 6, 7] rfl)
    refine lv_iload hx hb dX9_best_48 (lv_at hl 6 rfl) ?_
    refine lv_iload hx hb dX9_best_50 (lv_at hl 5 rfl) ?_
    refine lv_icmp_ge (tgt := 145) hx hb dX9_best_52 (by decide) (fun c52 => ?_) (fun c52 => ?_)
    · have hf := if_of c52 hf
      exact J145 x3 x4 _ _ _ _ hf hw (lv_sub hl [2, 3, 4] rfl)
    · have hf := if_no c52 hf
      refine lv_iload hx hb dX9_best_55 (lv_at hl 6 rfl) ?_
      refine lv_istore (lv' := [(7, .int x6), (0, .ref (b + a)), (1, .int x1), (2, .int x2), (3, .int x3), (4, .int x4), (5, .int x5), (6, .int x6)]) hx hb dX9_best_57 hl (by decide) rfl (fun ls hl => ?_)
      exact L59 x6 _ _ hf _ _ _ hw (lv_sub hl [1, 2, 3, 4, 5, 6, 7, 0] rfl)
  unfold F_X9_best at hf
  refine lv_aload_n hx hb dX9_best_0 rfl (lv_at hl 0 rfl) ?_
  refine lv_iload_n hx hb dX9_best_1 rfl (lv_at hl 1 rfl) ?_
  obtain ⟨p2, hp2, hf⟩ := cl_of hf
  refine sg_vi (rest := []) (c_X9_isBearer hn ha_a hT_a hp2) hc hw hz hml hl ha_a hT_a (by decide) rfl cv_X9_220 ⟨⟨rfl, rfl⟩, Nat.le_trans (Nat.le_of_ble_eq_true rfl) hRf, Nat.le_trans (Nat.le_of_ble_eq_true rfl) hRl⟩ ⟨Nat.zero_le _, Nat.zero_le _⟩ rfl rfl (Nat.le_of_ble_eq_true rfl) dX9_best_2 (fun r h1 H locs hp hw => ?_)
  obtain ⟨⟨e1, e2⟩, hb2⟩ := hp; subst r; subst h1
  refine lv_if_eq (tgt := 15) hx hb dX9_best_5 (by decide) (fun c5 => ?_) (fun c5 => ?_)
  · have hf := if_of c5 hf
    refine lv_iconst (v := (-1)) hx hb dX9_best_15 (by decide) ?_
    cases hf
    exact sg_iret hc hw hz hn0 hr hlocks ⟨rfl, rfl⟩ dX9_best_16
  · have hf := if_no c5 hf
    refine lv_iload_n hx hb dX9_best_8 rfl (lv_at hl 2 rfl) ?_
    obtain ⟨p9, hp9, hf⟩ := cl_of hf
    refine sg_si (rest := []) (c_X9_isTwo hn (h := h) hp9) hc hw hz hn0 hml hl cs_X9_225 ⟨⟨rfl, rfl⟩, Nat.le_trans (Nat.le_of_ble_eq_true rfl) hRf, Nat.le_trans (Nat.le_of_ble_eq_true rfl) hRl⟩ ⟨Nat.zero_le _, Nat.zero_le _⟩ rfl rfl (Nat.le_of_ble_eq_true rfl) dX9_best_9 (fun r h1 H locs hp hw => ?_)
    obtain ⟨⟨e1, e2⟩, hb9⟩ := hp; subst r; subst h1
    refine lv_if_ne (tgt := 17) hx hb dX9_best_12 (by decide) (fun c12 => ?_) (fun c12 => ?_)
    · have hf := if_no c12 hf
      refine lv_aload_n hx hb dX9_best_17 rfl (lv_at hl 0 rfl) ?_
      obtain ⟨p18, hp18, hf⟩ := cl_of hf
      refine sg_vv (rest := []) (c_X9_asItIs hn ha_a hT_a hp18) hc hw hz hml hl ha_a hT_a (by decide) rfl cv_X9_214 ⟨⟨rfl, rfl⟩, Nat.le_trans (Nat.le_of_ble_eq_true rfl) hRf, Nat.le_trans (Nat.le_of_ble_eq_true rfl) hRl⟩ ⟨Nat.zero_le _, Nat.zero_le _⟩ rfl rfl (Nat.le_of_ble_eq_true rfl) dX9_best_18 (fun h1 H locs hp hw => ?_)
      subst h1
      refine lv_aload_n hx hb dX9_best_21 rfl (lv_at hl 0 rfl) ?_
      obtain ⟨p22, hp22, hf⟩ := cl_of hf
      refine sg_vv (rest := []) (c_X9_goesUp hn ha_a hT_a hp22) hc hw hz hml hl ha_a hT_a (by decide) rfl cv_X9_217 ⟨⟨rfl, rfl⟩, Nat.le_trans (Nat.le_of_ble_eq_true rfl) hRf, Nat.le_trans (Nat.le_of_ble_eq_true rfl) hRl⟩ ⟨Nat.zero_le _, Nat.zero_le _⟩ rfl rfl (Nat.le_of_ble_eq_true rfl) dX9_best_22 (fun h1 H locs hp hw => ?_)
      subst h1
      refine lv_aload_n hx hb dX9_best_25 rfl (lv_at hl 0 rfl) ?_
      obtain ⟨hF26, hT26, ha26, hN26⟩ := ft_9_19 hn ha_a hT_a
      refine sg_getf (q := (a + 13)) hc hw ha_a hT_a fr_9_19 (by decide) k_892 dX9_best_26 hF26 ?_
      refine lv_iload_n hx hb dX9_best_29 rfl (lv_at hl 1 rfl) ?_
      obtain ⟨hg30, hf⟩ := gd_of hf
      refine sg_ild hc hw ha26 hT26 hN26 hg30 dX9_best_30 ?_
      refine lv_topi (fun v31 e31 => ?_)
      have hf := nm_of e31 hf
      refine lv_istore_n (lv' := [(3, .int v31), (0, .ref (b + a)), (1, .int x1), (2, .int x2)]) hx hb dX9_best_31 rfl hl (by decide) rfl (fun ls hl => ?_)
      refine lv_bipush (v := (-4)) hx hb dX9_best_32 (by decide) ?_
      refine lv_istore (lv' := [(4, .int (-4)), (3, .int v31), (0, .ref (b + a)), (1, .int x1), (2, .int x2)]) hx hb dX9_best_34 hl (by decide) rfl (fun ls hl => ?_)
      refine lv_aload_n hx hb dX9_best_36 rfl (lv_at hl 2 rfl) ?_
      obtain ⟨hF37, hT37, ha37, hN37⟩ := ft_9_0 hn ha_a hT_a
      refine sg_getf (q := (a + 1)) hc hw ha_a hT_a fr_9_0 (by decide) k_873 dX9_best_37 hF37 ?_
      obtain ⟨p40, hp40, hf⟩ := cl_of hf
      refine sg_si (rest := []) (c_X9_yardsOf hn ha37 hT37 hp40) hc hw hz hn0 hml hl cs_X9_116 ⟨⟨rfl, rfl⟩, Nat.le_trans (Nat.le_of_ble_eq_true rfl) hRf, Nat.le_trans (Nat.le_of_ble_eq_true rfl) hRl⟩ ⟨Nat.zero_le _, Nat.zero_le _⟩ rfl rfl (Nat.le_of_ble_eq_true rfl) dX9_best_40 (fun r h1 H locs hp hw => ?_)
      obtain ⟨e1, e2⟩ := hp; subst r; subst h1
      refine lv_istore (lv' := [(5, .int p40), (4, .int (-4)), (3, .int v31), (0, .ref (b + a)), (1, .int x1), (2, .int x2)]) hx hb dX9_best_43 hl (by decide) rfl (fun ls hl => ?_)
      refine lv_iconst (v := 0) hx hb dX9_best_45 (by decide) ?_
      refine lv_istore (lv' := [(6, .int 0), (5, .int p40), (4, .int (-4)), (3, .int v31), (0, .ref (b + a)), (1, .int x1), (2, .int x2)]) hx hb dX9_best_46 hl (by decide) rfl (fun ls hl => ?_)
      exact L48 p40 _ _ hf _ _ _ hw (lv_sub hl [4, 5, 6, 3, 2, 1, 0] rfl)
    · have hf := if_of c12 hf
      refine lv_iconst (v := (-1)) hx hb dX9_best_15 (by decide) ?_
      cases hf
      exact sg_iret hc hw hz hn0 hr hlocks ⟨rfl, rfl⟩ dX9_best_16
theorem c_X9_best {l : Launch} {D : va_G} {cA : Nat → ClassId} {b n : Nat} (hn : sg_okN n) {a : Nat} {x1 : Int32} {x2 : Int32} (ha_a : a < n) (hT_a : sg_T a = 9) {h : HP} {Rz : Int32 × HP} (hf : F_X9_best a x1 x2 h = some Rz) : Met l yX9_best (Cond.code yX9_best cX9_best 8 (some .int) :: sg_tbl) ({ frames := 5, cells := 0, slots := 0, locals := 122 } : Room) (va_Pc [.ref (b + a), .int x1, .int x2] (sg_Wd D b cA n h)) (va_Qi (fun r u => r = Rz.1 ∧ u = Rz.2) (sg_Wd D b cA n) (sg_A b)) 0 0 (sg_A b) := by
  refine Met.ofW (cc := cX9_best) (maxL := 8) (ret := (some .int)) (by decide) rfl ?_
  intro p e s m args below meth c s₁ B hml hv
  obtain ⟨rfl, hP, hK, hz, hY, hN⟩ := hv
  have hl := lv_entry [.ref (b + a), .int x1, .int x2] (n := 8) (Nat.le_of_ble_eq_true rfl)
  rw [lg_entry_eq]
  exact w_X9_best hn ⟨B.exec, B.bytes, findClass_of_methodNamed B.named, fun w h => atoms_spec (ws := Cond.code yX9_best cX9_best 8 (some .int) :: sg_tbl) B.pre w (List.mem_cons_of_mem _ h), hK, hN⟩ hz B.returns B.notSynchronized hml (Nat.le_refl _) (Nat.le_refl _) ha_a hT_a hf _ _ _ ⟨hP, hY, va_S.rf⟩ hl
set_option maxHeartbeats 4000000 in
set_option maxRecDepth 100000 in
theorem w_X9_safe {p : Program} {l : Launch} {e : Env} {R : Room} {s : State} {m : MethodId} {args : Array Value} {below : List Frame} {meth : Method} {c : Code} {D : va_G} {cA : Nat → ClassId} {b n : Nat} (hn : sg_okN n) {a : Nat} {h : HP} {Rz : Int32 × HP} (hc : sg_Cx p s m args c cX9_safe RX9 D cA) (hz : s.heap.size = b + n) (hr : meth.sig.returnType = some .int) (hlocks : meth.locks = false) (hml : c.maxLocals = 2) (hRf : 5 ≤ R.frames) (hRl : 122 ≤ R.locals) (ha_a : a < n) (hT_a : sg_T a = 9) (hf : F_X9_safe a h = some Rz) (H : Heap) (locs : List Loc) (ls : Array Slot) (hw : sg_Wo D b cA n s.heap h H locs) (hl : lv_has ls 2 [(0, .ref (b + a))]) : W p l e R s m args below meth c H locs 0 0 (sg_Qi below args s D b cA n (fun r u => r = Rz.1 ∧ u = Rz.2)) (F0 m 0 ls []) := by
  have hx := hc.1
  have hb := hc.2.1
  have hn0 : 0 < n := sg_pos hn
  have L2 : ∀ (k : Nat) (x : (Int32 × HP)), F_X9_safe_L2 a k x = some Rz → ∀ (H : Heap) (locs : List Loc) (ls : Array Slot), sg_Wo D b cA n s.heap x.2 H locs → lv_has ls 2 [(0, .ref (b + a)), (1, .int x.1)] → W p l e R s m args below meth c H locs 0 0 (sg_Qi below args s D b cA n (fun r u => r = Rz.1 ∧ u = Rz.2)) (F0 m 2 ls []) := by
    unfold F_X9_safe_L2
    refine lp_walk ?_
    intro rc2 hrc2 x hf H locs ls hw hl
    obtain ⟨x1, h⟩ := x
    dsimp only at hf hw hl
    refine lv_iload_n hx hb dX9_safe_2 rfl (lv_at hl 1 rfl) ?_
    refine lv_aload_n hx hb dX9_safe_3 rfl (lv_at hl 0 rfl) ?_
    obtain ⟨hF4, hT4, ha4, hN4⟩ := ft_9_0 hn ha_a hT_a
    refine sg_getf (q := (a + 1)) hc hw ha_a hT_a fr_9_0 (by decide) k_873 dX9_safe_4 hF4 ?_
    refine lv_iconst (v := 1) hx hb dX9_safe_7 (by decide) ?_
    refine sg_ild hc hw ha4 hT4 hN4 (show vp_in 1 34 by unfold vp_in; decide) dX9_safe_8 ?_
    refine lv_icmp_ge (tgt := 42) hx hb dX9_safe_9 (by decide) (fun c9 => ?_) (fun c9 => ?_)
    · have hf := if_of c9 hf
      refine lv_bipush (v := (-4)) hx hb dX9_safe_42 (by decide) ?_
      cases hf
      exact sg_iret hc hw hz hn0 hr hlocks ⟨rfl, rfl⟩ dX9_safe_44
    · have hf := if_no c9 hf
      refine lv_aload_n hx hb dX9_safe_12 rfl (lv_at hl 0 rfl) ?_
      obtain ⟨p13, hp13, hf⟩ := cl_of hf
      refine sg_vv (rest := []) (c_X9_asItIs hn ha_a hT_a hp13) hc hw hz hml hl ha_a hT_a (by decide) rfl cv_X9_214 ⟨⟨rfl, rfl⟩, Nat.le_trans (Nat.le_of_ble_eq_true rfl) hRf, Nat.le_trans (Nat.le_of_ble_eq_true rfl) hRl⟩ ⟨Nat.zero_le _, Nat.zero_le _⟩ rfl rfl (Nat.le_of_ble_eq_true rfl) dX9_safe_13 (fun h1 H locs hp hw => ?_)
      subst h1
      refine lv_aload_n hx hb dX9_safe_16 rfl (lv_at hl 0 rfl) ?_
      refine lv_iload_n hx hb dX9_safe_17 rfl (lv_at hl 1 rfl) ?_
      refine sg_puti hc hw ha_a hT_a fp_9_16 rfl rfl k_889 dX9_safe_18 (fun H locs hw => ?_)
      obtain ⟨h18, hw, hf⟩ := sg_name hw hf
      refine lv_aload_n hx hb dX9_safe_21 rfl (lv_at hl 0 rfl) ?_
      obtain ⟨p22, hp22, hf⟩ := cl_of hf
      refine sg_vv (rest := []) (c_X9_goesUp hn ha_a hT_a hp22) hc hw hz hml hl ha_a hT_a (by decide) rfl cv_X9_217 ⟨⟨rfl, rfl⟩, Nat.le_trans (Nat.le_of_ble_eq_true rfl) hRf, Nat.le_trans (Nat.le_of_ble_eq_true rfl) hRl⟩ ⟨Nat.zero_le _, Nat.zero_le _⟩ rfl rfl (Nat.le_of_ble_eq_true rfl) dX9_safe_22 (fun h1 H locs hp hw => ?_)
      subst h1
      refine lv_aload_n hx hb dX9_safe_25 rfl (lv_at hl 0 rfl) ?_
      refine sg_geti hc hw ha_a hT_a fi_9_23 k_896 dX9_safe_26 ?_
      refine lv_bipush (v := (-4)) hx hb dX9_safe_29 (by decide) ?_
      refine lv_icmp_eq (tgt := 36) hx hb dX9_safe_31 (by decide) (fun c31 => ?_) (fun c31 => ?_)
      · have hf := if_of c31 hf
        refine lv_iinc (v := (x1 + 1)) (lv' := [(1, .int (x1 + 1)), (0, .ref (b + a))]) hx hb dX9_safe_36 hl (k := 1) rfl rfl (by decide) rfl (fun ls hl => ?_)
        refine lv_goto (tgt := 2) hx hb dX9_safe_39 (by decide) ?_
        exact hrc2 _ hf _ _ _ hw (lv_sub hl [1, 0] rfl)
      · have hf := if_no c31 hf
        refine lv_iload_n hx hb dX9_safe_34 rfl (lv_at hl 1 rfl) ?_
        cases hf
        exact sg_iret hc hw hz hn0 hr hlocks ⟨rfl, rfl⟩ dX9_safe_35
  unfold F_X9_safe at hf
  refine lv_iconst (v := 0) hx hb dX9_safe_0 (by decide) ?_
  refine lv_istore_n (lv' := [(1, .int 0), (0, .ref (b + a))]) hx hb dX9_safe_1 rfl hl (by decide) rfl (fun ls hl => ?_)
  exact L2 _ _ hf _ _ _ hw (lv_sub hl [1, 0] rfl)
theorem c_X9_safe {l : Launch} {D : va_G} {cA : Nat → ClassId} {b n : Nat} (hn : sg_okN n) {a : Nat} (ha_a : a < n) (hT_a : sg_T a = 9) {h : HP} {Rz : Int32 × HP} (hf : F_X9_safe a h = some Rz) : Met l yX9_safe (Cond.code yX9_safe cX9_safe 2 (some .int) :: sg_tbl) ({ frames := 5, cells := 0, slots := 0, locals := 122 } : Room) (va_Pc [.ref (b + a)] (sg_Wd D b cA n h)) (va_Qi (fun r u => r = Rz.1 ∧ u = Rz.2) (sg_Wd D b cA n) (sg_A b)) 0 0 (sg_A b) := by
  refine Met.ofW (cc := cX9_safe) (maxL := 2) (ret := (some .int)) (by decide) rfl ?_
  intro p e s m args below meth c s₁ B hml hv
  obtain ⟨rfl, hP, hK, hz, hY, hN⟩ := hv
  have hl := lv_entry [.ref (b + a)] (n := 2) (Nat.le_of_ble_eq_true rfl)
  rw [lg_entry_eq]
  exact w_X9_safe hn ⟨B.exec, B.bytes, findClass_of_methodNamed B.named, fun w h => atoms_spec (ws := Cond.code yX9_safe cX9_safe 2 (some .int) :: sg_tbl) B.pre w (List.mem_cons_of_mem _ h), hK, hN⟩ hz B.returns B.notSynchronized hml (Nat.le_refl _) (Nat.le_refl _) ha_a hT_a hf _ _ _ ⟨hP, hY, va_S.rf⟩ hl
set_option maxHeartbeats 4000000 in
set_option maxRecDepth 100000 in
theorem w_X9_needed {p : Program} {l : Launch} {e : Env} {R : Room} {s : State} {m : MethodId} {args : Array Value} {below : List Frame} {meth : Method} {c : Code} {D : va_G} {cA : Nat → ClassId} {b n : Nat} (hn : sg_okN n) {a : Nat} {h : HP} {Rz : Int32 × HP} (hc : sg_Cx p s m args c cX9_needed RX9 D cA) (hz : s.heap.size = b + n) (hr : meth.sig.returnType = some .int) (hlocks : meth.locks = false) (hml : c.maxLocals = 4) (hRf : 5 ≤ R.frames) (hRl : 122 ≤ R.locals) (ha_a : a < n) (hT_a : sg_T a = 9) (hf : F_X9_needed a h = some Rz) (H : Heap) (locs : List Loc) (ls : Array Slot) (hw : sg_Wo D b cA n s.heap h H locs) (hl : lv_has ls 4 [(0, .ref (b + a))]) : W p l e R s m args below meth c H locs 0 0 (sg_Qi below args s D b cA n (fun r u => r = Rz.1 ∧ u = Rz.2)) (F0 m 0 ls []) := by
  have hx := hc.1
  have hb := hc.2.1
  have hn0 : 0 < n := sg_pos hn
  have L5 : ∀ (k : Nat) (x : (Int32 × Int32 × HP)), F_X9_needed_L5 a k x = some Rz → ∀ (H : Heap) (locs : List Loc) (ls : Array Slot), sg_Wo D b cA n s.heap x.2.2 H locs → lv_has ls 4 [(0, .ref (b + a)), (1, .int x.1), (2, .int x.2.1)] → W p l e R s m args below meth c H locs 0 0 (sg_Qi below args s D b cA n (fun r u => r = Rz.1 ∧ u = Rz.2)) (F0 m 5 ls []) := by
    unfold F_X9_needed_L5
    refine lp_walk ?_
    intro rc5 hrc5 x hf H locs ls hw hl
    obtain ⟨x1, x2, h⟩ := x
    dsimp only at hf hw hl
    have J110 : ∀ (x2 : Int32) (s0 : Int32) (h : HP) (H : Heap) (locs : List Loc) (ls : Array Slot), F_X9_needed_J110 a rc5 x2 s0 h = some Rz → sg_Wo D b cA n s.heap h H locs → lv_has ls 4 [(0, .ref (b + a)), (2, .int x2)] → W p l e R s m args below meth c H locs 0 0 (sg_Qi below args s D b cA n (fun r u => r = Rz.1 ∧ u = Rz.2)) (F0 m 110 ls [.int s0]) := by
      intro x2 s0 h H locs ls hf hw hl
      unfold F_X9_needed_J110 at hf
      refine lv_istore_n (lv' := [(1, .int s0), (0, .ref (b + a)), (2, .int x2)]) hx hb dX9_needed_110 rfl hl (by decide) rfl (fun ls hl => ?_)
      refine lv_iinc (v := (x2 + 1)) (lv' := [(2, .int (x2 + 1)), (1, .int s0), (0, .ref (b + a))]) hx hb dX9_needed_111 hl (k := 2) rfl rfl (by decide) rfl (fun ls hl => ?_)
      refine lv_goto (tgt := 5) hx hb dX9_needed_114 (by decide) ?_
      exact hrc5 _ hf _ _ _ hw (lv_sub hl [2, 1, 0] rfl)
    have J109 : ∀ (x1 : Int32) (x2 : Int32) (h : HP) (H : Heap) (locs : List Loc) (ls : Array Slot), F_X9_needed_J109 a rc5 x1 x2 h = some Rz → sg_Wo D b cA n s.heap h H locs → lv_has ls 4 [(0, .ref (b + a)), (1, .int x1), (2, .int x2)] → W p l e R s m args below meth c H locs 0 0 (sg_Qi below args s D b cA n (fun r u => r = Rz.1 ∧ u = Rz.2)) (F0 m 109 ls []) := by
      intro x1 x2 h H locs ls hf hw hl
      unfold F_X9_needed_J109 at hf
      refine lv_iload_n hx hb dX9_needed_109 rfl (lv_at hl 1 rfl) ?_
      exact J110 x2 x1 _ _ _ _ hf hw (lv_sub hl [0, 2] rfl)
    have J91 : ∀ (x1 : Int32) (x2 : Int32) (s0 : Int32) (h : HP) (H : Heap) (locs : List Loc) (ls : Array Slot), F_X9_needed_J91 a rc5 x1 x2 s0 h = some Rz → sg_Wo D b cA n s.heap h H locs → lv_has ls 4 [(0, .ref (b + a)), (1, .int x1), (2, .int x2)] → W p l e R s m args below meth c H locs 0 0 (sg_Qi below args s D b cA n (fun r u => r = Rz.1 ∧ u = Rz.2)) (F0 m 91 ls [.int s0]) := by
      intro x1 x2 s0 h H locs ls hf hw hl
      unfold F_X9_needed_J91 at hf
      refine lv_istore_n (lv' := [(3, .int s0), (0, .ref (b + a)), (1, .int x1), (2, .int x2)]) hx hb dX9_needed_91 rfl hl (by decide) rfl (fun ls hl => ?_)
      refine lv_aload_n hx hb dX9_needed_92 rfl (lv_at hl 1 rfl) ?_
      refine sg_geti hc hw ha_a hT_a fi_9_23 k_896 dX9_needed_93 ?_
      refine lv_bipush (v := (-4)) hx hb dX9_needed_96 (by decide) ?_
      refine lv_icmp_ne (tgt := 109) hx hb dX9_needed_98 (by decide) (fun c98 => ?_) (fun c98 => ?_)
      · have hf := if_no c98 hf
        exact J109 x1 x2 _ _ _ _ hf hw (lv_sub hl [1, 2, 3] rfl)
      · have hf := if_of c98 hf
        refine lv_iload_n hx hb dX9_needed_101 rfl (lv_at hl 0 rfl) ?_
        refine lv_if_eq (tgt := 109) hx hb dX9_needed_102 (by decide) (fun c102 => ?_) (fun c102 => ?_)
        · have hf := if_of c102 hf
          exact J109 x1 x2 _ _ _ _ hf hw (lv_sub hl [1, 2, 3] rfl)
        · have hf := if_no c102 hf
          refine lv_iload_n hx hb dX9_needed_105 rfl (lv_at hl 3 rfl) ?_
          refine lv_goto (tgt := 110) hx hb dX9_needed_106 (by decide) ?_
          exact J110 x2 x2 _ _ _ _ hf hw (lv_sub hl [1, 3] rfl)
    have J86 : ∀ (x1 : Int32) (x2 : Int32) (h : HP) (H : Heap) (locs : List Loc) (ls : Array Slot), F_X9_needed_J86 a rc5 x1 x2 h = some Rz → sg_Wo D b cA n s.heap h H locs → lv_has ls 4 [(0, .ref (b + a)), (1, .int x1), (2, .int x2)] → W p l e R s m args below meth c H locs 0 0 (sg_Qi below args s D b cA n (fun r u => r = Rz.1 ∧ u = Rz.2)) (F0 m 86 ls []) := by
      intro x1 x2 h H locs ls hf hw hl
      unfold F_X9_needed_J86 at hf
      refine lv_iconst (v := 1) hx hb dX9_needed_86 (by decide) ?_
      refine lv_goto (tgt := 91) hx hb dX9_needed_87 (by decide) ?_
      exact J91 x1 x2 1 _ _ _ _ hf hw (lv_sub hl [0, 1, 2] rfl)
    have J65 : ∀ (x1 : Int32) (x2 : Int32) (h : HP) (H : Heap) (locs : List Loc) (ls : Array Slot), F_X9_needed_J65 a rc5 x1 x2 h = some Rz → sg_Wo D b cA n s.heap h H locs → lv_has ls 4 [(0, .ref (b + a)), (1, .int x1), (2, .int x2)] → W p l e R s m args below meth c H locs 0 0 (sg_Qi below args s D b cA n (fun r u => r = Rz.1 ∧ u = Rz.2)) (F0 m 65 ls []) := by
      intro x1 x2 h H locs ls hf hw hl
      unfold F_X9_needed_J65 at hf
      refine lv_aload_n hx hb dX9_needed_65 rfl (lv_at hl 0 rfl) ?_
      obtain ⟨p66, hp66, hf⟩ := cl_of hf
      refine sg_vv (rest := []) (c_X9_goesUp hn ha_a hT_a hp66) hc hw hz hml hl ha_a hT_a (by decide) rfl cv_X9_217 ⟨⟨rfl, rfl⟩, Nat.le_trans (Nat.le_of_ble_eq_true rfl) hRf, Nat.le_trans (Nat.le_of_ble_eq_true rfl) hRl⟩ ⟨Nat.zero_le _, Nat.zero_le _⟩ rfl rfl (Nat.le_of_ble_eq_true rfl) dX9_needed_66 (fun h1 H locs hp hw => ?_)
      subst h1
      refine lv_iload_n hx hb dX9_needed_69 rfl (lv_at hl 1 rfl) ?_
      refine lv_bipush (v := (-4)) hx hb dX9_needed_70 (by decide) ?_
      refine lv_icmp_eq (tgt := 86) hx hb dX9_needed_72 (by decide) (fun c72 => ?_) (fun c72 => ?_)
      · have hf := if_of c72 hf
        exact J86 x1 x2 _ _ _ _ hf hw (lv_sub hl [0, 1, 2] rfl)
      · have hf := if_no c72 hf
        refine lv_iload_n hx hb dX9_needed_75 rfl (lv_at hl 2 rfl) ?_
        obtain ⟨p76, hp76, hf⟩ := cl_of hf
        refine sg_si (rest := []) (c_X9_bits hn (h := p66) hp76) hc hw hz hn0 hml hl cs_X9_174 ⟨⟨rfl, rfl⟩, Nat.le_trans (Nat.le_of_ble_eq_true rfl) hRf, Nat.le_trans (Nat.le_of_ble_eq_true rfl) hRl⟩ ⟨Nat.zero_le _, Nat.zero_le _⟩ rfl rfl (Nat.le_of_ble_eq_true rfl) dX9_needed_76 (fun r h1 H locs hp hw => ?_)
        obtain ⟨e1, e2⟩ := hp; subst r; subst h1
        refine lv_iload_n hx hb dX9_needed_79 rfl (lv_at hl 1 rfl) ?_
        obtain ⟨p80, hp80, hf⟩ := cl_of hf
        refine sg_si (rest := [.int p76]) (c_X9_bits hn (h := p66) hp80) hc hw hz hn0 hml hl cs_X9_174 ⟨⟨rfl, rfl⟩, Nat.le_trans (Nat.le_of_ble_eq_true rfl) hRf, Nat.le_trans (Nat.le_of_ble_eq_true rfl) hRl⟩ ⟨Nat.zero_le _, Nat.zero_le _⟩ rfl rfl (Nat.le_of_ble_eq_true rfl) dX9_needed_80 (fun r h1 H locs hp hw => ?_)
        obtain ⟨e1, e2⟩ := hp; subst r; subst h1
        refine lv_icmp_ge (tgt := 90) hx hb dX9_needed_83 (by decide) (fun c83 => ?_) (fun c83 => ?_)
        · have hf := if_of c83 hf
          refine lv_iconst (v := 0) hx hb dX9_needed_90 (by decide) ?_
          exact J91 x1 x2 0 _ _ _ _ hf hw (lv_sub hl [0, 1, 2] rfl)
        · have hf := if_no c83 hf
          exact J86 x1 x2 _ _ _ _ hf hw (lv_sub hl [0, 1, 2] rfl)
    have L30 : ∀ (x1 : Int32) (x2 : Int32) (k : Nat) (x : (Int32 × HP)), F_X9_needed_L30 a rc5 x1 x2 k x = some Rz → ∀ (H : Heap) (locs : List Loc) (ls : Array Slot), sg_Wo D b cA n s.heap x.2 H locs → lv_has ls 4 [(0, .ref (b + a)), (1, .int x1), (2, .int x2), (3, .int x.1)] → W p l e R s m args below meth c H locs 0 0 (sg_Qi below args s D b cA n (fun r u => r = Rz.1 ∧ u = Rz.2)) (F0 m 30 ls []) := by
      intro x1 x2
      unfold F_X9_needed_L30
      refine lp_walk ?_
      intro rc30 hrc30 x hf H locs ls hw hl
      obtain ⟨x3, h⟩ := x
      dsimp only at hf hw hl
      have J59 : ∀ (x3 : Int32) (h : HP) (H : Heap) (locs : List Loc) (ls : Array Slot), F_X9_needed_J59 a rc5 rc30 x1 x2 x3 h = some Rz → sg_Wo D b cA n s.heap h H locs → lv_has ls 4 [(0, .ref (b + a)), (1, .int x1), (2, .int x2), (3, .int x3)] → W p l e R s m args below meth c H locs 0 0 (sg_Qi below args s D b cA n (fun r u => r = Rz.1 ∧ u = Rz.2)) (F0 m 59 ls []) := by
        intro x3 h H locs ls hf hw hl
        unfold F_X9_needed_J59 at hf
        refine lv_iinc (v := (x3 + 1)) (lv' := [(3, .int (x3 + 1)), (0, .ref (b + a)), (1, .int x1), (2, .int x2)]) hx hb dX9_needed_59 hl (k := 3) rfl rfl (by decide) rfl (fun ls hl => ?_)
        refine lv_goto (tgt := 30) hx hb dX9_needed_62 (by decide) ?_
        exact hrc30 _ hf _ _ _ hw (lv_sub hl [1, 2, 3, 0] rfl)
      refine lv_iload_n hx hb dX9_needed_30 rfl (lv_at hl 3 rfl) ?_
      refine lv_aload_n hx hb dX9_needed_31 rfl (lv_at hl 0 rfl) ?_
      obtain ⟨hF32, hT32, ha32, hN32⟩ := ft_9_0 hn ha_a hT_a
      refine sg_getf (q := (a + 1)) hc hw ha_a hT_a fr_9_0 (by decide) k_873 dX9_needed_32 hF32 ?_
      refine lv_iconst (v := 1) hx hb dX9_needed_35 (by decide) ?_
      refine sg_ild hc hw ha32 hT32 hN32 (show vp_in 1 34 by unfold vp_in; decide) dX9_needed_36 ?_
      refine lv_icmp_ge (tgt := 65) hx hb dX9_needed_37 (by decide) (fun c37 => ?_) (fun c37 => ?_)
      · have hf := if_of c37 hf
        exact J65 x1 x2 _ _ _ _ hf hw (lv_sub hl [0, 1, 2] rfl)
      · have hf := if_no c37 hf
        refine lv_iload_n hx hb dX9_needed_40 rfl (lv_at hl 2 rfl) ?_
        refine lv_iload_n hx hb dX9_needed_41 rfl (lv_at hl 3 rfl) ?_
        obtain ⟨p42, hp42, hf⟩ := cl_of hf
        refine sg_si (rest := []) (c_X9_has hn (h := h) hp42) hc hw hz hn0 hml hl cs_X9_166 ⟨⟨rfl, rfl⟩, Nat.le_trans (Nat.le_of_ble_eq_true rfl) hRf, Nat.le_trans (Nat.le_of_ble_eq_true rfl) hRl⟩ ⟨Nat.zero_le _, Nat.zero_le _⟩ rfl rfl (Nat.le_of_ble_eq_true rfl) dX9_needed_42 (fun r h1 H locs hp hw => ?_)
        obtain ⟨⟨e1, e2⟩, hb42⟩ := hp; subst r; subst h1
        refine lv_if_eq (tgt := 59) hx hb dX9_needed_45 (by decide) (fun c45 => ?_) (fun c45 => ?_)
        · have hf := if_of c45 hf
          exact J59 x3 _ _ _ _ hf hw (lv_sub hl [0, 1, 2, 3] rfl)
        · have hf := if_no c45 hf
          refine lv_aload_n hx hb dX9_needed_48 rfl (lv_at hl 0 rfl) ?_
          obtain ⟨hF49, hT49, ha49, hN49⟩ := ft_9_15 hn ha_a hT_a
          refine sg_getf (q := (a + 11)) hc hw ha_a hT_a fr_9_15 (by decide) k_888 dX9_needed_49 hF49 ?_
          refine lv_iload_n hx hb dX9_needed_52 rfl (lv_at hl 3 rfl) ?_
          refine lv_iconst (v := 0) hx hb dX9_needed_53 (by decide) ?_
          refine lv_bipush (v := 119) hx hb dX9_needed_54 (by decide) ?_
          obtain ⟨p56, hp56, hf⟩ := cl_of hf
          refine sg_sv' (rest := []) (c_X9_adds hn ha49 hT49 hp56) hc hw hz hn0 hml hl cs_X9_244 ⟨⟨rfl, rfl⟩, Nat.le_trans (Nat.le_of_ble_eq_true rfl) hRf, Nat.le_trans (Nat.le_of_ble_eq_true rfl) hRl⟩ ⟨Nat.zero_le _, Nat.zero_le _⟩ rfl rfl (Nat.le_of_ble_eq_true rfl) dX9_needed_56 (fun h1 H locs hp hw => ?_)
          subst h1
          exact J59 x3 _ _ _ _ hf hw (lv_sub hl [0, 1, 2, 3] rfl)
    refine lv_iload_n hx hb dX9_needed_5 rfl (lv_at hl 2 rfl) ?_
    refine lv_iconst (v := 1) hx hb dX9_needed_6 (by decide) ?_
    refine lv_aload_n hx hb dX9_needed_7 rfl (lv_at hl 0 rfl) ?_
    obtain ⟨hF8, hT8, ha8, hN8⟩ := ft_9_0 hn ha_a hT_a
    refine sg_getf (q := (a + 1)) hc hw ha_a hT_a fr_9_0 (by decide) k_873 dX9_needed_8 hF8 ?_
    refine lv_iconst (v := 1) hx hb dX9_needed_11 (by decide) ?_
    refine sg_ild hc hw ha8 hT8 hN8 (show vp_in 1 34 by unfold vp_in; decide) dX9_needed_12 ?_
    refine lv_ishl hx hb dX9_needed_13 ?_
    refine lv_icmp_ge (tgt := 117) hx hb dX9_needed_14 (by decide) (fun c14 => ?_) (fun c14 => ?_)
    · have hf := if_of c14 hf
      refine lv_iload_n hx hb dX9_needed_117 rfl (lv_at hl 1 rfl) ?_
      cases hf
      exact sg_iret hc hw hz hn0 hr hlocks ⟨rfl, rfl⟩ dX9_needed_118
    · have hf := if_no c14 hf
      refine lv_aload_n hx hb dX9_needed_17 rfl (lv_at hl 0 rfl) ?_
      obtain ⟨p18, hp18, hf⟩ := cl_of hf
      refine sg_vv (rest := []) (c_X9_asItIs hn ha_a hT_a hp18) hc hw hz hml hl ha_a hT_a (by decide) rfl cv_X9_214 ⟨⟨rfl, rfl⟩, Nat.le_trans (Nat.le_of_ble_eq_true rfl) hRf, Nat.le_trans (Nat.le_of_ble_eq_true rfl) hRl⟩ ⟨Nat.zero_le _, Nat.zero_le _⟩ rfl rfl (Nat.le_of_ble_eq_true rfl) dX9_needed_18 (fun h1 H locs hp hw => ?_)
      subst h1
      refine lv_aload_n hx hb dX9_needed_21 rfl (lv_at hl 0 rfl) ?_
      obtain ⟨hF22, hT22, ha22, hN22⟩ := ft_9_15 hn ha_a hT_a
      refine sg_getf (q := (a + 11)) hc hw ha_a hT_a fr_9_15 (by decide) k_888 dX9_needed_22 hF22 ?_
      refine lv_iconst (v := 0) hx hb dX9_needed_25 (by decide) ?_
      refine lv_iconst (v := 0) hx hb dX9_needed_26 (by decide) ?_
      refine sg_ist hc hw ha22 hT22 hN22 (show vp_in 0 31 by unfold vp_in; decide) dX9_needed_27 (fun H locs hw => ?_)
      obtain ⟨h27, hw, hf⟩ := sg_name hw hf
      refine lv_iconst (v := 0) hx hb dX9_needed_28 (by decide) ?_
      refine lv_istore_n (lv' := [(3, .int 0), (0, .ref (b + a)), (1, .int x1), (2, .int x2)]) hx hb dX9_needed_29 rfl hl (by decide) rfl (fun ls hl => ?_)
      exact L30 x1 x2 _ _ hf _ _ _ hw (lv_sub hl [1, 2, 3, 0] rfl)
  unfold F_X9_needed at hf
  refine lv_bipush (v := (-4)) hx hb dX9_needed_0 (by decide) ?_
  refine lv_istore_n (lv' := [(1, .int (-4)), (0, .ref (b + a))]) hx hb dX9_needed_2 rfl hl (by decide) rfl (fun ls hl => ?_)
  refine lv_iconst (v := 0) hx hb dX9_needed_3 (by decide) ?_
  refine lv_istore_n (lv' := [(2, .int 0), (1, .int (-4)), (0, .ref (b + a))]) hx hb dX9_needed_4 rfl hl (by decide) rfl (fun ls hl => ?_)
  exact L5 _ _ hf _ _ _ hw (lv_sub hl [2, 1, 0] rfl)
theorem c_X9_needed {l : Launch} {D : va_G} {cA : Nat → ClassId} {b n : Nat} (hn : sg_okN n) {a : Nat} (ha_a : a < n) (hT_a : sg_T a = 9) {h : HP} {Rz : Int32 × HP} (hf : F_X9_needed a h = some Rz) : Met l yX9_needed (Cond.code yX9_needed cX9_needed 4 (some .int) :: sg_tbl) ({ frames := 5, cells := 0, slots := 0, locals := 122 } : Room) (va_Pc [.ref (b + a)] (sg_Wd D b cA n h)) (va_Qi (fun r u => r = Rz.1 ∧ u = Rz.2) (sg_Wd D b cA n) (sg_A b)) 0 0 (sg_A b) := by
  refine Met.ofW (cc := cX9_needed) (maxL := 4) (ret := (some .int)) (by decide) rfl ?_
  intro p e s m args below meth c s₁ B hml hv
  obtain ⟨rfl, hP, hK, hz, hY, hN⟩ := hv
  have hl := lv_entry [.ref (b + a)] (n := 4) (Nat.le_of_ble_eq_true rfl)
  rw [lg_entry_eq]
  exact w_X9_needed hn ⟨B.exec, B.bytes, findClass_of_methodNamed B.named, fun w h => atoms_spec (ws := Cond.code yX9_needed cX9_needed 4 (some .int) :: sg_tbl) B.pre w (List.mem_cons_of_mem _ h), hK, hN⟩ hz B.returns B.notSynchronized hml (Nat.le_refl _) (Nat.le_refl _) ha_a hT_a hf _ _ _ ⟨hP, hY, va_S.rf⟩ hl
set_option maxHeartbeats 4000000 in
set_option maxRecDepth 100000 in
theorem w_X9_layOrder {p : Program} {l : Launch} {e : Env} {R : Room} {s : State} {m : MethodId} {args : Array Value} {below : List Frame} {meth : Method} {c : Code} {D : va_G} {cA : Nat → ClassId} {b n : Nat} (hn : sg_okN n) {a : Nat} {x1 : Int32} {h : HP} {Rz : Int32 × HP} (hc : sg_Cx p s m args c cX9_layOrder RX9 D cA) (hz : s.heap.size = b + n) (hr : meth.sig.returnType = some .boolean) (hlocks : meth.locks = false) (hml : c.maxLocals = 6) (hRf : 0 ≤ R.frames) (hRl : 0 ≤ R.locals) (ha_a : a < n) (hT_a : sg_T a = 9) (hf : F_X9_layOrder a x1 h = some Rz) (H : Heap) (locs : List Loc) (ls : Array Slot) (hw : sg_Wo D b cA n s.heap h H locs) (hl : lv_has ls 6 [(0, .ref (b + a)), (1, .int x1)]) : W p l e R s m args below meth c H locs 0 0 (sg_Qi below args s D b cA n (fun r u => (r = Rz.1 ∧ u = Rz.2) ∧ narrow .boolean (.int r) = .int r)) (F0 m 0 ls []) := by
  have hx := hc.1
  have hb := hc.2.1
  have hn0 : 0 < n := sg_pos hn
  have J58 : ∀ (x2 : Int32) (x4 : Int32) (h : HP) (H : Heap) (locs : List Loc) (ls : Array Slot), F_X9_layOrder_J58 a x2 x4 h = some Rz → sg_Wo D b cA n s.heap h H locs → lv_has ls 6 [(2, .int x2), (4, .int x4)] → W p l e R s m args below meth c H locs 0 0 (sg_Qi below args s D b cA n (fun r u => (r = Rz.1 ∧ u = Rz.2) ∧ narrow .boolean (.int r) = .int r)) (F0 m 58 ls []) := by
    intro x2 x4 h H locs ls hf hw hl
    unfold F_X9_layOrder_J58 at hf
    refine lv_iload hx hb dX9_layOrder_58 (lv_at hl 1 rfl) ?_
    refine lv_iconst (v := 1) hx hb dX9_layOrder_60 (by decide) ?_
    refine lv_iload_n hx hb dX9_layOrder_61 rfl (lv_at hl 0 rfl) ?_
    refine lv_ishl hx hb dX9_layOrder_62 ?_
    refine lv_iconst (v := 1) hx hb dX9_layOrder_63 (by decide) ?_
    refine lv_isub hx hb dX9_layOrder_64 ?_
    refine lv_icmp_ne (tgt := 72) hx hb dX9_layOrder_65 (by decide) (fun c65 => ?_) (fun c65 => ?_)
    · have hf := if_no c65 hf
      refine lv_iconst (v := 0) hx hb dX9_layOrder_72 (by decide) ?_
      cases hf
      exact sg_zret hc hw hz hn0 hr hlocks rfl ⟨⟨rfl, rfl⟩, rfl⟩ dX9_layOrder_73
    · have hf := if_of c65 hf
      refine lv_iconst (v := 1) hx hb dX9_layOrder_68 (by decide) ?_
      refine lv_goto (tgt := 73) hx hb dX9_layOrder_69 (by decide) ?_
      cases hf
      exact sg_zret hc hw hz hn0 hr hlocks rfl ⟨⟨rfl, rfl⟩, rfl⟩ dX9_layOrder_73
  have L17 : ∀ (x2 : Int32) (k : Nat) (x : (Int32 × Int32 × Int32 × HP)), F_X9_layOrder_L17 a x2 k x = some Rz → ∀ (H : Heap) (locs : List Loc) (ls : Array Slot), sg_Wo D b cA n s.heap x.2.2.2 H locs → lv_has ls 6 [(0, .ref (b + a)), (2, .int x2), (3, .int x.1), (4, .int x.2.1), (5, .int x.2.2.1)] → W p l e R s m args below meth c H locs 0 0 (sg_Qi below args s D b cA n (fun r u => (r = Rz.1 ∧ u = Rz.2) ∧ narrow .boolean (.int r) = .int r)) (F0 m 17 ls []) := by
    intro x2
    unfold F_X9_layOrder_L17
    refine lp_walk ?_
    intro rc17 hrc17 x hf H locs ls hw hl
    obtain ⟨x3, x4, x5, h⟩ := x
    dsimp only at hf hw hl
    refine lv_iload hx hb dX9_layOrder_17 (lv_at hl 4 rfl) ?_
    refine lv_if_lt (tgt := 58) hx hb dX9_layOrder_19 (by decide) (fun c19 => ?_) (fun c19 => ?_)
    · have hf := if_of c19 hf
      exact J58 x2 x4 _ _ _ _ hf hw (lv_sub hl [1, 3] rfl)
    · have hf := if_no c19 hf
      refine lv_aload_n hx hb dX9_layOrder_22 rfl (lv_at hl 0 rfl) ?_
      obtain ⟨hF23, hT23, ha23, hN23⟩ := ft_9_24 hn ha_a hT_a
      refine sg_getf (q := (a + 17)) hc hw ha_a hT_a fr_9_24 (by decide) k_897 dX9_layOrder_23 hF23 ?_
      refine lv_iload hx hb dX9_layOrder_26 (lv_at hl 4 rfl) ?_
      refine lv_iload_n hx hb dX9_layOrder_28 rfl (lv_at hl 2 rfl) ?_
      refine lv_bipush (v := 6) hx hb dX9_layOrder_29 (by decide) ?_
      refine lv_irem hx hb dX9_layOrder_31 (by decide) ?_
      obtain ⟨hg32, hf⟩ := gd_of hf
      refine sg_ist hc hw ha23 hT23 hN23 hg32 dX9_layOrder_32 (fun H locs hw => ?_)
      obtain ⟨h32, hw, hf⟩ := sg_name hw hf
      refine lv_iload_n hx hb dX9_layOrder_33 rfl (lv_at hl 2 rfl) ?_
      refine lv_bipush (v := 6) hx hb dX9_layOrder_34 (by decide) ?_
      refine lv_idiv hx hb dX9_layOrder_36 (by decide) ?_
      refine lv_topi (fun v37 e37 => ?_)
      have hf := nm_of e37 hf
      refine lv_istore_n (lv' := [(3, .int v37), (0, .ref (b + a)), (2, .int x2), (4, .int x4), (5, .int x5)]) hx hb dX9_layOrder_37 rfl hl (by decide) rfl (fun ls hl => ?_)
      refine lv_iload hx hb dX9_layOrder_38 (lv_at hl 3 rfl) ?_
      refine lv_iconst (v := 1) hx hb dX9_layOrder_40 (by decide) ?_
      refine lv_aload_n hx hb dX9_layOrder_41 rfl (lv_at hl 1 rfl) ?_
      refine sg_getf (q := (a + 17)) hc hw ha_a hT_a fr_9_24 (by decide) k_897 dX9_layOrder_42 (ft_9_24 hn ha_a hT_a).1 ?_
      refine lv_iload hx hb dX9_layOrder_45 (lv_at hl 4 rfl) ?_
      obtain ⟨hg47, hf⟩ := gd_of hf
      refine sg_ild hc hw ha23 hT23 hN23 hg47 dX9_layOrder_47 ?_
      refine lv_ishl hx hb dX9_layOrder_48 ?_
      refine lv_ior hx hb dX9_layOrder_49 ?_
      refine lv_topi (fun v50 e50 => ?_)
      have hf := nm_of e50 hf
      refine lv_istore (lv' := [(4, .int v50), (3, .int v37), (0, .ref (b + a)), (2, .int x2), (5, .int x5)]) hx hb dX9_layOrder_50 hl (by decide) rfl (fun ls hl => ?_)
      refine lv_iinc (v := (x5 + (-1))) (lv' := [(5, .int (x5 + (-1))), (4, .int v50), (3, .int v37), (0, .ref (b + a)), (2, .int x2)]) hx hb dX9_layOrder_52 hl (k := 4) rfl rfl (by decide) rfl (fun ls hl => ?_)
      refine lv_goto (tgt := 17) hx hb dX9_layOrder_55 (by decide) ?_
      exact hrc17 _ hf _ _ _ hw (lv_sub hl [3, 4, 2, 1, 0] rfl)
  unfold F_X9_layOrder at hf
  refine lv_aload_n hx hb dX9_layOrder_0 rfl (lv_at hl 0 rfl) ?_
  obtain ⟨hF1, hT1, ha1, hN1⟩ := ft_9_0 hn ha_a hT_a
  refine sg_getf (q := (a + 1)) hc hw ha_a hT_a fr_9_0 (by decide) k_873 dX9_layOrder_1 hF1 ?_
  refine lv_iconst (v := 1) hx hb dX9_layOrder_4 (by decide) ?_
  refine sg_ild hc hw ha1 hT1 hN1 (show vp_in 1 34 by unfold vp_in; decide) dX9_layOrder_5 ?_
  refine lv_topi (fun v6 e6 => ?_)
  have hf := nm_of e6 hf
  refine lv_istore_n (lv' := [(2, .int v6), (0, .ref (b + a)), (1, .int x1)]) hx hb dX9_layOrder_6 rfl hl (by decide) rfl (fun ls hl => ?_)
  refine lv_iload_n hx hb dX9_layOrder_7 rfl (lv_at hl 2 rfl) ?_
  refine lv_istore_n (lv' := [(3, .int x1), (2, .int v6), (0, .ref (b + a)), (1, .int x1)]) hx hb dX9_layOrder_8 rfl hl (by decide) rfl (fun ls hl => ?_)
  refine lv_iconst (v := 0) hx hb dX9_layOrder_9 (by decide) ?_
  refine lv_istore (lv' := [(4, .int 0), (3, .int x1), (2, .int v6), (0, .ref (b + a)), (1, .int x1)]) hx hb dX9_layOrder_10 hl (by decide) rfl (fun ls hl => ?_)
  refine lv_iload_n hx hb dX9_layOrder_12 rfl (lv_at hl 2 rfl) ?_
  refine lv_iconst (v := 1) hx hb dX9_layOrder_13 (by decide) ?_
  refine lv_isub hx hb dX9_layOrder_14 ?_
  refine lv_topi (fun v15 e15 => ?_)
  have hf := nm_of e15 hf
  refine lv_istore (lv' := [(5, .int v15), (4, .int 0), (3, .int x1), (2, .int v6), (0, .ref (b + a)), (1, .int x1)]) hx hb dX9_layOrder_15 hl (by decide) rfl (fun ls hl => ?_)
  exact L17 v6 _ _ hf _ _ _ hw (lv_sub hl [4, 3, 2, 1, 0] rfl)
theorem c_X9_layOrder {l : Launch} {D : va_G} {cA : Nat → ClassId} {b n : Nat} (hn : sg_okN n) {a : Nat} {x1 : Int32} (ha_a : a < n) (hT_a : sg_T a = 9) {h : HP} {Rz : Int32 × HP} (hf : F_X9_layOrder a x1 h = some Rz) : Met l yX9_layOrder (Cond.code yX9_layOrder cX9_layOrder 6 (some .boolean) :: sg_tbl) ({ frames := 0, cells := 0, slots := 0, locals := 0 } : Room) (va_Pc [.ref (b + a), .int x1] (sg_Wd D b cA n h)) (va_Qi (fun r u => (r = Rz.1 ∧ u = Rz.2) ∧ narrow .boolean (.int r) = .int r) (sg_Wd D b cA n) (sg_A b)) 0 0 (sg_A b) := by
  refine Met.ofW (cc := cX9_layOrder) (maxL := 6) (ret := (some .boolean)) (by decide) rfl ?_
  intro p e s m args below meth c s₁ B hml hv
  obtain ⟨rfl, hP, hK, hz, hY, hN⟩ := hv
  have hl := lv_entry [.ref (b + a), .int x1] (n := 6) (Nat.le_of_ble_eq_true rfl)
  rw [lg_entry_eq]
  exact w_X9_layOrder hn ⟨B.exec, B.bytes, findClass_of_methodNamed B.named, fun w h => atoms_spec (ws := Cond.code yX9_layOrder cX9_layOrder 6 (some .boolean) :: sg_tbl) B.pre w (List.mem_cons_of_mem _ h), hK, hN⟩ hz B.returns B.notSynchronized hml (Nat.le_refl _) (Nat.le_refl _) ha_a hT_a hf _ _ _ ⟨hP, hY, va_S.rf⟩ hl
set_option maxHeartbeats 4000000 in
set_option maxRecDepth 100000 in
theorem w_X9_comesTo {p : Program} {l : Launch} {e : Env} {R : Room} {s : State} {m : MethodId} {args : Array Value} {below : List Frame} {meth : Method} {c : Code} {D : va_G} {cA : Nat → ClassId} {b n : Nat} (hn : sg_okN n) {a : Nat} {x1 : Int32} {x2 : Int32} {h : HP} {Rz : Int32} (hc : sg_Cx p s m args c cX9_comesTo RX9 D cA) (hz : s.heap.size = b + n) (hr : meth.sig.returnType = some .int) (hlocks : meth.locks = false) (hml : c.maxLocals = 10) (hRf : 3 ≤ R.frames) (hRl : 70 ≤ R.locals) (ha_a : a < n) (hT_a : sg_T a = 9) (hf : F_X9_comesTo a x1 x2 h = some Rz) (H : Heap) (locs : List Loc) (ls : Array Slot) (hw : sg_Wo D b cA n s.heap h H locs) (hl : lv_has ls 10 [(0, .ref (b + a)), (1, .int x1), (2, .int x2)]) : W p l e R s m args below meth c H locs 0 0 (sg_Qi below args s D b cA n (fun r u => r = Rz ∧ u = h)) (F0 m 0 ls []) := by
  have hx := hc.1
  have hb := hc.2.1
  have hn0 : 0 < n := sg_pos hn
  have L14 : ∀ (x3 : Int32) (k : Nat) (x : (Int32 × Int32)), F_X9_comesTo_L14 a x1 x2 x3 h k x = some Rz → ∀ (H : Heap) (locs : List Loc) (ls : Array Slot), sg_Wo D b cA n s.heap h H locs → lv_has ls 10 [(0, .ref (b + a)), (1, .int x1), (2, .int x2), (3, .int x3), (4, .int x.1), (5, .int x.2)] → W p l e R s m args below meth c H locs 0 0 (sg_Qi below args s D b cA n (fun r u => r = Rz ∧ u = h)) (F0 m 14 ls []) := by
    intro x3
    unfold F_X9_comesTo_L14
    refine lp_walk ?_
    intro rc14 hrc14 x hf H locs ls hw hl
    obtain ⟨x4, x5⟩ := x
    dsimp only at hf hw hl
    have J152 : ∀ (x4 : Int32) (x5 : Int32) (H : Heap) (locs : List Loc) (ls : Array Slot), F_X9_comesTo_J152 a rc14 x1 x2 x3 x4 x5 h = some Rz → sg_Wo D b cA n s.heap h H locs → lv_has ls 10 [(0, .ref (b + a)), (1, .int x1), (2, .int x2), (3, .int x3), (4, .int x4), (5, .int x5)] → W p l e R s m args below meth c H locs 0 0 (sg_Qi below args s D b cA n (fun r u => r = Rz ∧ u = h)) (F0 m 152 ls []) := by
      intro x4 x5 H locs ls hf hw hl
      unfold F_X9_comesTo_J152 at hf
      refine lv_iinc (v := (x5 + 1)) (lv' := [(5, .int (x5 + 1)), (0, .ref (b + a)), (1, .int x1), (2, .int x2), (3, .int x3), (4, .int x4)]) hx hb dX9_comesTo_152 hl (k := 5) rfl rfl (by decide) rfl (fun ls hl => ?_)
      refine lv_goto (tgt := 14) hx hb dX9_comesTo_155 (by decide) ?_
      exact hrc14 _ hf _ _ _ hw (lv_sub hl [1, 2, 3, 4, 5, 0] rfl)
    have L61 : ∀ (x5 : Int32) (x6 : Int32) (k : Nat) (x : (Int32 × Int32 × Int32)), F_X9_comesTo_L61 a rc14 x1 x2 x3 x5 x6 h k x = some Rz → ∀ (H : Heap) (locs : List Loc) (ls : Array Slot), sg_Wo D b cA n s.heap h H locs → lv_has ls 10 [(0, .ref (b + a)), (1, .int x1), (2, .int x2), (3, .int x3), (4, .int x.1), (5, .int x5), (6, .int x6), (7, .int x.2.1), (8, .int x.2.2)] → W p l e R s m args below meth c H locs 0 0 (sg_Qi below args s D b cA n (fun r u => r = Rz ∧ u = h)) (F0 m 61 ls []) := by
      intro x5 x6
      unfold F_X9_comesTo_L61
      refine lp_walk ?_
      intro rc61 hrc61 x hf H locs ls hw hl
      obtain ⟨x4, x7, x8⟩ := x
      dsimp only at hf hw hl
      have J146 : ∀ (x7 : Int32) (x8 : Int32) (s0 : Int32) (s1 : Int32) (H : Heap) (locs : List Loc) (ls : Array Slot), F_X9_comesTo_J146 a rc14 rc61 x1 x2 x3 x5 x6 x7 x8 s0 s1 h = some Rz → sg_Wo D b cA n s.heap h H locs → lv_has ls 10 [(0, .ref (b + a)), (1, .int x1), (2, .int x2), (3, .int x3), (5, .int x5), (6, .int x6), (7, .int x7), (8, .int x8)] → W p l e R s m args below meth c H locs 0 0 (sg_Qi below args s D b cA n (fun r u => r = Rz ∧ u = h)) (F0 m 146 ls [.int s0, .int s1]) := by
        intro x7 x8 s0 s1 H locs ls hf hw hl
        unfold F_X9_comesTo_J146 at hf
        refine lv_iadd hx hb dX9_comesTo_146 ?_
        refine lv_topi (fun v147 e147 => ?_)
        have hf := nm_of e147 hf
        refine lv_istore (lv' := [(4, .int v147), (0, .ref (b + a)), (1, .int x1), (2, .int x2), (3, .int x3), (5, .int x5), (6, .int x6), (7, .int x7), (8, .int x8)]) hx hb dX9_comesTo_147 hl (by decide) rfl (fun ls hl => ?_)
        refine lv_goto (tgt := 61) hx hb dX9_comesTo_149 (by decide) ?_
        exact hrc61 _ hf _ _ _ hw (lv_sub hl [1, 2, 3, 4, 0, 5, 6, 7, 8] rfl)
      have J125 : ∀ (x4 : Int32) (x7 : Int32) (x9 : Int32) (s0 : Int32) (H : Heap) (locs : List Loc) (ls : Array Slot), F_X9_comesTo_J125 a rc14 rc61 x1 x2 x3 x4 x5 x6 x7 x9 s0 h = some Rz → sg_Wo D b cA n s.heap h H locs → lv_has ls 10 [(0, .ref (b + a)), (1, .int x1), (2, .int x2), (3, .int x3), (4, .int x4), (5, .int x5), (6, .int x6), (7, .int x7), (9, .int x9)] → W p l e R s m args below meth c H locs 0 0 (sg_Qi below args s D b cA n (fun r u => r = Rz ∧ u = h)) (F0 m 125 ls [.int s0]) := by
        intro x4 x7 x9 s0 H locs ls hf hw hl
        unfold F_X9_comesTo_J125 at hf
        refine lv_istore (lv' := [(8, .int s0), (0, .ref (b + a)), (1, .int x1), (2, .int x2), (3, .int x3), (4, .int x4), (5, .int x5), (6, .int x6), (7, .int x7), (9, .int x9)]) hx hb dX9_comesTo_125 hl (by decide) rfl (fun ls hl => ?_)
        refine lv_iload hx hb dX9_comesTo_127 (lv_at hl 8 rfl) ?_
        refine lv_iload hx hb dX9_comesTo_129 (lv_at hl 9 rfl) ?_
        refine lv_isub hx hb dX9_comesTo_131 ?_
        refine lv_topi (fun v132 e132 => ?_)
        have hf := nm_of e132 hf
        refine lv_istore (lv' := [(7, .int v132), (8, .int s0), (0, .ref (b + a)), (1, .int x1), (2, .int x2), (3, .int x3), (4, .int x4), (5, .int x5), (6, .int x6), (9, .int x9)]) hx hb dX9_comesTo_132 hl (by decide) rfl (fun ls hl => ?_)
        refine lv_iload hx hb dX9_comesTo_134 (lv_at hl 6 rfl) ?_
        refine lv_iload hx hb dX9_comesTo_136 (lv_at hl 1 rfl) ?_
        refine lv_if_eq (tgt := 145) hx hb dX9_comesTo_138 (by decide) (fun c138 => ?_) (fun c138 => ?_)
        · have hf := if_of c138 hf
          refine lv_iconst (v := 0) hx hb dX9_comesTo_145 (by decide) ?_
          exact J146 v132 s0 0 x4 _ _ _ hf hw (lv_sub hl [2, 3, 4, 5, 7, 8, 0, 1] rfl)
        · have hf := if_no c138 hf
          refine lv_iconst (v := 1) hx hb dX9_comesTo_141 (by decide) ?_
          refine lv_goto (tgt := 146) hx hb dX9_comesTo_142 (by decide) ?_
          exact J146 v132 s0 1 x4 _ _ _ hf hw (lv_sub hl [2, 3, 4, 5, 7, 8, 0, 1] rfl)
      refine lv_iload hx hb dX9_comesTo_61 (lv_at hl 4 rfl) ?_
      refine lv_iload_n hx hb dX9_comesTo_63 rfl (lv_at hl 3 rfl) ?_
      refine lv_icmp_ge (tgt := 152) hx hb dX9_comesTo_64 (by decide) (fun c64 => ?_) (fun c64 => ?_)
      · have hf := if_of c64 hf
        exact J152 x4 x5 _ _ _ hf hw (lv_sub hl [0, 1, 2, 3, 4, 5] rfl)
      · have hf := if_no c64 hf
        refine lv_iload hx hb dX9_comesTo_67 (lv_at hl 8 rfl) ?_
        refine lv_if_eq (tgt := 152) hx hb dX9_comesTo_69 (by decide) (fun c69 => ?_) (fun c69 => ?_)
        · have hf := if_of c69 hf
          exact J152 x4 x5 _ _ _ hf hw (lv_sub hl [0, 1, 2, 3, 4, 5] rfl)
        · have hf := if_no c69 hf
          refine lv_aload_n hx hb dX9_comesTo_72 rfl (lv_at hl 0 rfl) ?_
          obtain ⟨hF73, hT73, ha73, hN73⟩ := ft_9_0 hn ha_a hT_a
          refine sg_getf (q := (a + 1)) hc hw ha_a hT_a fr_9_0 (by decide) k_873 dX9_comesTo_73 hF73 ?_
          refine lv_iload hx hb dX9_comesTo_76 (lv_at hl 6 rfl) ?_
          refine lv_iconst (v := 1) hx hb dX9_comesTo_78 (by decide) ?_
          refine lv_iload hx hb dX9_comesTo_79 (lv_at hl 6 rfl) ?_
          refine lv_ishl hx hb dX9_comesTo_81 ?_
          refine lv_iconst (v := 1) hx hb dX9_comesTo_82 (by decide) ?_
          refine lv_aload_n hx hb dX9_comesTo_83 rfl (lv_at hl 0 rfl) ?_
          refine sg_getf (q := (a + 1)) hc hw ha_a hT_a fr_9_0 (by decide) k_873 dX9_comesTo_84 (ft_9_0 hn ha_a hT_a).1 ?_
          refine lv_bipush (v := 10) hx hb dX9_comesTo_87 (by decide) ?_
          refine lv_aload_n hx hb dX9_comesTo_89 rfl (lv_at hl 0 rfl) ?_
          refine sg_getf (q := (a + 1)) hc hw ha_a hT_a fr_9_0 (by decide) k_873 dX9_comesTo_90 (ft_9_0 hn ha_a hT_a).1 ?_
          refine lv_iload hx hb dX9_comesTo_93 (lv_at hl 4 rfl) ?_
          obtain ⟨p95, hp95, hf⟩ := cl_of hf
          refine sg_si (rest := [.int 10, .ref (b + (a + 1)), .int 1, .int (1 <<< (x6 &&& 31)), .int x6, .ref (b + (a + 1))]) (c_X9_stretchAt hn ha73 hT73 hp95) hc hw hz hn0 hml hl cs_X9_188 ⟨⟨rfl, rfl⟩, Nat.le_trans (Nat.le_of_ble_eq_true rfl) hRf, Nat.le_trans (Nat.le_of_ble_eq_true rfl) hRl⟩ ⟨Nat.zero_le _, Nat.zero_le _⟩ rfl rfl (Nat.le_of_ble_eq_true rfl) dX9_comesTo_95 (fun r h1 H locs hp hw => ?_)
          obtain ⟨e1, e2⟩ := hp; subst r; subst h1
          refine lv_iadd hx hb dX9_comesTo_98 ?_
          obtain ⟨hg99, hf⟩ := gd_of hf
          refine sg_ild hc hw ha73 hT73 hN73 hg99 dX9_comesTo_99 ?_
          refine lv_iadd hx hb dX9_comesTo_100 ?_
          refine lv_aload_n hx hb dX9_comesTo_101 rfl (lv_at hl 0 rfl) ?_
          refine sg_getf (q := (a + 1)) hc hw ha_a hT_a fr_9_0 (by decide) k_873 dX9_comesTo_102 (ft_9_0 hn ha_a hT_a).1 ?_
          refine lv_iconst (v := 3) hx hb dX9_comesTo_105 (by decide) ?_
          refine sg_ild hc hw ha73 hT73 hN73 (show vp_in 3 34 by unfold vp_in; decide) dX9_comesTo_106 ?_
          refine lv_iadd hx hb dX9_comesTo_107 ?_
          obtain ⟨p108, hp108, hf⟩ := cl_of hf
          refine sg_si (rest := []) (c_X9_cost hn ha73 hT73 hp108) hc hw hz hn0 hml hl cs_X9_178 ⟨⟨rfl, rfl⟩, Nat.le_trans (Nat.le_of_ble_eq_true rfl) hRf, Nat.le_trans (Nat.le_of_ble_eq_true rfl) hRl⟩ ⟨Nat.zero_le _, Nat.zero_le _⟩ rfl rfl (Nat.le_of_ble_eq_true rfl) dX9_comesTo_108 (fun r h1 H locs hp hw => ?_)
          obtain ⟨e1, e2⟩ := hp; subst r; subst h1
          refine lv_istore (lv' := [(9, .int p108), (0, .ref (b + a)), (1, .int x1), (2, .int x2), (3, .int x3), (4, .int x4), (5, .int x5), (6, .int x6), (7, .int x7), (8, .int x8)]) hx hb dX9_comesTo_111 hl (by decide) rfl (fun ls hl => ?_)
          refine lv_iload hx hb dX9_comesTo_113 (lv_at hl 8 rfl) ?_
          refine lv_iload hx hb dX9_comesTo_115 (lv_at hl 0 rfl) ?_
          refine lv_icmp_lt (tgt := 124) hx hb dX9_comesTo_117 (by decide) (fun c117 => ?_) (fun c117 => ?_)
          · have hf := if_of c117 hf
            refine lv_iconst (v := 0) hx hb dX9_comesTo_124 (by decide) ?_
            exact J125 x4 x7 p108 0 _ _ _ hf hw (lv_sub hl [1, 2, 3, 4, 5, 6, 7, 8, 0] rfl)
          · have hf := if_no c117 hf
            refine lv_iconst (v := 1) hx hb dX9_comesTo_120 (by decide) ?_
            refine lv_goto (tgt := 125) hx hb dX9_comesTo_121 (by decide) ?_
            exact J125 x4 x7 p108 1 _ _ _ hf hw (lv_sub hl [1, 2, 3, 4, 5, 6, 7, 8, 0] rfl)
    have J55 : ∀ (x4 : Int32) (x5 : Int32) (x6 : Int32) (s0 : Int32) (s1 : Int32) (H : Heap) (locs : List Loc) (ls : Array Slot), F_X9_comesTo_J55 a rc14 x1 x2 x3 x4 x5 x6 s0 s1 h = some Rz → sg_Wo D b cA n s.heap h H locs → lv_has ls 10 [(0, .ref (b + a)), (1, .int x1), (2, .int x2), (3, .int x3), (4, .int x4), (5, .int x5), (6, .int x6)] → W p l e R s m args below meth c H locs 0 0 (sg_Qi below args s D b cA n (fun r u => r = Rz ∧ u = h)) (F0 m 55 ls [.int s0, .int s1]) := by
      intro x4 x5 x6 s0 s1 H locs ls hf hw hl
      unfold F_X9_comesTo_J55 at hf
      refine lv_iadd hx hb dX9_comesTo_55 ?_
      refine lv_topi (fun v56 e56 => ?_)
      have hf := nm_of e56 hf
      refine lv_istore (lv' := [(7, .int v56), (0, .ref (b + a)), (1, .int x1), (2, .int x2), (3, .int x3), (4, .int x4), (5, .int x5), (6, .int x6)]) hx hb dX9_comesTo_56 hl (by decide) rfl (fun ls hl => ?_)
      refine lv_iconst (v := 1) hx hb dX9_comesTo_58 (by decide) ?_
      refine lv_istore (lv' := [(8, .int 1), (7, .int v56), (0, .ref (b + a)), (1, .int x1), (2, .int x2), (3, .int x3), (4, .int x4), (5, .int x5), (6, .int x6)]) hx hb dX9_comesTo_59 hl (by decide) rfl (fun ls hl => ?_)
      exact L61 x5 x6 _ _ hf _ _ _ hw (lv_sub hl [2, 3, 4, 5, 6, 7, 8, 1, 0] rfl)
    refine lv_iload hx hb dX9_comesTo_14 (lv_at hl 5 rfl) ?_
    refine lv_aload_n hx hb dX9_comesTo_16 rfl (lv_at hl 0 rfl) ?_
    obtain ⟨hF17, hT17, ha17, hN17⟩ := ft_9_0 hn ha_a hT_a
    refine sg_getf (q := (a + 1)) hc hw ha_a hT_a fr_9_0 (by decide) k_873 dX9_comesTo_17 hF17 ?_
    refine lv_iconst (v := 1) hx hb dX9_comesTo_20 (by decide) ?_
    refine sg_ild hc hw ha17 hT17 hN17 (show vp_in 1 34 by unfold vp_in; decide) dX9_comesTo_21 ?_
    refine lv_icmp_ge (tgt := 158) hx hb dX9_comesTo_22 (by decide) (fun c22 => ?_) (fun c22 => ?_)
    · have hf := if_of c22 hf
      refine lv_iload hx hb dX9_comesTo_158 (lv_at hl 4 rfl) ?_
      cases hf
      exact sg_iret hc hw hz hn0 hr hlocks ⟨rfl, rfl⟩ dX9_comesTo_160
    · have hf := if_no c22 hf
      refine lv_aload_n hx hb dX9_comesTo_25 rfl (lv_at hl 0 rfl) ?_
      obtain ⟨hF26, hT26, ha26, hN26⟩ := ft_9_24 hn ha_a hT_a
      refine sg_getf (q := (a + 17)) hc hw ha_a hT_a fr_9_24 (by decide) k_897 dX9_comesTo_26 hF26 ?_
      refine lv_iload hx hb dX9_comesTo_29 (lv_at hl 5 rfl) ?_
      obtain ⟨hg31, hf⟩ := gd_of hf
      refine sg_ild hc hw ha26 hT26 hN26 hg31 dX9_comesTo_31 ?_
      refine lv_topi (fun v32 e32 => ?_)
      have hf := nm_of e32 hf
      refine lv_istore (lv' := [(6, .int v32), (0, .ref (b + a)), (1, .int x1), (2, .int x2), (3, .int x3), (4, .int x4), (5, .int x5)]) hx hb dX9_comesTo_32 hl (by decide) rfl (fun ls hl => ?_)
      refine lv_aload_n hx hb dX9_comesTo_34 rfl (lv_at hl 1 rfl) ?_
      refine sg_getf (q := (a + 1)) hc hw ha_a hT_a fr_9_0 (by decide) k_873 dX9_comesTo_35 (ft_9_0 hn ha_a hT_a).1 ?_
      refine lv_bipush (v := 22) hx hb dX9_comesTo_38 (by decide) ?_
      refine lv_iload hx hb dX9_comesTo_40 (lv_at hl 0 rfl) ?_
      refine lv_iadd hx hb dX9_comesTo_42 ?_
      obtain ⟨hg43, hf⟩ := gd_of hf
      refine sg_ild hc hw ha17 hT17 hN17 hg43 dX9_comesTo_43 ?_
      refine lv_iload hx hb dX9_comesTo_44 (lv_at hl 0 rfl) ?_
      refine lv_iload_n hx hb dX9_comesTo_46 rfl (lv_at hl 2 rfl) ?_
      refine lv_icmp_ne (tgt := 54) hx hb dX9_comesTo_47 (by decide) (fun c47 => ?_) (fun c47 => ?_)
      · have hf := if_no c47 hf
        refine lv_iconst (v := 0) hx hb dX9_comesTo_54 (by decide) ?_
        exact J55 x4 x5 v32 0 (ld h (a + 1) (22 + v32)) _ _ _ hf hw (lv_sub hl [1, 2, 3, 4, 5, 6, 0] rfl)
      · have hf := if_of c47 hf
        refine lv_iload_n hx hb dX9_comesTo_50 rfl (lv_at hl 3 rfl) ?_
        refine lv_goto (tgt := 55) hx hb dX9_comesTo_51 (by decide) ?_
        exact J55 x4 x5 v32 x2 (ld h (a + 1) (22 + v32)) _ _ _ hf hw (lv_sub hl [1, 2, 3, 4, 5, 6, 0] rfl)
  unfold F_X9_comesTo at hf
  refine lv_aload_n hx hb dX9_comesTo_0 rfl (lv_at hl 0 rfl) ?_
  obtain ⟨hF1, hT1, ha1, hN1⟩ := ft_9_0 hn ha_a hT_a
  refine sg_getf (q := (a + 1)) hc hw ha_a hT_a fr_9_0 (by decide) k_873 dX9_comesTo_1 hF1 ?_
  obtain ⟨p4, hp4, hf⟩ := cl_of hf
  refine sg_si (rest := []) (c_X9_yardsOf hn ha1 hT1 hp4) hc hw hz hn0 hml hl cs_X9_116 ⟨⟨rfl, rfl⟩, Nat.le_trans (Nat.le_of_ble_eq_true rfl) hRf, Nat.le_trans (Nat.le_of_ble_eq_true rfl) hRl⟩ ⟨Nat.zero_le _, Nat.zero_le _⟩ rfl rfl (Nat.le_of_ble_eq_true rfl) dX9_comesTo_4 (fun r h1 H locs hp hw => ?_)
  obtain ⟨e1, e2⟩ := hp; subst r; subst h1
  refine lv_istore_n (lv' := [(3, .int p4), (0, .ref (b + a)), (1, .int x1), (2, .int x2)]) hx hb dX9_comesTo_7 rfl hl (by decide) rfl (fun ls hl => ?_)
  refine lv_iconst (v := 0) hx hb dX9_comesTo_8 (by decide) ?_
  refine lv_istore (lv' := [(4, .int 0), (3, .int p4), (0, .ref (b + a)), (1, .int x1), (2, .int x2)]) hx hb dX9_comesTo_9 hl (by decide) rfl (fun ls hl => ?_)
  refine lv_iconst (v := 0) hx hb dX9_comesTo_11 (by decide) ?_
  refine lv_istore (lv' := [(5, .int 0), (4, .int 0), (3, .int p4), (0, .ref (b + a)), (1, .int x1), (2, .int x2)]) hx hb dX9_comesTo_12 hl (by decide) rfl (fun ls hl => ?_)
  exact L14 p4 _ _ hf _ _ _ hw (lv_sub hl [3, 4, 5, 2, 1, 0] rfl)
theorem c_X9_comesTo {l : Launch} {D : va_G} {cA : Nat → ClassId} {b n : Nat} (hn : sg_okN n) {a : Nat} {x1 : Int32} {x2 : Int32} (ha_a : a < n) (hT_a : sg_T a = 9) {h : HP} {Rz : Int32} (hf : F_X9_comesTo a x1 x2 h = some Rz) : Met l yX9_comesTo (Cond.code yX9_comesTo cX9_comesTo 10 (some .int) :: sg_tbl) ({ frames := 3, cells := 0, slots := 0, locals := 70 } : Room) (va_Pc [.ref (b + a), .int x1, .int x2] (sg_Wd D b cA n h)) (va_Qi (fun r u => r = Rz ∧ u = h) (sg_Wd D b cA n) (sg_A b)) 0 0 (sg_A b) := by
  refine Met.ofW (cc := cX9_comesTo) (maxL := 10) (ret := (some .int)) (by decide) rfl ?_
  intro p e s m args below meth c s₁ B hml hv
  obtain ⟨rfl, hP, hK, hz, hY, hN⟩ := hv
  have hl := lv_entry [.ref (b + a), .int x1, .int x2] (n := 10) (Nat.le_of_ble_eq_true rfl)
  rw [lg_entry_eq]
  exact w_X9_comesTo hn ⟨B.exec, B.bytes, findClass_of_methodNamed B.named, fun w h => atoms_spec (ws := Cond.code yX9_comesTo cX9_comesTo 10 (some .int) :: sg_tbl) B.pre w (List.mem_cons_of_mem _ h), hK, hN⟩ hz B.returns B.notSynchronized hml (Nat.le_refl _) (Nat.le_refl _) ha_a hT_a hf _ _ _ ⟨hP, hY, va_S.rf⟩ hl
set_option maxHeartbeats 4000000 in
set_option maxRecDepth 100000 in
theorem w_X9_layFarthest {p : Program} {l : Launch} {e : Env} {R : Room} {s : State} {m : MethodId} {args : Array Value} {below : List Frame} {meth : Method} {c : Code} {D : va_G} {cA : Nat → ClassId} {b n : Nat} (hn : sg_okN n) {a : Nat} {x1 : Int32} {x2 : Int32} {h : HP} {Rz : Int32 × HP} (hc : sg_Cx p s m args c cX9_layFarthest RX9 D cA) (hz : s.heap.size = b + n) (hr : meth.sig.returnType = some .int) (hlocks : meth.locks = false) (hml : c.maxLocals = 8) (hRf : 4 ≤ R.frames) (hRl : 99 ≤ R.locals) (ha_a : a < n) (hT_a : sg_T a = 9) (hf : F_X9_layFarthest a x1 x2 h = some Rz) (H : Heap) (locs : List Loc) (ls : Array Slot) (hw : sg_Wo D b cA n s.heap h H locs) (hl : lv_has ls 8 [(0, .ref (b + a)), (1, .int x1), (2, .int x2)]) : W p l e R s m args below meth c H locs 0 0 (sg_Qi below args s D b cA n (fun r u => r = Rz.1 ∧ u = Rz.2)) (F0 m 0 ls []) := by
  have hx := hc.1
  have hb := hc.2.1
  have hn0 : 0 < n := sg_pos hn
  have L35 : ∀ (x4 : Int32) (k : Nat) (x : (Int32 × Int32 × HP)), F_X9_layFarthest_L35 a x1 x2 x4 k x = some Rz → ∀ (H : Heap) (locs : List Loc) (ls : Array Slot), sg_Wo D b cA n s.heap x.2.2 H locs → lv_has ls 8 [(0, .ref (b + a)), (1, .int x1), (2, .int x2), (3, .int x.1), (4, .int x4), (5, .int x.2.1)] → W p l e R s m args below meth c H locs 0 0 (sg_Qi below args s D b cA n (fun r u => r = Rz.1 ∧ u = Rz.2)) (F0 m 35 ls []) := by
    intro x4
    unfold F_X9_layFarthest_L35
    refine lp_walk ?_
    intro rc35 hrc35 x hf H locs ls hw hl
    obtain ⟨x3, x5, h⟩ := x
    dsimp only at hf hw hl
    have J111 : ∀ (x5 : Int32) (s0 : Int32) (h : HP) (H : Heap) (locs : List Loc) (ls : Array Slot), F_X9_layFarthest_J111 a rc35 x1 x2 x4 x5 s0 h = some Rz → sg_Wo D b cA n s.heap h H locs → lv_has ls 8 [(0, .ref (b + a)), (1, .int x1), (2, .int x2), (4, .int x4), (5, .int x5)] → W p l e R s m args below meth c H locs 0 0 (sg_Qi below args s D b cA n (fun r u => r = Rz.1 ∧ u = Rz.2)) (F0 m 111 ls [.int s0]) := by
      intro x5 s0 h H locs ls hf hw hl
      unfold F_X9_layFarthest_J111 at hf
      refine lv_istore_n (lv' := [(3, .int s0), (0, .ref (b + a)), (1, .int x1), (2, .int x2), (4, .int x4), (5, .int x5)]) hx hb dX9_layFarthest_111 rfl hl (by decide) rfl (fun ls hl => ?_)
      refine lv_iinc (v := (x5 + 1)) (lv' := [(5, .int (x5 + 1)), (3, .int s0), (0, .ref (b + a)), (1, .int x1), (2, .int x2), (4, .int x4)]) hx hb dX9_layFarthest_112 hl (k := 5) rfl rfl (by decide) rfl (fun ls hl => ?_)
      refine lv_goto (tgt := 35) hx hb dX9_layFarthest_115 (by decide) ?_
      exact hrc35 _ hf _ _ _ hw (lv_sub hl [2, 3, 4, 1, 5, 0] rfl)
    have J99 : ∀ (x3 : Int32) (x5 : Int32) (x6 : Int32) (h : HP) (H : Heap) (locs : List Loc) (ls : Array Slot), F_X9_layFarthest_J99 a rc35 x1 x2 x3 x4 x5 x6 h = some Rz → sg_Wo D b cA n s.heap h H locs → lv_has ls 8 [(0, .ref (b + a)), (1, .int x1), (2, .int x2), (3, .int x3), (4, .int x4), (5, .int x5), (6, .int x6)] → W p l e R s m args below meth c H locs 0 0 (sg_Qi below args s D b cA n (fun r u => r = Rz.1 ∧ u = Rz.2)) (F0 m 99 ls []) := by
      intro x3 x5 x6 h H locs ls hf hw hl
      unfold F_X9_layFarthest_J99 at hf
      refine lv_iload hx hb dX9_layFarthest_99 (lv_at hl 6 rfl) ?_
      refine lv_iload_n hx hb dX9_layFarthest_101 rfl (lv_at hl 3 rfl) ?_
      refine lv_icmp_le (tgt := 110) hx hb dX9_layFarthest_102 (by decide) (fun c102 => ?_) (fun c102 => ?_)
      · have hf := if_of c102 hf
        refine lv_iload_n hx hb dX9_layFarthest_110 rfl (lv_at hl 3 rfl) ?_
        exact J111 x5 x3 _ _ _ _ hf hw (lv_sub hl [0, 1, 2, 4, 5] rfl)
      · have hf := if_no c102 hf
        refine lv_iload hx hb dX9_layFarthest_105 (lv_at hl 6 rfl) ?_
        refine lv_goto (tgt := 111) hx hb dX9_layFarthest_107 (by decide) ?_
        exact J111 x5 x6 _ _ _ _ hf hw (lv_sub hl [0, 1, 2, 4, 5] rfl)
    have L66 : ∀ (x3 : Int32) (x5 : Int32) (x6 : Int32) (k : Nat) (x : (Int32 × HP)), F_X9_layFarthest_L66 a rc35 x1 x2 x3 x4 x5 x6 k x = some Rz → ∀ (H : Heap) (locs : List Loc) (ls : Array Slot), sg_Wo D b cA n s.heap x.2 H locs → lv_has ls 8 [(0, .ref (b + a)), (1, .int x1), (2, .int x2), (3, .int x3), (4, .int x4), (5, .int x5), (6, .int x6), (7, .int x.1)] → W p l e R s m args below meth c H locs 0 0 (sg_Qi below args s D b cA n (fun r u => r = Rz.1 ∧ u = Rz.2)) (F0 m 66 ls []) := by
      intro x3 x5 x6
      unfold F_X9_layFarthest_L66
      refine lp_walk ?_
      intro rc66 hrc66 x hf H locs ls hw hl
      obtain ⟨x7, h⟩ := x
      dsimp only at hf hw hl
      refine lv_iload hx hb dX9_layFarthest_66 (lv_at hl 7 rfl) ?_
      refine lv_bipush (v := 6) hx hb dX9_layFarthest_68 (by decide) ?_
      refine lv_icmp_ge (tgt := 99) hx hb dX9_layFarthest_70 (by decide) (fun c70 => ?_) (fun c70 => ?_)
      · have hf := if_of c70 hf
        exact J99 x3 x5 x6 _ _ _ _ hf hw (lv_sub hl [0, 1, 2, 3, 4, 5, 6] rfl)
      · have hf := if_no c70 hf
        refine lv_iload hx hb dX9_layFarthest_73 (lv_at hl 6 rfl) ?_
        refine lv_iload_n hx hb dX9_layFarthest_75 rfl (lv_at hl 3 rfl) ?_
        refine lv_icmp_le (tgt := 99) hx hb dX9_layFarthest_76 (by decide) (fun c76 => ?_) (fun c76 => ?_)
        · have hf := if_of c76 hf
          exact J99 x3 x5 x6 _ _ _ _ hf hw (lv_sub hl [0, 1, 2, 3, 4, 5, 6] rfl)
        · have hf := if_no c76 hf
          refine lv_aload_n hx hb dX9_layFarthest_79 rfl (lv_at hl 0 rfl) ?_
          obtain ⟨hF80, hT80, ha80, hN80⟩ := ft_9_25 hn ha_a hT_a
          refine sg_getf (q := (a + 18)) hc hw ha_a hT_a fr_9_25 (by decide) k_898 dX9_layFarthest_80 hF80 ?_
          refine lv_iload hx hb dX9_layFarthest_83 (lv_at hl 7 rfl) ?_
          refine lv_aload_n hx hb dX9_layFarthest_85 rfl (lv_at hl 0 rfl) ?_
          obtain ⟨hF86, hT86, ha86, hN86⟩ := ft_9_24 hn ha_a hT_a
          refine sg_getf (q := (a + 17)) hc hw ha_a hT_a fr_9_24 (by decide) k_897 dX9_layFarthest_86 hF86 ?_
          refine lv_iload hx hb dX9_layFarthest_89 (lv_at hl 7 rfl) ?_
          obtain ⟨hg91, hf⟩ := gd_of hf
          refine sg_ild hc hw ha86 hT86 hN86 hg91 dX9_layFarthest_91 ?_
          obtain ⟨hg92, hf⟩ := gd_of hf
          refine sg_ist hc hw ha80 hT80 hN80 hg92 dX9_layFarthest_92 (fun H locs hw => ?_)
          obtain ⟨h92, hw, hf⟩ := sg_name hw hf
          refine lv_iinc (v := (x7 + 1)) (lv' := [(7, .int (x7 + 1)), (0, .ref (b + a)), (1, .int x1), (2, .int x2), (3, .int x3), (4, .int x4), (5, .int x5), (6, .int x6)]) hx hb dX9_layFarthest_93 hl (k := 7) rfl rfl (by decide) rfl (fun ls hl => ?_)
          refine lv_goto (tgt := 66) hx hb dX9_layFarthest_96 (by decide) ?_
          exact hrc66 _ hf _ _ _ hw (lv_sub hl [1, 2, 3, 4, 5, 6, 7, 0] rfl)
    have J61 : ∀ (x3 : Int32) (x5 : Int32) (s0 : Int32) (h : HP) (H : Heap) (locs : List Loc) (ls : Array Slot), F_X9_layFarthest_J61 a rc35 x1 x2 x3 x4 x5 s0 h = some Rz → sg_Wo D b cA n s.heap h H locs → lv_has ls 8 [(0, .ref (b + a)), (1, .int x1), (2, .int x2), (3, .int x3), (4, .int x4), (5, .int x5)] → W p l e R s m args below meth c H locs 0 0 (sg_Qi below args s D b cA n (fun r u => r = Rz.1 ∧ u = Rz.2)) (F0 m 61 ls [.int s0]) := by
      intro x3 x5 s0 h H locs ls hf hw hl
      unfold F_X9_layFarthest_J61 at hf
      refine lv_istore (lv' := [(6, .int s0), (0, .ref (b + a)), (1, .int x1), (2, .int x2), (3, .int x3), (4, .int x4), (5, .int x5)]) hx hb dX9_layFarthest_61 hl (by decide) rfl (fun ls hl => ?_)
      refine lv_iconst (v := 0) hx hb dX9_layFarthest_63 (by decide) ?_
      refine lv_istore (lv' := [(7, .int 0), (6, .int s0), (0, .ref (b + a)), (1, .int x1), (2, .int x2), (3, .int x3), (4, .int x4), (5, .int x5)]) hx hb dX9_layFarthest_64 hl (by decide) rfl (fun ls hl => ?_)
      exact L66 x3 x5 s0 _ _ hf _ _ _ hw (lv_sub hl [2, 3, 4, 5, 6, 7, 1, 0] rfl)
    refine lv_iload hx hb dX9_layFarthest_35 (lv_at hl 5 rfl) ?_
    refine lv_iload hx hb dX9_layFarthest_37 (lv_at hl 4 rfl) ?_
    refine lv_icmp_ge (tgt := 118) hx hb dX9_layFarthest_39 (by decide) (fun c39 => ?_) (fun c39 => ?_)
    · have hf := if_of c39 hf
      refine lv_iload_n hx hb dX9_layFarthest_118 rfl (lv_at hl 3 rfl) ?_
      cases hf
      exact sg_iret hc hw hz hn0 hr hlocks ⟨rfl, rfl⟩ dX9_layFarthest_119
    · have hf := if_no c39 hf
      refine lv_aload_n hx hb dX9_layFarthest_42 rfl (lv_at hl 0 rfl) ?_
      refine lv_iload hx hb dX9_layFarthest_43 (lv_at hl 5 rfl) ?_
      obtain ⟨p45, hp45, hf⟩ := cl_of hf
      refine sg_vi (rest := []) (c_X9_layOrder hn ha_a hT_a hp45) hc hw hz hml hl ha_a hT_a (by decide) rfl cv_X9_248 ⟨⟨rfl, rfl⟩, Nat.le_trans (Nat.le_of_ble_eq_true rfl) hRf, Nat.le_trans (Nat.le_of_ble_eq_true rfl) hRl⟩ ⟨Nat.zero_le _, Nat.zero_le _⟩ rfl rfl (Nat.le_of_ble_eq_true rfl) dX9_layFarthest_45 (fun r h1 H locs hp hw => ?_)
      obtain ⟨⟨e1, e2⟩, hb45⟩ := hp; subst r; subst h1
      refine lv_if_eq (tgt := 60) hx hb dX9_layFarthest_48 (by decide) (fun c48 => ?_) (fun c48 => ?_)
      · have hf := if_of c48 hf
        refine lv_iconst (v := (-1)) hx hb dX9_layFarthest_60 (by decide) ?_
        exact J61 x3 x5 (-1) _ _ _ _ hf hw (lv_sub hl [0, 1, 2, 3, 4, 5] rfl)
      · have hf := if_no c48 hf
        refine lv_aload_n hx hb dX9_layFarthest_51 rfl (lv_at hl 0 rfl) ?_
        refine lv_iload_n hx hb dX9_layFarthest_52 rfl (lv_at hl 1 rfl) ?_
        refine lv_iload_n hx hb dX9_layFarthest_53 rfl (lv_at hl 2 rfl) ?_
        obtain ⟨p54, hp54, hf⟩ := cl_of hf
        refine sg_vi (rest := []) (c_X9_comesTo hn ha_a hT_a hp54) hc hw hz hml hl ha_a hT_a (by decide) rfl cv_X9_251 ⟨⟨rfl, rfl⟩, Nat.le_trans (Nat.le_of_ble_eq_true rfl) hRf, Nat.le_trans (Nat.le_of_ble_eq_true rfl) hRl⟩ ⟨Nat.zero_le _, Nat.zero_le _⟩ rfl rfl (Nat.le_of_ble_eq_true rfl) dX9_layFarthest_54 (fun r h1 H locs hp hw => ?_)
        obtain ⟨e1, e2⟩ := hp; subst r; subst h1
        refine lv_goto (tgt := 61) hx hb dX9_layFarthest_57 (by decide) ?_
        exact J61 x3 x5 p54 _ _ _ _ hf hw (lv_sub hl [0, 1, 2, 3, 4, 5] rfl)
  have J32 : ∀ (x3 : Int32) (x4 : Int32) (h : HP) (H : Heap) (locs : List Loc) (ls : Array Slot), F_X9_layFarthest_J32 a x1 x2 x3 x4 h = some Rz → sg_Wo D b cA n s.heap h H locs → lv_has ls 8 [(0, .ref (b + a)), (1, .int x1), (2, .int x2), (3, .int x3), (4, .int x4)] → W p l e R s m args below meth c H locs 0 0 (sg_Qi below args s D b cA n (fun r u => r = Rz.1 ∧ u = Rz.2)) (F0 m 32 ls []) := by
    intro x3 x4 h H locs ls hf hw hl
    unfold F_X9_layFarthest_J32 at hf
    refine lv_iconst (v := 0) hx hb dX9_layFarthest_32 (by decide) ?_
    refine lv_istore (lv' := [(5, .int 0), (0, .ref (b + a)), (1, .int x1), (2, .int x2), (3, .int x3), (4, .int x4)]) hx hb dX9_layFarthest_33 hl (by decide) rfl (fun ls hl => ?_)
    exact L35 x4 _ _ hf _ _ _ hw (lv_sub hl [1, 2, 3, 4, 5, 0] rfl)
  have L8 : ∀ (x3 : Int32) (h : HP) (k : Nat) (x : (Int32 × Int32)), F_X9_layFarthest_L8 a x1 x2 x3 h k x = some Rz → ∀ (H : Heap) (locs : List Loc) (ls : Array Slot), sg_Wo D b cA n s.heap h H locs → lv_has ls 8 [(0, .ref (b + a)), (1, .int x1), (2, .int x2), (3, .int x3), (4, .int x.1), (5, .int x.2)] → W p l e R s m args below meth c H locs 0 0 (sg_Qi below args s D b cA n (fun r u => r = Rz.1 ∧ u = Rz.2)) (F0 m 8 ls []) := by
    intro x3 h
    unfold F_X9_layFarthest_L8
    refine lp_walk ?_
    intro rc8 hrc8 x hf H locs ls hw hl
    obtain ⟨x4, x5⟩ := x
    dsimp only at hf hw hl
    refine lv_iload hx hb dX9_layFarthest_8 (lv_at hl 5 rfl) ?_
    refine lv_aload_n hx hb dX9_layFarthest_10 rfl (lv_at hl 0 rfl) ?_
    obtain ⟨hF11, hT11, ha11, hN11⟩ := ft_9_0 hn ha_a hT_a
    refine sg_getf (q := (a + 1)) hc hw ha_a hT_a fr_9_0 (by decide) k_873 dX9_layFarthest_11 hF11 ?_
    refine lv_iconst (v := 1) hx hb dX9_layFarthest_14 (by decide) ?_
    refine sg_ild hc hw ha11 hT11 hN11 (show vp_in 1 34 by unfold vp_in; decide) dX9_layFarthest_15 ?_
    refine lv_icmp_ge (tgt := 32) hx hb dX9_layFarthest_16 (by decide) (fun c16 => ?_) (fun c16 => ?_)
    · have hf := if_of c16 hf
      exact J32 x3 x4 _ _ _ _ hf hw (lv_sub hl [0, 1, 2, 3, 4] rfl)
    · have hf := if_no c16 hf
      refine lv_iload hx hb dX9_layFarthest_19 (lv_at hl 4 rfl) ?_
      refine lv_bipush (v := 6) hx hb dX9_layFarthest_21 (by decide) ?_
      refine lv_imul hx hb dX9_layFarthest_23 ?_
      refine lv_topi (fun v24 e24 => ?_)
      have hf := nm_of e24 hf
      refine lv_istore (lv' := [(4, .int v24), (0, .ref (b + a)), (1, .int x1), (2, .int x2), (3, .int x3), (5, .int x5)]) hx hb dX9_layFarthest_24 hl (by decide) rfl (fun ls hl => ?_)
      refine lv_iinc (v := (x5 + 1)) (lv' := [(5, .int (x5 + 1)), (4, .int v24), (0, .ref (b + a)), (1, .int x1), (2, .int x2), (3, .int x3)]) hx hb dX9_layFarthest_26 hl (k := 5) rfl rfl (by decide) rfl (fun ls hl => ?_)
      refine lv_goto (tgt := 8) hx hb dX9_layFarthest_29 (by decide) ?_
      exact hrc8 _ hf _ _ _ hw (lv_sub hl [2, 3, 4, 5, 1, 0] rfl)
  unfold F_X9_layFarthest at hf
  refine lv_iconst (v := (-1)) hx hb dX9_layFarthest_0 (by decide) ?_
  refine lv_istore_n (lv' := [(3, .int (-1)), (0, .ref (b + a)), (1, .int x1), (2, .int x2)]) hx hb dX9_layFarthest_1 rfl hl (by decide) rfl (fun ls hl => ?_)
  refine lv_iconst (v := 1) hx hb dX9_layFarthest_2 (by decide) ?_
  refine lv_istore (lv' := [(4, .int 1), (3, .int (-1)), (0, .ref (b + a)), (1, .int x1), (2, .int x2)]) hx hb dX9_layFarthest_3 hl (by decide) rfl (fun ls hl => ?_)
  refine lv_iconst (v := 0) hx hb dX9_layFarthest_5 (by decide) ?_
  refine lv_istore (lv' := [(5, .int 0), (4, .int 1), (3, .int (-1)), (0, .ref (b + a)), (1, .int x1), (2, .int x2)]) hx hb dX9_layFarthest_6 hl (by decide) rfl (fun ls hl => ?_)
  exact L8 (-1) _ _ _ hf _ _ _ hw (lv_sub hl [3, 4, 5, 2, 1, 0] rfl)
theorem c_X9_layFarthest {l : Launch} {D : va_G} {cA : Nat → ClassId} {b n : Nat} (hn : sg_okN n) {a : Nat} {x1 : Int32} {x2 : Int32} (ha_a : a < n) (hT_a : sg_T a = 9) {h : HP} {Rz : Int32 × HP} (hf : F_X9_layFarthest a x1 x2 h = some Rz) : Met l yX9_layFarthest (Cond.code yX9_layFarthest cX9_layFarthest 8 (some .int) :: sg_tbl) ({ frames := 4, cells := 0, slots := 0, locals := 99 } : Room) (va_Pc [.ref (b + a), .int x1, .int x2] (sg_Wd D b cA n h)) (va_Qi (fun r u => r = Rz.1 ∧ u = Rz.2) (sg_Wd D b cA n) (sg_A b)) 0 0 (sg_A b) := by
  refine Met.ofW (cc := cX9_layFarthest) (maxL := 8) (ret := (some .int)) (by decide) rfl ?_
  intro p e s m args below meth c s₁ B hml hv
  obtain ⟨rfl, hP, hK, hz, hY, hN⟩ := hv
  have hl := lv_entry [.ref (b + a), .int x1, .int x2] (n := 8) (Nat.le_of_ble_eq_true rfl)
  rw [lg_entry_eq]
  exact w_X9_layFarthest hn ⟨B.exec, B.bytes, findClass_of_methodNamed B.named, fun w h => atoms_spec (ws := Cond.code yX9_layFarthest cX9_layFarthest 8 (some .int) :: sg_tbl) B.pre w (List.mem_cons_of_mem _ h), hK, hN⟩ hz B.returns B.notSynchronized hml (Nat.le_refl _) (Nat.le_refl _) ha_a hT_a hf _ _ _ ⟨hP, hY, va_S.rf⟩ hl
set_option maxHeartbeats 4000000 in
set_option maxRecDepth 100000 in
theorem w_X9_far {p : Program} {l : Launch} {e : Env} {R : Room} {s : State} {m : MethodId} {args : Array Value} {below : List Frame} {meth : Method} {c : Code} {D : va_G} {cA : Nat → ClassId} {b n : Nat} (hn : sg_okN n) {a : Nat} {x1 : Int32} {h : HP} {Rz : Int32 × HP} (hc : sg_Cx p s m args c cX9_far RX9 D cA) (hz : s.heap.size = b + n) (hr : meth.sig.returnType = some .int) (hlocks : meth.locks = false) (hml : c.maxLocals = 3) (hRf : 5 ≤ R.frames) (hRl : 126 ≤ R.locals) (ha_a : a < n) (hT_a : sg_T a = 9) (hf : F_X9_far a x1 h = some Rz) (H : Heap) (locs : List Loc) (ls : Array Slot) (hw : sg_Wo D b cA n s.heap h H locs) (hl : lv_has ls 3 [(0, .ref (b + a)), (1, .int x1)]) : W p l e R s m args below meth c H locs 0 0 (sg_Qi below args s D b cA n (fun r u => r = Rz.1 ∧ u = Rz.2)) (F0 m 0 ls []) := by
  have hx := hc.1
  have hb := hc.2.1
  have hn0 : 0 < n := sg_pos hn
  unfold F_X9_far at hf
  refine lv_iload_n hx hb dX9_far_0 rfl (lv_at hl 1 rfl) ?_
  refine lv_i2l hx hb dX9_far_1 rfl ?_
  refine lv_ldc2 hx hb hc.2.2.1 (hc.2.2.2.1 _ k_1148) dX9_far_2 ?_
  refine lv_aload_n hx hb dX9_far_5 rfl (lv_at hl 0 rfl) ?_
  obtain ⟨hF6, hT6, ha6, hN6⟩ := ft_9_0 hn ha_a hT_a
  refine sg_getf (q := (a + 1)) hc hw ha_a hT_a fr_9_0 (by decide) k_873 dX9_far_6 hF6 ?_
  refine lv_iconst (v := 1) hx hb dX9_far_9 (by decide) ?_
  refine sg_ild hc hw ha6 hT6 hN6 (show vp_in 1 34 by unfold vp_in; decide) dX9_far_10 ?_
  refine lv_iconst (v := 1) hx hb dX9_far_11 (by decide) ?_
  refine lv_isub hx hb dX9_far_12 ?_
  refine lv_i2l hx hb dX9_far_13 rfl ?_
  obtain ⟨p14, hp14, hf⟩ := cl_of hf
  refine sg_si (rest := []) (c_X9_in hn (h := h) hp14) hc hw hz hn0 hml hl cs_X9_87 ⟨⟨rfl, rfl⟩, Nat.le_trans (Nat.le_of_ble_eq_true rfl) hRf, Nat.le_trans (Nat.le_of_ble_eq_true rfl) hRl⟩ ⟨Nat.zero_le _, Nat.zero_le _⟩ rfl rfl (Nat.le_of_ble_eq_true rfl) dX9_far_14 (fun r h1 H locs hp hw => ?_)
  obtain ⟨⟨e1, e2⟩, hb14⟩ := hp; subst r; subst h1
  refine lv_if_ne (tgt := 22) hx hb dX9_far_17 (by decide) (fun c17 => ?_) (fun c17 => ?_)
  · have hf := if_no c17 hf
    refine lv_aload_n hx hb dX9_far_22 rfl (lv_at hl 0 rfl) ?_
    refine lv_iconst (v := (-1)) hx hb dX9_far_23 (by decide) ?_
    refine lv_iconst (v := 0) hx hb dX9_far_24 (by decide) ?_
    obtain ⟨p25, hp25, hf⟩ := cl_of hf
    refine sg_vi (rest := []) (c_X9_layFarthest hn ha_a hT_a hp25) hc hw hz hml hl ha_a hT_a (by decide) rfl cv_X9_257 ⟨⟨rfl, rfl⟩, Nat.le_trans (Nat.le_of_ble_eq_true rfl) hRf, Nat.le_trans (Nat.le_of_ble_eq_true rfl) hRl⟩ ⟨Nat.zero_le _, Nat.zero_le _⟩ rfl rfl (Nat.le_of_ble_eq_true rfl) dX9_far_25 (fun r h1 H locs hp hw => ?_)
    obtain ⟨e1, e2⟩ := hp; subst r; subst h1
    refine lv_istore_n (lv' := [(2, .int p25.1), (0, .ref (b + a)), (1, .int x1)]) hx hb dX9_far_28 rfl hl (by decide) rfl (fun ls hl => ?_)
    refine lv_iload_n hx hb dX9_far_29 rfl (lv_at hl 2 rfl) ?_
    refine lv_if_ge (tgt := 37) hx hb dX9_far_30 (by decide) (fun c30 => ?_) (fun c30 => ?_)
    · have hf := if_of c30 hf
      refine lv_aload_n hx hb dX9_far_37 rfl (lv_at hl 1 rfl) ?_
      obtain ⟨hF38, hT38, ha38, hN38⟩ := ft_9_25 hn ha_a hT_a
      refine sg_getf (q := (a + 18)) hc hw ha_a hT_a fr_9_25 (by decide) k_898 dX9_far_38 hF38 ?_
      refine lv_iload_n hx hb dX9_far_41 rfl (lv_at hl 2 rfl) ?_
      obtain ⟨hg42, hf⟩ := gd_of hf
      refine sg_ild hc hw ha38 hT38 hN38 hg42 dX9_far_42 ?_
      cases hf
      exact sg_iret hc hw hz hn0 hr hlocks ⟨rfl, rfl⟩ dX9_far_43
    · have hf := if_no c30 hf
      refine lv_iload_n hx hb dX9_far_33 rfl (lv_at hl 0 rfl) ?_
      refine lv_goto (tgt := 43) hx hb dX9_far_34 (by decide) ?_
      cases hf
      exact sg_iret hc hw hz hn0 hr hlocks ⟨rfl, rfl⟩ dX9_far_43
  · have hf := if_of c17 hf
    refine lv_iconst (v := (-1)) hx hb dX9_far_20 (by decide) ?_
    cases hf
    exact sg_iret hc hw hz hn0 hr hlocks ⟨rfl, rfl⟩ dX9_far_21
theorem c_X9_far {l : Launch} {D : va_G} {cA : Nat → ClassId} {b n : Nat} (hn : sg_okN n) {a : Nat} {x1 : Int32} (ha_a : a < n) (hT_a : sg_T a = 9) {h : HP} {Rz : Int32 × HP} (hf : F_X9_far a x1 h = some Rz) : Met l yX9_far (Cond.code yX9_far cX9_far 3 (some .int) :: sg_tbl) ({ frames := 5, cells := 0, slots := 0, locals := 126 } : Room) (va_Pc [.ref (b + a), .int x1] (sg_Wd D b cA n h)) (va_Qi (fun r u => r = Rz.1 ∧ u = Rz.2) (sg_Wd D b cA n) (sg_A b)) 0 0 (sg_A b) := by
  refine Met.ofW (cc := cX9_far) (maxL := 3) (ret := (some .int)) (by decide) rfl ?_
  intro p e s m args below meth c s₁ B hml hv
  obtain ⟨rfl, hP, hK, hz, hY, hN⟩ := hv
  have hl := lv_entry [.ref (b + a), .int x1] (n := 3) (Nat.le_of_ble_eq_true rfl)
  rw [lg_entry_eq]
  exact w_X9_far hn ⟨B.exec, B.bytes, findClass_of_methodNamed B.named, fun w h => atoms_spec (ws := Cond.code yX9_far cX9_far 3 (some .int) :: sg_tbl) B.pre w (List.mem_cons_of_mem _ h), hK, hN⟩ hz B.returns B.notSynchronized hml (Nat.le_refl _) (Nat.le_refl _) ha_a hT_a hf _ _ _ ⟨hP, hY, va_S.rf⟩ hl
set_option maxHeartbeats 4000000 in
set_option maxRecDepth 100000 in
theorem w_X9_son {p : Program} {l : Launch} {e : Env} {R : Room} {s : State} {m : MethodId} {args : Array Value} {below : List Frame} {meth : Method} {c : Code} {D : va_G} {cA : Nat → ClassId} {b n : Nat} (hn : sg_okN n) {a : Nat} {x1 : Int32} {x2 : Int32} {h : HP} {Rz : Int32 × HP} (hc : sg_Cx p s m args c cX9_son RX9 D cA) (hz : s.heap.size = b + n) (hr : meth.sig.returnType = some .int) (hlocks : meth.locks = false) (hml : c.maxLocals = 3) (hRf : 5 ≤ R.frames) (hRl : 126 ≤ R.locals) (ha_a : a < n) (hT_a : sg_T a = 9) (hf : F_X9_son a x1 x2 h = some Rz) (H : Heap) (locs : List Loc) (ls : Array Slot) (hw : sg_Wo D b cA n s.heap h H locs) (hl : lv_has ls 3 [(0, .ref (b + a)), (1, .int x1), (2, .int x2)]) : W p l e R s m args below meth c H locs 0 0 (sg_Qi below args s D b cA n (fun r u => r = Rz.1 ∧ u = Rz.2)) (F0 m 0 ls []) := by
  have hx := hc.1
  have hb := hc.2.1
  have hn0 : 0 < n := sg_pos hn
  unfold F_X9_son at hf
  refine lv_aload_n hx hb dX9_son_0 rfl (lv_at hl 0 rfl) ?_
  refine lv_iload_n hx hb dX9_son_1 rfl (lv_at hl 1 rfl) ?_
  obtain ⟨p2, hp2, hf⟩ := cl_of hf
  refine sg_vi (rest := []) (c_X9_isBearer hn ha_a hT_a hp2) hc hw hz hml hl ha_a hT_a (by decide) rfl cv_X9_220 ⟨⟨rfl, rfl⟩, Nat.le_trans (Nat.le_of_ble_eq_true rfl) hRf, Nat.le_trans (Nat.le_of_ble_eq_true rfl) hRl⟩ ⟨Nat.zero_le _, Nat.zero_le _⟩ rfl rfl (Nat.le_of_ble_eq_true rfl) dX9_son_2 (fun r h1 H locs hp hw => ?_)
  obtain ⟨⟨e1, e2⟩, hb2⟩ := hp; subst r; subst h1
  refine lv_if_eq (tgt := 20) hx hb dX9_son_5 (by decide) (fun c5 => ?_) (fun c5 => ?_)
  · have hf := if_of c5 hf
    refine lv_iconst (v := (-1)) hx hb dX9_son_20 (by decide) ?_
    cases hf
    exact sg_iret hc hw hz hn0 hr hlocks ⟨rfl, rfl⟩ dX9_son_21
  · have hf := if_no c5 hf
    refine lv_iload_n hx hb dX9_son_8 rfl (lv_at hl 2 rfl) ?_
    refine lv_i2l hx hb dX9_son_9 rfl ?_
    refine lv_lconst (v := 0) hx hb dX9_son_10 (by decide) ?_
    refine lv_ldc2 hx hb hc.2.2.1 (hc.2.2.2.1 _ k_1165) dX9_son_11 ?_
    obtain ⟨p14, hp14, hf⟩ := cl_of hf
    refine sg_si (rest := []) (c_X9_in hn (h := h) hp14) hc hw hz hn0 hml hl cs_X9_87 ⟨⟨rfl, rfl⟩, Nat.le_trans (Nat.le_of_ble_eq_true rfl) hRf, Nat.le_trans (Nat.le_of_ble_eq_true rfl) hRl⟩ ⟨Nat.zero_le _, Nat.zero_le _⟩ rfl rfl (Nat.le_of_ble_eq_true rfl) dX9_son_14 (fun r h1 H locs hp hw => ?_)
    obtain ⟨⟨e1, e2⟩, hb14⟩ := hp; subst r; subst h1
    refine lv_if_ne (tgt := 22) hx hb dX9_son_17 (by decide) (fun c17 => ?_) (fun c17 => ?_)
    · have hf := if_no c17 hf
      refine lv_aload_n hx hb dX9_son_22 rfl (lv_at hl 0 rfl) ?_
      refine lv_iload_n hx hb dX9_son_23 rfl (lv_at hl 1 rfl) ?_
      refine lv_iload_n hx hb dX9_son_24 rfl (lv_at hl 2 rfl) ?_
      obtain ⟨p25, hp25, hf⟩ := cl_of hf
      refine sg_vi (rest := []) (c_X9_layFarthest hn ha_a hT_a hp25) hc hw hz hml hl ha_a hT_a (by decide) rfl cv_X9_257 ⟨⟨rfl, rfl⟩, Nat.le_trans (Nat.le_of_ble_eq_true rfl) hRf, Nat.le_trans (Nat.le_of_ble_eq_true rfl) hRl⟩ ⟨Nat.zero_le _, Nat.zero_le _⟩ rfl rfl (Nat.le_of_ble_eq_true rfl) dX9_son_25 (fun r h1 H locs hp hw => ?_)
      obtain ⟨e1, e2⟩ := hp; subst r; subst h1
      refine lv_aload_n hx hb dX9_son_28 rfl (lv_at hl 0 rfl) ?_
      refine lv_iconst (v := (-1)) hx hb dX9_son_29 (by decide) ?_
      refine lv_iconst (v := 0) hx hb dX9_son_30 (by decide) ?_
      obtain ⟨p31, hp31, hf⟩ := cl_of hf
      refine sg_vi (rest := [.int p25.1]) (c_X9_layFarthest hn ha_a hT_a hp31) hc hw hz hml hl ha_a hT_a (by decide) rfl cv_X9_257 ⟨⟨rfl, rfl⟩, Nat.le_trans (Nat.le_of_ble_eq_true rfl) hRf, Nat.le_trans (Nat.le_of_ble_eq_true rfl) hRl⟩ ⟨Nat.zero_le _, Nat.zero_le _⟩ rfl rfl (Nat.le_of_ble_eq_true rfl) dX9_son_31 (fun r h1 H locs hp hw => ?_)
      obtain ⟨e1, e2⟩ := hp; subst r; subst h1
      refine lv_isub hx hb dX9_son_34 ?_
      cases hf
      exact sg_iret hc hw hz hn0 hr hlocks ⟨rfl, rfl⟩ dX9_son_35
    · have hf := if_of c17 hf
      refine lv_iconst (v := (-1)) hx hb dX9_son_20 (by decide) ?_
      cases hf
      exact sg_iret hc hw hz hn0 hr hlocks ⟨rfl, rfl⟩ dX9_son_21
theorem c_X9_son {l : Launch} {D : va_G} {cA : Nat → ClassId} {b n : Nat} (hn : sg_okN n) {a : Nat} {x1 : Int32} {x2 : Int32} (ha_a : a < n) (hT_a : sg_T a = 9) {h : HP} {Rz : Int32 × HP} (hf : F_X9_son a x1 x2 h = some Rz) : Met l yX9_son (Cond.code yX9_son cX9_son 3 (some .int) :: sg_tbl) ({ frames := 5, cells := 0, slots := 0, locals := 126 } : Room) (va_Pc [.ref (b + a), .int x1, .int x2] (sg_Wd D b cA n h)) (va_Qi (fun r u => r = Rz.1 ∧ u = Rz.2) (sg_Wd D b cA n) (sg_A b)) 0 0 (sg_A b) := by
  refine Met.ofW (cc := cX9_son) (maxL := 3) (ret := (some .int)) (by decide) rfl ?_
  intro p e s m args below meth c s₁ B hml hv
  obtain ⟨rfl, hP, hK, hz, hY, hN⟩ := hv
  have hl := lv_entry [.ref (b + a), .int x1, .int x2] (n := 3) (Nat.le_of_ble_eq_true rfl)
  rw [lg_entry_eq]
  exact w_X9_son hn ⟨B.exec, B.bytes, findClass_of_methodNamed B.named, fun w h => atoms_spec (ws := Cond.code yX9_son cX9_son 3 (some .int) :: sg_tbl) B.pre w (List.mem_cons_of_mem _ h), hK, hN⟩ hz B.returns B.notSynchronized hml (Nat.le_refl _) (Nat.le_refl _) ha_a hT_a hf _ _ _ ⟨hP, hY, va_S.rf⟩ hl
set_option maxHeartbeats 4000000 in
set_option maxRecDepth 100000 in
theorem w_X9_cairn {p : Program} {l : Launch} {e : Env} {R : Room} {s : State} {m : MethodId} {args : Array Value} {below : List Frame} {meth : Method} {c : Code} {D : va_G} {cA : Nat → ClassId} {b n : Nat} (hn : sg_okN n) {a : Nat} {x1 : Int32} {x2 : Int32} {x3 : Int32} {h : HP} {Rz : Int32 × HP} (hc : sg_Cx p s m args c cX9_cairn RX9 D cA) (hz : s.heap.size = b + n) (hr : meth.sig.returnType = some .int) (hlocks : meth.locks = false) (hml : c.maxLocals = 5) (hRf : 5 ≤ R.frames) (hRl : 122 ≤ R.locals) (ha_a : a < n) (hT_a : sg_T a = 9) (hf : F_X9_cairn a x1 x2 x3 h = some Rz) (H : Heap) (locs : List Loc) (ls : Array Slot) (hw : sg_Wo D b cA n s.heap h H locs) (hl : lv_has ls 5 [(0, .ref (b + a)), (1, .int x1), (2, .int x2), (3, .int x3)]) : W p l e R s m args below meth c H locs 0 0 (sg_Qi below args s D b cA n (fun r u => r = Rz.1 ∧ u = Rz.2)) (F0 m 0 ls []) := by
  have hx := hc.1
  have hb := hc.2.1
  have hn0 : 0 < n := sg_pos hn
  unfold F_X9_cairn at hf
  refine lv_aload_n hx hb dX9_cairn_0 rfl (lv_at hl 0 rfl) ?_
  refine lv_iload_n hx hb dX9_cairn_1 rfl (lv_at hl 1 rfl) ?_
  obtain ⟨p2, hp2, hf⟩ := cl_of hf
  refine sg_vi (rest := []) (c_X9_isBearer hn ha_a hT_a hp2) hc hw hz hml hl ha_a hT_a (by decide) rfl cv_X9_220 ⟨⟨rfl, rfl⟩, Nat.le_trans (Nat.le_of_ble_eq_true rfl) hRf, Nat.le_trans (Nat.le_of_ble_eq_true rfl) hRl⟩ ⟨Nat.zero_le _, Nat.zero_le _⟩ rfl rfl (Nat.le_of_ble_eq_true rfl) dX9_cairn_2 (fun r h1 H locs hp hw => ?_)
  obtain ⟨⟨e1, e2⟩, hb2⟩ := hp; subst r; subst h1
  refine lv_if_eq (tgt := 44) hx hb dX9_cairn_5 (by decide) (fun c5 => ?_) (fun c5 => ?_)
  · have hf := if_of c5 hf
    refine lv_iconst (v := (-1)) hx hb dX9_cairn_44 (by decide) ?_
    cases hf
    exact sg_iret hc hw hz hn0 hr hlocks ⟨rfl, rfl⟩ dX9_cairn_45
  · have hf := if_no c5 hf
    refine lv_iload_n hx hb dX9_cairn_8 rfl (lv_at hl 2 rfl) ?_
    refine lv_i2l hx hb dX9_cairn_9 rfl ?_
    refine lv_lconst (v := 0) hx hb dX9_cairn_10 (by decide) ?_
    refine lv_aload_n hx hb dX9_cairn_11 rfl (lv_at hl 0 rfl) ?_
    obtain ⟨hF12, hT12, ha12, hN12⟩ := ft_9_0 hn ha_a hT_a
    refine sg_getf (q := (a + 1)) hc hw ha_a hT_a fr_9_0 (by decide) k_873 dX9_cairn_12 hF12 ?_
    refine lv_iconst (v := 0) hx hb dX9_cairn_15 (by decide) ?_
    refine sg_ild hc hw ha12 hT12 hN12 (show vp_in 0 34 by unfold vp_in; decide) dX9_cairn_16 ?_
    refine lv_iconst (v := 1) hx hb dX9_cairn_17 (by decide) ?_
    refine lv_isub hx hb dX9_cairn_18 ?_
    refine lv_i2l hx hb dX9_cairn_19 rfl ?_
    obtain ⟨p20, hp20, hf⟩ := cl_of hf
    refine sg_si (rest := []) (c_X9_in hn (h := h) hp20) hc hw hz hn0 hml hl cs_X9_87 ⟨⟨rfl, rfl⟩, Nat.le_trans (Nat.le_of_ble_eq_true rfl) hRf, Nat.le_trans (Nat.le_of_ble_eq_true rfl) hRl⟩ ⟨Nat.zero_le _, Nat.zero_le _⟩ rfl rfl (Nat.le_of_ble_eq_true rfl) dX9_cairn_20 (fun r h1 H locs hp hw => ?_)
    obtain ⟨⟨e1, e2⟩, hb20⟩ := hp; subst r; subst h1
    refine lv_if_eq (tgt := 44) hx hb dX9_cairn_23 (by decide) (fun c23 => ?_) (fun c23 => ?_)
    · have hf := if_of c23 hf
      refine lv_iconst (v := (-1)) hx hb dX9_cairn_44 (by decide) ?_
      cases hf
      exact sg_iret hc hw hz hn0 hr hlocks ⟨rfl, rfl⟩ dX9_cairn_45
    · have hf := if_no c23 hf
      refine lv_iload_n hx hb dX9_cairn_26 rfl (lv_at hl 3 rfl) ?_
      refine lv_i2l hx hb dX9_cairn_27 rfl ?_
      refine lv_ldc2 hx hb hc.2.2.1 (hc.2.2.2.1 _ k_1170) dX9_cairn_28 ?_
      refine lv_ldc2 hx hb hc.2.2.1 (hc.2.2.2.1 _ k_1171) dX9_cairn_31 ?_
      obtain ⟨p34, hp34, hf⟩ := cl_of hf
      refine sg_si (rest := []) (c_X9_in hn (h := h) hp34) hc hw hz hn0 hml hl cs_X9_87 ⟨⟨rfl, rfl⟩, Nat.le_trans (Nat.le_of_ble_eq_true rfl) hRf, Nat.le_trans (Nat.le_of_ble_eq_true rfl) hRl⟩ ⟨Nat.zero_le _, Nat.zero_le _⟩ rfl rfl (Nat.le_of_ble_eq_true rfl) dX9_cairn_34 (fun r h1 H locs hp hw => ?_)
      obtain ⟨⟨e1, e2⟩, hb34⟩ := hp; subst r; subst h1
      refine lv_if_eq (tgt := 44) hx hb dX9_cairn_37 (by decide) (fun c37 => ?_) (fun c37 => ?_)
      · have hf := if_of c37 hf
        refine lv_iconst (v := (-1)) hx hb dX9_cairn_44 (by decide) ?_
        cases hf
        exact sg_iret hc hw hz hn0 hr hlocks ⟨rfl, rfl⟩ dX9_cairn_45
      · have hf := if_no c37 hf
        refine lv_iload_n hx hb dX9_cairn_40 rfl (lv_at hl 3 rfl) ?_
        refine lv_if_ne (tgt := 46) hx hb dX9_cairn_41 (by decide) (fun c41 => ?_) (fun c41 => ?_)
        · have hf := if_no c41 hf
          refine lv_iload_n hx hb dX9_cairn_46 rfl (lv_at hl 2 rfl) ?_
          refine lv_aload_n hx hb dX9_cairn_47 rfl (lv_at hl 0 rfl) ?_
          refine sg_getf (q := (a + 1)) hc hw ha_a hT_a fr_9_0 (by decide) k_873 dX9_cairn_48 (ft_9_0 hn ha_a hT_a).1 ?_
          refine lv_iconst (v := 0) hx hb dX9_cairn_51 (by decide) ?_
          refine sg_ild hc hw ha12 hT12 hN12 (show vp_in 0 34 by unfold vp_in; decide) dX9_cairn_52 ?_
          refine lv_iconst (v := 1) hx hb dX9_cairn_53 (by decide) ?_
          refine lv_isub hx hb dX9_cairn_54 ?_
          refine lv_icmp_eq (tgt := 88) hx hb dX9_cairn_55 (by decide) (fun c55 => ?_) (fun c55 => ?_)
          · have hf := if_of c55 hf
            refine lv_bipush (v := (-2)) hx hb dX9_cairn_88 (by decide) ?_
            cases hf
            exact sg_iret hc hw hz hn0 hr hlocks ⟨rfl, rfl⟩ dX9_cairn_90
          · have hf := if_no c55 hf
            refine lv_aload_n hx hb dX9_cairn_58 rfl (lv_at hl 0 rfl) ?_
            refine sg_getf (q := (a + 1)) hc hw ha_a hT_a fr_9_0 (by decide) k_873 dX9_cairn_59 (ft_9_0 hn ha_a hT_a).1 ?_
            refine lv_iconst (v := 4) hx hb dX9_cairn_62 (by decide) ?_
            refine lv_iload_n hx hb dX9_cairn_63 rfl (lv_at hl 2 rfl) ?_
            refine lv_iadd hx hb dX9_cairn_64 ?_
            obtain ⟨hg65, hf⟩ := gd_of hf
            refine sg_ild hc hw ha12 hT12 hN12 hg65 dX9_cairn_65 ?_
            refine lv_iload_n hx hb dX9_cairn_66 rfl (lv_at hl 3 rfl) ?_
            refine lv_iadd hx hb dX9_cairn_67 ?_
            refine lv_iconst (v := 1) hx hb dX9_cairn_68 (by decide) ?_
            refine lv_icmp_lt (tgt := 88) hx hb dX9_cairn_69 (by decide) (fun c69 => ?_) (fun c69 => ?_)
            · have hf := if_of c69 hf
              refine lv_bipush (v := (-2)) hx hb dX9_cairn_88 (by decide) ?_
              cases hf
              exact sg_iret hc hw hz hn0 hr hlocks ⟨rfl, rfl⟩ dX9_cairn_90
            · have hf := if_no c69 hf
              refine lv_aload_n hx hb dX9_cairn_72 rfl (lv_at hl 0 rfl) ?_
              refine sg_getf (q := (a + 1)) hc hw ha_a hT_a fr_9_0 (by decide) k_873 dX9_cairn_73 (ft_9_0 hn ha_a hT_a).1 ?_
              refine lv_iconst (v := 4) hx hb dX9_cairn_76 (by decide) ?_
              refine lv_iload_n hx hb dX9_cairn_77 rfl (lv_at hl 2 rfl) ?_
              refine lv_iadd hx hb dX9_cairn_78 ?_
              refine lv_iconst (v := 1) hx hb dX9_cairn_79 (by decide) ?_
              refine lv_iadd hx hb dX9_cairn_80 ?_
              obtain ⟨hg81, hf⟩ := gd_of hf
              refine sg_ild hc hw ha12 hT12 hN12 hg81 dX9_cairn_81 ?_
              refine lv_iload_n hx hb dX9_cairn_82 rfl (lv_at hl 3 rfl) ?_
              refine lv_isub hx hb dX9_cairn_83 ?_
              refine lv_iconst (v := 1) hx hb dX9_cairn_84 (by decide) ?_
              refine lv_icmp_ge (tgt := 91) hx hb dX9_cairn_85 (by decide) (fun c85 => ?_) (fun c85 => ?_)
              · have hf := if_of c85 hf
                refine lv_aload_n hx hb dX9_cairn_91 rfl (lv_at hl 0 rfl) ?_
                obtain ⟨p92, hp92, hf⟩ := cl_of hf
                refine sg_vv (rest := []) (c_X9_asItIs hn ha_a hT_a hp92) hc hw hz hml hl ha_a hT_a (by decide) rfl cv_X9_214 ⟨⟨rfl, rfl⟩, Nat.le_trans (Nat.le_of_ble_eq_true rfl) hRf, Nat.le_trans (Nat.le_of_ble_eq_true rfl) hRl⟩ ⟨Nat.zero_le _, Nat.zero_le _⟩ rfl rfl (Nat.le_of_ble_eq_true rfl) dX9_cairn_92 (fun h1 H locs hp hw => ?_)
                subst h1
                refine lv_aload_n hx hb dX9_cairn_95 rfl (lv_at hl 0 rfl) ?_
                obtain ⟨p96, hp96, hf⟩ := cl_of hf
                refine sg_vv (rest := []) (c_X9_goesUp hn ha_a hT_a hp96) hc hw hz hml hl ha_a hT_a (by decide) rfl cv_X9_217 ⟨⟨rfl, rfl⟩, Nat.le_trans (Nat.le_of_ble_eq_true rfl) hRf, Nat.le_trans (Nat.le_of_ble_eq_true rfl) hRl⟩ ⟨Nat.zero_le _, Nat.zero_le _⟩ rfl rfl (Nat.le_of_ble_eq_true rfl) dX9_cairn_96 (fun h1 H locs hp hw => ?_)
                subst h1
                refine lv_aload_n hx hb dX9_cairn_99 rfl (lv_at hl 0 rfl) ?_
                obtain ⟨hF100, hT100, ha100, hN100⟩ := ft_9_19 hn ha_a hT_a
                refine sg_getf (q := (a + 13)) hc hw ha_a hT_a fr_9_19 (by decide) k_892 dX9_cairn_100 hF100 ?_
                refine lv_iload_n hx hb dX9_cairn_103 rfl (lv_at hl 1 rfl) ?_
                obtain ⟨hg104, hf⟩ := gd_of hf
                refine sg_ild hc hw ha100 hT100 hN100 hg104 dX9_cairn_104 ?_
                refine lv_topi (fun v105 e105 => ?_)
                have hf := nm_of e105 hf
                refine lv_istore (lv' := [(4, .int v105), (0, .ref (b + a)), (1, .int x1), (2, .int x2), (3, .int x3)]) hx hb dX9_cairn_105 hl (by decide) rfl (fun ls hl => ?_)
                refine lv_aload_n hx hb dX9_cairn_107 rfl (lv_at hl 1 rfl) ?_
                obtain ⟨p108, hp108, hf⟩ := cl_of hf
                refine sg_vv (rest := []) (c_X9_asItIs hn ha_a hT_a hp108) hc hw hz hml hl ha_a hT_a (by decide) rfl cv_X9_214 ⟨⟨rfl, rfl⟩, Nat.le_trans (Nat.le_of_ble_eq_true rfl) hRf, Nat.le_trans (Nat.le_of_ble_eq_true rfl) hRl⟩ ⟨Nat.zero_le _, Nat.zero_le _⟩ rfl rfl (Nat.le_of_ble_eq_true rfl) dX9_cairn_108 (fun h1 H locs hp hw => ?_)
                subst h1
                refine lv_aload_n hx hb dX9_cairn_111 rfl (lv_at hl 1 rfl) ?_
                obtain ⟨hF112, hT112, ha112, hN112⟩ := ft_9_14 hn ha_a hT_a
                refine sg_getf (q := (a + 10)) hc hw ha_a hT_a fr_9_14 (by decide) k_887 dX9_cairn_112 hF112 ?_
                refine lv_iconst (v := 4) hx hb dX9_cairn_115 (by decide) ?_
                refine lv_iload_n hx hb dX9_cairn_116 rfl (lv_at hl 3 rfl) ?_
                refine lv_iadd hx hb dX9_cairn_117 ?_
                refine lv_dup2_11 hx hb dX9_cairn_118 rfl rfl ?_
                obtain ⟨hg119, hf⟩ := gd_of hf
                refine sg_ild hc hw ha112 hT112 hN112 hg119 dX9_cairn_119 ?_
                refine lv_iload_n hx hb dX9_cairn_120 rfl (lv_at hl 4 rfl) ?_
                refine lv_iadd hx hb dX9_cairn_121 ?_
                obtain ⟨hg122, hf⟩ := gd_of hf
                refine sg_ist hc hw ha112 hT112 hN112 hg122 dX9_cairn_122 (fun H locs hw => ?_)
                obtain ⟨h122, hw, hf⟩ := sg_name hw hf
                refine lv_aload_n hx hb dX9_cairn_123 rfl (lv_at hl 1 rfl) ?_
                refine sg_getf (q := (a + 10)) hc hw ha_a hT_a fr_9_14 (by decide) k_887 dX9_cairn_124 (ft_9_14 hn ha_a hT_a).1 ?_
                refine lv_iconst (v := 4) hx hb dX9_cairn_127 (by decide) ?_
                refine lv_iload_n hx hb dX9_cairn_128 rfl (lv_at hl 3 rfl) ?_
                refine lv_iadd hx hb dX9_cairn_129 ?_
                refine lv_iconst (v := 1) hx hb dX9_cairn_130 (by decide) ?_
                refine lv_iadd hx hb dX9_cairn_131 ?_
                refine lv_dup2_11 hx hb dX9_cairn_132 rfl rfl ?_
                obtain ⟨hg133, hf⟩ := gd_of hf
                refine sg_ild hc hw ha112 hT112 hN112 hg133 dX9_cairn_133 ?_
                refine lv_iload_n hx hb dX9_cairn_134 rfl (lv_at hl 4 rfl) ?_
                refine lv_isub hx hb dX9_cairn_135 ?_
                obtain ⟨hg136, hf⟩ := gd_of hf
                refine sg_ist hc hw ha112 hT112 hN112 hg136 dX9_cairn_136 (fun H locs hw => ?_)
                obtain ⟨h136, hw, hf⟩ := sg_name hw hf
                refine lv_aload_n hx hb dX9_cairn_137 rfl (lv_at hl 1 rfl) ?_
                obtain ⟨p138, hp138, hf⟩ := cl_of hf
                refine sg_vv (rest := []) (c_X9_goesUp hn ha_a hT_a hp138) hc hw hz hml hl ha_a hT_a (by decide) rfl cv_X9_217 ⟨⟨rfl, rfl⟩, Nat.le_trans (Nat.le_of_ble_eq_true rfl) hRf, Nat.le_trans (Nat.le_of_ble_eq_true rfl) hRl⟩ ⟨Nat.zero_le _, Nat.zero_le _⟩ rfl rfl (Nat.le_of_ble_eq_true rfl) dX9_cairn_138 (fun h1 H locs hp hw => ?_)
                subst h1
                refine lv_aload_n hx hb dX9_cairn_141 rfl (lv_at hl 1 rfl) ?_
                refine sg_getf (q := (a + 13)) hc hw ha_a hT_a fr_9_19 (by decide) k_892 dX9_cairn_142 (ft_9_19 hn ha_a hT_a).1 ?_
                refine lv_iload_n hx hb dX9_cairn_145 rfl (lv_at hl 2 rfl) ?_
                obtain ⟨hg146, hf⟩ := gd_of hf
                refine sg_ild hc hw ha100 hT100 hN100 hg146 dX9_cairn_146 ?_
                refine lv_iload hx hb dX9_cairn_147 (lv_at hl 0 rfl) ?_
                refine lv_isub hx hb dX9_cairn_149 ?_
                refine lv_sipush (v := 9999) hx hb dX9_cairn_150 (by decide) ?_
                refine lv_iadd hx hb dX9_cairn_153 ?_
                cases hf
                exact sg_iret hc hw hz hn0 hr hlocks ⟨rfl, rfl⟩ dX9_cairn_154
              · have hf := if_no c85 hf
                refine lv_bipush (v := (-2)) hx hb dX9_cairn_88 (by decide) ?_
                cases hf
                exact sg_iret hc hw hz hn0 hr hlocks ⟨rfl, rfl⟩ dX9_cairn_90
        · have hf := if_of c41 hf
          refine lv_iconst (v := (-1)) hx hb dX9_cairn_44 (by decide) ?_
          cases hf
          exact sg_iret hc hw hz hn0 hr hlocks ⟨rfl, rfl⟩ dX9_cairn_45
theorem c_X9_cairn {l : Launch} {D : va_G} {cA : Nat → ClassId} {b n : Nat} (hn : sg_okN n) {a : Nat} {x1 : Int32} {x2 : Int32} {x3 : Int32} (ha_a : a < n) (hT_a : sg_T a = 9) {h : HP} {Rz : Int32 × HP} (hf : F_X9_cairn a x1 x2 x3 h = some Rz) : Met l yX9_cairn (Cond.code yX9_cairn cX9_cairn 5 (some .int) :: sg_tbl) ({ frames := 5, cells := 0, slots := 0, locals := 122 } : Room) (va_Pc [.ref (b + a), .int x1, .int x2, .int x3] (sg_Wd D b cA n h)) (va_Qi (fun r u => r = Rz.1 ∧ u = Rz.2) (sg_Wd D b cA n) (sg_A b)) 0 0 (sg_A b) := by
  refine Met.ofW (cc := cX9_cairn) (maxL := 5) (ret := (some .int)) (by decide) rfl ?_
  intro p e s m args below meth c s₁ B hml hv
  obtain ⟨rfl, hP, hK, hz, hY, hN⟩ := hv
  have hl := lv_entry [.ref (b + a), .int x1, .int x2, .int x3] (n := 5) (Nat.le_of_ble_eq_true rfl)
  rw [lg_entry_eq]
  exact w_X9_cairn hn ⟨B.exec, B.bytes, findClass_of_methodNamed B.named, fun w h => atoms_spec (ws := Cond.code yX9_cairn cX9_cairn 5 (some .int) :: sg_tbl) B.pre w (List.mem_cons_of_mem _ h), hK, hN⟩ hz B.returns B.notSynchronized hml (Nat.le_refl _) (Nat.le_refl _) ha_a hT_a hf _ _ _ ⟨hP, hY, va_S.rf⟩ hl
set_option maxHeartbeats 4000000 in
set_option maxRecDepth 100000 in
theorem w_X9_heirBy {p : Program} {l : Launch} {e : Env} {R : Room} {s : State} {m : MethodId} {args : Array Value} {below : List Frame} {meth : Method} {c : Code} {D : va_G} {cA : Nat → ClassId} {b n : Nat} (hn : sg_okN n) {a : Nat} {x1 : Int32} {h : HP} {Rz : Int32} (hc : sg_Cx p s m args c cX9_heirBy RX9 D cA) (hz : s.heap.size = b + n) (hr : meth.sig.returnType = some .int) (hlocks : meth.locks = false) (hml : c.maxLocals = 6) (hRf : 0 ≤ R.frames) (hRl : 0 ≤ R.locals) (ha_a : a < n) (hT_a : sg_T a = 9) (hf : F_X9_heirBy a x1 h = some Rz) (H : Heap) (locs : List Loc) (ls : Array Slot) (hw : sg_Wo D b cA n s.heap h H locs) (hl : lv_has ls 6 [(0, .ref (b + a)), (1, .int x1)]) : W p l e R s m args below meth c H locs 0 0 (sg_Qi below args s D b cA n (fun r u => r = Rz ∧ u = h)) (F0 m 0 ls []) := by
  have hx := hc.1
  have hb := hc.2.1
  have hn0 : 0 < n := sg_pos hn
  have L7 : ∀ (k : Nat) (x : (Int32 × Int32 × Int32)), F_X9_heirBy_L7 a x1 h k x = some Rz → ∀ (H : Heap) (locs : List Loc) (ls : Array Slot), sg_Wo D b cA n s.heap h H locs → lv_has ls 6 [(0, .ref (b + a)), (1, .int x1), (2, .int x.1), (3, .int x.2.1), (4, .int x.2.2)] → W p l e R s m args below meth c H locs 0 0 (sg_Qi below args s D b cA n (fun r u => r = Rz ∧ u = h)) (F0 m 7 ls []) := by
    unfold F_X9_heirBy_L7
    refine lp_walk ?_
    intro rc7 hrc7 x hf H locs ls hw hl
    obtain ⟨x2, x3, x4⟩ := x
    dsimp only at hf hw hl
    have J92 : ∀ (x2 : Int32) (x4 : Int32) (s0 : Int32) (H : Heap) (locs : List Loc) (ls : Array Slot), F_X9_heirBy_J92 a rc7 x1 x2 x4 s0 h = some Rz → sg_Wo D b cA n s.heap h H locs → lv_has ls 6 [(0, .ref (b + a)), (1, .int x1), (2, .int x2), (4, .int x4)] → W p l e R s m args below meth c H locs 0 0 (sg_Qi below args s D b cA n (fun r u => r = Rz ∧ u = h)) (F0 m 92 ls [.int s0]) := by
      intro x2 x4 s0 H locs ls hf hw hl
      unfold F_X9_heirBy_J92 at hf
      refine lv_istore_n (lv' := [(3, .int s0), (0, .ref (b + a)), (1, .int x1), (2, .int x2), (4, .int x4)]) hx hb dX9_heirBy_92 rfl hl (by decide) rfl (fun ls hl => ?_)
      refine lv_iinc (v := (x4 + 1)) (lv' := [(4, .int (x4 + 1)), (3, .int s0), (0, .ref (b + a)), (1, .int x1), (2, .int x2)]) hx hb dX9_heirBy_93 hl (k := 4) rfl rfl (by decide) rfl (fun ls hl => ?_)
      refine lv_goto (tgt := 7) hx hb dX9_heirBy_96 (by decide) ?_
      exact hrc7 _ hf _ _ _ hw (lv_sub hl [2, 3, 4, 1, 0] rfl)
    have J79 : ∀ (x3 : Int32) (x4 : Int32) (x5 : Int32) (s0 : Int32) (H : Heap) (locs : List Loc) (ls : Array Slot), F_X9_heirBy_J79 a rc7 x1 x3 x4 x5 s0 h = some Rz → sg_Wo D b cA n s.heap h H locs → lv_has ls 6 [(0, .ref (b + a)), (1, .int x1), (3, .int x3), (4, .int x4), (5, .int x5)] → W p l e R s m args below meth c H locs 0 0 (sg_Qi below args s D b cA n (fun r u => r = Rz ∧ u = h)) (F0 m 79 ls [.int s0]) := by
      intro x3 x4 x5 s0 H locs ls hf hw hl
      unfold F_X9_heirBy_J79 at hf
      refine lv_istore_n (lv' := [(2, .int s0), (0, .ref (b + a)), (1, .int x1), (3, .int x3), (4, .int x4), (5, .int x5)]) hx hb dX9_heirBy_79 rfl hl (by decide) rfl (fun ls hl => ?_)
      refine lv_iload hx hb dX9_heirBy_80 (lv_at hl 5 rfl) ?_
      refine lv_iload_n hx hb dX9_heirBy_82 rfl (lv_at hl 3 rfl) ?_
      refine lv_icmp_le (tgt := 91) hx hb dX9_heirBy_83 (by decide) (fun c83 => ?_) (fun c83 => ?_)
      · have hf := if_of c83 hf
        refine lv_iload_n hx hb dX9_heirBy_91 rfl (lv_at hl 3 rfl) ?_
        exact J92 s0 x4 x3 _ _ _ hf hw (lv_sub hl [1, 2, 0, 4] rfl)
      · have hf := if_no c83 hf
        refine lv_iload hx hb dX9_heirBy_86 (lv_at hl 5 rfl) ?_
        refine lv_goto (tgt := 92) hx hb dX9_heirBy_88 (by decide) ?_
        exact J92 s0 x4 x5 _ _ _ hf hw (lv_sub hl [1, 2, 0, 4] rfl)
    have J65 : ∀ (x2 : Int32) (x3 : Int32) (x4 : Int32) (s0 : Int32) (H : Heap) (locs : List Loc) (ls : Array Slot), F_X9_heirBy_J65 a rc7 x1 x2 x3 x4 s0 h = some Rz → sg_Wo D b cA n s.heap h H locs → lv_has ls 6 [(0, .ref (b + a)), (1, .int x1), (2, .int x2), (3, .int x3), (4, .int x4)] → W p l e R s m args below meth c H locs 0 0 (sg_Qi below args s D b cA n (fun r u => r = Rz ∧ u = h)) (F0 m 65 ls [.int s0]) := by
      intro x2 x3 x4 s0 H locs ls hf hw hl
      unfold F_X9_heirBy_J65 at hf
      refine lv_istore (lv' := [(5, .int s0), (0, .ref (b + a)), (1, .int x1), (2, .int x2), (3, .int x3), (4, .int x4)]) hx hb dX9_heirBy_65 hl (by decide) rfl (fun ls hl => ?_)
      refine lv_iload hx hb dX9_heirBy_67 (lv_at hl 0 rfl) ?_
      refine lv_iload_n hx hb dX9_heirBy_69 rfl (lv_at hl 4 rfl) ?_
      refine lv_icmp_le (tgt := 78) hx hb dX9_heirBy_70 (by decide) (fun c70 => ?_) (fun c70 => ?_)
      · have hf := if_of c70 hf
        refine lv_iload_n hx hb dX9_heirBy_78 rfl (lv_at hl 3 rfl) ?_
        exact J79 x3 x4 s0 x2 _ _ _ hf hw (lv_sub hl [1, 2, 4, 5, 0] rfl)
      · have hf := if_no c70 hf
        refine lv_iload hx hb dX9_heirBy_73 (lv_at hl 5 rfl) ?_
        refine lv_goto (tgt := 79) hx hb dX9_heirBy_75 (by decide) ?_
        exact J79 x3 x4 s0 x4 _ _ _ hf hw (lv_sub hl [1, 2, 4, 5, 0] rfl)
    refine lv_iload hx hb dX9_heirBy_7 (lv_at hl 4 rfl) ?_
    refine lv_aload_n hx hb dX9_heirBy_9 rfl (lv_at hl 0 rfl) ?_
    obtain ⟨hF10, hT10, ha10, hN10⟩ := ft_9_0 hn ha_a hT_a
    refine sg_getf (q := (a + 1)) hc hw ha_a hT_a fr_9_0 (by decide) k_873 dX9_heirBy_10 hF10 ?_
    refine lv_iconst (v := 1) hx hb dX9_heirBy_13 (by decide) ?_
    refine sg_ild hc hw ha10 hT10 hN10 (show vp_in 1 34 by unfold vp_in; decide) dX9_heirBy_14 ?_
    refine lv_icmp_ge (tgt := 99) hx hb dX9_heirBy_15 (by decide) (fun c15 => ?_) (fun c15 => ?_)
    · have hf := if_of c15 hf
      refine lv_iload_n hx hb dX9_heirBy_99 rfl (lv_at hl 2 rfl) ?_
      cases hf
      exact sg_iret hc hw hz hn0 hr hlocks ⟨rfl, rfl⟩ dX9_heirBy_100
    · have hf := if_no c15 hf
      refine lv_iload_n hx hb dX9_heirBy_18 rfl (lv_at hl 1 rfl) ?_
      refine lv_if_ne (tgt := 32) hx hb dX9_heirBy_19 (by decide) (fun c19 => ?_) (fun c19 => ?_)
      · have hf := if_no c19 hf
        refine lv_iload_n hx hb dX9_heirBy_32 rfl (lv_at hl 1 rfl) ?_
        refine lv_iconst (v := 1) hx hb dX9_heirBy_33 (by decide) ?_
        refine lv_icmp_ne (tgt := 47) hx hb dX9_heirBy_34 (by decide) (fun c34 => ?_) (fun c34 => ?_)
        · have hf := if_no c34 hf
          refine lv_aload_n hx hb dX9_heirBy_47 rfl (lv_at hl 0 rfl) ?_
          refine sg_getf (q := (a + 1)) hc hw ha_a hT_a fr_9_0 (by decide) k_873 dX9_heirBy_48 (ft_9_0 hn ha_a hT_a).1 ?_
          refine lv_bipush (v := 22) hx hb dX9_heirBy_51 (by decide) ?_
          refine lv_iload hx hb dX9_heirBy_53 (lv_at hl 4 rfl) ?_
          refine lv_iadd hx hb dX9_heirBy_55 ?_
          obtain ⟨hg56, hf⟩ := gd_of hf
          refine sg_ild hc hw ha10 hT10 hN10 hg56 dX9_heirBy_56 ?_
          refine lv_aload_n hx hb dX9_heirBy_57 rfl (lv_at hl 0 rfl) ?_
          obtain ⟨hF58, hT58, ha58, hN58⟩ := ft_9_18 hn ha_a hT_a
          refine sg_getf (q := (a + 12)) hc hw ha_a hT_a fr_9_18 (by decide) k_891 dX9_heirBy_58 hF58 ?_
          refine lv_iload hx hb dX9_heirBy_61 (lv_at hl 4 rfl) ?_
          obtain ⟨hg63, hf⟩ := gd_of hf
          refine sg_ild hc hw ha58 hT58 hN58 hg63 dX9_heirBy_63 ?_
          refine lv_isub hx hb dX9_heirBy_64 ?_
          exact J65 x2 x3 x4 ((ld h (a + 1) (22 + x4)) - (ld h (a + 12) x4)) _ _ _ hf hw (lv_sub hl [0, 1, 2, 3, 4] rfl)
        · have hf := if_of c34 hf
          refine lv_aload_n hx hb dX9_heirBy_37 rfl (lv_at hl 0 rfl) ?_
          obtain ⟨hF38, hT38, ha38, hN38⟩ := ft_9_21 hn ha_a hT_a
          refine sg_getf (q := (a + 15)) hc hw ha_a hT_a fr_9_21 (by decide) k_894 dX9_heirBy_38 hF38 ?_
          refine lv_iload hx hb dX9_heirBy_41 (lv_at hl 4 rfl) ?_
          obtain ⟨hg43, hf⟩ := gd_of hf
          refine sg_ild hc hw ha38 hT38 hN38 hg43 dX9_heirBy_43 ?_
          refine lv_goto (tgt := 65) hx hb dX9_heirBy_44 (by decide) ?_
          exact J65 x2 x3 x4 (ld h (a + 15) x4) _ _ _ hf hw (lv_sub hl [0, 1, 2, 3, 4] rfl)
      · have hf := if_of c19 hf
        refine lv_aload_n hx hb dX9_heirBy_22 rfl (lv_at hl 0 rfl) ?_
        obtain ⟨hF23, hT23, ha23, hN23⟩ := ft_9_19 hn ha_a hT_a
        refine sg_getf (q := (a + 13)) hc hw ha_a hT_a fr_9_19 (by decide) k_892 dX9_heirBy_23 hF23 ?_
        refine lv_iload hx hb dX9_heirBy_26 (lv_at hl 4 rfl) ?_
        obtain ⟨hg28, hf⟩ := gd_of hf
        refine sg_ild hc hw ha23 hT23 hN23 hg28 dX9_heirBy_28 ?_
        refine lv_goto (tgt := 65) hx hb dX9_heirBy_29 (by decide) ?_
        exact J65 x2 x3 x4 (ld h (a + 13) x4) _ _ _ hf hw (lv_sub hl [0, 1, 2, 3, 4] rfl)
  unfold F_X9_heirBy at hf
  refine lv_iconst (v := 0) hx hb dX9_heirBy_0 (by decide) ?_
  refine lv_istore_n (lv' := [(2, .int 0), (0, .ref (b + a)), (1, .int x1)]) hx hb dX9_heirBy_1 rfl hl (by decide) rfl (fun ls hl => ?_)
  refine lv_iconst (v := (-1)) hx hb dX9_heirBy_2 (by decide) ?_
  refine lv_istore_n (lv' := [(3, .int (-1)), (2, .int 0), (0, .ref (b + a)), (1, .int x1)]) hx hb dX9_heirBy_3 rfl hl (by decide) rfl (fun ls hl => ?_)
  refine lv_iconst (v := 0) hx hb dX9_heirBy_4 (by decide) ?_
  refine lv_istore (lv' := [(4, .int 0), (3, .int (-1)), (2, .int 0), (0, .ref (b + a)), (1, .int x1)]) hx hb dX9_heirBy_5 hl (by decide) rfl (fun ls hl => ?_)
  exact L7 _ _ hf _ _ _ hw (lv_sub hl [3, 4, 2, 1, 0] rfl)
theorem c_X9_heirBy {l : Launch} {D : va_G} {cA : Nat → ClassId} {b n : Nat} (hn : sg_okN n) {a : Nat} {x1 : Int32} (ha_a : a < n) (hT_a : sg_T a = 9) {h : HP} {Rz : Int32} (hf : F_X9_heirBy a x1 h = some Rz) : Met l yX9_heirBy (Cond.code yX9_heirBy cX9_heirBy 6 (some .int) :: sg_tbl) ({ frames := 0, cells := 0, slots := 0, locals := 0 } : Room) (va_Pc [.ref (b + a), .int x1] (sg_Wd D b cA n h)) (va_Qi (fun r u => r = Rz ∧ u = h) (sg_Wd D b cA n) (sg_A b)) 0 0 (sg_A b) := by
  refine Met.ofW (cc := cX9_heirBy) (maxL := 6) (ret := (some .int)) (by decide) rfl ?_
  intro p e s m args below meth c s₁ B hml hv
  obtain ⟨rfl, hP, hK, hz, hY, hN⟩ := hv
  have hl := lv_entry [.ref (b + a), .int x1] (n := 6) (Nat.le_of_ble_eq_true rfl)
  rw [lg_entry_eq]
  exact w_X9_heirBy hn ⟨B.exec, B.bytes, findClass_of_methodNamed B.named, fun w h => atoms_spec (ws := Cond.code yX9_heirBy cX9_heirBy 6 (some .int) :: sg_tbl) B.pre w (List.mem_cons_of_mem _ h), hK, hN⟩ hz B.returns B.notSynchronized hml (Nat.le_refl _) (Nat.le_refl _) ha_a hT_a hf _ _ _ ⟨hP, hY, va_S.rf⟩ hl
set_option maxHeartbeats 4000000 in
set_option maxRecDepth 100000 in
theorem w_X9_heir {p : Program} {l : Launch} {e : Env} {R : Room} {s : State} {m : MethodId} {args : Array Value} {below : List Frame} {meth : Method} {c : Code} {D : va_G} {cA : Nat → ClassId} {b n : Nat} (hn : sg_okN n) {a : Nat} {x1 : Int32} {h : HP} {Rz : Int32 × HP} (hc : sg_Cx p s m args c cX9_heir RX9 D cA) (hz : s.heap.size = b + n) (hr : meth.sig.returnType = some .int) (hlocks : meth.locks = false) (hml : c.maxLocals = 2) (hRf : 5 ≤ R.frames) (hRl : 122 ≤ R.locals) (ha_a : a < n) (hT_a : sg_T a = 9) (hf : F_X9_heir a x1 h = some Rz) (H : Heap) (locs : List Loc) (ls : Array Slot) (hw : sg_Wo D b cA n s.heap h H locs) (hl : lv_has ls 2 [(0, .ref (b + a)), (1, .int x1)]) : W p l e R s m args below meth c H locs 0 0 (sg_Qi below args s D b cA n (fun r u => r = Rz.1 ∧ u = Rz.2)) (F0 m 0 ls []) := by
  have hx := hc.1
  have hb := hc.2.1
  have hn0 : 0 < n := sg_pos hn
  unfold F_X9_heir at hf
  refine lv_iload_n hx hb dX9_heir_0 rfl (lv_at hl 1 rfl) ?_
  refine lv_i2l hx hb dX9_heir_1 rfl ?_
  refine lv_lconst (v := 0) hx hb dX9_heir_2 (by decide) ?_
  refine lv_ldc2 hx hb hc.2.2.1 (hc.2.2.2.1 _ k_989) dX9_heir_3 ?_
  obtain ⟨p6, hp6, hf⟩ := cl_of hf
  refine sg_si (rest := []) (c_X9_in hn (h := h) hp6) hc hw hz hn0 hml hl cs_X9_87 ⟨⟨rfl, rfl⟩, Nat.le_trans (Nat.le_of_ble_eq_true rfl) hRf, Nat.le_trans (Nat.le_of_ble_eq_true rfl) hRl⟩ ⟨Nat.zero_le _, Nat.zero_le _⟩ rfl rfl (Nat.le_of_ble_eq_true rfl) dX9_heir_6 (fun r h1 H locs hp hw => ?_)
  obtain ⟨⟨e1, e2⟩, hb6⟩ := hp; subst r; subst h1
  refine lv_if_ne (tgt := 14) hx hb dX9_heir_9 (by decide) (fun c9 => ?_) (fun c9 => ?_)
  · have hf := if_no c9 hf
    refine lv_aload_n hx hb dX9_heir_14 rfl (lv_at hl 0 rfl) ?_
    obtain ⟨p15, hp15, hf⟩ := cl_of hf
    refine sg_vv (rest := []) (c_X9_asItIs hn ha_a hT_a hp15) hc hw hz hml hl ha_a hT_a (by decide) rfl cv_X9_214 ⟨⟨rfl, rfl⟩, Nat.le_trans (Nat.le_of_ble_eq_true rfl) hRf, Nat.le_trans (Nat.le_of_ble_eq_true rfl) hRl⟩ ⟨Nat.zero_le _, Nat.zero_le _⟩ rfl rfl (Nat.le_of_ble_eq_true rfl) dX9_heir_15 (fun h1 H locs hp hw => ?_)
    subst h1
    refine lv_aload_n hx hb dX9_heir_18 rfl (lv_at hl 0 rfl) ?_
    obtain ⟨p19, hp19, hf⟩ := cl_of hf
    refine sg_vv (rest := []) (c_X9_goesUp hn ha_a hT_a hp19) hc hw hz hml hl ha_a hT_a (by decide) rfl cv_X9_217 ⟨⟨rfl, rfl⟩, Nat.le_trans (Nat.le_of_ble_eq_true rfl) hRf, Nat.le_trans (Nat.le_of_ble_eq_true rfl) hRl⟩ ⟨Nat.zero_le _, Nat.zero_le _⟩ rfl rfl (Nat.le_of_ble_eq_true rfl) dX9_heir_19 (fun h1 H locs hp hw => ?_)
    subst h1
    refine lv_aload_n hx hb dX9_heir_22 rfl (lv_at hl 0 rfl) ?_
    refine lv_iload_n hx hb dX9_heir_23 rfl (lv_at hl 1 rfl) ?_
    obtain ⟨p24, hp24, hf⟩ := cl_of hf
    refine sg_vi (rest := []) (c_X9_heirBy hn ha_a hT_a hp24) hc hw hz hml hl ha_a hT_a (by decide) rfl cv_X9_266 ⟨⟨rfl, rfl⟩, Nat.le_trans (Nat.le_of_ble_eq_true rfl) hRf, Nat.le_trans (Nat.le_of_ble_eq_true rfl) hRl⟩ ⟨Nat.zero_le _, Nat.zero_le _⟩ rfl rfl (Nat.le_of_ble_eq_true rfl) dX9_heir_24 (fun r h1 H locs hp hw => ?_)
    obtain ⟨e1, e2⟩ := hp; subst r; subst h1
    cases hf
    exact sg_iret hc hw hz hn0 hr hlocks ⟨rfl, rfl⟩ dX9_heir_27
  · have hf := if_of c9 hf
    refine lv_iconst (v := (-1)) hx hb dX9_heir_12 (by decide) ?_
    cases hf
    exact sg_iret hc hw hz hn0 hr hlocks ⟨rfl, rfl⟩ dX9_heir_13
theorem c_X9_heir {l : Launch} {D : va_G} {cA : Nat → ClassId} {b n : Nat} (hn : sg_okN n) {a : Nat} {x1 : Int32} (ha_a : a < n) (hT_a : sg_T a = 9) {h : HP} {Rz : Int32 × HP} (hf : F_X9_heir a x1 h = some Rz) : Met l yX9_heir (Cond.code yX9_heir cX9_heir 2 (some .int) :: sg_tbl) ({ frames := 5, cells := 0, slots := 0, locals := 122 } : Room) (va_Pc [.ref (b + a), .int x1] (sg_Wd D b cA n h)) (va_Qi (fun r u => r = Rz.1 ∧ u = Rz.2) (sg_Wd D b cA n) (sg_A b)) 0 0 (sg_A b) := by
  refine Met.ofW (cc := cX9_heir) (maxL := 2) (ret := (some .int)) (by decide) rfl ?_
  intro p e s m args below meth c s₁ B hml hv
  obtain ⟨rfl, hP, hK, hz, hY, hN⟩ := hv
  have hl := lv_entry [.ref (b + a), .int x1] (n := 2) (Nat.le_of_ble_eq_true rfl)
  rw [lg_entry_eq]
  exact w_X9_heir hn ⟨B.exec, B.bytes, findClass_of_methodNamed B.named, fun w h => atoms_spec (ws := Cond.code yX9_heir cX9_heir 2 (some .int) :: sg_tbl) B.pre w (List.mem_cons_of_mem _ h), hK, hN⟩ hz B.returns B.notSynchronized hml (Nat.le_refl _) (Nat.le_refl _) ha_a hT_a hf _ _ _ ⟨hP, hY, va_S.rf⟩ hl
set_option maxHeartbeats 4000000 in
set_option maxRecDepth 100000 in
theorem w_X9_layChoice {p : Program} {l : Launch} {e : Env} {R : Room} {s : State} {m : MethodId} {args : Array Value} {below : List Frame} {meth : Method} {c : Code} {D : va_G} {cA : Nat → ClassId} {b n : Nat} (hn : sg_okN n) {a : Nat} {x1 : Int32} {x2 : Int32} {x3 : Int32} {x4 : Int32} {h : HP} {Rz : HP} (hc : sg_Cx p s m args c cX9_layChoice RX9 D cA) (hz : s.heap.size = b + n) (hr : meth.sig.returnType = none) (hlocks : meth.locks = false) (hml : c.maxLocals = 14) (hRf : 4 ≤ R.frames) (hRl : 96 ≤ R.locals) (ha_a : a < n) (hT_a : sg_T a = 9) (hf : F_X9_layChoice a x1 x2 x3 x4 h = some Rz) (H : Heap) (locs : List Loc) (ls : Array Slot) (hw : sg_Wo D b cA n s.heap h H locs) (hl : lv_has ls 14 [(0, .ref (b + a)), (1, .int x1), (2, .int x2), (3, .int x3), (4, .int x4)]) : W p l e R s m args below meth c H locs 0 0 (sg_Qv below args s D b cA n (fun u => u = Rz)) (F0 m 0 ls []) := by
  have hx := hc.1
  have hb := hc.2.1
  have hn0 : 0 < n := sg_pos hn
  have J226 : ∀ (x5 : Int32) (x6 : Int32) (h : HP) (H : Heap) (locs : List Loc) (ls : Array Slot), F_X9_layChoice_J226 a x3 x4 x5 x6 h = some Rz → sg_Wo D b cA n s.heap h H locs → lv_has ls 14 [(0, .ref (b + a)), (3, .int x3), (4, .int x4), (5, .int x5), (6, .int x6)] → W p l e R s m args below meth c H locs 0 0 (sg_Qv below args s D b cA n (fun u => u = Rz)) (F0 m 226 ls []) := by
    intro x5 x6 h H locs ls hf hw hl
    unfold F_X9_layChoice_J226 at hf
    refine lv_aload_n hx hb dX9_layChoice_226 rfl (lv_at hl 0 rfl) ?_
    obtain ⟨hF227, hT227, ha227, hN227⟩ := ft_9_26 hn ha_a hT_a
    refine sg_getf (q := (a + 19)) hc hw ha_a hT_a fr_9_26 (by decide) k_899 dX9_layChoice_227 hF227 ?_
    refine lv_bipush (v := 6) hx hb dX9_layChoice_230 (by decide) ?_
    refine lv_iload_n hx hb dX9_layChoice_232 rfl (lv_at hl 1 rfl) ?_
    refine lv_imul hx hb dX9_layChoice_233 ?_
    refine lv_iload hx hb dX9_layChoice_234 (lv_at hl 2 rfl) ?_
    refine lv_iadd hx hb dX9_layChoice_236 ?_
    refine lv_iload hx hb dX9_layChoice_237 (lv_at hl 3 rfl) ?_
    obtain ⟨hg239, hf⟩ := gd_of hf
    refine sg_ist hc hw ha227 hT227 hN227 hg239 dX9_layChoice_239 (fun H locs hw => ?_)
    obtain ⟨h239, hw, hf⟩ := sg_name hw hf
    refine lv_aload_n hx hb dX9_layChoice_240 rfl (lv_at hl 0 rfl) ?_
    obtain ⟨hF241, hT241, ha241, hN241⟩ := ft_9_27 hn ha_a hT_a
    refine sg_getf (q := (a + 20)) hc hw ha_a hT_a fr_9_27 (by decide) k_900 dX9_layChoice_241 hF241 ?_
    refine lv_bipush (v := 6) hx hb dX9_layChoice_244 (by decide) ?_
    refine lv_iload_n hx hb dX9_layChoice_246 rfl (lv_at hl 1 rfl) ?_
    refine lv_imul hx hb dX9_layChoice_247 ?_
    refine lv_iload hx hb dX9_layChoice_248 (lv_at hl 2 rfl) ?_
    refine lv_iadd hx hb dX9_layChoice_250 ?_
    refine lv_iload hx hb dX9_layChoice_251 (lv_at hl 4 rfl) ?_
    obtain ⟨hg253, hf⟩ := gd_of hf
    refine sg_ist hc hw ha241 hT241 hN241 hg253 dX9_layChoice_253 (fun H locs hw => ?_)
    obtain ⟨h253, hw, hf⟩ := sg_name hw hf
    cases hf
    exact sg_vret hc hw hz hn0 hr hlocks rfl dX9_layChoice_254
  have L17 : ∀ (k : Nat) (x : (Int32 × Int32 × Int32 × HP)), F_X9_layChoice_L17 a x1 x2 x3 x4 k x = some Rz → ∀ (H : Heap) (locs : List Loc) (ls : Array Slot), sg_Wo D b cA n s.heap x.2.2.2 H locs → lv_has ls 14 [(0, .ref (b + a)), (1, .int x1), (2, .int x2), (3, .int x3), (4, .int x4), (5, .int x.1), (6, .int x.2.1), (7, .int x.2.2.1)] → W p l e R s m args below meth c H locs 0 0 (sg_Qv below args s D b cA n (fun u => u = Rz)) (F0 m 17 ls []) := by
    unfold F_X9_layChoice_L17
    refine lp_walk ?_
    intro rc17 hrc17 x hf H locs ls hw hl
    obtain ⟨x5, x6, x7, h⟩ := x
    dsimp only at hf hw hl
    have J220 : ∀ (x5 : Int32) (x6 : Int32) (x7 : Int32) (h : HP) (H : Heap) (locs : List Loc) (ls : Array Slot), F_X9_layChoice_J220 a rc17 x1 x2 x3 x4 x5 x6 x7 h = some Rz → sg_Wo D b cA n s.heap h H locs → lv_has ls 14 [(0, .ref (b + a)), (1, .int x1), (2, .int x2), (3, .int x3), (4, .int x4), (5, .int x5), (6, .int x6), (7, .int x7)] → W p l e R s m args below meth c H locs 0 0 (sg_Qv below args s D b cA n (fun u => u = Rz)) (F0 m 220 ls []) := by
      intro x5 x6 x7 h H locs ls hf hw hl
      unfold F_X9_layChoice_J220 at hf
      refine lv_iinc (v := (x7 + 1)) (lv' := [(7, .int (x7 + 1)), (0, .ref (b + a)), (1, .int x1), (2, .int x2), (3, .int x3), (4, .int x4), (5, .int x5), (6, .int x6)]) hx hb dX9_layChoice_220 hl (k := 7) rfl rfl (by decide) rfl (fun ls hl => ?_)
      refine lv_goto (tgt := 17) hx hb dX9_layChoice_223 (by decide) ?_
      exact hrc17 _ hf _ _ _ hw (lv_sub hl [1, 2, 3, 4, 5, 6, 7, 0] rfl)
    have L102 : ∀ (x7 : Int32) (x8 : Int32) (x9 : Int32) (x10 : Int32) (k : Nat) (x : (Int32 × Int32 × Int32 × HP)), F_X9_layChoice_L102 a rc17 x1 x2 x3 x4 x7 x8 x9 x10 k x = some Rz → ∀ (H : Heap) (locs : List Loc) (ls : Array Slot), sg_Wo D b cA n s.heap x.2.2.2 H locs → lv_has ls 14 [(0, .ref (b + a)), (1, .int x1), (2, .int x2), (3, .int x3), (4, .int x4), (5, .int x.1), (6, .int x.2.1), (7, .int x7), (8, .int x8), (9, .int x9), (10, .int x10), (11, .int x.2.2.1)] → W p l e R s m args below meth c H locs 0 0 (sg_Qv below args s D b cA n (fun u => u = Rz)) (F0 m 102 ls []) := by
      intro x7 x8 x9 x10
      unfold F_X9_layChoice_L102
      refine lp_walk ?_
      intro rc102 hrc102 x hf H locs ls hw hl
      obtain ⟨x5, x6, x11, h⟩ := x
      dsimp only at hf hw hl
      have J214 : ∀ (x5 : Int32) (x6 : Int32) (x11 : Int32) (h : HP) (H : Heap) (locs : List Loc) (ls : Array Slot), F_X9_layChoice_J214 a rc17 rc102 x1 x2 x3 x4 x5 x6 x7 x8 x9 x10 x11 h = some Rz → sg_Wo D b cA n s.heap h H locs → lv_has ls 14 [(0, .ref (b + a)), (1, .int x1), (2, .int x2), (3, .int x3), (4, .int x4), (5, .int x5), (6, .int x6), (7, .int x7), (8, .int x8), (9, .int x9), (10, .int x10), (11, .int x11)] → W p l e R s m args below meth c H locs 0 0 (sg_Qv below args s D b cA n (fun u => u = Rz)) (F0 m 214 ls []) := by
        intro x5 x6 x11 h H locs ls hf hw hl
        unfold F_X9_layChoice_J214 at hf
        refine lv_iinc (v := (x11 + 1)) (lv' := [(11, .int (x11 + 1)), (0, .ref (b + a)), (1, .int x1), (2, .int x2), (3, .int x3), (4, .int x4), (5, .int x5), (6, .int x6), (7, .int x7), (8, .int x8), (9, .int x9), (10, .int x10)]) hx hb dX9_layChoice_214 hl (k := 11) rfl rfl (by decide) rfl (fun ls hl => ?_)
        refine lv_goto (tgt := 102) hx hb dX9_layChoice_217 (by decide) ?_
        exact hrc102 _ hf _ _ _ hw (lv_sub hl [1, 2, 3, 4, 5, 6, 7, 8, 9, 10, 11, 0] rfl)
      have J211 : ∀ (x5 : Int32) (x11 : Int32) (s0 : Int32) (s1 : Int32) (h : HP) (H : Heap) (locs : List Loc) (ls : Array Slot), F_X9_layChoice_J211 a rc17 rc102 x1 x2 x3 x4 x5 x7 x8 x9 x10 x11 s0 s1 h = some Rz → sg_Wo D b cA n s.heap h H locs → lv_has ls 14 [(0, .ref (b + a)), (1, .int x1), (2, .int x2), (3, .int x3), (4, .int x4), (5, .int x5), (7, .int x7), (8, .int x8), (9, .int x9), (10, .int x10), (11, .int x11)] → W p l e R s m args below meth c H locs 0 0 (sg_Qv below args s D b cA n (fun u => u = Rz)) (F0 m 211 ls [.int s0, .int s1]) := by
        intro x5 x11 s0 s1 h H locs ls hf hw hl
        unfold F_X9_layChoice_J211 at hf
        refine lv_iadd hx hb dX9_layChoice_211 ?_
        refine lv_topi (fun v212 e212 => ?_)
        have hf := nm_of e212 hf
        refine lv_istore (lv' := [(6, .int v212), (0, .ref (b + a)), (1, .int x1), (2, .int x2), (3, .int x3), (4, .int x4), (5, .int x5), (7, .int x7), (8, .int x8), (9, .int x9), (10, .int x10), (11, .int x11)]) hx hb dX9_layChoice_212 hl (by decide) rfl (fun ls hl => ?_)
        exact J214 x5 v212 x11 _ _ _ _ hf hw (lv_sub hl [1, 2, 3, 4, 5, 6, 0, 7, 8, 9, 10, 11] rfl)
      have J185 : ∀ (x6 : Int32) (x11 : Int32) (x13 : Int32) (s0 : Int32) (s1 : Int32) (h : HP) (H : Heap) (locs : List Loc) (ls : Array Slot), F_X9_layChoice_J185 a rc17 rc102 x1 x2 x3 x4 x6 x7 x8 x9 x10 x11 x13 s0 s1 h = some Rz → sg_Wo D b cA n s.heap h H locs → lv_has ls 14 [(0, .ref (b + a)), (1, .int x1), (2, .int x2), (3, .int x3), (4, .int x4), (6, .int x6), (7, .int x7), (8, .int x8), (9, .int x9), (10, .int x10), (11, .int x11), (13, .int x13)] → W p l e R s m args below meth c H locs 0 0 (sg_Qv below args s D b cA n (fun u => u = Rz)) (F0 m 185 ls [.int s0, .int s1]) := by
        intro x6 x11 x13 s0 s1 h H locs ls hf hw hl
        unfold F_X9_layChoice_J185 at hf
        refine lv_iadd hx hb dX9_layChoice_185 ?_
        refine lv_topi (fun v186 e186 => ?_)
        have hf := nm_of e186 hf
        refine lv_istore (lv' := [(5, .int v186), (0, .ref (b + a)), (1, .int x1), (2, .int x2), (3, .int x3), (4, .int x4), (6, .int x6), (7, .int x7), (8, .int x8), (9, .int x9), (10, .int x10), (11, .int x11), (13, .int x13)]) hx hb dX9_layChoice_186 hl (by decide) rfl (fun ls hl => ?_)
        refine lv_iload hx hb dX9_layChoice_188 (lv_at hl 6 rfl) ?_
        refine lv_iload hx hb dX9_layChoice_190 (lv_at hl 12 rfl) ?_
        refine lv_iload_n hx hb dX9_layChoice_192 rfl (lv_at hl 3 rfl) ?_
        obtain ⟨p193, hp193, hf⟩ := cl_of hf
        refine sg_si (rest := [.int x6]) (c_X9_has hn (h := h) hp193) hc hw hz hn0 hml hl cs_X9_166 ⟨⟨rfl, rfl⟩, Nat.le_trans (Nat.le_of_ble_eq_true rfl) hRf, Nat.le_trans (Nat.le_of_ble_eq_true rfl) hRl⟩ ⟨Nat.zero_le _, Nat.zero_le _⟩ rfl rfl (Nat.le_of_ble_eq_true rfl) dX9_layChoice_193 (fun r h1 H locs hp hw => ?_)
        obtain ⟨⟨e1, e2⟩, hb193⟩ := hp; subst r; subst h1
        refine lv_if_eq (tgt := 210) hx hb dX9_layChoice_196 (by decide) (fun c196 => ?_) (fun c196 => ?_)
        · have hf := if_of c196 hf
          refine lv_iconst (v := 0) hx hb dX9_layChoice_210 (by decide) ?_
          exact J211 v186 x11 0 x6 _ _ _ _ hf hw (lv_sub hl [1, 2, 3, 4, 5, 0, 7, 8, 9, 10, 11] rfl)
        · have hf := if_no c196 hf
          refine lv_bipush (v := 60) hx hb dX9_layChoice_199 (by decide) ?_
          refine lv_iload hx hb dX9_layChoice_201 (lv_at hl 12 rfl) ?_
          obtain ⟨p203, hp203, hf⟩ := cl_of hf
          refine sg_si (rest := [.int 60, .int x6]) (c_X9_bits hn (h := h) hp203) hc hw hz hn0 hml hl cs_X9_174 ⟨⟨rfl, rfl⟩, Nat.le_trans (Nat.le_of_ble_eq_true rfl) hRf, Nat.le_trans (Nat.le_of_ble_eq_true rfl) hRl⟩ ⟨Nat.zero_le _, Nat.zero_le _⟩ rfl rfl (Nat.le_of_ble_eq_true rfl) dX9_layChoice_203 (fun r h1 H locs hp hw => ?_)
          obtain ⟨e1, e2⟩ := hp; subst r; subst h1
          obtain ⟨hg206, hf⟩ := gz_of hf
          refine lv_idiv hx hb dX9_layChoice_206 hg206 ?_
          refine lv_goto (tgt := 211) hx hb dX9_layChoice_207 (by decide) ?_
          exact J211 v186 x11 (60 / p203) x6 _ _ _ _ hf hw (lv_sub hl [1, 2, 3, 4, 5, 0, 7, 8, 9, 10, 11] rfl)
      have J143 : ∀ (x5 : Int32) (x6 : Int32) (x11 : Int32) (x12 : Int32) (s0 : Int32) (h : HP) (H : Heap) (locs : List Loc) (ls : Array Slot), F_X9_layChoice_J143 a rc17 rc102 x1 x2 x3 x4 x5 x6 x7 x8 x9 x10 x11 x12 s0 h = some Rz → sg_Wo D b cA n s.heap h H locs → lv_has ls 14 [(0, .ref (b + a)), (1, .int x1), (2, .int x2), (3, .int x3), (4, .int x4), (5, .int x5), (6, .int x6), (7, .int x7), (8, .int x8), (9, .int x9), (10, .int x10), (11, .int x11), (12, .int x12)] → W p l e R s m args below meth c H locs 0 0 (sg_Qv below args s D b cA n (fun u => u = Rz)) (F0 m 143 ls [.int s0]) := by
        intro x5 x6 x11 x12 s0 h H locs ls hf hw hl
        unfold F_X9_layChoice_J143 at hf
        refine lv_istore (lv' := [(13, .int s0), (0, .ref (b + a)), (1, .int x1), (2, .int x2), (3, .int x3), (4, .int x4), (5, .int x5), (6, .int x6), (7, .int x7), (8, .int x8), (9, .int x9), (10, .int x10), (11, .int x11), (12, .int x12)]) hx hb dX9_layChoice_143 hl (by decide) rfl (fun ls hl => ?_)
        refine lv_iload hx hb dX9_layChoice_145 (lv_at hl 0 rfl) ?_
        refine lv_if_eq (tgt := 214) hx hb dX9_layChoice_147 (by decide) (fun c147 => ?_) (fun c147 => ?_)
        · have hf := if_of c147 hf
          exact J214 x5 x6 x11 _ _ _ _ hf hw (lv_sub hl [1, 2, 3, 4, 5, 6, 7, 8, 9, 10, 11, 12] rfl)
        · have hf := if_no c147 hf
          refine lv_aload_n hx hb dX9_layChoice_150 rfl (lv_at hl 1 rfl) ?_
          refine lv_iload hx hb dX9_layChoice_151 (lv_at hl 0 rfl) ?_
          refine lv_iload hx hb dX9_layChoice_153 (lv_at hl 13 rfl) ?_
          refine lv_iload hx hb dX9_layChoice_155 (lv_at hl 11 rfl) ?_
          refine lv_bipush (v := 60) hx hb dX9_layChoice_157 (by decide) ?_
          obtain ⟨p159, hp159, hf⟩ := cl_of hf
          refine sg_vv (rest := []) (c_X9_pays hn ha_a hT_a hp159) hc hw hz hml hl ha_a hT_a (by decide) rfl cv_X9_205 ⟨⟨rfl, rfl⟩, Nat.le_trans (Nat.le_of_ble_eq_true rfl) hRf, Nat.le_trans (Nat.le_of_ble_eq_true rfl) hRl⟩ ⟨Nat.zero_le _, Nat.zero_le _⟩ rfl rfl (Nat.le_of_ble_eq_true rfl) dX9_layChoice_159 (fun h1 H locs hp hw => ?_)
          subst h1
          refine lv_iload hx hb dX9_layChoice_162 (lv_at hl 6 rfl) ?_
          refine lv_iload hx hb dX9_layChoice_164 (lv_at hl 0 rfl) ?_
          refine lv_iload_n hx hb dX9_layChoice_166 rfl (lv_at hl 2 rfl) ?_
          obtain ⟨p167, hp167, hf⟩ := cl_of hf
          refine sg_si (rest := [.int x5]) (c_X9_has hn (h := p159) hp167) hc hw hz hn0 hml hl cs_X9_166 ⟨⟨rfl, rfl⟩, Nat.le_trans (Nat.le_of_ble_eq_true rfl) hRf, Nat.le_trans (Nat.le_of_ble_eq_true rfl) hRl⟩ ⟨Nat.zero_le _, Nat.zero_le _⟩ rfl rfl (Nat.le_of_ble_eq_true rfl) dX9_layChoice_167 (fun r h1 H locs hp hw => ?_)
          obtain ⟨⟨e1, e2⟩, hb167⟩ := hp; subst r; subst h1
          refine lv_if_eq (tgt := 184) hx hb dX9_layChoice_170 (by decide) (fun c170 => ?_) (fun c170 => ?_)
          · have hf := if_of c170 hf
            refine lv_iconst (v := 0) hx hb dX9_layChoice_184 (by decide) ?_
            exact J185 x6 x11 s0 0 x5 _ _ _ _ hf hw (lv_sub hl [1, 2, 3, 4, 5, 7, 8, 9, 10, 11, 12, 0] rfl)
          · have hf := if_no c170 hf
            refine lv_bipush (v := 60) hx hb dX9_layChoice_173 (by decide) ?_
            refine lv_iload hx hb dX9_layChoice_175 (lv_at hl 0 rfl) ?_
            obtain ⟨p177, hp177, hf⟩ := cl_of hf
            refine sg_si (rest := [.int 60, .int x5]) (c_X9_bits hn (h := p159) hp177) hc hw hz hn0 hml hl cs_X9_174 ⟨⟨rfl, rfl⟩, Nat.le_trans (Nat.le_of_ble_eq_true rfl) hRf, Nat.le_trans (Nat.le_of_ble_eq_true rfl) hRl⟩ ⟨Nat.zero_le _, Nat.zero_le _⟩ rfl rfl (Nat.le_of_ble_eq_true rfl) dX9_layChoice_177 (fun r h1 H locs hp hw => ?_)
            obtain ⟨e1, e2⟩ := hp; subst r; subst h1
            obtain ⟨hg180, hf⟩ := gz_of hf
            refine lv_idiv hx hb dX9_layChoice_180 hg180 ?_
            refine lv_goto (tgt := 185) hx hb dX9_layChoice_181 (by decide) ?_
            exact J185 x6 x11 s0 (60 / p177) x5 _ _ _ _ hf hw (lv_sub hl [1, 2, 3, 4, 5, 7, 8, 9, 10, 11, 12, 0] rfl)
      refine lv_iload hx hb dX9_layChoice_102 (lv_at hl 11 rfl) ?_
      refine lv_aload_n hx hb dX9_layChoice_104 rfl (lv_at hl 0 rfl) ?_
      obtain ⟨hF105, hT105, ha105, hN105⟩ := ft_9_14 hn ha_a hT_a
      refine sg_getf (q := (a + 10)) hc hw ha_a hT_a fr_9_14 (by decide) k_887 dX9_layChoice_105 hF105 ?_
      refine lv_iconst (v := 4) hx hb dX9_layChoice_108 (by decide) ?_
      refine lv_iload hx hb dX9_layChoice_109 (lv_at hl 8 rfl) ?_
      refine lv_iadd hx hb dX9_layChoice_111 ?_
      obtain ⟨hg112, hf⟩ := gd_of hf
      refine sg_ild hc hw ha105 hT105 hN105 hg112 dX9_layChoice_112 ?_
      refine lv_icmp_ge (tgt := 220) hx hb dX9_layChoice_113 (by decide) (fun c113 => ?_) (fun c113 => ?_)
      · have hf := if_of c113 hf
        exact J220 x5 x6 x7 _ _ _ _ hf hw (lv_sub hl [0, 1, 2, 3, 4, 5, 6, 7] rfl)
      · have hf := if_no c113 hf
        refine lv_aload_n hx hb dX9_layChoice_116 rfl (lv_at hl 0 rfl) ?_
        refine lv_iload hx hb dX9_layChoice_117 (lv_at hl 9 rfl) ?_
        obtain ⟨p119, hp119, hf⟩ := cl_of hf
        refine sg_vi (rest := []) (c_X9_unfallen hn ha_a hT_a hp119) hc hw hz hml hl ha_a hT_a (by decide) rfl cv_X9_198 ⟨⟨rfl, rfl⟩, Nat.le_trans (Nat.le_of_ble_eq_true rfl) hRf, Nat.le_trans (Nat.le_of_ble_eq_true rfl) hRl⟩ ⟨Nat.zero_le _, Nat.zero_le _⟩ rfl rfl (Nat.le_of_ble_eq_true rfl) dX9_layChoice_119 (fun r h1 H locs hp hw => ?_)
        obtain ⟨e1, e2⟩ := hp; subst r; subst h1
        refine lv_istore (lv' := [(12, .int p119), (0, .ref (b + a)), (1, .int x1), (2, .int x2), (3, .int x3), (4, .int x4), (5, .int x5), (6, .int x6), (7, .int x7), (8, .int x8), (9, .int x9), (10, .int x10), (11, .int x11)]) hx hb dX9_layChoice_122 hl (by decide) rfl (fun ls hl => ?_)
        refine lv_iload hx hb dX9_layChoice_124 (lv_at hl 0 rfl) ?_
        refine lv_if_ne (tgt := 133) hx hb dX9_layChoice_126 (by decide) (fun c126 => ?_) (fun c126 => ?_)
        · have hf := if_no c126 hf
          refine lv_aload_n hx hb dX9_layChoice_133 rfl (lv_at hl 1 rfl) ?_
          refine lv_iload hx hb dX9_layChoice_134 (lv_at hl 12 rfl) ?_
          refine lv_iload hx hb dX9_layChoice_136 (lv_at hl 0 rfl) ?_
          refine lv_iload hx hb dX9_layChoice_138 (lv_at hl 11 rfl) ?_
          obtain ⟨p140, hp140, hf⟩ := cl_of hf
          refine sg_vi (rest := []) (c_X9_bears hn ha_a hT_a hp140) hc hw hz hml hl ha_a hT_a (by decide) rfl cv_X9_201 ⟨⟨rfl, rfl⟩, Nat.le_trans (Nat.le_of_ble_eq_true rfl) hRf, Nat.le_trans (Nat.le_of_ble_eq_true rfl) hRl⟩ ⟨Nat.zero_le _, Nat.zero_le _⟩ rfl rfl (Nat.le_of_ble_eq_true rfl) dX9_layChoice_140 (fun r h1 H locs hp hw => ?_)
          obtain ⟨e1, e2⟩ := hp; subst r; subst h1
          exact J143 x5 x6 x11 p119 p140.1 _ _ _ _ hf hw (lv_sub hl [1, 2, 3, 4, 5, 6, 7, 8, 9, 10, 11, 12, 0] rfl)
        · have hf := if_of c126 hf
          refine lv_iconst (v := 0) hx hb dX9_layChoice_129 (by decide) ?_
          refine lv_goto (tgt := 143) hx hb dX9_layChoice_130 (by decide) ?_
          exact J143 x5 x6 x11 p119 0 _ _ _ _ hf hw (lv_sub hl [1, 2, 3, 4, 5, 6, 7, 8, 9, 10, 11, 12, 0] rfl)
    have J76 : ∀ (x5 : Int32) (x6 : Int32) (x7 : Int32) (x8 : Int32) (s0 : Int32) (h : HP) (H : Heap) (locs : List Loc) (ls : Array Slot), F_X9_layChoice_J76 a rc17 x1 x2 x3 x4 x5 x6 x7 x8 s0 h = some Rz → sg_Wo D b cA n s.heap h H locs → lv_has ls 14 [(0, .ref (b + a)), (1, .int x1), (2, .int x2), (3, .int x3), (4, .int x4), (5, .int x5), (6, .int x6), (7, .int x7), (8, .int x8)] → W p l e R s m args below meth c H locs 0 0 (sg_Qv below args s D b cA n (fun u => u = Rz)) (F0 m 76 ls [.int s0]) := by
      intro x5 x6 x7 x8 s0 h H locs ls hf hw hl
      unfold F_X9_layChoice_J76 at hf
      refine lv_istore (lv' := [(9, .int s0), (0, .ref (b + a)), (1, .int x1), (2, .int x2), (3, .int x3), (4, .int x4), (5, .int x5), (6, .int x6), (7, .int x7), (8, .int x8)]) hx hb dX9_layChoice_76 hl (by decide) rfl (fun ls hl => ?_)
      refine lv_iconst (v := 1) hx hb dX9_layChoice_78 (by decide) ?_
      refine lv_aload_n hx hb dX9_layChoice_79 rfl (lv_at hl 1 rfl) ?_
      obtain ⟨hF80, hT80, ha80, hN80⟩ := ft_9_14 hn ha_a hT_a
      refine sg_getf (q := (a + 10)) hc hw ha_a hT_a fr_9_14 (by decide) k_887 dX9_layChoice_80 hF80 ?_
      refine lv_bipush (v := 10) hx hb dX9_layChoice_83 (by decide) ?_
      refine lv_iload hx hb dX9_layChoice_85 (lv_at hl 9 rfl) ?_
      refine lv_iadd hx hb dX9_layChoice_87 ?_
      obtain ⟨hg88, hf⟩ := gd_of hf
      refine sg_ild hc hw ha80 hT80 hN80 hg88 dX9_layChoice_88 ?_
      refine lv_iadd hx hb dX9_layChoice_89 ?_
      refine lv_aload_n hx hb dX9_layChoice_90 rfl (lv_at hl 1 rfl) ?_
      refine sg_getf (q := (a + 10)) hc hw ha_a hT_a fr_9_14 (by decide) k_887 dX9_layChoice_91 (ft_9_14 hn ha_a hT_a).1 ?_
      refine lv_iconst (v := 3) hx hb dX9_layChoice_94 (by decide) ?_
      refine sg_ild hc hw ha80 hT80 hN80 (show vp_in 3 34 by unfold vp_in; decide) dX9_layChoice_95 ?_
      refine lv_iadd hx hb dX9_layChoice_96 ?_
      refine lv_topi (fun v97 e97 => ?_)
      have hf := nm_of e97 hf
      refine lv_istore (lv' := [(10, .int v97), (9, .int s0), (0, .ref (b + a)), (1, .int x1), (2, .int x2), (3, .int x3), (4, .int x4), (5, .int x5), (6, .int x6), (7, .int x7), (8, .int x8)]) hx hb dX9_layChoice_97 hl (by decide) rfl (fun ls hl => ?_)
      refine lv_iconst (v := 0) hx hb dX9_layChoice_99 (by decide) ?_
      refine lv_istore (lv' := [(11, .int 0), (10, .int v97), (9, .int s0), (0, .ref (b + a)), (1, .int x1), (2, .int x2), (3, .int x3), (4, .int x4), (5, .int x5), (6, .int x6), (7, .int x7), (8, .int x8)]) hx hb dX9_layChoice_100 hl (by decide) rfl (fun ls hl => ?_)
      exact L102 x7 x8 s0 v97 _ _ hf _ _ _ hw (lv_sub hl [3, 4, 5, 6, 7, 8, 9, 10, 11, 2, 1, 0] rfl)
    have J44 : ∀ (x5 : Int32) (x6 : Int32) (x7 : Int32) (s0 : Int32) (h : HP) (H : Heap) (locs : List Loc) (ls : Array Slot), F_X9_layChoice_J44 a rc17 x1 x2 x3 x4 x5 x6 x7 s0 h = some Rz → sg_Wo D b cA n s.heap h H locs → lv_has ls 14 [(0, .ref (b + a)), (1, .int x1), (2, .int x2), (3, .int x3), (4, .int x4), (5, .int x5), (6, .int x6), (7, .int x7)] → W p l e R s m args below meth c H locs 0 0 (sg_Qv below args s D b cA n (fun u => u = Rz)) (F0 m 44 ls [.int s0]) := by
      intro x5 x6 x7 s0 h H locs ls hf hw hl
      unfold F_X9_layChoice_J44 at hf
      refine lv_istore (lv' := [(8, .int s0), (0, .ref (b + a)), (1, .int x1), (2, .int x2), (3, .int x3), (4, .int x4), (5, .int x5), (6, .int x6), (7, .int x7)]) hx hb dX9_layChoice_44 hl (by decide) rfl (fun ls hl => ?_)
      refine lv_iload_n hx hb dX9_layChoice_46 rfl (lv_at hl 4 rfl) ?_
      refine lv_iload hx hb dX9_layChoice_47 (lv_at hl 5 rfl) ?_
      refine lv_icmp_ne (tgt := 62) hx hb dX9_layChoice_49 (by decide) (fun c49 => ?_) (fun c49 => ?_)
      · have hf := if_no c49 hf
        refine lv_iload hx hb dX9_layChoice_62 (lv_at hl 8 rfl) ?_
        refine lv_if_ne (tgt := 73) hx hb dX9_layChoice_64 (by decide) (fun c64 => ?_) (fun c64 => ?_)
        · have hf := if_no c64 hf
          refine lv_iconst (v := 1) hx hb dX9_layChoice_73 (by decide) ?_
          refine lv_iload_n hx hb dX9_layChoice_74 rfl (lv_at hl 3 rfl) ?_
          refine lv_ishl hx hb dX9_layChoice_75 ?_
          exact J76 x5 x6 x7 s0 (1 <<< (x2 &&& 31)) _ _ _ _ hf hw (lv_sub hl [1, 2, 3, 4, 5, 6, 7, 8, 0] rfl)
        · have hf := if_of c64 hf
          refine lv_iconst (v := 1) hx hb dX9_layChoice_67 (by decide) ?_
          refine lv_iload_n hx hb dX9_layChoice_68 rfl (lv_at hl 2 rfl) ?_
          refine lv_ishl hx hb dX9_layChoice_69 ?_
          refine lv_goto (tgt := 76) hx hb dX9_layChoice_70 (by decide) ?_
          exact J76 x5 x6 x7 s0 (1 <<< (x1 &&& 31)) _ _ _ _ hf hw (lv_sub hl [1, 2, 3, 4, 5, 6, 7, 8, 0] rfl)
      · have hf := if_of c49 hf
        refine lv_iconst (v := 1) hx hb dX9_layChoice_52 (by decide) ?_
        refine lv_iload_n hx hb dX9_layChoice_53 rfl (lv_at hl 2 rfl) ?_
        refine lv_ishl hx hb dX9_layChoice_54 ?_
        refine lv_iconst (v := 1) hx hb dX9_layChoice_55 (by decide) ?_
        refine lv_iload_n hx hb dX9_layChoice_56 rfl (lv_at hl 3 rfl) ?_
        refine lv_ishl hx hb dX9_layChoice_57 ?_
        refine lv_ior hx hb dX9_layChoice_58 ?_
        refine lv_goto (tgt := 76) hx hb dX9_layChoice_59 (by decide) ?_
        exact J76 x5 x6 x7 s0 ((1 <<< (x1 &&& 31)) ||| (1 <<< (x2 &&& 31))) _ _ _ _ hf hw (lv_sub hl [1, 2, 3, 4, 5, 6, 7, 8, 0] rfl)
    have J30 : ∀ (x5 : Int32) (x6 : Int32) (x7 : Int32) (s0 : Int32) (s1 : Int32) (h : HP) (H : Heap) (locs : List Loc) (ls : Array Slot), F_X9_layChoice_J30 a rc17 x1 x2 x3 x4 x5 x6 x7 s0 s1 h = some Rz → sg_Wo D b cA n s.heap h H locs → lv_has ls 14 [(0, .ref (b + a)), (1, .int x1), (2, .int x2), (3, .int x3), (4, .int x4), (5, .int x5), (6, .int x6), (7, .int x7)] → W p l e R s m args below meth c H locs 0 0 (sg_Qv below args s D b cA n (fun u => u = Rz)) (F0 m 30 ls [.int s0, .int s1]) := by
      intro x5 x6 x7 s0 s1 h H locs ls hf hw hl
      unfold F_X9_layChoice_J30 at hf
      refine lv_icmp_ge (tgt := 226) hx hb dX9_layChoice_30 (by decide) (fun c30 => ?_) (fun c30 => ?_)
      · have hf := if_of c30 hf
        exact J226 x5 x6 _ _ _ _ hf hw (lv_sub hl [0, 3, 4, 5, 6] rfl)
      · have hf := if_no c30 hf
        refine lv_iload hx hb dX9_layChoice_33 (lv_at hl 7 rfl) ?_
        refine lv_if_ne (tgt := 42) hx hb dX9_layChoice_35 (by decide) (fun c35 => ?_) (fun c35 => ?_)
        · have hf := if_no c35 hf
          refine lv_iload hx hb dX9_layChoice_42 (lv_at hl 4 rfl) ?_
          exact J44 x5 x6 x7 x4 _ _ _ _ hf hw (lv_sub hl [0, 1, 2, 3, 4, 5, 6, 7] rfl)
        · have hf := if_of c35 hf
          refine lv_iload_n hx hb dX9_layChoice_38 rfl (lv_at hl 3 rfl) ?_
          refine lv_goto (tgt := 44) hx hb dX9_layChoice_39 (by decide) ?_
          exact J44 x5 x6 x7 x3 _ _ _ _ hf hw (lv_sub hl [0, 1, 2, 3, 4, 5, 6, 7] rfl)
    refine lv_iload hx hb dX9_layChoice_17 (lv_at hl 7 rfl) ?_
    refine lv_iload_n hx hb dX9_layChoice_19 rfl (lv_at hl 3 rfl) ?_
    refine lv_iload hx hb dX9_layChoice_20 (lv_at hl 4 rfl) ?_
    refine lv_icmp_ne (tgt := 29) hx hb dX9_layChoice_22 (by decide) (fun c22 => ?_) (fun c22 => ?_)
    · have hf := if_no c22 hf
      refine lv_iconst (v := 2) hx hb dX9_layChoice_29 (by decide) ?_
      exact J30 x5 x6 x7 2 x7 _ _ _ _ hf hw (lv_sub hl [0, 1, 2, 3, 4, 5, 6, 7] rfl)
    · have hf := if_of c22 hf
      refine lv_iconst (v := 1) hx hb dX9_layChoice_25 (by decide) ?_
      refine lv_goto (tgt := 30) hx hb dX9_layChoice_26 (by decide) ?_
      exact J30 x5 x6 x7 1 x7 _ _ _ _ hf hw (lv_sub hl [0, 1, 2, 3, 4, 5, 6, 7] rfl)
  unfold F_X9_layChoice at hf
  refine lv_aload_n hx hb dX9_layChoice_0 rfl (lv_at hl 0 rfl) ?_
  obtain ⟨p1, hp1, hf⟩ := cl_of hf
  refine sg_vv (rest := []) (c_X9_asItIs hn ha_a hT_a hp1) hc hw hz hml hl ha_a hT_a (by decide) rfl cv_X9_214 ⟨⟨rfl, rfl⟩, Nat.le_trans (Nat.le_of_ble_eq_true rfl) hRf, Nat.le_trans (Nat.le_of_ble_eq_true rfl) hRl⟩ ⟨Nat.zero_le _, Nat.zero_le _⟩ rfl rfl (Nat.le_of_ble_eq_true rfl) dX9_layChoice_1 (fun h1 H locs hp hw => ?_)
  subst h1
  refine lv_aload_n hx hb dX9_layChoice_4 rfl (lv_at hl 0 rfl) ?_
  obtain ⟨p5, hp5, hf⟩ := cl_of hf
  refine sg_vv (rest := []) (c_X9_startsUp hn ha_a hT_a hp5) hc hw hz hml hl ha_a hT_a (by decide) rfl cv_X9_185 ⟨⟨rfl, rfl⟩, Nat.le_trans (Nat.le_of_ble_eq_true rfl) hRf, Nat.le_trans (Nat.le_of_ble_eq_true rfl) hRl⟩ ⟨Nat.zero_le _, Nat.zero_le _⟩ rfl rfl (Nat.le_of_ble_eq_true rfl) dX9_layChoice_5 (fun h1 H locs hp hw => ?_)
  subst h1
  refine lv_iconst (v := 0) hx hb dX9_layChoice_8 (by decide) ?_
  refine lv_istore (lv' := [(5, .int 0), (0, .ref (b + a)), (1, .int x1), (2, .int x2), (3, .int x3), (4, .int x4)]) hx hb dX9_layChoice_9 hl (by decide) rfl (fun ls hl => ?_)
  refine lv_iconst (v := 0) hx hb dX9_layChoice_11 (by decide) ?_
  refine lv_istore (lv' := [(6, .int 0), (5, .int 0), (0, .ref (b + a)), (1, .int x1), (2, .int x2), (3, .int x3), (4, .int x4)]) hx hb dX9_layChoice_12 hl (by decide) rfl (fun ls hl => ?_)
  refine lv_iconst (v := 0) hx hb dX9_layChoice_14 (by decide) ?_
  refine lv_istore (lv' := [(7, .int 0), (6, .int 0), (5, .int 0), (0, .ref (b + a)), (1, .int x1), (2, .int x2), (3, .int x3), (4, .int x4)]) hx hb dX9_layChoice_15 hl (by decide) rfl (fun ls hl => ?_)
  exact L17 _ _ hf _ _ _ hw (lv_sub hl [3, 4, 5, 6, 7, 2, 1, 0] rfl)
theorem c_X9_layChoice {l : Launch} {D : va_G} {cA : Nat → ClassId} {b n : Nat} (hn : sg_okN n) {a : Nat} {x1 : Int32} {x2 : Int32} {x3 : Int32} {x4 : Int32} (ha_a : a < n) (hT_a : sg_T a = 9) {h : HP} {Rz : HP} (hf : F_X9_layChoice a x1 x2 x3 x4 h = some Rz) : Met l yX9_layChoice (Cond.code yX9_layChoice cX9_layChoice 14 none :: sg_tbl) ({ frames := 4, cells := 0, slots := 0, locals := 96 } : Room) (va_Pc [.ref (b + a), .int x1, .int x2, .int x3, .int x4] (sg_Wd D b cA n h)) (va_Qv (fun u => u = Rz) (sg_Wd D b cA n) (sg_A b)) 0 0 (sg_A b) := by
  refine Met.ofW (cc := cX9_layChoice) (maxL := 14) (ret := none) (by decide) rfl ?_
  intro p e s m args below meth c s₁ B hml hv
  obtain ⟨rfl, hP, hK, hz, hY, hN⟩ := hv
  have hl := lv_entry [.ref (b + a), .int x1, .int x2, .int x3, .int x4] (n := 14) (Nat.le_of_ble_eq_true rfl)
  rw [lg_entry_eq]
  exact w_X9_layChoice hn ⟨B.exec, B.bytes, findClass_of_methodNamed B.named, fun w h => atoms_spec (ws := Cond.code yX9_layChoice cX9_layChoice 14 none :: sg_tbl) B.pre w (List.mem_cons_of_mem _ h), hK, hN⟩ hz B.returns B.notSynchronized hml (Nat.le_refl _) (Nat.le_refl _) ha_a hT_a hf _ _ _ ⟨hP, hY, va_S.rf⟩ hl
set_option maxHeartbeats 4000000 in
set_option maxRecDepth 100000 in
theorem w_X9_rests {p : Program} {l : Launch} {e : Env} {R : Room} {s : State} {m : MethodId} {args : Array Value} {below : List Frame} {meth : Method} {c : Code} {D : va_G} {cA : Nat → ClassId} {b n : Nat} (hn : sg_okN n) {a : Nat} {x1 : Int32} {x2 : Int32} {x3 : Int32} {h : HP} {Rz : Int32 × HP} (hc : sg_Cx p s m args c cX9_rests RX9 D cA) (hz : s.heap.size = b + n) (hr : meth.sig.returnType = some .int) (hlocks : meth.locks = false) (hml : c.maxLocals = 11) (hRf : 5 ≤ R.frames) (hRl : 129 ≤ R.locals) (ha_a : a < n) (hT_a : sg_T a = 9) (hf : F_X9_rests a x1 x2 x3 h = some Rz) (H : Heap) (locs : List Loc) (ls : Array Slot) (hw : sg_Wo D b cA n s.heap h H locs) (hl : lv_has ls 11 [(0, .ref (b + a)), (1, .int x1), (2, .int x2), (3, .int x3)]) : W p l e R s m args below meth c H locs 0 0 (sg_Qi below args s D b cA n (fun r u => r = Rz.1 ∧ u = Rz.2)) (F0 m 0 ls []) := by
  have hx := hc.1
  have hb := hc.2.1
  have hn0 : 0 < n := sg_pos hn
  have J245 : ∀ (x5 : Int32) (x6 : Int32) (h : HP) (H : Heap) (locs : List Loc) (ls : Array Slot), F_X9_rests_J245 a x3 x5 x6 h = some Rz → sg_Wo D b cA n s.heap h H locs → lv_has ls 11 [(3, .int x3), (5, .int x5), (6, .int x6)] → W p l e R s m args below meth c H locs 0 0 (sg_Qi below args s D b cA n (fun r u => r = Rz.1 ∧ u = Rz.2)) (F0 m 245 ls []) := by
    intro x5 x6 h H locs ls hf hw hl
    unfold F_X9_rests_J245 at hf
    refine lv_iload_n hx hb dX9_rests_245 rfl (lv_at hl 0 rfl) ?_
    refine lv_if_ne (tgt := 254) hx hb dX9_rests_246 (by decide) (fun c246 => ?_) (fun c246 => ?_)
    · have hf := if_no c246 hf
      refine lv_iload hx hb dX9_rests_254 (lv_at hl 2 rfl) ?_
      cases hf
      exact sg_iret hc hw hz hn0 hr hlocks ⟨rfl, rfl⟩ dX9_rests_256
    · have hf := if_of c246 hf
      refine lv_iload hx hb dX9_rests_249 (lv_at hl 1 rfl) ?_
      refine lv_goto (tgt := 256) hx hb dX9_rests_251 (by decide) ?_
      cases hf
      exact sg_iret hc hw hz hn0 hr hlocks ⟨rfl, rfl⟩ dX9_rests_256
  have L93 : ∀ (x4 : Int32) (h : HP) (k : Nat) (x : (Int32 × Int32 × Int32)), F_X9_rests_L93 a x3 x4 h k x = some Rz → ∀ (H : Heap) (locs : List Loc) (ls : Array Slot), sg_Wo D b cA n s.heap h H locs → lv_has ls 11 [(0, .ref (b + a)), (3, .int x3), (4, .int x4), (5, .int x.1), (6, .int x.2.1), (7, .int x.2.2)] → W p l e R s m args below meth c H locs 0 0 (sg_Qi below args s D b cA n (fun r u => r = Rz.1 ∧ u = Rz.2)) (F0 m 93 ls []) := by
    intro x4 h
    unfold F_X9_rests_L93
    refine lp_walk ?_
    intro rc93 hrc93 x hf H locs ls hw hl
    obtain ⟨x5, x6, x7⟩ := x
    dsimp only at hf hw hl
    have J239 : ∀ (x5 : Int32) (x6 : Int32) (x7 : Int32) (H : Heap) (locs : List Loc) (ls : Array Slot), F_X9_rests_J239 a rc93 x3 x4 x5 x6 x7 h = some Rz → sg_Wo D b cA n s.heap h H locs → lv_has ls 11 [(0, .ref (b + a)), (3, .int x3), (4, .int x4), (5, .int x5), (6, .int x6), (7, .int x7)] → W p l e R s m args below meth c H locs 0 0 (sg_Qi below args s D b cA n (fun r u => r = Rz.1 ∧ u = Rz.2)) (F0 m 239 ls []) := by
      intro x5 x6 x7 H locs ls hf hw hl
      unfold F_X9_rests_J239 at hf
      refine lv_iinc (v := (x7 + (-1))) (lv' := [(7, .int (x7 + (-1))), (0, .ref (b + a)), (3, .int x3), (4, .int x4), (5, .int x5), (6, .int x6)]) hx hb dX9_rests_239 hl (k := 5) rfl rfl (by decide) rfl (fun ls hl => ?_)
      refine lv_goto (tgt := 93) hx hb dX9_rests_242 (by decide) ?_
      exact hrc93 _ hf _ _ _ hw (lv_sub hl [1, 2, 3, 4, 5, 0] rfl)
    have L104 : ∀ (x7 : Int32) (k : Nat) (x : (Int32 × Int32 × Int32)), F_X9_rests_L104 a rc93 x3 x4 x7 h k x = some Rz → ∀ (H : Heap) (locs : List Loc) (ls : Array Slot), sg_Wo D b cA n s.heap h H locs → lv_has ls 11 [(0, .ref (b + a)), (3, .int x3), (4, .int x4), (5, .int x.1), (6, .int x.2.1), (7, .int x7), (8, .int x.2.2)] → W p l e R s m args below meth c H locs 0 0 (sg_Qi below args s D b cA n (fun r u => r = Rz.1 ∧ u = Rz.2)) (F0 m 104 ls []) := by
      intro x7
      unfold F_X9_rests_L104
      refine lp_walk ?_
      intro rc104 hrc104 x hf H locs ls hw hl
      obtain ⟨x5, x6, x8⟩ := x
      dsimp only at hf hw hl
      have J231 : ∀ (x5 : Int32) (x8 : Int32) (s0 : Int32) (H : Heap) (locs : List Loc) (ls : Array Slot), F_X9_rests_J231 a rc93 rc104 x3 x4 x5 x7 x8 s0 h = some Rz → sg_Wo D b cA n s.heap h H locs → lv_has ls 11 [(0, .ref (b + a)), (3, .int x3), (4, .int x4), (5, .int x5), (7, .int x7), (8, .int x8)] → W p l e R s m args below meth c H locs 0 0 (sg_Qi below args s D b cA n (fun r u => r = Rz.1 ∧ u = Rz.2)) (F0 m 231 ls [.int s0]) := by
        intro x5 x8 s0 H locs ls hf hw hl
        unfold F_X9_rests_J231 at hf
        refine lv_istore (lv' := [(6, .int s0), (0, .ref (b + a)), (3, .int x3), (4, .int x4), (5, .int x5), (7, .int x7), (8, .int x8)]) hx hb dX9_rests_231 hl (by decide) rfl (fun ls hl => ?_)
        refine lv_iinc (v := (x8 + (-1))) (lv' := [(8, .int (x8 + (-1))), (6, .int s0), (0, .ref (b + a)), (3, .int x3), (4, .int x4), (5, .int x5), (7, .int x7)]) hx hb dX9_rests_233 hl (k := 6) rfl rfl (by decide) rfl (fun ls hl => ?_)
        refine lv_goto (tgt := 104) hx hb dX9_rests_236 (by decide) ?_
        exact hrc104 _ hf _ _ _ hw (lv_sub hl [2, 3, 4, 5, 1, 6, 0] rfl)
      have J210 : ∀ (x6 : Int32) (x8 : Int32) (x9 : Int32) (s0 : Int32) (s1 : Int32) (H : Heap) (locs : List Loc) (ls : Array Slot), F_X9_rests_J210 a rc93 rc104 x3 x4 x6 x7 x8 x9 s0 s1 h = some Rz → sg_Wo D b cA n s.heap h H locs → lv_has ls 11 [(0, .ref (b + a)), (3, .int x3), (4, .int x4), (6, .int x6), (7, .int x7), (8, .int x8), (9, .int x9)] → W p l e R s m args below meth c H locs 0 0 (sg_Qi below args s D b cA n (fun r u => r = Rz.1 ∧ u = Rz.2)) (F0 m 210 ls [.int s0, .int s1]) := by
        intro x6 x8 x9 s0 s1 H locs ls hf hw hl
        unfold F_X9_rests_J210 at hf
        refine lv_iadd hx hb dX9_rests_210 ?_
        refine lv_topi (fun v211 e211 => ?_)
        have hf := nm_of e211 hf
        refine lv_istore (lv' := [(5, .int v211), (0, .ref (b + a)), (3, .int x3), (4, .int x4), (6, .int x6), (7, .int x7), (8, .int x8), (9, .int x9)]) hx hb dX9_rests_211 hl (by decide) rfl (fun ls hl => ?_)
        refine lv_iload hx hb dX9_rests_213 (lv_at hl 7 rfl) ?_
        refine lv_if_eq (tgt := 229) hx hb dX9_rests_215 (by decide) (fun c215 => ?_) (fun c215 => ?_)
        · have hf := if_of c215 hf
          refine lv_iload hx hb dX9_rests_229 (lv_at hl 4 rfl) ?_
          exact J231 v211 x8 x6 _ _ _ hf hw (lv_sub hl [1, 2, 3, 0, 5, 6] rfl)
        · have hf := if_no c215 hf
          refine lv_bipush (v := 8) hx hb dX9_rests_218 (by decide) ?_
          refine lv_iload hx hb dX9_rests_220 (lv_at hl 5 rfl) ?_
          refine lv_imul hx hb dX9_rests_222 ?_
          refine lv_iload hx hb dX9_rests_223 (lv_at hl 6 rfl) ?_
          refine lv_iadd hx hb dX9_rests_225 ?_
          refine lv_goto (tgt := 231) hx hb dX9_rests_226 (by decide) ?_
          exact J231 v211 x8 ((8 * x7) + x8) _ _ _ hf hw (lv_sub hl [1, 2, 3, 0, 5, 6] rfl)
      have J198 : ∀ (x5 : Int32) (x6 : Int32) (x8 : Int32) (x9 : Int32) (H : Heap) (locs : List Loc) (ls : Array Slot), F_X9_rests_J198 a rc93 rc104 x3 x4 x5 x6 x7 x8 x9 h = some Rz → sg_Wo D b cA n s.heap h H locs → lv_has ls 11 [(0, .ref (b + a)), (3, .int x3), (4, .int x4), (5, .int x5), (6, .int x6), (7, .int x7), (8, .int x8), (9, .int x9)] → W p l e R s m args below meth c H locs 0 0 (sg_Qi below args s D b cA n (fun r u => r = Rz.1 ∧ u = Rz.2)) (F0 m 198 ls []) := by
        intro x5 x6 x8 x9 H locs ls hf hw hl
        unfold F_X9_rests_J198 at hf
        refine lv_iload hx hb dX9_rests_198 (lv_at hl 3 rfl) ?_
        refine lv_iload hx hb dX9_rests_200 (lv_at hl 7 rfl) ?_
        refine lv_if_eq (tgt := 209) hx hb dX9_rests_202 (by decide) (fun c202 => ?_) (fun c202 => ?_)
        · have hf := if_of c202 hf
          refine lv_iconst (v := 0) hx hb dX9_rests_209 (by decide) ?_
          exact J210 x6 x8 x9 0 x5 _ _ _ hf hw (lv_sub hl [0, 1, 2, 4, 5, 6, 7] rfl)
        · have hf := if_no c202 hf
          refine lv_iconst (v := 1) hx hb dX9_rests_205 (by decide) ?_
          refine lv_goto (tgt := 210) hx hb dX9_rests_206 (by decide) ?_
          exact J210 x6 x8 x9 1 x5 _ _ _ hf hw (lv_sub hl [0, 1, 2, 4, 5, 6, 7] rfl)
      have L115 : ∀ (x5 : Int32) (x6 : Int32) (x8 : Int32) (k : Nat) (x : (Int32 × Int32)), F_X9_rests_L115 a rc93 rc104 x3 x4 x5 x6 x7 x8 h k x = some Rz → ∀ (H : Heap) (locs : List Loc) (ls : Array Slot), sg_Wo D b cA n s.heap h H locs → lv_has ls 11 [(0, .ref (b + a)), (3, .int x3), (4, .int x4), (5, .int x5), (6, .int x6), (7, .int x7), (8, .int x8), (9, .int x.1), (10, .int x.2)] → W p l e R s m args below meth c H locs 0 0 (sg_Qi below args s D b cA n (fun r u => r = Rz.1 ∧ u = Rz.2)) (F0 m 115 ls []) := by
        intro x5 x6 x8
        unfold F_X9_rests_L115
        refine lp_walk ?_
        intro rc115 hrc115 x hf H locs ls hw hl
        obtain ⟨x9, x10⟩ := x
        dsimp only at hf hw hl
        have J190 : ∀ (x10 : Int32) (s0 : Int32) (H : Heap) (locs : List Loc) (ls : Array Slot), F_X9_rests_J190 a rc93 rc104 rc115 x3 x4 x5 x6 x7 x8 x10 s0 h = some Rz → sg_Wo D b cA n s.heap h H locs → lv_has ls 11 [(0, .ref (b + a)), (3, .int x3), (4, .int x4), (5, .int x5), (6, .int x6), (7, .int x7), (8, .int x8), (10, .int x10)] → W p l e R s m args below meth c H locs 0 0 (sg_Qi below args s D b cA n (fun r u => r = Rz.1 ∧ u = Rz.2)) (F0 m 190 ls [.int s0]) := by
          intro x10 s0 H locs ls hf hw hl
          unfold F_X9_rests_J190 at hf
          refine lv_istore (lv' := [(9, .int s0), (0, .ref (b + a)), (3, .int x3), (4, .int x4), (5, .int x5), (6, .int x6), (7, .int x7), (8, .int x8), (10, .int x10)]) hx hb dX9_rests_190 hl (by decide) rfl (fun ls hl => ?_)
          refine lv_iinc (v := (x10 + 1)) (lv' := [(10, .int (x10 + 1)), (9, .int s0), (0, .ref (b + a)), (3, .int x3), (4, .int x4), (5, .int x5), (6, .int x6), (7, .int x7), (8, .int x8)]) hx hb dX9_rests_192 hl (k := 8) rfl rfl (by decide) rfl (fun ls hl => ?_)
          refine lv_goto (tgt := 115) hx hb dX9_rests_195 (by decide) ?_
          exact hrc115 _ hf _ _ _ hw (lv_sub hl [2, 3, 4, 5, 6, 7, 8, 1, 0] rfl)
        have J189 : ∀ (x10 : Int32) (H : Heap) (locs : List Loc) (ls : Array Slot), F_X9_rests_J189 a rc93 rc104 rc115 x3 x4 x5 x6 x7 x8 x10 h = some Rz → sg_Wo D b cA n s.heap h H locs → lv_has ls 11 [(0, .ref (b + a)), (3, .int x3), (4, .int x4), (5, .int x5), (6, .int x6), (7, .int x7), (8, .int x8), (10, .int x10)] → W p l e R s m args below meth c H locs 0 0 (sg_Qi below args s D b cA n (fun r u => r = Rz.1 ∧ u = Rz.2)) (F0 m 189 ls []) := by
          intro x10 H locs ls hf hw hl
          unfold F_X9_rests_J189 at hf
          refine lv_iconst (v := 0) hx hb dX9_rests_189 (by decide) ?_
          exact J190 x10 0 _ _ _ hf hw (lv_sub hl [0, 1, 2, 3, 4, 5, 6, 7] rfl)
        refine lv_iload hx hb dX9_rests_115 (lv_at hl 8 rfl) ?_
        refine lv_iload hx hb dX9_rests_117 (lv_at hl 2 rfl) ?_
        refine lv_icmp_ge (tgt := 198) hx hb dX9_rests_119 (by decide) (fun c119 => ?_) (fun c119 => ?_)
        · have hf := if_of c119 hf
          exact J198 x5 x6 x8 x9 _ _ _ hf hw (lv_sub hl [0, 1, 2, 3, 4, 5, 6, 7] rfl)
        · have hf := if_no c119 hf
          refine lv_iload hx hb dX9_rests_122 (lv_at hl 7 rfl) ?_
          refine lv_if_eq (tgt := 189) hx hb dX9_rests_124 (by decide) (fun c124 => ?_) (fun c124 => ?_)
          · have hf := if_of c124 hf
            exact J189 x10 _ _ _ hf hw (lv_sub hl [0, 1, 2, 3, 4, 5, 6, 8] rfl)
          · have hf := if_no c124 hf
            refine lv_aload_n hx hb dX9_rests_127 rfl (lv_at hl 0 rfl) ?_
            obtain ⟨hF128, hT128, ha128, hN128⟩ := ft_9_26 hn ha_a hT_a
            refine sg_getf (q := (a + 19)) hc hw ha_a hT_a fr_9_26 (by decide) k_899 dX9_rests_128 hF128 ?_
            refine lv_bipush (v := 6) hx hb dX9_rests_131 (by decide) ?_
            refine lv_iload hx hb dX9_rests_133 (lv_at hl 8 rfl) ?_
            refine lv_imul hx hb dX9_rests_135 ?_
            refine lv_iload hx hb dX9_rests_136 (lv_at hl 6 rfl) ?_
            refine lv_iadd hx hb dX9_rests_138 ?_
            obtain ⟨hg139, hf⟩ := gd_of hf
            refine sg_ild hc hw ha128 hT128 hN128 hg139 dX9_rests_139 ?_
            refine lv_aload_n hx hb dX9_rests_140 rfl (lv_at hl 0 rfl) ?_
            refine sg_getf (q := (a + 19)) hc hw ha_a hT_a fr_9_26 (by decide) k_899 dX9_rests_141 (ft_9_26 hn ha_a hT_a).1 ?_
            refine lv_bipush (v := 6) hx hb dX9_rests_144 (by decide) ?_
            refine lv_iload hx hb dX9_rests_146 (lv_at hl 5 rfl) ?_
            refine lv_imul hx hb dX9_rests_148 ?_
            refine lv_iload hx hb dX9_rests_149 (lv_at hl 6 rfl) ?_
            refine lv_iadd hx hb dX9_rests_151 ?_
            obtain ⟨hg152, hf⟩ := gd_of hf
            refine sg_ild hc hw ha128 hT128 hN128 hg152 dX9_rests_152 ?_
            refine lv_icmp_gt (tgt := 189) hx hb dX9_rests_153 (by decide) (fun c153 => ?_) (fun c153 => ?_)
            · have hf := if_of c153 hf
              exact J189 x10 _ _ _ hf hw (lv_sub hl [0, 1, 2, 3, 4, 5, 6, 8] rfl)
            · have hf := if_no c153 hf
              refine lv_aload_n hx hb dX9_rests_156 rfl (lv_at hl 0 rfl) ?_
              obtain ⟨hF157, hT157, ha157, hN157⟩ := ft_9_27 hn ha_a hT_a
              refine sg_getf (q := (a + 20)) hc hw ha_a hT_a fr_9_27 (by decide) k_900 dX9_rests_157 hF157 ?_
              refine lv_bipush (v := 6) hx hb dX9_rests_160 (by decide) ?_
              refine lv_iload hx hb dX9_rests_162 (lv_at hl 5 rfl) ?_
              refine lv_imul hx hb dX9_rests_164 ?_
              refine lv_iload hx hb dX9_rests_165 (lv_at hl 8 rfl) ?_
              refine lv_iadd hx hb dX9_rests_167 ?_
              obtain ⟨hg168, hf⟩ := gd_of hf
              refine sg_ild hc hw ha157 hT157 hN157 hg168 dX9_rests_168 ?_
              refine lv_aload_n hx hb dX9_rests_169 rfl (lv_at hl 0 rfl) ?_
              refine sg_getf (q := (a + 20)) hc hw ha_a hT_a fr_9_27 (by decide) k_900 dX9_rests_170 (ft_9_27 hn ha_a hT_a).1 ?_
              refine lv_bipush (v := 6) hx hb dX9_rests_173 (by decide) ?_
              refine lv_iload hx hb dX9_rests_175 (lv_at hl 5 rfl) ?_
              refine lv_imul hx hb dX9_rests_177 ?_
              refine lv_iload hx hb dX9_rests_178 (lv_at hl 6 rfl) ?_
              refine lv_iadd hx hb dX9_rests_180 ?_
              obtain ⟨hg181, hf⟩ := gd_of hf
              refine sg_ild hc hw ha157 hT157 hN157 hg181 dX9_rests_181 ?_
              refine lv_icmp_gt (tgt := 189) hx hb dX9_rests_182 (by decide) (fun c182 => ?_) (fun c182 => ?_)
              · have hf := if_of c182 hf
                exact J189 x10 _ _ _ hf hw (lv_sub hl [0, 1, 2, 3, 4, 5, 6, 8] rfl)
              · have hf := if_no c182 hf
                refine lv_iconst (v := 1) hx hb dX9_rests_185 (by decide) ?_
                refine lv_goto (tgt := 190) hx hb dX9_rests_186 (by decide) ?_
                exact J190 x10 1 _ _ _ hf hw (lv_sub hl [0, 1, 2, 3, 4, 5, 6, 8] rfl)
      refine lv_iload hx hb dX9_rests_104 (lv_at hl 6 rfl) ?_
      refine lv_if_lt (tgt := 239) hx hb dX9_rests_106 (by decide) (fun c106 => ?_) (fun c106 => ?_)
      · have hf := if_of c106 hf
        exact J239 x5 x6 x7 _ _ _ hf hw (lv_sub hl [0, 1, 2, 3, 4, 5] rfl)
      · have hf := if_no c106 hf
        refine lv_iconst (v := 1) hx hb dX9_rests_109 (by decide) ?_
        refine lv_istore (lv' := [(9, .int 1), (0, .ref (b + a)), (3, .int x3), (4, .int x4), (5, .int x5), (6, .int x6), (7, .int x7), (8, .int x8)]) hx hb dX9_rests_110 hl (by decide) rfl (fun ls hl => ?_)
        refine lv_iconst (v := 0) hx hb dX9_rests_112 (by decide) ?_
        refine lv_istore (lv' := [(10, .int 0), (9, .int 1), (0, .ref (b + a)), (3, .int x3), (4, .int x4), (5, .int x5), (6, .int x6), (7, .int x7), (8, .int x8)]) hx hb dX9_rests_113 hl (by decide) rfl (fun ls hl => ?_)
        exact L115 x5 x6 x8 _ _ hf _ _ _ hw (lv_sub hl [2, 3, 4, 5, 6, 7, 8, 1, 0] rfl)
    refine lv_iload hx hb dX9_rests_93 (lv_at hl 5 rfl) ?_
    refine lv_if_lt (tgt := 245) hx hb dX9_rests_95 (by decide) (fun c95 => ?_) (fun c95 => ?_)
    · have hf := if_of c95 hf
      exact J245 x5 x6 _ _ _ _ hf hw (lv_sub hl [1, 3, 4] rfl)
    · have hf := if_no c95 hf
      refine lv_iload hx hb dX9_rests_98 (lv_at hl 2 rfl) ?_
      refine lv_iconst (v := 1) hx hb dX9_rests_100 (by decide) ?_
      refine lv_isub hx hb dX9_rests_101 ?_
      refine lv_topi (fun v102 e102 => ?_)
      have hf := nm_of e102 hf
      refine lv_istore (lv' := [(8, .int v102), (0, .ref (b + a)), (3, .int x3), (4, .int x4), (5, .int x5), (6, .int x6), (7, .int x7)]) hx hb dX9_rests_102 hl (by decide) rfl (fun ls hl => ?_)
      exact L104 x7 _ _ hf _ _ _ hw (lv_sub hl [1, 2, 3, 4, 5, 6, 0] rfl)
  have J80 : ∀ (x4 : Int32) (h : HP) (H : Heap) (locs : List Loc) (ls : Array Slot), F_X9_rests_J80 a x3 x4 h = some Rz → sg_Wo D b cA n s.heap h H locs → lv_has ls 11 [(0, .ref (b + a)), (3, .int x3), (4, .int x4)] → W p l e R s m args below meth c H locs 0 0 (sg_Qi below args s D b cA n (fun r u => r = Rz.1 ∧ u = Rz.2)) (F0 m 80 ls []) := by
    intro x4 h H locs ls hf hw hl
    unfold F_X9_rests_J80 at hf
    refine lv_iconst (v := 0) hx hb dX9_rests_80 (by decide) ?_
    refine lv_istore (lv' := [(5, .int 0), (0, .ref (b + a)), (3, .int x3), (4, .int x4)]) hx hb dX9_rests_81 hl (by decide) rfl (fun ls hl => ?_)
    refine lv_bipush (v := (-4)) hx hb dX9_rests_83 (by decide) ?_
    refine lv_istore (lv' := [(6, .int (-4)), (5, .int 0), (0, .ref (b + a)), (3, .int x3), (4, .int x4)]) hx hb dX9_rests_85 hl (by decide) rfl (fun ls hl => ?_)
    refine lv_iload hx hb dX9_rests_87 (lv_at hl 4 rfl) ?_
    refine lv_iconst (v := 1) hx hb dX9_rests_89 (by decide) ?_
    refine lv_isub hx hb dX9_rests_90 ?_
    refine lv_topi (fun v91 e91 => ?_)
    have hf := nm_of e91 hf
    refine lv_istore (lv' := [(7, .int v91), (6, .int (-4)), (5, .int 0), (0, .ref (b + a)), (3, .int x3), (4, .int x4)]) hx hb dX9_rests_91 hl (by decide) rfl (fun ls hl => ?_)
    exact L93 x4 _ _ _ hf _ _ _ hw (lv_sub hl [3, 4, 5, 2, 1, 0] rfl)
  have L41 : ∀ (x4 : Int32) (k : Nat) (x : (Int32 × HP)), F_X9_rests_L41 a x1 x2 x3 x4 k x = some Rz → ∀ (H : Heap) (locs : List Loc) (ls : Array Slot), sg_Wo D b cA n s.heap x.2 H locs → lv_has ls 11 [(0, .ref (b + a)), (1, .int x1), (2, .int x2), (3, .int x3), (4, .int x4), (5, .int x.1)] → W p l e R s m args below meth c H locs 0 0 (sg_Qi below args s D b cA n (fun r u => r = Rz.1 ∧ u = Rz.2)) (F0 m 41 ls []) := by
    intro x4
    unfold F_X9_rests_L41
    refine lp_walk ?_
    intro rc41 hrc41 x hf H locs ls hw hl
    obtain ⟨x5, h⟩ := x
    dsimp only at hf hw hl
    have J74 : ∀ (x5 : Int32) (h : HP) (H : Heap) (locs : List Loc) (ls : Array Slot), F_X9_rests_J74 a rc41 x1 x2 x3 x4 x5 h = some Rz → sg_Wo D b cA n s.heap h H locs → lv_has ls 11 [(0, .ref (b + a)), (1, .int x1), (2, .int x2), (3, .int x3), (4, .int x4), (5, .int x5)] → W p l e R s m args below meth c H locs 0 0 (sg_Qi below args s D b cA n (fun r u => r = Rz.1 ∧ u = Rz.2)) (F0 m 74 ls []) := by
      intro x5 h H locs ls hf hw hl
      unfold F_X9_rests_J74 at hf
      refine lv_iinc (v := (x5 + 1)) (lv' := [(5, .int (x5 + 1)), (0, .ref (b + a)), (1, .int x1), (2, .int x2), (3, .int x3), (4, .int x4)]) hx hb dX9_rests_74 hl (k := 5) rfl rfl (by decide) rfl (fun ls hl => ?_)
      refine lv_goto (tgt := 41) hx hb dX9_rests_77 (by decide) ?_
      exact hrc41 _ hf _ _ _ hw (lv_sub hl [1, 2, 3, 4, 5, 0] rfl)
    have L51 : ∀ (x5 : Int32) (k : Nat) (x : (Int32 × HP)), F_X9_rests_L51 a rc41 x1 x2 x3 x4 x5 k x = some Rz → ∀ (H : Heap) (locs : List Loc) (ls : Array Slot), sg_Wo D b cA n s.heap x.2 H locs → lv_has ls 11 [(0, .ref (b + a)), (1, .int x1), (2, .int x2), (3, .int x3), (4, .int x4), (5, .int x5), (6, .int x.1)] → W p l e R s m args below meth c H locs 0 0 (sg_Qi below args s D b cA n (fun r u => r = Rz.1 ∧ u = Rz.2)) (F0 m 51 ls []) := by
      intro x5
      unfold F_X9_rests_L51
      refine lp_walk ?_
      intro rc51 hrc51 x hf H locs ls hw hl
      obtain ⟨x6, h⟩ := x
      dsimp only at hf hw hl
      refine lv_iload hx hb dX9_rests_51 (lv_at hl 6 rfl) ?_
      refine lv_iload hx hb dX9_rests_53 (lv_at hl 4 rfl) ?_
      refine lv_icmp_ge (tgt := 74) hx hb dX9_rests_55 (by decide) (fun c55 => ?_) (fun c55 => ?_)
      · have hf := if_of c55 hf
        exact J74 x5 _ _ _ _ hf hw (lv_sub hl [0, 1, 2, 3, 4, 5] rfl)
      · have hf := if_no c55 hf
        refine lv_aload_n hx hb dX9_rests_58 rfl (lv_at hl 0 rfl) ?_
        refine lv_iload_n hx hb dX9_rests_59 rfl (lv_at hl 1 rfl) ?_
        refine lv_iload_n hx hb dX9_rests_60 rfl (lv_at hl 2 rfl) ?_
        refine lv_iload hx hb dX9_rests_61 (lv_at hl 5 rfl) ?_
        refine lv_iload hx hb dX9_rests_63 (lv_at hl 6 rfl) ?_
        obtain ⟨p65, hp65, hf⟩ := cl_of hf
        refine sg_vv (rest := []) (c_X9_layChoice hn ha_a hT_a hp65) hc hw hz hml hl ha_a hT_a (by decide) rfl cv_X9_269 ⟨⟨rfl, rfl⟩, Nat.le_trans (Nat.le_of_ble_eq_true rfl) hRf, Nat.le_trans (Nat.le_of_ble_eq_true rfl) hRl⟩ ⟨Nat.zero_le _, Nat.zero_le _⟩ rfl rfl (Nat.le_of_ble_eq_true rfl) dX9_rests_65 (fun h1 H locs hp hw => ?_)
        subst h1
        refine lv_iinc (v := (x6 + 1)) (lv' := [(6, .int (x6 + 1)), (0, .ref (b + a)), (1, .int x1), (2, .int x2), (3, .int x3), (4, .int x4), (5, .int x5)]) hx hb dX9_rests_68 hl (k := 6) rfl rfl (by decide) rfl (fun ls hl => ?_)
        refine lv_goto (tgt := 51) hx hb dX9_rests_71 (by decide) ?_
        exact hrc51 _ hf _ _ _ hw (lv_sub hl [1, 2, 3, 4, 5, 6, 0] rfl)
    refine lv_iload hx hb dX9_rests_41 (lv_at hl 5 rfl) ?_
    refine lv_iload hx hb dX9_rests_43 (lv_at hl 4 rfl) ?_
    refine lv_icmp_ge (tgt := 80) hx hb dX9_rests_45 (by decide) (fun c45 => ?_) (fun c45 => ?_)
    · have hf := if_of c45 hf
      exact J80 x4 _ _ _ _ hf hw (lv_sub hl [0, 3, 4] rfl)
    · have hf := if_no c45 hf
      refine lv_iconst (v := 0) hx hb dX9_rests_48 (by decide) ?_
      refine lv_istore (lv' := [(6, .int 0), (0, .ref (b + a)), (1, .int x1), (2, .int x2), (3, .int x3), (4, .int x4), (5, .int x5)]) hx hb dX9_rests_49 hl (by decide) rfl (fun ls hl => ?_)
      exact L51 x5 _ _ hf _ _ _ hw (lv_sub hl [1, 2, 3, 4, 5, 6, 0] rfl)
  unfold F_X9_rests at hf
  refine lv_aload_n hx hb dX9_rests_0 rfl (lv_at hl 0 rfl) ?_
  refine lv_iload_n hx hb dX9_rests_1 rfl (lv_at hl 1 rfl) ?_
  obtain ⟨p2, hp2, hf⟩ := cl_of hf
  refine sg_vi (rest := []) (c_X9_isBearer hn ha_a hT_a hp2) hc hw hz hml hl ha_a hT_a (by decide) rfl cv_X9_220 ⟨⟨rfl, rfl⟩, Nat.le_trans (Nat.le_of_ble_eq_true rfl) hRf, Nat.le_trans (Nat.le_of_ble_eq_true rfl) hRl⟩ ⟨Nat.zero_le _, Nat.zero_le _⟩ rfl rfl (Nat.le_of_ble_eq_true rfl) dX9_rests_2 (fun r h1 H locs hp hw => ?_)
  obtain ⟨⟨e1, e2⟩, hb2⟩ := hp; subst r; subst h1
  refine lv_if_eq (tgt := 28) hx hb dX9_rests_5 (by decide) (fun c5 => ?_) (fun c5 => ?_)
  · have hf := if_of c5 hf
    refine lv_iconst (v := (-1)) hx hb dX9_rests_28 (by decide) ?_
    cases hf
    exact sg_iret hc hw hz hn0 hr hlocks ⟨rfl, rfl⟩ dX9_rests_29
  · have hf := if_no c5 hf
    refine lv_aload_n hx hb dX9_rests_8 rfl (lv_at hl 0 rfl) ?_
    refine lv_iload_n hx hb dX9_rests_9 rfl (lv_at hl 2 rfl) ?_
    obtain ⟨p10, hp10, hf⟩ := cl_of hf
    refine sg_vi (rest := []) (c_X9_isBearer hn ha_a hT_a hp10) hc hw hz hml hl ha_a hT_a (by decide) rfl cv_X9_220 ⟨⟨rfl, rfl⟩, Nat.le_trans (Nat.le_of_ble_eq_true rfl) hRf, Nat.le_trans (Nat.le_of_ble_eq_true rfl) hRl⟩ ⟨Nat.zero_le _, Nat.zero_le _⟩ rfl rfl (Nat.le_of_ble_eq_true rfl) dX9_rests_10 (fun r h1 H locs hp hw => ?_)
    obtain ⟨⟨e1, e2⟩, hb10⟩ := hp; subst r; subst h1
    refine lv_if_eq (tgt := 28) hx hb dX9_rests_13 (by decide) (fun c13 => ?_) (fun c13 => ?_)
    · have hf := if_of c13 hf
      refine lv_iconst (v := (-1)) hx hb dX9_rests_28 (by decide) ?_
      cases hf
      exact sg_iret hc hw hz hn0 hr hlocks ⟨rfl, rfl⟩ dX9_rests_29
    · have hf := if_no c13 hf
      refine lv_iload_n hx hb dX9_rests_16 rfl (lv_at hl 1 rfl) ?_
      refine lv_iload_n hx hb dX9_rests_17 rfl (lv_at hl 2 rfl) ?_
      refine lv_icmp_eq (tgt := 28) hx hb dX9_rests_18 (by decide) (fun c18 => ?_) (fun c18 => ?_)
      · have hf := if_of c18 hf
        refine lv_iconst (v := (-1)) hx hb dX9_rests_28 (by decide) ?_
        cases hf
        exact sg_iret hc hw hz hn0 hr hlocks ⟨rfl, rfl⟩ dX9_rests_29
      · have hf := if_no c18 hf
        refine lv_iload_n hx hb dX9_rests_21 rfl (lv_at hl 3 rfl) ?_
        obtain ⟨p22, hp22, hf⟩ := cl_of hf
        refine sg_si (rest := []) (c_X9_isTwo hn (h := h) hp22) hc hw hz hn0 hml hl cs_X9_225 ⟨⟨rfl, rfl⟩, Nat.le_trans (Nat.le_of_ble_eq_true rfl) hRf, Nat.le_trans (Nat.le_of_ble_eq_true rfl) hRl⟩ ⟨Nat.zero_le _, Nat.zero_le _⟩ rfl rfl (Nat.le_of_ble_eq_true rfl) dX9_rests_22 (fun r h1 H locs hp hw => ?_)
        obtain ⟨⟨e1, e2⟩, hb22⟩ := hp; subst r; subst h1
        refine lv_if_ne (tgt := 30) hx hb dX9_rests_25 (by decide) (fun c25 => ?_) (fun c25 => ?_)
        · have hf := if_no c25 hf
          refine lv_aload_n hx hb dX9_rests_30 rfl (lv_at hl 0 rfl) ?_
          obtain ⟨hF31, hT31, ha31, hN31⟩ := ft_9_0 hn ha_a hT_a
          refine sg_getf (q := (a + 1)) hc hw ha_a hT_a fr_9_0 (by decide) k_873 dX9_rests_31 hF31 ?_
          refine lv_iconst (v := 0) hx hb dX9_rests_34 (by decide) ?_
          refine sg_ild hc hw ha31 hT31 hN31 (show vp_in 0 34 by unfold vp_in; decide) dX9_rests_35 ?_
          refine lv_topi (fun v36 e36 => ?_)
          have hf := nm_of e36 hf
          refine lv_istore (lv' := [(4, .int v36), (0, .ref (b + a)), (1, .int x1), (2, .int x2), (3, .int x3)]) hx hb dX9_rests_36 hl (by decide) rfl (fun ls hl => ?_)
          refine lv_iconst (v := 0) hx hb dX9_rests_38 (by decide) ?_
          refine lv_istore (lv' := [(5, .int 0), (4, .int v36), (0, .ref (b + a)), (1, .int x1), (2, .int x2), (3, .int x3)]) hx hb dX9_rests_39 hl (by decide) rfl (fun ls hl => ?_)
          exact L41 v36 _ _ hf _ _ _ hw (lv_sub hl [2, 3, 4, 5, 1, 0] rfl)
        · have hf := if_of c25 hf
          refine lv_iconst (v := (-1)) hx hb dX9_rests_28 (by decide) ?_
          cases hf
          exact sg_iret hc hw hz hn0 hr hlocks ⟨rfl, rfl⟩ dX9_rests_29
theorem c_X9_rests {l : Launch} {D : va_G} {cA : Nat → ClassId} {b n : Nat} (hn : sg_okN n) {a : Nat} {x1 : Int32} {x2 : Int32} {x3 : Int32} (ha_a : a < n) (hT_a : sg_T a = 9) {h : HP} {Rz : Int32 × HP} (hf : F_X9_rests a x1 x2 x3 h = some Rz) : Met l yX9_rests (Cond.code yX9_rests cX9_rests 11 (some .int) :: sg_tbl) ({ frames := 5, cells := 0, slots := 0, locals := 129 } : Room) (va_Pc [.ref (b + a), .int x1, .int x2, .int x3] (sg_Wd D b cA n h)) (va_Qi (fun r u => r = Rz.1 ∧ u = Rz.2) (sg_Wd D b cA n) (sg_A b)) 0 0 (sg_A b) := by
  refine Met.ofW (cc := cX9_rests) (maxL := 11) (ret := (some .int)) (by decide) rfl ?_
  intro p e s m args below meth c s₁ B hml hv
  obtain ⟨rfl, hP, hK, hz, hY, hN⟩ := hv
  have hl := lv_entry [.ref (b + a), .int x1, .int x2, .int x3] (n := 11) (Nat.le_of_ble_eq_true rfl)
  rw [lg_entry_eq]
  exact w_X9_rests hn ⟨B.exec, B.bytes, findClass_of_methodNamed B.named, fun w h => atoms_spec (ws := Cond.code yX9_rests cX9_rests 11 (some .int) :: sg_tbl) B.pre w (List.mem_cons_of_mem _ h), hK, hN⟩ hz B.returns B.notSynchronized hml (Nat.le_refl _) (Nat.le_refl _) ha_a hT_a hf _ _ _ ⟨hP, hY, va_S.rf⟩ hl
