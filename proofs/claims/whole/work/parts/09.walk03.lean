set_option maxHeartbeats 4000000 in
set_option maxRecDepth 100000 in
theorem w_X8_print {p : Program} {l : Launch} {e : Env} {R : Room} {s : State} {m : MethodId} {args : Array Value} {below : List Frame} {meth : Method} {c : Code} {D : va_G} {cA : Nat → ClassId} {b n : Nat} (hn : sg_okN n) {a : Nat} {x1 : Int32} {x2 : Int32} {h : HP} {Rz : Int32 × HP} (hc : sg_Cx p s m args c cX8_print RX8 D cA) (hz : s.heap.size = b + n) (hr : meth.sig.returnType = some .int) (hlocks : meth.locks = false) (hml : c.maxLocals = 3) (hRf : 1 ≤ R.frames) (hRl : 22 ≤ R.locals) (ha_a : a < n) (hT_a : sg_T a = 8) (hf : F_X8_print a x1 x2 h = some Rz) (H : Heap) (locs : List Loc) (ls : Array Slot) (hw : sg_Wo D b cA n s.heap h H locs) (hl : lv_has ls 3 [(0, .ref (b + a)), (1, .int x1), (2, .int x2)]) : W p l e R s m args below meth c H locs 0 0 (sg_Qi below args s D b cA n (fun r u => r = Rz.1 ∧ u = Rz.2)) (F0 m 0 ls []) := by
  have hx := hc.1
  have hb := hc.2.1
  have hn0 : 0 < n := sg_pos hn
  unfold F_X8_print at hf
  refine lv_aload_n hx hb dX8_print_0 rfl (lv_at hl 0 rfl) ?_
  obtain ⟨hF1, hT1, ha1⟩ := ft_8_3 hn ha_a hT_a
  refine sg_getf (q := (a + 15)) hc hw ha_a hT_a fr_8_3 (by decide) k_520 dX8_print_1 hF1 ?_
  refine lv_iload_n hx hb dX8_print_4 rfl (lv_at hl 1 rfl) ?_
  obtain ⟨p5, hp5, hf⟩ := cl_of hf
  refine sg_vi (rest := []) (c_X1_hasYard hn ha1 hT1 hp5) hc hw hz hml hl ha1 hT1 (by decide) rfl cv_X8_129 ⟨⟨rfl, rfl⟩, Nat.le_trans (Nat.le_of_ble_eq_true rfl) hRf, Nat.le_trans (Nat.le_of_ble_eq_true rfl) hRl⟩ ⟨Nat.zero_le _, Nat.zero_le _⟩ rfl rfl (Nat.le_of_ble_eq_true rfl) dX8_print_5 (fun r h1 H locs hp hw => ?_)
  obtain ⟨⟨e1, e2⟩, hb5⟩ := hp; subst r; subst h1
  refine lv_if_eq (tgt := 21) hx hb dX8_print_8 (by decide) (fun c8 => ?_) (fun c8 => ?_)
  · have hf := if_of c8 hf
    refine lv_iconst (v := (-1)) hx hb dX8_print_21 (by decide) ?_
    cases hf
    exact sg_iret hc hw hz hn0 hr hlocks ⟨rfl, rfl⟩ dX8_print_22
  · have hf := if_no c8 hf
    refine lv_iload_n hx hb dX8_print_11 rfl (lv_at hl 2 rfl) ?_
    refine lv_iconst (v := 0) hx hb dX8_print_12 (by decide) ?_
    refine lv_bipush (v := 6) hx hb dX8_print_13 (by decide) ?_
    obtain ⟨p15, hp15, hf⟩ := cl_of hf
    refine sg_si (rest := []) (c_X8_within hn (h := h) hp15) hc hw hz hn0 hml hl cs_X8_121 ⟨⟨rfl, rfl⟩, Nat.le_trans (Nat.le_of_ble_eq_true rfl) hRf, Nat.le_trans (Nat.le_of_ble_eq_true rfl) hRl⟩ ⟨Nat.zero_le _, Nat.zero_le _⟩ rfl rfl (Nat.le_of_ble_eq_true rfl) dX8_print_15 (fun r h1 H locs hp hw => ?_)
    obtain ⟨⟨e1, e2⟩, hb15⟩ := hp; subst r; subst h1
    refine lv_if_ne (tgt := 23) hx hb dX8_print_18 (by decide) (fun c18 => ?_) (fun c18 => ?_)
    · have hf := if_no c18 hf
      refine lv_aload_n hx hb dX8_print_23 rfl (lv_at hl 0 rfl) ?_
      refine sg_geti hc hw ha_a hT_a fi_8_10 k_527 dX8_print_24 ?_
      refine lv_bipush (v := 8) hx hb dX8_print_27 (by decide) ?_
      refine lv_icmp_lt (tgt := 35) hx hb dX8_print_29 (by decide) (fun c29 => ?_) (fun c29 => ?_)
      · have hf := if_of c29 hf
        refine lv_aload_n hx hb dX8_print_35 rfl (lv_at hl 0 rfl) ?_
        obtain ⟨hF36, hT36, ha36, hN36⟩ := ft_8_8 hn ha_a hT_a
        refine sg_getf (q := (a + 77)) hc hw ha_a hT_a fr_8_8 (by decide) k_525 dX8_print_36 hF36 ?_
        refine lv_aload_n hx hb dX8_print_39 rfl (lv_at hl 0 rfl) ?_
        refine sg_geti hc hw ha_a hT_a fi_8_10 k_527 dX8_print_40 ?_
        refine lv_iload_n hx hb dX8_print_43 rfl (lv_at hl 1 rfl) ?_
        obtain ⟨hg44, hf⟩ := gd_of hf
        refine sg_ist hc hw ha36 hT36 hN36 hg44 dX8_print_44 (fun H locs hw => ?_)
        obtain ⟨h44, hw, hf⟩ := sg_name hw hf
        refine lv_aload_n hx hb dX8_print_45 rfl (lv_at hl 0 rfl) ?_
        obtain ⟨hF46, hT46, ha46, hN46⟩ := ft_8_9 hn ha_a hT_a
        refine sg_getf (q := (a + 78)) hc hw ha_a hT_a fr_8_9 (by decide) k_526 dX8_print_46 hF46 ?_
        refine lv_aload_n hx hb dX8_print_49 rfl (lv_at hl 0 rfl) ?_
        refine sg_geti hc hw ha_a hT_a fi_8_10 k_527 dX8_print_50 ?_
        refine lv_iload_n hx hb dX8_print_53 rfl (lv_at hl 2 rfl) ?_
        obtain ⟨hg54, hf⟩ := gd_of hf
        refine sg_ist hc hw ha46 hT46 hN46 hg54 dX8_print_54 (fun H locs hw => ?_)
        obtain ⟨h54, hw, hf⟩ := sg_name hw hf
        refine lv_aload_n hx hb dX8_print_55 rfl (lv_at hl 0 rfl) ?_
        refine lv_dup hx hb dX8_print_56 rfl ?_
        refine sg_geti hc hw ha_a hT_a fi_8_10 k_527 dX8_print_57 ?_
        refine lv_iconst (v := 1) hx hb dX8_print_60 (by decide) ?_
        refine lv_iadd hx hb dX8_print_61 ?_
        refine sg_puti hc hw ha_a hT_a fp_8_10 rfl rfl k_527 dX8_print_62 (fun H locs hw => ?_)
        obtain ⟨h62, hw, hf⟩ := sg_name hw hf
        refine lv_aload_n hx hb dX8_print_65 rfl (lv_at hl 0 rfl) ?_
        refine sg_geti hc hw ha_a hT_a fi_8_10 k_527 dX8_print_66 ?_
        cases hf
        exact sg_iret hc hw hz hn0 hr hlocks ⟨rfl, rfl⟩ dX8_print_69
      · have hf := if_no c29 hf
        refine lv_bipush (v := (-3)) hx hb dX8_print_32 (by decide) ?_
        cases hf
        exact sg_iret hc hw hz hn0 hr hlocks ⟨rfl, rfl⟩ dX8_print_34
    · have hf := if_of c18 hf
      refine lv_iconst (v := (-1)) hx hb dX8_print_21 (by decide) ?_
      cases hf
      exact sg_iret hc hw hz hn0 hr hlocks ⟨rfl, rfl⟩ dX8_print_22
theorem c_X8_print {l : Launch} {D : va_G} {cA : Nat → ClassId} {b n : Nat} (hn : sg_okN n) {a : Nat} {x1 : Int32} {x2 : Int32} (ha_a : a < n) (hT_a : sg_T a = 8) {h : HP} {Rz : Int32 × HP} (hf : F_X8_print a x1 x2 h = some Rz) : Met l yX8_print (Cond.code yX8_print cX8_print 3 (some .int) :: sg_tbl) ({ frames := 1, cells := 0, slots := 0, locals := 22 } : Room) (va_Pc [.ref (b + a), .int x1, .int x2] (sg_Wd D b cA n h)) (va_Qi (fun r u => r = Rz.1 ∧ u = Rz.2) (sg_Wd D b cA n) (sg_A b)) 0 0 (sg_A b) := by
  refine Met.ofW (cc := cX8_print) (maxL := 3) (ret := (some .int)) (by decide) rfl ?_
  intro p e s m args below meth c s₁ B hml hv
  obtain ⟨rfl, hP, hK, hz, hY, hN⟩ := hv
  have hl := lv_entry [.ref (b + a), .int x1, .int x2] (n := 3) (Nat.le_of_ble_eq_true rfl)
  rw [lg_entry_eq]
  exact w_X8_print hn ⟨B.exec, B.bytes, findClass_of_methodNamed B.named, fun w h => atoms_spec (ws := Cond.code yX8_print cX8_print 3 (some .int) :: sg_tbl) B.pre w (List.mem_cons_of_mem _ h), hK, hN⟩ hz B.returns B.notSynchronized hml (Nat.le_refl _) (Nat.le_refl _) ha_a hT_a hf _ _ _ ⟨hP, hY, va_S.rf⟩ hl
set_option maxHeartbeats 4000000 in
set_option maxRecDepth 100000 in
theorem w_X8_forget {p : Program} {l : Launch} {e : Env} {R : Room} {s : State} {m : MethodId} {args : Array Value} {below : List Frame} {meth : Method} {c : Code} {D : va_G} {cA : Nat → ClassId} {b n : Nat} (hn : sg_okN n) {a : Nat} {h : HP} {Rz : Int32 × HP} (hc : sg_Cx p s m args c cX8_forget RX8 D cA) (hz : s.heap.size = b + n) (hr : meth.sig.returnType = some .int) (hlocks : meth.locks = false) (hml : c.maxLocals = 2) (hRf : 0 ≤ R.frames) (hRl : 0 ≤ R.locals) (ha_a : a < n) (hT_a : sg_T a = 8) (hf : F_X8_forget a h = some Rz) (H : Heap) (locs : List Loc) (ls : Array Slot) (hw : sg_Wo D b cA n s.heap h H locs) (hl : lv_has ls 2 [(0, .ref (b + a))]) : W p l e R s m args below meth c H locs 0 0 (sg_Qi below args s D b cA n (fun r u => r = Rz.1 ∧ u = Rz.2)) (F0 m 0 ls []) := by
  have hx := hc.1
  have hb := hc.2.1
  have hn0 : 0 < n := sg_pos hn
  unfold F_X8_forget at hf
  refine lv_aload_n hx hb dX8_forget_0 rfl (lv_at hl 0 rfl) ?_
  refine sg_geti hc hw ha_a hT_a fi_8_10 k_527 dX8_forget_1 ?_
  refine lv_topi (fun v4 e4 => ?_)
  have hf := nm_of e4 hf
  refine lv_istore_n (lv' := [(1, .int v4), (0, .ref (b + a))]) hx hb dX8_forget_4 rfl hl (by decide) rfl (fun ls hl => ?_)
  refine lv_aload_n hx hb dX8_forget_5 rfl (lv_at hl 1 rfl) ?_
  refine lv_iconst (v := 0) hx hb dX8_forget_6 (by decide) ?_
  refine sg_puti hc hw ha_a hT_a fp_8_10 rfl rfl k_527 dX8_forget_7 (fun H locs hw => ?_)
  obtain ⟨h7, hw, hf⟩ := sg_name hw hf
  refine lv_iload_n hx hb dX8_forget_10 rfl (lv_at hl 0 rfl) ?_
  cases hf
  exact sg_iret hc hw hz hn0 hr hlocks ⟨rfl, rfl⟩ dX8_forget_11
theorem c_X8_forget {l : Launch} {D : va_G} {cA : Nat → ClassId} {b n : Nat} (hn : sg_okN n) {a : Nat} (ha_a : a < n) (hT_a : sg_T a = 8) {h : HP} {Rz : Int32 × HP} (hf : F_X8_forget a h = some Rz) : Met l yX8_forget (Cond.code yX8_forget cX8_forget 2 (some .int) :: sg_tbl) ({ frames := 0, cells := 0, slots := 0, locals := 0 } : Room) (va_Pc [.ref (b + a)] (sg_Wd D b cA n h)) (va_Qi (fun r u => r = Rz.1 ∧ u = Rz.2) (sg_Wd D b cA n) (sg_A b)) 0 0 (sg_A b) := by
  refine Met.ofW (cc := cX8_forget) (maxL := 2) (ret := (some .int)) (by decide) rfl ?_
  intro p e s m args below meth c s₁ B hml hv
  obtain ⟨rfl, hP, hK, hz, hY, hN⟩ := hv
  have hl := lv_entry [.ref (b + a)] (n := 2) (Nat.le_of_ble_eq_true rfl)
  rw [lg_entry_eq]
  exact w_X8_forget hn ⟨B.exec, B.bytes, findClass_of_methodNamed B.named, fun w h => atoms_spec (ws := Cond.code yX8_forget cX8_forget 2 (some .int) :: sg_tbl) B.pre w (List.mem_cons_of_mem _ h), hK, hN⟩ hz B.returns B.notSynchronized hml (Nat.le_refl _) (Nat.le_refl _) ha_a hT_a hf _ _ _ ⟨hP, hY, va_S.rf⟩ hl
set_option maxHeartbeats 4000000 in
set_option maxRecDepth 100000 in
theorem w_X8_printsAreSo {p : Program} {l : Launch} {e : Env} {R : Room} {s : State} {m : MethodId} {args : Array Value} {below : List Frame} {meth : Method} {c : Code} {D : va_G} {cA : Nat → ClassId} {b n : Nat} (hn : sg_okN n) {a : Nat} {q1 : Nat} {h : HP} {Rz : Int32} (hc : sg_Cx p s m args c cX8_printsAreSo RX8 D cA) (hz : s.heap.size = b + n) (hr : meth.sig.returnType = some .boolean) (hlocks : meth.locks = false) (hml : c.maxLocals = 3) (hRf : 1 ≤ R.frames) (hRl : 20 ≤ R.locals) (ha_a : a < n) (hT_a : sg_T a = 8) (ha_q1 : q1 < n) (hT_q1 : sg_T q1 = 7) (hf : F_X8_printsAreSo a q1 h = some Rz) (H : Heap) (locs : List Loc) (ls : Array Slot) (hw : sg_Wo D b cA n s.heap h H locs) (hl : lv_has ls 3 [(0, .ref (b + a)), (1, .ref (b + q1))]) : W p l e R s m args below meth c H locs 0 0 (sg_Qi below args s D b cA n (fun r u => (r = Rz ∧ u = h) ∧ narrow .boolean (.int r) = .int r)) (F0 m 0 ls []) := by
  have hx := hc.1
  have hb := hc.2.1
  have hn0 : 0 < n := sg_pos hn
  have L2 : ∀ (k : Nat) (x : Int32), F_X8_printsAreSo_L2 a q1 h k x = some Rz → ∀ (H : Heap) (locs : List Loc) (ls : Array Slot), sg_Wo D b cA n s.heap h H locs → lv_has ls 3 [(0, .ref (b + a)), (1, .ref (b + q1)), (2, .int x)] → W p l e R s m args below meth c H locs 0 0 (sg_Qi below args s D b cA n (fun r u => (r = Rz ∧ u = h) ∧ narrow .boolean (.int r) = .int r)) (F0 m 2 ls []) := by
    unfold F_X8_printsAreSo_L2
    refine lp_walk ?_
    intro rc2 hrc2 x hf H locs ls hw hl
    obtain ⟨x2, rfl⟩ : ∃ z, z = x := ⟨x, rfl⟩
    refine lv_iload_n hx hb dX8_printsAreSo_2 rfl (lv_at hl 2 rfl) ?_
    refine lv_aload_n hx hb dX8_printsAreSo_3 rfl (lv_at hl 0 rfl) ?_
    refine sg_geti hc hw ha_a hT_a fi_8_10 k_527 dX8_printsAreSo_4 ?_
    refine lv_icmp_ge (tgt := 41) hx hb dX8_printsAreSo_7 (by decide) (fun c7 => ?_) (fun c7 => ?_)
    · have hf := if_of c7 hf
      refine lv_iconst (v := 1) hx hb dX8_printsAreSo_41 (by decide) ?_
      cases hf
      exact sg_zret hc hw hz hn0 hr hlocks rfl ⟨⟨rfl, rfl⟩, rfl⟩ dX8_printsAreSo_42
    · have hf := if_no c7 hf
      refine lv_aload_n hx hb dX8_printsAreSo_10 rfl (lv_at hl 1 rfl) ?_
      obtain ⟨hF11, hT11, ha11, hN11⟩ := ft_7_10 hn ha_q1 hT_q1
      refine sg_getf (q := (q1 + 5)) hc hw ha_q1 hT_q1 fr_7_10 (by decide) k_178 dX8_printsAreSo_11 hF11 ?_
      refine lv_aload_n hx hb dX8_printsAreSo_14 rfl (lv_at hl 0 rfl) ?_
      obtain ⟨hF15, hT15, ha15, hN15⟩ := ft_8_8 hn ha_a hT_a
      refine sg_getf (q := (a + 77)) hc hw ha_a hT_a fr_8_8 (by decide) k_525 dX8_printsAreSo_15 hF15 ?_
      refine lv_iload_n hx hb dX8_printsAreSo_18 rfl (lv_at hl 2 rfl) ?_
      obtain ⟨hg19, hf⟩ := gd_of hf
      refine sg_ild hc hw ha15 hT15 hN15 hg19 dX8_printsAreSo_19 ?_
      obtain ⟨hg20, hf⟩ := gd_of hf
      refine sg_ild hc hw ha11 hT11 hN11 hg20 dX8_printsAreSo_20 ?_
      obtain ⟨p21, hp21, hf⟩ := cl_of hf
      refine sg_si (rest := []) (c_J6_bitCount_0f7a4 hn (h := h) hp21) hc hw hz hn0 hml hl cs_X8_227 ⟨⟨rfl, rfl⟩, Nat.le_trans (Nat.le_of_ble_eq_true rfl) hRf, Nat.le_trans (Nat.le_of_ble_eq_true rfl) hRl⟩ ⟨Nat.zero_le _, Nat.zero_le _⟩ rfl rfl (Nat.le_of_ble_eq_true rfl) dX8_printsAreSo_21 (fun r h1 H locs hp hw => ?_)
      obtain ⟨e1, e2⟩ := hp; subst r; subst h1
      refine lv_aload_n hx hb dX8_printsAreSo_24 rfl (lv_at hl 0 rfl) ?_
      obtain ⟨hF25, hT25, ha25, hN25⟩ := ft_8_9 hn ha_a hT_a
      refine sg_getf (q := (a + 78)) hc hw ha_a hT_a fr_8_9 (by decide) k_526 dX8_printsAreSo_25 hF25 ?_
      refine lv_iload_n hx hb dX8_printsAreSo_28 rfl (lv_at hl 2 rfl) ?_
      obtain ⟨hg29, hf⟩ := gd_of hf
      refine sg_ild hc hw ha25 hT25 hN25 hg29 dX8_printsAreSo_29 ?_
      refine lv_icmp_eq (tgt := 35) hx hb dX8_printsAreSo_30 (by decide) (fun c30 => ?_) (fun c30 => ?_)
      · have hf := if_of c30 hf
        refine lv_iinc (v := (x2 + 1)) (lv' := [(2, .int (x2 + 1)), (0, .ref (b + a)), (1, .ref (b + q1))]) hx hb dX8_printsAreSo_35 hl (k := 2) rfl rfl (by decide) rfl (fun ls hl => ?_)
        refine lv_goto (tgt := 2) hx hb dX8_printsAreSo_38 (by decide) ?_
        exact hrc2 _ hf _ _ _ hw (lv_sub hl [1, 2, 0] rfl)
      · have hf := if_no c30 hf
        refine lv_iconst (v := 0) hx hb dX8_printsAreSo_33 (by decide) ?_
        cases hf
        exact sg_zret hc hw hz hn0 hr hlocks rfl ⟨⟨rfl, rfl⟩, rfl⟩ dX8_printsAreSo_34
  unfold F_X8_printsAreSo at hf
  refine lv_iconst (v := 0) hx hb dX8_printsAreSo_0 (by decide) ?_
  refine lv_istore_n (lv' := [(2, .int 0), (0, .ref (b + a)), (1, .ref (b + q1))]) hx hb dX8_printsAreSo_1 rfl hl (by decide) rfl (fun ls hl => ?_)
  exact L2 _ _ hf _ _ _ hw (lv_sub hl [1, 2, 0] rfl)
theorem c_X8_printsAreSo {l : Launch} {D : va_G} {cA : Nat → ClassId} {b n : Nat} (hn : sg_okN n) {a : Nat} {q1 : Nat} (ha_a : a < n) (hT_a : sg_T a = 8) (ha_q1 : q1 < n) (hT_q1 : sg_T q1 = 7) {h : HP} {Rz : Int32} (hf : F_X8_printsAreSo a q1 h = some Rz) : Met l yX8_printsAreSo (Cond.code yX8_printsAreSo cX8_printsAreSo 3 (some .boolean) :: sg_tbl) ({ frames := 1, cells := 0, slots := 0, locals := 20 } : Room) (va_Pc [.ref (b + a), .ref (b + q1)] (sg_Wd D b cA n h)) (va_Qi (fun r u => (r = Rz ∧ u = h) ∧ narrow .boolean (.int r) = .int r) (sg_Wd D b cA n) (sg_A b)) 0 0 (sg_A b) := by
  refine Met.ofW (cc := cX8_printsAreSo) (maxL := 3) (ret := (some .boolean)) (by decide) rfl ?_
  intro p e s m args below meth c s₁ B hml hv
  obtain ⟨rfl, hP, hK, hz, hY, hN⟩ := hv
  have hl := lv_entry [.ref (b + a), .ref (b + q1)] (n := 3) (Nat.le_of_ble_eq_true rfl)
  rw [lg_entry_eq]
  exact w_X8_printsAreSo hn ⟨B.exec, B.bytes, findClass_of_methodNamed B.named, fun w h => atoms_spec (ws := Cond.code yX8_printsAreSo cX8_printsAreSo 3 (some .boolean) :: sg_tbl) B.pre w (List.mem_cons_of_mem _ h), hK, hN⟩ hz B.returns B.notSynchronized hml (Nat.le_refl _) (Nat.le_refl _) ha_a hT_a ha_q1 hT_q1 hf _ _ _ ⟨hP, hY, va_S.rf⟩ hl
set_option maxHeartbeats 4000000 in
set_option maxRecDepth 100000 in
theorem w_X8_failed {p : Program} {l : Launch} {e : Env} {R : Room} {s : State} {m : MethodId} {args : Array Value} {below : List Frame} {meth : Method} {c : Code} {D : va_G} {cA : Nat → ClassId} {b n : Nat} (hn : sg_okN n) {a : Nat} {h : HP} {Rz : Int32 × HP} (hc : sg_Cx p s m args c cX8_failed RX8 D cA) (hz : s.heap.size = b + n) (hr : meth.sig.returnType = some .int) (hlocks : meth.locks = false) (hml : c.maxLocals = 3) (hRf : 5 ≤ R.frames) (hRl : 117 ≤ R.locals) (ha_a : a < n) (hT_a : sg_T a = 8) (hf : F_X8_failed a h = some Rz) (H : Heap) (locs : List Loc) (ls : Array Slot) (hw : sg_Wo D b cA n s.heap h H locs) (hl : lv_has ls 3 [(0, .ref (b + a))]) : W p l e R s m args below meth c H locs 0 0 (sg_Qi below args s D b cA n (fun r u => r = Rz.1 ∧ u = Rz.2)) (F0 m 0 ls []) := by
  have hx := hc.1
  have hb := hc.2.1
  have hn0 : 0 < n := sg_pos hn
  have L20 : ∀ (k : Nat) (x : (Int32 × Int32 × HP)), F_X8_failed_L20 a k x = some Rz → ∀ (H : Heap) (locs : List Loc) (ls : Array Slot), sg_Wo D b cA n s.heap x.2.2 H locs → lv_has ls 3 [(0, .ref (b + a)), (1, .int x.1), (2, .int x.2.1)] → W p l e R s m args below meth c H locs 0 0 (sg_Qi below args s D b cA n (fun r u => r = Rz.1 ∧ u = Rz.2)) (F0 m 20 ls []) := by
    unfold F_X8_failed_L20
    refine lp_walk ?_
    intro rc20 hrc20 x hf H locs ls hw hl
    obtain ⟨x1, x2, h⟩ := x
    dsimp only at hf hw hl
    have J53 : ∀ (x1 : Int32) (x2 : Int32) (h : HP) (H : Heap) (locs : List Loc) (ls : Array Slot), F_X8_failed_J53 a rc20 x1 x2 h = some Rz → sg_Wo D b cA n s.heap h H locs → lv_has ls 3 [(0, .ref (b + a)), (1, .int x1), (2, .int x2)] → W p l e R s m args below meth c H locs 0 0 (sg_Qi below args s D b cA n (fun r u => r = Rz.1 ∧ u = Rz.2)) (F0 m 53 ls []) := by
      intro x1 x2 h H locs ls hf hw hl
      unfold F_X8_failed_J53 at hf
      refine lv_iinc (v := (x2 + 1)) (lv' := [(2, .int (x2 + 1)), (0, .ref (b + a)), (1, .int x1)]) hx hb dX8_failed_53 hl (k := 2) rfl rfl (by decide) rfl (fun ls hl => ?_)
      refine lv_goto (tgt := 20) hx hb dX8_failed_56 (by decide) ?_
      exact hrc20 _ hf _ _ _ hw (lv_sub hl [1, 2, 0] rfl)
    refine lv_iload_n hx hb dX8_failed_20 rfl (lv_at hl 2 rfl) ?_
    refine lv_aload_n hx hb dX8_failed_21 rfl (lv_at hl 0 rfl) ?_
    obtain ⟨hF22, hT22, ha22⟩ := ft_8_3 hn ha_a hT_a
    refine sg_getf (q := (a + 15)) hc hw ha_a hT_a fr_8_3 (by decide) k_520 dX8_failed_22 hF22 ?_
    refine sg_geti hc hw ha22 hT22 fi_1_2 k_49 dX8_failed_25 ?_
    refine lv_icmp_ge (tgt := 59) hx hb dX8_failed_28 (by decide) (fun c28 => ?_) (fun c28 => ?_)
    · have hf := if_of c28 hf
      refine lv_iload_n hx hb dX8_failed_59 rfl (lv_at hl 1 rfl) ?_
      cases hf
      exact sg_iret hc hw hz hn0 hr hlocks ⟨rfl, rfl⟩ dX8_failed_60
    · have hf := if_no c28 hf
      refine lv_aload_n hx hb dX8_failed_31 rfl (lv_at hl 0 rfl) ?_
      refine lv_iload_n hx hb dX8_failed_32 rfl (lv_at hl 2 rfl) ?_
      obtain ⟨p33, hp33, hf⟩ := cl_of hf
      refine sg_vv (rest := []) (c_X8_walkWithout hn ha_a hT_a hp33) hc hw hz hml hl ha_a hT_a (by decide) rfl cv_X8_224 ⟨⟨rfl, rfl⟩, Nat.le_trans (Nat.le_of_ble_eq_true rfl) hRf, Nat.le_trans (Nat.le_of_ble_eq_true rfl) hRl⟩ ⟨Nat.zero_le _, Nat.zero_le _⟩ rfl rfl (Nat.le_of_ble_eq_true rfl) dX8_failed_33 (fun h1 H locs hp hw => ?_)
      subst h1
      refine lv_aload_n hx hb dX8_failed_36 rfl (lv_at hl 0 rfl) ?_
      refine lv_aload_n hx hb dX8_failed_37 rfl (lv_at hl 0 rfl) ?_
      obtain ⟨hF38, hT38, ha38⟩ := ft_8_14 hn ha_a hT_a
      refine sg_getf (q := (a + 88)) hc hw ha_a hT_a fr_8_14 (by decide) k_531 dX8_failed_38 hF38 ?_
      obtain ⟨p41, hp41, hf⟩ := cl_of hf
      refine sg_vi (rest := []) (c_X8_printsAreSo hn ha_a hT_a ha38 hT38 hp41) hc hw hz hml hl ha_a hT_a (by decide) rfl cv_X8_275 ⟨⟨rfl, rfl⟩, Nat.le_trans (Nat.le_of_ble_eq_true rfl) hRf, Nat.le_trans (Nat.le_of_ble_eq_true rfl) hRl⟩ ⟨Nat.zero_le _, Nat.zero_le _⟩ rfl rfl (Nat.le_of_ble_eq_true rfl) dX8_failed_41 (fun r h1 H locs hp hw => ?_)
      obtain ⟨⟨e1, e2⟩, hb41⟩ := hp; subst r; subst h1
      refine lv_if_eq (tgt := 53) hx hb dX8_failed_44 (by decide) (fun c44 => ?_) (fun c44 => ?_)
      · have hf := if_of c44 hf
        exact J53 x1 x2 _ _ _ _ hf hw (lv_sub hl [0, 1, 2] rfl)
      · have hf := if_no c44 hf
        refine lv_iload_n hx hb dX8_failed_47 rfl (lv_at hl 1 rfl) ?_
        refine lv_iconst (v := 1) hx hb dX8_failed_48 (by decide) ?_
        refine lv_iload_n hx hb dX8_failed_49 rfl (lv_at hl 2 rfl) ?_
        refine lv_ishl hx hb dX8_failed_50 ?_
        refine lv_ior hx hb dX8_failed_51 ?_
        refine lv_topi (fun v52 e52 => ?_)
        have hf := nm_of e52 hf
        refine lv_istore_n (lv' := [(1, .int v52), (0, .ref (b + a)), (2, .int x2)]) hx hb dX8_failed_52 rfl hl (by decide) rfl (fun ls hl => ?_)
        exact J53 v52 x2 _ _ _ _ hf hw (lv_sub hl [1, 0, 2] rfl)
  have J17 : ∀ (s0 : Int32) (h : HP) (H : Heap) (locs : List Loc) (ls : Array Slot), F_X8_failed_J17 a s0 h = some Rz → sg_Wo D b cA n s.heap h H locs → lv_has ls 3 [(0, .ref (b + a))] → W p l e R s m args below meth c H locs 0 0 (sg_Qi below args s D b cA n (fun r u => r = Rz.1 ∧ u = Rz.2)) (F0 m 17 ls [.int s0]) := by
    intro s0 h H locs ls hf hw hl
    unfold F_X8_failed_J17 at hf
    refine lv_istore_n (lv' := [(1, .int s0), (0, .ref (b + a))]) hx hb dX8_failed_17 rfl hl (by decide) rfl (fun ls hl => ?_)
    refine lv_iconst (v := 0) hx hb dX8_failed_18 (by decide) ?_
    refine lv_istore_n (lv' := [(2, .int 0), (1, .int s0), (0, .ref (b + a))]) hx hb dX8_failed_19 rfl hl (by decide) rfl (fun ls hl => ?_)
    exact L20 _ _ hf _ _ _ hw (lv_sub hl [2, 1, 0] rfl)
  unfold F_X8_failed at hf
  refine lv_aload_n hx hb dX8_failed_0 rfl (lv_at hl 0 rfl) ?_
  refine lv_aload_n hx hb dX8_failed_1 rfl (lv_at hl 0 rfl) ?_
  obtain ⟨hF2, hT2, ha2⟩ := ft_8_13 hn ha_a hT_a
  refine sg_getf (q := (a + 81)) hc hw ha_a hT_a fr_8_13 (by decide) k_530 dX8_failed_2 hF2 ?_
  obtain ⟨p5, hp5, hf⟩ := cl_of hf
  refine sg_vi (rest := []) (c_X8_printsAreSo hn ha_a hT_a ha2 hT2 hp5) hc hw hz hml hl ha_a hT_a (by decide) rfl cv_X8_275 ⟨⟨rfl, rfl⟩, Nat.le_trans (Nat.le_of_ble_eq_true rfl) hRf, Nat.le_trans (Nat.le_of_ble_eq_true rfl) hRl⟩ ⟨Nat.zero_le _, Nat.zero_le _⟩ rfl rfl (Nat.le_of_ble_eq_true rfl) dX8_failed_5 (fun r h1 H locs hp hw => ?_)
  obtain ⟨⟨e1, e2⟩, hb5⟩ := hp; subst r; subst h1
  refine lv_if_eq (tgt := 16) hx hb dX8_failed_8 (by decide) (fun c8 => ?_) (fun c8 => ?_)
  · have hf := if_of c8 hf
    refine lv_iconst (v := 0) hx hb dX8_failed_16 (by decide) ?_
    exact J17 0 _ _ _ _ hf hw (lv_sub hl [0] rfl)
  · have hf := if_no c8 hf
    refine lv_bipush (v := 64) hx hb dX8_failed_11 (by decide) ?_
    refine lv_goto (tgt := 17) hx hb dX8_failed_13 (by decide) ?_
    exact J17 64 _ _ _ _ hf hw (lv_sub hl [0] rfl)
theorem c_X8_failed {l : Launch} {D : va_G} {cA : Nat → ClassId} {b n : Nat} (hn : sg_okN n) {a : Nat} (ha_a : a < n) (hT_a : sg_T a = 8) {h : HP} {Rz : Int32 × HP} (hf : F_X8_failed a h = some Rz) : Met l yX8_failed (Cond.code yX8_failed cX8_failed 3 (some .int) :: sg_tbl) ({ frames := 5, cells := 0, slots := 0, locals := 117 } : Room) (va_Pc [.ref (b + a)] (sg_Wd D b cA n h)) (va_Qi (fun r u => r = Rz.1 ∧ u = Rz.2) (sg_Wd D b cA n) (sg_A b)) 0 0 (sg_A b) := by
  refine Met.ofW (cc := cX8_failed) (maxL := 3) (ret := (some .int)) (by decide) rfl ?_
  intro p e s m args below meth c s₁ B hml hv
  obtain ⟨rfl, hP, hK, hz, hY, hN⟩ := hv
  have hl := lv_entry [.ref (b + a)] (n := 3) (Nat.le_of_ble_eq_true rfl)
  rw [lg_entry_eq]
  exact w_X8_failed hn ⟨B.exec, B.bytes, findClass_of_methodNamed B.named, fun w h => atoms_spec (ws := Cond.code yX8_failed cX8_failed 3 (some .int) :: sg_tbl) B.pre w (List.mem_cons_of_mem _ h), hK, hN⟩ hz B.returns B.notSynchronized hml (Nat.le_refl _) (Nat.le_refl _) ha_a hT_a hf _ _ _ ⟨hP, hY, va_S.rf⟩ hl
set_option maxHeartbeats 4000000 in
set_option maxRecDepth 100000 in
theorem w_X8_power {p : Program} {l : Launch} {e : Env} {R : Room} {s : State} {m : MethodId} {args : Array Value} {below : List Frame} {meth : Method} {c : Code} {D : va_G} {cA : Nat → ClassId} {b n : Nat} (hn : sg_okN n) {x0 : Int32} {x1 : Int32} {h : HP} {Rz : Int32} (hc : sg_Cx p s m args c cX8_power RX8 D cA) (hz : s.heap.size = b + n) (hr : meth.sig.returnType = some .int) (hlocks : meth.locks = false) (hml : c.maxLocals = 4) (hRf : 0 ≤ R.frames) (hRl : 0 ≤ R.locals) (hf : F_X8_power x0 x1 = some Rz) (H : Heap) (locs : List Loc) (ls : Array Slot) (hw : sg_Wo D b cA n s.heap h H locs) (hl : lv_has ls 4 [(0, .int x0), (1, .int x1)]) : W p l e R s m args below meth c H locs 0 0 (sg_Qi below args s D b cA n (fun r u => r = Rz ∧ u = h)) (F0 m 0 ls []) := by
  have hx := hc.1
  have hb := hc.2.1
  have hn0 : 0 < n := sg_pos hn
  have L4 : ∀ (k : Nat) (x : (Int32 × Int32)), F_X8_power_L4 x0 x1 k x = some Rz → ∀ (H : Heap) (locs : List Loc) (ls : Array Slot), sg_Wo D b cA n s.heap h H locs → lv_has ls 4 [(0, .int x0), (1, .int x1), (2, .int x.1), (3, .int x.2)] → W p l e R s m args below meth c H locs 0 0 (sg_Qi below args s D b cA n (fun r u => r = Rz ∧ u = h)) (F0 m 4 ls []) := by
    unfold F_X8_power_L4
    refine lp_walk ?_
    intro rc4 hrc4 x hf H locs ls hw hl
    obtain ⟨x2, x3⟩ := x
    dsimp only at hf hw hl
    refine lv_iload_n hx hb dX8_power_4 rfl (lv_at hl 3 rfl) ?_
    refine lv_iload_n hx hb dX8_power_5 rfl (lv_at hl 1 rfl) ?_
    refine lv_icmp_ge (tgt := 19) hx hb dX8_power_6 (by decide) (fun c6 => ?_) (fun c6 => ?_)
    · have hf := if_of c6 hf
      refine lv_iload_n hx hb dX8_power_19 rfl (lv_at hl 2 rfl) ?_
      cases hf
      exact sg_iret hc hw hz hn0 hr hlocks ⟨rfl, rfl⟩ dX8_power_20
    · have hf := if_no c6 hf
      refine lv_iload_n hx hb dX8_power_9 rfl (lv_at hl 2 rfl) ?_
      refine lv_iload_n hx hb dX8_power_10 rfl (lv_at hl 0 rfl) ?_
      refine lv_imul hx hb dX8_power_11 ?_
      refine lv_topi (fun v12 e12 => ?_)
      have hf := nm_of e12 hf
      refine lv_istore_n (lv' := [(2, .int v12), (0, .int x0), (1, .int x1), (3, .int x3)]) hx hb dX8_power_12 rfl hl (by decide) rfl (fun ls hl => ?_)
      refine lv_iinc (v := (x3 + 1)) (lv' := [(3, .int (x3 + 1)), (2, .int v12), (0, .int x0), (1, .int x1)]) hx hb dX8_power_13 hl (k := 3) rfl rfl (by decide) rfl (fun ls hl => ?_)
      refine lv_goto (tgt := 4) hx hb dX8_power_16 (by decide) ?_
      exact hrc4 _ hf _ _ _ hw (lv_sub hl [2, 3, 1, 0] rfl)
  unfold F_X8_power at hf
  refine lv_iconst (v := 1) hx hb dX8_power_0 (by decide) ?_
  refine lv_istore_n (lv' := [(2, .int 1), (0, .int x0), (1, .int x1)]) hx hb dX8_power_1 rfl hl (by decide) rfl (fun ls hl => ?_)
  refine lv_iconst (v := 0) hx hb dX8_power_2 (by decide) ?_
  refine lv_istore_n (lv' := [(3, .int 0), (2, .int 1), (0, .int x0), (1, .int x1)]) hx hb dX8_power_3 rfl hl (by decide) rfl (fun ls hl => ?_)
  exact L4 _ _ hf _ _ _ hw (lv_sub hl [2, 3, 1, 0] rfl)
theorem c_X8_power {l : Launch} {D : va_G} {cA : Nat → ClassId} {b n : Nat} (hn : sg_okN n) {x0 : Int32} {x1 : Int32} {h : HP} {Rz : Int32} (hf : F_X8_power x0 x1 = some Rz) : Met l yX8_power (Cond.code yX8_power cX8_power 4 (some .int) :: sg_tbl) ({ frames := 0, cells := 0, slots := 0, locals := 0 } : Room) (va_Pc [.int x0, .int x1] (sg_Wd D b cA n h)) (va_Qi (fun r u => r = Rz ∧ u = h) (sg_Wd D b cA n) (sg_A b)) 0 0 (sg_A b) := by
  refine Met.ofW (cc := cX8_power) (maxL := 4) (ret := (some .int)) (by decide) rfl ?_
  intro p e s m args below meth c s₁ B hml hv
  obtain ⟨rfl, hP, hK, hz, hY, hN⟩ := hv
  have hl := lv_entry [.int x0, .int x1] (n := 4) (Nat.le_of_ble_eq_true rfl)
  rw [lg_entry_eq]
  exact w_X8_power hn ⟨B.exec, B.bytes, findClass_of_methodNamed B.named, fun w h => atoms_spec (ws := Cond.code yX8_power cX8_power 4 (some .int) :: sg_tbl) B.pre w (List.mem_cons_of_mem _ h), hK, hN⟩ hz B.returns B.notSynchronized hml (Nat.le_refl _) (Nat.le_refl _) hf _ _ _ ⟨hP, hY, va_S.rf⟩ hl
set_option maxHeartbeats 4000000 in
set_option maxRecDepth 100000 in
theorem w_X8_neverStandsWithout {p : Program} {l : Launch} {e : Env} {R : Room} {s : State} {m : MethodId} {args : Array Value} {below : List Frame} {meth : Method} {c : Code} {D : va_G} {cA : Nat → ClassId} {b n : Nat} (hn : sg_okN n) {a : Nat} {x1 : Int32} {h : HP} {Rz : Int32 × HP} (hc : sg_Cx p s m args c cX8_neverStandsWithout RX8 D cA) (hz : s.heap.size = b + n) (hr : meth.sig.returnType = some .boolean) (hlocks : meth.locks = false) (hml : c.maxLocals = 2) (hRf : 4 ≤ R.frames) (hRl : 96 ≤ R.locals) (ha_a : a < n) (hT_a : sg_T a = 8) (hf : F_X8_neverStandsWithout a x1 h = some Rz) (H : Heap) (locs : List Loc) (ls : Array Slot) (hw : sg_Wo D b cA n s.heap h H locs) (hl : lv_has ls 2 [(0, .ref (b + a)), (1, .int x1)]) : W p l e R s m args below meth c H locs 0 0 (sg_Qi below args s D b cA n (fun r u => (r = Rz.1 ∧ u = Rz.2) ∧ narrow .boolean (.int r) = .int r)) (F0 m 0 ls []) := by
  have hx := hc.1
  have hb := hc.2.1
  have hn0 : 0 < n := sg_pos hn
  unfold F_X8_neverStandsWithout at hf
  refine lv_aload_n hx hb dX8_neverStandsWithout_0 rfl (lv_at hl 0 rfl) ?_
  obtain ⟨hF1, hT1, ha1⟩ := ft_8_5 hn ha_a hT_a
  refine sg_getf (q := (a + 29)) hc hw ha_a hT_a fr_8_5 (by decide) k_522 dX8_neverStandsWithout_1 hF1 ?_
  refine lv_iload_n hx hb dX8_neverStandsWithout_4 rfl (lv_at hl 1 rfl) ?_
  refine lv_aload_n hx hb dX8_neverStandsWithout_5 rfl (lv_at hl 0 rfl) ?_
  obtain ⟨hF6, hT6, ha6⟩ := ft_8_3 hn ha_a hT_a
  refine sg_getf (q := (a + 15)) hc hw ha_a hT_a fr_8_3 (by decide) k_520 dX8_neverStandsWithout_6 hF6 ?_
  refine sg_geti hc hw ha6 hT6 fi_1_1 k_45 dX8_neverStandsWithout_9 ?_
  refine lv_aload_n hx hb dX8_neverStandsWithout_12 rfl (lv_at hl 0 rfl) ?_
  obtain ⟨hF13, hT13, ha13, hN13⟩ := ft_8_12 hn ha_a hT_a
  refine sg_getf (q := (a + 80)) hc hw ha_a hT_a fr_8_12 (by decide) k_529 dX8_neverStandsWithout_13 hF13 ?_
  obtain ⟨p16, hp16, hf⟩ := cl_of hf
  refine sg_vv (rest := []) (c_X6_tellDuty hn ha1 hT1 ha13 hT13 hp16) hc hw hz hml hl ha1 hT1 (by decide) rfl cv_X8_305 ⟨⟨rfl, rfl⟩, Nat.le_trans (Nat.le_of_ble_eq_true rfl) hRf, Nat.le_trans (Nat.le_of_ble_eq_true rfl) hRl⟩ ⟨Nat.zero_le _, Nat.zero_le _⟩ rfl rfl (Nat.le_of_ble_eq_true rfl) dX8_neverStandsWithout_16 (fun h1 H locs hp hw => ?_)
  subst h1
  refine lv_aload_n hx hb dX8_neverStandsWithout_19 rfl (lv_at hl 0 rfl) ?_
  obtain ⟨hF20, hT20, ha20⟩ := ft_8_14 hn ha_a hT_a
  refine sg_getf (q := (a + 88)) hc hw ha_a hT_a fr_8_14 (by decide) k_531 dX8_neverStandsWithout_20 hF20 ?_
  refine lv_aload_n hx hb dX8_neverStandsWithout_23 rfl (lv_at hl 0 rfl) ?_
  refine sg_getf (q := (a + 15)) hc hw ha_a hT_a fr_8_3 (by decide) k_520 dX8_neverStandsWithout_24 (ft_8_3 hn ha_a hT_a).1 ?_
  obtain ⟨p27, hp27, hf⟩ := cl_of hf
  refine sg_vv (rest := []) (c_X7_begin hn ha20 hT20 ha6 hT6 hp27) hc hw hz hml hl ha20 hT20 (by decide) rfl cv_X8_253 ⟨⟨rfl, rfl⟩, Nat.le_trans (Nat.le_of_ble_eq_true rfl) hRf, Nat.le_trans (Nat.le_of_ble_eq_true rfl) hRl⟩ ⟨Nat.zero_le _, Nat.zero_le _⟩ rfl rfl (Nat.le_of_ble_eq_true rfl) dX8_neverStandsWithout_27 (fun h1 H locs hp hw => ?_)
  subst h1
  refine lv_aload_n hx hb dX8_neverStandsWithout_30 rfl (lv_at hl 0 rfl) ?_
  refine sg_getf (q := (a + 88)) hc hw ha_a hT_a fr_8_14 (by decide) k_531 dX8_neverStandsWithout_31 (ft_8_14 hn ha_a hT_a).1 ?_
  refine lv_aload_n hx hb dX8_neverStandsWithout_34 rfl (lv_at hl 0 rfl) ?_
  refine sg_getf (q := (a + 80)) hc hw ha_a hT_a fr_8_12 (by decide) k_529 dX8_neverStandsWithout_35 (ft_8_12 hn ha_a hT_a).1 ?_
  obtain ⟨p38, hp38, hf⟩ := cl_of hf
  refine sg_vv (rest := []) (c_X7_go hn ha20 hT20 ha13 hT13 hp38) hc hw hz hml hl ha20 hT20 (by decide) rfl cv_X8_256 ⟨⟨rfl, rfl⟩, Nat.le_trans (Nat.le_of_ble_eq_true rfl) hRf, Nat.le_trans (Nat.le_of_ble_eq_true rfl) hRl⟩ ⟨Nat.zero_le _, Nat.zero_le _⟩ rfl rfl (Nat.le_of_ble_eq_true rfl) dX8_neverStandsWithout_38 (fun h1 H locs hp hw => ?_)
  subst h1
  refine lv_aload_n hx hb dX8_neverStandsWithout_41 rfl (lv_at hl 0 rfl) ?_
  refine sg_getf (q := (a + 88)) hc hw ha_a hT_a fr_8_14 (by decide) k_531 dX8_neverStandsWithout_42 (ft_8_14 hn ha_a hT_a).1 ?_
  refine sg_geti hc hw ha20 hT20 fi_7_3 k_167 dX8_neverStandsWithout_45 ?_
  refine lv_bipush (v := (-4)) hx hb dX8_neverStandsWithout_48 (by decide) ?_
  refine lv_icmp_ne (tgt := 57) hx hb dX8_neverStandsWithout_50 (by decide) (fun c50 => ?_) (fun c50 => ?_)
  · have hf := if_no c50 hf
    refine lv_iconst (v := 0) hx hb dX8_neverStandsWithout_57 (by decide) ?_
    cases hf
    exact sg_zret hc hw hz hn0 hr hlocks rfl ⟨⟨rfl, rfl⟩, rfl⟩ dX8_neverStandsWithout_58
  · have hf := if_of c50 hf
    refine lv_iconst (v := 1) hx hb dX8_neverStandsWithout_53 (by decide) ?_
    refine lv_goto (tgt := 58) hx hb dX8_neverStandsWithout_54 (by decide) ?_
    cases hf
    exact sg_zret hc hw hz hn0 hr hlocks rfl ⟨⟨rfl, rfl⟩, rfl⟩ dX8_neverStandsWithout_58
theorem c_X8_neverStandsWithout {l : Launch} {D : va_G} {cA : Nat → ClassId} {b n : Nat} (hn : sg_okN n) {a : Nat} {x1 : Int32} (ha_a : a < n) (hT_a : sg_T a = 8) {h : HP} {Rz : Int32 × HP} (hf : F_X8_neverStandsWithout a x1 h = some Rz) : Met l yX8_neverStandsWithout (Cond.code yX8_neverStandsWithout cX8_neverStandsWithout 2 (some .boolean) :: sg_tbl) ({ frames := 4, cells := 0, slots := 0, locals := 96 } : Room) (va_Pc [.ref (b + a), .int x1] (sg_Wd D b cA n h)) (va_Qi (fun r u => (r = Rz.1 ∧ u = Rz.2) ∧ narrow .boolean (.int r) = .int r) (sg_Wd D b cA n) (sg_A b)) 0 0 (sg_A b) := by
  refine Met.ofW (cc := cX8_neverStandsWithout) (maxL := 2) (ret := (some .boolean)) (by decide) rfl ?_
  intro p e s m args below meth c s₁ B hml hv
  obtain ⟨rfl, hP, hK, hz, hY, hN⟩ := hv
  have hl := lv_entry [.ref (b + a), .int x1] (n := 2) (Nat.le_of_ble_eq_true rfl)
  rw [lg_entry_eq]
  exact w_X8_neverStandsWithout hn ⟨B.exec, B.bytes, findClass_of_methodNamed B.named, fun w h => atoms_spec (ws := Cond.code yX8_neverStandsWithout cX8_neverStandsWithout 2 (some .boolean) :: sg_tbl) B.pre w (List.mem_cons_of_mem _ h), hK, hN⟩ hz B.returns B.notSynchronized hml (Nat.le_refl _) (Nat.le_refl _) ha_a hT_a hf _ _ _ ⟨hP, hY, va_S.rf⟩ hl
set_option maxHeartbeats 4000000 in
set_option maxRecDepth 100000 in
theorem w_X8_odds {p : Program} {l : Launch} {e : Env} {R : Room} {s : State} {m : MethodId} {args : Array Value} {below : List Frame} {meth : Method} {c : Code} {D : va_G} {cA : Nat → ClassId} {b n : Nat} (hn : sg_okN n) {a : Nat} {x1 : Int32} {x2 : Int32} {x3 : Int32} {h : HP} {Rz : Int32 × HP} (hc : sg_Cx p s m args c cX8_odds RX8 D cA) (hz : s.heap.size = b + n) (hr : meth.sig.returnType = some .int) (hlocks : meth.locks = false) (hml : c.maxLocals = 10) (hRf : 5 ≤ R.frames) (hRl : 117 ≤ R.locals) (ha_a : a < n) (hT_a : sg_T a = 8) (hf : F_X8_odds a x1 x2 x3 h = some Rz) (H : Heap) (locs : List Loc) (ls : Array Slot) (hw : sg_Wo D b cA n s.heap h H locs) (hl : lv_has ls 10 [(0, .ref (b + a)), (1, .int x1), (2, .int x2), (3, .int x3)]) : W p l e R s m args below meth c H locs 0 0 (sg_Qi below args s D b cA n (fun r u => r = Rz.1 ∧ u = Rz.2)) (F0 m 0 ls []) := by
  have hx := hc.1
  have hb := hc.2.1
  have hn0 : 0 < n := sg_pos hn
  have J122 : ∀ (x5 : Int32) (x6 : Int32) (h : HP) (H : Heap) (locs : List Loc) (ls : Array Slot), F_X8_odds_J122 a x3 x5 x6 h = some Rz → sg_Wo D b cA n s.heap h H locs → lv_has ls 10 [(3, .int x3), (5, .int x5), (6, .int x6)] → W p l e R s m args below meth c H locs 0 0 (sg_Qi below args s D b cA n (fun r u => r = Rz.1 ∧ u = Rz.2)) (F0 m 122 ls []) := by
    intro x5 x6 h H locs ls hf hw hl
    unfold F_X8_odds_J122 at hf
    refine lv_iload hx hb dX8_odds_122 (lv_at hl 1 rfl) ?_
    refine lv_iload hx hb dX8_odds_124 (lv_at hl 2 rfl) ?_
    refine lv_iload_n hx hb dX8_odds_126 rfl (lv_at hl 0 rfl) ?_
    obtain ⟨p127, hp127, hf⟩ := cl_of hf
    refine sg_si (rest := []) (c_X8_lowestTerms hn (h := h) hp127) hc hw hz hn0 hml hl cs_X8_173 ⟨⟨rfl, rfl⟩, Nat.le_trans (Nat.le_of_ble_eq_true rfl) hRf, Nat.le_trans (Nat.le_of_ble_eq_true rfl) hRl⟩ ⟨Nat.zero_le _, Nat.zero_le _⟩ rfl rfl (Nat.le_of_ble_eq_true rfl) dX8_odds_127 (fun r h1 H locs hp hw => ?_)
    obtain ⟨e1, e2⟩ := hp; subst r; subst h1
    cases hf
    exact sg_iret hc hw hz hn0 hr hlocks ⟨rfl, rfl⟩ dX8_odds_130
  have L58 : ∀ (x4 : Int32) (x6 : Int32) (k : Nat) (x : (Int32 × Int32 × HP)), F_X8_odds_L58 a x2 x3 x4 x6 k x = some Rz → ∀ (H : Heap) (locs : List Loc) (ls : Array Slot), sg_Wo D b cA n s.heap x.2.2 H locs → lv_has ls 10 [(0, .ref (b + a)), (2, .int x2), (3, .int x3), (4, .int x4), (5, .int x.1), (6, .int x6), (7, .int x.2.1)] → W p l e R s m args below meth c H locs 0 0 (sg_Qi below args s D b cA n (fun r u => r = Rz.1 ∧ u = Rz.2)) (F0 m 58 ls []) := by
    intro x4 x6
    unfold F_X8_odds_L58
    refine lp_walk ?_
    intro rc58 hrc58 x hf H locs ls hw hl
    obtain ⟨x5, x7, h⟩ := x
    dsimp only at hf hw hl
    have J116 : ∀ (x5 : Int32) (x7 : Int32) (h : HP) (H : Heap) (locs : List Loc) (ls : Array Slot), F_X8_odds_J116 a rc58 x2 x3 x4 x5 x6 x7 h = some Rz → sg_Wo D b cA n s.heap h H locs → lv_has ls 10 [(0, .ref (b + a)), (2, .int x2), (3, .int x3), (4, .int x4), (5, .int x5), (6, .int x6), (7, .int x7)] → W p l e R s m args below meth c H locs 0 0 (sg_Qi below args s D b cA n (fun r u => r = Rz.1 ∧ u = Rz.2)) (F0 m 116 ls []) := by
      intro x5 x7 h H locs ls hf hw hl
      unfold F_X8_odds_J116 at hf
      refine lv_iinc (v := (x7 + 1)) (lv' := [(7, .int (x7 + 1)), (0, .ref (b + a)), (2, .int x2), (3, .int x3), (4, .int x4), (5, .int x5), (6, .int x6)]) hx hb dX8_odds_116 hl (k := 6) rfl rfl (by decide) rfl (fun ls hl => ?_)
      refine lv_goto (tgt := 58) hx hb dX8_odds_119 (by decide) ?_
      exact hrc58 _ hf _ _ _ hw (lv_sub hl [1, 2, 3, 4, 5, 6, 0] rfl)
    refine lv_iload hx hb dX8_odds_58 (lv_at hl 6 rfl) ?_
    refine lv_iconst (v := 1) hx hb dX8_odds_60 (by decide) ?_
    refine lv_iload hx hb dX8_odds_61 (lv_at hl 3 rfl) ?_
    refine lv_ishl hx hb dX8_odds_63 ?_
    refine lv_icmp_ge (tgt := 122) hx hb dX8_odds_64 (by decide) (fun c64 => ?_) (fun c64 => ?_)
    · have hf := if_of c64 hf
      exact J122 x5 x6 _ _ _ _ hf hw (lv_sub hl [2, 4, 5] rfl)
    · have hf := if_no c64 hf
      refine lv_iload hx hb dX8_odds_67 (lv_at hl 6 rfl) ?_
      obtain ⟨p69, hp69, hf⟩ := cl_of hf
      refine sg_si (rest := []) (c_J6_bitCount_0f7a4 hn (h := h) hp69) hc hw hz hn0 hml hl cs_X8_227 ⟨⟨rfl, rfl⟩, Nat.le_trans (Nat.le_of_ble_eq_true rfl) hRf, Nat.le_trans (Nat.le_of_ble_eq_true rfl) hRl⟩ ⟨Nat.zero_le _, Nat.zero_le _⟩ rfl rfl (Nat.le_of_ble_eq_true rfl) dX8_odds_69 (fun r h1 H locs hp hw => ?_)
      obtain ⟨e1, e2⟩ := hp; subst r; subst h1
      refine lv_istore (lv' := [(8, .int p69), (0, .ref (b + a)), (2, .int x2), (3, .int x3), (4, .int x4), (5, .int x5), (6, .int x6), (7, .int x7)]) hx hb dX8_odds_72 hl (by decide) rfl (fun ls hl => ?_)
      refine lv_iload_n hx hb dX8_odds_74 rfl (lv_at hl 2 rfl) ?_
      refine lv_iload hx hb dX8_odds_75 (lv_at hl 0 rfl) ?_
      obtain ⟨p77, hp77, hf⟩ := cl_of hf
      refine sg_si (rest := []) (c_X8_power hn (h := h) hp77) hc hw hz hn0 hml hl cs_X8_279 ⟨⟨rfl, rfl⟩, Nat.le_trans (Nat.le_of_ble_eq_true rfl) hRf, Nat.le_trans (Nat.le_of_ble_eq_true rfl) hRl⟩ ⟨Nat.zero_le _, Nat.zero_le _⟩ rfl rfl (Nat.le_of_ble_eq_true rfl) dX8_odds_77 (fun r h1 H locs hp hw => ?_)
      obtain ⟨e1, e2⟩ := hp; subst r; subst h1
      refine lv_bipush (v := 10) hx hb dX8_odds_80 (by decide) ?_
      refine lv_iload_n hx hb dX8_odds_82 rfl (lv_at hl 2 rfl) ?_
      refine lv_isub hx hb dX8_odds_83 ?_
      refine lv_iload hx hb dX8_odds_84 (lv_at hl 4 rfl) ?_
      refine lv_iload hx hb dX8_odds_86 (lv_at hl 0 rfl) ?_
      refine lv_isub hx hb dX8_odds_88 ?_
      obtain ⟨p89, hp89, hf⟩ := cl_of hf
      refine sg_si (rest := [.int p77]) (c_X8_power hn (h := h) hp89) hc hw hz hn0 hml hl cs_X8_279 ⟨⟨rfl, rfl⟩, Nat.le_trans (Nat.le_of_ble_eq_true rfl) hRf, Nat.le_trans (Nat.le_of_ble_eq_true rfl) hRl⟩ ⟨Nat.zero_le _, Nat.zero_le _⟩ rfl rfl (Nat.le_of_ble_eq_true rfl) dX8_odds_89 (fun r h1 H locs hp hw => ?_)
      obtain ⟨e1, e2⟩ := hp; subst r; subst h1
      refine lv_imul hx hb dX8_odds_92 ?_
      refine lv_topi (fun v93 e93 => ?_)
      have hf := nm_of e93 hf
      refine lv_istore (lv' := [(9, .int v93), (8, .int p69), (0, .ref (b + a)), (2, .int x2), (3, .int x3), (4, .int x4), (5, .int x5), (6, .int x6), (7, .int x7)]) hx hb dX8_odds_93 hl (by decide) rfl (fun ls hl => ?_)
      refine lv_iload hx hb dX8_odds_95 (lv_at hl 0 rfl) ?_
      refine lv_if_le (tgt := 116) hx hb dX8_odds_97 (by decide) (fun c97 => ?_) (fun c97 => ?_)
      · have hf := if_of c97 hf
        exact J116 x5 x7 _ _ _ _ hf hw (lv_sub hl [2, 3, 4, 5, 6, 7, 8] rfl)
      · have hf := if_no c97 hf
        refine lv_aload_n hx hb dX8_odds_100 rfl (lv_at hl 2 rfl) ?_
        refine lv_iload hx hb dX8_odds_101 (lv_at hl 8 rfl) ?_
        obtain ⟨p103, hp103, hf⟩ := cl_of hf
        refine sg_vi (rest := []) (c_X8_neverStandsWithout hn ha_a hT_a hp103) hc hw hz hml hl ha_a hT_a (by decide) rfl cv_X8_282 ⟨⟨rfl, rfl⟩, Nat.le_trans (Nat.le_of_ble_eq_true rfl) hRf, Nat.le_trans (Nat.le_of_ble_eq_true rfl) hRl⟩ ⟨Nat.zero_le _, Nat.zero_le _⟩ rfl rfl (Nat.le_of_ble_eq_true rfl) dX8_odds_103 (fun r h1 H locs hp hw => ?_)
        obtain ⟨⟨e1, e2⟩, hb103⟩ := hp; subst r; subst h1
        refine lv_if_eq (tgt := 116) hx hb dX8_odds_106 (by decide) (fun c106 => ?_) (fun c106 => ?_)
        · have hf := if_of c106 hf
          exact J116 x5 x7 _ _ _ _ hf hw (lv_sub hl [2, 3, 4, 5, 6, 7, 8] rfl)
        · have hf := if_no c106 hf
          refine lv_iload hx hb dX8_odds_109 (lv_at hl 6 rfl) ?_
          refine lv_iload hx hb dX8_odds_111 (lv_at hl 0 rfl) ?_
          refine lv_iadd hx hb dX8_odds_113 ?_
          refine lv_topi (fun v114 e114 => ?_)
          have hf := nm_of e114 hf
          refine lv_istore (lv' := [(5, .int v114), (9, .int v93), (8, .int p69), (0, .ref (b + a)), (2, .int x2), (3, .int x3), (4, .int x4), (6, .int x6), (7, .int x7)]) hx hb dX8_odds_114 hl (by decide) rfl (fun ls hl => ?_)
          exact J116 v114 x7 _ _ _ _ hf hw (lv_sub hl [3, 4, 5, 6, 0, 7, 8] rfl)
  unfold F_X8_odds at hf
  refine lv_iload_n hx hb dX8_odds_0 rfl (lv_at hl 1 rfl) ?_
  refine lv_iconst (v := 0) hx hb dX8_odds_1 (by decide) ?_
  refine lv_iconst (v := 5) hx hb dX8_odds_2 (by decide) ?_
  obtain ⟨p3, hp3, hf⟩ := cl_of hf
  refine sg_si (rest := []) (c_X8_within hn (h := h) hp3) hc hw hz hn0 hml hl cs_X8_121 ⟨⟨rfl, rfl⟩, Nat.le_trans (Nat.le_of_ble_eq_true rfl) hRf, Nat.le_trans (Nat.le_of_ble_eq_true rfl) hRl⟩ ⟨Nat.zero_le _, Nat.zero_le _⟩ rfl rfl (Nat.le_of_ble_eq_true rfl) dX8_odds_3 (fun r h1 H locs hp hw => ?_)
  obtain ⟨⟨e1, e2⟩, hb3⟩ := hp; subst r; subst h1
  refine lv_if_eq (tgt := 28) hx hb dX8_odds_6 (by decide) (fun c6 => ?_) (fun c6 => ?_)
  · have hf := if_of c6 hf
    refine lv_iconst (v := (-1)) hx hb dX8_odds_28 (by decide) ?_
    cases hf
    exact sg_iret hc hw hz hn0 hr hlocks ⟨rfl, rfl⟩ dX8_odds_29
  · have hf := if_no c6 hf
    refine lv_iload_n hx hb dX8_odds_9 rfl (lv_at hl 2 rfl) ?_
    refine lv_iconst (v := 0) hx hb dX8_odds_10 (by decide) ?_
    refine lv_bipush (v := 10) hx hb dX8_odds_11 (by decide) ?_
    obtain ⟨p13, hp13, hf⟩ := cl_of hf
    refine sg_si (rest := []) (c_X8_within hn (h := h) hp13) hc hw hz hn0 hml hl cs_X8_121 ⟨⟨rfl, rfl⟩, Nat.le_trans (Nat.le_of_ble_eq_true rfl) hRf, Nat.le_trans (Nat.le_of_ble_eq_true rfl) hRl⟩ ⟨Nat.zero_le _, Nat.zero_le _⟩ rfl rfl (Nat.le_of_ble_eq_true rfl) dX8_odds_13 (fun r h1 H locs hp hw => ?_)
    obtain ⟨⟨e1, e2⟩, hb13⟩ := hp; subst r; subst h1
    refine lv_if_eq (tgt := 28) hx hb dX8_odds_16 (by decide) (fun c16 => ?_) (fun c16 => ?_)
    · have hf := if_of c16 hf
      refine lv_iconst (v := (-1)) hx hb dX8_odds_28 (by decide) ?_
      cases hf
      exact sg_iret hc hw hz hn0 hr hlocks ⟨rfl, rfl⟩ dX8_odds_29
    · have hf := if_no c16 hf
      refine lv_iload_n hx hb dX8_odds_19 rfl (lv_at hl 3 rfl) ?_
      refine lv_iconst (v := 0) hx hb dX8_odds_20 (by decide) ?_
      refine lv_iconst (v := 1) hx hb dX8_odds_21 (by decide) ?_
      obtain ⟨p22, hp22, hf⟩ := cl_of hf
      refine sg_si (rest := []) (c_X8_within hn (h := h) hp22) hc hw hz hn0 hml hl cs_X8_121 ⟨⟨rfl, rfl⟩, Nat.le_trans (Nat.le_of_ble_eq_true rfl) hRf, Nat.le_trans (Nat.le_of_ble_eq_true rfl) hRl⟩ ⟨Nat.zero_le _, Nat.zero_le _⟩ rfl rfl (Nat.le_of_ble_eq_true rfl) dX8_odds_22 (fun r h1 H locs hp hw => ?_)
      obtain ⟨⟨e1, e2⟩, hb22⟩ := hp; subst r; subst h1
      refine lv_if_ne (tgt := 30) hx hb dX8_odds_25 (by decide) (fun c25 => ?_) (fun c25 => ?_)
      · have hf := if_no c25 hf
        refine lv_iload_n hx hb dX8_odds_30 rfl (lv_at hl 1 rfl) ?_
        refine lv_aload_n hx hb dX8_odds_31 rfl (lv_at hl 0 rfl) ?_
        obtain ⟨hF32, hT32, ha32⟩ := ft_8_5 hn ha_a hT_a
        refine sg_getf (q := (a + 29)) hc hw ha_a hT_a fr_8_5 (by decide) k_522 dX8_odds_32 hF32 ?_
        refine sg_geti hc hw ha32 hT32 fi_6_0 k_105 dX8_odds_35 ?_
        refine va_mmin hx hb (by rw [hml]; exact hl.1.symm) hc.2.2.1 (hc.2.2.2.1 _ k_332) (hc.2.2.2.1 _ k_333) (hc.2.2.2.1 _ k_11) (hc.2.2.2.1 _ k_334) (Nat.le_trans (by decide) hRf) (Nat.le_trans (by decide) hRl) (Nat.zero_le _) (Nat.zero_le _) dX8_odds_38 ?_
        refine lv_topi (fun v41 e41 => ?_)
        have hf := nm_of e41 hf
        refine lv_istore (lv' := [(4, .int v41), (0, .ref (b + a)), (1, .int x1), (2, .int x2), (3, .int x3)]) hx hb dX8_odds_41 hl (by decide) rfl (fun ls hl => ?_)
        refine lv_iconst (v := 0) hx hb dX8_odds_43 (by decide) ?_
        refine lv_istore (lv' := [(5, .int 0), (4, .int v41), (0, .ref (b + a)), (1, .int x1), (2, .int x2), (3, .int x3)]) hx hb dX8_odds_44 hl (by decide) rfl (fun ls hl => ?_)
        refine lv_bipush (v := 10) hx hb dX8_odds_46 (by decide) ?_
        refine lv_iload hx hb dX8_odds_48 (lv_at hl 1 rfl) ?_
        obtain ⟨p50, hp50, hf⟩ := cl_of hf
        refine sg_si (rest := []) (c_X8_power hn (h := h) hp50) hc hw hz hn0 hml hl cs_X8_279 ⟨⟨rfl, rfl⟩, Nat.le_trans (Nat.le_of_ble_eq_true rfl) hRf, Nat.le_trans (Nat.le_of_ble_eq_true rfl) hRl⟩ ⟨Nat.zero_le _, Nat.zero_le _⟩ rfl rfl (Nat.le_of_ble_eq_true rfl) dX8_odds_50 (fun r h1 H locs hp hw => ?_)
        obtain ⟨e1, e2⟩ := hp; subst r; subst h1
        refine lv_istore (lv' := [(6, .int p50), (5, .int 0), (4, .int v41), (0, .ref (b + a)), (1, .int x1), (2, .int x2), (3, .int x3)]) hx hb dX8_odds_53 hl (by decide) rfl (fun ls hl => ?_)
        refine lv_iconst (v := 0) hx hb dX8_odds_55 (by decide) ?_
        refine lv_istore (lv' := [(7, .int 0), (6, .int p50), (5, .int 0), (4, .int v41), (0, .ref (b + a)), (1, .int x1), (2, .int x2), (3, .int x3)]) hx hb dX8_odds_56 hl (by decide) rfl (fun ls hl => ?_)
        exact L58 v41 p50 _ _ hf _ _ _ hw (lv_sub hl [4, 6, 7, 3, 2, 1, 0] rfl)
      · have hf := if_of c25 hf
        refine lv_iconst (v := (-1)) hx hb dX8_odds_28 (by decide) ?_
        cases hf
        exact sg_iret hc hw hz hn0 hr hlocks ⟨rfl, rfl⟩ dX8_odds_29
theorem c_X8_odds {l : Launch} {D : va_G} {cA : Nat → ClassId} {b n : Nat} (hn : sg_okN n) {a : Nat} {x1 : Int32} {x2 : Int32} {x3 : Int32} (ha_a : a < n) (hT_a : sg_T a = 8) {h : HP} {Rz : Int32 × HP} (hf : F_X8_odds a x1 x2 x3 h = some Rz) : Met l yX8_odds (Cond.code yX8_odds cX8_odds 10 (some .int) :: sg_tbl) ({ frames := 5, cells := 0, slots := 0, locals := 117 } : Room) (va_Pc [.ref (b + a), .int x1, .int x2, .int x3] (sg_Wd D b cA n h)) (va_Qi (fun r u => r = Rz.1 ∧ u = Rz.2) (sg_Wd D b cA n) (sg_A b)) 0 0 (sg_A b) := by
  refine Met.ofW (cc := cX8_odds) (maxL := 10) (ret := (some .int)) (by decide) rfl ?_
  intro p e s m args below meth c s₁ B hml hv
  obtain ⟨rfl, hP, hK, hz, hY, hN⟩ := hv
  have hl := lv_entry [.ref (b + a), .int x1, .int x2, .int x3] (n := 10) (Nat.le_of_ble_eq_true rfl)
  rw [lg_entry_eq]
  exact w_X8_odds hn ⟨B.exec, B.bytes, findClass_of_methodNamed B.named, fun w h => atoms_spec (ws := Cond.code yX8_odds cX8_odds 10 (some .int) :: sg_tbl) B.pre w (List.mem_cons_of_mem _ h), hK, hN⟩ hz B.returns B.notSynchronized hml (Nat.le_refl _) (Nat.le_refl _) ha_a hT_a hf _ _ _ ⟨hP, hY, va_S.rf⟩ hl
set_option maxHeartbeats 4000000 in
set_option maxRecDepth 100000 in
theorem w_X8_rain {p : Program} {l : Launch} {e : Env} {R : Room} {s : State} {m : MethodId} {args : Array Value} {below : List Frame} {meth : Method} {c : Code} {D : va_G} {cA : Nat → ClassId} {b n : Nat} (hn : sg_okN n) {a : Nat} {x1 : Int32} {x2 : Int32} {h : HP} {Rz : Int32 × HP} (hc : sg_Cx p s m args c cX8_rain RX8 D cA) (hz : s.heap.size = b + n) (hr : meth.sig.returnType = some .int) (hlocks : meth.locks = false) (hml : c.maxLocals = 3) (hRf : 5 ≤ R.frames) (hRl : 108 ≤ R.locals) (ha_a : a < n) (hT_a : sg_T a = 8) (hf : F_X8_rain a x1 x2 h = some Rz) (H : Heap) (locs : List Loc) (ls : Array Slot) (hw : sg_Wo D b cA n s.heap h H locs) (hl : lv_has ls 3 [(0, .ref (b + a)), (1, .int x1), (2, .int x2)]) : W p l e R s m args below meth c H locs 0 0 (sg_Qi below args s D b cA n (fun r u => r = Rz.1 ∧ u = Rz.2)) (F0 m 0 ls []) := by
  have hx := hc.1
  have hb := hc.2.1
  have hn0 : 0 < n := sg_pos hn
  unfold F_X8_rain at hf
  refine lv_iload_n hx hb dX8_rain_0 rfl (lv_at hl 1 rfl) ?_
  refine lv_iconst (v := 0) hx hb dX8_rain_1 (by decide) ?_
  refine lv_sipush (v := 9999) hx hb dX8_rain_2 (by decide) ?_
  obtain ⟨p5, hp5, hf⟩ := cl_of hf
  refine sg_si (rest := []) (c_X8_within hn (h := h) hp5) hc hw hz hn0 hml hl cs_X8_121 ⟨⟨rfl, rfl⟩, Nat.le_trans (Nat.le_of_ble_eq_true rfl) hRf, Nat.le_trans (Nat.le_of_ble_eq_true rfl) hRl⟩ ⟨Nat.zero_le _, Nat.zero_le _⟩ rfl rfl (Nat.le_of_ble_eq_true rfl) dX8_rain_5 (fun r h1 H locs hp hw => ?_)
  obtain ⟨⟨e1, e2⟩, hb5⟩ := hp; subst r; subst h1
  refine lv_if_eq (tgt := 20) hx hb dX8_rain_8 (by decide) (fun c8 => ?_) (fun c8 => ?_)
  · have hf := if_of c8 hf
    refine lv_iconst (v := (-1)) hx hb dX8_rain_20 (by decide) ?_
    cases hf
    exact sg_iret hc hw hz hn0 hr hlocks ⟨rfl, rfl⟩ dX8_rain_21
  · have hf := if_no c8 hf
    refine lv_iload_n hx hb dX8_rain_11 rfl (lv_at hl 2 rfl) ?_
    refine lv_iconst (v := 0) hx hb dX8_rain_12 (by decide) ?_
    refine lv_iconst (v := 1) hx hb dX8_rain_13 (by decide) ?_
    obtain ⟨p14, hp14, hf⟩ := cl_of hf
    refine sg_si (rest := []) (c_X8_within hn (h := h) hp14) hc hw hz hn0 hml hl cs_X8_121 ⟨⟨rfl, rfl⟩, Nat.le_trans (Nat.le_of_ble_eq_true rfl) hRf, Nat.le_trans (Nat.le_of_ble_eq_true rfl) hRl⟩ ⟨Nat.zero_le _, Nat.zero_le _⟩ rfl rfl (Nat.le_of_ble_eq_true rfl) dX8_rain_14 (fun r h1 H locs hp hw => ?_)
    obtain ⟨⟨e1, e2⟩, hb14⟩ := hp; subst r; subst h1
    refine lv_if_ne (tgt := 22) hx hb dX8_rain_17 (by decide) (fun c17 => ?_) (fun c17 => ?_)
    · have hf := if_no c17 hf
      refine lv_aload_n hx hb dX8_rain_22 rfl (lv_at hl 0 rfl) ?_
      obtain ⟨hF23, hT23, ha23⟩ := ft_8_14 hn ha_a hT_a
      refine sg_getf (q := (a + 88)) hc hw ha_a hT_a fr_8_14 (by decide) k_531 dX8_rain_23 hF23 ?_
      refine lv_aload_n hx hb dX8_rain_26 rfl (lv_at hl 0 rfl) ?_
      obtain ⟨hF27, hT27, ha27⟩ := ft_8_3 hn ha_a hT_a
      refine sg_getf (q := (a + 15)) hc hw ha_a hT_a fr_8_3 (by decide) k_520 dX8_rain_27 hF27 ?_
      obtain ⟨p30, hp30, hf⟩ := cl_of hf
      refine sg_vv (rest := []) (c_X7_begin hn ha23 hT23 ha27 hT27 hp30) hc hw hz hml hl ha23 hT23 (by decide) rfl cv_X8_253 ⟨⟨rfl, rfl⟩, Nat.le_trans (Nat.le_of_ble_eq_true rfl) hRf, Nat.le_trans (Nat.le_of_ble_eq_true rfl) hRl⟩ ⟨Nat.zero_le _, Nat.zero_le _⟩ rfl rfl (Nat.le_of_ble_eq_true rfl) dX8_rain_30 (fun h1 H locs hp hw => ?_)
      subst h1
      refine lv_aload_n hx hb dX8_rain_33 rfl (lv_at hl 0 rfl) ?_
      refine sg_getf (q := (a + 88)) hc hw ha_a hT_a fr_8_14 (by decide) k_531 dX8_rain_34 (ft_8_14 hn ha_a hT_a).1 ?_
      refine lv_iload_n hx hb dX8_rain_37 rfl (lv_at hl 1 rfl) ?_
      refine sg_puti hc hw ha23 hT23 fp_7_2 rfl rfl k_164 dX8_rain_38 (fun H locs hw => ?_)
      obtain ⟨h38, hw, hf⟩ := sg_name hw hf
      refine lv_aload_n hx hb dX8_rain_41 rfl (lv_at hl 0 rfl) ?_
      refine sg_getf (q := (a + 88)) hc hw ha_a hT_a fr_8_14 (by decide) k_531 dX8_rain_42 (ft_8_14 hn ha_a hT_a).1 ?_
      refine lv_aload_n hx hb dX8_rain_45 rfl (lv_at hl 0 rfl) ?_
      obtain ⟨hF46, hT46, ha46, hN46⟩ := ft_8_11 hn ha_a hT_a
      refine sg_getf (q := (a + 79)) hc hw ha_a hT_a fr_8_11 (by decide) k_528 dX8_rain_46 hF46 ?_
      obtain ⟨p49, hp49, hf⟩ := cl_of hf
      refine sg_vv (rest := []) (c_X7_go hn ha23 hT23 ha46 hT46 hp49) hc hw hz hml hl ha23 hT23 (by decide) rfl cv_X8_256 ⟨⟨rfl, rfl⟩, Nat.le_trans (Nat.le_of_ble_eq_true rfl) hRf, Nat.le_trans (Nat.le_of_ble_eq_true rfl) hRl⟩ ⟨Nat.zero_le _, Nat.zero_le _⟩ rfl rfl (Nat.le_of_ble_eq_true rfl) dX8_rain_49 (fun h1 H locs hp hw => ?_)
      subst h1
      refine lv_iload_n hx hb dX8_rain_52 rfl (lv_at hl 2 rfl) ?_
      refine lv_if_ne (tgt := 66) hx hb dX8_rain_53 (by decide) (fun c53 => ?_) (fun c53 => ?_)
      · have hf := if_no c53 hf
        refine lv_aload_n hx hb dX8_rain_66 rfl (lv_at hl 0 rfl) ?_
        refine sg_getf (q := (a + 88)) hc hw ha_a hT_a fr_8_14 (by decide) k_531 dX8_rain_67 (ft_8_14 hn ha_a hT_a).1 ?_
        refine lv_iconst (v := 0) hx hb dX8_rain_70 (by decide) ?_
        obtain ⟨p71, hp71, hf⟩ := cl_of hf
        refine sg_vi (rest := []) (c_X7_first hn ha23 hT23 hp71) hc hw hz hml hl ha23 hT23 (by decide) rfl cv_X8_260 ⟨⟨rfl, rfl⟩, Nat.le_trans (Nat.le_of_ble_eq_true rfl) hRf, Nat.le_trans (Nat.le_of_ble_eq_true rfl) hRl⟩ ⟨Nat.zero_le _, Nat.zero_le _⟩ rfl rfl (Nat.le_of_ble_eq_true rfl) dX8_rain_71 (fun r h1 H locs hp hw => ?_)
        obtain ⟨e1, e2⟩ := hp; subst r; subst h1
        cases hf
        exact sg_iret hc hw hz hn0 hr hlocks ⟨rfl, rfl⟩ dX8_rain_74
      · have hf := if_of c53 hf
        refine lv_aload_n hx hb dX8_rain_56 rfl (lv_at hl 0 rfl) ?_
        refine sg_getf (q := (a + 88)) hc hw ha_a hT_a fr_8_14 (by decide) k_531 dX8_rain_57 (ft_8_14 hn ha_a hT_a).1 ?_
        refine sg_geti hc hw ha23 hT23 fi_7_3 k_167 dX8_rain_60 ?_
        refine lv_goto (tgt := 74) hx hb dX8_rain_63 (by decide) ?_
        cases hf
        exact sg_iret hc hw hz hn0 hr hlocks ⟨rfl, rfl⟩ dX8_rain_74
    · have hf := if_of c17 hf
      refine lv_iconst (v := (-1)) hx hb dX8_rain_20 (by decide) ?_
      cases hf
      exact sg_iret hc hw hz hn0 hr hlocks ⟨rfl, rfl⟩ dX8_rain_21
theorem c_X8_rain {l : Launch} {D : va_G} {cA : Nat → ClassId} {b n : Nat} (hn : sg_okN n) {a : Nat} {x1 : Int32} {x2 : Int32} (ha_a : a < n) (hT_a : sg_T a = 8) {h : HP} {Rz : Int32 × HP} (hf : F_X8_rain a x1 x2 h = some Rz) : Met l yX8_rain (Cond.code yX8_rain cX8_rain 3 (some .int) :: sg_tbl) ({ frames := 5, cells := 0, slots := 0, locals := 108 } : Room) (va_Pc [.ref (b + a), .int x1, .int x2] (sg_Wd D b cA n h)) (va_Qi (fun r u => r = Rz.1 ∧ u = Rz.2) (sg_Wd D b cA n) (sg_A b)) 0 0 (sg_A b) := by
  refine Met.ofW (cc := cX8_rain) (maxL := 3) (ret := (some .int)) (by decide) rfl ?_
  intro p e s m args below meth c s₁ B hml hv
  obtain ⟨rfl, hP, hK, hz, hY, hN⟩ := hv
  have hl := lv_entry [.ref (b + a), .int x1, .int x2] (n := 3) (Nat.le_of_ble_eq_true rfl)
  rw [lg_entry_eq]
  exact w_X8_rain hn ⟨B.exec, B.bytes, findClass_of_methodNamed B.named, fun w h => atoms_spec (ws := Cond.code yX8_rain cX8_rain 3 (some .int) :: sg_tbl) B.pre w (List.mem_cons_of_mem _ h), hK, hN⟩ hz B.returns B.notSynchronized hml (Nat.le_refl _) (Nat.le_refl _) ha_a hT_a hf _ _ _ ⟨hP, hY, va_S.rf⟩ hl
set_option maxHeartbeats 4000000 in
set_option maxRecDepth 100000 in
theorem w_X8_keep {p : Program} {l : Launch} {e : Env} {R : Room} {s : State} {m : MethodId} {args : Array Value} {below : List Frame} {meth : Method} {c : Code} {D : va_G} {cA : Nat → ClassId} {b n : Nat} (hn : sg_okN n) {a : Nat} {h : HP} {Rz : Int32 × HP} (hc : sg_Cx p s m args c cX8_keep RX8 D cA) (hz : s.heap.size = b + n) (hr : meth.sig.returnType = some .int) (hlocks : meth.locks = false) (hml : c.maxLocals = 1) (hRf : 3 ≤ R.frames) (hRl : 142 ≤ R.locals) (ha_a : a < n) (hT_a : sg_T a = 8) (hf : F_X8_keep a h = some Rz) (H : Heap) (locs : List Loc) (ls : Array Slot) (hw : sg_Wo D b cA n s.heap h H locs) (hl : lv_has ls 1 [(0, .ref (b + a))]) : W p l e R s m args below meth c H locs 0 0 (sg_Qi below args s D b cA n (fun r u => r = Rz.1 ∧ u = Rz.2)) (F0 m 0 ls []) := by
  have hx := hc.1
  have hb := hc.2.1
  have hn0 : 0 < n := sg_pos hn
  unfold F_X8_keep at hf
  refine lv_aload_n hx hb dX8_keep_0 rfl (lv_at hl 0 rfl) ?_
  obtain ⟨hF1, hT1, ha1⟩ := ft_8_7 hn ha_a hT_a
  refine sg_getf (q := (a + 67)) hc hw ha_a hT_a fr_8_7 (by decide) k_524 dX8_keep_1 hF1 ?_
  obtain ⟨p4, hp4, hf⟩ := cl_of hf
  refine sg_vi (rest := []) (c_X3_isFull hn ha1 hT1 hp4) hc hw hz hml hl ha1 hT1 (by decide) rfl cv_X8_288 ⟨⟨rfl, rfl⟩, Nat.le_trans (Nat.le_of_ble_eq_true rfl) hRf, Nat.le_trans (Nat.le_of_ble_eq_true rfl) hRl⟩ ⟨Nat.zero_le _, Nat.zero_le _⟩ rfl rfl (Nat.le_of_ble_eq_true rfl) dX8_keep_4 (fun r h1 H locs hp hw => ?_)
  obtain ⟨⟨e1, e2⟩, hb4⟩ := hp; subst r; subst h1
  refine lv_if_eq (tgt := 13) hx hb dX8_keep_7 (by decide) (fun c7 => ?_) (fun c7 => ?_)
  · have hf := if_of c7 hf
    refine lv_aload_n hx hb dX8_keep_13 rfl (lv_at hl 0 rfl) ?_
    refine sg_getf (q := (a + 67)) hc hw ha_a hT_a fr_8_7 (by decide) k_524 dX8_keep_14 (ft_8_7 hn ha_a hT_a).1 ?_
    refine lv_aload_n hx hb dX8_keep_17 rfl (lv_at hl 0 rfl) ?_
    obtain ⟨hF18, hT18, ha18⟩ := ft_8_5 hn ha_a hT_a
    refine sg_getf (q := (a + 29)) hc hw ha_a hT_a fr_8_5 (by decide) k_522 dX8_keep_18 hF18 ?_
    obtain ⟨p21, hp21, hf⟩ := cl_of hf
    refine sg_vv (rest := []) (c_X3_push hn ha1 hT1 ha18 hT18 hp21) hc hw hz hml hl ha1 hT1 (by decide) rfl cv_X8_193 ⟨⟨rfl, rfl⟩, Nat.le_trans (Nat.le_of_ble_eq_true rfl) hRf, Nat.le_trans (Nat.le_of_ble_eq_true rfl) hRl⟩ ⟨Nat.zero_le _, Nat.zero_le _⟩ rfl rfl (Nat.le_of_ble_eq_true rfl) dX8_keep_21 (fun h1 H locs hp hw => ?_)
    subst h1
    refine lv_aload_n hx hb dX8_keep_24 rfl (lv_at hl 0 rfl) ?_
    refine sg_getf (q := (a + 67)) hc hw ha_a hT_a fr_8_7 (by decide) k_524 dX8_keep_25 (ft_8_7 hn ha_a hT_a).1 ?_
    refine sg_geti hc hw ha1 hT1 fi_3_1 k_148 dX8_keep_28 ?_
    cases hf
    exact sg_iret hc hw hz hn0 hr hlocks ⟨rfl, rfl⟩ dX8_keep_31
  · have hf := if_no c7 hf
    refine lv_bipush (v := (-3)) hx hb dX8_keep_10 (by decide) ?_
    cases hf
    exact sg_iret hc hw hz hn0 hr hlocks ⟨rfl, rfl⟩ dX8_keep_12
theorem c_X8_keep {l : Launch} {D : va_G} {cA : Nat → ClassId} {b n : Nat} (hn : sg_okN n) {a : Nat} (ha_a : a < n) (hT_a : sg_T a = 8) {h : HP} {Rz : Int32 × HP} (hf : F_X8_keep a h = some Rz) : Met l yX8_keep (Cond.code yX8_keep cX8_keep 1 (some .int) :: sg_tbl) ({ frames := 3, cells := 0, slots := 0, locals := 142 } : Room) (va_Pc [.ref (b + a)] (sg_Wd D b cA n h)) (va_Qi (fun r u => r = Rz.1 ∧ u = Rz.2) (sg_Wd D b cA n) (sg_A b)) 0 0 (sg_A b) := by
  refine Met.ofW (cc := cX8_keep) (maxL := 1) (ret := (some .int)) (by decide) rfl ?_
  intro p e s m args below meth c s₁ B hml hv
  obtain ⟨rfl, hP, hK, hz, hY, hN⟩ := hv
  have hl := lv_entry [.ref (b + a)] (n := 1) (Nat.le_of_ble_eq_true rfl)
  rw [lg_entry_eq]
  exact w_X8_keep hn ⟨B.exec, B.bytes, findClass_of_methodNamed B.named, fun w h => atoms_spec (ws := Cond.code yX8_keep cX8_keep 1 (some .int) :: sg_tbl) B.pre w (List.mem_cons_of_mem _ h), hK, hN⟩ hz B.returns B.notSynchronized hml (Nat.le_refl _) (Nat.le_refl _) ha_a hT_a hf _ _ _ ⟨hP, hY, va_S.rf⟩ hl
set_option maxHeartbeats 4000000 in
set_option maxRecDepth 100000 in
theorem w_X8_back {p : Program} {l : Launch} {e : Env} {R : Room} {s : State} {m : MethodId} {args : Array Value} {below : List Frame} {meth : Method} {c : Code} {D : va_G} {cA : Nat → ClassId} {b n : Nat} (hn : sg_okN n) {a : Nat} {h : HP} {Rz : Int32 × HP} (hc : sg_Cx p s m args c cX8_back RX8 D cA) (hz : s.heap.size = b + n) (hr : meth.sig.returnType = some .int) (hlocks : meth.locks = false) (hml : c.maxLocals = 1) (hRf : 5 ≤ R.frames) (hRl : 142 ≤ R.locals) (ha_a : a < n) (hT_a : sg_T a = 8) (hf : F_X8_back a h = some Rz) (H : Heap) (locs : List Loc) (ls : Array Slot) (hw : sg_Wo D b cA n s.heap h H locs) (hl : lv_has ls 1 [(0, .ref (b + a))]) : W p l e R s m args below meth c H locs 0 0 (sg_Qi below args s D b cA n (fun r u => r = Rz.1 ∧ u = Rz.2)) (F0 m 0 ls []) := by
  have hx := hc.1
  have hb := hc.2.1
  have hn0 : 0 < n := sg_pos hn
  unfold F_X8_back at hf
  refine lv_aload_n hx hb dX8_back_0 rfl (lv_at hl 0 rfl) ?_
  obtain ⟨hF1, hT1, ha1⟩ := ft_8_7 hn ha_a hT_a
  refine sg_getf (q := (a + 67)) hc hw ha_a hT_a fr_8_7 (by decide) k_524 dX8_back_1 hF1 ?_
  refine lv_aload_n hx hb dX8_back_4 rfl (lv_at hl 0 rfl) ?_
  obtain ⟨hF5, hT5, ha5⟩ := ft_8_5 hn ha_a hT_a
  refine sg_getf (q := (a + 29)) hc hw ha_a hT_a fr_8_5 (by decide) k_522 dX8_back_5 hF5 ?_
  obtain ⟨p8, hp8, hf⟩ := cl_of hf
  refine sg_vi (rest := []) (c_X3_popInto hn ha1 hT1 ha5 hT5 hp8) hc hw hz hml hl ha1 hT1 (by decide) rfl cv_X8_209 ⟨⟨rfl, rfl⟩, Nat.le_trans (Nat.le_of_ble_eq_true rfl) hRf, Nat.le_trans (Nat.le_of_ble_eq_true rfl) hRl⟩ ⟨Nat.zero_le _, Nat.zero_le _⟩ rfl rfl (Nat.le_of_ble_eq_true rfl) dX8_back_8 (fun r h1 H locs hp hw => ?_)
  obtain ⟨⟨e1, e2⟩, hb8⟩ := hp; subst r; subst h1
  refine lv_if_ne (tgt := 17) hx hb dX8_back_11 (by decide) (fun c11 => ?_) (fun c11 => ?_)
  · have hf := if_no c11 hf
    refine lv_aload_n hx hb dX8_back_17 rfl (lv_at hl 0 rfl) ?_
    obtain ⟨hF18, hT18, ha18⟩ := ft_8_6 hn ha_a hT_a
    refine sg_getf (q := (a + 33)) hc hw ha_a hT_a fr_8_6 (by decide) k_523 dX8_back_18 hF18 ?_
    refine lv_iconst (v := 0) hx hb dX8_back_21 (by decide) ?_
    refine sg_puti hc hw ha18 hT18 fp_3_1 rfl rfl k_148 dX8_back_22 (fun H locs hw => ?_)
    obtain ⟨h22, hw, hf⟩ := sg_name hw hf
    refine lv_aload_n hx hb dX8_back_25 rfl (lv_at hl 0 rfl) ?_
    obtain ⟨p26, hp26, hf⟩ := cl_of hf
    refine sg_vv (rest := []) (c_X8_settle hn ha_a hT_a hp26) hc hw hz hml hl ha_a hT_a (by decide) rfl cv_X8_200 ⟨⟨rfl, rfl⟩, Nat.le_trans (Nat.le_of_ble_eq_true rfl) hRf, Nat.le_trans (Nat.le_of_ble_eq_true rfl) hRl⟩ ⟨Nat.zero_le _, Nat.zero_le _⟩ rfl rfl (Nat.le_of_ble_eq_true rfl) dX8_back_26 (fun h1 H locs hp hw => ?_)
    subst h1
    refine lv_aload_n hx hb dX8_back_29 rfl (lv_at hl 0 rfl) ?_
    refine sg_getf (q := (a + 67)) hc hw ha_a hT_a fr_8_7 (by decide) k_524 dX8_back_30 (ft_8_7 hn ha_a hT_a).1 ?_
    refine sg_geti hc hw ha1 hT1 fi_3_1 k_148 dX8_back_33 ?_
    cases hf
    exact sg_iret hc hw hz hn0 hr hlocks ⟨rfl, rfl⟩ dX8_back_36
  · have hf := if_of c11 hf
    refine lv_bipush (v := (-2)) hx hb dX8_back_14 (by decide) ?_
    cases hf
    exact sg_iret hc hw hz hn0 hr hlocks ⟨rfl, rfl⟩ dX8_back_16
theorem c_X8_back {l : Launch} {D : va_G} {cA : Nat → ClassId} {b n : Nat} (hn : sg_okN n) {a : Nat} (ha_a : a < n) (hT_a : sg_T a = 8) {h : HP} {Rz : Int32 × HP} (hf : F_X8_back a h = some Rz) : Met l yX8_back (Cond.code yX8_back cX8_back 1 (some .int) :: sg_tbl) ({ frames := 5, cells := 0, slots := 0, locals := 142 } : Room) (va_Pc [.ref (b + a)] (sg_Wd D b cA n h)) (va_Qi (fun r u => r = Rz.1 ∧ u = Rz.2) (sg_Wd D b cA n) (sg_A b)) 0 0 (sg_A b) := by
  refine Met.ofW (cc := cX8_back) (maxL := 1) (ret := (some .int)) (by decide) rfl ?_
  intro p e s m args below meth c s₁ B hml hv
  obtain ⟨rfl, hP, hK, hz, hY, hN⟩ := hv
  have hl := lv_entry [.ref (b + a)] (n := 1) (Nat.le_of_ble_eq_true rfl)
  rw [lg_entry_eq]
  exact w_X8_back hn ⟨B.exec, B.bytes, findClass_of_methodNamed B.named, fun w h => atoms_spec (ws := Cond.code yX8_back cX8_back 1 (some .int) :: sg_tbl) B.pre w (List.mem_cons_of_mem _ h), hK, hN⟩ hz B.returns B.notSynchronized hml (Nat.le_refl _) (Nat.le_refl _) ha_a hT_a hf _ _ _ ⟨hP, hY, va_S.rf⟩ hl
set_option maxHeartbeats 4000000 in
set_option maxRecDepth 100000 in
theorem w_X8_count {p : Program} {l : Launch} {e : Env} {R : Room} {s : State} {m : MethodId} {args : Array Value} {below : List Frame} {meth : Method} {c : Code} {D : va_G} {cA : Nat → ClassId} {b n : Nat} (hn : sg_okN n) {a : Nat} {x1 : Int32} {h : HP} {Rz : Int32} (hc : sg_Cx p s m args c cX8_count RX8 D cA) (hz : s.heap.size = b + n) (hr : meth.sig.returnType = some .int) (hlocks : meth.locks = false) (hml : c.maxLocals = 2) (hRf : 0 ≤ R.frames) (hRl : 0 ≤ R.locals) (ha_a : a < n) (hT_a : sg_T a = 8) (hf : F_X8_count a x1 h = some Rz) (H : Heap) (locs : List Loc) (ls : Array Slot) (hw : sg_Wo D b cA n s.heap h H locs) (hl : lv_has ls 2 [(0, .ref (b + a)), (1, .int x1)]) : W p l e R s m args below meth c H locs 0 0 (sg_Qi below args s D b cA n (fun r u => r = Rz ∧ u = h)) (F0 m 0 ls []) := by
  have hx := hc.1
  have hb := hc.2.1
  have hn0 : 0 < n := sg_pos hn
  unfold F_X8_count at hf
  refine lv_iload_n hx hb dX8_count_0 rfl (lv_at hl 1 rfl) ?_
  by_cases hk1_0 : x1 = 0
  · have hf := if_of hk1_0 hf
    refine lv_tableIn (off := 55) (tgt := 56) hx hb dX8_count_1 (by rw [hk1_0]; decide) (by rw [hk1_0]; decide) (by rw [hk1_0]; decide) (by decide) ?_
    refine lv_aload_n hx hb dX8_count_56 rfl (lv_at hl 0 rfl) ?_
    obtain ⟨hF57, hT57, ha57⟩ := ft_8_3 hn ha_a hT_a
    refine sg_getf (q := (a + 15)) hc hw ha_a hT_a fr_8_3 (by decide) k_520 dX8_count_57 hF57 ?_
    refine sg_geti hc hw ha57 hT57 fi_1_0 k_40 dX8_count_60 ?_
    cases hf
    exact sg_iret hc hw hz hn0 hr hlocks ⟨rfl, rfl⟩ dX8_count_63
  · have hf := if_no hk1_0 hf
    by_cases hk1_1 : x1 = 1
    · have hf := if_of hk1_1 hf
      refine lv_tableIn (off := 63) (tgt := 64) hx hb dX8_count_1 (by rw [hk1_1]; decide) (by rw [hk1_1]; decide) (by rw [hk1_1]; decide) (by decide) ?_
      refine lv_aload_n hx hb dX8_count_64 rfl (lv_at hl 0 rfl) ?_
      obtain ⟨hF65, hT65, ha65⟩ := ft_8_3 hn ha_a hT_a
      refine sg_getf (q := (a + 15)) hc hw ha_a hT_a fr_8_3 (by decide) k_520 dX8_count_65 hF65 ?_
      refine sg_geti hc hw ha65 hT65 fi_1_1 k_45 dX8_count_68 ?_
      cases hf
      exact sg_iret hc hw hz hn0 hr hlocks ⟨rfl, rfl⟩ dX8_count_71
    · have hf := if_no hk1_1 hf
      by_cases hk1_2 : x1 = 2
      · have hf := if_of hk1_2 hf
        refine lv_tableIn (off := 71) (tgt := 72) hx hb dX8_count_1 (by rw [hk1_2]; decide) (by rw [hk1_2]; decide) (by rw [hk1_2]; decide) (by decide) ?_
        refine lv_aload_n hx hb dX8_count_72 rfl (lv_at hl 0 rfl) ?_
        obtain ⟨hF73, hT73, ha73⟩ := ft_8_3 hn ha_a hT_a
        refine sg_getf (q := (a + 15)) hc hw ha_a hT_a fr_8_3 (by decide) k_520 dX8_count_73 hF73 ?_
        refine sg_geti hc hw ha73 hT73 fi_1_2 k_49 dX8_count_76 ?_
        cases hf
        exact sg_iret hc hw hz hn0 hr hlocks ⟨rfl, rfl⟩ dX8_count_79
      · have hf := if_no hk1_2 hf
        by_cases hk1_3 : x1 = 3
        · have hf := if_of hk1_3 hf
          refine lv_tableIn (off := 79) (tgt := 80) hx hb dX8_count_1 (by rw [hk1_3]; decide) (by rw [hk1_3]; decide) (by rw [hk1_3]; decide) (by decide) ?_
          refine lv_aload_n hx hb dX8_count_80 rfl (lv_at hl 0 rfl) ?_
          obtain ⟨hF81, hT81, ha81⟩ := ft_8_3 hn ha_a hT_a
          refine sg_getf (q := (a + 15)) hc hw ha_a hT_a fr_8_3 (by decide) k_520 dX8_count_81 hF81 ?_
          refine sg_geti hc hw ha81 hT81 fi_1_3 k_52 dX8_count_84 ?_
          cases hf
          exact sg_iret hc hw hz hn0 hr hlocks ⟨rfl, rfl⟩ dX8_count_87
        · have hf := if_no hk1_3 hf
          by_cases hk1_4 : x1 = 4
          · have hf := if_of hk1_4 hf
            refine lv_tableIn (off := 87) (tgt := 88) hx hb dX8_count_1 (by rw [hk1_4]; decide) (by rw [hk1_4]; decide) (by rw [hk1_4]; decide) (by decide) ?_
            refine lv_aload_n hx hb dX8_count_88 rfl (lv_at hl 0 rfl) ?_
            obtain ⟨hF89, hT89, ha89⟩ := ft_8_3 hn ha_a hT_a
            refine sg_getf (q := (a + 15)) hc hw ha_a hT_a fr_8_3 (by decide) k_520 dX8_count_89 hF89 ?_
            refine sg_geti hc hw ha89 hT89 fi_1_4 k_56 dX8_count_92 ?_
            cases hf
            exact sg_iret hc hw hz hn0 hr hlocks ⟨rfl, rfl⟩ dX8_count_95
          · have hf := if_no hk1_4 hf
            by_cases hk1_5 : x1 = 5
            · have hf := if_of hk1_5 hf
              refine lv_tableIn (off := 95) (tgt := 96) hx hb dX8_count_1 (by rw [hk1_5]; decide) (by rw [hk1_5]; decide) (by rw [hk1_5]; decide) (by decide) ?_
              refine lv_aload_n hx hb dX8_count_96 rfl (lv_at hl 0 rfl) ?_
              obtain ⟨hF97, hT97, ha97⟩ := ft_8_5 hn ha_a hT_a
              refine sg_getf (q := (a + 29)) hc hw ha_a hT_a fr_8_5 (by decide) k_522 dX8_count_97 hF97 ?_
              refine sg_geti hc hw ha97 hT97 fi_6_0 k_105 dX8_count_100 ?_
              cases hf
              exact sg_iret hc hw hz hn0 hr hlocks ⟨rfl, rfl⟩ dX8_count_103
            · have hf := if_no hk1_5 hf
              by_cases hk1_6 : x1 = 6
              · have hf := if_of hk1_6 hf
                refine lv_tableIn (off := 103) (tgt := 104) hx hb dX8_count_1 (by rw [hk1_6]; decide) (by rw [hk1_6]; decide) (by rw [hk1_6]; decide) (by decide) ?_
                refine lv_aload_n hx hb dX8_count_104 rfl (lv_at hl 0 rfl) ?_
                refine sg_geti hc hw ha_a hT_a fi_8_10 k_527 dX8_count_105 ?_
                cases hf
                exact sg_iret hc hw hz hn0 hr hlocks ⟨rfl, rfl⟩ dX8_count_108
              · have hf := if_no hk1_6 hf
                by_cases hk1_7 : x1 = 7
                · have hf := if_of hk1_7 hf
                  refine lv_tableIn (off := 108) (tgt := 109) hx hb dX8_count_1 (by rw [hk1_7]; decide) (by rw [hk1_7]; decide) (by rw [hk1_7]; decide) (by decide) ?_
                  refine lv_aload_n hx hb dX8_count_109 rfl (lv_at hl 0 rfl) ?_
                  obtain ⟨hF110, hT110, ha110⟩ := ft_8_6 hn ha_a hT_a
                  refine sg_getf (q := (a + 33)) hc hw ha_a hT_a fr_8_6 (by decide) k_523 dX8_count_110 hF110 ?_
                  refine sg_geti hc hw ha110 hT110 fi_3_1 k_148 dX8_count_113 ?_
                  cases hf
                  exact sg_iret hc hw hz hn0 hr hlocks ⟨rfl, rfl⟩ dX8_count_116
                · have hf := if_no hk1_7 hf
                  by_cases hk1_8 : x1 = 8
                  · have hf := if_of hk1_8 hf
                    refine lv_tableIn (off := 116) (tgt := 117) hx hb dX8_count_1 (by rw [hk1_8]; decide) (by rw [hk1_8]; decide) (by rw [hk1_8]; decide) (by decide) ?_
                    refine lv_aload_n hx hb dX8_count_117 rfl (lv_at hl 0 rfl) ?_
                    obtain ⟨hF118, hT118, ha118⟩ := ft_8_7 hn ha_a hT_a
                    refine sg_getf (q := (a + 67)) hc hw ha_a hT_a fr_8_7 (by decide) k_524 dX8_count_118 hF118 ?_
                    refine sg_geti hc hw ha118 hT118 fi_3_1 k_148 dX8_count_121 ?_
                    cases hf
                    exact sg_iret hc hw hz hn0 hr hlocks ⟨rfl, rfl⟩ dX8_count_124
                  · have hf := if_no hk1_8 hf
                    by_cases hk1_9 : x1 = 9
                    · have hf := if_of hk1_9 hf
                      refine lv_tableIn (off := 124) (tgt := 125) hx hb dX8_count_1 (by rw [hk1_9]; decide) (by rw [hk1_9]; decide) (by rw [hk1_9]; decide) (by decide) ?_
                      refine lv_aload_n hx hb dX8_count_125 rfl (lv_at hl 0 rfl) ?_
                      refine sg_geti hc hw ha_a hT_a fi_8_1 k_518 dX8_count_126 ?_
                      cases hf
                      exact sg_iret hc hw hz hn0 hr hlocks ⟨rfl, rfl⟩ dX8_count_129
                    · have hf := if_no hk1_9 hf
                      refine lv_tableOut (tgt := 130) hx hb dX8_count_1 (by have e0 := sg_ne hk1_0 (k := 0) (by decide); have e1 := sg_ne hk1_1 (k := 1) (by decide); have e2 := sg_ne hk1_2 (k := 2) (by decide); have e3 := sg_ne hk1_3 (k := 3) (by decide); have e4 := sg_ne hk1_4 (k := 4) (by decide); have e5 := sg_ne hk1_5 (k := 5) (by decide); have e6 := sg_ne hk1_6 (k := 6) (by decide); have e7 := sg_ne hk1_7 (k := 7) (by decide); have e8 := sg_ne hk1_8 (k := 8) (by decide); have e9 := sg_ne hk1_9 (k := 9) (by decide); omega) (by decide) ?_
                      refine lv_iconst (v := (-1)) hx hb dX8_count_130 (by decide) ?_
                      cases hf
                      exact sg_iret hc hw hz hn0 hr hlocks ⟨rfl, rfl⟩ dX8_count_131
theorem c_X8_count {l : Launch} {D : va_G} {cA : Nat → ClassId} {b n : Nat} (hn : sg_okN n) {a : Nat} {x1 : Int32} (ha_a : a < n) (hT_a : sg_T a = 8) {h : HP} {Rz : Int32} (hf : F_X8_count a x1 h = some Rz) : Met l yX8_count (Cond.code yX8_count cX8_count 2 (some .int) :: sg_tbl) ({ frames := 0, cells := 0, slots := 0, locals := 0 } : Room) (va_Pc [.ref (b + a), .int x1] (sg_Wd D b cA n h)) (va_Qi (fun r u => r = Rz ∧ u = h) (sg_Wd D b cA n) (sg_A b)) 0 0 (sg_A b) := by
  refine Met.ofW (cc := cX8_count) (maxL := 2) (ret := (some .int)) (by decide) rfl ?_
  intro p e s m args below meth c s₁ B hml hv
  obtain ⟨rfl, hP, hK, hz, hY, hN⟩ := hv
  have hl := lv_entry [.ref (b + a), .int x1] (n := 2) (Nat.le_of_ble_eq_true rfl)
  rw [lg_entry_eq]
  exact w_X8_count hn ⟨B.exec, B.bytes, findClass_of_methodNamed B.named, fun w h => atoms_spec (ws := Cond.code yX8_count cX8_count 2 (some .int) :: sg_tbl) B.pre w (List.mem_cons_of_mem _ h), hK, hN⟩ hz B.returns B.notSynchronized hml (Nat.le_refl _) (Nat.le_refl _) ha_a hT_a hf _ _ _ ⟨hP, hY, va_S.rf⟩ hl
set_option maxHeartbeats 4000000 in
set_option maxRecDepth 100000 in
theorem w_X9_in {p : Program} {l : Launch} {e : Env} {R : Room} {s : State} {m : MethodId} {args : Array Value} {below : List Frame} {meth : Method} {c : Code} {D : va_G} {cA : Nat → ClassId} {b n : Nat} (hn : sg_okN n) {z0 : Int64} {z2 : Int64} {z4 : Int64} {h : HP} {Rz : Int32} (hc : sg_Cx p s m args c cX9_in RX9 D cA) (hz : s.heap.size = b + n) (hr : meth.sig.returnType = some .boolean) (hlocks : meth.locks = false) (hml : c.maxLocals = 6) (hRf : 0 ≤ R.frames) (hRl : 0 ≤ R.locals) (hf : F_X9_in z0 z2 z4 = some Rz) (H : Heap) (locs : List Loc) (ls : Array Slot) (hw : sg_Wo D b cA n s.heap h H locs) (hl : lv_has ls 6 [(0, .long z0), (2, .long z2), (4, .long z4)]) : W p l e R s m args below meth c H locs 0 0 (sg_Qi below args s D b cA n (fun r u => (r = Rz ∧ u = h) ∧ narrow .boolean (.int r) = .int r)) (F0 m 0 ls []) := by
  have hx := hc.1
  have hb := hc.2.1
  have hn0 : 0 < n := sg_pos hn
  unfold F_X9_in at hf
  refine lv_lload_n hx hb dX9_in_0 rfl (lv_at hl 0 rfl) ?_
  refine lv_lload_n hx hb dX9_in_1 rfl (lv_at hl 1 rfl) ?_
  refine W.lcmp hx hb dX9_in_2 ?_
  refine lv_if_lt (tgt := 17) hx hb dX9_in_3 (by decide) (fun c3 => ?_) (fun c3 => ?_)
  · have hf := if_of c3 hf
    refine lv_iconst (v := 0) hx hb dX9_in_17 (by decide) ?_
    cases hf
    exact sg_zret hc hw hz hn0 hr hlocks rfl ⟨⟨rfl, rfl⟩, rfl⟩ dX9_in_18
  · have hf := if_no c3 hf
    refine lv_lload_n hx hb dX9_in_6 rfl (lv_at hl 0 rfl) ?_
    refine lv_lload hx hb dX9_in_7 (lv_at hl 2 rfl) ?_
    refine W.lcmp hx hb dX9_in_9 ?_
    refine lv_if_gt (tgt := 17) hx hb dX9_in_10 (by decide) (fun c10 => ?_) (fun c10 => ?_)
    · have hf := if_of c10 hf
      refine lv_iconst (v := 0) hx hb dX9_in_17 (by decide) ?_
      cases hf
      exact sg_zret hc hw hz hn0 hr hlocks rfl ⟨⟨rfl, rfl⟩, rfl⟩ dX9_in_18
    · have hf := if_no c10 hf
      refine lv_iconst (v := 1) hx hb dX9_in_13 (by decide) ?_
      refine lv_goto (tgt := 18) hx hb dX9_in_14 (by decide) ?_
      cases hf
      exact sg_zret hc hw hz hn0 hr hlocks rfl ⟨⟨rfl, rfl⟩, rfl⟩ dX9_in_18
theorem c_X9_in {l : Launch} {D : va_G} {cA : Nat → ClassId} {b n : Nat} (hn : sg_okN n) {z0 : Int64} {z2 : Int64} {z4 : Int64} {h : HP} {Rz : Int32} (hf : F_X9_in z0 z2 z4 = some Rz) : Met l yX9_in (Cond.code yX9_in cX9_in 6 (some .boolean) :: sg_tbl) ({ frames := 0, cells := 0, slots := 0, locals := 0 } : Room) (va_Pc [.long z0, .long z2, .long z4] (sg_Wd D b cA n h)) (va_Qi (fun r u => (r = Rz ∧ u = h) ∧ narrow .boolean (.int r) = .int r) (sg_Wd D b cA n) (sg_A b)) 0 0 (sg_A b) := by
  refine Met.ofW (cc := cX9_in) (maxL := 6) (ret := (some .boolean)) (by decide) rfl ?_
  intro p e s m args below meth c s₁ B hml hv
  obtain ⟨rfl, hP, hK, hz, hY, hN⟩ := hv
  have hl := lv_entry [.long z0, .long z2, .long z4] (n := 6) (Nat.le_of_ble_eq_true rfl)
  rw [lg_entry_eq]
  exact w_X9_in hn ⟨B.exec, B.bytes, findClass_of_methodNamed B.named, fun w h => atoms_spec (ws := Cond.code yX9_in cX9_in 6 (some .boolean) :: sg_tbl) B.pre w (List.mem_cons_of_mem _ h), hK, hN⟩ hz B.returns B.notSynchronized hml (Nat.le_refl _) (Nat.le_refl _) hf _ _ _ ⟨hP, hY, va_S.rf⟩ hl
set_option maxHeartbeats 4000000 in
set_option maxRecDepth 100000 in
theorem w_X9_isTwo {p : Program} {l : Launch} {e : Env} {R : Room} {s : State} {m : MethodId} {args : Array Value} {below : List Frame} {meth : Method} {c : Code} {D : va_G} {cA : Nat → ClassId} {b n : Nat} (hn : sg_okN n) {x0 : Int32} {h : HP} {Rz : Int32} (hc : sg_Cx p s m args c cX9_isTwo RX9 D cA) (hz : s.heap.size = b + n) (hr : meth.sig.returnType = some .boolean) (hlocks : meth.locks = false) (hml : c.maxLocals = 1) (hRf : 1 ≤ R.frames) (hRl : 25 ≤ R.locals) (hf : F_X9_isTwo x0 = some Rz) (H : Heap) (locs : List Loc) (ls : Array Slot) (hw : sg_Wo D b cA n s.heap h H locs) (hl : lv_has ls 1 [(0, .int x0)]) : W p l e R s m args below meth c H locs 0 0 (sg_Qi below args s D b cA n (fun r u => (r = Rz ∧ u = h) ∧ narrow .boolean (.int r) = .int r)) (F0 m 0 ls []) := by
  have hx := hc.1
  have hb := hc.2.1
  have hn0 : 0 < n := sg_pos hn
  unfold F_X9_isTwo at hf
  refine lv_iload_n hx hb dX9_isTwo_0 rfl (lv_at hl 0 rfl) ?_
  refine lv_i2l hx hb dX9_isTwo_1 rfl ?_
  refine lv_lconst (v := 0) hx hb dX9_isTwo_2 (by decide) ?_
  refine lv_lconst (v := 1) hx hb dX9_isTwo_3 (by decide) ?_
  obtain ⟨p4, hp4, hf⟩ := cl_of hf
  refine sg_si (rest := []) (c_X9_in hn (h := h) hp4) hc hw hz hn0 hml hl cs_X9_87 ⟨⟨rfl, rfl⟩, Nat.le_trans (Nat.le_of_ble_eq_true rfl) hRf, Nat.le_trans (Nat.le_of_ble_eq_true rfl) hRl⟩ ⟨Nat.zero_le _, Nat.zero_le _⟩ rfl rfl (Nat.le_of_ble_eq_true rfl) dX9_isTwo_4 (fun r h1 H locs hp hw => ?_)
  obtain ⟨⟨e1, e2⟩, hb4⟩ := hp; subst r; subst h1
  cases hf
  exact sg_zret hc hw hz hn0 hr hlocks hb4 ⟨⟨rfl, rfl⟩, hb4⟩ dX9_isTwo_7
theorem c_X9_isTwo {l : Launch} {D : va_G} {cA : Nat → ClassId} {b n : Nat} (hn : sg_okN n) {x0 : Int32} {h : HP} {Rz : Int32} (hf : F_X9_isTwo x0 = some Rz) : Met l yX9_isTwo (Cond.code yX9_isTwo cX9_isTwo 1 (some .boolean) :: sg_tbl) ({ frames := 1, cells := 0, slots := 0, locals := 25 } : Room) (va_Pc [.int x0] (sg_Wd D b cA n h)) (va_Qi (fun r u => (r = Rz ∧ u = h) ∧ narrow .boolean (.int r) = .int r) (sg_Wd D b cA n) (sg_A b)) 0 0 (sg_A b) := by
  refine Met.ofW (cc := cX9_isTwo) (maxL := 1) (ret := (some .boolean)) (by decide) rfl ?_
  intro p e s m args below meth c s₁ B hml hv
  obtain ⟨rfl, hP, hK, hz, hY, hN⟩ := hv
  have hl := lv_entry [.int x0] (n := 1) (Nat.le_of_ble_eq_true rfl)
  rw [lg_entry_eq]
  exact w_X9_isTwo hn ⟨B.exec, B.bytes, findClass_of_methodNamed B.named, fun w h => atoms_spec (ws := Cond.code yX9_isTwo cX9_isTwo 1 (some .boolean) :: sg_tbl) B.pre w (List.mem_cons_of_mem _ h), hK, hN⟩ hz B.returns B.notSynchronized hml (Nat.le_refl _) (Nat.le_refl _) hf _ _ _ ⟨hP, hY, va_S.rf⟩ hl
set_option maxHeartbeats 4000000 in
set_option maxRecDepth 100000 in
theorem w_X9_has {p : Program} {l : Launch} {e : Env} {R : Room} {s : State} {m : MethodId} {args : Array Value} {below : List Frame} {meth : Method} {c : Code} {D : va_G} {cA : Nat → ClassId} {b n : Nat} (hn : sg_okN n) {x0 : Int32} {x1 : Int32} {h : HP} {Rz : Int32} (hc : sg_Cx p s m args c cX9_has RX9 D cA) (hz : s.heap.size = b + n) (hr : meth.sig.returnType = some .boolean) (hlocks : meth.locks = false) (hml : c.maxLocals = 2) (hRf : 0 ≤ R.frames) (hRl : 0 ≤ R.locals) (hf : F_X9_has x0 x1 = some Rz) (H : Heap) (locs : List Loc) (ls : Array Slot) (hw : sg_Wo D b cA n s.heap h H locs) (hl : lv_has ls 2 [(0, .int x0), (1, .int x1)]) : W p l e R s m args below meth c H locs 0 0 (sg_Qi below args s D b cA n (fun r u => (r = Rz ∧ u = h) ∧ narrow .boolean (.int r) = .int r)) (F0 m 0 ls []) := by
  have hx := hc.1
  have hb := hc.2.1
  have hn0 : 0 < n := sg_pos hn
  unfold F_X9_has at hf
  refine lv_iload_n hx hb dX9_has_0 rfl (lv_at hl 0 rfl) ?_
  refine lv_iload_n hx hb dX9_has_1 rfl (lv_at hl 1 rfl) ?_
  refine lv_ishr hx hb dX9_has_2 ?_
  refine lv_iconst (v := 1) hx hb dX9_has_3 (by decide) ?_
  refine lv_iand hx hb dX9_has_4 ?_
  refine lv_iconst (v := 1) hx hb dX9_has_5 (by decide) ?_
  refine lv_icmp_ne (tgt := 13) hx hb dX9_has_6 (by decide) (fun c6 => ?_) (fun c6 => ?_)
  · have hf := if_no c6 hf
    refine lv_iconst (v := 0) hx hb dX9_has_13 (by decide) ?_
    cases hf
    exact sg_zret hc hw hz hn0 hr hlocks rfl ⟨⟨rfl, rfl⟩, rfl⟩ dX9_has_14
  · have hf := if_of c6 hf
    refine lv_iconst (v := 1) hx hb dX9_has_9 (by decide) ?_
    refine lv_goto (tgt := 14) hx hb dX9_has_10 (by decide) ?_
    cases hf
    exact sg_zret hc hw hz hn0 hr hlocks rfl ⟨⟨rfl, rfl⟩, rfl⟩ dX9_has_14
theorem c_X9_has {l : Launch} {D : va_G} {cA : Nat → ClassId} {b n : Nat} (hn : sg_okN n) {x0 : Int32} {x1 : Int32} {h : HP} {Rz : Int32} (hf : F_X9_has x0 x1 = some Rz) : Met l yX9_has (Cond.code yX9_has cX9_has 2 (some .boolean) :: sg_tbl) ({ frames := 0, cells := 0, slots := 0, locals := 0 } : Room) (va_Pc [.int x0, .int x1] (sg_Wd D b cA n h)) (va_Qi (fun r u => (r = Rz ∧ u = h) ∧ narrow .boolean (.int r) = .int r) (sg_Wd D b cA n) (sg_A b)) 0 0 (sg_A b) := by
  refine Met.ofW (cc := cX9_has) (maxL := 2) (ret := (some .boolean)) (by decide) rfl ?_
  intro p e s m args below meth c s₁ B hml hv
  obtain ⟨rfl, hP, hK, hz, hY, hN⟩ := hv
  have hl := lv_entry [.int x0, .int x1] (n := 2) (Nat.le_of_ble_eq_true rfl)
  rw [lg_entry_eq]
  exact w_X9_has hn ⟨B.exec, B.bytes, findClass_of_methodNamed B.named, fun w h => atoms_spec (ws := Cond.code yX9_has cX9_has 2 (some .boolean) :: sg_tbl) B.pre w (List.mem_cons_of_mem _ h), hK, hN⟩ hz B.returns B.notSynchronized hml (Nat.le_refl _) (Nat.le_refl _) hf _ _ _ ⟨hP, hY, va_S.rf⟩ hl
set_option maxHeartbeats 4000000 in
set_option maxRecDepth 100000 in
theorem w_X9_bits {p : Program} {l : Launch} {e : Env} {R : Room} {s : State} {m : MethodId} {args : Array Value} {below : List Frame} {meth : Method} {c : Code} {D : va_G} {cA : Nat → ClassId} {b n : Nat} (hn : sg_okN n) {x0 : Int32} {h : HP} {Rz : Int32} (hc : sg_Cx p s m args c cX9_bits RX9 D cA) (hz : s.heap.size = b + n) (hr : meth.sig.returnType = some .int) (hlocks : meth.locks = false) (hml : c.maxLocals = 3) (hRf : 0 ≤ R.frames) (hRl : 0 ≤ R.locals) (hf : F_X9_bits x0 = some Rz) (H : Heap) (locs : List Loc) (ls : Array Slot) (hw : sg_Wo D b cA n s.heap h H locs) (hl : lv_has ls 3 [(0, .int x0)]) : W p l e R s m args below meth c H locs 0 0 (sg_Qi below args s D b cA n (fun r u => r = Rz ∧ u = h)) (F0 m 0 ls []) := by
  have hx := hc.1
  have hb := hc.2.1
  have hn0 : 0 < n := sg_pos hn
  have L4 : ∀ (k : Nat) (x : (Int32 × Int32)), F_X9_bits_L4 k x = some Rz → ∀ (H : Heap) (locs : List Loc) (ls : Array Slot), sg_Wo D b cA n s.heap h H locs → lv_has ls 3 [(1, .int x.1), (2, .int x.2)] → W p l e R s m args below meth c H locs 0 0 (sg_Qi below args s D b cA n (fun r u => r = Rz ∧ u = h)) (F0 m 4 ls []) := by
    unfold F_X9_bits_L4
    refine lp_walk ?_
    intro rc4 hrc4 x hf H locs ls hw hl
    obtain ⟨x1, x2⟩ := x
    dsimp only at hf hw hl
    refine lv_iload_n hx hb dX9_bits_4 rfl (lv_at hl 1 rfl) ?_
    refine lv_if_eq (tgt := 20) hx hb dX9_bits_5 (by decide) (fun c5 => ?_) (fun c5 => ?_)
    · have hf := if_of c5 hf
      refine lv_iload_n hx hb dX9_bits_20 rfl (lv_at hl 0 rfl) ?_
      cases hf
      exact sg_iret hc hw hz hn0 hr hlocks ⟨rfl, rfl⟩ dX9_bits_21
    · have hf := if_no c5 hf
      refine lv_iinc (v := (x1 + 1)) (lv' := [(1, .int (x1 + 1)), (2, .int x2)]) hx hb dX9_bits_8 hl (k := 0) rfl rfl (by decide) rfl (fun ls hl => ?_)
      refine lv_iload_n hx hb dX9_bits_11 rfl (lv_at hl 1 rfl) ?_
      refine lv_iload_n hx hb dX9_bits_12 rfl (lv_at hl 1 rfl) ?_
      refine lv_iconst (v := 1) hx hb dX9_bits_13 (by decide) ?_
      refine lv_isub hx hb dX9_bits_14 ?_
      refine lv_iand hx hb dX9_bits_15 ?_
      refine lv_topi (fun v16 e16 => ?_)
      have hf := nm_of e16 hf
      refine lv_istore_n (lv' := [(2, .int v16), (1, .int (x1 + 1))]) hx hb dX9_bits_16 rfl hl (by decide) rfl (fun ls hl => ?_)
      refine lv_goto (tgt := 4) hx hb dX9_bits_17 (by decide) ?_
      exact hrc4 _ hf _ _ _ hw (lv_sub hl [1, 0] rfl)
  unfold F_X9_bits at hf
  refine lv_iconst (v := 0) hx hb dX9_bits_0 (by decide) ?_
  refine lv_istore_n (lv' := [(1, .int 0), (0, .int x0)]) hx hb dX9_bits_1 rfl hl (by decide) rfl (fun ls hl => ?_)
  refine lv_iload_n hx hb dX9_bits_2 rfl (lv_at hl 1 rfl) ?_
  refine lv_istore_n (lv' := [(2, .int x0), (1, .int 0), (0, .int x0)]) hx hb dX9_bits_3 rfl hl (by decide) rfl (fun ls hl => ?_)
  exact L4 _ _ hf _ _ _ hw (lv_sub hl [1, 0] rfl)
theorem c_X9_bits {l : Launch} {D : va_G} {cA : Nat → ClassId} {b n : Nat} (hn : sg_okN n) {x0 : Int32} {h : HP} {Rz : Int32} (hf : F_X9_bits x0 = some Rz) : Met l yX9_bits (Cond.code yX9_bits cX9_bits 3 (some .int) :: sg_tbl) ({ frames := 0, cells := 0, slots := 0, locals := 0 } : Room) (va_Pc [.int x0] (sg_Wd D b cA n h)) (va_Qi (fun r u => r = Rz ∧ u = h) (sg_Wd D b cA n) (sg_A b)) 0 0 (sg_A b) := by
  refine Met.ofW (cc := cX9_bits) (maxL := 3) (ret := (some .int)) (by decide) rfl ?_
  intro p e s m args below meth c s₁ B hml hv
  obtain ⟨rfl, hP, hK, hz, hY, hN⟩ := hv
  have hl := lv_entry [.int x0] (n := 3) (Nat.le_of_ble_eq_true rfl)
  rw [lg_entry_eq]
  exact w_X9_bits hn ⟨B.exec, B.bytes, findClass_of_methodNamed B.named, fun w h => atoms_spec (ws := Cond.code yX9_bits cX9_bits 3 (some .int) :: sg_tbl) B.pre w (List.mem_cons_of_mem _ h), hK, hN⟩ hz B.returns B.notSynchronized hml (Nat.le_refl _) (Nat.le_refl _) hf _ _ _ ⟨hP, hY, va_S.rf⟩ hl
set_option maxHeartbeats 4000000 in
set_option maxRecDepth 100000 in
theorem w_X9_write {p : Program} {l : Launch} {e : Env} {R : Room} {s : State} {m : MethodId} {args : Array Value} {below : List Frame} {meth : Method} {c : Code} {D : va_G} {cA : Nat → ClassId} {b n : Nat} (hn : sg_okN n) {a : Nat} {x1 : Int32} {h : HP} {Rz : Int32 × HP} (hc : sg_Cx p s m args c cX9_write RX9 D cA) (hz : s.heap.size = b + n) (hr : meth.sig.returnType = some .int) (hlocks : meth.locks = false) (hml : c.maxLocals = 2) (hRf : 1 ≤ R.frames) (hRl : 25 ≤ R.locals) (ha_a : a < n) (hT_a : sg_T a = 9) (hf : F_X9_write a x1 h = some Rz) (H : Heap) (locs : List Loc) (ls : Array Slot) (hw : sg_Wo D b cA n s.heap h H locs) (hl : lv_has ls 2 [(0, .ref (b + a)), (1, .int x1)]) : W p l e R s m args below meth c H locs 0 0 (sg_Qi below args s D b cA n (fun r u => r = Rz.1 ∧ u = Rz.2)) (F0 m 0 ls []) := by
  have hx := hc.1
  have hb := hc.2.1
  have hn0 : 0 < n := sg_pos hn
  unfold F_X9_write at hf
  refine lv_iload_n hx hb dX9_write_0 rfl (lv_at hl 1 rfl) ?_
  refine lv_i2l hx hb dX9_write_1 rfl ?_
  refine lv_ldc2 hx hb hc.2.2.1 (hc.2.2.2.1 _ k_962) dX9_write_2 ?_
  refine lv_ldc2 hx hb hc.2.2.1 (hc.2.2.2.1 _ k_963) dX9_write_5 ?_
  obtain ⟨p8, hp8, hf⟩ := cl_of hf
  refine sg_si (rest := []) (c_X9_in hn (h := h) hp8) hc hw hz hn0 hml hl cs_X9_87 ⟨⟨rfl, rfl⟩, Nat.le_trans (Nat.le_of_ble_eq_true rfl) hRf, Nat.le_trans (Nat.le_of_ble_eq_true rfl) hRl⟩ ⟨Nat.zero_le _, Nat.zero_le _⟩ rfl rfl (Nat.le_of_ble_eq_true rfl) dX9_write_8 (fun r h1 H locs hp hw => ?_)
  obtain ⟨⟨e1, e2⟩, hb8⟩ := hp; subst r; subst h1
  refine lv_if_ne (tgt := 16) hx hb dX9_write_11 (by decide) (fun c11 => ?_) (fun c11 => ?_)
  · have hf := if_no c11 hf
    refine lv_aload_n hx hb dX9_write_16 rfl (lv_at hl 0 rfl) ?_
    refine sg_geti hc hw ha_a hT_a fi_9_9 k_882 dX9_write_17 ?_
    refine lv_sipush (v := 200) hx hb dX9_write_20 (by decide) ?_
    refine lv_icmp_ne (tgt := 29) hx hb dX9_write_23 (by decide) (fun c23 => ?_) (fun c23 => ?_)
    · have hf := if_no c23 hf
      refine lv_aload_n hx hb dX9_write_29 rfl (lv_at hl 0 rfl) ?_
      obtain ⟨hF30, hT30, ha30, hN30⟩ := ft_9_8 hn ha_a hT_a
      refine sg_getf (q := (a + 7)) hc hw ha_a hT_a fr_9_8 (by decide) k_881 dX9_write_30 hF30 ?_
      refine lv_aload_n hx hb dX9_write_33 rfl (lv_at hl 0 rfl) ?_
      refine sg_geti hc hw ha_a hT_a fi_9_9 k_882 dX9_write_34 ?_
      refine lv_iload_n hx hb dX9_write_37 rfl (lv_at hl 1 rfl) ?_
      obtain ⟨hg38, hf⟩ := gd_of hf
      refine sg_ist hc hw ha30 hT30 hN30 hg38 dX9_write_38 (fun H locs hw => ?_)
      obtain ⟨h38, hw, hf⟩ := sg_name hw hf
      refine lv_aload_n hx hb dX9_write_39 rfl (lv_at hl 0 rfl) ?_
      refine lv_dup hx hb dX9_write_40 rfl ?_
      refine sg_geti hc hw ha_a hT_a fi_9_9 k_882 dX9_write_41 ?_
      refine lv_iconst (v := 1) hx hb dX9_write_44 (by decide) ?_
      refine lv_iadd hx hb dX9_write_45 ?_
      refine sg_puti hc hw ha_a hT_a fp_9_9 rfl rfl k_882 dX9_write_46 (fun H locs hw => ?_)
      obtain ⟨h46, hw, hf⟩ := sg_name hw hf
      refine lv_aload_n hx hb dX9_write_49 rfl (lv_at hl 0 rfl) ?_
      refine sg_geti hc hw ha_a hT_a fi_9_9 k_882 dX9_write_50 ?_
      cases hf
      exact sg_iret hc hw hz hn0 hr hlocks ⟨rfl, rfl⟩ dX9_write_53
    · have hf := if_of c23 hf
      refine lv_bipush (v := (-3)) hx hb dX9_write_26 (by decide) ?_
      cases hf
      exact sg_iret hc hw hz hn0 hr hlocks ⟨rfl, rfl⟩ dX9_write_28
  · have hf := if_of c11 hf
    refine lv_iconst (v := (-1)) hx hb dX9_write_14 (by decide) ?_
    cases hf
    exact sg_iret hc hw hz hn0 hr hlocks ⟨rfl, rfl⟩ dX9_write_15
theorem c_X9_write {l : Launch} {D : va_G} {cA : Nat → ClassId} {b n : Nat} (hn : sg_okN n) {a : Nat} {x1 : Int32} (ha_a : a < n) (hT_a : sg_T a = 9) {h : HP} {Rz : Int32 × HP} (hf : F_X9_write a x1 h = some Rz) : Met l yX9_write (Cond.code yX9_write cX9_write 2 (some .int) :: sg_tbl) ({ frames := 1, cells := 0, slots := 0, locals := 25 } : Room) (va_Pc [.ref (b + a), .int x1] (sg_Wd D b cA n h)) (va_Qi (fun r u => r = Rz.1 ∧ u = Rz.2) (sg_Wd D b cA n) (sg_A b)) 0 0 (sg_A b) := by
  refine Met.ofW (cc := cX9_write) (maxL := 2) (ret := (some .int)) (by decide) rfl ?_
  intro p e s m args below meth c s₁ B hml hv
  obtain ⟨rfl, hP, hK, hz, hY, hN⟩ := hv
  have hl := lv_entry [.ref (b + a), .int x1] (n := 2) (Nat.le_of_ble_eq_true rfl)
  rw [lg_entry_eq]
  exact w_X9_write hn ⟨B.exec, B.bytes, findClass_of_methodNamed B.named, fun w h => atoms_spec (ws := Cond.code yX9_write cX9_write 2 (some .int) :: sg_tbl) B.pre w (List.mem_cons_of_mem _ h), hK, hN⟩ hz B.returns B.notSynchronized hml (Nat.le_refl _) (Nat.le_refl _) ha_a hT_a hf _ _ _ ⟨hP, hY, va_S.rf⟩ hl
set_option maxHeartbeats 4000000 in
set_option maxRecDepth 100000 in
theorem w_X9_wipe {p : Program} {l : Launch} {e : Env} {R : Room} {s : State} {m : MethodId} {args : Array Value} {below : List Frame} {meth : Method} {c : Code} {D : va_G} {cA : Nat → ClassId} {b n : Nat} (hn : sg_okN n) {a : Nat} {h : HP} {Rz : Int32 × HP} (hc : sg_Cx p s m args c cX9_wipe RX9 D cA) (hz : s.heap.size = b + n) (hr : meth.sig.returnType = some .int) (hlocks : meth.locks = false) (hml : c.maxLocals = 2) (hRf : 0 ≤ R.frames) (hRl : 0 ≤ R.locals) (ha_a : a < n) (hT_a : sg_T a = 9) (hf : F_X9_wipe a h = some Rz) (H : Heap) (locs : List Loc) (ls : Array Slot) (hw : sg_Wo D b cA n s.heap h H locs) (hl : lv_has ls 2 [(0, .ref (b + a))]) : W p l e R s m args below meth c H locs 0 0 (sg_Qi below args s D b cA n (fun r u => r = Rz.1 ∧ u = Rz.2)) (F0 m 0 ls []) := by
  have hx := hc.1
  have hb := hc.2.1
  have hn0 : 0 < n := sg_pos hn
  unfold F_X9_wipe at hf
  refine lv_aload_n hx hb dX9_wipe_0 rfl (lv_at hl 0 rfl) ?_
  refine sg_geti hc hw ha_a hT_a fi_9_9 k_882 dX9_wipe_1 ?_
  refine lv_topi (fun v4 e4 => ?_)
  have hf := nm_of e4 hf
  refine lv_istore_n (lv' := [(1, .int v4), (0, .ref (b + a))]) hx hb dX9_wipe_4 rfl hl (by decide) rfl (fun ls hl => ?_)
  refine lv_aload_n hx hb dX9_wipe_5 rfl (lv_at hl 1 rfl) ?_
  refine lv_iconst (v := 0) hx hb dX9_wipe_6 (by decide) ?_
  refine sg_puti hc hw ha_a hT_a fp_9_9 rfl rfl k_882 dX9_wipe_7 (fun H locs hw => ?_)
  obtain ⟨h7, hw, hf⟩ := sg_name hw hf
  refine lv_iload_n hx hb dX9_wipe_10 rfl (lv_at hl 0 rfl) ?_
  cases hf
  exact sg_iret hc hw hz hn0 hr hlocks ⟨rfl, rfl⟩ dX9_wipe_11
theorem c_X9_wipe {l : Launch} {D : va_G} {cA : Nat → ClassId} {b n : Nat} (hn : sg_okN n) {a : Nat} (ha_a : a < n) (hT_a : sg_T a = 9) {h : HP} {Rz : Int32 × HP} (hf : F_X9_wipe a h = some Rz) : Met l yX9_wipe (Cond.code yX9_wipe cX9_wipe 2 (some .int) :: sg_tbl) ({ frames := 0, cells := 0, slots := 0, locals := 0 } : Room) (va_Pc [.ref (b + a)] (sg_Wd D b cA n h)) (va_Qi (fun r u => r = Rz.1 ∧ u = Rz.2) (sg_Wd D b cA n) (sg_A b)) 0 0 (sg_A b) := by
  refine Met.ofW (cc := cX9_wipe) (maxL := 2) (ret := (some .int)) (by decide) rfl ?_
  intro p e s m args below meth c s₁ B hml hv
  obtain ⟨rfl, hP, hK, hz, hY, hN⟩ := hv
  have hl := lv_entry [.ref (b + a)] (n := 2) (Nat.le_of_ble_eq_true rfl)
  rw [lg_entry_eq]
  exact w_X9_wipe hn ⟨B.exec, B.bytes, findClass_of_methodNamed B.named, fun w h => atoms_spec (ws := Cond.code yX9_wipe cX9_wipe 2 (some .int) :: sg_tbl) B.pre w (List.mem_cons_of_mem _ h), hK, hN⟩ hz B.returns B.notSynchronized hml (Nat.le_refl _) (Nat.le_refl _) ha_a hT_a hf _ _ _ ⟨hP, hY, va_S.rf⟩ hl
set_option maxHeartbeats 4000000 in
set_option maxRecDepth 100000 in
theorem w_X9_clean {p : Program} {l : Launch} {e : Env} {R : Room} {s : State} {m : MethodId} {args : Array Value} {below : List Frame} {meth : Method} {c : Code} {D : va_G} {cA : Nat → ClassId} {b n : Nat} (hn : sg_okN n) {a : Nat} {h : HP} {Rz : HP} (hc : sg_Cx p s m args c cX9_clean RX9 D cA) (hz : s.heap.size = b + n) (hr : meth.sig.returnType = none) (hlocks : meth.locks = false) (hml : c.maxLocals = 2) (hRf : 0 ≤ R.frames) (hRl : 0 ≤ R.locals) (ha_a : a < n) (hT_a : sg_T a = 9) (hf : F_X9_clean a h = some Rz) (H : Heap) (locs : List Loc) (ls : Array Slot) (hw : sg_Wo D b cA n s.heap h H locs) (hl : lv_has ls 2 [(0, .ref (b + a))]) : W p l e R s m args below meth c H locs 0 0 (sg_Qv below args s D b cA n (fun u => u = Rz)) (F0 m 0 ls []) := by
  have hx := hc.1
  have hb := hc.2.1
  have hn0 : 0 < n := sg_pos hn
  have L51 : ∀ (k : Nat) (x : (Int32 × HP)), F_X9_clean_L51 a k x = some Rz → ∀ (H : Heap) (locs : List Loc) (ls : Array Slot), sg_Wo D b cA n s.heap x.2 H locs → lv_has ls 2 [(0, .ref (b + a)), (1, .int x.1)] → W p l e R s m args below meth c H locs 0 0 (sg_Qv below args s D b cA n (fun u => u = Rz)) (F0 m 51 ls []) := by
    unfold F_X9_clean_L51
    refine lp_walk ?_
    intro rc51 hrc51 x hf H locs ls hw hl
    obtain ⟨x1, h⟩ := x
    dsimp only at hf hw hl
    refine lv_iload_n hx hb dX9_clean_51 rfl (lv_at hl 1 rfl) ?_
    refine lv_bipush (v := 6) hx hb dX9_clean_52 (by decide) ?_
    refine lv_icmp_ge (tgt := 73) hx hb dX9_clean_54 (by decide) (fun c54 => ?_) (fun c54 => ?_)
    · have hf := if_of c54 hf
      cases hf
      exact sg_vret hc hw hz hn0 hr hlocks rfl dX9_clean_73
    · have hf := if_no c54 hf
      refine lv_aload_n hx hb dX9_clean_57 rfl (lv_at hl 0 rfl) ?_
      obtain ⟨hF58, hT58, ha58, hN58⟩ := ft_9_1 hn ha_a hT_a
      refine sg_getf (q := (a + 2)) hc hw ha_a hT_a fr_9_1 (by decide) k_874 dX9_clean_58 hF58 ?_
      refine lv_bipush (v := 16) hx hb dX9_clean_61 (by decide) ?_
      refine lv_iload_n hx hb dX9_clean_63 rfl (lv_at hl 1 rfl) ?_
      refine lv_iadd hx hb dX9_clean_64 ?_
      refine lv_iconst (v := 1) hx hb dX9_clean_65 (by decide) ?_
      obtain ⟨hg66, hf⟩ := gd_of hf
      refine sg_ist hc hw ha58 hT58 hN58 hg66 dX9_clean_66 (fun H locs hw => ?_)
      obtain ⟨h66, hw, hf⟩ := sg_name hw hf
      refine lv_iinc (v := (x1 + 1)) (lv' := [(1, .int (x1 + 1)), (0, .ref (b + a))]) hx hb dX9_clean_67 hl (k := 1) rfl rfl (by decide) rfl (fun ls hl => ?_)
      refine lv_goto (tgt := 51) hx hb dX9_clean_70 (by decide) ?_
      exact hrc51 _ hf _ _ _ hw (lv_sub hl [1, 0] rfl)
  have J42 : ∀ (h : HP) (H : Heap) (locs : List Loc) (ls : Array Slot), F_X9_clean_J42 a h = some Rz → sg_Wo D b cA n s.heap h H locs → lv_has ls 2 [(0, .ref (b + a))] → W p l e R s m args below meth c H locs 0 0 (sg_Qv below args s D b cA n (fun u => u = Rz)) (F0 m 42 ls []) := by
    intro h H locs ls hf hw hl
    unfold F_X9_clean_J42 at hf
    refine lv_aload_n hx hb dX9_clean_42 rfl (lv_at hl 0 rfl) ?_
    obtain ⟨hF43, hT43, ha43, hN43⟩ := ft_9_1 hn ha_a hT_a
    refine sg_getf (q := (a + 2)) hc hw ha_a hT_a fr_9_1 (by decide) k_874 dX9_clean_43 hF43 ?_
    refine lv_iconst (v := 2) hx hb dX9_clean_46 (by decide) ?_
    refine lv_iconst (v := 1) hx hb dX9_clean_47 (by decide) ?_
    refine sg_ist hc hw ha43 hT43 hN43 (show vp_in 2 34 by unfold vp_in; decide) dX9_clean_48 (fun H locs hw => ?_)
    obtain ⟨h48, hw, hf⟩ := sg_name hw hf
    refine lv_iconst (v := 0) hx hb dX9_clean_49 (by decide) ?_
    refine lv_istore_n (lv' := [(1, .int 0), (0, .ref (b + a))]) hx hb dX9_clean_50 rfl hl (by decide) rfl (fun ls hl => ?_)
    exact L51 _ _ hf _ _ _ hw (lv_sub hl [1, 0] rfl)
  have L23 : ∀ (k : Nat) (x : (Int32 × HP)), F_X9_clean_L23 a k x = some Rz → ∀ (H : Heap) (locs : List Loc) (ls : Array Slot), sg_Wo D b cA n s.heap x.2 H locs → lv_has ls 2 [(0, .ref (b + a)), (1, .int x.1)] → W p l e R s m args below meth c H locs 0 0 (sg_Qv below args s D b cA n (fun u => u = Rz)) (F0 m 23 ls []) := by
    unfold F_X9_clean_L23
    refine lp_walk ?_
    intro rc23 hrc23 x hf H locs ls hw hl
    obtain ⟨x1, h⟩ := x
    dsimp only at hf hw hl
    refine lv_iload_n hx hb dX9_clean_23 rfl (lv_at hl 1 rfl) ?_
    refine lv_bipush (v := 31) hx hb dX9_clean_24 (by decide) ?_
    refine lv_icmp_ge (tgt := 42) hx hb dX9_clean_26 (by decide) (fun c26 => ?_) (fun c26 => ?_)
    · have hf := if_of c26 hf
      exact J42 _ _ _ _ hf hw (lv_sub hl [0] rfl)
    · have hf := if_no c26 hf
      refine lv_aload_n hx hb dX9_clean_29 rfl (lv_at hl 0 rfl) ?_
      obtain ⟨hF30, hT30, ha30, hN30⟩ := ft_9_3 hn ha_a hT_a
      refine sg_getf (q := (a + 4)) hc hw ha_a hT_a fr_9_3 (by decide) k_876 dX9_clean_30 hF30 ?_
      refine lv_iload_n hx hb dX9_clean_33 rfl (lv_at hl 1 rfl) ?_
      refine lv_iconst (v := 0) hx hb dX9_clean_34 (by decide) ?_
      obtain ⟨hg35, hf⟩ := gd_of hf
      refine sg_ist hc hw ha30 hT30 hN30 hg35 dX9_clean_35 (fun H locs hw => ?_)
      obtain ⟨h35, hw, hf⟩ := sg_name hw hf
      refine lv_iinc (v := (x1 + 1)) (lv' := [(1, .int (x1 + 1)), (0, .ref (b + a))]) hx hb dX9_clean_36 hl (k := 1) rfl rfl (by decide) rfl (fun ls hl => ?_)
      refine lv_goto (tgt := 23) hx hb dX9_clean_39 (by decide) ?_
      exact hrc23 _ hf _ _ _ hw (lv_sub hl [1, 0] rfl)
  have J21 : ∀ (h : HP) (H : Heap) (locs : List Loc) (ls : Array Slot), F_X9_clean_J21 a h = some Rz → sg_Wo D b cA n s.heap h H locs → lv_has ls 2 [(0, .ref (b + a))] → W p l e R s m args below meth c H locs 0 0 (sg_Qv below args s D b cA n (fun u => u = Rz)) (F0 m 21 ls []) := by
    intro h H locs ls hf hw hl
    unfold F_X9_clean_J21 at hf
    refine lv_iconst (v := 0) hx hb dX9_clean_21 (by decide) ?_
    refine lv_istore_n (lv' := [(1, .int 0), (0, .ref (b + a))]) hx hb dX9_clean_22 rfl hl (by decide) rfl (fun ls hl => ?_)
    exact L23 _ _ hf _ _ _ hw (lv_sub hl [1, 0] rfl)
  have L2 : ∀ (k : Nat) (x : (Int32 × HP)), F_X9_clean_L2 a k x = some Rz → ∀ (H : Heap) (locs : List Loc) (ls : Array Slot), sg_Wo D b cA n s.heap x.2 H locs → lv_has ls 2 [(0, .ref (b + a)), (1, .int x.1)] → W p l e R s m args below meth c H locs 0 0 (sg_Qv below args s D b cA n (fun u => u = Rz)) (F0 m 2 ls []) := by
    unfold F_X9_clean_L2
    refine lp_walk ?_
    intro rc2 hrc2 x hf H locs ls hw hl
    obtain ⟨x1, h⟩ := x
    dsimp only at hf hw hl
    refine lv_iload_n hx hb dX9_clean_2 rfl (lv_at hl 1 rfl) ?_
    refine lv_bipush (v := 34) hx hb dX9_clean_3 (by decide) ?_
    refine lv_icmp_ge (tgt := 21) hx hb dX9_clean_5 (by decide) (fun c5 => ?_) (fun c5 => ?_)
    · have hf := if_of c5 hf
      exact J21 _ _ _ _ hf hw (lv_sub hl [0] rfl)
    · have hf := if_no c5 hf
      refine lv_aload_n hx hb dX9_clean_8 rfl (lv_at hl 0 rfl) ?_
      obtain ⟨hF9, hT9, ha9, hN9⟩ := ft_9_1 hn ha_a hT_a
      refine sg_getf (q := (a + 2)) hc hw ha_a hT_a fr_9_1 (by decide) k_874 dX9_clean_9 hF9 ?_
      refine lv_iload_n hx hb dX9_clean_12 rfl (lv_at hl 1 rfl) ?_
      refine lv_iconst (v := 0) hx hb dX9_clean_13 (by decide) ?_
      obtain ⟨hg14, hf⟩ := gd_of hf
      refine sg_ist hc hw ha9 hT9 hN9 hg14 dX9_clean_14 (fun H locs hw => ?_)
      obtain ⟨h14, hw, hf⟩ := sg_name hw hf
      refine lv_iinc (v := (x1 + 1)) (lv' := [(1, .int (x1 + 1)), (0, .ref (b + a))]) hx hb dX9_clean_15 hl (k := 1) rfl rfl (by decide) rfl (fun ls hl => ?_)
      refine lv_goto (tgt := 2) hx hb dX9_clean_18 (by decide) ?_
      exact hrc2 _ hf _ _ _ hw (lv_sub hl [1, 0] rfl)
  unfold F_X9_clean at hf
  refine lv_iconst (v := 0) hx hb dX9_clean_0 (by decide) ?_
  refine lv_istore_n (lv' := [(1, .int 0), (0, .ref (b + a))]) hx hb dX9_clean_1 rfl hl (by decide) rfl (fun ls hl => ?_)
  exact L2 _ _ hf _ _ _ hw (lv_sub hl [1, 0] rfl)
theorem c_X9_clean {l : Launch} {D : va_G} {cA : Nat → ClassId} {b n : Nat} (hn : sg_okN n) {a : Nat} (ha_a : a < n) (hT_a : sg_T a = 9) {h : HP} {Rz : HP} (hf : F_X9_clean a h = some Rz) : Met l yX9_clean (Cond.code yX9_clean cX9_clean 2 none :: sg_tbl) ({ frames := 0, cells := 0, slots := 0, locals := 0 } : Room) (va_Pc [.ref (b + a)] (sg_Wd D b cA n h)) (va_Qv (fun u => u = Rz) (sg_Wd D b cA n) (sg_A b)) 0 0 (sg_A b) := by
  refine Met.ofW (cc := cX9_clean) (maxL := 2) (ret := none) (by decide) rfl ?_
  intro p e s m args below meth c s₁ B hml hv
  obtain ⟨rfl, hP, hK, hz, hY, hN⟩ := hv
  have hl := lv_entry [.ref (b + a)] (n := 2) (Nat.le_of_ble_eq_true rfl)
  rw [lg_entry_eq]
  exact w_X9_clean hn ⟨B.exec, B.bytes, findClass_of_methodNamed B.named, fun w h => atoms_spec (ws := Cond.code yX9_clean cX9_clean 2 none :: sg_tbl) B.pre w (List.mem_cons_of_mem _ h), hK, hN⟩ hz B.returns B.notSynchronized hml (Nat.le_refl _) (Nat.le_refl _) ha_a hT_a hf _ _ _ ⟨hP, hY, va_S.rf⟩ hl
set_option maxHeartbeats 4000000 in
set_option maxRecDepth 100000 in
theorem w_X9_stretch {p : Program} {l : Launch} {e : Env} {R : Room} {s : State} {m : MethodId} {args : Array Value} {below : List Frame} {meth : Method} {c : Code} {D : va_G} {cA : Nat → ClassId} {b n : Nat} (hn : sg_okN n) {a : Nat} {x1 : Int32} {x2 : Int32} {h : HP} {Rz : HP} (hc : sg_Cx p s m args c cX9_stretch RX9 D cA) (hz : s.heap.size = b + n) (hr : meth.sig.returnType = none) (hlocks : meth.locks = false) (hml : c.maxLocals = 4) (hRf : 0 ≤ R.frames) (hRl : 0 ≤ R.locals) (ha_a : a < n) (hT_a : sg_T a = 9) (hf : F_X9_stretch a x1 x2 h = some Rz) (H : Heap) (locs : List Loc) (ls : Array Slot) (hw : sg_Wo D b cA n s.heap h H locs) (hl : lv_has ls 4 [(0, .ref (b + a)), (1, .int x1), (2, .int x2)]) : W p l e R s m args below meth c H locs 0 0 (sg_Qv below args s D b cA n (fun u => u = Rz)) (F0 m 0 ls []) := by
  have hx := hc.1
  have hb := hc.2.1
  have hn0 : 0 < n := sg_pos hn
  unfold F_X9_stretch at hf
  refine lv_aload_n hx hb dX9_stretch_0 rfl (lv_at hl 0 rfl) ?_
  obtain ⟨hF1, hT1, ha1, hN1⟩ := ft_9_1 hn ha_a hT_a
  refine sg_getf (q := (a + 2)) hc hw ha_a hT_a fr_9_1 (by decide) k_874 dX9_stretch_1 hF1 ?_
  refine lv_iconst (v := 0) hx hb dX9_stretch_4 (by decide) ?_
  refine sg_ild hc hw ha1 hT1 hN1 (show vp_in 0 34 by unfold vp_in; decide) dX9_stretch_5 ?_
  refine lv_topi (fun v6 e6 => ?_)
  have hf := nm_of e6 hf
  refine lv_istore_n (lv' := [(3, .int v6), (0, .ref (b + a)), (1, .int x1), (2, .int x2)]) hx hb dX9_stretch_6 rfl hl (by decide) rfl (fun ls hl => ?_)
  refine lv_aload_n hx hb dX9_stretch_7 rfl (lv_at hl 1 rfl) ?_
  refine sg_getf (q := (a + 2)) hc hw ha_a hT_a fr_9_1 (by decide) k_874 dX9_stretch_8 (ft_9_1 hn ha_a hT_a).1 ?_
  refine lv_iconst (v := 4) hx hb dX9_stretch_11 (by decide) ?_
  refine lv_iload_n hx hb dX9_stretch_12 rfl (lv_at hl 0 rfl) ?_
  refine lv_iadd hx hb dX9_stretch_13 ?_
  refine lv_iload_n hx hb dX9_stretch_14 rfl (lv_at hl 2 rfl) ?_
  obtain ⟨hg15, hf⟩ := gd_of hf
  refine sg_ist hc hw ha1 hT1 hN1 hg15 dX9_stretch_15 (fun H locs hw => ?_)
  obtain ⟨h15, hw, hf⟩ := sg_name hw hf
  refine lv_aload_n hx hb dX9_stretch_16 rfl (lv_at hl 1 rfl) ?_
  refine sg_getf (q := (a + 2)) hc hw ha_a hT_a fr_9_1 (by decide) k_874 dX9_stretch_17 (ft_9_1 hn ha_a hT_a).1 ?_
  refine lv_bipush (v := 10) hx hb dX9_stretch_20 (by decide) ?_
  refine lv_iload_n hx hb dX9_stretch_22 rfl (lv_at hl 0 rfl) ?_
  refine lv_iadd hx hb dX9_stretch_23 ?_
  refine lv_iload_n hx hb dX9_stretch_24 rfl (lv_at hl 3 rfl) ?_
  obtain ⟨hg25, hf⟩ := gd_of hf
  refine sg_ist hc hw ha1 hT1 hN1 hg25 dX9_stretch_25 (fun H locs hw => ?_)
  obtain ⟨h25, hw, hf⟩ := sg_name hw hf
  refine lv_aload_n hx hb dX9_stretch_26 rfl (lv_at hl 1 rfl) ?_
  refine sg_getf (q := (a + 2)) hc hw ha_a hT_a fr_9_1 (by decide) k_874 dX9_stretch_27 (ft_9_1 hn ha_a hT_a).1 ?_
  refine lv_iconst (v := 0) hx hb dX9_stretch_30 (by decide) ?_
  refine lv_dup2_11 hx hb dX9_stretch_31 rfl rfl ?_
  refine sg_ild hc hw ha1 hT1 hN1 (show vp_in 0 34 by unfold vp_in; decide) dX9_stretch_32 ?_
  refine lv_iconst (v := 1) hx hb dX9_stretch_33 (by decide) ?_
  refine lv_iadd hx hb dX9_stretch_34 ?_
  refine sg_ist hc hw ha1 hT1 hN1 (show vp_in 0 34 by unfold vp_in; decide) dX9_stretch_35 (fun H locs hw => ?_)
  obtain ⟨h35, hw, hf⟩ := sg_name hw hf
  cases hf
  exact sg_vret hc hw hz hn0 hr hlocks rfl dX9_stretch_36
theorem c_X9_stretch {l : Launch} {D : va_G} {cA : Nat → ClassId} {b n : Nat} (hn : sg_okN n) {a : Nat} {x1 : Int32} {x2 : Int32} (ha_a : a < n) (hT_a : sg_T a = 9) {h : HP} {Rz : HP} (hf : F_X9_stretch a x1 x2 h = some Rz) : Met l yX9_stretch (Cond.code yX9_stretch cX9_stretch 4 none :: sg_tbl) ({ frames := 0, cells := 0, slots := 0, locals := 0 } : Room) (va_Pc [.ref (b + a), .int x1, .int x2] (sg_Wd D b cA n h)) (va_Qv (fun u => u = Rz) (sg_Wd D b cA n) (sg_A b)) 0 0 (sg_A b) := by
  refine Met.ofW (cc := cX9_stretch) (maxL := 4) (ret := none) (by decide) rfl ?_
  intro p e s m args below meth c s₁ B hml hv
  obtain ⟨rfl, hP, hK, hz, hY, hN⟩ := hv
  have hl := lv_entry [.ref (b + a), .int x1, .int x2] (n := 4) (Nat.le_of_ble_eq_true rfl)
  rw [lg_entry_eq]
  exact w_X9_stretch hn ⟨B.exec, B.bytes, findClass_of_methodNamed B.named, fun w h => atoms_spec (ws := Cond.code yX9_stretch cX9_stretch 4 none :: sg_tbl) B.pre w (List.mem_cons_of_mem _ h), hK, hN⟩ hz B.returns B.notSynchronized hml (Nat.le_refl _) (Nat.le_refl _) ha_a hT_a hf _ _ _ ⟨hP, hY, va_S.rf⟩ hl
set_option maxHeartbeats 4000000 in
set_option maxRecDepth 100000 in
theorem w_X9_comes {p : Program} {l : Launch} {e : Env} {R : Room} {s : State} {m : MethodId} {args : Array Value} {below : List Frame} {meth : Method} {c : Code} {D : va_G} {cA : Nat → ClassId} {b n : Nat} (hn : sg_okN n) {a : Nat} {x1 : Int32} {x2 : Int32} {h : HP} {Rz : HP} (hc : sg_Cx p s m args c cX9_comes RX9 D cA) (hz : s.heap.size = b + n) (hr : meth.sig.returnType = none) (hlocks : meth.locks = false) (hml : c.maxLocals = 4) (hRf : 0 ≤ R.frames) (hRl : 0 ≤ R.locals) (ha_a : a < n) (hT_a : sg_T a = 9) (hf : F_X9_comes a x1 x2 h = some Rz) (H : Heap) (locs : List Loc) (ls : Array Slot) (hw : sg_Wo D b cA n s.heap h H locs) (hl : lv_has ls 4 [(0, .ref (b + a)), (1, .int x1), (2, .int x2)]) : W p l e R s m args below meth c H locs 0 0 (sg_Qv below args s D b cA n (fun u => u = Rz)) (F0 m 0 ls []) := by
  have hx := hc.1
  have hb := hc.2.1
  have hn0 : 0 < n := sg_pos hn
  unfold F_X9_comes at hf
  refine lv_aload_n hx hb dX9_comes_0 rfl (lv_at hl 0 rfl) ?_
  obtain ⟨hF1, hT1, ha1, hN1⟩ := ft_9_1 hn ha_a hT_a
  refine sg_getf (q := (a + 2)) hc hw ha_a hT_a fr_9_1 (by decide) k_874 dX9_comes_1 hF1 ?_
  refine lv_iconst (v := 1) hx hb dX9_comes_4 (by decide) ?_
  refine sg_ild hc hw ha1 hT1 hN1 (show vp_in 1 34 by unfold vp_in; decide) dX9_comes_5 ?_
  refine lv_topi (fun v6 e6 => ?_)
  have hf := nm_of e6 hf
  refine lv_istore_n (lv' := [(3, .int v6), (0, .ref (b + a)), (1, .int x1), (2, .int x2)]) hx hb dX9_comes_6 rfl hl (by decide) rfl (fun ls hl => ?_)
  refine lv_aload_n hx hb dX9_comes_7 rfl (lv_at hl 1 rfl) ?_
  refine sg_getf (q := (a + 2)) hc hw ha_a hT_a fr_9_1 (by decide) k_874 dX9_comes_8 (ft_9_1 hn ha_a hT_a).1 ?_
  refine lv_bipush (v := 22) hx hb dX9_comes_11 (by decide) ?_
  refine lv_iload_n hx hb dX9_comes_13 rfl (lv_at hl 0 rfl) ?_
  refine lv_iadd hx hb dX9_comes_14 ?_
  refine lv_iload_n hx hb dX9_comes_15 rfl (lv_at hl 2 rfl) ?_
  obtain ⟨hg16, hf⟩ := gd_of hf
  refine sg_ist hc hw ha1 hT1 hN1 hg16 dX9_comes_16 (fun H locs hw => ?_)
  obtain ⟨h16, hw, hf⟩ := sg_name hw hf
  refine lv_aload_n hx hb dX9_comes_17 rfl (lv_at hl 1 rfl) ?_
  refine sg_getf (q := (a + 2)) hc hw ha_a hT_a fr_9_1 (by decide) k_874 dX9_comes_18 (ft_9_1 hn ha_a hT_a).1 ?_
  refine lv_bipush (v := 28) hx hb dX9_comes_21 (by decide) ?_
  refine lv_iload_n hx hb dX9_comes_23 rfl (lv_at hl 0 rfl) ?_
  refine lv_iadd hx hb dX9_comes_24 ?_
  refine lv_iload_n hx hb dX9_comes_25 rfl (lv_at hl 3 rfl) ?_
  obtain ⟨hg26, hf⟩ := gd_of hf
  refine sg_ist hc hw ha1 hT1 hN1 hg26 dX9_comes_26 (fun H locs hw => ?_)
  obtain ⟨h26, hw, hf⟩ := sg_name hw hf
  refine lv_aload_n hx hb dX9_comes_27 rfl (lv_at hl 1 rfl) ?_
  refine sg_getf (q := (a + 2)) hc hw ha_a hT_a fr_9_1 (by decide) k_874 dX9_comes_28 (ft_9_1 hn ha_a hT_a).1 ?_
  refine lv_iconst (v := 1) hx hb dX9_comes_31 (by decide) ?_
  refine lv_dup2_11 hx hb dX9_comes_32 rfl rfl ?_
  refine sg_ild hc hw ha1 hT1 hN1 (show vp_in 1 34 by unfold vp_in; decide) dX9_comes_33 ?_
  refine lv_iconst (v := 1) hx hb dX9_comes_34 (by decide) ?_
  refine lv_iadd hx hb dX9_comes_35 ?_
  refine sg_ist hc hw ha1 hT1 hN1 (show vp_in 1 34 by unfold vp_in; decide) dX9_comes_36 (fun H locs hw => ?_)
  obtain ⟨h36, hw, hf⟩ := sg_name hw hf
  cases hf
  exact sg_vret hc hw hz hn0 hr hlocks rfl dX9_comes_37
theorem c_X9_comes {l : Launch} {D : va_G} {cA : Nat → ClassId} {b n : Nat} (hn : sg_okN n) {a : Nat} {x1 : Int32} {x2 : Int32} (ha_a : a < n) (hT_a : sg_T a = 9) {h : HP} {Rz : HP} (hf : F_X9_comes a x1 x2 h = some Rz) : Met l yX9_comes (Cond.code yX9_comes cX9_comes 4 none :: sg_tbl) ({ frames := 0, cells := 0, slots := 0, locals := 0 } : Room) (va_Pc [.ref (b + a), .int x1, .int x2] (sg_Wd D b cA n h)) (va_Qv (fun u => u = Rz) (sg_Wd D b cA n) (sg_A b)) 0 0 (sg_A b) := by
  refine Met.ofW (cc := cX9_comes) (maxL := 4) (ret := none) (by decide) rfl ?_
  intro p e s m args below meth c s₁ B hml hv
  obtain ⟨rfl, hP, hK, hz, hY, hN⟩ := hv
  have hl := lv_entry [.ref (b + a), .int x1, .int x2] (n := 4) (Nat.le_of_ble_eq_true rfl)
  rw [lg_entry_eq]
  exact w_X9_comes hn ⟨B.exec, B.bytes, findClass_of_methodNamed B.named, fun w h => atoms_spec (ws := Cond.code yX9_comes cX9_comes 4 none :: sg_tbl) B.pre w (List.mem_cons_of_mem _ h), hK, hN⟩ hz B.returns B.notSynchronized hml (Nat.le_refl _) (Nat.le_refl _) ha_a hT_a hf _ _ _ ⟨hP, hY, va_S.rf⟩ hl
set_option maxHeartbeats 4000000 in
set_option maxRecDepth 100000 in
theorem w_X9_takesTurn {p : Program} {l : Launch} {e : Env} {R : Room} {s : State} {m : MethodId} {args : Array Value} {below : List Frame} {meth : Method} {c : Code} {D : va_G} {cA : Nat → ClassId} {b n : Nat} (hn : sg_okN n) {a : Nat} {x1 : Int32} {x2 : Int32} {x3 : Int32} {h : HP} {Rz : HP} (hc : sg_Cx p s m args c cX9_takesTurn RX9 D cA) (hz : s.heap.size = b + n) (hr : meth.sig.returnType = none) (hlocks : meth.locks = false) (hml : c.maxLocals = 5) (hRf : 0 ≤ R.frames) (hRl : 0 ≤ R.locals) (ha_a : a < n) (hT_a : sg_T a = 9) (hf : F_X9_takesTurn a x1 x2 x3 h = some Rz) (H : Heap) (locs : List Loc) (ls : Array Slot) (hw : sg_Wo D b cA n s.heap h H locs) (hl : lv_has ls 5 [(0, .ref (b + a)), (1, .int x1), (2, .int x2), (3, .int x3)]) : W p l e R s m args below meth c H locs 0 0 (sg_Qv below args s D b cA n (fun u => u = Rz)) (F0 m 0 ls []) := by
  have hx := hc.1
  have hb := hc.2.1
  have hn0 : 0 < n := sg_pos hn
  unfold F_X9_takesTurn at hf
  refine lv_aload_n hx hb dX9_takesTurn_0 rfl (lv_at hl 0 rfl) ?_
  obtain ⟨hF1, hT1, ha1, hN1⟩ := ft_9_3 hn ha_a hT_a
  refine sg_getf (q := (a + 4)) hc hw ha_a hT_a fr_9_3 (by decide) k_876 dX9_takesTurn_1 hF1 ?_
  refine lv_iconst (v := 0) hx hb dX9_takesTurn_4 (by decide) ?_
  refine sg_ild hc hw ha1 hT1 hN1 (show vp_in 0 31 by unfold vp_in; decide) dX9_takesTurn_5 ?_
  refine lv_topi (fun v6 e6 => ?_)
  have hf := nm_of e6 hf
  refine lv_istore (lv' := [(4, .int v6), (0, .ref (b + a)), (1, .int x1), (2, .int x2), (3, .int x3)]) hx hb dX9_takesTurn_6 hl (by decide) rfl (fun ls hl => ?_)
  refine lv_aload_n hx hb dX9_takesTurn_8 rfl (lv_at hl 1 rfl) ?_
  refine sg_getf (q := (a + 4)) hc hw ha_a hT_a fr_9_3 (by decide) k_876 dX9_takesTurn_9 (ft_9_3 hn ha_a hT_a).1 ?_
  refine lv_iconst (v := 1) hx hb dX9_takesTurn_12 (by decide) ?_
  refine lv_iload hx hb dX9_takesTurn_13 (lv_at hl 0 rfl) ?_
  refine lv_iadd hx hb dX9_takesTurn_15 ?_
  refine lv_iload_n hx hb dX9_takesTurn_16 rfl (lv_at hl 2 rfl) ?_
  obtain ⟨hg17, hf⟩ := gd_of hf
  refine sg_ist hc hw ha1 hT1 hN1 hg17 dX9_takesTurn_17 (fun H locs hw => ?_)
  obtain ⟨h17, hw, hf⟩ := sg_name hw hf
  refine lv_aload_n hx hb dX9_takesTurn_18 rfl (lv_at hl 1 rfl) ?_
  refine sg_getf (q := (a + 4)) hc hw ha_a hT_a fr_9_3 (by decide) k_876 dX9_takesTurn_19 (ft_9_3 hn ha_a hT_a).1 ?_
  refine lv_bipush (v := 11) hx hb dX9_takesTurn_22 (by decide) ?_
  refine lv_iload hx hb dX9_takesTurn_24 (lv_at hl 0 rfl) ?_
  refine lv_iadd hx hb dX9_takesTurn_26 ?_
  refine lv_iload_n hx hb dX9_takesTurn_27 rfl (lv_at hl 3 rfl) ?_
  obtain ⟨hg28, hf⟩ := gd_of hf
  refine sg_ist hc hw ha1 hT1 hN1 hg28 dX9_takesTurn_28 (fun H locs hw => ?_)
  obtain ⟨h28, hw, hf⟩ := sg_name hw hf
  refine lv_aload_n hx hb dX9_takesTurn_29 rfl (lv_at hl 1 rfl) ?_
  refine sg_getf (q := (a + 4)) hc hw ha_a hT_a fr_9_3 (by decide) k_876 dX9_takesTurn_30 (ft_9_3 hn ha_a hT_a).1 ?_
  refine lv_bipush (v := 21) hx hb dX9_takesTurn_33 (by decide) ?_
  refine lv_iload hx hb dX9_takesTurn_35 (lv_at hl 0 rfl) ?_
  refine lv_iadd hx hb dX9_takesTurn_37 ?_
  refine lv_iload_n hx hb dX9_takesTurn_38 rfl (lv_at hl 4 rfl) ?_
  obtain ⟨hg39, hf⟩ := gd_of hf
  refine sg_ist hc hw ha1 hT1 hN1 hg39 dX9_takesTurn_39 (fun H locs hw => ?_)
  obtain ⟨h39, hw, hf⟩ := sg_name hw hf
  refine lv_aload_n hx hb dX9_takesTurn_40 rfl (lv_at hl 1 rfl) ?_
  refine sg_getf (q := (a + 4)) hc hw ha_a hT_a fr_9_3 (by decide) k_876 dX9_takesTurn_41 (ft_9_3 hn ha_a hT_a).1 ?_
  refine lv_iconst (v := 0) hx hb dX9_takesTurn_44 (by decide) ?_
  refine lv_dup2_11 hx hb dX9_takesTurn_45 rfl rfl ?_
  refine sg_ild hc hw ha1 hT1 hN1 (show vp_in 0 31 by unfold vp_in; decide) dX9_takesTurn_46 ?_
  refine lv_iconst (v := 1) hx hb dX9_takesTurn_47 (by decide) ?_
  refine lv_iadd hx hb dX9_takesTurn_48 ?_
  refine sg_ist hc hw ha1 hT1 hN1 (show vp_in 0 31 by unfold vp_in; decide) dX9_takesTurn_49 (fun H locs hw => ?_)
  obtain ⟨h49, hw, hf⟩ := sg_name hw hf
  cases hf
  exact sg_vret hc hw hz hn0 hr hlocks rfl dX9_takesTurn_50
theorem c_X9_takesTurn {l : Launch} {D : va_G} {cA : Nat → ClassId} {b n : Nat} (hn : sg_okN n) {a : Nat} {x1 : Int32} {x2 : Int32} {x3 : Int32} (ha_a : a < n) (hT_a : sg_T a = 9) {h : HP} {Rz : HP} (hf : F_X9_takesTurn a x1 x2 x3 h = some Rz) : Met l yX9_takesTurn (Cond.code yX9_takesTurn cX9_takesTurn 5 none :: sg_tbl) ({ frames := 0, cells := 0, slots := 0, locals := 0 } : Room) (va_Pc [.ref (b + a), .int x1, .int x2, .int x3] (sg_Wd D b cA n h)) (va_Qv (fun u => u = Rz) (sg_Wd D b cA n) (sg_A b)) 0 0 (sg_A b) := by
  refine Met.ofW (cc := cX9_takesTurn) (maxL := 5) (ret := none) (by decide) rfl ?_
  intro p e s m args below meth c s₁ B hml hv
  obtain ⟨rfl, hP, hK, hz, hY, hN⟩ := hv
  have hl := lv_entry [.ref (b + a), .int x1, .int x2, .int x3] (n := 5) (Nat.le_of_ble_eq_true rfl)
  rw [lg_entry_eq]
  exact w_X9_takesTurn hn ⟨B.exec, B.bytes, findClass_of_methodNamed B.named, fun w h => atoms_spec (ws := Cond.code yX9_takesTurn cX9_takesTurn 5 none :: sg_tbl) B.pre w (List.mem_cons_of_mem _ h), hK, hN⟩ hz B.returns B.notSynchronized hml (Nat.le_refl _) (Nat.le_refl _) ha_a hT_a hf _ _ _ ⟨hP, hY, va_S.rf⟩ hl
set_option maxHeartbeats 4000000 in
set_option maxRecDepth 100000 in
theorem w_X9_yardsOf {p : Program} {l : Launch} {e : Env} {R : Room} {s : State} {m : MethodId} {args : Array Value} {below : List Frame} {meth : Method} {c : Code} {D : va_G} {cA : Nat → ClassId} {b n : Nat} (hn : sg_okN n) {q0 : Nat} {h : HP} {Rz : Int32} (hc : sg_Cx p s m args c cX9_yardsOf RX9 D cA) (hz : s.heap.size = b + n) (hr : meth.sig.returnType = some .int) (hlocks : meth.locks = false) (hml : c.maxLocals = 3) (hRf : 0 ≤ R.frames) (hRl : 0 ≤ R.locals) (ha_q0 : q0 < n) (hT_q0 : sg_T q0 = 11) (hf : F_X9_yardsOf q0 h = some Rz) (H : Heap) (locs : List Loc) (ls : Array Slot) (hw : sg_Wo D b cA n s.heap h H locs) (hl : lv_has ls 3 [(0, .ref (b + q0))]) : W p l e R s m args below meth c H locs 0 0 (sg_Qi below args s D b cA n (fun r u => r = Rz ∧ u = h)) (F0 m 0 ls []) := by
  have hx := hc.1
  have hb := hc.2.1
  have hn0 : 0 < n := sg_pos hn
  have L4 : ∀ (k : Nat) (x : (Int32 × Int32)), F_X9_yardsOf_L4 q0 h k x = some Rz → ∀ (H : Heap) (locs : List Loc) (ls : Array Slot), sg_Wo D b cA n s.heap h H locs → lv_has ls 3 [(0, .ref (b + q0)), (1, .int x.1), (2, .int x.2)] → W p l e R s m args below meth c H locs 0 0 (sg_Qi below args s D b cA n (fun r u => r = Rz ∧ u = h)) (F0 m 4 ls []) := by
    unfold F_X9_yardsOf_L4
    refine lp_walk ?_
    intro rc4 hrc4 x hf H locs ls hw hl
    obtain ⟨x1, x2⟩ := x
    dsimp only at hf hw hl
    refine lv_iload_n hx hb dX9_yardsOf_4 rfl (lv_at hl 2 rfl) ?_
    refine lv_aload_n hx hb dX9_yardsOf_5 rfl (lv_at hl 0 rfl) ?_
    refine lv_iconst (v := 0) hx hb dX9_yardsOf_6 (by decide) ?_
    obtain ⟨hg7, hf⟩ := gd_of hf
    refine sg_ild hc hw ha_q0 hT_q0 rfl hg7 dX9_yardsOf_7 ?_
    refine lv_icmp_ge (tgt := 25) hx hb dX9_yardsOf_8 (by decide) (fun c8 => ?_) (fun c8 => ?_)
    · have hf := if_of c8 hf
      refine lv_iload_n hx hb dX9_yardsOf_25 rfl (lv_at hl 1 rfl) ?_
      cases hf
      exact sg_iret hc hw hz hn0 hr hlocks ⟨rfl, rfl⟩ dX9_yardsOf_26
    · have hf := if_no c8 hf
      refine lv_iload_n hx hb dX9_yardsOf_11 rfl (lv_at hl 1 rfl) ?_
      refine lv_aload_n hx hb dX9_yardsOf_12 rfl (lv_at hl 0 rfl) ?_
      refine lv_iconst (v := 4) hx hb dX9_yardsOf_13 (by decide) ?_
      refine lv_iload_n hx hb dX9_yardsOf_14 rfl (lv_at hl 2 rfl) ?_
      refine lv_iadd hx hb dX9_yardsOf_15 ?_
      obtain ⟨hg16, hf⟩ := gd_of hf
      refine sg_ild hc hw ha_q0 hT_q0 rfl hg16 dX9_yardsOf_16 ?_
      refine lv_iadd hx hb dX9_yardsOf_17 ?_
      refine lv_topi (fun v18 e18 => ?_)
      have hf := nm_of e18 hf
      refine lv_istore_n (lv' := [(1, .int v18), (0, .ref (b + q0)), (2, .int x2)]) hx hb dX9_yardsOf_18 rfl hl (by decide) rfl (fun ls hl => ?_)
      refine lv_iinc (v := (x2 + 1)) (lv' := [(2, .int (x2 + 1)), (1, .int v18), (0, .ref (b + q0))]) hx hb dX9_yardsOf_19 hl (k := 2) rfl rfl (by decide) rfl (fun ls hl => ?_)
      refine lv_goto (tgt := 4) hx hb dX9_yardsOf_22 (by decide) ?_
      exact hrc4 _ hf _ _ _ hw (lv_sub hl [2, 1, 0] rfl)
  unfold F_X9_yardsOf at hf
  refine lv_iconst (v := 0) hx hb dX9_yardsOf_0 (by decide) ?_
  refine lv_istore_n (lv' := [(1, .int 0), (0, .ref (b + q0))]) hx hb dX9_yardsOf_1 rfl hl (by decide) rfl (fun ls hl => ?_)
  refine lv_iconst (v := 0) hx hb dX9_yardsOf_2 (by decide) ?_
  refine lv_istore_n (lv' := [(2, .int 0), (1, .int 0), (0, .ref (b + q0))]) hx hb dX9_yardsOf_3 rfl hl (by decide) rfl (fun ls hl => ?_)
  exact L4 _ _ hf _ _ _ hw (lv_sub hl [2, 1, 0] rfl)
theorem c_X9_yardsOf {l : Launch} {D : va_G} {cA : Nat → ClassId} {b n : Nat} (hn : sg_okN n) {q0 : Nat} (ha_q0 : q0 < n) (hT_q0 : sg_T q0 = 11) {h : HP} {Rz : Int32} (hf : F_X9_yardsOf q0 h = some Rz) : Met l yX9_yardsOf (Cond.code yX9_yardsOf cX9_yardsOf 3 (some .int) :: sg_tbl) ({ frames := 0, cells := 0, slots := 0, locals := 0 } : Room) (va_Pc [.ref (b + q0)] (sg_Wd D b cA n h)) (va_Qi (fun r u => r = Rz ∧ u = h) (sg_Wd D b cA n) (sg_A b)) 0 0 (sg_A b) := by
  refine Met.ofW (cc := cX9_yardsOf) (maxL := 3) (ret := (some .int)) (by decide) rfl ?_
  intro p e s m args below meth c s₁ B hml hv
  obtain ⟨rfl, hP, hK, hz, hY, hN⟩ := hv
  have hl := lv_entry [.ref (b + q0)] (n := 3) (Nat.le_of_ble_eq_true rfl)
  rw [lg_entry_eq]
  exact w_X9_yardsOf hn ⟨B.exec, B.bytes, findClass_of_methodNamed B.named, fun w h => atoms_spec (ws := Cond.code yX9_yardsOf cX9_yardsOf 3 (some .int) :: sg_tbl) B.pre w (List.mem_cons_of_mem _ h), hK, hN⟩ hz B.returns B.notSynchronized hml (Nat.le_refl _) (Nat.le_refl _) ha_q0 hT_q0 hf _ _ _ ⟨hP, hY, va_S.rf⟩ hl
set_option maxHeartbeats 4000000 in
set_option maxRecDepth 100000 in
theorem w_X9_takes {p : Program} {l : Launch} {e : Env} {R : Room} {s : State} {m : MethodId} {args : Array Value} {below : List Frame} {meth : Method} {c : Code} {D : va_G} {cA : Nat → ClassId} {b n : Nat} (hn : sg_okN n) {a : Nat} {x1 : Int32} {h : HP} {Rz : Int32 × HP} (hc : sg_Cx p s m args c cX9_takes RX9 D cA) (hz : s.heap.size = b + n) (hr : meth.sig.returnType = some .boolean) (hlocks : meth.locks = false) (hml : c.maxLocals = 6) (hRf : 1 ≤ R.frames) (hRl : 25 ≤ R.locals) (ha_a : a < n) (hT_a : sg_T a = 9) (hf : F_X9_takes a x1 h = some Rz) (H : Heap) (locs : List Loc) (ls : Array Slot) (hw : sg_Wo D b cA n s.heap h H locs) (hl : lv_has ls 6 [(0, .ref (b + a)), (1, .int x1)]) : W p l e R s m args below meth c H locs 0 0 (sg_Qi below args s D b cA n (fun r u => (r = Rz.1 ∧ u = Rz.2) ∧ narrow .boolean (.int r) = .int r)) (F0 m 0 ls []) := by
  have hx := hc.1
  have hb := hc.2.1
  have hn0 : 0 < n := sg_pos hn
  have L2 : ∀ (k : Nat) (x : (Int32 × HP)), F_X9_takes_L2 a x1 k x = some Rz → ∀ (H : Heap) (locs : List Loc) (ls : Array Slot), sg_Wo D b cA n s.heap x.2 H locs → lv_has ls 6 [(0, .ref (b + a)), (1, .int x1), (2, .int x.1)] → W p l e R s m args below meth c H locs 0 0 (sg_Qi below args s D b cA n (fun r u => (r = Rz.1 ∧ u = Rz.2) ∧ narrow .boolean (.int r) = .int r)) (F0 m 2 ls []) := by
    unfold F_X9_takes_L2
    refine lp_walk ?_
    intro rc2 hrc2 x hf H locs ls hw hl
    obtain ⟨x2, h⟩ := x
    dsimp only at hf hw hl
    have J131 : ∀ (x2 : Int32) (x3 : Int32) (x4 : Int32) (s0 : Int32) (h : HP) (H : Heap) (locs : List Loc) (ls : Array Slot), F_X9_takes_J131 a rc2 x1 x2 x3 x4 s0 h = some Rz → sg_Wo D b cA n s.heap h H locs → lv_has ls 6 [(0, .ref (b + a)), (1, .int x1), (2, .int x2), (3, .int x3), (4, .int x4)] → W p l e R s m args below meth c H locs 0 0 (sg_Qi below args s D b cA n (fun r u => (r = Rz.1 ∧ u = Rz.2) ∧ narrow .boolean (.int r) = .int r)) (F0 m 131 ls [.int s0]) := by
      intro x2 x3 x4 s0 h H locs ls hf hw hl
      unfold F_X9_takes_J131 at hf
      refine lv_istore (lv' := [(5, .int s0), (0, .ref (b + a)), (1, .int x1), (2, .int x2), (3, .int x3), (4, .int x4)]) hx hb dX9_takes_131 hl (by decide) rfl (fun ls hl => ?_)
      refine lv_iload hx hb dX9_takes_133 (lv_at hl 5 rfl) ?_
      refine lv_i2l hx hb dX9_takes_135 rfl ?_
      refine lv_lconst (v := 1) hx hb dX9_takes_136 (by decide) ?_
      refine lv_ldc2 hx hb hc.2.2.1 (hc.2.2.2.1 _ k_989) dX9_takes_137 ?_
      obtain ⟨p140, hp140, hf⟩ := cl_of hf
      refine sg_si (rest := []) (c_X9_in hn (h := h) hp140) hc hw hz hn0 hml hl cs_X9_87 ⟨⟨rfl, rfl⟩, Nat.le_trans (Nat.le_of_ble_eq_true rfl) hRf, Nat.le_trans (Nat.le_of_ble_eq_true rfl) hRl⟩ ⟨Nat.zero_le _, Nat.zero_le _⟩ rfl rfl (Nat.le_of_ble_eq_true rfl) dX9_takes_140 (fun r h1 H locs hp hw => ?_)
      obtain ⟨⟨e1, e2⟩, hb140⟩ := hp; subst r; subst h1
      refine lv_if_eq (tgt := 151) hx hb dX9_takes_143 (by decide) (fun c143 => ?_) (fun c143 => ?_)
      · have hf := if_of c143 hf
        refine lv_iconst (v := 0) hx hb dX9_takes_151 (by decide) ?_
        cases hf
        exact sg_zret hc hw hz hn0 hr hlocks rfl ⟨⟨rfl, rfl⟩, rfl⟩ dX9_takes_152
      · have hf := if_no c143 hf
        refine lv_iload hx hb dX9_takes_146 (lv_at hl 0 rfl) ?_
        refine lv_if_ne (tgt := 153) hx hb dX9_takes_148 (by decide) (fun c148 => ?_) (fun c148 => ?_)
        · have hf := if_no c148 hf
          refine lv_aload_n hx hb dX9_takes_153 rfl (lv_at hl 1 rfl) ?_
          obtain ⟨hF154, hT154, ha154, hN154⟩ := ft_9_13 hn ha_a hT_a
          refine sg_getf (q := (a + 9)) hc hw ha_a hT_a fr_9_13 (by decide) k_886 dX9_takes_154 hF154 ?_
          refine lv_iload_n hx hb dX9_takes_157 rfl (lv_at hl 3 rfl) ?_
          refine lv_iload_n hx hb dX9_takes_158 rfl (lv_at hl 4 rfl) ?_
          obtain ⟨hg159, hf⟩ := gd_of hf
          refine sg_ist hc hw ha154 hT154 hN154 hg159 dX9_takes_159 (fun H locs hw => ?_)
          obtain ⟨h159, hw, hf⟩ := sg_name hw hf
          refine lv_aload_n hx hb dX9_takes_160 rfl (lv_at hl 1 rfl) ?_
          refine lv_dup hx hb dX9_takes_161 rfl ?_
          refine sg_geti hc hw ha_a hT_a fi_9_12 k_885 dX9_takes_162 ?_
          refine lv_iconst (v := 1) hx hb dX9_takes_165 (by decide) ?_
          refine lv_iadd hx hb dX9_takes_166 ?_
          refine sg_puti hc hw ha_a hT_a fp_9_12 rfl rfl k_885 dX9_takes_167 (fun H locs hw => ?_)
          obtain ⟨h167, hw, hf⟩ := sg_name hw hf
          refine lv_iinc (v := (x2 + 1)) (lv' := [(2, .int (x2 + 1)), (5, .int s0), (0, .ref (b + a)), (1, .int x1), (3, .int x3), (4, .int x4)]) hx hb dX9_takes_170 hl (k := 3) rfl rfl (by decide) rfl (fun ls hl => ?_)
          refine lv_goto (tgt := 2) hx hb dX9_takes_173 (by decide) ?_
          exact hrc2 _ hf _ _ _ hw (lv_sub hl [2, 3, 0] rfl)
        · have hf := if_of c148 hf
          refine lv_iconst (v := 0) hx hb dX9_takes_151 (by decide) ?_
          cases hf
          exact sg_zret hc hw hz hn0 hr hlocks rfl ⟨⟨rfl, rfl⟩, rfl⟩ dX9_takes_152
    have J130 : ∀ (x2 : Int32) (x3 : Int32) (x4 : Int32) (h : HP) (H : Heap) (locs : List Loc) (ls : Array Slot), F_X9_takes_J130 a rc2 x1 x2 x3 x4 h = some Rz → sg_Wo D b cA n s.heap h H locs → lv_has ls 6 [(0, .ref (b + a)), (1, .int x1), (2, .int x2), (3, .int x3), (4, .int x4)] → W p l e R s m args below meth c H locs 0 0 (sg_Qi below args s D b cA n (fun r u => (r = Rz.1 ∧ u = Rz.2) ∧ narrow .boolean (.int r) = .int r)) (F0 m 130 ls []) := by
      intro x2 x3 x4 h H locs ls hf hw hl
      unfold F_X9_takes_J130 at hf
      refine lv_iconst (v := 0) hx hb dX9_takes_130 (by decide) ?_
      exact J131 x2 x3 x4 0 _ _ _ _ hf hw (lv_sub hl [0, 1, 2, 3, 4] rfl)
    have J123 : ∀ (x2 : Int32) (x3 : Int32) (x4 : Int32) (s0 : Int32) (s1 : Int32) (h : HP) (H : Heap) (locs : List Loc) (ls : Array Slot), F_X9_takes_J123 a rc2 x1 x2 x3 x4 s0 s1 h = some Rz → sg_Wo D b cA n s.heap h H locs → lv_has ls 6 [(0, .ref (b + a)), (1, .int x1), (2, .int x2), (3, .int x3), (4, .int x4)] → W p l e R s m args below meth c H locs 0 0 (sg_Qi below args s D b cA n (fun r u => (r = Rz.1 ∧ u = Rz.2) ∧ narrow .boolean (.int r) = .int r)) (F0 m 123 ls [.int s0, .int s1]) := by
      intro x2 x3 x4 s0 s1 h H locs ls hf hw hl
      unfold F_X9_takes_J123 at hf
      refine lv_icmp_ne (tgt := 130) hx hb dX9_takes_123 (by decide) (fun c123 => ?_) (fun c123 => ?_)
      · have hf := if_no c123 hf
        exact J130 x2 x3 x4 _ _ _ _ hf hw (lv_sub hl [0, 1, 2, 3, 4] rfl)
      · have hf := if_of c123 hf
        refine lv_iconst (v := 1) hx hb dX9_takes_126 (by decide) ?_
        refine lv_goto (tgt := 131) hx hb dX9_takes_127 (by decide) ?_
        exact J131 x2 x3 x4 1 _ _ _ _ hf hw (lv_sub hl [0, 1, 2, 3, 4] rfl)
    have J89 : ∀ (x2 : Int32) (x3 : Int32) (x4 : Int32) (h : HP) (H : Heap) (locs : List Loc) (ls : Array Slot), F_X9_takes_J89 a rc2 x1 x2 x3 x4 h = some Rz → sg_Wo D b cA n s.heap h H locs → lv_has ls 6 [(0, .ref (b + a)), (1, .int x1), (2, .int x2), (3, .int x3), (4, .int x4)] → W p l e R s m args below meth c H locs 0 0 (sg_Qi below args s D b cA n (fun r u => (r = Rz.1 ∧ u = Rz.2) ∧ narrow .boolean (.int r) = .int r)) (F0 m 89 ls []) := by
      intro x2 x3 x4 h H locs ls hf hw hl
      unfold F_X9_takes_J89 at hf
      refine lv_aload_n hx hb dX9_takes_89 rfl (lv_at hl 0 rfl) ?_
      refine sg_geti hc hw ha_a hT_a fi_9_12 k_885 dX9_takes_90 ?_
      refine lv_aload_n hx hb dX9_takes_93 rfl (lv_at hl 0 rfl) ?_
      refine sg_geti hc hw ha_a hT_a fi_9_9 k_882 dX9_takes_94 ?_
      refine lv_icmp_ge (tgt := 130) hx hb dX9_takes_97 (by decide) (fun c97 => ?_) (fun c97 => ?_)
      · have hf := if_of c97 hf
        exact J130 x2 x3 x4 _ _ _ _ hf hw (lv_sub hl [0, 1, 2, 3, 4] rfl)
      · have hf := if_no c97 hf
        refine lv_aload_n hx hb dX9_takes_100 rfl (lv_at hl 0 rfl) ?_
        obtain ⟨hF101, hT101, ha101, hN101⟩ := ft_9_8 hn ha_a hT_a
        refine sg_getf (q := (a + 7)) hc hw ha_a hT_a fr_9_8 (by decide) k_881 dX9_takes_101 hF101 ?_
        refine lv_aload_n hx hb dX9_takes_104 rfl (lv_at hl 0 rfl) ?_
        refine sg_geti hc hw ha_a hT_a fi_9_12 k_885 dX9_takes_105 ?_
        obtain ⟨hg108, hf⟩ := gd_of hf
        refine sg_ild hc hw ha101 hT101 hN101 hg108 dX9_takes_108 ?_
        refine lv_iload_n hx hb dX9_takes_109 rfl (lv_at hl 2 rfl) ?_
        refine lv_iload_n hx hb dX9_takes_110 rfl (lv_at hl 1 rfl) ?_
        refine lv_iconst (v := 1) hx hb dX9_takes_111 (by decide) ?_
        refine lv_isub hx hb dX9_takes_112 ?_
        refine lv_icmp_ge (tgt := 121) hx hb dX9_takes_113 (by decide) (fun c113 => ?_) (fun c113 => ?_)
        · have hf := if_of c113 hf
          refine lv_bipush (v := 59) hx hb dX9_takes_121 (by decide) ?_
          exact J123 x2 x3 x4 59 (ld h (a + 7) (h.1 a 12)) _ _ _ _ hf hw (lv_sub hl [0, 1, 2, 3, 4] rfl)
        · have hf := if_no c113 hf
          refine lv_bipush (v := 44) hx hb dX9_takes_116 (by decide) ?_
          refine lv_goto (tgt := 123) hx hb dX9_takes_118 (by decide) ?_
          exact J123 x2 x3 x4 44 (ld h (a + 7) (h.1 a 12)) _ _ _ _ hf hw (lv_sub hl [0, 1, 2, 3, 4] rfl)
    have L12 : ∀ (x2 : Int32) (k : Nat) (x : (Int32 × Int32 × HP)), F_X9_takes_L12 a rc2 x1 x2 k x = some Rz → ∀ (H : Heap) (locs : List Loc) (ls : Array Slot), sg_Wo D b cA n s.heap x.2.2 H locs → lv_has ls 6 [(0, .ref (b + a)), (1, .int x1), (2, .int x2), (3, .int x.1), (4, .int x.2.1)] → W p l e R s m args below meth c H locs 0 0 (sg_Qi below args s D b cA n (fun r u => (r = Rz.1 ∧ u = Rz.2) ∧ narrow .boolean (.int r) = .int r)) (F0 m 12 ls []) := by
      intro x2
      unfold F_X9_takes_L12
      refine lp_walk ?_
      intro rc12 hrc12 x hf H locs ls hw hl
      obtain ⟨x3, x4, h⟩ := x
      dsimp only at hf hw hl
      have J72 : ∀ (x4 : Int32) (s0 : Int32) (h : HP) (H : Heap) (locs : List Loc) (ls : Array Slot), F_X9_takes_J72 a rc2 rc12 x1 x2 x4 s0 h = some Rz → sg_Wo D b cA n s.heap h H locs → lv_has ls 6 [(0, .ref (b + a)), (1, .int x1), (2, .int x2), (4, .int x4)] → W p l e R s m args below meth c H locs 0 0 (sg_Qi below args s D b cA n (fun r u => (r = Rz.1 ∧ u = Rz.2) ∧ narrow .boolean (.int r) = .int r)) (F0 m 72 ls [.int s0]) := by
        intro x4 s0 h H locs ls hf hw hl
        unfold F_X9_takes_J72 at hf
        refine lv_istore_n (lv' := [(3, .int s0), (0, .ref (b + a)), (1, .int x1), (2, .int x2), (4, .int x4)]) hx hb dX9_takes_72 rfl hl (by decide) rfl (fun ls hl => ?_)
        refine lv_iinc (v := (x4 + 1)) (lv' := [(4, .int (x4 + 1)), (3, .int s0), (0, .ref (b + a)), (1, .int x1), (2, .int x2)]) hx hb dX9_takes_73 hl (k := 4) rfl rfl (by decide) rfl (fun ls hl => ?_)
        refine lv_aload_n hx hb dX9_takes_76 rfl (lv_at hl 2 rfl) ?_
        refine lv_dup hx hb dX9_takes_77 rfl ?_
        refine sg_geti hc hw ha_a hT_a fi_9_12 k_885 dX9_takes_78 ?_
        refine lv_iconst (v := 1) hx hb dX9_takes_81 (by decide) ?_
        refine lv_iadd hx hb dX9_takes_82 ?_
        refine sg_puti hc hw ha_a hT_a fp_9_12 rfl rfl k_885 dX9_takes_83 (fun H locs hw => ?_)
        obtain ⟨h83, hw, hf⟩ := sg_name hw hf
        refine lv_goto (tgt := 12) hx hb dX9_takes_86 (by decide) ?_
        exact hrc12 _ hf _ _ _ hw (lv_sub hl [2, 3, 4, 1, 0] rfl)
      refine lv_aload_n hx hb dX9_takes_12 rfl (lv_at hl 0 rfl) ?_
      refine sg_geti hc hw ha_a hT_a fi_9_12 k_885 dX9_takes_13 ?_
      refine lv_aload_n hx hb dX9_takes_16 rfl (lv_at hl 0 rfl) ?_
      refine sg_geti hc hw ha_a hT_a fi_9_9 k_882 dX9_takes_17 ?_
      refine lv_icmp_ge (tgt := 89) hx hb dX9_takes_20 (by decide) (fun c20 => ?_) (fun c20 => ?_)
      · have hf := if_of c20 hf
        exact J89 x2 x3 x4 _ _ _ _ hf hw (lv_sub hl [0, 1, 2, 3, 4] rfl)
      · have hf := if_no c20 hf
        refine lv_aload_n hx hb dX9_takes_23 rfl (lv_at hl 0 rfl) ?_
        obtain ⟨hF24, hT24, ha24, hN24⟩ := ft_9_8 hn ha_a hT_a
        refine sg_getf (q := (a + 7)) hc hw ha_a hT_a fr_9_8 (by decide) k_881 dX9_takes_24 hF24 ?_
        refine lv_aload_n hx hb dX9_takes_27 rfl (lv_at hl 0 rfl) ?_
        refine sg_geti hc hw ha_a hT_a fi_9_12 k_885 dX9_takes_28 ?_
        obtain ⟨hg31, hf⟩ := gd_of hf
        refine sg_ild hc hw ha24 hT24 hN24 hg31 dX9_takes_31 ?_
        refine lv_i2l hx hb dX9_takes_32 rfl ?_
        refine lv_ldc2 hx hb hc.2.2.1 (hc.2.2.2.1 _ k_987) dX9_takes_33 ?_
        refine lv_ldc2 hx hb hc.2.2.1 (hc.2.2.2.1 _ k_988) dX9_takes_36 ?_
        obtain ⟨p39, hp39, hf⟩ := cl_of hf
        refine sg_si (rest := []) (c_X9_in hn (h := h) hp39) hc hw hz hn0 hml hl cs_X9_87 ⟨⟨rfl, rfl⟩, Nat.le_trans (Nat.le_of_ble_eq_true rfl) hRf, Nat.le_trans (Nat.le_of_ble_eq_true rfl) hRl⟩ ⟨Nat.zero_le _, Nat.zero_le _⟩ rfl rfl (Nat.le_of_ble_eq_true rfl) dX9_takes_39 (fun r h1 H locs hp hw => ?_)
        obtain ⟨⟨e1, e2⟩, hb39⟩ := hp; subst r; subst h1
        refine lv_if_eq (tgt := 89) hx hb dX9_takes_42 (by decide) (fun c42 => ?_) (fun c42 => ?_)
        · have hf := if_of c42 hf
          exact J89 x2 x3 x4 _ _ _ _ hf hw (lv_sub hl [0, 1, 2, 3, 4] rfl)
        · have hf := if_no c42 hf
          refine lv_iload hx hb dX9_takes_45 (lv_at hl 4 rfl) ?_
          refine lv_iconst (v := 2) hx hb dX9_takes_47 (by decide) ?_
          refine lv_icmp_ge (tgt := 71) hx hb dX9_takes_48 (by decide) (fun c48 => ?_) (fun c48 => ?_)
          · have hf := if_of c48 hf
            refine lv_iload_n hx hb dX9_takes_71 rfl (lv_at hl 3 rfl) ?_
            exact J72 x4 x3 _ _ _ _ hf hw (lv_sub hl [0, 1, 2, 4] rfl)
          · have hf := if_no c48 hf
            refine lv_bipush (v := 10) hx hb dX9_takes_51 (by decide) ?_
            refine lv_iload_n hx hb dX9_takes_53 rfl (lv_at hl 3 rfl) ?_
            refine lv_imul hx hb dX9_takes_54 ?_
            refine lv_aload_n hx hb dX9_takes_55 rfl (lv_at hl 0 rfl) ?_
            refine sg_getf (q := (a + 7)) hc hw ha_a hT_a fr_9_8 (by decide) k_881 dX9_takes_56 (ft_9_8 hn ha_a hT_a).1 ?_
            refine lv_aload_n hx hb dX9_takes_59 rfl (lv_at hl 0 rfl) ?_
            refine sg_geti hc hw ha_a hT_a fi_9_12 k_885 dX9_takes_60 ?_
            obtain ⟨hg63, hf⟩ := gd_of hf
            refine sg_ild hc hw ha24 hT24 hN24 hg63 dX9_takes_63 ?_
            refine lv_iadd hx hb dX9_takes_64 ?_
            refine lv_bipush (v := 48) hx hb dX9_takes_65 (by decide) ?_
            refine lv_isub hx hb dX9_takes_67 ?_
            refine lv_goto (tgt := 72) hx hb dX9_takes_68 (by decide) ?_
            exact J72 x4 (((10 * x3) + (ld h (a + 7) (h.1 a 12))) - 48) _ _ _ _ hf hw (lv_sub hl [0, 1, 2, 4] rfl)
    refine lv_iload_n hx hb dX9_takes_2 rfl (lv_at hl 2 rfl) ?_
    refine lv_iload_n hx hb dX9_takes_3 rfl (lv_at hl 1 rfl) ?_
    refine lv_icmp_ge (tgt := 176) hx hb dX9_takes_4 (by decide) (fun c4 => ?_) (fun c4 => ?_)
    · have hf := if_of c4 hf
      refine lv_iconst (v := 1) hx hb dX9_takes_176 (by decide) ?_
      cases hf
      exact sg_zret hc hw hz hn0 hr hlocks rfl ⟨⟨rfl, rfl⟩, rfl⟩ dX9_takes_177
    · have hf := if_no c4 hf
      refine lv_iconst (v := 0) hx hb dX9_takes_7 (by decide) ?_
      refine lv_istore_n (lv' := [(3, .int 0), (0, .ref (b + a)), (1, .int x1), (2, .int x2)]) hx hb dX9_takes_8 rfl hl (by decide) rfl (fun ls hl => ?_)
      refine lv_iconst (v := 0) hx hb dX9_takes_9 (by decide) ?_
      refine lv_istore (lv' := [(4, .int 0), (3, .int 0), (0, .ref (b + a)), (1, .int x1), (2, .int x2)]) hx hb dX9_takes_10 hl (by decide) rfl (fun ls hl => ?_)
      exact L12 x2 _ _ hf _ _ _ hw (lv_sub hl [2, 3, 4, 1, 0] rfl)
  unfold F_X9_takes at hf
  refine lv_iconst (v := 0) hx hb dX9_takes_0 (by decide) ?_
  refine lv_istore_n (lv' := [(2, .int 0), (0, .ref (b + a)), (1, .int x1)]) hx hb dX9_takes_1 rfl hl (by decide) rfl (fun ls hl => ?_)
  exact L2 _ _ hf _ _ _ hw (lv_sub hl [1, 2, 0] rfl)
theorem c_X9_takes {l : Launch} {D : va_G} {cA : Nat → ClassId} {b n : Nat} (hn : sg_okN n) {a : Nat} {x1 : Int32} (ha_a : a < n) (hT_a : sg_T a = 9) {h : HP} {Rz : Int32 × HP} (hf : F_X9_takes a x1 h = some Rz) : Met l yX9_takes (Cond.code yX9_takes cX9_takes 6 (some .boolean) :: sg_tbl) ({ frames := 1, cells := 0, slots := 0, locals := 25 } : Room) (va_Pc [.ref (b + a), .int x1] (sg_Wd D b cA n h)) (va_Qi (fun r u => (r = Rz.1 ∧ u = Rz.2) ∧ narrow .boolean (.int r) = .int r) (sg_Wd D b cA n) (sg_A b)) 0 0 (sg_A b) := by
  refine Met.ofW (cc := cX9_takes) (maxL := 6) (ret := (some .boolean)) (by decide) rfl ?_
  intro p e s m args below meth c s₁ B hml hv
  obtain ⟨rfl, hP, hK, hz, hY, hN⟩ := hv
  have hl := lv_entry [.ref (b + a), .int x1] (n := 6) (Nat.le_of_ble_eq_true rfl)
  rw [lg_entry_eq]
  exact w_X9_takes hn ⟨B.exec, B.bytes, findClass_of_methodNamed B.named, fun w h => atoms_spec (ws := Cond.code yX9_takes cX9_takes 6 (some .boolean) :: sg_tbl) B.pre w (List.mem_cons_of_mem _ h), hK, hN⟩ hz B.returns B.notSynchronized hml (Nat.le_refl _) (Nat.le_refl _) ha_a hT_a hf _ _ _ ⟨hP, hY, va_S.rf⟩ hl
set_option maxHeartbeats 4000000 in
set_option maxRecDepth 100000 in
theorem w_X9_is {p : Program} {l : Launch} {e : Env} {R : Room} {s : State} {m : MethodId} {args : Array Value} {below : List Frame} {meth : Method} {c : Code} {D : va_G} {cA : Nat → ClassId} {b n : Nat} (hn : sg_okN n) {a : Nat} {x1 : Int32} {x2 : Int32} {x3 : Int32} {h : HP} {Rz : Int32} (hc : sg_Cx p s m args c cX9_is RX9 D cA) (hz : s.heap.size = b + n) (hr : meth.sig.returnType = some .boolean) (hlocks : meth.locks = false) (hml : c.maxLocals = 4) (hRf : 1 ≤ R.frames) (hRl : 25 ≤ R.locals) (ha_a : a < n) (hT_a : sg_T a = 9) (hf : F_X9_is a x1 x2 x3 h = some Rz) (H : Heap) (locs : List Loc) (ls : Array Slot) (hw : sg_Wo D b cA n s.heap h H locs) (hl : lv_has ls 4 [(0, .ref (b + a)), (1, .int x1), (2, .int x2), (3, .int x3)]) : W p l e R s m args below meth c H locs 0 0 (sg_Qi below args s D b cA n (fun r u => (r = Rz ∧ u = h) ∧ narrow .boolean (.int r) = .int r)) (F0 m 0 ls []) := by
  have hx := hc.1
  have hb := hc.2.1
  have hn0 : 0 < n := sg_pos hn
  unfold F_X9_is at hf
  refine lv_aload_n hx hb dX9_is_0 rfl (lv_at hl 0 rfl) ?_
  obtain ⟨hF1, hT1, ha1, hN1⟩ := ft_9_13 hn ha_a hT_a
  refine sg_getf (q := (a + 9)) hc hw ha_a hT_a fr_9_13 (by decide) k_886 dX9_is_1 hF1 ?_
  refine lv_iload_n hx hb dX9_is_4 rfl (lv_at hl 1 rfl) ?_
  obtain ⟨hg5, hf⟩ := gd_of hf
  refine sg_ild hc hw ha1 hT1 hN1 hg5 dX9_is_5 ?_
  refine lv_i2l hx hb dX9_is_6 rfl ?_
  refine lv_iload_n hx hb dX9_is_7 rfl (lv_at hl 2 rfl) ?_
  refine lv_i2l hx hb dX9_is_8 rfl ?_
  refine lv_iload_n hx hb dX9_is_9 rfl (lv_at hl 3 rfl) ?_
  refine lv_i2l hx hb dX9_is_10 rfl ?_
  obtain ⟨p11, hp11, hf⟩ := cl_of hf
  refine sg_si (rest := []) (c_X9_in hn (h := h) hp11) hc hw hz hn0 hml hl cs_X9_87 ⟨⟨rfl, rfl⟩, Nat.le_trans (Nat.le_of_ble_eq_true rfl) hRf, Nat.le_trans (Nat.le_of_ble_eq_true rfl) hRl⟩ ⟨Nat.zero_le _, Nat.zero_le _⟩ rfl rfl (Nat.le_of_ble_eq_true rfl) dX9_is_11 (fun r h1 H locs hp hw => ?_)
  obtain ⟨⟨e1, e2⟩, hb11⟩ := hp; subst r; subst h1
  cases hf
  exact sg_zret hc hw hz hn0 hr hlocks hb11 ⟨⟨rfl, rfl⟩, hb11⟩ dX9_is_14
theorem c_X9_is {l : Launch} {D : va_G} {cA : Nat → ClassId} {b n : Nat} (hn : sg_okN n) {a : Nat} {x1 : Int32} {x2 : Int32} {x3 : Int32} (ha_a : a < n) (hT_a : sg_T a = 9) {h : HP} {Rz : Int32} (hf : F_X9_is a x1 x2 x3 h = some Rz) : Met l yX9_is (Cond.code yX9_is cX9_is 4 (some .boolean) :: sg_tbl) ({ frames := 1, cells := 0, slots := 0, locals := 25 } : Room) (va_Pc [.ref (b + a), .int x1, .int x2, .int x3] (sg_Wd D b cA n h)) (va_Qi (fun r u => (r = Rz ∧ u = h) ∧ narrow .boolean (.int r) = .int r) (sg_Wd D b cA n) (sg_A b)) 0 0 (sg_A b) := by
  refine Met.ofW (cc := cX9_is) (maxL := 4) (ret := (some .boolean)) (by decide) rfl ?_
  intro p e s m args below meth c s₁ B hml hv
  obtain ⟨rfl, hP, hK, hz, hY, hN⟩ := hv
  have hl := lv_entry [.ref (b + a), .int x1, .int x2, .int x3] (n := 4) (Nat.le_of_ble_eq_true rfl)
  rw [lg_entry_eq]
  exact w_X9_is hn ⟨B.exec, B.bytes, findClass_of_methodNamed B.named, fun w h => atoms_spec (ws := Cond.code yX9_is cX9_is 4 (some .boolean) :: sg_tbl) B.pre w (List.mem_cons_of_mem _ h), hK, hN⟩ hz B.returns B.notSynchronized hml (Nat.le_refl _) (Nat.le_refl _) ha_a hT_a hf _ _ _ ⟨hP, hY, va_S.rf⟩ hl
set_option maxHeartbeats 4000000 in
set_option maxRecDepth 100000 in
theorem w_X9_takesStretch {p : Program} {l : Launch} {e : Env} {R : Room} {s : State} {m : MethodId} {args : Array Value} {below : List Frame} {meth : Method} {c : Code} {D : va_G} {cA : Nat → ClassId} {b n : Nat} (hn : sg_okN n) {a : Nat} {h : HP} {Rz : Int32 × HP} (hc : sg_Cx p s m args c cX9_takesStretch RX9 D cA) (hz : s.heap.size = b + n) (hr : meth.sig.returnType = some .boolean) (hlocks : meth.locks = false) (hml : c.maxLocals = 1) (hRf : 2 ≤ R.frames) (hRl : 50 ≤ R.locals) (ha_a : a < n) (hT_a : sg_T a = 9) (hf : F_X9_takesStretch a h = some Rz) (H : Heap) (locs : List Loc) (ls : Array Slot) (hw : sg_Wo D b cA n s.heap h H locs) (hl : lv_has ls 1 [(0, .ref (b + a))]) : W p l e R s m args below meth c H locs 0 0 (sg_Qi below args s D b cA n (fun r u => (r = Rz.1 ∧ u = Rz.2) ∧ narrow .boolean (.int r) = .int r)) (F0 m 0 ls []) := by
  have hx := hc.1
  have hb := hc.2.1
  have hn0 : 0 < n := sg_pos hn
  unfold F_X9_takesStretch at hf
  refine lv_aload_n hx hb dX9_takesStretch_0 rfl (lv_at hl 0 rfl) ?_
  refine lv_iconst (v := 2) hx hb dX9_takesStretch_1 (by decide) ?_
  obtain ⟨p2, hp2, hf⟩ := cl_of hf
  refine sg_vi (rest := []) (c_X9_takes hn ha_a hT_a hp2) hc hw hz hml hl ha_a hT_a (by decide) rfl cv_X9_108 ⟨⟨rfl, rfl⟩, Nat.le_trans (Nat.le_of_ble_eq_true rfl) hRf, Nat.le_trans (Nat.le_of_ble_eq_true rfl) hRl⟩ ⟨Nat.zero_le _, Nat.zero_le _⟩ rfl rfl (Nat.le_of_ble_eq_true rfl) dX9_takesStretch_2 (fun r h1 H locs hp hw => ?_)
  obtain ⟨⟨e1, e2⟩, hb2⟩ := hp; subst r; subst h1
  refine lv_if_eq (tgt := 59) hx hb dX9_takesStretch_5 (by decide) (fun c5 => ?_) (fun c5 => ?_)
  · have hf := if_of c5 hf
    refine lv_iconst (v := 0) hx hb dX9_takesStretch_59 (by decide) ?_
    cases hf
    exact sg_zret hc hw hz hn0 hr hlocks rfl ⟨⟨rfl, rfl⟩, rfl⟩ dX9_takesStretch_60
  · have hf := if_no c5 hf
    refine lv_aload_n hx hb dX9_takesStretch_8 rfl (lv_at hl 0 rfl) ?_
    refine lv_iconst (v := 0) hx hb dX9_takesStretch_9 (by decide) ?_
    refine lv_iconst (v := 1) hx hb dX9_takesStretch_10 (by decide) ?_
    refine lv_bipush (v := 30) hx hb dX9_takesStretch_11 (by decide) ?_
    obtain ⟨p13, hp13, hf⟩ := cl_of hf
    refine sg_vi (rest := []) (c_X9_is hn ha_a hT_a hp13) hc hw hz hml hl ha_a hT_a (by decide) rfl cv_X9_112 ⟨⟨rfl, rfl⟩, Nat.le_trans (Nat.le_of_ble_eq_true rfl) hRf, Nat.le_trans (Nat.le_of_ble_eq_true rfl) hRl⟩ ⟨Nat.zero_le _, Nat.zero_le _⟩ rfl rfl (Nat.le_of_ble_eq_true rfl) dX9_takesStretch_13 (fun r h1 H locs hp hw => ?_)
    obtain ⟨⟨e1, e2⟩, hb13⟩ := hp; subst r; subst h1
    refine lv_if_eq (tgt := 59) hx hb dX9_takesStretch_16 (by decide) (fun c16 => ?_) (fun c16 => ?_)
    · have hf := if_of c16 hf
      refine lv_iconst (v := 0) hx hb dX9_takesStretch_59 (by decide) ?_
      cases hf
      exact sg_zret hc hw hz hn0 hr hlocks rfl ⟨⟨rfl, rfl⟩, rfl⟩ dX9_takesStretch_60
    · have hf := if_no c16 hf
      refine lv_aload_n hx hb dX9_takesStretch_19 rfl (lv_at hl 0 rfl) ?_
      refine lv_iconst (v := 1) hx hb dX9_takesStretch_20 (by decide) ?_
      refine lv_iconst (v := 0) hx hb dX9_takesStretch_21 (by decide) ?_
      refine lv_iconst (v := 5) hx hb dX9_takesStretch_22 (by decide) ?_
      obtain ⟨p23, hp23, hf⟩ := cl_of hf
      refine sg_vi (rest := []) (c_X9_is hn ha_a hT_a hp23) hc hw hz hml hl ha_a hT_a (by decide) rfl cv_X9_112 ⟨⟨rfl, rfl⟩, Nat.le_trans (Nat.le_of_ble_eq_true rfl) hRf, Nat.le_trans (Nat.le_of_ble_eq_true rfl) hRl⟩ ⟨Nat.zero_le _, Nat.zero_le _⟩ rfl rfl (Nat.le_of_ble_eq_true rfl) dX9_takesStretch_23 (fun r h1 H locs hp hw => ?_)
      obtain ⟨⟨e1, e2⟩, hb23⟩ := hp; subst r; subst h1
      refine lv_if_eq (tgt := 59) hx hb dX9_takesStretch_26 (by decide) (fun c26 => ?_) (fun c26 => ?_)
      · have hf := if_of c26 hf
        refine lv_iconst (v := 0) hx hb dX9_takesStretch_59 (by decide) ?_
        cases hf
        exact sg_zret hc hw hz hn0 hr hlocks rfl ⟨⟨rfl, rfl⟩, rfl⟩ dX9_takesStretch_60
      · have hf := if_no c26 hf
        refine lv_aload_n hx hb dX9_takesStretch_29 rfl (lv_at hl 0 rfl) ?_
        obtain ⟨hF30, hT30, ha30, hN30⟩ := ft_9_1 hn ha_a hT_a
        refine sg_getf (q := (a + 2)) hc hw ha_a hT_a fr_9_1 (by decide) k_874 dX9_takesStretch_30 hF30 ?_
        refine lv_iconst (v := 0) hx hb dX9_takesStretch_33 (by decide) ?_
        refine sg_ild hc hw ha30 hT30 hN30 (show vp_in 0 34 by unfold vp_in; decide) dX9_takesStretch_34 ?_
        refine lv_bipush (v := 6) hx hb dX9_takesStretch_35 (by decide) ?_
        refine lv_icmp_eq (tgt := 59) hx hb dX9_takesStretch_37 (by decide) (fun c37 => ?_) (fun c37 => ?_)
        · have hf := if_of c37 hf
          refine lv_iconst (v := 0) hx hb dX9_takesStretch_59 (by decide) ?_
          cases hf
          exact sg_zret hc hw hz hn0 hr hlocks rfl ⟨⟨rfl, rfl⟩, rfl⟩ dX9_takesStretch_60
        · have hf := if_no c37 hf
          refine lv_aload_n hx hb dX9_takesStretch_40 rfl (lv_at hl 0 rfl) ?_
          refine sg_getf (q := (a + 2)) hc hw ha_a hT_a fr_9_1 (by decide) k_874 dX9_takesStretch_41 (ft_9_1 hn ha_a hT_a).1 ?_
          obtain ⟨p44, hp44, hf⟩ := cl_of hf
          refine sg_si (rest := []) (c_X9_yardsOf hn ha30 hT30 hp44) hc hw hz hn0 hml hl cs_X9_116 ⟨⟨rfl, rfl⟩, Nat.le_trans (Nat.le_of_ble_eq_true rfl) hRf, Nat.le_trans (Nat.le_of_ble_eq_true rfl) hRl⟩ ⟨Nat.zero_le _, Nat.zero_le _⟩ rfl rfl (Nat.le_of_ble_eq_true rfl) dX9_takesStretch_44 (fun r h1 H locs hp hw => ?_)
          obtain ⟨e1, e2⟩ := hp; subst r; subst h1
          refine lv_aload_n hx hb dX9_takesStretch_47 rfl (lv_at hl 0 rfl) ?_
          obtain ⟨hF48, hT48, ha48, hN48⟩ := ft_9_13 hn ha_a hT_a
          refine sg_getf (q := (a + 9)) hc hw ha_a hT_a fr_9_13 (by decide) k_886 dX9_takesStretch_48 hF48 ?_
          refine lv_iconst (v := 0) hx hb dX9_takesStretch_51 (by decide) ?_
          refine sg_ild hc hw ha48 hT48 hN48 (show vp_in 0 3 by unfold vp_in; decide) dX9_takesStretch_52 ?_
          refine lv_iadd hx hb dX9_takesStretch_53 ?_
          refine lv_bipush (v := 120) hx hb dX9_takesStretch_54 (by decide) ?_
          refine lv_icmp_le (tgt := 61) hx hb dX9_takesStretch_56 (by decide) (fun c56 => ?_) (fun c56 => ?_)
          · have hf := if_of c56 hf
            refine lv_aload_n hx hb dX9_takesStretch_61 rfl (lv_at hl 0 rfl) ?_
            refine lv_aload_n hx hb dX9_takesStretch_62 rfl (lv_at hl 0 rfl) ?_
            refine sg_getf (q := (a + 9)) hc hw ha_a hT_a fr_9_13 (by decide) k_886 dX9_takesStretch_63 (ft_9_13 hn ha_a hT_a).1 ?_
            refine lv_iconst (v := 0) hx hb dX9_takesStretch_66 (by decide) ?_
            refine sg_ild hc hw ha48 hT48 hN48 (show vp_in 0 3 by unfold vp_in; decide) dX9_takesStretch_67 ?_
            refine lv_aload_n hx hb dX9_takesStretch_68 rfl (lv_at hl 0 rfl) ?_
            refine sg_getf (q := (a + 9)) hc hw ha_a hT_a fr_9_13 (by decide) k_886 dX9_takesStretch_69 (ft_9_13 hn ha_a hT_a).1 ?_
            refine lv_iconst (v := 1) hx hb dX9_takesStretch_72 (by decide) ?_
            refine sg_ild hc hw ha48 hT48 hN48 (show vp_in 1 3 by unfold vp_in; decide) dX9_takesStretch_73 ?_
            obtain ⟨p74, hp74, hf⟩ := cl_of hf
            refine sg_vv (rest := []) (c_X9_stretch hn ha_a hT_a hp74) hc hw hz hml hl ha_a hT_a (by decide) rfl cv_X9_73 ⟨⟨rfl, rfl⟩, Nat.le_trans (Nat.le_of_ble_eq_true rfl) hRf, Nat.le_trans (Nat.le_of_ble_eq_true rfl) hRl⟩ ⟨Nat.zero_le _, Nat.zero_le _⟩ rfl rfl (Nat.le_of_ble_eq_true rfl) dX9_takesStretch_74 (fun h1 H locs hp hw => ?_)
            subst h1
            refine lv_iconst (v := 1) hx hb dX9_takesStretch_77 (by decide) ?_
            cases hf
            exact sg_zret hc hw hz hn0 hr hlocks rfl ⟨⟨rfl, rfl⟩, rfl⟩ dX9_takesStretch_78
          · have hf := if_no c56 hf
            refine lv_iconst (v := 0) hx hb dX9_takesStretch_59 (by decide) ?_
            cases hf
            exact sg_zret hc hw hz hn0 hr hlocks rfl ⟨⟨rfl, rfl⟩, rfl⟩ dX9_takesStretch_60
theorem c_X9_takesStretch {l : Launch} {D : va_G} {cA : Nat → ClassId} {b n : Nat} (hn : sg_okN n) {a : Nat} (ha_a : a < n) (hT_a : sg_T a = 9) {h : HP} {Rz : Int32 × HP} (hf : F_X9_takesStretch a h = some Rz) : Met l yX9_takesStretch (Cond.code yX9_takesStretch cX9_takesStretch 1 (some .boolean) :: sg_tbl) ({ frames := 2, cells := 0, slots := 0, locals := 50 } : Room) (va_Pc [.ref (b + a)] (sg_Wd D b cA n h)) (va_Qi (fun r u => (r = Rz.1 ∧ u = Rz.2) ∧ narrow .boolean (.int r) = .int r) (sg_Wd D b cA n) (sg_A b)) 0 0 (sg_A b) := by
  refine Met.ofW (cc := cX9_takesStretch) (maxL := 1) (ret := (some .boolean)) (by decide) rfl ?_
  intro p e s m args below meth c s₁ B hml hv
  obtain ⟨rfl, hP, hK, hz, hY, hN⟩ := hv
  have hl := lv_entry [.ref (b + a)] (n := 1) (Nat.le_of_ble_eq_true rfl)
  rw [lg_entry_eq]
  exact w_X9_takesStretch hn ⟨B.exec, B.bytes, findClass_of_methodNamed B.named, fun w h => atoms_spec (ws := Cond.code yX9_takesStretch cX9_takesStretch 1 (some .boolean) :: sg_tbl) B.pre w (List.mem_cons_of_mem _ h), hK, hN⟩ hz B.returns B.notSynchronized hml (Nat.le_refl _) (Nat.le_refl _) ha_a hT_a hf _ _ _ ⟨hP, hY, va_S.rf⟩ hl
set_option maxHeartbeats 4000000 in
set_option maxRecDepth 100000 in
theorem w_X9_takesBearer {p : Program} {l : Launch} {e : Env} {R : Room} {s : State} {m : MethodId} {args : Array Value} {below : List Frame} {meth : Method} {c : Code} {D : va_G} {cA : Nat → ClassId} {b n : Nat} (hn : sg_okN n) {a : Nat} {h : HP} {Rz : Int32 × HP} (hc : sg_Cx p s m args c cX9_takesBearer RX9 D cA) (hz : s.heap.size = b + n) (hr : meth.sig.returnType = some .boolean) (hlocks : meth.locks = false) (hml : c.maxLocals = 1) (hRf : 2 ≤ R.frames) (hRl : 50 ≤ R.locals) (ha_a : a < n) (hT_a : sg_T a = 9) (hf : F_X9_takesBearer a h = some Rz) (H : Heap) (locs : List Loc) (ls : Array Slot) (hw : sg_Wo D b cA n s.heap h H locs) (hl : lv_has ls 1 [(0, .ref (b + a))]) : W p l e R s m args below meth c H locs 0 0 (sg_Qi below args s D b cA n (fun r u => (r = Rz.1 ∧ u = Rz.2) ∧ narrow .boolean (.int r) = .int r)) (F0 m 0 ls []) := by
  have hx := hc.1
  have hb := hc.2.1
  have hn0 : 0 < n := sg_pos hn
  unfold F_X9_takesBearer at hf
  refine lv_aload_n hx hb dX9_takesBearer_0 rfl (lv_at hl 0 rfl) ?_
  refine lv_iconst (v := 2) hx hb dX9_takesBearer_1 (by decide) ?_
  obtain ⟨p2, hp2, hf⟩ := cl_of hf
  refine sg_vi (rest := []) (c_X9_takes hn ha_a hT_a hp2) hc hw hz hml hl ha_a hT_a (by decide) rfl cv_X9_108 ⟨⟨rfl, rfl⟩, Nat.le_trans (Nat.le_of_ble_eq_true rfl) hRf, Nat.le_trans (Nat.le_of_ble_eq_true rfl) hRl⟩ ⟨Nat.zero_le _, Nat.zero_le _⟩ rfl rfl (Nat.le_of_ble_eq_true rfl) dX9_takesBearer_2 (fun r h1 H locs hp hw => ?_)
  obtain ⟨⟨e1, e2⟩, hb2⟩ := hp; subst r; subst h1
  refine lv_if_eq (tgt := 40) hx hb dX9_takesBearer_5 (by decide) (fun c5 => ?_) (fun c5 => ?_)
  · have hf := if_of c5 hf
    refine lv_iconst (v := 0) hx hb dX9_takesBearer_40 (by decide) ?_
    cases hf
    exact sg_zret hc hw hz hn0 hr hlocks rfl ⟨⟨rfl, rfl⟩, rfl⟩ dX9_takesBearer_41
  · have hf := if_no c5 hf
    refine lv_aload_n hx hb dX9_takesBearer_8 rfl (lv_at hl 0 rfl) ?_
    refine lv_iconst (v := 0) hx hb dX9_takesBearer_9 (by decide) ?_
    refine lv_iconst (v := 1) hx hb dX9_takesBearer_10 (by decide) ?_
    refine lv_bipush (v := 60) hx hb dX9_takesBearer_11 (by decide) ?_
    obtain ⟨p13, hp13, hf⟩ := cl_of hf
    refine sg_vi (rest := []) (c_X9_is hn ha_a hT_a hp13) hc hw hz hml hl ha_a hT_a (by decide) rfl cv_X9_112 ⟨⟨rfl, rfl⟩, Nat.le_trans (Nat.le_of_ble_eq_true rfl) hRf, Nat.le_trans (Nat.le_of_ble_eq_true rfl) hRl⟩ ⟨Nat.zero_le _, Nat.zero_le _⟩ rfl rfl (Nat.le_of_ble_eq_true rfl) dX9_takesBearer_13 (fun r h1 H locs hp hw => ?_)
    obtain ⟨⟨e1, e2⟩, hb13⟩ := hp; subst r; subst h1
    refine lv_if_eq (tgt := 40) hx hb dX9_takesBearer_16 (by decide) (fun c16 => ?_) (fun c16 => ?_)
    · have hf := if_of c16 hf
      refine lv_iconst (v := 0) hx hb dX9_takesBearer_40 (by decide) ?_
      cases hf
      exact sg_zret hc hw hz hn0 hr hlocks rfl ⟨⟨rfl, rfl⟩, rfl⟩ dX9_takesBearer_41
    · have hf := if_no c16 hf
      refine lv_aload_n hx hb dX9_takesBearer_19 rfl (lv_at hl 0 rfl) ?_
      refine lv_iconst (v := 1) hx hb dX9_takesBearer_20 (by decide) ?_
      refine lv_iconst (v := 0) hx hb dX9_takesBearer_21 (by decide) ?_
      refine lv_iconst (v := 3) hx hb dX9_takesBearer_22 (by decide) ?_
      obtain ⟨p23, hp23, hf⟩ := cl_of hf
      refine sg_vi (rest := []) (c_X9_is hn ha_a hT_a hp23) hc hw hz hml hl ha_a hT_a (by decide) rfl cv_X9_112 ⟨⟨rfl, rfl⟩, Nat.le_trans (Nat.le_of_ble_eq_true rfl) hRf, Nat.le_trans (Nat.le_of_ble_eq_true rfl) hRl⟩ ⟨Nat.zero_le _, Nat.zero_le _⟩ rfl rfl (Nat.le_of_ble_eq_true rfl) dX9_takesBearer_23 (fun r h1 H locs hp hw => ?_)
      obtain ⟨⟨e1, e2⟩, hb23⟩ := hp; subst r; subst h1
      refine lv_if_eq (tgt := 40) hx hb dX9_takesBearer_26 (by decide) (fun c26 => ?_) (fun c26 => ?_)
      · have hf := if_of c26 hf
        refine lv_iconst (v := 0) hx hb dX9_takesBearer_40 (by decide) ?_
        cases hf
        exact sg_zret hc hw hz hn0 hr hlocks rfl ⟨⟨rfl, rfl⟩, rfl⟩ dX9_takesBearer_41
      · have hf := if_no c26 hf
        refine lv_aload_n hx hb dX9_takesBearer_29 rfl (lv_at hl 0 rfl) ?_
        obtain ⟨hF30, hT30, ha30, hN30⟩ := ft_9_1 hn ha_a hT_a
        refine sg_getf (q := (a + 2)) hc hw ha_a hT_a fr_9_1 (by decide) k_874 dX9_takesBearer_30 hF30 ?_
        refine lv_iconst (v := 1) hx hb dX9_takesBearer_33 (by decide) ?_
        refine sg_ild hc hw ha30 hT30 hN30 (show vp_in 1 34 by unfold vp_in; decide) dX9_takesBearer_34 ?_
        refine lv_bipush (v := 6) hx hb dX9_takesBearer_35 (by decide) ?_
        refine lv_icmp_ne (tgt := 42) hx hb dX9_takesBearer_37 (by decide) (fun c37 => ?_) (fun c37 => ?_)
        · have hf := if_no c37 hf
          refine lv_aload_n hx hb dX9_takesBearer_42 rfl (lv_at hl 0 rfl) ?_
          refine lv_bipush (v := 10) hx hb dX9_takesBearer_43 (by decide) ?_
          refine lv_aload_n hx hb dX9_takesBearer_45 rfl (lv_at hl 0 rfl) ?_
          obtain ⟨hF46, hT46, ha46, hN46⟩ := ft_9_13 hn ha_a hT_a
          refine sg_getf (q := (a + 9)) hc hw ha_a hT_a fr_9_13 (by decide) k_886 dX9_takesBearer_46 hF46 ?_
          refine lv_iconst (v := 0) hx hb dX9_takesBearer_49 (by decide) ?_
          refine sg_ild hc hw ha46 hT46 hN46 (show vp_in 0 3 by unfold vp_in; decide) dX9_takesBearer_50 ?_
          refine lv_imul hx hb dX9_takesBearer_51 ?_
          refine lv_aload_n hx hb dX9_takesBearer_52 rfl (lv_at hl 0 rfl) ?_
          refine sg_getf (q := (a + 9)) hc hw ha_a hT_a fr_9_13 (by decide) k_886 dX9_takesBearer_53 (ft_9_13 hn ha_a hT_a).1 ?_
          refine lv_iconst (v := 1) hx hb dX9_takesBearer_56 (by decide) ?_
          refine sg_ild hc hw ha46 hT46 hN46 (show vp_in 1 3 by unfold vp_in; decide) dX9_takesBearer_57 ?_
          obtain ⟨p58, hp58, hf⟩ := cl_of hf
          refine sg_vv (rest := []) (c_X9_comes hn ha_a hT_a hp58) hc hw hz hml hl ha_a hT_a (by decide) rfl cv_X9_77 ⟨⟨rfl, rfl⟩, Nat.le_trans (Nat.le_of_ble_eq_true rfl) hRf, Nat.le_trans (Nat.le_of_ble_eq_true rfl) hRl⟩ ⟨Nat.zero_le _, Nat.zero_le _⟩ rfl rfl (Nat.le_of_ble_eq_true rfl) dX9_takesBearer_58 (fun h1 H locs hp hw => ?_)
          subst h1
          refine lv_iconst (v := 1) hx hb dX9_takesBearer_61 (by decide) ?_
          cases hf
          exact sg_zret hc hw hz hn0 hr hlocks rfl ⟨⟨rfl, rfl⟩, rfl⟩ dX9_takesBearer_62
        · have hf := if_of c37 hf
          refine lv_iconst (v := 0) hx hb dX9_takesBearer_40 (by decide) ?_
          cases hf
          exact sg_zret hc hw hz hn0 hr hlocks rfl ⟨⟨rfl, rfl⟩, rfl⟩ dX9_takesBearer_41
theorem c_X9_takesBearer {l : Launch} {D : va_G} {cA : Nat → ClassId} {b n : Nat} (hn : sg_okN n) {a : Nat} (ha_a : a < n) (hT_a : sg_T a = 9) {h : HP} {Rz : Int32 × HP} (hf : F_X9_takesBearer a h = some Rz) : Met l yX9_takesBearer (Cond.code yX9_takesBearer cX9_takesBearer 1 (some .boolean) :: sg_tbl) ({ frames := 2, cells := 0, slots := 0, locals := 50 } : Room) (va_Pc [.ref (b + a)] (sg_Wd D b cA n h)) (va_Qi (fun r u => (r = Rz.1 ∧ u = Rz.2) ∧ narrow .boolean (.int r) = .int r) (sg_Wd D b cA n) (sg_A b)) 0 0 (sg_A b) := by
  refine Met.ofW (cc := cX9_takesBearer) (maxL := 1) (ret := (some .boolean)) (by decide) rfl ?_
  intro p e s m args below meth c s₁ B hml hv
  obtain ⟨rfl, hP, hK, hz, hY, hN⟩ := hv
  have hl := lv_entry [.ref (b + a)] (n := 1) (Nat.le_of_ble_eq_true rfl)
  rw [lg_entry_eq]
  exact w_X9_takesBearer hn ⟨B.exec, B.bytes, findClass_of_methodNamed B.named, fun w h => atoms_spec (ws := Cond.code yX9_takesBearer cX9_takesBearer 1 (some .boolean) :: sg_tbl) B.pre w (List.mem_cons_of_mem _ h), hK, hN⟩ hz B.returns B.notSynchronized hml (Nat.le_refl _) (Nat.le_refl _) ha_a hT_a hf _ _ _ ⟨hP, hY, va_S.rf⟩ hl
set_option maxHeartbeats 4000000 in
set_option maxRecDepth 100000 in
theorem w_X9_takesOne {p : Program} {l : Launch} {e : Env} {R : Room} {s : State} {m : MethodId} {args : Array Value} {below : List Frame} {meth : Method} {c : Code} {D : va_G} {cA : Nat → ClassId} {b n : Nat} (hn : sg_okN n) {a : Nat} {x1 : Int32} {x2 : Int32} {x3 : Int32} {h : HP} {Rz : Int32 × HP} (hc : sg_Cx p s m args c cX9_takesOne RX9 D cA) (hz : s.heap.size = b + n) (hr : meth.sig.returnType = some .boolean) (hlocks : meth.locks = false) (hml : c.maxLocals = 4) (hRf : 2 ≤ R.frames) (hRl : 50 ≤ R.locals) (ha_a : a < n) (hT_a : sg_T a = 9) (hf : F_X9_takesOne a x1 x2 x3 h = some Rz) (H : Heap) (locs : List Loc) (ls : Array Slot) (hw : sg_Wo D b cA n s.heap h H locs) (hl : lv_has ls 4 [(0, .ref (b + a)), (1, .int x1), (2, .int x2), (3, .int x3)]) : W p l e R s m args below meth c H locs 0 0 (sg_Qi below args s D b cA n (fun r u => (r = Rz.1 ∧ u = Rz.2) ∧ narrow .boolean (.int r) = .int r)) (F0 m 0 ls []) := by
  have hx := hc.1
  have hb := hc.2.1
  have hn0 : 0 < n := sg_pos hn
  unfold F_X9_takesOne at hf
  refine lv_aload_n hx hb dX9_takesOne_0 rfl (lv_at hl 0 rfl) ?_
  refine lv_iconst (v := 1) hx hb dX9_takesOne_1 (by decide) ?_
  obtain ⟨p2, hp2, hf⟩ := cl_of hf
  refine sg_vi (rest := []) (c_X9_takes hn ha_a hT_a hp2) hc hw hz hml hl ha_a hT_a (by decide) rfl cv_X9_108 ⟨⟨rfl, rfl⟩, Nat.le_trans (Nat.le_of_ble_eq_true rfl) hRf, Nat.le_trans (Nat.le_of_ble_eq_true rfl) hRl⟩ ⟨Nat.zero_le _, Nat.zero_le _⟩ rfl rfl (Nat.le_of_ble_eq_true rfl) dX9_takesOne_2 (fun r h1 H locs hp hw => ?_)
  obtain ⟨⟨e1, e2⟩, hb2⟩ := hp; subst r; subst h1
  refine lv_if_eq (tgt := 18) hx hb dX9_takesOne_5 (by decide) (fun c5 => ?_) (fun c5 => ?_)
  · have hf := if_of c5 hf
    refine lv_iconst (v := 0) hx hb dX9_takesOne_18 (by decide) ?_
    cases hf
    exact sg_zret hc hw hz hn0 hr hlocks rfl ⟨⟨rfl, rfl⟩, rfl⟩ dX9_takesOne_19
  · have hf := if_no c5 hf
    refine lv_aload_n hx hb dX9_takesOne_8 rfl (lv_at hl 0 rfl) ?_
    refine lv_iconst (v := 0) hx hb dX9_takesOne_9 (by decide) ?_
    refine lv_iload_n hx hb dX9_takesOne_10 rfl (lv_at hl 2 rfl) ?_
    refine lv_iload_n hx hb dX9_takesOne_11 rfl (lv_at hl 3 rfl) ?_
    obtain ⟨p12, hp12, hf⟩ := cl_of hf
    refine sg_vi (rest := []) (c_X9_is hn ha_a hT_a hp12) hc hw hz hml hl ha_a hT_a (by decide) rfl cv_X9_112 ⟨⟨rfl, rfl⟩, Nat.le_trans (Nat.le_of_ble_eq_true rfl) hRf, Nat.le_trans (Nat.le_of_ble_eq_true rfl) hRl⟩ ⟨Nat.zero_le _, Nat.zero_le _⟩ rfl rfl (Nat.le_of_ble_eq_true rfl) dX9_takesOne_12 (fun r h1 H locs hp hw => ?_)
    obtain ⟨⟨e1, e2⟩, hb12⟩ := hp; subst r; subst h1
    refine lv_if_ne (tgt := 20) hx hb dX9_takesOne_15 (by decide) (fun c15 => ?_) (fun c15 => ?_)
    · have hf := if_no c15 hf
      refine lv_aload_n hx hb dX9_takesOne_20 rfl (lv_at hl 0 rfl) ?_
      obtain ⟨hF21, hT21, ha21, hN21⟩ := ft_9_1 hn ha_a hT_a
      refine sg_getf (q := (a + 2)) hc hw ha_a hT_a fr_9_1 (by decide) k_874 dX9_takesOne_21 hF21 ?_
      refine lv_iload_n hx hb dX9_takesOne_24 rfl (lv_at hl 1 rfl) ?_
      refine lv_aload_n hx hb dX9_takesOne_25 rfl (lv_at hl 0 rfl) ?_
      obtain ⟨hF26, hT26, ha26, hN26⟩ := ft_9_13 hn ha_a hT_a
      refine sg_getf (q := (a + 9)) hc hw ha_a hT_a fr_9_13 (by decide) k_886 dX9_takesOne_26 hF26 ?_
      refine lv_iconst (v := 0) hx hb dX9_takesOne_29 (by decide) ?_
      refine sg_ild hc hw ha26 hT26 hN26 (show vp_in 0 3 by unfold vp_in; decide) dX9_takesOne_30 ?_
      obtain ⟨hg31, hf⟩ := gd_of hf
      refine sg_ist hc hw ha21 hT21 hN21 hg31 dX9_takesOne_31 (fun H locs hw => ?_)
      obtain ⟨h31, hw, hf⟩ := sg_name hw hf
      refine lv_iconst (v := 1) hx hb dX9_takesOne_32 (by decide) ?_
      cases hf
      exact sg_zret hc hw hz hn0 hr hlocks rfl ⟨⟨rfl, rfl⟩, rfl⟩ dX9_takesOne_33
    · have hf := if_of c15 hf
      refine lv_iconst (v := 0) hx hb dX9_takesOne_18 (by decide) ?_
      cases hf
      exact sg_zret hc hw hz hn0 hr hlocks rfl ⟨⟨rfl, rfl⟩, rfl⟩ dX9_takesOne_19
theorem c_X9_takesOne {l : Launch} {D : va_G} {cA : Nat → ClassId} {b n : Nat} (hn : sg_okN n) {a : Nat} {x1 : Int32} {x2 : Int32} {x3 : Int32} (ha_a : a < n) (hT_a : sg_T a = 9) {h : HP} {Rz : Int32 × HP} (hf : F_X9_takesOne a x1 x2 x3 h = some Rz) : Met l yX9_takesOne (Cond.code yX9_takesOne cX9_takesOne 4 (some .boolean) :: sg_tbl) ({ frames := 2, cells := 0, slots := 0, locals := 50 } : Room) (va_Pc [.ref (b + a), .int x1, .int x2, .int x3] (sg_Wd D b cA n h)) (va_Qi (fun r u => (r = Rz.1 ∧ u = Rz.2) ∧ narrow .boolean (.int r) = .int r) (sg_Wd D b cA n) (sg_A b)) 0 0 (sg_A b) := by
  refine Met.ofW (cc := cX9_takesOne) (maxL := 4) (ret := (some .boolean)) (by decide) rfl ?_
  intro p e s m args below meth c s₁ B hml hv
  obtain ⟨rfl, hP, hK, hz, hY, hN⟩ := hv
  have hl := lv_entry [.ref (b + a), .int x1, .int x2, .int x3] (n := 4) (Nat.le_of_ble_eq_true rfl)
  rw [lg_entry_eq]
  exact w_X9_takesOne hn ⟨B.exec, B.bytes, findClass_of_methodNamed B.named, fun w h => atoms_spec (ws := Cond.code yX9_takesOne cX9_takesOne 4 (some .boolean) :: sg_tbl) B.pre w (List.mem_cons_of_mem _ h), hK, hN⟩ hz B.returns B.notSynchronized hml (Nat.le_refl _) (Nat.le_refl _) ha_a hT_a hf _ _ _ ⟨hP, hY, va_S.rf⟩ hl
set_option maxHeartbeats 4000000 in
set_option maxRecDepth 100000 in
theorem w_X9_takesTurns {p : Program} {l : Launch} {e : Env} {R : Room} {s : State} {m : MethodId} {args : Array Value} {below : List Frame} {meth : Method} {c : Code} {D : va_G} {cA : Nat → ClassId} {b n : Nat} (hn : sg_okN n) {a : Nat} {h : HP} {Rz : Int32 × HP} (hc : sg_Cx p s m args c cX9_takesTurns RX9 D cA) (hz : s.heap.size = b + n) (hr : meth.sig.returnType = some .boolean) (hlocks : meth.locks = false) (hml : c.maxLocals = 1) (hRf : 2 ≤ R.frames) (hRl : 50 ≤ R.locals) (ha_a : a < n) (hT_a : sg_T a = 9) (hf : F_X9_takesTurns a h = some Rz) (H : Heap) (locs : List Loc) (ls : Array Slot) (hw : sg_Wo D b cA n s.heap h H locs) (hl : lv_has ls 1 [(0, .ref (b + a))]) : W p l e R s m args below meth c H locs 0 0 (sg_Qi below args s D b cA n (fun r u => (r = Rz.1 ∧ u = Rz.2) ∧ narrow .boolean (.int r) = .int r)) (F0 m 0 ls []) := by
  have hx := hc.1
  have hb := hc.2.1
  have hn0 : 0 < n := sg_pos hn
  unfold F_X9_takesTurns at hf
  refine lv_aload_n hx hb dX9_takesTurns_0 rfl (lv_at hl 0 rfl) ?_
  refine lv_iconst (v := 3) hx hb dX9_takesTurns_1 (by decide) ?_
  obtain ⟨p2, hp2, hf⟩ := cl_of hf
  refine sg_vi (rest := []) (c_X9_takes hn ha_a hT_a hp2) hc hw hz hml hl ha_a hT_a (by decide) rfl cv_X9_108 ⟨⟨rfl, rfl⟩, Nat.le_trans (Nat.le_of_ble_eq_true rfl) hRf, Nat.le_trans (Nat.le_of_ble_eq_true rfl) hRl⟩ ⟨Nat.zero_le _, Nat.zero_le _⟩ rfl rfl (Nat.le_of_ble_eq_true rfl) dX9_takesTurns_2 (fun r h1 H locs hp hw => ?_)
  obtain ⟨⟨e1, e2⟩, hb2⟩ := hp; subst r; subst h1
  refine lv_if_eq (tgt := 51) hx hb dX9_takesTurns_5 (by decide) (fun c5 => ?_) (fun c5 => ?_)
  · have hf := if_of c5 hf
    refine lv_iconst (v := 0) hx hb dX9_takesTurns_51 (by decide) ?_
    cases hf
    exact sg_zret hc hw hz hn0 hr hlocks rfl ⟨⟨rfl, rfl⟩, rfl⟩ dX9_takesTurns_52
  · have hf := if_no c5 hf
    refine lv_aload_n hx hb dX9_takesTurns_8 rfl (lv_at hl 0 rfl) ?_
    refine lv_iconst (v := 0) hx hb dX9_takesTurns_9 (by decide) ?_
    refine lv_iconst (v := 0) hx hb dX9_takesTurns_10 (by decide) ?_
    refine lv_aload_n hx hb dX9_takesTurns_11 rfl (lv_at hl 0 rfl) ?_
    obtain ⟨hF12, hT12, ha12, hN12⟩ := ft_9_1 hn ha_a hT_a
    refine sg_getf (q := (a + 2)) hc hw ha_a hT_a fr_9_1 (by decide) k_874 dX9_takesTurns_12 hF12 ?_
    refine lv_iconst (v := 1) hx hb dX9_takesTurns_15 (by decide) ?_
    refine sg_ild hc hw ha12 hT12 hN12 (show vp_in 1 34 by unfold vp_in; decide) dX9_takesTurns_16 ?_
    refine lv_iconst (v := 1) hx hb dX9_takesTurns_17 (by decide) ?_
    refine lv_isub hx hb dX9_takesTurns_18 ?_
    obtain ⟨p19, hp19, hf⟩ := cl_of hf
    refine sg_vi (rest := []) (c_X9_is hn ha_a hT_a hp19) hc hw hz hml hl ha_a hT_a (by decide) rfl cv_X9_112 ⟨⟨rfl, rfl⟩, Nat.le_trans (Nat.le_of_ble_eq_true rfl) hRf, Nat.le_trans (Nat.le_of_ble_eq_true rfl) hRl⟩ ⟨Nat.zero_le _, Nat.zero_le _⟩ rfl rfl (Nat.le_of_ble_eq_true rfl) dX9_takesTurns_19 (fun r h1 H locs hp hw => ?_)
    obtain ⟨⟨e1, e2⟩, hb19⟩ := hp; subst r; subst h1
    refine lv_if_eq (tgt := 51) hx hb dX9_takesTurns_22 (by decide) (fun c22 => ?_) (fun c22 => ?_)
    · have hf := if_of c22 hf
      refine lv_iconst (v := 0) hx hb dX9_takesTurns_51 (by decide) ?_
      cases hf
      exact sg_zret hc hw hz hn0 hr hlocks rfl ⟨⟨rfl, rfl⟩, rfl⟩ dX9_takesTurns_52
    · have hf := if_no c22 hf
      refine lv_aload_n hx hb dX9_takesTurns_25 rfl (lv_at hl 0 rfl) ?_
      obtain ⟨hF26, hT26, ha26, hN26⟩ := ft_9_13 hn ha_a hT_a
      refine sg_getf (q := (a + 9)) hc hw ha_a hT_a fr_9_13 (by decide) k_886 dX9_takesTurns_26 hF26 ?_
      refine lv_iconst (v := 1) hx hb dX9_takesTurns_29 (by decide) ?_
      refine sg_ild hc hw ha26 hT26 hN26 (show vp_in 1 3 by unfold vp_in; decide) dX9_takesTurns_30 ?_
      refine lv_aload_n hx hb dX9_takesTurns_31 rfl (lv_at hl 0 rfl) ?_
      refine sg_getf (q := (a + 9)) hc hw ha_a hT_a fr_9_13 (by decide) k_886 dX9_takesTurns_32 (ft_9_13 hn ha_a hT_a).1 ?_
      refine lv_iconst (v := 2) hx hb dX9_takesTurns_35 (by decide) ?_
      refine sg_ild hc hw ha26 hT26 hN26 (show vp_in 2 3 by unfold vp_in; decide) dX9_takesTurns_36 ?_
      refine lv_icmp_gt (tgt := 51) hx hb dX9_takesTurns_37 (by decide) (fun c37 => ?_) (fun c37 => ?_)
      · have hf := if_of c37 hf
        refine lv_iconst (v := 0) hx hb dX9_takesTurns_51 (by decide) ?_
        cases hf
        exact sg_zret hc hw hz hn0 hr hlocks rfl ⟨⟨rfl, rfl⟩, rfl⟩ dX9_takesTurns_52
      · have hf := if_no c37 hf
        refine lv_aload_n hx hb dX9_takesTurns_40 rfl (lv_at hl 0 rfl) ?_
        obtain ⟨hF41, hT41, ha41, hN41⟩ := ft_9_3 hn ha_a hT_a
        refine sg_getf (q := (a + 4)) hc hw ha_a hT_a fr_9_3 (by decide) k_876 dX9_takesTurns_41 hF41 ?_
        refine lv_iconst (v := 0) hx hb dX9_takesTurns_44 (by decide) ?_
        refine sg_ild hc hw ha41 hT41 hN41 (show vp_in 0 31 by unfold vp_in; decide) dX9_takesTurns_45 ?_
        refine lv_bipush (v := 9) hx hb dX9_takesTurns_46 (by decide) ?_
        refine lv_icmp_ne (tgt := 53) hx hb dX9_takesTurns_48 (by decide) (fun c48 => ?_) (fun c48 => ?_)
        · have hf := if_no c48 hf
          refine lv_aload_n hx hb dX9_takesTurns_53 rfl (lv_at hl 0 rfl) ?_
          refine lv_aload_n hx hb dX9_takesTurns_54 rfl (lv_at hl 0 rfl) ?_
          refine sg_getf (q := (a + 9)) hc hw ha_a hT_a fr_9_13 (by decide) k_886 dX9_takesTurns_55 (ft_9_13 hn ha_a hT_a).1 ?_
          refine lv_iconst (v := 0) hx hb dX9_takesTurns_58 (by decide) ?_
          refine sg_ild hc hw ha26 hT26 hN26 (show vp_in 0 3 by unfold vp_in; decide) dX9_takesTurns_59 ?_
          refine lv_aload_n hx hb dX9_takesTurns_60 rfl (lv_at hl 0 rfl) ?_
          refine sg_getf (q := (a + 9)) hc hw ha_a hT_a fr_9_13 (by decide) k_886 dX9_takesTurns_61 (ft_9_13 hn ha_a hT_a).1 ?_
          refine lv_iconst (v := 1) hx hb dX9_takesTurns_64 (by decide) ?_
          refine sg_ild hc hw ha26 hT26 hN26 (show vp_in 1 3 by unfold vp_in; decide) dX9_takesTurns_65 ?_
          refine lv_aload_n hx hb dX9_takesTurns_66 rfl (lv_at hl 0 rfl) ?_
          refine sg_getf (q := (a + 9)) hc hw ha_a hT_a fr_9_13 (by decide) k_886 dX9_takesTurns_67 (ft_9_13 hn ha_a hT_a).1 ?_
          refine lv_iconst (v := 2) hx hb dX9_takesTurns_70 (by decide) ?_
          refine sg_ild hc hw ha26 hT26 hN26 (show vp_in 2 3 by unfold vp_in; decide) dX9_takesTurns_71 ?_
          obtain ⟨p72, hp72, hf⟩ := cl_of hf
          refine sg_vv (rest := []) (c_X9_takesTurn hn ha_a hT_a hp72) hc hw hz hml hl ha_a hT_a (by decide) rfl cv_X9_80 ⟨⟨rfl, rfl⟩, Nat.le_trans (Nat.le_of_ble_eq_true rfl) hRf, Nat.le_trans (Nat.le_of_ble_eq_true rfl) hRl⟩ ⟨Nat.zero_le _, Nat.zero_le _⟩ rfl rfl (Nat.le_of_ble_eq_true rfl) dX9_takesTurns_72 (fun h1 H locs hp hw => ?_)
          subst h1
          refine lv_iconst (v := 1) hx hb dX9_takesTurns_75 (by decide) ?_
          cases hf
          exact sg_zret hc hw hz hn0 hr hlocks rfl ⟨⟨rfl, rfl⟩, rfl⟩ dX9_takesTurns_76
        · have hf := if_of c48 hf
          refine lv_iconst (v := 0) hx hb dX9_takesTurns_51 (by decide) ?_
          cases hf
          exact sg_zret hc hw hz hn0 hr hlocks rfl ⟨⟨rfl, rfl⟩, rfl⟩ dX9_takesTurns_52
theorem c_X9_takesTurns {l : Launch} {D : va_G} {cA : Nat → ClassId} {b n : Nat} (hn : sg_okN n) {a : Nat} (ha_a : a < n) (hT_a : sg_T a = 9) {h : HP} {Rz : Int32 × HP} (hf : F_X9_takesTurns a h = some Rz) : Met l yX9_takesTurns (Cond.code yX9_takesTurns cX9_takesTurns 1 (some .boolean) :: sg_tbl) ({ frames := 2, cells := 0, slots := 0, locals := 50 } : Room) (va_Pc [.ref (b + a)] (sg_Wd D b cA n h)) (va_Qi (fun r u => (r = Rz.1 ∧ u = Rz.2) ∧ narrow .boolean (.int r) = .int r) (sg_Wd D b cA n) (sg_A b)) 0 0 (sg_A b) := by
  refine Met.ofW (cc := cX9_takesTurns) (maxL := 1) (ret := (some .boolean)) (by decide) rfl ?_
  intro p e s m args below meth c s₁ B hml hv
  obtain ⟨rfl, hP, hK, hz, hY, hN⟩ := hv
  have hl := lv_entry [.ref (b + a)] (n := 1) (Nat.le_of_ble_eq_true rfl)
  rw [lg_entry_eq]
  exact w_X9_takesTurns hn ⟨B.exec, B.bytes, findClass_of_methodNamed B.named, fun w h => atoms_spec (ws := Cond.code yX9_takesTurns cX9_takesTurns 1 (some .boolean) :: sg_tbl) B.pre w (List.mem_cons_of_mem _ h), hK, hN⟩ hz B.returns B.notSynchronized hml (Nat.le_refl _) (Nat.le_refl _) ha_a hT_a hf _ _ _ ⟨hP, hY, va_S.rf⟩ hl
set_option maxHeartbeats 4000000 in
set_option maxRecDepth 100000 in
theorem w_X9_takesPrice {p : Program} {l : Launch} {e : Env} {R : Room} {s : State} {m : MethodId} {args : Array Value} {below : List Frame} {meth : Method} {c : Code} {D : va_G} {cA : Nat → ClassId} {b n : Nat} (hn : sg_okN n) {a : Nat} {h : HP} {Rz : Int32 × HP} (hc : sg_Cx p s m args c cX9_takesPrice RX9 D cA) (hz : s.heap.size = b + n) (hr : meth.sig.returnType = some .boolean) (hlocks : meth.locks = false) (hml : c.maxLocals = 1) (hRf : 2 ≤ R.frames) (hRl : 50 ≤ R.locals) (ha_a : a < n) (hT_a : sg_T a = 9) (hf : F_X9_takesPrice a h = some Rz) (H : Heap) (locs : List Loc) (ls : Array Slot) (hw : sg_Wo D b cA n s.heap h H locs) (hl : lv_has ls 1 [(0, .ref (b + a))]) : W p l e R s m args below meth c H locs 0 0 (sg_Qi below args s D b cA n (fun r u => (r = Rz.1 ∧ u = Rz.2) ∧ narrow .boolean (.int r) = .int r)) (F0 m 0 ls []) := by
  have hx := hc.1
  have hb := hc.2.1
  have hn0 : 0 < n := sg_pos hn
  unfold F_X9_takesPrice at hf
  refine lv_aload_n hx hb dX9_takesPrice_0 rfl (lv_at hl 0 rfl) ?_
  refine lv_iconst (v := 2) hx hb dX9_takesPrice_1 (by decide) ?_
  obtain ⟨p2, hp2, hf⟩ := cl_of hf
  refine sg_vi (rest := []) (c_X9_takes hn ha_a hT_a hp2) hc hw hz hml hl ha_a hT_a (by decide) rfl cv_X9_108 ⟨⟨rfl, rfl⟩, Nat.le_trans (Nat.le_of_ble_eq_true rfl) hRf, Nat.le_trans (Nat.le_of_ble_eq_true rfl) hRl⟩ ⟨Nat.zero_le _, Nat.zero_le _⟩ rfl rfl (Nat.le_of_ble_eq_true rfl) dX9_takesPrice_2 (fun r h1 H locs hp hw => ?_)
  obtain ⟨⟨e1, e2⟩, hb2⟩ := hp; subst r; subst h1
  refine lv_if_eq (tgt := 36) hx hb dX9_takesPrice_5 (by decide) (fun c5 => ?_) (fun c5 => ?_)
  · have hf := if_of c5 hf
    refine lv_iconst (v := 0) hx hb dX9_takesPrice_36 (by decide) ?_
    cases hf
    exact sg_zret hc hw hz hn0 hr hlocks rfl ⟨⟨rfl, rfl⟩, rfl⟩ dX9_takesPrice_37
  · have hf := if_no c5 hf
    refine lv_aload_n hx hb dX9_takesPrice_8 rfl (lv_at hl 0 rfl) ?_
    refine lv_iconst (v := 0) hx hb dX9_takesPrice_9 (by decide) ?_
    refine lv_iconst (v := 0) hx hb dX9_takesPrice_10 (by decide) ?_
    refine lv_aload_n hx hb dX9_takesPrice_11 rfl (lv_at hl 0 rfl) ?_
    obtain ⟨hF12, hT12, ha12, hN12⟩ := ft_9_1 hn ha_a hT_a
    refine sg_getf (q := (a + 2)) hc hw ha_a hT_a fr_9_1 (by decide) k_874 dX9_takesPrice_12 hF12 ?_
    refine lv_iconst (v := 0) hx hb dX9_takesPrice_15 (by decide) ?_
    refine sg_ild hc hw ha12 hT12 hN12 (show vp_in 0 34 by unfold vp_in; decide) dX9_takesPrice_16 ?_
    refine lv_iconst (v := 1) hx hb dX9_takesPrice_17 (by decide) ?_
    refine lv_isub hx hb dX9_takesPrice_18 ?_
    obtain ⟨p19, hp19, hf⟩ := cl_of hf
    refine sg_vi (rest := []) (c_X9_is hn ha_a hT_a hp19) hc hw hz hml hl ha_a hT_a (by decide) rfl cv_X9_112 ⟨⟨rfl, rfl⟩, Nat.le_trans (Nat.le_of_ble_eq_true rfl) hRf, Nat.le_trans (Nat.le_of_ble_eq_true rfl) hRl⟩ ⟨Nat.zero_le _, Nat.zero_le _⟩ rfl rfl (Nat.le_of_ble_eq_true rfl) dX9_takesPrice_19 (fun r h1 H locs hp hw => ?_)
    obtain ⟨⟨e1, e2⟩, hb19⟩ := hp; subst r; subst h1
    refine lv_if_eq (tgt := 36) hx hb dX9_takesPrice_22 (by decide) (fun c22 => ?_) (fun c22 => ?_)
    · have hf := if_of c22 hf
      refine lv_iconst (v := 0) hx hb dX9_takesPrice_36 (by decide) ?_
      cases hf
      exact sg_zret hc hw hz hn0 hr hlocks rfl ⟨⟨rfl, rfl⟩, rfl⟩ dX9_takesPrice_37
    · have hf := if_no c22 hf
      refine lv_aload_n hx hb dX9_takesPrice_25 rfl (lv_at hl 0 rfl) ?_
      refine lv_iconst (v := 1) hx hb dX9_takesPrice_26 (by decide) ?_
      refine lv_iconst (v := 1) hx hb dX9_takesPrice_27 (by decide) ?_
      refine lv_bipush (v := 9) hx hb dX9_takesPrice_28 (by decide) ?_
      obtain ⟨p30, hp30, hf⟩ := cl_of hf
      refine sg_vi (rest := []) (c_X9_is hn ha_a hT_a hp30) hc hw hz hml hl ha_a hT_a (by decide) rfl cv_X9_112 ⟨⟨rfl, rfl⟩, Nat.le_trans (Nat.le_of_ble_eq_true rfl) hRf, Nat.le_trans (Nat.le_of_ble_eq_true rfl) hRl⟩ ⟨Nat.zero_le _, Nat.zero_le _⟩ rfl rfl (Nat.le_of_ble_eq_true rfl) dX9_takesPrice_30 (fun r h1 H locs hp hw => ?_)
      obtain ⟨⟨e1, e2⟩, hb30⟩ := hp; subst r; subst h1
      refine lv_if_ne (tgt := 38) hx hb dX9_takesPrice_33 (by decide) (fun c33 => ?_) (fun c33 => ?_)
      · have hf := if_no c33 hf
        refine lv_aload_n hx hb dX9_takesPrice_38 rfl (lv_at hl 0 rfl) ?_
        refine sg_getf (q := (a + 2)) hc hw ha_a hT_a fr_9_1 (by decide) k_874 dX9_takesPrice_39 (ft_9_1 hn ha_a hT_a).1 ?_
        refine lv_bipush (v := 16) hx hb dX9_takesPrice_42 (by decide) ?_
        refine lv_aload_n hx hb dX9_takesPrice_44 rfl (lv_at hl 0 rfl) ?_
        obtain ⟨hF45, hT45, ha45, hN45⟩ := ft_9_13 hn ha_a hT_a
        refine sg_getf (q := (a + 9)) hc hw ha_a hT_a fr_9_13 (by decide) k_886 dX9_takesPrice_45 hF45 ?_
        refine lv_iconst (v := 0) hx hb dX9_takesPrice_48 (by decide) ?_
        refine sg_ild hc hw ha45 hT45 hN45 (show vp_in 0 3 by unfold vp_in; decide) dX9_takesPrice_49 ?_
        refine lv_iadd hx hb dX9_takesPrice_50 ?_
        refine lv_aload_n hx hb dX9_takesPrice_51 rfl (lv_at hl 0 rfl) ?_
        refine sg_getf (q := (a + 9)) hc hw ha_a hT_a fr_9_13 (by decide) k_886 dX9_takesPrice_52 (ft_9_13 hn ha_a hT_a).1 ?_
        refine lv_iconst (v := 1) hx hb dX9_takesPrice_55 (by decide) ?_
        refine sg_ild hc hw ha45 hT45 hN45 (show vp_in 1 3 by unfold vp_in; decide) dX9_takesPrice_56 ?_
        obtain ⟨hg57, hf⟩ := gd_of hf
        refine sg_ist hc hw ha12 hT12 hN12 hg57 dX9_takesPrice_57 (fun H locs hw => ?_)
        obtain ⟨h57, hw, hf⟩ := sg_name hw hf
        refine lv_iconst (v := 1) hx hb dX9_takesPrice_58 (by decide) ?_
        cases hf
        exact sg_zret hc hw hz hn0 hr hlocks rfl ⟨⟨rfl, rfl⟩, rfl⟩ dX9_takesPrice_59
      · have hf := if_of c33 hf
        refine lv_iconst (v := 0) hx hb dX9_takesPrice_36 (by decide) ?_
        cases hf
        exact sg_zret hc hw hz hn0 hr hlocks rfl ⟨⟨rfl, rfl⟩, rfl⟩ dX9_takesPrice_37
theorem c_X9_takesPrice {l : Launch} {D : va_G} {cA : Nat → ClassId} {b n : Nat} (hn : sg_okN n) {a : Nat} (ha_a : a < n) (hT_a : sg_T a = 9) {h : HP} {Rz : Int32 × HP} (hf : F_X9_takesPrice a h = some Rz) : Met l yX9_takesPrice (Cond.code yX9_takesPrice cX9_takesPrice 1 (some .boolean) :: sg_tbl) ({ frames := 2, cells := 0, slots := 0, locals := 50 } : Room) (va_Pc [.ref (b + a)] (sg_Wd D b cA n h)) (va_Qi (fun r u => (r = Rz.1 ∧ u = Rz.2) ∧ narrow .boolean (.int r) = .int r) (sg_Wd D b cA n) (sg_A b)) 0 0 (sg_A b) := by
  refine Met.ofW (cc := cX9_takesPrice) (maxL := 1) (ret := (some .boolean)) (by decide) rfl ?_
  intro p e s m args below meth c s₁ B hml hv
  obtain ⟨rfl, hP, hK, hz, hY, hN⟩ := hv
  have hl := lv_entry [.ref (b + a)] (n := 1) (Nat.le_of_ble_eq_true rfl)
  rw [lg_entry_eq]
  exact w_X9_takesPrice hn ⟨B.exec, B.bytes, findClass_of_methodNamed B.named, fun w h => atoms_spec (ws := Cond.code yX9_takesPrice cX9_takesPrice 1 (some .boolean) :: sg_tbl) B.pre w (List.mem_cons_of_mem _ h), hK, hN⟩ hz B.returns B.notSynchronized hml (Nat.le_refl _) (Nat.le_refl _) ha_a hT_a hf _ _ _ ⟨hP, hY, va_S.rf⟩ hl
set_option maxHeartbeats 4000000 in
set_option maxRecDepth 100000 in
theorem w_X9_takesItem {p : Program} {l : Launch} {e : Env} {R : Room} {s : State} {m : MethodId} {args : Array Value} {below : List Frame} {meth : Method} {c : Code} {D : va_G} {cA : Nat → ClassId} {b n : Nat} (hn : sg_okN n) {a : Nat} {h : HP} {Rz : Int32 × HP} (hc : sg_Cx p s m args c cX9_takesItem RX9 D cA) (hz : s.heap.size = b + n) (hr : meth.sig.returnType = some .boolean) (hlocks : meth.locks = false) (hml : c.maxLocals = 2) (hRf : 3 ≤ R.frames) (hRl : 73 ≤ R.locals) (ha_a : a < n) (hT_a : sg_T a = 9) (hf : F_X9_takesItem a h = some Rz) (H : Heap) (locs : List Loc) (ls : Array Slot) (hw : sg_Wo D b cA n s.heap h H locs) (hl : lv_has ls 2 [(0, .ref (b + a))]) : W p l e R s m args below meth c H locs 0 0 (sg_Qi below args s D b cA n (fun r u => (r = Rz.1 ∧ u = Rz.2) ∧ narrow .boolean (.int r) = .int r)) (F0 m 0 ls []) := by
  have hx := hc.1
  have hb := hc.2.1
  have hn0 : 0 < n := sg_pos hn
  unfold F_X9_takesItem at hf
  refine lv_aload_n hx hb dX9_takesItem_0 rfl (lv_at hl 0 rfl) ?_
  obtain ⟨hF1, hT1, ha1, hN1⟩ := ft_9_8 hn ha_a hT_a
  refine sg_getf (q := (a + 7)) hc hw ha_a hT_a fr_9_8 (by decide) k_881 dX9_takesItem_1 hF1 ?_
  refine lv_aload_n hx hb dX9_takesItem_4 rfl (lv_at hl 0 rfl) ?_
  refine sg_geti hc hw ha_a hT_a fi_9_12 k_885 dX9_takesItem_5 ?_
  obtain ⟨hg8, hf⟩ := gd_of hf
  refine sg_ild hc hw ha1 hT1 hN1 hg8 dX9_takesItem_8 ?_
  refine lv_topi (fun v9 e9 => ?_)
  have hf := nm_of e9 hf
  refine lv_istore_n (lv' := [(1, .int v9), (0, .ref (b + a))]) hx hb dX9_takesItem_9 rfl hl (by decide) rfl (fun ls hl => ?_)
  refine lv_aload_n hx hb dX9_takesItem_10 rfl (lv_at hl 1 rfl) ?_
  refine lv_dup hx hb dX9_takesItem_11 rfl ?_
  refine sg_geti hc hw ha_a hT_a fi_9_12 k_885 dX9_takesItem_12 ?_
  refine lv_iconst (v := 1) hx hb dX9_takesItem_15 (by decide) ?_
  refine lv_iadd hx hb dX9_takesItem_16 ?_
  refine sg_puti hc hw ha_a hT_a fp_9_12 rfl rfl k_885 dX9_takesItem_17 (fun H locs hw => ?_)
  obtain ⟨h17, hw, hf⟩ := sg_name hw hf
  refine lv_iload_n hx hb dX9_takesItem_20 rfl (lv_at hl 0 rfl) ?_
  by_cases hk21_98 : v9 = 98
  · have hf := if_of hk21_98 hf
    refine lv_lookup (off := 64) (tgt := 85) hx hb dX9_takesItem_21 (by decide) (by rw [hk21_98]; decide) (by decide) ?_
    refine lv_aload_n hx hb dX9_takesItem_85 rfl (lv_at hl 1 rfl) ?_
    obtain ⟨p86, hp86, hf⟩ := cl_of hf
    refine sg_vi (rest := []) (c_X9_takesBearer hn ha_a hT_a hp86) hc hw hz hml hl ha_a hT_a (by decide) rfl cv_X9_124 ⟨⟨rfl, rfl⟩, Nat.le_trans (Nat.le_of_ble_eq_true rfl) hRf, Nat.le_trans (Nat.le_of_ble_eq_true rfl) hRl⟩ ⟨Nat.zero_le _, Nat.zero_le _⟩ rfl rfl (Nat.le_of_ble_eq_true rfl) dX9_takesItem_86 (fun r h1 H locs hp hw => ?_)
    obtain ⟨⟨e1, e2⟩, hb86⟩ := hp; subst r; subst h1
    cases hf
    exact sg_zret hc hw hz hn0 hr hlocks hb86 ⟨⟨rfl, rfl⟩, hb86⟩ dX9_takesItem_89
  · have hf := if_no hk21_98 hf
    by_cases hk21_109 : v9 = 109
    · have hf := if_of hk21_109 hf
      refine lv_lookup (off := 69) (tgt := 90) hx hb dX9_takesItem_21 (by decide) (by rw [hk21_109]; decide) (by decide) ?_
      refine lv_aload_n hx hb dX9_takesItem_90 rfl (lv_at hl 1 rfl) ?_
      refine lv_iconst (v := 2) hx hb dX9_takesItem_91 (by decide) ?_
      refine lv_iconst (v := 1) hx hb dX9_takesItem_92 (by decide) ?_
      refine lv_iconst (v := 3) hx hb dX9_takesItem_93 (by decide) ?_
      obtain ⟨p94, hp94, hf⟩ := cl_of hf
      refine sg_vi (rest := []) (c_X9_takesOne hn ha_a hT_a hp94) hc hw hz hml hl ha_a hT_a (by decide) rfl cv_X9_127 ⟨⟨rfl, rfl⟩, Nat.le_trans (Nat.le_of_ble_eq_true rfl) hRf, Nat.le_trans (Nat.le_of_ble_eq_true rfl) hRl⟩ ⟨Nat.zero_le _, Nat.zero_le _⟩ rfl rfl (Nat.le_of_ble_eq_true rfl) dX9_takesItem_94 (fun r h1 H locs hp hw => ?_)
      obtain ⟨⟨e1, e2⟩, hb94⟩ := hp; subst r; subst h1
      cases hf
      exact sg_zret hc hw hz hn0 hr hlocks hb94 ⟨⟨rfl, rfl⟩, hb94⟩ dX9_takesItem_97
    · have hf := if_no hk21_109 hf
      by_cases hk21_114 : v9 = 114
      · have hf := if_of hk21_114 hf
        refine lv_lookup (off := 77) (tgt := 98) hx hb dX9_takesItem_21 (by decide) (by rw [hk21_114]; decide) (by decide) ?_
        refine lv_aload_n hx hb dX9_takesItem_98 rfl (lv_at hl 1 rfl) ?_
        refine lv_iconst (v := 3) hx hb dX9_takesItem_99 (by decide) ?_
        refine lv_iconst (v := 0) hx hb dX9_takesItem_100 (by decide) ?_
        refine lv_iconst (v := 3) hx hb dX9_takesItem_101 (by decide) ?_
        obtain ⟨p102, hp102, hf⟩ := cl_of hf
        refine sg_vi (rest := []) (c_X9_takesOne hn ha_a hT_a hp102) hc hw hz hml hl ha_a hT_a (by decide) rfl cv_X9_127 ⟨⟨rfl, rfl⟩, Nat.le_trans (Nat.le_of_ble_eq_true rfl) hRf, Nat.le_trans (Nat.le_of_ble_eq_true rfl) hRl⟩ ⟨Nat.zero_le _, Nat.zero_le _⟩ rfl rfl (Nat.le_of_ble_eq_true rfl) dX9_takesItem_102 (fun r h1 H locs hp hw => ?_)
        obtain ⟨⟨e1, e2⟩, hb102⟩ := hp; subst r; subst h1
        cases hf
        exact sg_zret hc hw hz hn0 hr hlocks hb102 ⟨⟨rfl, rfl⟩, hb102⟩ dX9_takesItem_105
      · have hf := if_no hk21_114 hf
        by_cases hk21_115 : v9 = 115
        · have hf := if_of hk21_115 hf
          refine lv_lookup (off := 59) (tgt := 80) hx hb dX9_takesItem_21 (by decide) (by rw [hk21_115]; decide) (by decide) ?_
          refine lv_aload_n hx hb dX9_takesItem_80 rfl (lv_at hl 1 rfl) ?_
          obtain ⟨p81, hp81, hf⟩ := cl_of hf
          refine sg_vi (rest := []) (c_X9_takesStretch hn ha_a hT_a hp81) hc hw hz hml hl ha_a hT_a (by decide) rfl cv_X9_120 ⟨⟨rfl, rfl⟩, Nat.le_trans (Nat.le_of_ble_eq_true rfl) hRf, Nat.le_trans (Nat.le_of_ble_eq_true rfl) hRl⟩ ⟨Nat.zero_le _, Nat.zero_le _⟩ rfl rfl (Nat.le_of_ble_eq_true rfl) dX9_takesItem_81 (fun r h1 H locs hp hw => ?_)
          obtain ⟨⟨e1, e2⟩, hb81⟩ := hp; subst r; subst h1
          cases hf
          exact sg_zret hc hw hz hn0 hr hlocks hb81 ⟨⟨rfl, rfl⟩, hb81⟩ dX9_takesItem_84
        · have hf := if_no hk21_115 hf
          by_cases hk21_116 : v9 = 116
          · have hf := if_of hk21_116 hf
            refine lv_lookup (off := 85) (tgt := 106) hx hb dX9_takesItem_21 (by decide) (by rw [hk21_116]; decide) (by decide) ?_
            refine lv_aload_n hx hb dX9_takesItem_106 rfl (lv_at hl 1 rfl) ?_
            obtain ⟨p107, hp107, hf⟩ := cl_of hf
            refine sg_vi (rest := []) (c_X9_takesTurns hn ha_a hT_a hp107) hc hw hz hml hl ha_a hT_a (by decide) rfl cv_X9_130 ⟨⟨rfl, rfl⟩, Nat.le_trans (Nat.le_of_ble_eq_true rfl) hRf, Nat.le_trans (Nat.le_of_ble_eq_true rfl) hRl⟩ ⟨Nat.zero_le _, Nat.zero_le _⟩ rfl rfl (Nat.le_of_ble_eq_true rfl) dX9_takesItem_107 (fun r h1 H locs hp hw => ?_)
            obtain ⟨⟨e1, e2⟩, hb107⟩ := hp; subst r; subst h1
            cases hf
            exact sg_zret hc hw hz hn0 hr hlocks hb107 ⟨⟨rfl, rfl⟩, hb107⟩ dX9_takesItem_110
          · have hf := if_no hk21_116 hf
            by_cases hk21_120 : v9 = 120
            · have hf := if_of hk21_120 hf
              refine lv_lookup (off := 90) (tgt := 111) hx hb dX9_takesItem_21 (by decide) (by rw [hk21_120]; decide) (by decide) ?_
              refine lv_aload_n hx hb dX9_takesItem_111 rfl (lv_at hl 1 rfl) ?_
              obtain ⟨p112, hp112, hf⟩ := cl_of hf
              refine sg_vi (rest := []) (c_X9_takesPrice hn ha_a hT_a hp112) hc hw hz hml hl ha_a hT_a (by decide) rfl cv_X9_133 ⟨⟨rfl, rfl⟩, Nat.le_trans (Nat.le_of_ble_eq_true rfl) hRf, Nat.le_trans (Nat.le_of_ble_eq_true rfl) hRl⟩ ⟨Nat.zero_le _, Nat.zero_le _⟩ rfl rfl (Nat.le_of_ble_eq_true rfl) dX9_takesItem_112 (fun r h1 H locs hp hw => ?_)
              obtain ⟨⟨e1, e2⟩, hb112⟩ := hp; subst r; subst h1
              cases hf
              exact sg_zret hc hw hz hn0 hr hlocks hb112 ⟨⟨rfl, rfl⟩, hb112⟩ dX9_takesItem_115
            · have hf := if_no hk21_120 hf
              refine lv_lookup (off := 95) (tgt := 116) hx hb dX9_takesItem_21 (by decide) (by simp [Op.lookupswitch.offset, Ne.symm (sg_ne hk21_98 (k := 98) (by decide)), Ne.symm (sg_ne hk21_109 (k := 109) (by decide)), Ne.symm (sg_ne hk21_114 (k := 114) (by decide)), Ne.symm (sg_ne hk21_115 (k := 115) (by decide)), Ne.symm (sg_ne hk21_116 (k := 116) (by decide)), Ne.symm (sg_ne hk21_120 (k := 120) (by decide))]) (by decide) ?_
              refine lv_iconst (v := 0) hx hb dX9_takesItem_116 (by decide) ?_
              cases hf
              exact sg_zret hc hw hz hn0 hr hlocks rfl ⟨⟨rfl, rfl⟩, rfl⟩ dX9_takesItem_117
theorem c_X9_takesItem {l : Launch} {D : va_G} {cA : Nat → ClassId} {b n : Nat} (hn : sg_okN n) {a : Nat} (ha_a : a < n) (hT_a : sg_T a = 9) {h : HP} {Rz : Int32 × HP} (hf : F_X9_takesItem a h = some Rz) : Met l yX9_takesItem (Cond.code yX9_takesItem cX9_takesItem 2 (some .boolean) :: sg_tbl) ({ frames := 3, cells := 0, slots := 0, locals := 73 } : Room) (va_Pc [.ref (b + a)] (sg_Wd D b cA n h)) (va_Qi (fun r u => (r = Rz.1 ∧ u = Rz.2) ∧ narrow .boolean (.int r) = .int r) (sg_Wd D b cA n) (sg_A b)) 0 0 (sg_A b) := by
  refine Met.ofW (cc := cX9_takesItem) (maxL := 2) (ret := (some .boolean)) (by decide) rfl ?_
  intro p e s m args below meth c s₁ B hml hv
  obtain ⟨rfl, hP, hK, hz, hY, hN⟩ := hv
  have hl := lv_entry [.ref (b + a)] (n := 2) (Nat.le_of_ble_eq_true rfl)
  rw [lg_entry_eq]
  exact w_X9_takesItem hn ⟨B.exec, B.bytes, findClass_of_methodNamed B.named, fun w h => atoms_spec (ws := Cond.code yX9_takesItem cX9_takesItem 2 (some .boolean) :: sg_tbl) B.pre w (List.mem_cons_of_mem _ h), hK, hN⟩ hz B.returns B.notSynchronized hml (Nat.le_refl _) (Nat.le_refl _) ha_a hT_a hf _ _ _ ⟨hP, hY, va_S.rf⟩ hl
