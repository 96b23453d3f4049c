set_option maxHeartbeats 4000000 in
set_option maxRecDepth 100000 in
theorem w_X1_twins {p : Program} {l : Launch} {e : Env} {R : Room} {s : State} {m : MethodId} {args : Array Value} {below : List Frame} {meth : Method} {c : Code} {D : va_G} {cA : Nat → ClassId} {b n : Nat} (hn : sg_okN n) {a : Nat} {h : HP} {Rz : Int32} (hc : sg_Cx p s m args c cX1_twins RX1 D cA) (hz : s.heap.size = b + n) (hr : meth.sig.returnType = some .int) (hlocks : meth.locks = false) (hml : c.maxLocals = 3) (hRf : 0 ≤ R.frames) (hRl : 0 ≤ R.locals) (ha_a : a < n) (hT_a : sg_T a = 1) (hf : F_X1_twins a h = some Rz) (H : Heap) (locs : List Loc) (ls : Array Slot) (hw : sg_Wo D b cA n s.heap h H locs) (hl : lv_has ls 3 [(0, .ref (b + a))]) : W p l e R s m args below meth c H locs 0 0 (sg_Qi below args s D b cA n (fun r u => r = Rz ∧ u = h)) (F0 m 0 ls []) := by
  have hx := hc.1
  have hb := hc.2.1
  have hn0 : 0 < n := sg_pos hn
  have L4 : ∀ (k : Nat) (x : (Int32 × Int32)), F_X1_twins_L4 a h k x = some Rz → ∀ (H : Heap) (locs : List Loc) (ls : Array Slot), sg_Wo D b cA n s.heap h H locs → lv_has ls 3 [(0, .ref (b + a)), (1, .int x.1), (2, .int x.2)] → W p l e R s m args below meth c H locs 0 0 (sg_Qi below args s D b cA n (fun r u => r = Rz ∧ u = h)) (F0 m 4 ls []) := by
    unfold F_X1_twins_L4
    refine lp_walk ?_
    intro rc4 hrc4 x hf H locs ls hw hl
    obtain ⟨x1, x2⟩ := x
    dsimp only at hf hw hl
    have J28 : ∀ (x1 : Int32) (x2 : Int32) (H : Heap) (locs : List Loc) (ls : Array Slot), F_X1_twins_J28 a rc4 x1 x2 h = some Rz → sg_Wo D b cA n s.heap h H locs → lv_has ls 3 [(0, .ref (b + a)), (1, .int x1), (2, .int x2)] → W p l e R s m args below meth c H locs 0 0 (sg_Qi below args s D b cA n (fun r u => r = Rz ∧ u = h)) (F0 m 28 ls []) := by
      intro x1 x2 H locs ls hf hw hl
      unfold F_X1_twins_J28 at hf
      refine lv_iinc (v := (x2 + 1)) (lv' := [(2, .int (x2 + 1)), (0, .ref (b + a)), (1, .int x1)]) hx hb dX1_twins_28 hl (k := 2) rfl rfl (by decide) rfl (fun ls hl => ?_)
      refine lv_goto (tgt := 4) hx hb dX1_twins_31 (by decide) ?_
      exact hrc4 _ hf _ _ _ hw (lv_sub hl [1, 2, 0] rfl)
    refine lv_iload_n hx hb dX1_twins_4 rfl (lv_at hl 2 rfl) ?_
    refine lv_aload_n hx hb dX1_twins_5 rfl (lv_at hl 0 rfl) ?_
    refine sg_geti hc hw ha_a hT_a fi_1_2 k_46 dX1_twins_6 ?_
    refine lv_icmp_ge (tgt := 34) hx hb dX1_twins_9 (by decide) (fun c9 => ?_) (fun c9 => ?_)
    · have hf := if_of c9 hf
      refine lv_iload_n hx hb dX1_twins_34 rfl (lv_at hl 1 rfl) ?_
      cases hf
      exact sg_iret hc hw hz hn0 hr hlocks ⟨rfl, rfl⟩ dX1_twins_35
    · have hf := if_no c9 hf
      refine lv_aload_n hx hb dX1_twins_12 rfl (lv_at hl 0 rfl) ?_
      obtain ⟨hF13, hT13, ha13, hN13⟩ := ft_1_9 hn ha_a hT_a
      refine sg_getf (q := (a + 5)) hc hw ha_a hT_a fr_1_9 (by decide) k_65 dX1_twins_13 hF13 ?_
      refine lv_iload_n hx hb dX1_twins_16 rfl (lv_at hl 2 rfl) ?_
      obtain ⟨hg17, hf⟩ := gd_of hf
      refine sg_ild hc hw ha13 hT13 hN13 hg17 dX1_twins_17 ?_
      refine lv_iconst (v := 3) hx hb dX1_twins_18 (by decide) ?_
      refine lv_icmp_ne (tgt := 28) hx hb dX1_twins_19 (by decide) (fun c19 => ?_) (fun c19 => ?_)
      · have hf := if_no c19 hf
        exact J28 x1 x2 _ _ _ hf hw (lv_sub hl [0, 1, 2] rfl)
      · have hf := if_of c19 hf
        refine lv_iload_n hx hb dX1_twins_22 rfl (lv_at hl 1 rfl) ?_
        refine lv_iconst (v := 1) hx hb dX1_twins_23 (by decide) ?_
        refine lv_iload_n hx hb dX1_twins_24 rfl (lv_at hl 2 rfl) ?_
        refine lv_ishl hx hb dX1_twins_25 ?_
        refine lv_ior hx hb dX1_twins_26 ?_
        refine lv_topi (fun v27 e27 => ?_)
        have hf := nm_of e27 hf
        refine lv_istore_n (lv' := [(1, .int v27), (0, .ref (b + a)), (2, .int x2)]) hx hb dX1_twins_27 rfl hl (by decide) rfl (fun ls hl => ?_)
        exact J28 v27 x2 _ _ _ hf hw (lv_sub hl [1, 0, 2] rfl)
  unfold F_X1_twins at hf
  refine lv_iconst (v := 0) hx hb dX1_twins_0 (by decide) ?_
  refine lv_istore_n (lv' := [(1, .int 0), (0, .ref (b + a))]) hx hb dX1_twins_1 rfl hl (by decide) rfl (fun ls hl => ?_)
  refine lv_iconst (v := 0) hx hb dX1_twins_2 (by decide) ?_
  refine lv_istore_n (lv' := [(2, .int 0), (1, .int 0), (0, .ref (b + a))]) hx hb dX1_twins_3 rfl hl (by decide) rfl (fun ls hl => ?_)
  exact L4 _ _ hf _ _ _ hw (lv_sub hl [2, 1, 0] rfl)
theorem c_X1_twins {l : Launch} {D : va_G} {cA : Nat → ClassId} {b n : Nat} (hn : sg_okN n) {a : Nat} (ha_a : a < n) (hT_a : sg_T a = 1) {h : HP} {Rz : Int32} (hf : F_X1_twins a h = some Rz) : Met l yX1_twins (Cond.code yX1_twins cX1_twins 3 (some .int) :: sg_tbl) ({ frames := 0, cells := 0, slots := 0, locals := 0 } : Room) (va_Pc [.ref (b + a)] (sg_Wd D b cA n h)) (va_Qi (fun r u => r = Rz ∧ u = h) (sg_Wd D b cA n) (sg_A b)) 0 0 (sg_A b) := by
  refine Met.ofW (cc := cX1_twins) (maxL := 3) (ret := (some .int)) (by decide) rfl ?_
  intro p e s m args below meth c s₁ B hml hv
  obtain ⟨rfl, hP, hK, hz, hY, hN⟩ := hv
  have hl := lv_entry [.ref (b + a)] (n := 3) (Nat.le_of_ble_eq_true rfl)
  rw [lg_entry_eq]
  exact w_X1_twins hn ⟨B.exec, B.bytes, findClass_of_methodNamed B.named, fun w h => atoms_spec (ws := Cond.code yX1_twins cX1_twins 3 (some .int) :: sg_tbl) B.pre w (List.mem_cons_of_mem _ h), hK, hN⟩ hz B.returns B.notSynchronized hml (Nat.le_refl _) (Nat.le_refl _) ha_a hT_a hf _ _ _ ⟨hP, hY, va_S.rf⟩ hl
set_option maxHeartbeats 4000000 in
set_option maxRecDepth 100000 in
theorem w_X7_begin {p : Program} {l : Launch} {e : Env} {R : Room} {s : State} {m : MethodId} {args : Array Value} {below : List Frame} {meth : Method} {c : Code} {D : va_G} {cA : Nat → ClassId} {b n : Nat} (hn : sg_okN n) {a : Nat} {q1 : Nat} {h : HP} {Rz : HP} (hc : sg_Cx p s m args c cX7_begin RX7 D cA) (hz : s.heap.size = b + n) (hr : meth.sig.returnType = none) (hlocks : meth.locks = false) (hml : c.maxLocals = 3) (hRf : 1 ≤ R.frames) (hRl : 22 ≤ R.locals) (ha_a : a < n) (hT_a : sg_T a = 7) (ha_q1 : q1 < n) (hT_q1 : sg_T q1 = 1) (hf : F_X7_begin a q1 h = some Rz) (H : Heap) (locs : List Loc) (ls : Array Slot) (hw : sg_Wo D b cA n s.heap h H locs) (hl : lv_has ls 3 [(0, .ref (b + a)), (1, .ref (b + q1))]) : W p l e R s m args below meth c H locs 0 0 (sg_Qv below args s D b cA n (fun u => u = Rz)) (F0 m 0 ls []) := by
  have hx := hc.1
  have hb := hc.2.1
  have hn0 : 0 < n := sg_pos hn
  have L39 : ∀ (k : Nat) (x : (Int32 × HP)), F_X7_begin_L39 a q1 k x = some Rz → ∀ (H : Heap) (locs : List Loc) (ls : Array Slot), sg_Wo D b cA n s.heap x.2 H locs → lv_has ls 3 [(0, .ref (b + a)), (1, .ref (b + q1)), (2, .int x.1)] → W p l e R s m args below meth c H locs 0 0 (sg_Qv below args s D b cA n (fun u => u = Rz)) (F0 m 39 ls []) := by
    unfold F_X7_begin_L39
    refine lp_walk ?_
    intro rc39 hrc39 x hf H locs ls hw hl
    obtain ⟨x2, h⟩ := x
    dsimp only at hf hw hl
    refine lv_iload_n hx hb dX7_begin_39 rfl (lv_at hl 2 rfl) ?_
    refine lv_bipush (v := 6) hx hb dX7_begin_40 (by decide) ?_
    refine lv_icmp_ge (tgt := 85) hx hb dX7_begin_42 (by decide) (fun c42 => ?_) (fun c42 => ?_)
    · have hf := if_of c42 hf
      cases hf
      exact sg_vret hc hw hz hn0 hr hlocks rfl dX7_begin_85
    · have hf := if_no c42 hf
      refine lv_aload_n hx hb dX7_begin_45 rfl (lv_at hl 0 rfl) ?_
      obtain ⟨hF46, hT46, ha46, hN46⟩ := ft_7_6 hn ha_a hT_a
      refine sg_getf (q := (a + 1)) hc hw ha_a hT_a fr_7_6 (by decide) k_170 dX7_begin_46 hF46 ?_
      refine lv_iload_n hx hb dX7_begin_49 rfl (lv_at hl 2 rfl) ?_
      refine lv_aload_n hx hb dX7_begin_50 rfl (lv_at hl 1 rfl) ?_
      obtain ⟨hF51, hT51, ha51, hN51⟩ := ft_1_8 hn ha_q1 hT_q1
      refine sg_getf (q := (q1 + 4)) hc hw ha_q1 hT_q1 fr_1_8 (by decide) k_62 dX7_begin_51 hF51 ?_
      refine lv_iload_n hx hb dX7_begin_54 rfl (lv_at hl 2 rfl) ?_
      obtain ⟨hg55, hf⟩ := gd_of hf
      refine sg_ild hc hw ha51 hT51 hN51 hg55 dX7_begin_55 ?_
      obtain ⟨hg56, hf⟩ := gd_of hf
      refine sg_ist hc hw ha46 hT46 hN46 hg56 dX7_begin_56 (fun H locs hw => ?_)
      obtain ⟨h56, hw, hf⟩ := sg_name hw hf
      refine lv_aload_n hx hb dX7_begin_57 rfl (lv_at hl 0 rfl) ?_
      obtain ⟨hF58, hT58, ha58, hN58⟩ := ft_7_7 hn ha_a hT_a
      refine sg_getf (q := (a + 2)) hc hw ha_a hT_a fr_7_7 (by decide) k_172 dX7_begin_58 hF58 ?_
      refine lv_iload_n hx hb dX7_begin_61 rfl (lv_at hl 2 rfl) ?_
      refine lv_bipush (v := (-4)) hx hb dX7_begin_62 (by decide) ?_
      obtain ⟨hg64, hf⟩ := gd_of hf
      refine sg_ist hc hw ha58 hT58 hN58 hg64 dX7_begin_64 (fun H locs hw => ?_)
      obtain ⟨h64, hw, hf⟩ := sg_name hw hf
      refine lv_aload_n hx hb dX7_begin_65 rfl (lv_at hl 0 rfl) ?_
      obtain ⟨hF66, hT66, ha66, hN66⟩ := ft_7_8 hn ha_a hT_a
      refine sg_getf (q := (a + 3)) hc hw ha_a hT_a fr_7_8 (by decide) k_174 dX7_begin_66 hF66 ?_
      refine lv_iload_n hx hb dX7_begin_69 rfl (lv_at hl 2 rfl) ?_
      refine lv_iconst (v := 0) hx hb dX7_begin_70 (by decide) ?_
      obtain ⟨hg71, hf⟩ := gd_of hf
      refine sg_ist hc hw ha66 hT66 hN66 hg71 dX7_begin_71 (fun H locs hw => ?_)
      obtain ⟨h71, hw, hf⟩ := sg_name hw hf
      refine lv_aload_n hx hb dX7_begin_72 rfl (lv_at hl 0 rfl) ?_
      obtain ⟨hF73, hT73, ha73, hN73⟩ := ft_7_9 hn ha_a hT_a
      refine sg_getf (q := (a + 4)) hc hw ha_a hT_a fr_7_9 (by decide) k_176 dX7_begin_73 hF73 ?_
      refine lv_iload_n hx hb dX7_begin_76 rfl (lv_at hl 2 rfl) ?_
      refine lv_iconst (v := 0) hx hb dX7_begin_77 (by decide) ?_
      obtain ⟨hg78, hf⟩ := gd_of hf
      refine sg_ist hc hw ha73 hT73 hN73 hg78 dX7_begin_78 (fun H locs hw => ?_)
      obtain ⟨h78, hw, hf⟩ := sg_name hw hf
      refine lv_iinc (v := (x2 + 1)) (lv' := [(2, .int (x2 + 1)), (0, .ref (b + a)), (1, .ref (b + q1))]) hx hb dX7_begin_79 hl (k := 2) rfl rfl (by decide) rfl (fun ls hl => ?_)
      refine lv_goto (tgt := 39) hx hb dX7_begin_82 (by decide) ?_
      exact hrc39 _ hf _ _ _ hw (lv_sub hl [1, 2, 0] rfl)
  unfold F_X7_begin at hf
  refine lv_aload_n hx hb dX7_begin_0 rfl (lv_at hl 0 rfl) ?_
  refine lv_aload_n hx hb dX7_begin_1 rfl (lv_at hl 1 rfl) ?_
  refine sg_putr hc hw ha_a hT_a ha_q1 hT_q1 k_160 sg_in7 dX7_begin_2 (fun H locs hw => ?_)
  obtain ⟨h2, hw, hf⟩ := sg_name hw hf
  refine lv_aload_n hx hb dX7_begin_5 rfl (lv_at hl 0 rfl) ?_
  refine lv_aload_n hx hb dX7_begin_6 rfl (lv_at hl 1 rfl) ?_
  refine sg_geti hc hw ha_q1 hT_q1 fi_1_3 k_50 dX7_begin_7 ?_
  refine sg_puti hc hw ha_a hT_a fp_7_1 rfl rfl k_161 dX7_begin_10 (fun H locs hw => ?_)
  obtain ⟨h10, hw, hf⟩ := sg_name hw hf
  refine lv_aload_n hx hb dX7_begin_13 rfl (lv_at hl 0 rfl) ?_
  refine lv_iconst (v := (-1)) hx hb dX7_begin_14 (by decide) ?_
  refine sg_puti hc hw ha_a hT_a fp_7_2 rfl rfl k_163 dX7_begin_15 (fun H locs hw => ?_)
  obtain ⟨h15, hw, hf⟩ := sg_name hw hf
  refine lv_aload_n hx hb dX7_begin_18 rfl (lv_at hl 0 rfl) ?_
  refine lv_bipush (v := (-4)) hx hb dX7_begin_19 (by decide) ?_
  refine sg_puti hc hw ha_a hT_a fp_7_3 rfl rfl k_165 dX7_begin_21 (fun H locs hw => ?_)
  obtain ⟨h21, hw, hf⟩ := sg_name hw hf
  refine lv_aload_n hx hb dX7_begin_24 rfl (lv_at hl 0 rfl) ?_
  refine lv_iconst (v := 0) hx hb dX7_begin_25 (by decide) ?_
  refine sg_puti hc hw ha_a hT_a fp_7_4 rfl rfl k_168 dX7_begin_26 (fun H locs hw => ?_)
  obtain ⟨h26, hw, hf⟩ := sg_name hw hf
  refine lv_aload_n hx hb dX7_begin_29 rfl (lv_at hl 0 rfl) ?_
  refine lv_aload_n hx hb dX7_begin_30 rfl (lv_at hl 1 rfl) ?_
  obtain ⟨p31, hp31, hf⟩ := cl_of hf
  refine sg_vi (rest := [.ref (b + a)]) (c_X1_twins hn ha_q1 hT_q1 hp31) hc hw hz hml hl ha_q1 hT_q1 (by decide) rfl cv_X7_50 ⟨⟨rfl, rfl⟩, Nat.le_trans (Nat.le_of_ble_eq_true rfl) hRf, Nat.le_trans (Nat.le_of_ble_eq_true rfl) hRl⟩ ⟨Nat.zero_le _, Nat.zero_le _⟩ rfl rfl (Nat.le_of_ble_eq_true rfl) dX7_begin_31 (fun r h1 H locs hp hw => ?_)
  obtain ⟨e1, e2⟩ := hp; subst r; subst h1
  refine sg_puti hc hw ha_a hT_a fp_7_5 rfl rfl k_169 dX7_begin_34 (fun H locs hw => ?_)
  obtain ⟨h34, hw, hf⟩ := sg_name hw hf
  refine lv_iconst (v := 0) hx hb dX7_begin_37 (by decide) ?_
  refine lv_istore_n (lv' := [(2, .int 0), (0, .ref (b + a)), (1, .ref (b + q1))]) hx hb dX7_begin_38 rfl hl (by decide) rfl (fun ls hl => ?_)
  exact L39 _ _ hf _ _ _ hw (lv_sub hl [1, 2, 0] rfl)
theorem c_X7_begin {l : Launch} {D : va_G} {cA : Nat → ClassId} {b n : Nat} (hn : sg_okN n) {a : Nat} {q1 : Nat} (ha_a : a < n) (hT_a : sg_T a = 7) (ha_q1 : q1 < n) (hT_q1 : sg_T q1 = 1) {h : HP} {Rz : HP} (hf : F_X7_begin a q1 h = some Rz) : Met l yX7_begin (Cond.code yX7_begin cX7_begin 3 none :: sg_tbl) ({ frames := 1, cells := 0, slots := 0, locals := 22 } : Room) (va_Pc [.ref (b + a), .ref (b + q1)] (sg_Wd D b cA n h)) (va_Qv (fun u => u = Rz) (sg_Wd D b cA n) (sg_A b)) 0 0 (sg_A b) := by
  refine Met.ofW (cc := cX7_begin) (maxL := 3) (ret := none) (by decide) rfl ?_
  intro p e s m args below meth c s₁ B hml hv
  obtain ⟨rfl, hP, hK, hz, hY, hN⟩ := hv
  have hl := lv_entry [.ref (b + a), .ref (b + q1)] (n := 3) (Nat.le_of_ble_eq_true rfl)
  rw [lg_entry_eq]
  exact w_X7_begin hn ⟨B.exec, B.bytes, findClass_of_methodNamed B.named, fun w h => atoms_spec (ws := Cond.code yX7_begin cX7_begin 3 none :: sg_tbl) B.pre w (List.mem_cons_of_mem _ h), hK, hN⟩ hz B.returns B.notSynchronized hml (Nat.le_refl _) (Nat.le_refl _) ha_a hT_a ha_q1 hT_q1 hf _ _ _ ⟨hP, hY, va_S.rf⟩ hl
set_option maxHeartbeats 4000000 in
set_option maxRecDepth 100000 in
theorem w_X1_slopeAt {p : Program} {l : Launch} {e : Env} {R : Room} {s : State} {m : MethodId} {args : Array Value} {below : List Frame} {meth : Method} {c : Code} {D : va_G} {cA : Nat → ClassId} {b n : Nat} (hn : sg_okN n) {a : Nat} {x1 : Int32} {h : HP} {Rz : Int32} (hc : sg_Cx p s m args c cX1_slopeAt RX1 D cA) (hz : s.heap.size = b + n) (hr : meth.sig.returnType = some .int) (hlocks : meth.locks = false) (hml : c.maxLocals = 2) (hRf : 0 ≤ R.frames) (hRl : 0 ≤ R.locals) (ha_a : a < n) (hT_a : sg_T a = 1) (hf : F_X1_slopeAt a x1 h = some Rz) (H : Heap) (locs : List Loc) (ls : Array Slot) (hw : sg_Wo D b cA n s.heap h H locs) (hl : lv_has ls 2 [(0, .ref (b + a)), (1, .int x1)]) : W p l e R s m args below meth c H locs 0 0 (sg_Qi below args s D b cA n (fun r u => r = Rz ∧ u = h)) (F0 m 0 ls []) := by
  have hx := hc.1
  have hb := hc.2.1
  have hn0 : 0 < n := sg_pos hn
  unfold F_X1_slopeAt at hf
  refine lv_aload_n hx hb dX1_slopeAt_0 rfl (lv_at hl 0 rfl) ?_
  obtain ⟨hF1, hT1, ha1, hN1⟩ := ft_1_6 hn ha_a hT_a
  refine sg_getf (q := (a + 2)) hc hw ha_a hT_a fr_1_6 (by decide) k_59 dX1_slopeAt_1 hF1 ?_
  refine lv_aload_n hx hb dX1_slopeAt_4 rfl (lv_at hl 0 rfl) ?_
  obtain ⟨hF5, hT5, ha5, hN5⟩ := ft_1_10 hn ha_a hT_a
  refine sg_getf (q := (a + 6)) hc hw ha_a hT_a fr_1_10 (by decide) k_70 dX1_slopeAt_5 hF5 ?_
  refine lv_iload_n hx hb dX1_slopeAt_8 rfl (lv_at hl 1 rfl) ?_
  obtain ⟨hg9, hf⟩ := gd_of hf
  refine sg_ild hc hw ha5 hT5 hN5 hg9 dX1_slopeAt_9 ?_
  obtain ⟨hg10, hf⟩ := gd_of hf
  refine sg_ild hc hw ha1 hT1 hN1 hg10 dX1_slopeAt_10 ?_
  cases hf
  exact sg_iret hc hw hz hn0 hr hlocks ⟨rfl, rfl⟩ dX1_slopeAt_11
theorem c_X1_slopeAt {l : Launch} {D : va_G} {cA : Nat → ClassId} {b n : Nat} (hn : sg_okN n) {a : Nat} {x1 : Int32} (ha_a : a < n) (hT_a : sg_T a = 1) {h : HP} {Rz : Int32} (hf : F_X1_slopeAt a x1 h = some Rz) : Met l yX1_slopeAt (Cond.code yX1_slopeAt cX1_slopeAt 2 (some .int) :: sg_tbl) ({ frames := 0, cells := 0, slots := 0, locals := 0 } : Room) (va_Pc [.ref (b + a), .int x1] (sg_Wd D b cA n h)) (va_Qi (fun r u => r = Rz ∧ u = h) (sg_Wd D b cA n) (sg_A b)) 0 0 (sg_A b) := by
  refine Met.ofW (cc := cX1_slopeAt) (maxL := 2) (ret := (some .int)) (by decide) rfl ?_
  intro p e s m args below meth c s₁ B hml hv
  obtain ⟨rfl, hP, hK, hz, hY, hN⟩ := hv
  have hl := lv_entry [.ref (b + a), .int x1] (n := 2) (Nat.le_of_ble_eq_true rfl)
  rw [lg_entry_eq]
  exact w_X1_slopeAt hn ⟨B.exec, B.bytes, findClass_of_methodNamed B.named, fun w h => atoms_spec (ws := Cond.code yX1_slopeAt cX1_slopeAt 2 (some .int) :: sg_tbl) B.pre w (List.mem_cons_of_mem _ h), hK, hN⟩ hz B.returns B.notSynchronized hml (Nat.le_refl _) (Nat.le_refl _) ha_a hT_a hf _ _ _ ⟨hP, hY, va_S.rf⟩ hl
set_option maxHeartbeats 4000000 in
set_option maxRecDepth 100000 in
theorem w_X7_drawnAt {p : Program} {l : Launch} {e : Env} {R : Room} {s : State} {m : MethodId} {args : Array Value} {below : List Frame} {meth : Method} {c : Code} {D : va_G} {cA : Nat → ClassId} {b n : Nat} (hn : sg_okN n) {a : Nat} {x1 : Int32} {h : HP} {Rz : Int32} (hc : sg_Cx p s m args c cX7_drawnAt RX7 D cA) (hz : s.heap.size = b + n) (hr : meth.sig.returnType = some .int) (hlocks : meth.locks = false) (hml : c.maxLocals = 4) (hRf : 0 ≤ R.frames) (hRl : 0 ≤ R.locals) (ha_a : a < n) (hT_a : sg_T a = 7) (hf : F_X7_drawnAt a x1 h = some Rz) (H : Heap) (locs : List Loc) (ls : Array Slot) (hw : sg_Wo D b cA n s.heap h H locs) (hl : lv_has ls 4 [(0, .ref (b + a)), (1, .int x1)]) : W p l e R s m args below meth c H locs 0 0 (sg_Qi below args s D b cA n (fun r u => r = Rz ∧ u = h)) (F0 m 0 ls []) := by
  have hx := hc.1
  have hb := hc.2.1
  have hn0 : 0 < n := sg_pos hn
  unfold F_X7_drawnAt at hf
  refine lv_aload_n hx hb dX7_drawnAt_0 rfl (lv_at hl 0 rfl) ?_
  refine sg_geti hc hw ha_a hT_a fi_7_2 k_163 dX7_drawnAt_1 ?_
  refine lv_iconst (v := (-1)) hx hb dX7_drawnAt_4 (by decide) ?_
  refine lv_icmp_ne (tgt := 10) hx hb dX7_drawnAt_5 (by decide) (fun c5 => ?_) (fun c5 => ?_)
  · have hf := if_no c5 hf
    refine lv_ldc2 hx hb hc.2.2.1 (hc.2.2.2.1 _ k_487) dX7_drawnAt_10 ?_
    refine lv_aload_n hx hb dX7_drawnAt_13 rfl (lv_at hl 0 rfl) ?_
    refine sg_geti hc hw ha_a hT_a fi_7_2 k_163 dX7_drawnAt_14 ?_
    refine lv_i2l hx hb dX7_drawnAt_17 rfl ?_
    refine lv_lmul hx hb dX7_drawnAt_18 ?_
    refine lv_ldc2 hx hb hc.2.2.1 (hc.2.2.2.1 _ k_488) dX7_drawnAt_19 ?_
    refine lv_iload_n hx hb dX7_drawnAt_22 rfl (lv_at hl 1 rfl) ?_
    refine lv_i2l hx hb dX7_drawnAt_23 rfl ?_
    refine lv_lmul hx hb dX7_drawnAt_24 ?_
    refine lv_ladd hx hb dX7_drawnAt_25 ?_
    refine lv_lconst (v := 1) hx hb dX7_drawnAt_26 (by decide) ?_
    refine lv_ladd hx hb dX7_drawnAt_27 ?_
    refine lv_topl (fun v28 e28 => ?_)
    have hf := nm_of e28 hf
    refine lv_lstore_n (lv' := [(2, .long v28), (0, .ref (b + a)), (1, .int x1)]) hx hb dX7_drawnAt_28 rfl hl (by decide) rfl (fun ls hl => ?_)
    refine lv_lload_n hx hb dX7_drawnAt_29 rfl (lv_at hl 0 rfl) ?_
    refine lv_lload_n hx hb dX7_drawnAt_30 rfl (lv_at hl 0 rfl) ?_
    refine lv_lmul hx hb dX7_drawnAt_31 ?_
    refine lv_ldc2 hx hb hc.2.2.1 (hc.2.2.2.1 _ k_489) dX7_drawnAt_32 ?_
    refine lv_lrem hx hb dX7_drawnAt_35 (by decide) ?_
    refine lv_ldc2 hx hb hc.2.2.1 (hc.2.2.2.1 _ k_490) dX7_drawnAt_36 ?_
    refine lv_lrem hx hb dX7_drawnAt_39 (by decide) ?_
    refine lv_l2i hx hb dX7_drawnAt_40 rfl ?_
    cases hf
    exact sg_iret hc hw hz hn0 hr hlocks ⟨rfl, rfl⟩ dX7_drawnAt_41
  · have hf := if_of c5 hf
    refine lv_iconst (v := 0) hx hb dX7_drawnAt_8 (by decide) ?_
    cases hf
    exact sg_iret hc hw hz hn0 hr hlocks ⟨rfl, rfl⟩ dX7_drawnAt_9
theorem c_X7_drawnAt {l : Launch} {D : va_G} {cA : Nat → ClassId} {b n : Nat} (hn : sg_okN n) {a : Nat} {x1 : Int32} (ha_a : a < n) (hT_a : sg_T a = 7) {h : HP} {Rz : Int32} (hf : F_X7_drawnAt a x1 h = some Rz) : Met l yX7_drawnAt (Cond.code yX7_drawnAt cX7_drawnAt 4 (some .int) :: sg_tbl) ({ frames := 0, cells := 0, slots := 0, locals := 0 } : Room) (va_Pc [.ref (b + a), .int x1] (sg_Wd D b cA n h)) (va_Qi (fun r u => r = Rz ∧ u = h) (sg_Wd D b cA n) (sg_A b)) 0 0 (sg_A b) := by
  refine Met.ofW (cc := cX7_drawnAt) (maxL := 4) (ret := (some .int)) (by decide) rfl ?_
  intro p e s m args below meth c s₁ B hml hv
  obtain ⟨rfl, hP, hK, hz, hY, hN⟩ := hv
  have hl := lv_entry [.ref (b + a), .int x1] (n := 4) (Nat.le_of_ble_eq_true rfl)
  rw [lg_entry_eq]
  exact w_X7_drawnAt hn ⟨B.exec, B.bytes, findClass_of_methodNamed B.named, fun w h => atoms_spec (ws := Cond.code yX7_drawnAt cX7_drawnAt 4 (some .int) :: sg_tbl) B.pre w (List.mem_cons_of_mem _ h), hK, hN⟩ hz B.returns B.notSynchronized hml (Nat.le_refl _) (Nat.le_refl _) ha_a hT_a hf _ _ _ ⟨hP, hY, va_S.rf⟩ hl
set_option maxHeartbeats 4000000 in
set_option maxRecDepth 100000 in
theorem w_J6_bitCount_0f7a4 {p : Program} {l : Launch} {e : Env} {R : Room} {s : State} {m : MethodId} {args : Array Value} {below : List Frame} {meth : Method} {c : Code} {D : va_G} {cA : Nat → ClassId} {b n : Nat} (hn : sg_okN n) {x0 : Int32} {h : HP} {Rz : Int32} (hc : sg_Cx p s m args c cJ6_bitCount_0f7a4 RJ6 D cA) (hz : s.heap.size = b + n) (hr : meth.sig.returnType = some .int) (hlocks : meth.locks = false) (hml : c.maxLocals = 1) (hRf : 0 ≤ R.frames) (hRl : 0 ≤ R.locals) (hf : F_J6_bitCount_0f7a4 x0 = some Rz) (H : Heap) (locs : List Loc) (ls : Array Slot) (hw : sg_Wo D b cA n s.heap h H locs) (hl : lv_has ls 1 [(0, .int x0)]) : W p l e R s m args below meth c H locs 0 0 (sg_Qi below args s D b cA n (fun r u => r = Rz ∧ u = h)) (F0 m 0 ls []) := by
  have hx := hc.1
  have hb := hc.2.1
  have hn0 : 0 < n := sg_pos hn
  unfold F_J6_bitCount_0f7a4 at hf
  refine lv_iload_n hx hb dJ6_bitCount_0f7a4_0 rfl (lv_at hl 0 rfl) ?_
  refine lv_iload_n hx hb dJ6_bitCount_0f7a4_1 rfl (lv_at hl 0 rfl) ?_
  refine lv_iconst (v := 1) hx hb dJ6_bitCount_0f7a4_2 (by decide) ?_
  refine lv_iushr hx hb dJ6_bitCount_0f7a4_3 rfl ?_
  refine lv_ldcw hx hb hc.2.2.1 (hc.2.2.2.1 _ k_498) dJ6_bitCount_0f7a4_4 ?_
  refine lv_iand hx hb dJ6_bitCount_0f7a4_7 ?_
  refine lv_isub hx hb dJ6_bitCount_0f7a4_8 ?_
  refine lv_topi (fun v9 e9 => ?_)
  have hf := nm_of e9 hf
  refine lv_istore_n (lv' := [(0, .int v9)]) hx hb dJ6_bitCount_0f7a4_9 rfl hl (by decide) rfl (fun ls hl => ?_)
  refine lv_iload_n hx hb dJ6_bitCount_0f7a4_10 rfl (lv_at hl 0 rfl) ?_
  refine lv_ldcw hx hb hc.2.2.1 (hc.2.2.2.1 _ k_499) dJ6_bitCount_0f7a4_11 ?_
  refine lv_iand hx hb dJ6_bitCount_0f7a4_14 ?_
  refine lv_iload_n hx hb dJ6_bitCount_0f7a4_15 rfl (lv_at hl 0 rfl) ?_
  refine lv_iconst (v := 2) hx hb dJ6_bitCount_0f7a4_16 (by decide) ?_
  refine lv_iushr hx hb dJ6_bitCount_0f7a4_17 rfl ?_
  refine lv_ldcw hx hb hc.2.2.1 (hc.2.2.2.1 _ k_499) dJ6_bitCount_0f7a4_18 ?_
  refine lv_iand hx hb dJ6_bitCount_0f7a4_21 ?_
  refine lv_iadd hx hb dJ6_bitCount_0f7a4_22 ?_
  refine lv_topi (fun v23 e23 => ?_)
  have hf := nm_of e23 hf
  refine lv_istore_n (lv' := [(0, .int v23)]) hx hb dJ6_bitCount_0f7a4_23 rfl hl (by decide) rfl (fun ls hl => ?_)
  refine lv_iload_n hx hb dJ6_bitCount_0f7a4_24 rfl (lv_at hl 0 rfl) ?_
  refine lv_iload_n hx hb dJ6_bitCount_0f7a4_25 rfl (lv_at hl 0 rfl) ?_
  refine lv_iconst (v := 4) hx hb dJ6_bitCount_0f7a4_26 (by decide) ?_
  refine lv_iushr hx hb dJ6_bitCount_0f7a4_27 rfl ?_
  refine lv_iadd hx hb dJ6_bitCount_0f7a4_28 ?_
  refine lv_ldcw hx hb hc.2.2.1 (hc.2.2.2.1 _ k_500) dJ6_bitCount_0f7a4_29 ?_
  refine lv_iand hx hb dJ6_bitCount_0f7a4_32 ?_
  refine lv_topi (fun v33 e33 => ?_)
  have hf := nm_of e33 hf
  refine lv_istore_n (lv' := [(0, .int v33)]) hx hb dJ6_bitCount_0f7a4_33 rfl hl (by decide) rfl (fun ls hl => ?_)
  refine lv_iload_n hx hb dJ6_bitCount_0f7a4_34 rfl (lv_at hl 0 rfl) ?_
  refine lv_iload_n hx hb dJ6_bitCount_0f7a4_35 rfl (lv_at hl 0 rfl) ?_
  refine lv_bipush (v := 8) hx hb dJ6_bitCount_0f7a4_36 (by decide) ?_
  refine lv_iushr hx hb dJ6_bitCount_0f7a4_38 rfl ?_
  refine lv_iadd hx hb dJ6_bitCount_0f7a4_39 ?_
  refine lv_topi (fun v40 e40 => ?_)
  have hf := nm_of e40 hf
  refine lv_istore_n (lv' := [(0, .int v40)]) hx hb dJ6_bitCount_0f7a4_40 rfl hl (by decide) rfl (fun ls hl => ?_)
  refine lv_iload_n hx hb dJ6_bitCount_0f7a4_41 rfl (lv_at hl 0 rfl) ?_
  refine lv_iload_n hx hb dJ6_bitCount_0f7a4_42 rfl (lv_at hl 0 rfl) ?_
  refine lv_bipush (v := 16) hx hb dJ6_bitCount_0f7a4_43 (by decide) ?_
  refine lv_iushr hx hb dJ6_bitCount_0f7a4_45 rfl ?_
  refine lv_iadd hx hb dJ6_bitCount_0f7a4_46 ?_
  refine lv_topi (fun v47 e47 => ?_)
  have hf := nm_of e47 hf
  refine lv_istore_n (lv' := [(0, .int v47)]) hx hb dJ6_bitCount_0f7a4_47 rfl hl (by decide) rfl (fun ls hl => ?_)
  refine lv_iload_n hx hb dJ6_bitCount_0f7a4_48 rfl (lv_at hl 0 rfl) ?_
  refine lv_bipush (v := 63) hx hb dJ6_bitCount_0f7a4_49 (by decide) ?_
  refine lv_iand hx hb dJ6_bitCount_0f7a4_51 ?_
  cases hf
  exact sg_iret hc hw hz hn0 hr hlocks ⟨rfl, rfl⟩ dJ6_bitCount_0f7a4_52
theorem c_J6_bitCount_0f7a4 {l : Launch} {D : va_G} {cA : Nat → ClassId} {b n : Nat} (hn : sg_okN n) {x0 : Int32} {h : HP} {Rz : Int32} (hf : F_J6_bitCount_0f7a4 x0 = some Rz) : Met l yJ6_bitCount_0f7a4 (Cond.code yJ6_bitCount_0f7a4 cJ6_bitCount_0f7a4 1 (some .int) :: sg_tbl) ({ frames := 0, cells := 0, slots := 0, locals := 0 } : Room) (va_Pc [.int x0] (sg_Wd D b cA n h)) (va_Qi (fun r u => r = Rz ∧ u = h) (sg_Wd D b cA n) (sg_A b)) 0 0 (sg_A b) := by
  refine Met.ofW (cc := cJ6_bitCount_0f7a4) (maxL := 1) (ret := (some .int)) (by decide) rfl ?_
  intro p e s m args below meth c s₁ B hml hv
  obtain ⟨rfl, hP, hK, hz, hY, hN⟩ := hv
  have hl := lv_entry [.int x0] (n := 1) (Nat.le_of_ble_eq_true rfl)
  rw [lg_entry_eq]
  exact w_J6_bitCount_0f7a4 hn ⟨B.exec, B.bytes, findClass_of_methodNamed B.named, fun w h => atoms_spec (ws := Cond.code yJ6_bitCount_0f7a4 cJ6_bitCount_0f7a4 1 (some .int) :: sg_tbl) B.pre w (List.mem_cons_of_mem _ h), hK, hN⟩ hz B.returns B.notSynchronized hml (Nat.le_refl _) (Nat.le_refl _) hf _ _ _ ⟨hP, hY, va_S.rf⟩ hl
set_option maxHeartbeats 4000000 in
set_option maxRecDepth 100000 in
theorem w_X8_isIn {p : Program} {l : Launch} {e : Env} {R : Room} {s : State} {m : MethodId} {args : Array Value} {below : List Frame} {meth : Method} {c : Code} {D : va_G} {cA : Nat → ClassId} {b n : Nat} (hn : sg_okN n) {x0 : Int32} {x1 : Int32} {h : HP} {Rz : Int32} (hc : sg_Cx p s m args c cX8_isIn RX8 D cA) (hz : s.heap.size = b + n) (hr : meth.sig.returnType = some .boolean) (hlocks : meth.locks = false) (hml : c.maxLocals = 2) (hRf : 0 ≤ R.frames) (hRl : 0 ≤ R.locals) (hf : F_X8_isIn x0 x1 = some Rz) (H : Heap) (locs : List Loc) (ls : Array Slot) (hw : sg_Wo D b cA n s.heap h H locs) (hl : lv_has ls 2 [(0, .int x0), (1, .int x1)]) : W p l e R s m args below meth c H locs 0 0 (sg_Qi below args s D b cA n (fun r u => (r = Rz ∧ u = h) ∧ narrow .boolean (.int r) = .int r)) (F0 m 0 ls []) := by
  have hx := hc.1
  have hb := hc.2.1
  have hn0 : 0 < n := sg_pos hn
  unfold F_X8_isIn at hf
  refine lv_iload_n hx hb dX8_isIn_0 rfl (lv_at hl 1 rfl) ?_
  refine lv_iload_n hx hb dX8_isIn_1 rfl (lv_at hl 0 rfl) ?_
  refine lv_ishr hx hb dX8_isIn_2 ?_
  refine lv_iconst (v := 1) hx hb dX8_isIn_3 (by decide) ?_
  refine lv_iand hx hb dX8_isIn_4 ?_
  refine lv_if_eq (tgt := 12) hx hb dX8_isIn_5 (by decide) (fun c5 => ?_) (fun c5 => ?_)
  · have hf := if_of c5 hf
    refine lv_iconst (v := 0) hx hb dX8_isIn_12 (by decide) ?_
    cases hf
    exact sg_zret hc hw hz hn0 hr hlocks rfl ⟨⟨rfl, rfl⟩, rfl⟩ dX8_isIn_13
  · have hf := if_no c5 hf
    refine lv_iconst (v := 1) hx hb dX8_isIn_8 (by decide) ?_
    refine lv_goto (tgt := 13) hx hb dX8_isIn_9 (by decide) ?_
    cases hf
    exact sg_zret hc hw hz hn0 hr hlocks rfl ⟨⟨rfl, rfl⟩, rfl⟩ dX8_isIn_13
theorem c_X8_isIn {l : Launch} {D : va_G} {cA : Nat → ClassId} {b n : Nat} (hn : sg_okN n) {x0 : Int32} {x1 : Int32} {h : HP} {Rz : Int32} (hf : F_X8_isIn x0 x1 = some Rz) : Met l yX8_isIn (Cond.code yX8_isIn cX8_isIn 2 (some .boolean) :: sg_tbl) ({ frames := 0, cells := 0, slots := 0, locals := 0 } : Room) (va_Pc [.int x0, .int x1] (sg_Wd D b cA n h)) (va_Qi (fun r u => (r = Rz ∧ u = h) ∧ narrow .boolean (.int r) = .int r) (sg_Wd D b cA n) (sg_A b)) 0 0 (sg_A b) := by
  refine Met.ofW (cc := cX8_isIn) (maxL := 2) (ret := (some .boolean)) (by decide) rfl ?_
  intro p e s m args below meth c s₁ B hml hv
  obtain ⟨rfl, hP, hK, hz, hY, hN⟩ := hv
  have hl := lv_entry [.int x0, .int x1] (n := 2) (Nat.le_of_ble_eq_true rfl)
  rw [lg_entry_eq]
  exact w_X8_isIn hn ⟨B.exec, B.bytes, findClass_of_methodNamed B.named, fun w h => atoms_spec (ws := Cond.code yX8_isIn cX8_isIn 2 (some .boolean) :: sg_tbl) B.pre w (List.mem_cons_of_mem _ h), hK, hN⟩ hz B.returns B.notSynchronized hml (Nat.le_refl _) (Nat.le_refl _) hf _ _ _ ⟨hP, hY, va_S.rf⟩ hl
set_option maxHeartbeats 4000000 in
set_option maxRecDepth 100000 in
theorem w_X8_toll {p : Program} {l : Launch} {e : Env} {R : Room} {s : State} {m : MethodId} {args : Array Value} {below : List Frame} {meth : Method} {c : Code} {D : va_G} {cA : Nat → ClassId} {b n : Nat} (hn : sg_okN n) {x0 : Int32} {x1 : Int32} {x2 : Int32} {x3 : Int32} {h : HP} {Rz : Int32} (hc : sg_Cx p s m args c cX8_toll RX8 D cA) (hz : s.heap.size = b + n) (hr : meth.sig.returnType = some .int) (hlocks : meth.locks = false) (hml : c.maxLocals = 6) (hRf : 0 ≤ R.frames) (hRl : 0 ≤ R.locals) (hf : F_X8_toll x0 x1 x2 x3 = some Rz) (H : Heap) (locs : List Loc) (ls : Array Slot) (hw : sg_Wo D b cA n s.heap h H locs) (hl : lv_has ls 6 [(0, .int x0), (1, .int x1), (2, .int x2), (3, .int x3)]) : W p l e R s m args below meth c H locs 0 0 (sg_Qi below args s D b cA n (fun r u => r = Rz ∧ u = h)) (F0 m 0 ls []) := by
  have hx := hc.1
  have hb := hc.2.1
  have hn0 : 0 < n := sg_pos hn
  have J45 : ∀ (s0 : Int32) (H : Heap) (locs : List Loc) (ls : Array Slot), F_X8_toll_J45 s0 = some Rz → sg_Wo D b cA n s.heap h H locs → lv_has ls 6 [] → W p l e R s m args below meth c H locs 0 0 (sg_Qi below args s D b cA n (fun r u => r = Rz ∧ u = h)) (F0 m 45 ls [.int s0]) := by
    intro s0 H locs ls hf hw hl
    unfold F_X8_toll_J45 at hf
    refine lv_istore (lv' := [(5, .int s0)]) hx hb dX8_toll_45 hl (by decide) rfl (fun ls hl => ?_)
    refine lv_iload hx hb dX8_toll_47 (lv_at hl 0 rfl) ?_
    refine lv_iconst (v := 1) hx hb dX8_toll_49 (by decide) ?_
    refine lv_icmp_ge (tgt := 57) hx hb dX8_toll_50 (by decide) (fun c50 => ?_) (fun c50 => ?_)
    · have hf := if_of c50 hf
      refine lv_iload hx hb dX8_toll_57 (lv_at hl 0 rfl) ?_
      cases hf
      exact sg_iret hc hw hz hn0 hr hlocks ⟨rfl, rfl⟩ dX8_toll_59
    · have hf := if_no c50 hf
      refine lv_iconst (v := 1) hx hb dX8_toll_53 (by decide) ?_
      refine lv_goto (tgt := 59) hx hb dX8_toll_54 (by decide) ?_
      cases hf
      exact sg_iret hc hw hz hn0 hr hlocks ⟨rfl, rfl⟩ dX8_toll_59
  have J31 : ∀ (x4 : Int32) (H : Heap) (locs : List Loc) (ls : Array Slot), F_X8_toll_J31 x2 x4 = some Rz → sg_Wo D b cA n s.heap h H locs → lv_has ls 6 [(2, .int x2), (4, .int x4)] → W p l e R s m args below meth c H locs 0 0 (sg_Qi below args s D b cA n (fun r u => r = Rz ∧ u = h)) (F0 m 31 ls []) := by
    intro x4 H locs ls hf hw hl
    unfold F_X8_toll_J31 at hf
    refine lv_iload_n hx hb dX8_toll_31 rfl (lv_at hl 0 rfl) ?_
    refine lv_iconst (v := 1) hx hb dX8_toll_32 (by decide) ?_
    refine lv_icmp_le (tgt := 43) hx hb dX8_toll_33 (by decide) (fun c33 => ?_) (fun c33 => ?_)
    · have hf := if_of c33 hf
      refine lv_iload hx hb dX8_toll_43 (lv_at hl 1 rfl) ?_
      exact J45 x4 _ _ _ hf hw (lv_sub hl [] rfl)
    · have hf := if_no c33 hf
      refine lv_iload hx hb dX8_toll_36 (lv_at hl 1 rfl) ?_
      refine lv_iload_n hx hb dX8_toll_38 rfl (lv_at hl 0 rfl) ?_
      obtain ⟨hg39, hf⟩ := gz_of hf
      refine lv_idiv hx hb dX8_toll_39 hg39 ?_
      refine lv_goto (tgt := 45) hx hb dX8_toll_40 (by decide) ?_
      exact J45 (x4 / x2) _ _ _ hf hw (lv_sub hl [] rfl)
  unfold F_X8_toll at hf
  refine lv_iload_n hx hb dX8_toll_0 rfl (lv_at hl 0 rfl) ?_
  refine lv_istore (lv' := [(4, .int x0), (0, .int x0), (1, .int x1), (2, .int x2), (3, .int x3)]) hx hb dX8_toll_1 hl (by decide) rfl (fun ls hl => ?_)
  refine lv_iload_n hx hb dX8_toll_3 rfl (lv_at hl 2 rfl) ?_
  refine lv_iconst (v := 1) hx hb dX8_toll_4 (by decide) ?_
  refine lv_icmp_ne (tgt := 16) hx hb dX8_toll_5 (by decide) (fun c5 => ?_) (fun c5 => ?_)
  · have hf := if_no c5 hf
    refine lv_iload_n hx hb dX8_toll_16 rfl (lv_at hl 2 rfl) ?_
    refine lv_iconst (v := 3) hx hb dX8_toll_17 (by decide) ?_
    refine lv_icmp_ne (tgt := 31) hx hb dX8_toll_18 (by decide) (fun c18 => ?_) (fun c18 => ?_)
    · have hf := if_no c18 hf
      exact J31 x0 _ _ _ hf hw (lv_sub hl [3, 0] rfl)
    · have hf := if_of c18 hf
      refine lv_iload_n hx hb dX8_toll_21 rfl (lv_at hl 4 rfl) ?_
      refine lv_iconst (v := 1) hx hb dX8_toll_22 (by decide) ?_
      refine lv_icmp_le (tgt := 31) hx hb dX8_toll_23 (by decide) (fun c23 => ?_) (fun c23 => ?_)
      · have hf := if_of c23 hf
        exact J31 x0 _ _ _ hf hw (lv_sub hl [3, 0] rfl)
      · have hf := if_no c23 hf
        refine lv_iload_n hx hb dX8_toll_26 rfl (lv_at hl 1 rfl) ?_
        refine lv_iconst (v := 1) hx hb dX8_toll_27 (by decide) ?_
        refine lv_isub hx hb dX8_toll_28 ?_
        refine lv_topi (fun v29 e29 => ?_)
        have hf := nm_of e29 hf
        refine lv_istore (lv' := [(4, .int v29), (0, .int x0), (1, .int x1), (2, .int x2), (3, .int x3)]) hx hb dX8_toll_29 hl (by decide) rfl (fun ls hl => ?_)
        exact J31 v29 _ _ _ hf hw (lv_sub hl [3, 0] rfl)
  · have hf := if_of c5 hf
    refine lv_iconst (v := 2) hx hb dX8_toll_8 (by decide) ?_
    refine lv_iload_n hx hb dX8_toll_9 rfl (lv_at hl 1 rfl) ?_
    refine lv_imul hx hb dX8_toll_10 ?_
    refine lv_topi (fun v11 e11 => ?_)
    have hf := nm_of e11 hf
    refine lv_istore (lv' := [(4, .int v11), (0, .int x0), (1, .int x1), (2, .int x2), (3, .int x3)]) hx hb dX8_toll_11 hl (by decide) rfl (fun ls hl => ?_)
    refine lv_goto (tgt := 31) hx hb dX8_toll_13 (by decide) ?_
    exact J31 v11 _ _ _ hf hw (lv_sub hl [3, 0] rfl)
theorem c_X8_toll {l : Launch} {D : va_G} {cA : Nat → ClassId} {b n : Nat} (hn : sg_okN n) {x0 : Int32} {x1 : Int32} {x2 : Int32} {x3 : Int32} {h : HP} {Rz : Int32} (hf : F_X8_toll x0 x1 x2 x3 = some Rz) : Met l yX8_toll (Cond.code yX8_toll cX8_toll 6 (some .int) :: sg_tbl) ({ frames := 0, cells := 0, slots := 0, locals := 0 } : Room) (va_Pc [.int x0, .int x1, .int x2, .int x3] (sg_Wd D b cA n h)) (va_Qi (fun r u => r = Rz ∧ u = h) (sg_Wd D b cA n) (sg_A b)) 0 0 (sg_A b) := by
  refine Met.ofW (cc := cX8_toll) (maxL := 6) (ret := (some .int)) (by decide) rfl ?_
  intro p e s m args below meth c s₁ B hml hv
  obtain ⟨rfl, hP, hK, hz, hY, hN⟩ := hv
  have hl := lv_entry [.int x0, .int x1, .int x2, .int x3] (n := 6) (Nat.le_of_ble_eq_true rfl)
  rw [lg_entry_eq]
  exact w_X8_toll hn ⟨B.exec, B.bytes, findClass_of_methodNamed B.named, fun w h => atoms_spec (ws := Cond.code yX8_toll cX8_toll 6 (some .int) :: sg_tbl) B.pre w (List.mem_cons_of_mem _ h), hK, hN⟩ hz B.returns B.notSynchronized hml (Nat.le_refl _) (Nat.le_refl _) hf _ _ _ ⟨hP, hY, va_S.rf⟩ hl
set_option maxHeartbeats 4000000 in
set_option maxRecDepth 100000 in
theorem w_X7_setCosts {p : Program} {l : Launch} {e : Env} {R : Room} {s : State} {m : MethodId} {args : Array Value} {below : List Frame} {meth : Method} {c : Code} {D : va_G} {cA : Nat → ClassId} {b n : Nat} (hn : sg_okN n) {a : Nat} {x1 : Int32} {x2 : Int32} {h : HP} {Rz : HP} (hc : sg_Cx p s m args c cX7_setCosts RX7 D cA) (hz : s.heap.size = b + n) (hr : meth.sig.returnType = none) (hlocks : meth.locks = false) (hml : c.maxLocals = 6) (hRf : 1 ≤ R.frames) (hRl : 25 ≤ R.locals) (ha_a : a < n) (hT_a : sg_T a = 7) (hf : F_X7_setCosts a x1 x2 h = some Rz) (H : Heap) (locs : List Loc) (ls : Array Slot) (hw : sg_Wo D b cA n s.heap h H locs) (hl : lv_has ls 6 [(0, .ref (b + a)), (1, .int x1), (2, .int x2)]) : W p l e R s m args below meth c H locs 0 0 (sg_Qv below args s D b cA n (fun u => u = Rz)) (F0 m 0 ls []) := by
  have hx := hc.1
  have hb := hc.2.1
  have hn0 : 0 < n := sg_pos hn
  have L19 : ∀ (x3 : Int32) (x4 : Int32) (k : Nat) (x : (Int32 × HP)), F_X7_setCosts_L19 a x1 x2 x3 x4 k x = some Rz → ∀ (H : Heap) (locs : List Loc) (ls : Array Slot), sg_Wo D b cA n s.heap x.2 H locs → lv_has ls 6 [(0, .ref (b + a)), (1, .int x1), (2, .int x2), (3, .int x3), (4, .int x4), (5, .int x.1)] → W p l e R s m args below meth c H locs 0 0 (sg_Qv below args s D b cA n (fun u => u = Rz)) (F0 m 19 ls []) := by
    intro x3 x4
    unfold F_X7_setCosts_L19
    refine lp_walk ?_
    intro rc19 hrc19 x hf H locs ls hw hl
    obtain ⟨x5, h⟩ := x
    dsimp only at hf hw hl
    have J64 : ∀ (x5 : Int32) (h : HP) (H : Heap) (locs : List Loc) (ls : Array Slot), F_X7_setCosts_J64 a rc19 x1 x2 x3 x4 x5 h = some Rz → sg_Wo D b cA n s.heap h H locs → lv_has ls 6 [(0, .ref (b + a)), (1, .int x1), (2, .int x2), (3, .int x3), (4, .int x4), (5, .int x5)] → W p l e R s m args below meth c H locs 0 0 (sg_Qv below args s D b cA n (fun u => u = Rz)) (F0 m 64 ls []) := by
      intro x5 h H locs ls hf hw hl
      unfold F_X7_setCosts_J64 at hf
      refine lv_iinc (v := (x5 + 1)) (lv' := [(5, .int (x5 + 1)), (0, .ref (b + a)), (1, .int x1), (2, .int x2), (3, .int x3), (4, .int x4)]) hx hb dX7_setCosts_64 hl (k := 5) rfl rfl (by decide) rfl (fun ls hl => ?_)
      refine lv_goto (tgt := 19) hx hb dX7_setCosts_67 (by decide) ?_
      exact hrc19 _ hf _ _ _ hw (lv_sub hl [1, 2, 3, 4, 5, 0] rfl)
    refine lv_iload hx hb dX7_setCosts_19 (lv_at hl 5 rfl) ?_
    refine lv_aload_n hx hb dX7_setCosts_21 rfl (lv_at hl 0 rfl) ?_
    obtain ⟨hg22, hf⟩ := gn_of hf
    obtain ⟨ha22, hT22⟩ := (hw.2.1 _ ha_a).2.1 hT_a hg22
    obtain ⟨q22, hq22, ha22, hT22, hf⟩ := sg_nq hg22 ha22 hT22 hf
    refine sg_getr hc hw ha_a hT_a fr_7_0 k_160 dX7_setCosts_22 hq22 ?_
    refine sg_geti hc hw ha22 hT22 fi_1_2 k_48 dX7_setCosts_25 ?_
    refine lv_icmp_ge (tgt := 70) hx hb dX7_setCosts_28 (by decide) (fun c28 => ?_) (fun c28 => ?_)
    · have hf := if_of c28 hf
      cases hf
      exact sg_vret hc hw hz hn0 hr hlocks rfl dX7_setCosts_70
    · have hf := if_no c28 hf
      refine lv_iload hx hb dX7_setCosts_31 (lv_at hl 5 rfl) ?_
      refine lv_iload_n hx hb dX7_setCosts_33 rfl (lv_at hl 1 rfl) ?_
      obtain ⟨p34, hp34, hf⟩ := cl_of hf
      refine sg_ni (rest := []) (c_X8_isIn hn (h := h) hp34) hc hw hz hn0 hml hl cn_X7_103 ⟨⟨rfl, rfl⟩, Nat.le_trans (Nat.le_of_ble_eq_true rfl) hRf, Nat.le_trans (Nat.le_of_ble_eq_true rfl) hRl⟩ ⟨Nat.zero_le _, Nat.zero_le _⟩ rfl rfl (Nat.le_of_ble_eq_true rfl) dX7_setCosts_34 (fun r h1 H locs hp hw => ?_)
      obtain ⟨⟨e1, e2⟩, hb34⟩ := hp; subst r; subst h1
      refine lv_if_eq (tgt := 64) hx hb dX7_setCosts_37 (by decide) (fun c37 => ?_) (fun c37 => ?_)
      · have hf := if_of c37 hf
        exact J64 x5 _ _ _ _ hf hw (lv_sub hl [0, 1, 2, 3, 4, 5] rfl)
      · have hf := if_no c37 hf
        refine lv_aload_n hx hb dX7_setCosts_40 rfl (lv_at hl 0 rfl) ?_
        obtain ⟨hF41, hT41, ha41, hN41⟩ := ft_7_11 hn ha_a hT_a
        refine sg_getf (q := (a + 6)) hc hw ha_a hT_a fr_7_11 (by decide) k_179 dX7_setCosts_41 hF41 ?_
        refine lv_iload hx hb dX7_setCosts_44 (lv_at hl 5 rfl) ?_
        refine lv_iload_n hx hb dX7_setCosts_46 rfl (lv_at hl 2 rfl) ?_
        refine lv_aload_n hx hb dX7_setCosts_47 rfl (lv_at hl 0 rfl) ?_
        obtain ⟨hg48, hf⟩ := gn_of hf
        obtain ⟨ha48, hT48⟩ := (hw.2.1 _ ha_a).2.1 hT_a hg48
        obtain ⟨q48, hq48, ha48, hT48, hf⟩ := sg_nq hg48 ha48 hT48 hf
        refine sg_getr hc hw ha_a hT_a fr_7_0 k_160 dX7_setCosts_48 hq48 ?_
        obtain ⟨hF51, hT51, ha51, hN51⟩ := ft_1_9 hn ha48 hT48
        refine sg_getf (q := (q48 + 5)) hc hw ha48 hT48 fr_1_9 (by decide) k_68 dX7_setCosts_51 hF51 ?_
        refine lv_iload hx hb dX7_setCosts_54 (lv_at hl 5 rfl) ?_
        obtain ⟨hg56, hf⟩ := gd_of hf
        refine sg_ild hc hw ha51 hT51 hN51 hg56 dX7_setCosts_56 ?_
        refine lv_iload_n hx hb dX7_setCosts_57 rfl (lv_at hl 3 rfl) ?_
        refine lv_iload hx hb dX7_setCosts_58 (lv_at hl 4 rfl) ?_
        obtain ⟨p60, hp60, hf⟩ := cl_of hf
        refine sg_ni (rest := [.int x5, .ref (b + (a + 6))]) (c_X8_toll hn (h := h) hp60) hc hw hz hn0 hml hl cn_X7_110 ⟨⟨rfl, rfl⟩, Nat.le_trans (Nat.le_of_ble_eq_true rfl) hRf, Nat.le_trans (Nat.le_of_ble_eq_true rfl) hRl⟩ ⟨Nat.zero_le _, Nat.zero_le _⟩ rfl rfl (Nat.le_of_ble_eq_true rfl) dX7_setCosts_60 (fun r h1 H locs hp hw => ?_)
        obtain ⟨e1, e2⟩ := hp; subst r; subst h1
        obtain ⟨hg63, hf⟩ := gd_of hf
        refine sg_ist hc hw ha41 hT41 hN41 hg63 dX7_setCosts_63 (fun H locs hw => ?_)
        obtain ⟨h63, hw, hf⟩ := sg_name hw hf
        exact J64 x5 _ _ _ _ hf hw (lv_sub hl [0, 1, 2, 3, 4, 5] rfl)
  unfold F_X7_setCosts at hf
  refine lv_iload_n hx hb dX7_setCosts_0 rfl (lv_at hl 1 rfl) ?_
  obtain ⟨p1, hp1, hf⟩ := cl_of hf
  refine sg_si (rest := []) (c_J6_bitCount_0f7a4 hn (h := h) hp1) hc hw hz hn0 hml hl cs_X7_89 ⟨⟨rfl, rfl⟩, Nat.le_trans (Nat.le_of_ble_eq_true rfl) hRf, Nat.le_trans (Nat.le_of_ble_eq_true rfl) hRl⟩ ⟨Nat.zero_le _, Nat.zero_le _⟩ rfl rfl (Nat.le_of_ble_eq_true rfl) dX7_setCosts_1 (fun r h1 H locs hp hw => ?_)
  obtain ⟨e1, e2⟩ := hp; subst r; subst h1
  refine lv_istore_n (lv' := [(3, .int p1), (0, .ref (b + a)), (1, .int x1), (2, .int x2)]) hx hb dX7_setCosts_4 rfl hl (by decide) rfl (fun ls hl => ?_)
  refine lv_iload_n hx hb dX7_setCosts_5 rfl (lv_at hl 2 rfl) ?_
  refine lv_aload_n hx hb dX7_setCosts_6 rfl (lv_at hl 1 rfl) ?_
  refine sg_geti hc hw ha_a hT_a fi_7_5 k_169 dX7_setCosts_7 ?_
  refine lv_iand hx hb dX7_setCosts_10 ?_
  obtain ⟨p11, hp11, hf⟩ := cl_of hf
  refine sg_si (rest := []) (c_J6_bitCount_0f7a4 hn (h := h) hp11) hc hw hz hn0 hml hl cs_X7_89 ⟨⟨rfl, rfl⟩, Nat.le_trans (Nat.le_of_ble_eq_true rfl) hRf, Nat.le_trans (Nat.le_of_ble_eq_true rfl) hRl⟩ ⟨Nat.zero_le _, Nat.zero_le _⟩ rfl rfl (Nat.le_of_ble_eq_true rfl) dX7_setCosts_11 (fun r h1 H locs hp hw => ?_)
  obtain ⟨e1, e2⟩ := hp; subst r; subst h1
  refine lv_istore (lv' := [(4, .int p11), (3, .int p1), (0, .ref (b + a)), (1, .int x1), (2, .int x2)]) hx hb dX7_setCosts_14 hl (by decide) rfl (fun ls hl => ?_)
  refine lv_iconst (v := 0) hx hb dX7_setCosts_16 (by decide) ?_
  refine lv_istore (lv' := [(5, .int 0), (4, .int p11), (3, .int p1), (0, .ref (b + a)), (1, .int x1), (2, .int x2)]) hx hb dX7_setCosts_17 hl (by decide) rfl (fun ls hl => ?_)
  exact L19 p1 p11 _ _ hf _ _ _ hw (lv_sub hl [3, 4, 5, 2, 1, 0] rfl)
theorem c_X7_setCosts {l : Launch} {D : va_G} {cA : Nat → ClassId} {b n : Nat} (hn : sg_okN n) {a : Nat} {x1 : Int32} {x2 : Int32} (ha_a : a < n) (hT_a : sg_T a = 7) {h : HP} {Rz : HP} (hf : F_X7_setCosts a x1 x2 h = some Rz) : Met l yX7_setCosts (Cond.code yX7_setCosts cX7_setCosts 6 none :: sg_tbl) ({ frames := 1, cells := 0, slots := 0, locals := 25 } : Room) (va_Pc [.ref (b + a), .int x1, .int x2] (sg_Wd D b cA n h)) (va_Qv (fun u => u = Rz) (sg_Wd D b cA n) (sg_A b)) 0 0 (sg_A b) := by
  refine Met.ofW (cc := cX7_setCosts) (maxL := 6) (ret := none) (by decide) rfl ?_
  intro p e s m args below meth c s₁ B hml hv
  obtain ⟨rfl, hP, hK, hz, hY, hN⟩ := hv
  have hl := lv_entry [.ref (b + a), .int x1, .int x2] (n := 6) (Nat.le_of_ble_eq_true rfl)
  rw [lg_entry_eq]
  exact w_X7_setCosts hn ⟨B.exec, B.bytes, findClass_of_methodNamed B.named, fun w h => atoms_spec (ws := Cond.code yX7_setCosts cX7_setCosts 6 none :: sg_tbl) B.pre w (List.mem_cons_of_mem _ h), hK, hN⟩ hz B.returns B.notSynchronized hml (Nat.le_refl _) (Nat.le_refl _) ha_a hT_a hf _ _ _ ⟨hP, hY, va_S.rf⟩ hl
set_option maxHeartbeats 4000000 in
set_option maxRecDepth 100000 in
theorem w_X7_stumbling {p : Program} {l : Launch} {e : Env} {R : Room} {s : State} {m : MethodId} {args : Array Value} {below : List Frame} {meth : Method} {c : Code} {D : va_G} {cA : Nat → ClassId} {b n : Nat} (hn : sg_okN n) {a : Nat} {x1 : Int32} {x2 : Int32} {h : HP} {Rz : Int32 × HP} (hc : sg_Cx p s m args c cX7_stumbling RX7 D cA) (hz : s.heap.size = b + n) (hr : meth.sig.returnType = some .int) (hlocks : meth.locks = false) (hml : c.maxLocals = 5) (hRf : 1 ≤ R.frames) (hRl : 21 ≤ R.locals) (ha_a : a < n) (hT_a : sg_T a = 7) (hf : F_X7_stumbling a x1 x2 h = some Rz) (H : Heap) (locs : List Loc) (ls : Array Slot) (hw : sg_Wo D b cA n s.heap h H locs) (hl : lv_has ls 5 [(0, .ref (b + a)), (1, .int x1), (2, .int x2)]) : W p l e R s m args below meth c H locs 0 0 (sg_Qi below args s D b cA n (fun r u => r = Rz.1 ∧ u = Rz.2)) (F0 m 0 ls []) := by
  have hx := hc.1
  have hb := hc.2.1
  have hn0 : 0 < n := sg_pos hn
  have J64 : ∀ (x3 : Int32) (h : HP) (H : Heap) (locs : List Loc) (ls : Array Slot), F_X7_stumbling_J64 a x3 h = some Rz → sg_Wo D b cA n s.heap h H locs → lv_has ls 5 [(0, .ref (b + a)), (3, .int x3)] → W p l e R s m args below meth c H locs 0 0 (sg_Qi below args s D b cA n (fun r u => r = Rz.1 ∧ u = Rz.2)) (F0 m 64 ls []) := by
    intro x3 h H locs ls hf hw hl
    unfold F_X7_stumbling_J64 at hf
    refine lv_aload_n hx hb dX7_stumbling_64 rfl (lv_at hl 0 rfl) ?_
    refine lv_dup hx hb dX7_stumbling_65 rfl ?_
    refine sg_geti hc hw ha_a hT_a fi_7_4 k_168 dX7_stumbling_66 ?_
    refine lv_iload_n hx hb dX7_stumbling_69 rfl (lv_at hl 1 rfl) ?_
    refine lv_ior hx hb dX7_stumbling_70 ?_
    refine sg_puti hc hw ha_a hT_a fp_7_4 rfl rfl k_168 dX7_stumbling_71 (fun H locs hw => ?_)
    obtain ⟨h71, hw, hf⟩ := sg_name hw hf
    refine lv_iload_n hx hb dX7_stumbling_74 rfl (lv_at hl 1 rfl) ?_
    cases hf
    exact sg_iret hc hw hz hn0 hr hlocks ⟨rfl, rfl⟩ dX7_stumbling_75
  have L5 : ∀ (k : Nat) (x : (Int32 × Int32 × HP)), F_X7_stumbling_L5 a x1 x2 k x = some Rz → ∀ (H : Heap) (locs : List Loc) (ls : Array Slot), sg_Wo D b cA n s.heap x.2.2 H locs → lv_has ls 5 [(0, .ref (b + a)), (1, .int x1), (2, .int x2), (3, .int x.1), (4, .int x.2.1)] → W p l e R s m args below meth c H locs 0 0 (sg_Qi below args s D b cA n (fun r u => r = Rz.1 ∧ u = Rz.2)) (F0 m 5 ls []) := by
    unfold F_X7_stumbling_L5
    refine lp_walk ?_
    intro rc5 hrc5 x hf H locs ls hw hl
    obtain ⟨x3, x4, h⟩ := x
    dsimp only at hf hw hl
    have J58 : ∀ (x3 : Int32) (x4 : Int32) (h : HP) (H : Heap) (locs : List Loc) (ls : Array Slot), F_X7_stumbling_J58 a rc5 x1 x2 x3 x4 h = some Rz → sg_Wo D b cA n s.heap h H locs → lv_has ls 5 [(0, .ref (b + a)), (1, .int x1), (2, .int x2), (3, .int x3), (4, .int x4)] → W p l e R s m args below meth c H locs 0 0 (sg_Qi below args s D b cA n (fun r u => r = Rz.1 ∧ u = Rz.2)) (F0 m 58 ls []) := by
      intro x3 x4 h H locs ls hf hw hl
      unfold F_X7_stumbling_J58 at hf
      refine lv_iinc (v := (x4 + 1)) (lv' := [(4, .int (x4 + 1)), (0, .ref (b + a)), (1, .int x1), (2, .int x2), (3, .int x3)]) hx hb dX7_stumbling_58 hl (k := 4) rfl rfl (by decide) rfl (fun ls hl => ?_)
      refine lv_goto (tgt := 5) hx hb dX7_stumbling_61 (by decide) ?_
      exact hrc5 _ hf _ _ _ hw (lv_sub hl [1, 2, 3, 4, 0] rfl)
    refine lv_iload hx hb dX7_stumbling_5 (lv_at hl 4 rfl) ?_
    refine lv_aload_n hx hb dX7_stumbling_7 rfl (lv_at hl 0 rfl) ?_
    obtain ⟨hg8, hf⟩ := gn_of hf
    obtain ⟨ha8, hT8⟩ := (hw.2.1 _ ha_a).2.1 hT_a hg8
    obtain ⟨q8, hq8, ha8, hT8, hf⟩ := sg_nq hg8 ha8 hT8 hf
    refine sg_getr hc hw ha_a hT_a fr_7_0 k_160 dX7_stumbling_8 hq8 ?_
    refine sg_geti hc hw ha8 hT8 fi_1_2 k_48 dX7_stumbling_11 ?_
    refine lv_icmp_ge (tgt := 64) hx hb dX7_stumbling_14 (by decide) (fun c14 => ?_) (fun c14 => ?_)
    · have hf := if_of c14 hf
      exact J64 x3 _ _ _ _ hf hw (lv_sub hl [0, 3] rfl)
    · have hf := if_no c14 hf
      refine lv_iload hx hb dX7_stumbling_17 (lv_at hl 4 rfl) ?_
      refine lv_iload_n hx hb dX7_stumbling_19 rfl (lv_at hl 1 rfl) ?_
      obtain ⟨p20, hp20, hf⟩ := cl_of hf
      refine sg_ni (rest := []) (c_X8_isIn hn (h := h) hp20) hc hw hz hn0 hml hl cn_X7_103 ⟨⟨rfl, rfl⟩, Nat.le_trans (Nat.le_of_ble_eq_true rfl) hRf, Nat.le_trans (Nat.le_of_ble_eq_true rfl) hRl⟩ ⟨Nat.zero_le _, Nat.zero_le _⟩ rfl rfl (Nat.le_of_ble_eq_true rfl) dX7_stumbling_20 (fun r h1 H locs hp hw => ?_)
      obtain ⟨⟨e1, e2⟩, hb20⟩ := hp; subst r; subst h1
      refine lv_if_eq (tgt := 58) hx hb dX7_stumbling_23 (by decide) (fun c23 => ?_) (fun c23 => ?_)
      · have hf := if_of c23 hf
        exact J58 x3 x4 _ _ _ _ hf hw (lv_sub hl [0, 1, 2, 3, 4] rfl)
      · have hf := if_no c23 hf
        refine lv_aload_n hx hb dX7_stumbling_26 rfl (lv_at hl 0 rfl) ?_
        obtain ⟨hF27, hT27, ha27, hN27⟩ := ft_7_6 hn ha_a hT_a
        refine sg_getf (q := (a + 1)) hc hw ha_a hT_a fr_7_6 (by decide) k_170 dX7_stumbling_27 hF27 ?_
        refine lv_iload hx hb dX7_stumbling_30 (lv_at hl 4 rfl) ?_
        obtain ⟨hg32, hf⟩ := gd_of hf
        refine sg_ild hc hw ha27 hT27 hN27 hg32 dX7_stumbling_32 ?_
        refine lv_aload_n hx hb dX7_stumbling_33 rfl (lv_at hl 0 rfl) ?_
        obtain ⟨hF34, hT34, ha34, hN34⟩ := ft_7_11 hn ha_a hT_a
        refine sg_getf (q := (a + 6)) hc hw ha_a hT_a fr_7_11 (by decide) k_179 dX7_stumbling_34 hF34 ?_
        refine lv_iload hx hb dX7_stumbling_37 (lv_at hl 4 rfl) ?_
        obtain ⟨hg39, hf⟩ := gd_of hf
        refine sg_ild hc hw ha34 hT34 hN34 hg39 dX7_stumbling_39 ?_
        refine lv_icmp_ge (tgt := 58) hx hb dX7_stumbling_40 (by decide) (fun c40 => ?_) (fun c40 => ?_)
        · have hf := if_of c40 hf
          exact J58 x3 x4 _ _ _ _ hf hw (lv_sub hl [0, 1, 2, 3, 4] rfl)
        · have hf := if_no c40 hf
          refine lv_iload_n hx hb dX7_stumbling_43 rfl (lv_at hl 3 rfl) ?_
          refine lv_iconst (v := 1) hx hb dX7_stumbling_44 (by decide) ?_
          refine lv_iload hx hb dX7_stumbling_45 (lv_at hl 4 rfl) ?_
          refine lv_ishl hx hb dX7_stumbling_47 ?_
          refine lv_ior hx hb dX7_stumbling_48 ?_
          refine lv_topi (fun v49 e49 => ?_)
          have hf := nm_of e49 hf
          refine lv_istore_n (lv' := [(3, .int v49), (0, .ref (b + a)), (1, .int x1), (2, .int x2), (4, .int x4)]) hx hb dX7_stumbling_49 rfl hl (by decide) rfl (fun ls hl => ?_)
          refine lv_aload_n hx hb dX7_stumbling_50 rfl (lv_at hl 1 rfl) ?_
          obtain ⟨hF51, hT51, ha51, hN51⟩ := ft_7_7 hn ha_a hT_a
          refine sg_getf (q := (a + 2)) hc hw ha_a hT_a fr_7_7 (by decide) k_172 dX7_stumbling_51 hF51 ?_
          refine lv_iload hx hb dX7_stumbling_54 (lv_at hl 4 rfl) ?_
          refine lv_iload_n hx hb dX7_stumbling_56 rfl (lv_at hl 3 rfl) ?_
          obtain ⟨hg57, hf⟩ := gd_of hf
          refine sg_ist hc hw ha51 hT51 hN51 hg57 dX7_stumbling_57 (fun H locs hw => ?_)
          obtain ⟨h57, hw, hf⟩ := sg_name hw hf
          exact J58 v49 x4 _ _ _ _ hf hw (lv_sub hl [1, 2, 3, 0, 4] rfl)
  unfold F_X7_stumbling at hf
  refine lv_iconst (v := 0) hx hb dX7_stumbling_0 (by decide) ?_
  refine lv_istore_n (lv' := [(3, .int 0), (0, .ref (b + a)), (1, .int x1), (2, .int x2)]) hx hb dX7_stumbling_1 rfl hl (by decide) rfl (fun ls hl => ?_)
  refine lv_iconst (v := 0) hx hb dX7_stumbling_2 (by decide) ?_
  refine lv_istore (lv' := [(4, .int 0), (3, .int 0), (0, .ref (b + a)), (1, .int x1), (2, .int x2)]) hx hb dX7_stumbling_3 hl (by decide) rfl (fun ls hl => ?_)
  exact L5 _ _ hf _ _ _ hw (lv_sub hl [2, 3, 4, 1, 0] rfl)
theorem c_X7_stumbling {l : Launch} {D : va_G} {cA : Nat → ClassId} {b n : Nat} (hn : sg_okN n) {a : Nat} {x1 : Int32} {x2 : Int32} (ha_a : a < n) (hT_a : sg_T a = 7) {h : HP} {Rz : Int32 × HP} (hf : F_X7_stumbling a x1 x2 h = some Rz) : Met l yX7_stumbling (Cond.code yX7_stumbling cX7_stumbling 5 (some .int) :: sg_tbl) ({ frames := 1, cells := 0, slots := 0, locals := 21 } : Room) (va_Pc [.ref (b + a), .int x1, .int x2] (sg_Wd D b cA n h)) (va_Qi (fun r u => r = Rz.1 ∧ u = Rz.2) (sg_Wd D b cA n) (sg_A b)) 0 0 (sg_A b) := by
  refine Met.ofW (cc := cX7_stumbling) (maxL := 5) (ret := (some .int)) (by decide) rfl ?_
  intro p e s m args below meth c s₁ B hml hv
  obtain ⟨rfl, hP, hK, hz, hY, hN⟩ := hv
  have hl := lv_entry [.ref (b + a), .int x1, .int x2] (n := 5) (Nat.le_of_ble_eq_true rfl)
  rw [lg_entry_eq]
  exact w_X7_stumbling hn ⟨B.exec, B.bytes, findClass_of_methodNamed B.named, fun w h => atoms_spec (ws := Cond.code yX7_stumbling cX7_stumbling 5 (some .int) :: sg_tbl) B.pre w (List.mem_cons_of_mem _ h), hK, hN⟩ hz B.returns B.notSynchronized hml (Nat.le_refl _) (Nat.le_refl _) ha_a hT_a hf _ _ _ ⟨hP, hY, va_S.rf⟩ hl
set_option maxHeartbeats 4000000 in
set_option maxRecDepth 100000 in
theorem w_X1_priceAt {p : Program} {l : Launch} {e : Env} {R : Room} {s : State} {m : MethodId} {args : Array Value} {below : List Frame} {meth : Method} {c : Code} {D : va_G} {cA : Nat → ClassId} {b n : Nat} (hn : sg_okN n) {a : Nat} {x1 : Int32} {h : HP} {Rz : Int32} (hc : sg_Cx p s m args c cX1_priceAt RX1 D cA) (hz : s.heap.size = b + n) (hr : meth.sig.returnType = some .int) (hlocks : meth.locks = false) (hml : c.maxLocals = 2) (hRf : 0 ≤ R.frames) (hRl : 0 ≤ R.locals) (ha_a : a < n) (hT_a : sg_T a = 1) (hf : F_X1_priceAt a x1 h = some Rz) (H : Heap) (locs : List Loc) (ls : Array Slot) (hw : sg_Wo D b cA n s.heap h H locs) (hl : lv_has ls 2 [(0, .ref (b + a)), (1, .int x1)]) : W p l e R s m args below meth c H locs 0 0 (sg_Qi below args s D b cA n (fun r u => r = Rz ∧ u = h)) (F0 m 0 ls []) := by
  have hx := hc.1
  have hb := hc.2.1
  have hn0 : 0 < n := sg_pos hn
  unfold F_X1_priceAt at hf
  refine lv_aload_n hx hb dX1_priceAt_0 rfl (lv_at hl 0 rfl) ?_
  obtain ⟨hF1, hT1, ha1, hN1⟩ := ft_1_7 hn ha_a hT_a
  refine sg_getf (q := (a + 3)) hc hw ha_a hT_a fr_1_7 (by decide) k_60 dX1_priceAt_1 hF1 ?_
  refine lv_aload_n hx hb dX1_priceAt_4 rfl (lv_at hl 0 rfl) ?_
  obtain ⟨hF5, hT5, ha5, hN5⟩ := ft_1_10 hn ha_a hT_a
  refine sg_getf (q := (a + 6)) hc hw ha_a hT_a fr_1_10 (by decide) k_70 dX1_priceAt_5 hF5 ?_
  refine lv_iload_n hx hb dX1_priceAt_8 rfl (lv_at hl 1 rfl) ?_
  obtain ⟨hg9, hf⟩ := gd_of hf
  refine sg_ild hc hw ha5 hT5 hN5 hg9 dX1_priceAt_9 ?_
  obtain ⟨hg10, hf⟩ := gd_of hf
  refine sg_ild hc hw ha1 hT1 hN1 hg10 dX1_priceAt_10 ?_
  cases hf
  exact sg_iret hc hw hz hn0 hr hlocks ⟨rfl, rfl⟩ dX1_priceAt_11
theorem c_X1_priceAt {l : Launch} {D : va_G} {cA : Nat → ClassId} {b n : Nat} (hn : sg_okN n) {a : Nat} {x1 : Int32} (ha_a : a < n) (hT_a : sg_T a = 1) {h : HP} {Rz : Int32} (hf : F_X1_priceAt a x1 h = some Rz) : Met l yX1_priceAt (Cond.code yX1_priceAt cX1_priceAt 2 (some .int) :: sg_tbl) ({ frames := 0, cells := 0, slots := 0, locals := 0 } : Room) (va_Pc [.ref (b + a), .int x1] (sg_Wd D b cA n h)) (va_Qi (fun r u => r = Rz ∧ u = h) (sg_Wd D b cA n) (sg_A b)) 0 0 (sg_A b) := by
  refine Met.ofW (cc := cX1_priceAt) (maxL := 2) (ret := (some .int)) (by decide) rfl ?_
  intro p e s m args below meth c s₁ B hml hv
  obtain ⟨rfl, hP, hK, hz, hY, hN⟩ := hv
  have hl := lv_entry [.ref (b + a), .int x1] (n := 2) (Nat.le_of_ble_eq_true rfl)
  rw [lg_entry_eq]
  exact w_X1_priceAt hn ⟨B.exec, B.bytes, findClass_of_methodNamed B.named, fun w h => atoms_spec (ws := Cond.code yX1_priceAt cX1_priceAt 2 (some .int) :: sg_tbl) B.pre w (List.mem_cons_of_mem _ h), hK, hN⟩ hz B.returns B.notSynchronized hml (Nat.le_refl _) (Nat.le_refl _) ha_a hT_a hf _ _ _ ⟨hP, hY, va_S.rf⟩ hl
set_option maxHeartbeats 4000000 in
set_option maxRecDepth 100000 in
theorem w_X7_bringUp {p : Program} {l : Launch} {e : Env} {R : Room} {s : State} {m : MethodId} {args : Array Value} {below : List Frame} {meth : Method} {c : Code} {D : va_G} {cA : Nat → ClassId} {b n : Nat} (hn : sg_okN n) {a : Nat} {x1 : Int32} {x2 : Int32} {h : HP} {Rz : HP} (hc : sg_Cx p s m args c cX7_bringUp RX7 D cA) (hz : s.heap.size = b + n) (hr : meth.sig.returnType = none) (hlocks : meth.locks = false) (hml : c.maxLocals = 6) (hRf : 1 ≤ R.frames) (hRl : 21 ≤ R.locals) (ha_a : a < n) (hT_a : sg_T a = 7) (hf : F_X7_bringUp a x1 x2 h = some Rz) (H : Heap) (locs : List Loc) (ls : Array Slot) (hw : sg_Wo D b cA n s.heap h H locs) (hl : lv_has ls 6 [(0, .ref (b + a)), (1, .int x1), (2, .int x2)]) : W p l e R s m args below meth c H locs 0 0 (sg_Qv below args s D b cA n (fun u => u = Rz)) (F0 m 0 ls []) := by
  have hx := hc.1
  have hb := hc.2.1
  have hn0 : 0 < n := sg_pos hn
  have L21 : ∀ (x4 : Int32) (k : Nat) (x : (Int32 × HP)), F_X7_bringUp_L21 a x1 x4 k x = some Rz → ∀ (H : Heap) (locs : List Loc) (ls : Array Slot), sg_Wo D b cA n s.heap x.2 H locs → lv_has ls 6 [(0, .ref (b + a)), (1, .int x1), (4, .int x4), (5, .int x.1)] → W p l e R s m args below meth c H locs 0 0 (sg_Qv below args s D b cA n (fun u => u = Rz)) (F0 m 21 ls []) := by
    intro x4
    unfold F_X7_bringUp_L21
    refine lp_walk ?_
    intro rc21 hrc21 x hf H locs ls hw hl
    obtain ⟨x5, h⟩ := x
    dsimp only at hf hw hl
    have J82 : ∀ (x5 : Int32) (h : HP) (H : Heap) (locs : List Loc) (ls : Array Slot), F_X7_bringUp_J82 a rc21 x1 x4 x5 h = some Rz → sg_Wo D b cA n s.heap h H locs → lv_has ls 6 [(0, .ref (b + a)), (1, .int x1), (4, .int x4), (5, .int x5)] → W p l e R s m args below meth c H locs 0 0 (sg_Qv below args s D b cA n (fun u => u = Rz)) (F0 m 82 ls []) := by
      intro x5 h H locs ls hf hw hl
      unfold F_X7_bringUp_J82 at hf
      refine lv_iinc (v := (x5 + 1)) (lv' := [(5, .int (x5 + 1)), (0, .ref (b + a)), (1, .int x1), (4, .int x4)]) hx hb dX7_bringUp_82 hl (k := 3) rfl rfl (by decide) rfl (fun ls hl => ?_)
      refine lv_goto (tgt := 21) hx hb dX7_bringUp_85 (by decide) ?_
      exact hrc21 _ hf _ _ _ hw (lv_sub hl [1, 2, 3, 0] rfl)
    refine lv_iload hx hb dX7_bringUp_21 (lv_at hl 3 rfl) ?_
    refine lv_aload_n hx hb dX7_bringUp_23 rfl (lv_at hl 0 rfl) ?_
    obtain ⟨hg24, hf⟩ := gn_of hf
    obtain ⟨ha24, hT24⟩ := (hw.2.1 _ ha_a).2.1 hT_a hg24
    obtain ⟨q24, hq24, ha24, hT24, hf⟩ := sg_nq hg24 ha24 hT24 hf
    refine sg_getr hc hw ha_a hT_a fr_7_0 k_160 dX7_bringUp_24 hq24 ?_
    refine sg_geti hc hw ha24 hT24 fi_1_2 k_48 dX7_bringUp_27 ?_
    refine lv_icmp_ge (tgt := 88) hx hb dX7_bringUp_30 (by decide) (fun c30 => ?_) (fun c30 => ?_)
    · have hf := if_of c30 hf
      cases hf
      exact sg_vret hc hw hz hn0 hr hlocks rfl dX7_bringUp_88
    · have hf := if_no c30 hf
      refine lv_iload hx hb dX7_bringUp_33 (lv_at hl 3 rfl) ?_
      refine lv_iload_n hx hb dX7_bringUp_35 rfl (lv_at hl 1 rfl) ?_
      obtain ⟨p36, hp36, hf⟩ := cl_of hf
      refine sg_ni (rest := []) (c_X8_isIn hn (h := h) hp36) hc hw hz hn0 hml hl cn_X7_103 ⟨⟨rfl, rfl⟩, Nat.le_trans (Nat.le_of_ble_eq_true rfl) hRf, Nat.le_trans (Nat.le_of_ble_eq_true rfl) hRl⟩ ⟨Nat.zero_le _, Nat.zero_le _⟩ rfl rfl (Nat.le_of_ble_eq_true rfl) dX7_bringUp_36 (fun r h1 H locs hp hw => ?_)
      obtain ⟨⟨e1, e2⟩, hb36⟩ := hp; subst r; subst h1
      refine lv_if_eq (tgt := 82) hx hb dX7_bringUp_39 (by decide) (fun c39 => ?_) (fun c39 => ?_)
      · have hf := if_of c39 hf
        exact J82 x5 _ _ _ _ hf hw (lv_sub hl [0, 1, 2, 3] rfl)
      · have hf := if_no c39 hf
        refine lv_aload_n hx hb dX7_bringUp_42 rfl (lv_at hl 0 rfl) ?_
        obtain ⟨hF43, hT43, ha43, hN43⟩ := ft_7_6 hn ha_a hT_a
        refine sg_getf (q := (a + 1)) hc hw ha_a hT_a fr_7_6 (by decide) k_170 dX7_bringUp_43 hF43 ?_
        refine lv_iload hx hb dX7_bringUp_46 (lv_at hl 3 rfl) ?_
        refine lv_dup2_11 hx hb dX7_bringUp_48 rfl rfl ?_
        obtain ⟨hg49, hf⟩ := gd_of hf
        refine sg_ild hc hw ha43 hT43 hN43 hg49 dX7_bringUp_49 ?_
        refine lv_aload_n hx hb dX7_bringUp_50 rfl (lv_at hl 0 rfl) ?_
        obtain ⟨hF51, hT51, ha51, hN51⟩ := ft_7_11 hn ha_a hT_a
        refine sg_getf (q := (a + 6)) hc hw ha_a hT_a fr_7_11 (by decide) k_179 dX7_bringUp_51 hF51 ?_
        refine lv_iload hx hb dX7_bringUp_54 (lv_at hl 3 rfl) ?_
        obtain ⟨hg56, hf⟩ := gd_of hf
        refine sg_ild hc hw ha51 hT51 hN51 hg56 dX7_bringUp_56 ?_
        refine lv_isub hx hb dX7_bringUp_57 ?_
        obtain ⟨hg58, hf⟩ := gd_of hf
        refine sg_ist hc hw ha43 hT43 hN43 hg58 dX7_bringUp_58 (fun H locs hw => ?_)
        obtain ⟨h58, hw, hf⟩ := sg_name hw hf
        refine lv_aload_n hx hb dX7_bringUp_59 rfl (lv_at hl 0 rfl) ?_
        obtain ⟨hF60, hT60, ha60, hN60⟩ := ft_7_8 hn ha_a hT_a
        refine sg_getf (q := (a + 3)) hc hw ha_a hT_a fr_7_8 (by decide) k_174 dX7_bringUp_60 hF60 ?_
        refine lv_iload hx hb dX7_bringUp_63 (lv_at hl 3 rfl) ?_
        refine lv_dup2_11 hx hb dX7_bringUp_65 rfl rfl ?_
        obtain ⟨hg66, hf⟩ := gd_of hf
        refine sg_ild hc hw ha60 hT60 hN60 hg66 dX7_bringUp_66 ?_
        refine lv_iconst (v := 1) hx hb dX7_bringUp_67 (by decide) ?_
        refine lv_iadd hx hb dX7_bringUp_68 ?_
        obtain ⟨hg69, hf⟩ := gd_of hf
        refine sg_ist hc hw ha60 hT60 hN60 hg69 dX7_bringUp_69 (fun H locs hw => ?_)
        obtain ⟨h69, hw, hf⟩ := sg_name hw hf
        refine lv_aload_n hx hb dX7_bringUp_70 rfl (lv_at hl 0 rfl) ?_
        obtain ⟨hF71, hT71, ha71, hN71⟩ := ft_7_9 hn ha_a hT_a
        refine sg_getf (q := (a + 4)) hc hw ha_a hT_a fr_7_9 (by decide) k_176 dX7_bringUp_71 hF71 ?_
        refine lv_iload hx hb dX7_bringUp_74 (lv_at hl 3 rfl) ?_
        refine lv_dup2_11 hx hb dX7_bringUp_76 rfl rfl ?_
        obtain ⟨hg77, hf⟩ := gd_of hf
        refine sg_ild hc hw ha71 hT71 hN71 hg77 dX7_bringUp_77 ?_
        refine lv_iload hx hb dX7_bringUp_78 (lv_at hl 2 rfl) ?_
        refine lv_iadd hx hb dX7_bringUp_80 ?_
        obtain ⟨hg81, hf⟩ := gd_of hf
        refine sg_ist hc hw ha71 hT71 hN71 hg81 dX7_bringUp_81 (fun H locs hw => ?_)
        obtain ⟨h81, hw, hf⟩ := sg_name hw hf
        exact J82 x5 _ _ _ _ hf hw (lv_sub hl [0, 1, 2, 3] rfl)
  have J16 : ∀ (s0 : Int32) (h : HP) (H : Heap) (locs : List Loc) (ls : Array Slot), F_X7_bringUp_J16 a x1 s0 h = some Rz → sg_Wo D b cA n s.heap h H locs → lv_has ls 6 [(0, .ref (b + a)), (1, .int x1)] → W p l e R s m args below meth c H locs 0 0 (sg_Qv below args s D b cA n (fun u => u = Rz)) (F0 m 16 ls [.int s0]) := by
    intro s0 h H locs ls hf hw hl
    unfold F_X7_bringUp_J16 at hf
    refine lv_istore (lv' := [(4, .int s0), (0, .ref (b + a)), (1, .int x1)]) hx hb dX7_bringUp_16 hl (by decide) rfl (fun ls hl => ?_)
    refine lv_iconst (v := 0) hx hb dX7_bringUp_18 (by decide) ?_
    refine lv_istore (lv' := [(5, .int 0), (4, .int s0), (0, .ref (b + a)), (1, .int x1)]) hx hb dX7_bringUp_19 hl (by decide) rfl (fun ls hl => ?_)
    exact L21 s0 _ _ hf _ _ _ hw (lv_sub hl [2, 3, 1, 0] rfl)
  unfold F_X7_bringUp at hf
  refine lv_iload_n hx hb dX7_bringUp_0 rfl (lv_at hl 1 rfl) ?_
  obtain ⟨p1, hp1, hf⟩ := cl_of hf
  refine sg_si (rest := []) (c_J6_bitCount_0f7a4 hn (h := h) hp1) hc hw hz hn0 hml hl cs_X7_89 ⟨⟨rfl, rfl⟩, Nat.le_trans (Nat.le_of_ble_eq_true rfl) hRf, Nat.le_trans (Nat.le_of_ble_eq_true rfl) hRl⟩ ⟨Nat.zero_le _, Nat.zero_le _⟩ rfl rfl (Nat.le_of_ble_eq_true rfl) dX7_bringUp_1 (fun r h1 H locs hp hw => ?_)
  obtain ⟨e1, e2⟩ := hp; subst r; subst h1
  refine lv_istore_n (lv' := [(3, .int p1), (0, .ref (b + a)), (1, .int x1), (2, .int x2)]) hx hb dX7_bringUp_4 rfl hl (by decide) rfl (fun ls hl => ?_)
  refine lv_iload_n hx hb dX7_bringUp_5 rfl (lv_at hl 0 rfl) ?_
  refine lv_if_le (tgt := 15) hx hb dX7_bringUp_6 (by decide) (fun c6 => ?_) (fun c6 => ?_)
  · have hf := if_of c6 hf
    refine lv_iconst (v := 0) hx hb dX7_bringUp_15 (by decide) ?_
    exact J16 0 _ _ _ _ hf hw (lv_sub hl [1, 2] rfl)
  · have hf := if_no c6 hf
    refine lv_iload_n hx hb dX7_bringUp_9 rfl (lv_at hl 3 rfl) ?_
    refine lv_iload_n hx hb dX7_bringUp_10 rfl (lv_at hl 0 rfl) ?_
    obtain ⟨hg11, hf⟩ := gz_of hf
    refine lv_idiv hx hb dX7_bringUp_11 hg11 ?_
    refine lv_goto (tgt := 16) hx hb dX7_bringUp_12 (by decide) ?_
    exact J16 (x2 / p1) _ _ _ _ hf hw (lv_sub hl [1, 2] rfl)
theorem c_X7_bringUp {l : Launch} {D : va_G} {cA : Nat → ClassId} {b n : Nat} (hn : sg_okN n) {a : Nat} {x1 : Int32} {x2 : Int32} (ha_a : a < n) (hT_a : sg_T a = 7) {h : HP} {Rz : HP} (hf : F_X7_bringUp a x1 x2 h = some Rz) : Met l yX7_bringUp (Cond.code yX7_bringUp cX7_bringUp 6 none :: sg_tbl) ({ frames := 1, cells := 0, slots := 0, locals := 21 } : Room) (va_Pc [.ref (b + a), .int x1, .int x2] (sg_Wd D b cA n h)) (va_Qv (fun u => u = Rz) (sg_Wd D b cA n) (sg_A b)) 0 0 (sg_A b) := by
  refine Met.ofW (cc := cX7_bringUp) (maxL := 6) (ret := none) (by decide) rfl ?_
  intro p e s m args below meth c s₁ B hml hv
  obtain ⟨rfl, hP, hK, hz, hY, hN⟩ := hv
  have hl := lv_entry [.ref (b + a), .int x1, .int x2] (n := 6) (Nat.le_of_ble_eq_true rfl)
  rw [lg_entry_eq]
  exact w_X7_bringUp hn ⟨B.exec, B.bytes, findClass_of_methodNamed B.named, fun w h => atoms_spec (ws := Cond.code yX7_bringUp cX7_bringUp 6 none :: sg_tbl) B.pre w (List.mem_cons_of_mem _ h), hK, hN⟩ hz B.returns B.notSynchronized hml (Nat.le_refl _) (Nat.le_refl _) ha_a hT_a hf _ _ _ ⟨hP, hY, va_S.rf⟩ hl
set_option maxHeartbeats 4000000 in
set_option maxRecDepth 100000 in
theorem w_X7_step {p : Program} {l : Launch} {e : Env} {R : Room} {s : State} {m : MethodId} {args : Array Value} {below : List Frame} {meth : Method} {c : Code} {D : va_G} {cA : Nat → ClassId} {b n : Nat} (hn : sg_okN n) {a : Nat} {x1 : Int32} {x2 : Int32} {h : HP} {Rz : Int32 × HP} (hc : sg_Cx p s m args c cX7_step RX7 D cA) (hz : s.heap.size = b + n) (hr : meth.sig.returnType = some .int) (hlocks : meth.locks = false) (hml : c.maxLocals = 5) (hRf : 2 ≤ R.frames) (hRl : 50 ≤ R.locals) (ha_a : a < n) (hT_a : sg_T a = 7) (hf : F_X7_step a x1 x2 h = some Rz) (H : Heap) (locs : List Loc) (ls : Array Slot) (hw : sg_Wo D b cA n s.heap h H locs) (hl : lv_has ls 5 [(0, .ref (b + a)), (1, .int x1), (2, .int x2)]) : W p l e R s m args below meth c H locs 0 0 (sg_Qi below args s D b cA n (fun r u => r = Rz.1 ∧ u = Rz.2)) (F0 m 0 ls []) := by
  have hx := hc.1
  have hb := hc.2.1
  have hn0 : 0 < n := sg_pos hn
  unfold F_X7_step at hf
  refine lv_aload_n hx hb dX7_step_0 rfl (lv_at hl 0 rfl) ?_
  refine sg_geti hc hw ha_a hT_a fi_7_3 k_165 dX7_step_1 ?_
  refine lv_bipush (v := (-4)) hx hb dX7_step_4 (by decide) ?_
  refine lv_icmp_eq (tgt := 11) hx hb dX7_step_6 (by decide) (fun c6 => ?_) (fun c6 => ?_)
  · have hf := if_of c6 hf
    refine lv_iload_n hx hb dX7_step_11 rfl (lv_at hl 2 rfl) ?_
    refine lv_aload_n hx hb dX7_step_12 rfl (lv_at hl 0 rfl) ?_
    refine sg_geti hc hw ha_a hT_a fi_7_4 k_168 dX7_step_13 ?_
    refine lv_iconst (v := (-1)) hx hb dX7_step_16 (by decide) ?_
    refine lv_ixor hx hb dX7_step_17 ?_
    refine lv_iand hx hb dX7_step_18 ?_
    refine lv_topi (fun v19 e19 => ?_)
    have hf := nm_of e19 hf
    refine lv_istore_n (lv' := [(3, .int v19), (0, .ref (b + a)), (1, .int x1), (2, .int x2)]) hx hb dX7_step_19 rfl hl (by decide) rfl (fun ls hl => ?_)
    refine lv_aload_n hx hb dX7_step_20 rfl (lv_at hl 1 rfl) ?_
    refine lv_iload_n hx hb dX7_step_21 rfl (lv_at hl 0 rfl) ?_
    refine lv_iconst (v := 1) hx hb dX7_step_22 (by decide) ?_
    refine lv_aload_n hx hb dX7_step_23 rfl (lv_at hl 1 rfl) ?_
    obtain ⟨hg24, hf⟩ := gn_of hf
    obtain ⟨ha24, hT24⟩ := (hw.2.1 _ ha_a).2.1 hT_a hg24
    obtain ⟨q24, hq24, ha24, hT24, hf⟩ := sg_nq hg24 ha24 hT24 hf
    refine sg_getr hc hw ha_a hT_a fr_7_0 k_160 dX7_step_24 hq24 ?_
    refine lv_iload_n hx hb dX7_step_27 rfl (lv_at hl 2 rfl) ?_
    obtain ⟨p28, hp28, hf⟩ := cl_of hf
    refine sg_vi (rest := [.int 1, .int v19, .ref (b + a)]) (c_X1_slopeAt hn ha24 hT24 hp28) hc hw hz hml hl ha24 hT24 (by decide) rfl cv_X7_72 ⟨⟨rfl, rfl⟩, Nat.le_trans (Nat.le_of_ble_eq_true rfl) hRf, Nat.le_trans (Nat.le_of_ble_eq_true rfl) hRl⟩ ⟨Nat.zero_le _, Nat.zero_le _⟩ rfl rfl (Nat.le_of_ble_eq_true rfl) dX7_step_28 (fun r h1 H locs hp hw => ?_)
    obtain ⟨e1, e2⟩ := hp; subst r; subst h1
    refine lv_iadd hx hb dX7_step_31 ?_
    refine lv_aload_n hx hb dX7_step_32 rfl (lv_at hl 1 rfl) ?_
    obtain ⟨hg33, hf⟩ := gn_of hf
    obtain ⟨ha33, hT33⟩ := (hw.2.1 _ ha_a).2.1 hT_a hg33
    obtain ⟨q33, hq33, ha33, hT33, hf⟩ := sg_nq hg33 ha33 hT33 hf
    refine sg_getr hc hw ha_a hT_a fr_7_0 k_160 dX7_step_33 hq33 ?_
    refine sg_geti hc hw ha33 hT33 fi_1_4 k_54 dX7_step_36 ?_
    refine lv_iadd hx hb dX7_step_39 ?_
    refine lv_aload_n hx hb dX7_step_40 rfl (lv_at hl 1 rfl) ?_
    refine lv_iload_n hx hb dX7_step_41 rfl (lv_at hl 2 rfl) ?_
    obtain ⟨p42, hp42, hf⟩ := cl_of hf
    refine sg_vi (rest := [.int ((1 + p28) + (h.1 q33 4)), .int v19, .ref (b + a)]) (c_X7_drawnAt hn ha_a hT_a hp42) hc hw hz hml hl ha_a hT_a (by decide) rfl cv_X7_79 ⟨⟨rfl, rfl⟩, Nat.le_trans (Nat.le_of_ble_eq_true rfl) hRf, Nat.le_trans (Nat.le_of_ble_eq_true rfl) hRl⟩ ⟨Nat.zero_le _, Nat.zero_le _⟩ rfl rfl (Nat.le_of_ble_eq_true rfl) dX7_step_42 (fun r h1 H locs hp hw => ?_)
    obtain ⟨e1, e2⟩ := hp; subst r; subst h1
    refine lv_iadd hx hb dX7_step_45 ?_
    obtain ⟨p46, hp46, hf⟩ := cl_of hf
    refine sg_vv (rest := []) (c_X7_setCosts hn ha_a hT_a hp46) hc hw hz hml hl ha_a hT_a (by decide) rfl cv_X7_82 ⟨⟨rfl, rfl⟩, Nat.le_trans (Nat.le_of_ble_eq_true rfl) hRf, Nat.le_trans (Nat.le_of_ble_eq_true rfl) hRl⟩ ⟨Nat.zero_le _, Nat.zero_le _⟩ rfl rfl (Nat.le_of_ble_eq_true rfl) dX7_step_46 (fun h1 H locs hp hw => ?_)
    subst h1
    refine lv_iload_n hx hb dX7_step_49 rfl (lv_at hl 0 rfl) ?_
    refine lv_aload_n hx hb dX7_step_50 rfl (lv_at hl 1 rfl) ?_
    refine lv_iload_n hx hb dX7_step_51 rfl (lv_at hl 0 rfl) ?_
    refine lv_iload_n hx hb dX7_step_52 rfl (lv_at hl 2 rfl) ?_
    obtain ⟨p53, hp53, hf⟩ := cl_of hf
    refine sg_vi (rest := [.int v19]) (c_X7_stumbling hn ha_a hT_a hp53) hc hw hz hml hl ha_a hT_a (by decide) rfl cv_X7_86 ⟨⟨rfl, rfl⟩, Nat.le_trans (Nat.le_of_ble_eq_true rfl) hRf, Nat.le_trans (Nat.le_of_ble_eq_true rfl) hRl⟩ ⟨Nat.zero_le _, Nat.zero_le _⟩ rfl rfl (Nat.le_of_ble_eq_true rfl) dX7_step_53 (fun r h1 H locs hp hw => ?_)
    obtain ⟨e1, e2⟩ := hp; subst r; subst h1
    refine lv_iconst (v := (-1)) hx hb dX7_step_56 (by decide) ?_
    refine lv_ixor hx hb dX7_step_57 ?_
    refine lv_iand hx hb dX7_step_58 ?_
    refine lv_topi (fun v59 e59 => ?_)
    have hf := nm_of e59 hf
    refine lv_istore (lv' := [(4, .int v59), (3, .int v19), (0, .ref (b + a)), (1, .int x1), (2, .int x2)]) hx hb dX7_step_59 hl (by decide) rfl (fun ls hl => ?_)
    refine lv_iload hx hb dX7_step_61 (lv_at hl 0 rfl) ?_
    obtain ⟨p63, hp63, hf⟩ := cl_of hf
    refine sg_si (rest := []) (c_J6_bitCount_0f7a4 hn (h := p53.2) hp63) hc hw hz hn0 hml hl cs_X7_89 ⟨⟨rfl, rfl⟩, Nat.le_trans (Nat.le_of_ble_eq_true rfl) hRf, Nat.le_trans (Nat.le_of_ble_eq_true rfl) hRl⟩ ⟨Nat.zero_le _, Nat.zero_le _⟩ rfl rfl (Nat.le_of_ble_eq_true rfl) dX7_step_63 (fun r h1 H locs hp hw => ?_)
    obtain ⟨e1, e2⟩ := hp; subst r; subst h1
    refine lv_aload_n hx hb dX7_step_66 rfl (lv_at hl 2 rfl) ?_
    refine sg_geti hc hw ha_a hT_a fi_7_1 k_161 dX7_step_67 ?_
    refine lv_icmp_ge (tgt := 80) hx hb dX7_step_70 (by decide) (fun c70 => ?_) (fun c70 => ?_)
    · have hf := if_of c70 hf
      refine lv_aload_n hx hb dX7_step_80 rfl (lv_at hl 2 rfl) ?_
      refine lv_iload hx hb dX7_step_81 (lv_at hl 0 rfl) ?_
      refine lv_bipush (v := 60) hx hb dX7_step_83 (by decide) ?_
      refine lv_aload_n hx hb dX7_step_85 rfl (lv_at hl 2 rfl) ?_
      obtain ⟨hg86, hf⟩ := gn_of hf
      obtain ⟨ha86, hT86⟩ := (hw.2.1 _ ha_a).2.1 hT_a hg86
      obtain ⟨q86, hq86, ha86, hT86, hf⟩ := sg_nq hg86 ha86 hT86 hf
      refine sg_getr hc hw ha_a hT_a fr_7_0 k_160 dX7_step_86 hq86 ?_
      refine lv_iload_n hx hb dX7_step_89 rfl (lv_at hl 3 rfl) ?_
      obtain ⟨p90, hp90, hf⟩ := cl_of hf
      refine sg_vi (rest := [.int 60, .int v59, .ref (b + a)]) (c_X1_priceAt hn ha86 hT86 hp90) hc hw hz hml hl ha86 hT86 (by decide) rfl cv_X7_94 ⟨⟨rfl, rfl⟩, Nat.le_trans (Nat.le_of_ble_eq_true rfl) hRf, Nat.le_trans (Nat.le_of_ble_eq_true rfl) hRl⟩ ⟨Nat.zero_le _, Nat.zero_le _⟩ rfl rfl (Nat.le_of_ble_eq_true rfl) dX7_step_90 (fun r h1 H locs hp hw => ?_)
      obtain ⟨e1, e2⟩ := hp; subst r; subst h1
      refine lv_imul hx hb dX7_step_93 ?_
      obtain ⟨p94, hp94, hf⟩ := cl_of hf
      refine sg_vv (rest := []) (c_X7_bringUp hn ha_a hT_a hp94) hc hw hz hml hl ha_a hT_a (by decide) rfl cv_X7_97 ⟨⟨rfl, rfl⟩, Nat.le_trans (Nat.le_of_ble_eq_true rfl) hRf, Nat.le_trans (Nat.le_of_ble_eq_true rfl) hRl⟩ ⟨Nat.zero_le _, Nat.zero_le _⟩ rfl rfl (Nat.le_of_ble_eq_true rfl) dX7_step_94 (fun h1 H locs hp hw => ?_)
      subst h1
      refine lv_iload hx hb dX7_step_97 (lv_at hl 0 rfl) ?_
      cases hf
      exact sg_iret hc hw hz hn0 hr hlocks ⟨rfl, rfl⟩ dX7_step_99
    · have hf := if_no c70 hf
      refine lv_aload_n hx hb dX7_step_73 rfl (lv_at hl 2 rfl) ?_
      refine lv_iload_n hx hb dX7_step_74 rfl (lv_at hl 3 rfl) ?_
      refine sg_puti hc hw ha_a hT_a fp_7_3 rfl rfl k_165 dX7_step_75 (fun H locs hw => ?_)
      obtain ⟨h75, hw, hf⟩ := sg_name hw hf
      refine lv_iconst (v := 0) hx hb dX7_step_78 (by decide) ?_
      cases hf
      exact sg_iret hc hw hz hn0 hr hlocks ⟨rfl, rfl⟩ dX7_step_79
  · have hf := if_no c6 hf
    refine lv_iconst (v := 0) hx hb dX7_step_9 (by decide) ?_
    cases hf
    exact sg_iret hc hw hz hn0 hr hlocks ⟨rfl, rfl⟩ dX7_step_10
theorem c_X7_step {l : Launch} {D : va_G} {cA : Nat → ClassId} {b n : Nat} (hn : sg_okN n) {a : Nat} {x1 : Int32} {x2 : Int32} (ha_a : a < n) (hT_a : sg_T a = 7) {h : HP} {Rz : Int32 × HP} (hf : F_X7_step a x1 x2 h = some Rz) : Met l yX7_step (Cond.code yX7_step cX7_step 5 (some .int) :: sg_tbl) ({ frames := 2, cells := 0, slots := 0, locals := 50 } : Room) (va_Pc [.ref (b + a), .int x1, .int x2] (sg_Wd D b cA n h)) (va_Qi (fun r u => r = Rz.1 ∧ u = Rz.2) (sg_Wd D b cA n) (sg_A b)) 0 0 (sg_A b) := by
  refine Met.ofW (cc := cX7_step) (maxL := 5) (ret := (some .int)) (by decide) rfl ?_
  intro p e s m args below meth c s₁ B hml hv
  obtain ⟨rfl, hP, hK, hz, hY, hN⟩ := hv
  have hl := lv_entry [.ref (b + a), .int x1, .int x2] (n := 5) (Nat.le_of_ble_eq_true rfl)
  rw [lg_entry_eq]
  exact w_X7_step hn ⟨B.exec, B.bytes, findClass_of_methodNamed B.named, fun w h => atoms_spec (ws := Cond.code yX7_step cX7_step 5 (some .int) :: sg_tbl) B.pre w (List.mem_cons_of_mem _ h), hK, hN⟩ hz B.returns B.notSynchronized hml (Nat.le_refl _) (Nat.le_refl _) ha_a hT_a hf _ _ _ ⟨hP, hY, va_S.rf⟩ hl
set_option maxHeartbeats 4000000 in
set_option maxRecDepth 100000 in
theorem w_X0_bearStretch {p : Program} {l : Launch} {e : Env} {R : Room} {s : State} {m : MethodId} {args : Array Value} {below : List Frame} {meth : Method} {c : Code} {D : va_G} {cA : Nat → ClassId} {b n : Nat} (hn : sg_okN n) {a : Nat} {x1 : Int32} {x2 : Int32} {x3 : Int32} {x4 : Int32} {x5 : Int32} {h : HP} {Rz : HP} (hc : sg_Cx p s m args c cX0_bearStretch RX0 D cA) (hz : s.heap.size = b + n) (hr : meth.sig.returnType = none) (hlocks : meth.locks = false) (hml : c.maxLocals = 9) (hRf : 3 ≤ R.frames) (hRl : 74 ≤ R.locals) (ha_a : a < n) (hT_a : sg_T a = 0) (hf : F_X0_bearStretch a x1 x2 x3 x4 x5 h = some Rz) (H : Heap) (locs : List Loc) (ls : Array Slot) (hw : sg_Wo D b cA n s.heap h H locs) (hl : lv_has ls 9 [(0, .ref (b + a)), (1, .int x1), (2, .int x2), (3, .int x3), (4, .int x4), (5, .int x5)]) : W p l e R s m args below meth c H locs 0 0 (sg_Qv below args s D b cA n (fun u => u = Rz)) (F0 m 0 ls []) := by
  have hx := hc.1
  have hb := hc.2.1
  have hn0 : 0 < n := sg_pos hn
  have L32 : ∀ (k : Nat) (x : (Int32 × HP)), F_X0_bearStretch_L32 a x2 x3 x4 x5 k x = some Rz → ∀ (H : Heap) (locs : List Loc) (ls : Array Slot), sg_Wo D b cA n s.heap x.2 H locs → lv_has ls 9 [(0, .ref (b + a)), (2, .int x2), (3, .int x3), (4, .int x4), (5, .int x5), (6, .int x.1)] → W p l e R s m args below meth c H locs 0 0 (sg_Qv below args s D b cA n (fun u => u = Rz)) (F0 m 32 ls []) := by
    unfold F_X0_bearStretch_L32
    refine lp_walk ?_
    intro rc32 hrc32 x hf H locs ls hw hl
    obtain ⟨x6, h⟩ := x
    dsimp only at hf hw hl
    have J114 : ∀ (x6 : Int32) (s0 : Int32) (s1 : Int32) (h : HP) (H : Heap) (locs : List Loc) (ls : Array Slot), F_X0_bearStretch_J114 a rc32 x2 x3 x4 x5 x6 s0 s1 h = some Rz → sg_Wo D b cA n s.heap h H locs → lv_has ls 9 [(0, .ref (b + a)), (2, .int x2), (3, .int x3), (4, .int x4), (5, .int x5), (6, .int x6)] → W p l e R s m args below meth c H locs 0 0 (sg_Qv below args s D b cA n (fun u => u = Rz)) (F0 m 114 ls [.int s0, .int s1, .ref (b + a)]) := by
      intro x6 s0 s1 h H locs ls hf hw hl
      unfold F_X0_bearStretch_J114 at hf
      refine lv_iadd hx hb dX0_bearStretch_114 ?_
      refine sg_puti hc hw ha_a hT_a fp_0_9 rfl rfl k_299 dX0_bearStretch_115 (fun H locs hw => ?_)
      obtain ⟨h115, hw, hf⟩ := sg_name hw hf
      refine lv_iinc (v := (x6 + 1)) (lv' := [(6, .int (x6 + 1)), (0, .ref (b + a)), (2, .int x2), (3, .int x3), (4, .int x4), (5, .int x5)]) hx hb dX0_bearStretch_118 hl (k := 5) rfl rfl (by decide) rfl (fun ls hl => ?_)
      refine lv_goto (tgt := 32) hx hb dX0_bearStretch_121 (by decide) ?_
      exact hrc32 _ hf _ _ _ hw (lv_sub hl [1, 2, 3, 4, 5, 0] rfl)
    have J89 : ∀ (x6 : Int32) (x7 : Int32) (x8 : Int32) (s0 : Int32) (s1 : Int32) (h : HP) (H : Heap) (locs : List Loc) (ls : Array Slot), F_X0_bearStretch_J89 a rc32 x2 x3 x4 x5 x6 x7 x8 s0 s1 h = some Rz → sg_Wo D b cA n s.heap h H locs → lv_has ls 9 [(0, .ref (b + a)), (2, .int x2), (3, .int x3), (4, .int x4), (5, .int x5), (6, .int x6), (7, .int x7), (8, .int x8)] → W p l e R s m args below meth c H locs 0 0 (sg_Qv below args s D b cA n (fun u => u = Rz)) (F0 m 89 ls [.int s0, .int s1, .ref (b + a)]) := by
      intro x6 x7 x8 s0 s1 h H locs ls hf hw hl
      unfold F_X0_bearStretch_J89 at hf
      refine lv_iadd hx hb dX0_bearStretch_89 ?_
      refine sg_puti hc hw ha_a hT_a fp_0_8 rfl rfl k_298 dX0_bearStretch_90 (fun H locs hw => ?_)
      obtain ⟨h90, hw, hf⟩ := sg_name hw hf
      refine lv_aload_n hx hb dX0_bearStretch_93 rfl (lv_at hl 0 rfl) ?_
      refine lv_dup hx hb dX0_bearStretch_94 rfl ?_
      refine sg_geti hc hw ha_a hT_a fi_0_9 k_299 dX0_bearStretch_95 ?_
      refine lv_iload hx hb dX0_bearStretch_98 (lv_at hl 3 rfl) ?_
      refine lv_iload hx hb dX0_bearStretch_100 (lv_at hl 6 rfl) ?_
      obtain ⟨p102, hp102, hf⟩ := cl_of hf
      refine sg_ni (rest := [.int (h90.1 a 9), .ref (b + a)]) (c_X8_isIn hn (h := h90) hp102) hc hw hz hn0 hml hl cn_X0_86 ⟨⟨rfl, rfl⟩, Nat.le_trans (Nat.le_of_ble_eq_true rfl) hRf, Nat.le_trans (Nat.le_of_ble_eq_true rfl) hRl⟩ ⟨Nat.zero_le _, Nat.zero_le _⟩ rfl rfl (Nat.le_of_ble_eq_true rfl) dX0_bearStretch_102 (fun r h1 H locs hp hw => ?_)
      obtain ⟨⟨e1, e2⟩, hb102⟩ := hp; subst r; subst h1
      refine lv_if_eq (tgt := 113) hx hb dX0_bearStretch_105 (by decide) (fun c105 => ?_) (fun c105 => ?_)
      · have hf := if_of c105 hf
        refine lv_iconst (v := 0) hx hb dX0_bearStretch_113 (by decide) ?_
        exact J114 x6 0 (h90.1 a 9) _ _ _ _ hf hw (lv_sub hl [0, 1, 2, 3, 4, 5] rfl)
      · have hf := if_no c105 hf
        refine lv_iload hx hb dX0_bearStretch_108 (lv_at hl 7 rfl) ?_
        refine lv_goto (tgt := 114) hx hb dX0_bearStretch_110 (by decide) ?_
        exact J114 x6 x8 (h90.1 a 9) _ _ _ _ hf hw (lv_sub hl [0, 1, 2, 3, 4, 5] rfl)
    have J67 : ∀ (x6 : Int32) (x7 : Int32) (s0 : Int32) (h : HP) (H : Heap) (locs : List Loc) (ls : Array Slot), F_X0_bearStretch_J67 a rc32 x2 x3 x4 x5 x6 x7 s0 h = some Rz → sg_Wo D b cA n s.heap h H locs → lv_has ls 9 [(0, .ref (b + a)), (2, .int x2), (3, .int x3), (4, .int x4), (5, .int x5), (6, .int x6), (7, .int x7)] → W p l e R s m args below meth c H locs 0 0 (sg_Qv below args s D b cA n (fun u => u = Rz)) (F0 m 67 ls [.int s0]) := by
      intro x6 x7 s0 h H locs ls hf hw hl
      unfold F_X0_bearStretch_J67 at hf
      refine lv_istore (lv' := [(8, .int s0), (0, .ref (b + a)), (2, .int x2), (3, .int x3), (4, .int x4), (5, .int x5), (6, .int x6), (7, .int x7)]) hx hb dX0_bearStretch_67 hl (by decide) rfl (fun ls hl => ?_)
      refine lv_aload_n hx hb dX0_bearStretch_69 rfl (lv_at hl 1 rfl) ?_
      refine lv_dup hx hb dX0_bearStretch_70 rfl ?_
      refine sg_geti hc hw ha_a hT_a fi_0_8 k_298 dX0_bearStretch_71 ?_
      refine lv_iload_n hx hb dX0_bearStretch_74 rfl (lv_at hl 3 rfl) ?_
      refine lv_iload hx hb dX0_bearStretch_75 (lv_at hl 7 rfl) ?_
      obtain ⟨p77, hp77, hf⟩ := cl_of hf
      refine sg_ni (rest := [.int (h.1 a 8), .ref (b + a)]) (c_X8_isIn hn (h := h) hp77) hc hw hz hn0 hml hl cn_X0_86 ⟨⟨rfl, rfl⟩, Nat.le_trans (Nat.le_of_ble_eq_true rfl) hRf, Nat.le_trans (Nat.le_of_ble_eq_true rfl) hRl⟩ ⟨Nat.zero_le _, Nat.zero_le _⟩ rfl rfl (Nat.le_of_ble_eq_true rfl) dX0_bearStretch_77 (fun r h1 H locs hp hw => ?_)
      obtain ⟨⟨e1, e2⟩, hb77⟩ := hp; subst r; subst h1
      refine lv_if_eq (tgt := 88) hx hb dX0_bearStretch_80 (by decide) (fun c80 => ?_) (fun c80 => ?_)
      · have hf := if_of c80 hf
        refine lv_iconst (v := 0) hx hb dX0_bearStretch_88 (by decide) ?_
        exact J89 x6 x7 s0 0 (h.1 a 8) _ _ _ _ hf hw (lv_sub hl [1, 2, 3, 4, 5, 6, 7, 0] rfl)
      · have hf := if_no c80 hf
        refine lv_iload hx hb dX0_bearStretch_83 (lv_at hl 0 rfl) ?_
        refine lv_goto (tgt := 89) hx hb dX0_bearStretch_85 (by decide) ?_
        exact J89 x6 x7 s0 s0 (h.1 a 8) _ _ _ _ hf hw (lv_sub hl [1, 2, 3, 4, 5, 6, 7, 0] rfl)
    refine lv_iload hx hb dX0_bearStretch_32 (lv_at hl 5 rfl) ?_
    refine lv_iload_n hx hb dX0_bearStretch_34 rfl (lv_at hl 1 rfl) ?_
    refine lv_icmp_ge (tgt := 124) hx hb dX0_bearStretch_35 (by decide) (fun c35 => ?_) (fun c35 => ?_)
    · have hf := if_of c35 hf
      cases hf
      exact sg_vret hc hw hz hn0 hr hlocks rfl dX0_bearStretch_124
    · have hf := if_no c35 hf
      refine lv_aload_n hx hb dX0_bearStretch_38 rfl (lv_at hl 0 rfl) ?_
      obtain ⟨hF39, hT39, ha39⟩ := ft_0_3 hn ha_a hT_a
      refine sg_getf (q := (a + 5)) hc hw ha_a hT_a fr_0_3 (by decide) k_293 dX0_bearStretch_39 hF39 ?_
      refine lv_iload hx hb dX0_bearStretch_42 (lv_at hl 5 rfl) ?_
      refine lv_iload hx hb dX0_bearStretch_44 (lv_at hl 4 rfl) ?_
      obtain ⟨p46, hp46, hf⟩ := cl_of hf
      refine sg_vi (rest := []) (c_X7_step hn ha39 hT39 hp46) hc hw hz hml hl ha39 hT39 (by decide) rfl cv_X0_76 ⟨⟨rfl, rfl⟩, Nat.le_trans (Nat.le_of_ble_eq_true rfl) hRf, Nat.le_trans (Nat.le_of_ble_eq_true rfl) hRl⟩ ⟨Nat.zero_le _, Nat.zero_le _⟩ rfl rfl (Nat.le_of_ble_eq_true rfl) dX0_bearStretch_46 (fun r h1 H locs hp hw => ?_)
      obtain ⟨e1, e2⟩ := hp; subst r; subst h1
      refine lv_istore (lv' := [(7, .int p46.1), (0, .ref (b + a)), (2, .int x2), (3, .int x3), (4, .int x4), (5, .int x5), (6, .int x6)]) hx hb dX0_bearStretch_49 hl (by decide) rfl (fun ls hl => ?_)
      refine lv_iload hx hb dX0_bearStretch_51 (lv_at hl 0 rfl) ?_
      obtain ⟨p53, hp53, hf⟩ := cl_of hf
      refine sg_si (rest := []) (c_J6_bitCount_0f7a4 hn (h := p46.2) hp53) hc hw hz hn0 hml hl cs_X0_80 ⟨⟨rfl, rfl⟩, Nat.le_trans (Nat.le_of_ble_eq_true rfl) hRf, Nat.le_trans (Nat.le_of_ble_eq_true rfl) hRl⟩ ⟨Nat.zero_le _, Nat.zero_le _⟩ rfl rfl (Nat.le_of_ble_eq_true rfl) dX0_bearStretch_53 (fun r h1 H locs hp hw => ?_)
      obtain ⟨e1, e2⟩ := hp; subst r; subst h1
      refine lv_iconst (v := 1) hx hb dX0_bearStretch_56 (by decide) ?_
      refine lv_icmp_le (tgt := 65) hx hb dX0_bearStretch_57 (by decide) (fun c57 => ?_) (fun c57 => ?_)
      · have hf := if_of c57 hf
        refine lv_bipush (v := 60) hx hb dX0_bearStretch_65 (by decide) ?_
        exact J67 x6 p46.1 60 _ _ _ _ hf hw (lv_sub hl [1, 2, 3, 4, 5, 6, 0] rfl)
      · have hf := if_no c57 hf
        refine lv_bipush (v := 30) hx hb dX0_bearStretch_60 (by decide) ?_
        refine lv_goto (tgt := 67) hx hb dX0_bearStretch_62 (by decide) ?_
        exact J67 x6 p46.1 30 _ _ _ _ hf hw (lv_sub hl [1, 2, 3, 4, 5, 6, 0] rfl)
  unfold F_X0_bearStretch at hf
  refine lv_aload_n hx hb dX0_bearStretch_0 rfl (lv_at hl 0 rfl) ?_
  obtain ⟨hF1, hT1, ha1⟩ := ft_0_3 hn ha_a hT_a
  refine sg_getf (q := (a + 5)) hc hw ha_a hT_a fr_0_3 (by decide) k_293 dX0_bearStretch_1 hF1 ?_
  refine lv_aload_n hx hb dX0_bearStretch_4 rfl (lv_at hl 0 rfl) ?_
  obtain ⟨hF5, hT5, ha5⟩ := ft_0_2 hn ha_a hT_a
  refine sg_getf (q := 15) hc hw ha_a hT_a fr_0_2 (by decide) k_292 dX0_bearStretch_5 hF5 ?_
  obtain ⟨p8, hp8, hf⟩ := cl_of hf
  refine sg_vv (rest := []) (c_X7_begin hn ha1 hT1 ha5 hT5 hp8) hc hw hz hml hl ha1 hT1 (by decide) rfl cv_X0_70 ⟨⟨rfl, rfl⟩, Nat.le_trans (Nat.le_of_ble_eq_true rfl) hRf, Nat.le_trans (Nat.le_of_ble_eq_true rfl) hRl⟩ ⟨Nat.zero_le _, Nat.zero_le _⟩ rfl rfl (Nat.le_of_ble_eq_true rfl) dX0_bearStretch_8 (fun h1 H locs hp hw => ?_)
  subst h1
  refine lv_aload_n hx hb dX0_bearStretch_11 rfl (lv_at hl 0 rfl) ?_
  refine sg_getf (q := (a + 5)) hc hw ha_a hT_a fr_0_3 (by decide) k_293 dX0_bearStretch_12 (ft_0_3 hn ha_a hT_a).1 ?_
  refine lv_iconst (v := 0) hx hb dX0_bearStretch_15 (by decide) ?_
  refine sg_puti hc hw ha1 hT1 fp_7_1 rfl rfl k_162 dX0_bearStretch_16 (fun H locs hw => ?_)
  obtain ⟨h16, hw, hf⟩ := sg_name hw hf
  refine lv_aload_n hx hb dX0_bearStretch_19 rfl (lv_at hl 0 rfl) ?_
  refine lv_iconst (v := 0) hx hb dX0_bearStretch_20 (by decide) ?_
  refine sg_puti hc hw ha_a hT_a fp_0_8 rfl rfl k_298 dX0_bearStretch_21 (fun H locs hw => ?_)
  obtain ⟨h21, hw, hf⟩ := sg_name hw hf
  refine lv_aload_n hx hb dX0_bearStretch_24 rfl (lv_at hl 0 rfl) ?_
  refine lv_iconst (v := 0) hx hb dX0_bearStretch_25 (by decide) ?_
  refine sg_puti hc hw ha_a hT_a fp_0_9 rfl rfl k_299 dX0_bearStretch_26 (fun H locs hw => ?_)
  obtain ⟨h26, hw, hf⟩ := sg_name hw hf
  refine lv_iload_n hx hb dX0_bearStretch_29 rfl (lv_at hl 1 rfl) ?_
  refine lv_istore (lv' := [(6, .int x1), (0, .ref (b + a)), (1, .int x1), (2, .int x2), (3, .int x3), (4, .int x4), (5, .int x5)]) hx hb dX0_bearStretch_30 hl (by decide) rfl (fun ls hl => ?_)
  exact L32 _ _ hf _ _ _ hw (lv_sub hl [1, 3, 4, 5, 6, 0] rfl)
theorem c_X0_bearStretch {l : Launch} {D : va_G} {cA : Nat → ClassId} {b n : Nat} (hn : sg_okN n) {a : Nat} {x1 : Int32} {x2 : Int32} {x3 : Int32} {x4 : Int32} {x5 : Int32} (ha_a : a < n) (hT_a : sg_T a = 0) {h : HP} {Rz : HP} (hf : F_X0_bearStretch a x1 x2 x3 x4 x5 h = some Rz) : Met l yX0_bearStretch (Cond.code yX0_bearStretch cX0_bearStretch 9 none :: sg_tbl) ({ frames := 3, cells := 0, slots := 0, locals := 74 } : Room) (va_Pc [.ref (b + a), .int x1, .int x2, .int x3, .int x4, .int x5] (sg_Wd D b cA n h)) (va_Qv (fun u => u = Rz) (sg_Wd D b cA n) (sg_A b)) 0 0 (sg_A b) := by
  refine Met.ofW (cc := cX0_bearStretch) (maxL := 9) (ret := none) (by decide) rfl ?_
  intro p e s m args below meth c s₁ B hml hv
  obtain ⟨rfl, hP, hK, hz, hY, hN⟩ := hv
  have hl := lv_entry [.ref (b + a), .int x1, .int x2, .int x3, .int x4, .int x5] (n := 9) (Nat.le_of_ble_eq_true rfl)
  rw [lg_entry_eq]
  exact w_X0_bearStretch hn ⟨B.exec, B.bytes, findClass_of_methodNamed B.named, fun w h => atoms_spec (ws := Cond.code yX0_bearStretch cX0_bearStretch 9 none :: sg_tbl) B.pre w (List.mem_cons_of_mem _ h), hK, hN⟩ hz B.returns B.notSynchronized hml (Nat.le_refl _) (Nat.le_refl _) ha_a hT_a hf _ _ _ ⟨hP, hY, va_S.rf⟩ hl
set_option maxHeartbeats 4000000 in
set_option maxRecDepth 100000 in
theorem w_X0_fill {p : Program} {l : Launch} {e : Env} {R : Room} {s : State} {m : MethodId} {args : Array Value} {below : List Frame} {meth : Method} {c : Code} {D : va_G} {cA : Nat → ClassId} {b n : Nat} (hn : sg_okN n) {a : Nat} {x1 : Int32} {x2 : Int32} {h : HP} {Rz : HP} (hc : sg_Cx p s m args c cX0_fill RX0 D cA) (hz : s.heap.size = b + n) (hr : meth.sig.returnType = none) (hlocks : meth.locks = false) (hml : c.maxLocals = 6) (hRf : 4 ≤ R.frames) (hRl : 102 ≤ R.locals) (ha_a : a < n) (hT_a : sg_T a = 0) (hf : F_X0_fill a x1 x2 h = some Rz) (H : Heap) (locs : List Loc) (ls : Array Slot) (hw : sg_Wo D b cA n s.heap h H locs) (hl : lv_has ls 6 [(0, .ref (b + a)), (1, .int x1), (2, .int x2)]) : W p l e R s m args below meth c H locs 0 0 (sg_Qv below args s D b cA n (fun u => u = Rz)) (F0 m 0 ls []) := by
  have hx := hc.1
  have hb := hc.2.1
  have hn0 : 0 < n := sg_pos hn
  have L5 : ∀ (k : Nat) (x : (Int32 × Int32 × HP)), F_X0_fill_L5 a x1 x2 k x = some Rz → ∀ (H : Heap) (locs : List Loc) (ls : Array Slot), sg_Wo D b cA n s.heap x.2.2 H locs → lv_has ls 6 [(0, .ref (b + a)), (1, .int x1), (2, .int x2), (3, .int x.1), (4, .int x.2.1)] → W p l e R s m args below meth c H locs 0 0 (sg_Qv below args s D b cA n (fun u => u = Rz)) (F0 m 5 ls []) := by
    unfold F_X0_fill_L5
    refine lp_walk ?_
    intro rc5 hrc5 x hf H locs ls hw hl
    obtain ⟨x3, x4, h⟩ := x
    dsimp only at hf hw hl
    refine lv_iload hx hb dX0_fill_5 (lv_at hl 4 rfl) ?_
    refine lv_aload_n hx hb dX0_fill_7 rfl (lv_at hl 0 rfl) ?_
    obtain ⟨hF8, hT8, ha8⟩ := ft_0_2 hn ha_a hT_a
    refine sg_getf (q := 15) hc hw ha_a hT_a fr_0_2 (by decide) k_292 dX0_fill_8 hF8 ?_
    refine sg_geti hc hw ha8 hT8 fi_1_0 k_39 dX0_fill_11 ?_
    refine lv_icmp_ge (tgt := 124) hx hb dX0_fill_14 (by decide) (fun c14 => ?_) (fun c14 => ?_)
    · have hf := if_of c14 hf
      cases hf
      exact sg_vret hc hw hz hn0 hr hlocks rfl dX0_fill_124
    · have hf := if_no c14 hf
      refine lv_iload_n hx hb dX0_fill_17 rfl (lv_at hl 3 rfl) ?_
      refine lv_aload_n hx hb dX0_fill_18 rfl (lv_at hl 0 rfl) ?_
      refine sg_getf (q := 15) hc hw ha_a hT_a fr_0_2 (by decide) k_292 dX0_fill_19 (ft_0_2 hn ha_a hT_a).1 ?_
      obtain ⟨hF22, hT22, ha22, hN22⟩ := ft_1_5 hn ha8 hT8
      refine sg_getf (q := 16) hc hw ha8 hT8 fr_1_5 (by decide) k_58 dX0_fill_22 hF22 ?_
      refine lv_iload hx hb dX0_fill_25 (lv_at hl 4 rfl) ?_
      obtain ⟨hg27, hf⟩ := gd_of hf
      refine sg_ild hc hw ha22 hT22 hN22 hg27 dX0_fill_27 ?_
      refine lv_iadd hx hb dX0_fill_28 ?_
      refine lv_topi (fun v29 e29 => ?_)
      have hf := nm_of e29 hf
      refine lv_istore (lv' := [(5, .int v29), (0, .ref (b + a)), (1, .int x1), (2, .int x2), (3, .int x3), (4, .int x4)]) hx hb dX0_fill_29 hl (by decide) rfl (fun ls hl => ?_)
      refine lv_aload_n hx hb dX0_fill_31 rfl (lv_at hl 1 rfl) ?_
      refine lv_iload_n hx hb dX0_fill_32 rfl (lv_at hl 4 rfl) ?_
      refine lv_iload hx hb dX0_fill_33 (lv_at hl 0 rfl) ?_
      refine lv_iload_n hx hb dX0_fill_35 rfl (lv_at hl 2 rfl) ?_
      refine lv_iload_n hx hb dX0_fill_36 rfl (lv_at hl 3 rfl) ?_
      refine lv_iconst (v := 1) hx hb dX0_fill_37 (by decide) ?_
      refine lv_iload_n hx hb dX0_fill_38 rfl (lv_at hl 2 rfl) ?_
      refine lv_ishl hx hb dX0_fill_39 ?_
      obtain ⟨p40, hp40, hf⟩ := cl_of hf
      refine sg_vv (rest := []) (c_X0_bearStretch hn ha_a hT_a hp40) hc hw hz hml hl ha_a hT_a (by decide) rfl cv_X0_60 ⟨⟨rfl, rfl⟩, Nat.le_trans (Nat.le_of_ble_eq_true rfl) hRf, Nat.le_trans (Nat.le_of_ble_eq_true rfl) hRl⟩ ⟨Nat.zero_le _, Nat.zero_le _⟩ rfl rfl (Nat.le_of_ble_eq_true rfl) dX0_fill_40 (fun h1 H locs hp hw => ?_)
      subst h1
      refine lv_aload_n hx hb dX0_fill_43 rfl (lv_at hl 1 rfl) ?_
      obtain ⟨hF44, hT44, ha44, hN44⟩ := ft_0_4 hn ha_a hT_a
      refine sg_getf (q := (a + 1)) hc hw ha_a hT_a fr_0_4 (by decide) k_294 dX0_fill_44 hF44 ?_
      refine lv_iload hx hb dX0_fill_47 (lv_at hl 5 rfl) ?_
      refine lv_aload_n hx hb dX0_fill_49 rfl (lv_at hl 1 rfl) ?_
      refine sg_geti hc hw ha_a hT_a fi_0_8 k_298 dX0_fill_50 ?_
      obtain ⟨hg53, hf⟩ := gd_of hf
      refine sg_ist hc hw ha44 hT44 hN44 hg53 dX0_fill_53 (fun H locs hw => ?_)
      obtain ⟨h53, hw, hf⟩ := sg_name hw hf
      refine lv_aload_n hx hb dX0_fill_54 rfl (lv_at hl 1 rfl) ?_
      refine lv_iload_n hx hb dX0_fill_55 rfl (lv_at hl 4 rfl) ?_
      refine lv_iload hx hb dX0_fill_56 (lv_at hl 0 rfl) ?_
      refine lv_iload_n hx hb dX0_fill_58 rfl (lv_at hl 2 rfl) ?_
      refine lv_iload_n hx hb dX0_fill_59 rfl (lv_at hl 3 rfl) ?_
      refine lv_iconst (v := 1) hx hb dX0_fill_60 (by decide) ?_
      refine lv_iload_n hx hb dX0_fill_61 rfl (lv_at hl 3 rfl) ?_
      refine lv_ishl hx hb dX0_fill_62 ?_
      obtain ⟨p63, hp63, hf⟩ := cl_of hf
      refine sg_vv (rest := []) (c_X0_bearStretch hn ha_a hT_a hp63) hc hw hz hml hl ha_a hT_a (by decide) rfl cv_X0_60 ⟨⟨rfl, rfl⟩, Nat.le_trans (Nat.le_of_ble_eq_true rfl) hRf, Nat.le_trans (Nat.le_of_ble_eq_true rfl) hRl⟩ ⟨Nat.zero_le _, Nat.zero_le _⟩ rfl rfl (Nat.le_of_ble_eq_true rfl) dX0_fill_63 (fun h1 H locs hp hw => ?_)
      subst h1
      refine lv_aload_n hx hb dX0_fill_66 rfl (lv_at hl 1 rfl) ?_
      obtain ⟨hF67, hT67, ha67, hN67⟩ := ft_0_6 hn ha_a hT_a
      refine sg_getf (q := (a + 3)) hc hw ha_a hT_a fr_0_6 (by decide) k_296 dX0_fill_67 hF67 ?_
      refine lv_iload hx hb dX0_fill_70 (lv_at hl 5 rfl) ?_
      refine lv_aload_n hx hb dX0_fill_72 rfl (lv_at hl 1 rfl) ?_
      refine sg_geti hc hw ha_a hT_a fi_0_9 k_299 dX0_fill_73 ?_
      obtain ⟨hg76, hf⟩ := gd_of hf
      refine sg_ist hc hw ha67 hT67 hN67 hg76 dX0_fill_76 (fun H locs hw => ?_)
      obtain ⟨h76, hw, hf⟩ := sg_name hw hf
      refine lv_aload_n hx hb dX0_fill_77 rfl (lv_at hl 1 rfl) ?_
      refine lv_iload_n hx hb dX0_fill_78 rfl (lv_at hl 4 rfl) ?_
      refine lv_iload hx hb dX0_fill_79 (lv_at hl 0 rfl) ?_
      refine lv_iload_n hx hb dX0_fill_81 rfl (lv_at hl 2 rfl) ?_
      refine lv_iload_n hx hb dX0_fill_82 rfl (lv_at hl 3 rfl) ?_
      refine lv_iconst (v := 1) hx hb dX0_fill_83 (by decide) ?_
      refine lv_iload_n hx hb dX0_fill_84 rfl (lv_at hl 2 rfl) ?_
      refine lv_ishl hx hb dX0_fill_85 ?_
      refine lv_iconst (v := 1) hx hb dX0_fill_86 (by decide) ?_
      refine lv_iload_n hx hb dX0_fill_87 rfl (lv_at hl 3 rfl) ?_
      refine lv_ishl hx hb dX0_fill_88 ?_
      refine lv_ior hx hb dX0_fill_89 ?_
      obtain ⟨p90, hp90, hf⟩ := cl_of hf
      refine sg_vv (rest := []) (c_X0_bearStretch hn ha_a hT_a hp90) hc hw hz hml hl ha_a hT_a (by decide) rfl cv_X0_60 ⟨⟨rfl, rfl⟩, Nat.le_trans (Nat.le_of_ble_eq_true rfl) hRf, Nat.le_trans (Nat.le_of_ble_eq_true rfl) hRl⟩ ⟨Nat.zero_le _, Nat.zero_le _⟩ rfl rfl (Nat.le_of_ble_eq_true rfl) dX0_fill_90 (fun h1 H locs hp hw => ?_)
      subst h1
      refine lv_aload_n hx hb dX0_fill_93 rfl (lv_at hl 1 rfl) ?_
      obtain ⟨hF94, hT94, ha94, hN94⟩ := ft_0_5 hn ha_a hT_a
      refine sg_getf (q := (a + 2)) hc hw ha_a hT_a fr_0_5 (by decide) k_295 dX0_fill_94 hF94 ?_
      refine lv_iload hx hb dX0_fill_97 (lv_at hl 5 rfl) ?_
      refine lv_aload_n hx hb dX0_fill_99 rfl (lv_at hl 1 rfl) ?_
      refine sg_geti hc hw ha_a hT_a fi_0_8 k_298 dX0_fill_100 ?_
      obtain ⟨hg103, hf⟩ := gd_of hf
      refine sg_ist hc hw ha94 hT94 hN94 hg103 dX0_fill_103 (fun H locs hw => ?_)
      obtain ⟨h103, hw, hf⟩ := sg_name hw hf
      refine lv_aload_n hx hb dX0_fill_104 rfl (lv_at hl 1 rfl) ?_
      obtain ⟨hF105, hT105, ha105, hN105⟩ := ft_0_7 hn ha_a hT_a
      refine sg_getf (q := (a + 4)) hc hw ha_a hT_a fr_0_7 (by decide) k_297 dX0_fill_105 hF105 ?_
      refine lv_iload hx hb dX0_fill_108 (lv_at hl 5 rfl) ?_
      refine lv_aload_n hx hb dX0_fill_110 rfl (lv_at hl 1 rfl) ?_
      refine sg_geti hc hw ha_a hT_a fi_0_9 k_299 dX0_fill_111 ?_
      obtain ⟨hg114, hf⟩ := gd_of hf
      refine sg_ist hc hw ha105 hT105 hN105 hg114 dX0_fill_114 (fun H locs hw => ?_)
      obtain ⟨h114, hw, hf⟩ := sg_name hw hf
      refine lv_iload hx hb dX0_fill_115 (lv_at hl 0 rfl) ?_
      refine lv_istore_n (lv' := [(3, .int v29), (5, .int v29), (0, .ref (b + a)), (1, .int x1), (2, .int x2), (4, .int x4)]) hx hb dX0_fill_117 rfl hl (by decide) rfl (fun ls hl => ?_)
      refine lv_iinc (v := (x4 + 1)) (lv' := [(4, .int (x4 + 1)), (3, .int v29), (5, .int v29), (0, .ref (b + a)), (1, .int x1), (2, .int x2)]) hx hb dX0_fill_118 hl (k := 5) rfl rfl (by decide) rfl (fun ls hl => ?_)
      refine lv_goto (tgt := 5) hx hb dX0_fill_121 (by decide) ?_
      exact hrc5 _ hf _ _ _ hw (lv_sub hl [3, 4, 5, 1, 0] rfl)
  unfold F_X0_fill at hf
  refine lv_iconst (v := 0) hx hb dX0_fill_0 (by decide) ?_
  refine lv_istore_n (lv' := [(3, .int 0), (0, .ref (b + a)), (1, .int x1), (2, .int x2)]) hx hb dX0_fill_1 rfl hl (by decide) rfl (fun ls hl => ?_)
  refine lv_iconst (v := 0) hx hb dX0_fill_2 (by decide) ?_
  refine lv_istore (lv' := [(4, .int 0), (3, .int 0), (0, .ref (b + a)), (1, .int x1), (2, .int x2)]) hx hb dX0_fill_3 hl (by decide) rfl (fun ls hl => ?_)
  exact L5 _ _ hf _ _ _ hw (lv_sub hl [2, 3, 4, 1, 0] rfl)
theorem c_X0_fill {l : Launch} {D : va_G} {cA : Nat → ClassId} {b n : Nat} (hn : sg_okN n) {a : Nat} {x1 : Int32} {x2 : Int32} (ha_a : a < n) (hT_a : sg_T a = 0) {h : HP} {Rz : HP} (hf : F_X0_fill a x1 x2 h = some Rz) : Met l yX0_fill (Cond.code yX0_fill cX0_fill 6 none :: sg_tbl) ({ frames := 4, cells := 0, slots := 0, locals := 102 } : Room) (va_Pc [.ref (b + a), .int x1, .int x2] (sg_Wd D b cA n h)) (va_Qv (fun u => u = Rz) (sg_Wd D b cA n) (sg_A b)) 0 0 (sg_A b) := by
  refine Met.ofW (cc := cX0_fill) (maxL := 6) (ret := none) (by decide) rfl ?_
  intro p e s m args below meth c s₁ B hml hv
  obtain ⟨rfl, hP, hK, hz, hY, hN⟩ := hv
  have hl := lv_entry [.ref (b + a), .int x1, .int x2] (n := 6) (Nat.le_of_ble_eq_true rfl)
  rw [lg_entry_eq]
  exact w_X0_fill hn ⟨B.exec, B.bytes, findClass_of_methodNamed B.named, fun w h => atoms_spec (ws := Cond.code yX0_fill cX0_fill 6 none :: sg_tbl) B.pre w (List.mem_cons_of_mem _ h), hK, hN⟩ hz B.returns B.notSynchronized hml (Nat.le_refl _) (Nat.le_refl _) ha_a hT_a hf _ _ _ ⟨hP, hY, va_S.rf⟩ hl
set_option maxHeartbeats 4000000 in
set_option maxRecDepth 100000 in
theorem w_X0_ofFirst {p : Program} {l : Launch} {e : Env} {R : Room} {s : State} {m : MethodId} {args : Array Value} {below : List Frame} {meth : Method} {c : Code} {D : va_G} {cA : Nat → ClassId} {b n : Nat} (hn : sg_okN n) {a : Nat} {x1 : Int32} {x2 : Int32} {h : HP} {Rz : Int32} (hc : sg_Cx p s m args c cX0_ofFirst RX0 D cA) (hz : s.heap.size = b + n) (hr : meth.sig.returnType = some .int) (hlocks : meth.locks = false) (hml : c.maxLocals = 3) (hRf : 0 ≤ R.frames) (hRl : 0 ≤ R.locals) (ha_a : a < n) (hT_a : sg_T a = 0) (hf : F_X0_ofFirst a x1 x2 h = some Rz) (H : Heap) (locs : List Loc) (ls : Array Slot) (hw : sg_Wo D b cA n s.heap h H locs) (hl : lv_has ls 3 [(0, .ref (b + a)), (1, .int x1), (2, .int x2)]) : W p l e R s m args below meth c H locs 0 0 (sg_Qi below args s D b cA n (fun r u => r = Rz ∧ u = h)) (F0 m 0 ls []) := by
  have hx := hc.1
  have hb := hc.2.1
  have hn0 : 0 < n := sg_pos hn
  unfold F_X0_ofFirst at hf
  refine lv_iload_n hx hb dX0_ofFirst_0 rfl (lv_at hl 1 rfl) ?_
  refine lv_iload_n hx hb dX0_ofFirst_1 rfl (lv_at hl 2 rfl) ?_
  refine lv_icmp_ne (tgt := 14) hx hb dX0_ofFirst_2 (by decide) (fun c2 => ?_) (fun c2 => ?_)
  · have hf := if_no c2 hf
    refine lv_aload_n hx hb dX0_ofFirst_14 rfl (lv_at hl 0 rfl) ?_
    obtain ⟨hF15, hT15, ha15, hN15⟩ := ft_0_4 hn ha_a hT_a
    refine sg_getf (q := (a + 1)) hc hw ha_a hT_a fr_0_4 (by decide) k_294 dX0_ofFirst_15 hF15 ?_
    refine lv_iload_n hx hb dX0_ofFirst_18 rfl (lv_at hl 1 rfl) ?_
    obtain ⟨hg19, hf⟩ := gd_of hf
    refine sg_ild hc hw ha15 hT15 hN15 hg19 dX0_ofFirst_19 ?_
    cases hf
    exact sg_iret hc hw hz hn0 hr hlocks ⟨rfl, rfl⟩ dX0_ofFirst_20
  · have hf := if_of c2 hf
    refine lv_aload_n hx hb dX0_ofFirst_5 rfl (lv_at hl 0 rfl) ?_
    obtain ⟨hF6, hT6, ha6, hN6⟩ := ft_0_5 hn ha_a hT_a
    refine sg_getf (q := (a + 2)) hc hw ha_a hT_a fr_0_5 (by decide) k_295 dX0_ofFirst_6 hF6 ?_
    refine lv_iload_n hx hb dX0_ofFirst_9 rfl (lv_at hl 1 rfl) ?_
    obtain ⟨hg10, hf⟩ := gd_of hf
    refine sg_ild hc hw ha6 hT6 hN6 hg10 dX0_ofFirst_10 ?_
    refine lv_goto (tgt := 20) hx hb dX0_ofFirst_11 (by decide) ?_
    cases hf
    exact sg_iret hc hw hz hn0 hr hlocks ⟨rfl, rfl⟩ dX0_ofFirst_20
theorem c_X0_ofFirst {l : Launch} {D : va_G} {cA : Nat → ClassId} {b n : Nat} (hn : sg_okN n) {a : Nat} {x1 : Int32} {x2 : Int32} (ha_a : a < n) (hT_a : sg_T a = 0) {h : HP} {Rz : Int32} (hf : F_X0_ofFirst a x1 x2 h = some Rz) : Met l yX0_ofFirst (Cond.code yX0_ofFirst cX0_ofFirst 3 (some .int) :: sg_tbl) ({ frames := 0, cells := 0, slots := 0, locals := 0 } : Room) (va_Pc [.ref (b + a), .int x1, .int x2] (sg_Wd D b cA n h)) (va_Qi (fun r u => r = Rz ∧ u = h) (sg_Wd D b cA n) (sg_A b)) 0 0 (sg_A b) := by
  refine Met.ofW (cc := cX0_ofFirst) (maxL := 3) (ret := (some .int)) (by decide) rfl ?_
  intro p e s m args below meth c s₁ B hml hv
  obtain ⟨rfl, hP, hK, hz, hY, hN⟩ := hv
  have hl := lv_entry [.ref (b + a), .int x1, .int x2] (n := 3) (Nat.le_of_ble_eq_true rfl)
  rw [lg_entry_eq]
  exact w_X0_ofFirst hn ⟨B.exec, B.bytes, findClass_of_methodNamed B.named, fun w h => atoms_spec (ws := Cond.code yX0_ofFirst cX0_ofFirst 3 (some .int) :: sg_tbl) B.pre w (List.mem_cons_of_mem _ h), hK, hN⟩ hz B.returns B.notSynchronized hml (Nat.le_refl _) (Nat.le_refl _) ha_a hT_a hf _ _ _ ⟨hP, hY, va_S.rf⟩ hl
set_option maxHeartbeats 4000000 in
set_option maxRecDepth 100000 in
theorem w_X0_ofOther {p : Program} {l : Launch} {e : Env} {R : Room} {s : State} {m : MethodId} {args : Array Value} {below : List Frame} {meth : Method} {c : Code} {D : va_G} {cA : Nat → ClassId} {b n : Nat} (hn : sg_okN n) {a : Nat} {x1 : Int32} {x2 : Int32} {h : HP} {Rz : Int32} (hc : sg_Cx p s m args c cX0_ofOther RX0 D cA) (hz : s.heap.size = b + n) (hr : meth.sig.returnType = some .int) (hlocks : meth.locks = false) (hml : c.maxLocals = 3) (hRf : 0 ≤ R.frames) (hRl : 0 ≤ R.locals) (ha_a : a < n) (hT_a : sg_T a = 0) (hf : F_X0_ofOther a x1 x2 h = some Rz) (H : Heap) (locs : List Loc) (ls : Array Slot) (hw : sg_Wo D b cA n s.heap h H locs) (hl : lv_has ls 3 [(0, .ref (b + a)), (1, .int x1), (2, .int x2)]) : W p l e R s m args below meth c H locs 0 0 (sg_Qi below args s D b cA n (fun r u => r = Rz ∧ u = h)) (F0 m 0 ls []) := by
  have hx := hc.1
  have hb := hc.2.1
  have hn0 : 0 < n := sg_pos hn
  unfold F_X0_ofOther at hf
  refine lv_iload_n hx hb dX0_ofOther_0 rfl (lv_at hl 1 rfl) ?_
  refine lv_iload_n hx hb dX0_ofOther_1 rfl (lv_at hl 2 rfl) ?_
  refine lv_icmp_ne (tgt := 14) hx hb dX0_ofOther_2 (by decide) (fun c2 => ?_) (fun c2 => ?_)
  · have hf := if_no c2 hf
    refine lv_aload_n hx hb dX0_ofOther_14 rfl (lv_at hl 0 rfl) ?_
    obtain ⟨hF15, hT15, ha15, hN15⟩ := ft_0_6 hn ha_a hT_a
    refine sg_getf (q := (a + 3)) hc hw ha_a hT_a fr_0_6 (by decide) k_296 dX0_ofOther_15 hF15 ?_
    refine lv_iload_n hx hb dX0_ofOther_18 rfl (lv_at hl 2 rfl) ?_
    obtain ⟨hg19, hf⟩ := gd_of hf
    refine sg_ild hc hw ha15 hT15 hN15 hg19 dX0_ofOther_19 ?_
    cases hf
    exact sg_iret hc hw hz hn0 hr hlocks ⟨rfl, rfl⟩ dX0_ofOther_20
  · have hf := if_of c2 hf
    refine lv_aload_n hx hb dX0_ofOther_5 rfl (lv_at hl 0 rfl) ?_
    obtain ⟨hF6, hT6, ha6, hN6⟩ := ft_0_7 hn ha_a hT_a
    refine sg_getf (q := (a + 4)) hc hw ha_a hT_a fr_0_7 (by decide) k_297 dX0_ofOther_6 hF6 ?_
    refine lv_iload_n hx hb dX0_ofOther_9 rfl (lv_at hl 2 rfl) ?_
    obtain ⟨hg10, hf⟩ := gd_of hf
    refine sg_ild hc hw ha6 hT6 hN6 hg10 dX0_ofOther_10 ?_
    refine lv_goto (tgt := 20) hx hb dX0_ofOther_11 (by decide) ?_
    cases hf
    exact sg_iret hc hw hz hn0 hr hlocks ⟨rfl, rfl⟩ dX0_ofOther_20
theorem c_X0_ofOther {l : Launch} {D : va_G} {cA : Nat → ClassId} {b n : Nat} (hn : sg_okN n) {a : Nat} {x1 : Int32} {x2 : Int32} (ha_a : a < n) (hT_a : sg_T a = 0) {h : HP} {Rz : Int32} (hf : F_X0_ofOther a x1 x2 h = some Rz) : Met l yX0_ofOther (Cond.code yX0_ofOther cX0_ofOther 3 (some .int) :: sg_tbl) ({ frames := 0, cells := 0, slots := 0, locals := 0 } : Room) (va_Pc [.ref (b + a), .int x1, .int x2] (sg_Wd D b cA n h)) (va_Qi (fun r u => r = Rz ∧ u = h) (sg_Wd D b cA n) (sg_A b)) 0 0 (sg_A b) := by
  refine Met.ofW (cc := cX0_ofOther) (maxL := 3) (ret := (some .int)) (by decide) rfl ?_
  intro p e s m args below meth c s₁ B hml hv
  obtain ⟨rfl, hP, hK, hz, hY, hN⟩ := hv
  have hl := lv_entry [.ref (b + a), .int x1, .int x2] (n := 3) (Nat.le_of_ble_eq_true rfl)
  rw [lg_entry_eq]
  exact w_X0_ofOther hn ⟨B.exec, B.bytes, findClass_of_methodNamed B.named, fun w h => atoms_spec (ws := Cond.code yX0_ofOther cX0_ofOther 3 (some .int) :: sg_tbl) B.pre w (List.mem_cons_of_mem _ h), hK, hN⟩ hz B.returns B.notSynchronized hml (Nat.le_refl _) (Nat.le_refl _) ha_a hT_a hf _ _ _ ⟨hP, hY, va_S.rf⟩ hl
set_option maxHeartbeats 4000000 in
set_option maxRecDepth 100000 in
theorem w_X0_isRest {p : Program} {l : Launch} {e : Env} {R : Room} {s : State} {m : MethodId} {args : Array Value} {below : List Frame} {meth : Method} {c : Code} {D : va_G} {cA : Nat → ClassId} {b n : Nat} (hn : sg_okN n) {a : Nat} {x1 : Int32} {x2 : Int32} {h : HP} {Rz : Int32} (hc : sg_Cx p s m args c cX0_isRest RX0 D cA) (hz : s.heap.size = b + n) (hr : meth.sig.returnType = some .boolean) (hlocks : meth.locks = false) (hml : c.maxLocals = 4) (hRf : 1 ≤ R.frames) (hRl : 22 ≤ R.locals) (ha_a : a < n) (hT_a : sg_T a = 0) (hf : F_X0_isRest a x1 x2 h = some Rz) (H : Heap) (locs : List Loc) (ls : Array Slot) (hw : sg_Wo D b cA n s.heap h H locs) (hl : lv_has ls 4 [(0, .ref (b + a)), (1, .int x1), (2, .int x2)]) : W p l e R s m args below meth c H locs 0 0 (sg_Qi below args s D b cA n (fun r u => (r = Rz ∧ u = h) ∧ narrow .boolean (.int r) = .int r)) (F0 m 0 ls []) := by
  have hx := hc.1
  have hb := hc.2.1
  have hn0 : 0 < n := sg_pos hn
  have L2 : ∀ (k : Nat) (x : Int32), F_X0_isRest_L2 a x1 x2 h k x = some Rz → ∀ (H : Heap) (locs : List Loc) (ls : Array Slot), sg_Wo D b cA n s.heap h H locs → lv_has ls 4 [(0, .ref (b + a)), (1, .int x1), (2, .int x2), (3, .int x)] → W p l e R s m args below meth c H locs 0 0 (sg_Qi below args s D b cA n (fun r u => (r = Rz ∧ u = h) ∧ narrow .boolean (.int r) = .int r)) (F0 m 2 ls []) := by
    unfold F_X0_isRest_L2
    refine lp_walk ?_
    intro rc2 hrc2 x hf H locs ls hw hl
    obtain ⟨x3, rfl⟩ : ∃ z, z = x := ⟨x, rfl⟩
    refine lv_iload_n hx hb dX0_isRest_2 rfl (lv_at hl 3 rfl) ?_
    refine lv_aload_n hx hb dX0_isRest_3 rfl (lv_at hl 0 rfl) ?_
    obtain ⟨hF4, hT4, ha4⟩ := ft_0_2 hn ha_a hT_a
    refine sg_getf (q := 15) hc hw ha_a hT_a fr_0_2 (by decide) k_292 dX0_isRest_4 hF4 ?_
    refine sg_geti hc hw ha4 hT4 fi_1_0 k_39 dX0_isRest_7 ?_
    refine lv_icmp_ge (tgt := 51) hx hb dX0_isRest_10 (by decide) (fun c10 => ?_) (fun c10 => ?_)
    · have hf := if_of c10 hf
      refine lv_iconst (v := 1) hx hb dX0_isRest_51 (by decide) ?_
      cases hf
      exact sg_zret hc hw hz hn0 hr hlocks rfl ⟨⟨rfl, rfl⟩, rfl⟩ dX0_isRest_52
    · have hf := if_no c10 hf
      refine lv_aload_n hx hb dX0_isRest_13 rfl (lv_at hl 0 rfl) ?_
      refine lv_iload_n hx hb dX0_isRest_14 rfl (lv_at hl 3 rfl) ?_
      refine lv_iload_n hx hb dX0_isRest_15 rfl (lv_at hl 2 rfl) ?_
      obtain ⟨p16, hp16, hf⟩ := cl_of hf
      refine sg_vi (rest := []) (c_X0_ofFirst hn ha_a hT_a hp16) hc hw hz hml hl ha_a hT_a (by decide) rfl cv_X0_89 ⟨⟨rfl, rfl⟩, Nat.le_trans (Nat.le_of_ble_eq_true rfl) hRf, Nat.le_trans (Nat.le_of_ble_eq_true rfl) hRl⟩ ⟨Nat.zero_le _, Nat.zero_le _⟩ rfl rfl (Nat.le_of_ble_eq_true rfl) dX0_isRest_16 (fun r h1 H locs hp hw => ?_)
      obtain ⟨e1, e2⟩ := hp; subst r; subst h1
      refine lv_aload_n hx hb dX0_isRest_19 rfl (lv_at hl 0 rfl) ?_
      refine lv_iload_n hx hb dX0_isRest_20 rfl (lv_at hl 1 rfl) ?_
      refine lv_iload_n hx hb dX0_isRest_21 rfl (lv_at hl 2 rfl) ?_
      obtain ⟨p22, hp22, hf⟩ := cl_of hf
      refine sg_vi (rest := [.int p16]) (c_X0_ofFirst hn ha_a hT_a hp22) hc hw hz hml hl ha_a hT_a (by decide) rfl cv_X0_89 ⟨⟨rfl, rfl⟩, Nat.le_trans (Nat.le_of_ble_eq_true rfl) hRf, Nat.le_trans (Nat.le_of_ble_eq_true rfl) hRl⟩ ⟨Nat.zero_le _, Nat.zero_le _⟩ rfl rfl (Nat.le_of_ble_eq_true rfl) dX0_isRest_22 (fun r h1 H locs hp hw => ?_)
      obtain ⟨e1, e2⟩ := hp; subst r; subst h1
      refine lv_icmp_gt (tgt := 43) hx hb dX0_isRest_25 (by decide) (fun c25 => ?_) (fun c25 => ?_)
      · have hf := if_of c25 hf
        refine lv_iconst (v := 0) hx hb dX0_isRest_43 (by decide) ?_
        cases hf
        exact sg_zret hc hw hz hn0 hr hlocks rfl ⟨⟨rfl, rfl⟩, rfl⟩ dX0_isRest_44
      · have hf := if_no c25 hf
        refine lv_aload_n hx hb dX0_isRest_28 rfl (lv_at hl 0 rfl) ?_
        refine lv_iload_n hx hb dX0_isRest_29 rfl (lv_at hl 1 rfl) ?_
        refine lv_iload_n hx hb dX0_isRest_30 rfl (lv_at hl 3 rfl) ?_
        obtain ⟨p31, hp31, hf⟩ := cl_of hf
        refine sg_vi (rest := []) (c_X0_ofOther hn ha_a hT_a hp31) hc hw hz hml hl ha_a hT_a (by decide) rfl cv_X0_92 ⟨⟨rfl, rfl⟩, Nat.le_trans (Nat.le_of_ble_eq_true rfl) hRf, Nat.le_trans (Nat.le_of_ble_eq_true rfl) hRl⟩ ⟨Nat.zero_le _, Nat.zero_le _⟩ rfl rfl (Nat.le_of_ble_eq_true rfl) dX0_isRest_31 (fun r h1 H locs hp hw => ?_)
        obtain ⟨e1, e2⟩ := hp; subst r; subst h1
        refine lv_aload_n hx hb dX0_isRest_34 rfl (lv_at hl 0 rfl) ?_
        refine lv_iload_n hx hb dX0_isRest_35 rfl (lv_at hl 1 rfl) ?_
        refine lv_iload_n hx hb dX0_isRest_36 rfl (lv_at hl 2 rfl) ?_
        obtain ⟨p37, hp37, hf⟩ := cl_of hf
        refine sg_vi (rest := [.int p31]) (c_X0_ofOther hn ha_a hT_a hp37) hc hw hz hml hl ha_a hT_a (by decide) rfl cv_X0_92 ⟨⟨rfl, rfl⟩, Nat.le_trans (Nat.le_of_ble_eq_true rfl) hRf, Nat.le_trans (Nat.le_of_ble_eq_true rfl) hRl⟩ ⟨Nat.zero_le _, Nat.zero_le _⟩ rfl rfl (Nat.le_of_ble_eq_true rfl) dX0_isRest_37 (fun r h1 H locs hp hw => ?_)
        obtain ⟨e1, e2⟩ := hp; subst r; subst h1
        refine lv_icmp_le (tgt := 45) hx hb dX0_isRest_40 (by decide) (fun c40 => ?_) (fun c40 => ?_)
        · have hf := if_of c40 hf
          refine lv_iinc (v := (x3 + 1)) (lv' := [(3, .int (x3 + 1)), (0, .ref (b + a)), (1, .int x1), (2, .int x2)]) hx hb dX0_isRest_45 hl (k := 3) rfl rfl (by decide) rfl (fun ls hl => ?_)
          refine lv_goto (tgt := 2) hx hb dX0_isRest_48 (by decide) ?_
          exact hrc2 _ hf _ _ _ hw (lv_sub hl [1, 2, 3, 0] rfl)
        · have hf := if_no c40 hf
          refine lv_iconst (v := 0) hx hb dX0_isRest_43 (by decide) ?_
          cases hf
          exact sg_zret hc hw hz hn0 hr hlocks rfl ⟨⟨rfl, rfl⟩, rfl⟩ dX0_isRest_44
  unfold F_X0_isRest at hf
  refine lv_iconst (v := 0) hx hb dX0_isRest_0 (by decide) ?_
  refine lv_istore_n (lv' := [(3, .int 0), (0, .ref (b + a)), (1, .int x1), (2, .int x2)]) hx hb dX0_isRest_1 rfl hl (by decide) rfl (fun ls hl => ?_)
  exact L2 _ _ hf _ _ _ hw (lv_sub hl [1, 2, 3, 0] rfl)
theorem c_X0_isRest {l : Launch} {D : va_G} {cA : Nat → ClassId} {b n : Nat} (hn : sg_okN n) {a : Nat} {x1 : Int32} {x2 : Int32} (ha_a : a < n) (hT_a : sg_T a = 0) {h : HP} {Rz : Int32} (hf : F_X0_isRest a x1 x2 h = some Rz) : Met l yX0_isRest (Cond.code yX0_isRest cX0_isRest 4 (some .boolean) :: sg_tbl) ({ frames := 1, cells := 0, slots := 0, locals := 22 } : Room) (va_Pc [.ref (b + a), .int x1, .int x2] (sg_Wd D b cA n h)) (va_Qi (fun r u => (r = Rz ∧ u = h) ∧ narrow .boolean (.int r) = .int r) (sg_Wd D b cA n) (sg_A b)) 0 0 (sg_A b) := by
  refine Met.ofW (cc := cX0_isRest) (maxL := 4) (ret := (some .boolean)) (by decide) rfl ?_
  intro p e s m args below meth c s₁ B hml hv
  obtain ⟨rfl, hP, hK, hz, hY, hN⟩ := hv
  have hl := lv_entry [.ref (b + a), .int x1, .int x2] (n := 4) (Nat.le_of_ble_eq_true rfl)
  rw [lg_entry_eq]
  exact w_X0_isRest hn ⟨B.exec, B.bytes, findClass_of_methodNamed B.named, fun w h => atoms_spec (ws := Cond.code yX0_isRest cX0_isRest 4 (some .boolean) :: sg_tbl) B.pre w (List.mem_cons_of_mem _ h), hK, hN⟩ hz B.returns B.notSynchronized hml (Nat.le_refl _) (Nat.le_refl _) ha_a hT_a hf _ _ _ ⟨hP, hY, va_S.rf⟩ hl
set_option maxHeartbeats 4000000 in
set_option maxRecDepth 100000 in
theorem w_X0_weigh {p : Program} {l : Launch} {e : Env} {R : Room} {s : State} {m : MethodId} {args : Array Value} {below : List Frame} {meth : Method} {c : Code} {D : va_G} {cA : Nat → ClassId} {b n : Nat} (hn : sg_okN n) {a : Nat} {x1 : Int32} {x2 : Int32} {h : HP} {Rz : HP} (hc : sg_Cx p s m args c cX0_weigh RX0 D cA) (hz : s.heap.size = b + n) (hr : meth.sig.returnType = none) (hlocks : meth.locks = false) (hml : c.maxLocals = 5) (hRf : 5 ≤ R.frames) (hRl : 127 ≤ R.locals) (ha_a : a < n) (hT_a : sg_T a = 0) (hf : F_X0_weigh a x1 x2 h = some Rz) (H : Heap) (locs : List Loc) (ls : Array Slot) (hw : sg_Wo D b cA n s.heap h H locs) (hl : lv_has ls 5 [(0, .ref (b + a)), (1, .int x1), (2, .int x2)]) : W p l e R s m args below meth c H locs 0 0 (sg_Qv below args s D b cA n (fun u => u = Rz)) (F0 m 0 ls []) := by
  have hx := hc.1
  have hb := hc.2.1
  have hn0 : 0 < n := sg_pos hn
  have L19 : ∀ (k : Nat) (x : (Int32 × HP)), F_X0_weigh_L19 a k x = some Rz → ∀ (H : Heap) (locs : List Loc) (ls : Array Slot), sg_Wo D b cA n s.heap x.2 H locs → lv_has ls 5 [(0, .ref (b + a)), (3, .int x.1)] → W p l e R s m args below meth c H locs 0 0 (sg_Qv below args s D b cA n (fun u => u = Rz)) (F0 m 19 ls []) := by
    unfold F_X0_weigh_L19
    refine lp_walk ?_
    intro rc19 hrc19 x hf H locs ls hw hl
    obtain ⟨x3, h⟩ := x
    dsimp only at hf hw hl
    have J98 : ∀ (x3 : Int32) (h : HP) (H : Heap) (locs : List Loc) (ls : Array Slot), F_X0_weigh_J98 a rc19 x3 h = some Rz → sg_Wo D b cA n s.heap h H locs → lv_has ls 5 [(0, .ref (b + a)), (3, .int x3)] → W p l e R s m args below meth c H locs 0 0 (sg_Qv below args s D b cA n (fun u => u = Rz)) (F0 m 98 ls []) := by
      intro x3 h H locs ls hf hw hl
      unfold F_X0_weigh_J98 at hf
      refine lv_iinc (v := (x3 + 1)) (lv' := [(3, .int (x3 + 1)), (0, .ref (b + a))]) hx hb dX0_weigh_98 hl (k := 1) rfl rfl (by decide) rfl (fun ls hl => ?_)
      refine lv_goto (tgt := 19) hx hb dX0_weigh_101 (by decide) ?_
      exact hrc19 _ hf _ _ _ hw (lv_sub hl [1, 0] rfl)
    have L33 : ∀ (x3 : Int32) (k : Nat) (x : (Int32 × HP)), F_X0_weigh_L33 a rc19 x3 k x = some Rz → ∀ (H : Heap) (locs : List Loc) (ls : Array Slot), sg_Wo D b cA n s.heap x.2 H locs → lv_has ls 5 [(0, .ref (b + a)), (3, .int x3), (4, .int x.1)] → W p l e R s m args below meth c H locs 0 0 (sg_Qv below args s D b cA n (fun u => u = Rz)) (F0 m 33 ls []) := by
      intro x3
      unfold F_X0_weigh_L33
      refine lp_walk ?_
      intro rc33 hrc33 x hf H locs ls hw hl
      obtain ⟨x4, h⟩ := x
      dsimp only at hf hw hl
      have J92 : ∀ (x4 : Int32) (h : HP) (H : Heap) (locs : List Loc) (ls : Array Slot), F_X0_weigh_J92 a rc19 rc33 x3 x4 h = some Rz → sg_Wo D b cA n s.heap h H locs → lv_has ls 5 [(0, .ref (b + a)), (3, .int x3), (4, .int x4)] → W p l e R s m args below meth c H locs 0 0 (sg_Qv below args s D b cA n (fun u => u = Rz)) (F0 m 92 ls []) := by
        intro x4 h H locs ls hf hw hl
        unfold F_X0_weigh_J92 at hf
        refine lv_iinc (v := (x4 + 1)) (lv' := [(4, .int (x4 + 1)), (0, .ref (b + a)), (3, .int x3)]) hx hb dX0_weigh_92 hl (k := 2) rfl rfl (by decide) rfl (fun ls hl => ?_)
        refine lv_goto (tgt := 33) hx hb dX0_weigh_95 (by decide) ?_
        exact hrc33 _ hf _ _ _ hw (lv_sub hl [1, 2, 0] rfl)
      have J89 : ∀ (x4 : Int32) (s0 : Int32) (h : HP) (H : Heap) (locs : List Loc) (ls : Array Slot), F_X0_weigh_J89 a rc19 rc33 x3 x4 s0 h = some Rz → sg_Wo D b cA n s.heap h H locs → lv_has ls 5 [(0, .ref (b + a)), (3, .int x3), (4, .int x4)] → W p l e R s m args below meth c H locs 0 0 (sg_Qv below args s D b cA n (fun u => u = Rz)) (F0 m 89 ls [.int s0, .ref (b + a)]) := by
        intro x4 s0 h H locs ls hf hw hl
        unfold F_X0_weigh_J89 at hf
        refine sg_puti hc hw ha_a hT_a fp_0_1 rfl rfl k_290 dX0_weigh_89 (fun H locs hw => ?_)
        obtain ⟨h89, hw, hf⟩ := sg_name hw hf
        exact J92 x4 _ _ _ _ hf hw (lv_sub hl [0, 1, 2] rfl)
      refine lv_iload hx hb dX0_weigh_33 (lv_at hl 2 rfl) ?_
      refine lv_aload_n hx hb dX0_weigh_35 rfl (lv_at hl 0 rfl) ?_
      obtain ⟨hF36, hT36, ha36⟩ := ft_0_2 hn ha_a hT_a
      refine sg_getf (q := 15) hc hw ha_a hT_a fr_0_2 (by decide) k_292 dX0_weigh_36 hF36 ?_
      refine sg_geti hc hw ha36 hT36 fi_1_0 k_39 dX0_weigh_39 ?_
      refine lv_icmp_ge (tgt := 98) hx hb dX0_weigh_42 (by decide) (fun c42 => ?_) (fun c42 => ?_)
      · have hf := if_of c42 hf
        exact J98 x3 _ _ _ _ hf hw (lv_sub hl [0, 1] rfl)
      · have hf := if_no c42 hf
        refine lv_aload_n hx hb dX0_weigh_45 rfl (lv_at hl 0 rfl) ?_
        refine lv_iload_n hx hb dX0_weigh_46 rfl (lv_at hl 1 rfl) ?_
        refine lv_iload hx hb dX0_weigh_47 (lv_at hl 2 rfl) ?_
        obtain ⟨p49, hp49, hf⟩ := cl_of hf
        refine sg_vi (rest := []) (c_X0_isRest hn ha_a hT_a hp49) hc hw hz hml hl ha_a hT_a (by decide) rfl cv_X0_53 ⟨⟨rfl, rfl⟩, Nat.le_trans (Nat.le_of_ble_eq_true rfl) hRf, Nat.le_trans (Nat.le_of_ble_eq_true rfl) hRl⟩ ⟨Nat.zero_le _, Nat.zero_le _⟩ rfl rfl (Nat.le_of_ble_eq_true rfl) dX0_weigh_49 (fun r h1 H locs hp hw => ?_)
        obtain ⟨⟨e1, e2⟩, hb49⟩ := hp; subst r; subst h1
        refine lv_if_eq (tgt := 92) hx hb dX0_weigh_52 (by decide) (fun c52 => ?_) (fun c52 => ?_)
        · have hf := if_of c52 hf
          exact J92 x4 _ _ _ _ hf hw (lv_sub hl [0, 1, 2] rfl)
        · have hf := if_no c52 hf
          refine lv_aload_n hx hb dX0_weigh_55 rfl (lv_at hl 0 rfl) ?_
          refine lv_dup hx hb dX0_weigh_56 rfl ?_
          refine sg_geti hc hw ha_a hT_a fi_0_0 k_288 dX0_weigh_57 ?_
          refine lv_iconst (v := 1) hx hb dX0_weigh_60 (by decide) ?_
          refine lv_iadd hx hb dX0_weigh_61 ?_
          refine sg_puti hc hw ha_a hT_a fp_0_0 rfl rfl k_288 dX0_weigh_62 (fun H locs hw => ?_)
          obtain ⟨h62, hw, hf⟩ := sg_name hw hf
          refine lv_aload_n hx hb dX0_weigh_65 rfl (lv_at hl 0 rfl) ?_
          refine lv_aload_n hx hb dX0_weigh_66 rfl (lv_at hl 0 rfl) ?_
          refine sg_geti hc hw ha_a hT_a fi_0_1 k_290 dX0_weigh_67 ?_
          refine lv_bipush (v := (-4)) hx hb dX0_weigh_70 (by decide) ?_
          refine lv_icmp_ne (tgt := 85) hx hb dX0_weigh_72 (by decide) (fun c72 => ?_) (fun c72 => ?_)
          · have hf := if_no c72 hf
            refine lv_aload_n hx hb dX0_weigh_85 rfl (lv_at hl 0 rfl) ?_
            refine sg_geti hc hw ha_a hT_a fi_0_1 k_290 dX0_weigh_86 ?_
            exact J89 x4 (h62.1 a 1) _ _ _ _ hf hw (lv_sub hl [0, 1, 2] rfl)
          · have hf := if_of c72 hf
            refine lv_bipush (v := 8) hx hb dX0_weigh_75 (by decide) ?_
            refine lv_iload_n hx hb dX0_weigh_77 rfl (lv_at hl 1 rfl) ?_
            refine lv_imul hx hb dX0_weigh_78 ?_
            refine lv_iload hx hb dX0_weigh_79 (lv_at hl 2 rfl) ?_
            refine lv_iadd hx hb dX0_weigh_81 ?_
            refine lv_goto (tgt := 89) hx hb dX0_weigh_82 (by decide) ?_
            exact J89 x4 ((8 * x3) + x4) _ _ _ _ hf hw (lv_sub hl [0, 1, 2] rfl)
    refine lv_iload_n hx hb dX0_weigh_19 rfl (lv_at hl 1 rfl) ?_
    refine lv_aload_n hx hb dX0_weigh_20 rfl (lv_at hl 0 rfl) ?_
    obtain ⟨hF21, hT21, ha21⟩ := ft_0_2 hn ha_a hT_a
    refine sg_getf (q := 15) hc hw ha_a hT_a fr_0_2 (by decide) k_292 dX0_weigh_21 hF21 ?_
    refine sg_geti hc hw ha21 hT21 fi_1_0 k_39 dX0_weigh_24 ?_
    refine lv_icmp_ge (tgt := 104) hx hb dX0_weigh_27 (by decide) (fun c27 => ?_) (fun c27 => ?_)
    · have hf := if_of c27 hf
      cases hf
      exact sg_vret hc hw hz hn0 hr hlocks rfl dX0_weigh_104
    · have hf := if_no c27 hf
      refine lv_iconst (v := 0) hx hb dX0_weigh_30 (by decide) ?_
      refine lv_istore (lv' := [(4, .int 0), (0, .ref (b + a)), (3, .int x3)]) hx hb dX0_weigh_31 hl (by decide) rfl (fun ls hl => ?_)
      exact L33 x3 _ _ hf _ _ _ hw (lv_sub hl [1, 2, 0] rfl)
  unfold F_X0_weigh at hf
  refine lv_aload_n hx hb dX0_weigh_0 rfl (lv_at hl 0 rfl) ?_
  refine lv_iload_n hx hb dX0_weigh_1 rfl (lv_at hl 1 rfl) ?_
  refine lv_iload_n hx hb dX0_weigh_2 rfl (lv_at hl 2 rfl) ?_
  obtain ⟨p3, hp3, hf⟩ := cl_of hf
  refine sg_vv (rest := []) (c_X0_fill hn ha_a hT_a hp3) hc hw hz hml hl ha_a hT_a (by decide) rfl cv_X0_37 ⟨⟨rfl, rfl⟩, Nat.le_trans (Nat.le_of_ble_eq_true rfl) hRf, Nat.le_trans (Nat.le_of_ble_eq_true rfl) hRl⟩ ⟨Nat.zero_le _, Nat.zero_le _⟩ rfl rfl (Nat.le_of_ble_eq_true rfl) dX0_weigh_3 (fun h1 H locs hp hw => ?_)
  subst h1
  refine lv_aload_n hx hb dX0_weigh_6 rfl (lv_at hl 0 rfl) ?_
  refine lv_iconst (v := 0) hx hb dX0_weigh_7 (by decide) ?_
  refine sg_puti hc hw ha_a hT_a fp_0_0 rfl rfl k_288 dX0_weigh_8 (fun H locs hw => ?_)
  obtain ⟨h8, hw, hf⟩ := sg_name hw hf
  refine lv_aload_n hx hb dX0_weigh_11 rfl (lv_at hl 0 rfl) ?_
  refine lv_bipush (v := (-4)) hx hb dX0_weigh_12 (by decide) ?_
  refine sg_puti hc hw ha_a hT_a fp_0_1 rfl rfl k_290 dX0_weigh_14 (fun H locs hw => ?_)
  obtain ⟨h14, hw, hf⟩ := sg_name hw hf
  refine lv_iconst (v := 0) hx hb dX0_weigh_17 (by decide) ?_
  refine lv_istore_n (lv' := [(3, .int 0), (0, .ref (b + a)), (1, .int x1), (2, .int x2)]) hx hb dX0_weigh_18 rfl hl (by decide) rfl (fun ls hl => ?_)
  exact L19 _ _ hf _ _ _ hw (lv_sub hl [1, 0] rfl)
theorem c_X0_weigh {l : Launch} {D : va_G} {cA : Nat → ClassId} {b n : Nat} (hn : sg_okN n) {a : Nat} {x1 : Int32} {x2 : Int32} (ha_a : a < n) (hT_a : sg_T a = 0) {h : HP} {Rz : HP} (hf : F_X0_weigh a x1 x2 h = some Rz) : Met l yX0_weigh (Cond.code yX0_weigh cX0_weigh 5 none :: sg_tbl) ({ frames := 5, cells := 0, slots := 0, locals := 127 } : Room) (va_Pc [.ref (b + a), .int x1, .int x2] (sg_Wd D b cA n h)) (va_Qv (fun u => u = Rz) (sg_Wd D b cA n) (sg_A b)) 0 0 (sg_A b) := by
  refine Met.ofW (cc := cX0_weigh) (maxL := 5) (ret := none) (by decide) rfl ?_
  intro p e s m args below meth c s₁ B hml hv
  obtain ⟨rfl, hP, hK, hz, hY, hN⟩ := hv
  have hl := lv_entry [.ref (b + a), .int x1, .int x2] (n := 5) (Nat.le_of_ble_eq_true rfl)
  rw [lg_entry_eq]
  exact w_X0_weigh hn ⟨B.exec, B.bytes, findClass_of_methodNamed B.named, fun w h => atoms_spec (ws := Cond.code yX0_weigh cX0_weigh 5 none :: sg_tbl) B.pre w (List.mem_cons_of_mem _ h), hK, hN⟩ hz B.returns B.notSynchronized hml (Nat.le_refl _) (Nat.le_refl _) ha_a hT_a hf _ _ _ ⟨hP, hY, va_S.rf⟩ hl
set_option maxHeartbeats 4000000 in
set_option maxRecDepth 100000 in
theorem w_X1_clear {p : Program} {l : Launch} {e : Env} {R : Room} {s : State} {m : MethodId} {args : Array Value} {below : List Frame} {meth : Method} {c : Code} {D : va_G} {cA : Nat → ClassId} {b n : Nat} (hn : sg_okN n) {a : Nat} {h : HP} {Rz : HP} (hc : sg_Cx p s m args c cX1_clear RX1 D cA) (hz : s.heap.size = b + n) (hr : meth.sig.returnType = none) (hlocks : meth.locks = false) (hml : c.maxLocals = 1) (hRf : 0 ≤ R.frames) (hRl : 0 ≤ R.locals) (ha_a : a < n) (hT_a : sg_T a = 1) (hf : F_X1_clear a h = some Rz) (H : Heap) (locs : List Loc) (ls : Array Slot) (hw : sg_Wo D b cA n s.heap h H locs) (hl : lv_has ls 1 [(0, .ref (b + a))]) : W p l e R s m args below meth c H locs 0 0 (sg_Qv below args s D b cA n (fun u => u = Rz)) (F0 m 0 ls []) := by
  have hx := hc.1
  have hb := hc.2.1
  have hn0 : 0 < n := sg_pos hn
  unfold F_X1_clear at hf
  refine lv_aload_n hx hb dX1_clear_0 rfl (lv_at hl 0 rfl) ?_
  refine lv_iconst (v := 0) hx hb dX1_clear_1 (by decide) ?_
  refine sg_puti hc hw ha_a hT_a fp_1_0 rfl rfl k_38 dX1_clear_2 (fun H locs hw => ?_)
  obtain ⟨h2, hw, hf⟩ := sg_name hw hf
  refine lv_aload_n hx hb dX1_clear_5 rfl (lv_at hl 0 rfl) ?_
  refine lv_iconst (v := 0) hx hb dX1_clear_6 (by decide) ?_
  refine sg_puti hc hw ha_a hT_a fp_1_1 rfl rfl k_41 dX1_clear_7 (fun H locs hw => ?_)
  obtain ⟨h7, hw, hf⟩ := sg_name hw hf
  refine lv_aload_n hx hb dX1_clear_10 rfl (lv_at hl 0 rfl) ?_
  refine lv_iconst (v := 0) hx hb dX1_clear_11 (by decide) ?_
  refine sg_puti hc hw ha_a hT_a fp_1_2 rfl rfl k_46 dX1_clear_12 (fun H locs hw => ?_)
  obtain ⟨h12, hw, hf⟩ := sg_name hw hf
  refine lv_aload_n hx hb dX1_clear_15 rfl (lv_at hl 0 rfl) ?_
  refine lv_iconst (v := 1) hx hb dX1_clear_16 (by decide) ?_
  refine sg_puti hc hw ha_a hT_a fp_1_3 rfl rfl k_51 dX1_clear_17 (fun H locs hw => ?_)
  obtain ⟨h17, hw, hf⟩ := sg_name hw hf
  refine lv_aload_n hx hb dX1_clear_20 rfl (lv_at hl 0 rfl) ?_
  refine lv_iconst (v := 0) hx hb dX1_clear_21 (by decide) ?_
  refine sg_puti hc hw ha_a hT_a fp_1_4 rfl rfl k_53 dX1_clear_22 (fun H locs hw => ?_)
  obtain ⟨h22, hw, hf⟩ := sg_name hw hf
  cases hf
  exact sg_vret hc hw hz hn0 hr hlocks rfl dX1_clear_25
theorem c_X1_clear {l : Launch} {D : va_G} {cA : Nat → ClassId} {b n : Nat} (hn : sg_okN n) {a : Nat} (ha_a : a < n) (hT_a : sg_T a = 1) {h : HP} {Rz : HP} (hf : F_X1_clear a h = some Rz) : Met l yX1_clear (Cond.code yX1_clear cX1_clear 1 none :: sg_tbl) ({ frames := 0, cells := 0, slots := 0, locals := 0 } : Room) (va_Pc [.ref (b + a)] (sg_Wd D b cA n h)) (va_Qv (fun u => u = Rz) (sg_Wd D b cA n) (sg_A b)) 0 0 (sg_A b) := by
  refine Met.ofW (cc := cX1_clear) (maxL := 1) (ret := none) (by decide) rfl ?_
  intro p e s m args below meth c s₁ B hml hv
  obtain ⟨rfl, hP, hK, hz, hY, hN⟩ := hv
  have hl := lv_entry [.ref (b + a)] (n := 1) (Nat.le_of_ble_eq_true rfl)
  rw [lg_entry_eq]
  exact w_X1_clear hn ⟨B.exec, B.bytes, findClass_of_methodNamed B.named, fun w h => atoms_spec (ws := Cond.code yX1_clear cX1_clear 1 none :: sg_tbl) B.pre w (List.mem_cons_of_mem _ h), hK, hN⟩ hz B.returns B.notSynchronized hml (Nat.le_refl _) (Nat.le_refl _) ha_a hT_a hf _ _ _ ⟨hP, hY, va_S.rf⟩ hl
set_option maxHeartbeats 4000000 in
set_option maxRecDepth 100000 in
theorem w_X8_within {p : Program} {l : Launch} {e : Env} {R : Room} {s : State} {m : MethodId} {args : Array Value} {below : List Frame} {meth : Method} {c : Code} {D : va_G} {cA : Nat → ClassId} {b n : Nat} (hn : sg_okN n) {x0 : Int32} {x1 : Int32} {x2 : Int32} {h : HP} {Rz : Int32} (hc : sg_Cx p s m args c cX8_within RX8 D cA) (hz : s.heap.size = b + n) (hr : meth.sig.returnType = some .boolean) (hlocks : meth.locks = false) (hml : c.maxLocals = 3) (hRf : 0 ≤ R.frames) (hRl : 0 ≤ R.locals) (hf : F_X8_within x0 x1 x2 = some Rz) (H : Heap) (locs : List Loc) (ls : Array Slot) (hw : sg_Wo D b cA n s.heap h H locs) (hl : lv_has ls 3 [(0, .int x0), (1, .int x1), (2, .int x2)]) : W p l e R s m args below meth c H locs 0 0 (sg_Qi below args s D b cA n (fun r u => (r = Rz ∧ u = h) ∧ narrow .boolean (.int r) = .int r)) (F0 m 0 ls []) := by
  have hx := hc.1
  have hb := hc.2.1
  have hn0 : 0 < n := sg_pos hn
  unfold F_X8_within at hf
  refine lv_iload_n hx hb dX8_within_0 rfl (lv_at hl 0 rfl) ?_
  refine lv_iload_n hx hb dX8_within_1 rfl (lv_at hl 1 rfl) ?_
  refine lv_icmp_lt (tgt := 14) hx hb dX8_within_2 (by decide) (fun c2 => ?_) (fun c2 => ?_)
  · have hf := if_of c2 hf
    refine lv_iconst (v := 0) hx hb dX8_within_14 (by decide) ?_
    cases hf
    exact sg_zret hc hw hz hn0 hr hlocks rfl ⟨⟨rfl, rfl⟩, rfl⟩ dX8_within_15
  · have hf := if_no c2 hf
    refine lv_iload_n hx hb dX8_within_5 rfl (lv_at hl 0 rfl) ?_
    refine lv_iload_n hx hb dX8_within_6 rfl (lv_at hl 2 rfl) ?_
    refine lv_icmp_gt (tgt := 14) hx hb dX8_within_7 (by decide) (fun c7 => ?_) (fun c7 => ?_)
    · have hf := if_of c7 hf
      refine lv_iconst (v := 0) hx hb dX8_within_14 (by decide) ?_
      cases hf
      exact sg_zret hc hw hz hn0 hr hlocks rfl ⟨⟨rfl, rfl⟩, rfl⟩ dX8_within_15
    · have hf := if_no c7 hf
      refine lv_iconst (v := 1) hx hb dX8_within_10 (by decide) ?_
      refine lv_goto (tgt := 15) hx hb dX8_within_11 (by decide) ?_
      cases hf
      exact sg_zret hc hw hz hn0 hr hlocks rfl ⟨⟨rfl, rfl⟩, rfl⟩ dX8_within_15
theorem c_X8_within {l : Launch} {D : va_G} {cA : Nat → ClassId} {b n : Nat} (hn : sg_okN n) {x0 : Int32} {x1 : Int32} {x2 : Int32} {h : HP} {Rz : Int32} (hf : F_X8_within x0 x1 x2 = some Rz) : Met l yX8_within (Cond.code yX8_within cX8_within 3 (some .boolean) :: sg_tbl) ({ frames := 0, cells := 0, slots := 0, locals := 0 } : Room) (va_Pc [.int x0, .int x1, .int x2] (sg_Wd D b cA n h)) (va_Qi (fun r u => (r = Rz ∧ u = h) ∧ narrow .boolean (.int r) = .int r) (sg_Wd D b cA n) (sg_A b)) 0 0 (sg_A b) := by
  refine Met.ofW (cc := cX8_within) (maxL := 3) (ret := (some .boolean)) (by decide) rfl ?_
  intro p e s m args below meth c s₁ B hml hv
  obtain ⟨rfl, hP, hK, hz, hY, hN⟩ := hv
  have hl := lv_entry [.int x0, .int x1, .int x2] (n := 3) (Nat.le_of_ble_eq_true rfl)
  rw [lg_entry_eq]
  exact w_X8_within hn ⟨B.exec, B.bytes, findClass_of_methodNamed B.named, fun w h => atoms_spec (ws := Cond.code yX8_within cX8_within 3 (some .boolean) :: sg_tbl) B.pre w (List.mem_cons_of_mem _ h), hK, hN⟩ hz B.returns B.notSynchronized hml (Nat.le_refl _) (Nat.le_refl _) hf _ _ _ ⟨hP, hY, va_S.rf⟩ hl
set_option maxHeartbeats 4000000 in
set_option maxRecDepth 100000 in
theorem w_X1_addStretch {p : Program} {l : Launch} {e : Env} {R : Room} {s : State} {m : MethodId} {args : Array Value} {below : List Frame} {meth : Method} {c : Code} {D : va_G} {cA : Nat → ClassId} {b n : Nat} (hn : sg_okN n) {a : Nat} {x1 : Int32} {x2 : Int32} {h : HP} {Rz : Int32 × HP} (hc : sg_Cx p s m args c cX1_addStretch RX1 D cA) (hz : s.heap.size = b + n) (hr : meth.sig.returnType = some .boolean) (hlocks : meth.locks = false) (hml : c.maxLocals = 3) (hRf : 1 ≤ R.frames) (hRl : 22 ≤ R.locals) (ha_a : a < n) (hT_a : sg_T a = 1) (hf : F_X1_addStretch a x1 x2 h = some Rz) (H : Heap) (locs : List Loc) (ls : Array Slot) (hw : sg_Wo D b cA n s.heap h H locs) (hl : lv_has ls 3 [(0, .ref (b + a)), (1, .int x1), (2, .int x2)]) : W p l e R s m args below meth c H locs 0 0 (sg_Qi below args s D b cA n (fun r u => (r = Rz.1 ∧ u = Rz.2) ∧ narrow .boolean (.int r) = .int r)) (F0 m 0 ls []) := by
  have hx := hc.1
  have hb := hc.2.1
  have hn0 : 0 < n := sg_pos hn
  unfold F_X1_addStretch at hf
  refine lv_aload_n hx hb dX1_addStretch_0 rfl (lv_at hl 0 rfl) ?_
  refine sg_geti hc hw ha_a hT_a fi_1_0 k_38 dX1_addStretch_1 ?_
  refine lv_bipush (v := 6) hx hb dX1_addStretch_4 (by decide) ?_
  refine lv_icmp_ge (tgt := 39) hx hb dX1_addStretch_6 (by decide) (fun c6 => ?_) (fun c6 => ?_)
  · have hf := if_of c6 hf
    refine lv_iconst (v := 0) hx hb dX1_addStretch_39 (by decide) ?_
    cases hf
    exact sg_zret hc hw hz hn0 hr hlocks rfl ⟨⟨rfl, rfl⟩, rfl⟩ dX1_addStretch_40
  · have hf := if_no c6 hf
    refine lv_iload_n hx hb dX1_addStretch_9 rfl (lv_at hl 1 rfl) ?_
    refine lv_iconst (v := 1) hx hb dX1_addStretch_10 (by decide) ?_
    refine lv_bipush (v := 30) hx hb dX1_addStretch_11 (by decide) ?_
    obtain ⟨p13, hp13, hf⟩ := cl_of hf
    refine sg_ni (rest := []) (c_X8_within hn (h := h) hp13) hc hw hz hn0 hml hl cn_X1_46 ⟨⟨rfl, rfl⟩, Nat.le_trans (Nat.le_of_ble_eq_true rfl) hRf, Nat.le_trans (Nat.le_of_ble_eq_true rfl) hRl⟩ ⟨Nat.zero_le _, Nat.zero_le _⟩ rfl rfl (Nat.le_of_ble_eq_true rfl) dX1_addStretch_13 (fun r h1 H locs hp hw => ?_)
    obtain ⟨⟨e1, e2⟩, hb13⟩ := hp; subst r; subst h1
    refine lv_if_eq (tgt := 39) hx hb dX1_addStretch_16 (by decide) (fun c16 => ?_) (fun c16 => ?_)
    · have hf := if_of c16 hf
      refine lv_iconst (v := 0) hx hb dX1_addStretch_39 (by decide) ?_
      cases hf
      exact sg_zret hc hw hz hn0 hr hlocks rfl ⟨⟨rfl, rfl⟩, rfl⟩ dX1_addStretch_40
    · have hf := if_no c16 hf
      refine lv_aload_n hx hb dX1_addStretch_19 rfl (lv_at hl 0 rfl) ?_
      refine sg_geti hc hw ha_a hT_a fi_1_1 k_41 dX1_addStretch_20 ?_
      refine lv_iload_n hx hb dX1_addStretch_23 rfl (lv_at hl 1 rfl) ?_
      refine lv_iadd hx hb dX1_addStretch_24 ?_
      refine lv_bipush (v := 120) hx hb dX1_addStretch_25 (by decide) ?_
      refine lv_icmp_gt (tgt := 39) hx hb dX1_addStretch_27 (by decide) (fun c27 => ?_) (fun c27 => ?_)
      · have hf := if_of c27 hf
        refine lv_iconst (v := 0) hx hb dX1_addStretch_39 (by decide) ?_
        cases hf
        exact sg_zret hc hw hz hn0 hr hlocks rfl ⟨⟨rfl, rfl⟩, rfl⟩ dX1_addStretch_40
      · have hf := if_no c27 hf
        refine lv_iload_n hx hb dX1_addStretch_30 rfl (lv_at hl 2 rfl) ?_
        refine lv_iconst (v := 0) hx hb dX1_addStretch_31 (by decide) ?_
        refine lv_iconst (v := 5) hx hb dX1_addStretch_32 (by decide) ?_
        obtain ⟨p33, hp33, hf⟩ := cl_of hf
        refine sg_ni (rest := []) (c_X8_within hn (h := h) hp33) hc hw hz hn0 hml hl cn_X1_46 ⟨⟨rfl, rfl⟩, Nat.le_trans (Nat.le_of_ble_eq_true rfl) hRf, Nat.le_trans (Nat.le_of_ble_eq_true rfl) hRl⟩ ⟨Nat.zero_le _, Nat.zero_le _⟩ rfl rfl (Nat.le_of_ble_eq_true rfl) dX1_addStretch_33 (fun r h1 H locs hp hw => ?_)
        obtain ⟨⟨e1, e2⟩, hb33⟩ := hp; subst r; subst h1
        refine lv_if_ne (tgt := 41) hx hb dX1_addStretch_36 (by decide) (fun c36 => ?_) (fun c36 => ?_)
        · have hf := if_no c36 hf
          refine lv_aload_n hx hb dX1_addStretch_41 rfl (lv_at hl 0 rfl) ?_
          obtain ⟨hF42, hT42, ha42, hN42⟩ := ft_1_5 hn ha_a hT_a
          refine sg_getf (q := (a + 1)) hc hw ha_a hT_a fr_1_5 (by decide) k_57 dX1_addStretch_42 hF42 ?_
          refine lv_aload_n hx hb dX1_addStretch_45 rfl (lv_at hl 0 rfl) ?_
          refine sg_geti hc hw ha_a hT_a fi_1_0 k_38 dX1_addStretch_46 ?_
          refine lv_iload_n hx hb dX1_addStretch_49 rfl (lv_at hl 1 rfl) ?_
          obtain ⟨hg50, hf⟩ := gd_of hf
          refine sg_ist hc hw ha42 hT42 hN42 hg50 dX1_addStretch_50 (fun H locs hw => ?_)
          obtain ⟨h50, hw, hf⟩ := sg_name hw hf
          refine lv_aload_n hx hb dX1_addStretch_51 rfl (lv_at hl 0 rfl) ?_
          obtain ⟨hF52, hT52, ha52, hN52⟩ := ft_1_6 hn ha_a hT_a
          refine sg_getf (q := (a + 2)) hc hw ha_a hT_a fr_1_6 (by decide) k_59 dX1_addStretch_52 hF52 ?_
          refine lv_aload_n hx hb dX1_addStretch_55 rfl (lv_at hl 0 rfl) ?_
          refine sg_geti hc hw ha_a hT_a fi_1_0 k_38 dX1_addStretch_56 ?_
          refine lv_iload_n hx hb dX1_addStretch_59 rfl (lv_at hl 2 rfl) ?_
          obtain ⟨hg60, hf⟩ := gd_of hf
          refine sg_ist hc hw ha52 hT52 hN52 hg60 dX1_addStretch_60 (fun H locs hw => ?_)
          obtain ⟨h60, hw, hf⟩ := sg_name hw hf
          refine lv_aload_n hx hb dX1_addStretch_61 rfl (lv_at hl 0 rfl) ?_
          obtain ⟨hF62, hT62, ha62, hN62⟩ := ft_1_7 hn ha_a hT_a
          refine sg_getf (q := (a + 3)) hc hw ha_a hT_a fr_1_7 (by decide) k_60 dX1_addStretch_62 hF62 ?_
          refine lv_aload_n hx hb dX1_addStretch_65 rfl (lv_at hl 0 rfl) ?_
          refine sg_geti hc hw ha_a hT_a fi_1_0 k_38 dX1_addStretch_66 ?_
          refine lv_iconst (v := 1) hx hb dX1_addStretch_69 (by decide) ?_
          obtain ⟨hg70, hf⟩ := gd_of hf
          refine sg_ist hc hw ha62 hT62 hN62 hg70 dX1_addStretch_70 (fun H locs hw => ?_)
          obtain ⟨h70, hw, hf⟩ := sg_name hw hf
          refine lv_aload_n hx hb dX1_addStretch_71 rfl (lv_at hl 0 rfl) ?_
          refine lv_dup hx hb dX1_addStretch_72 rfl ?_
          refine sg_geti hc hw ha_a hT_a fi_1_0 k_38 dX1_addStretch_73 ?_
          refine lv_iconst (v := 1) hx hb dX1_addStretch_76 (by decide) ?_
          refine lv_iadd hx hb dX1_addStretch_77 ?_
          refine sg_puti hc hw ha_a hT_a fp_1_0 rfl rfl k_38 dX1_addStretch_78 (fun H locs hw => ?_)
          obtain ⟨h78, hw, hf⟩ := sg_name hw hf
          refine lv_aload_n hx hb dX1_addStretch_81 rfl (lv_at hl 0 rfl) ?_
          refine lv_dup hx hb dX1_addStretch_82 rfl ?_
          refine sg_geti hc hw ha_a hT_a fi_1_1 k_41 dX1_addStretch_83 ?_
          refine lv_iload_n hx hb dX1_addStretch_86 rfl (lv_at hl 1 rfl) ?_
          refine lv_iadd hx hb dX1_addStretch_87 ?_
          refine sg_puti hc hw ha_a hT_a fp_1_1 rfl rfl k_41 dX1_addStretch_88 (fun H locs hw => ?_)
          obtain ⟨h88, hw, hf⟩ := sg_name hw hf
          refine lv_iconst (v := 1) hx hb dX1_addStretch_91 (by decide) ?_
          cases hf
          exact sg_zret hc hw hz hn0 hr hlocks rfl ⟨⟨rfl, rfl⟩, rfl⟩ dX1_addStretch_92
        · have hf := if_of c36 hf
          refine lv_iconst (v := 0) hx hb dX1_addStretch_39 (by decide) ?_
          cases hf
          exact sg_zret hc hw hz hn0 hr hlocks rfl ⟨⟨rfl, rfl⟩, rfl⟩ dX1_addStretch_40
theorem c_X1_addStretch {l : Launch} {D : va_G} {cA : Nat → ClassId} {b n : Nat} (hn : sg_okN n) {a : Nat} {x1 : Int32} {x2 : Int32} (ha_a : a < n) (hT_a : sg_T a = 1) {h : HP} {Rz : Int32 × HP} (hf : F_X1_addStretch a x1 x2 h = some Rz) : Met l yX1_addStretch (Cond.code yX1_addStretch cX1_addStretch 3 (some .boolean) :: sg_tbl) ({ frames := 1, cells := 0, slots := 0, locals := 22 } : Room) (va_Pc [.ref (b + a), .int x1, .int x2] (sg_Wd D b cA n h)) (va_Qi (fun r u => (r = Rz.1 ∧ u = Rz.2) ∧ narrow .boolean (.int r) = .int r) (sg_Wd D b cA n) (sg_A b)) 0 0 (sg_A b) := by
  refine Met.ofW (cc := cX1_addStretch) (maxL := 3) (ret := (some .boolean)) (by decide) rfl ?_
  intro p e s m args below meth c s₁ B hml hv
  obtain ⟨rfl, hP, hK, hz, hY, hN⟩ := hv
  have hl := lv_entry [.ref (b + a), .int x1, .int x2] (n := 3) (Nat.le_of_ble_eq_true rfl)
  rw [lg_entry_eq]
  exact w_X1_addStretch hn ⟨B.exec, B.bytes, findClass_of_methodNamed B.named, fun w h => atoms_spec (ws := Cond.code yX1_addStretch cX1_addStretch 3 (some .boolean) :: sg_tbl) B.pre w (List.mem_cons_of_mem _ h), hK, hN⟩ hz B.returns B.notSynchronized hml (Nat.le_refl _) (Nat.le_refl _) ha_a hT_a hf _ _ _ ⟨hP, hY, va_S.rf⟩ hl
set_option maxHeartbeats 4000000 in
set_option maxRecDepth 100000 in
theorem w_X1_addBearer {p : Program} {l : Launch} {e : Env} {R : Room} {s : State} {m : MethodId} {args : Array Value} {below : List Frame} {meth : Method} {c : Code} {D : va_G} {cA : Nat → ClassId} {b n : Nat} (hn : sg_okN n) {a : Nat} {x1 : Int32} {x2 : Int32} {h : HP} {Rz : Int32 × HP} (hc : sg_Cx p s m args c cX1_addBearer RX1 D cA) (hz : s.heap.size = b + n) (hr : meth.sig.returnType = some .boolean) (hlocks : meth.locks = false) (hml : c.maxLocals = 3) (hRf : 1 ≤ R.frames) (hRl : 22 ≤ R.locals) (ha_a : a < n) (hT_a : sg_T a = 1) (hf : F_X1_addBearer a x1 x2 h = some Rz) (H : Heap) (locs : List Loc) (ls : Array Slot) (hw : sg_Wo D b cA n s.heap h H locs) (hl : lv_has ls 3 [(0, .ref (b + a)), (1, .int x1), (2, .int x2)]) : W p l e R s m args below meth c H locs 0 0 (sg_Qi below args s D b cA n (fun r u => (r = Rz.1 ∧ u = Rz.2) ∧ narrow .boolean (.int r) = .int r)) (F0 m 0 ls []) := by
  have hx := hc.1
  have hb := hc.2.1
  have hn0 : 0 < n := sg_pos hn
  unfold F_X1_addBearer at hf
  refine lv_aload_n hx hb dX1_addBearer_0 rfl (lv_at hl 0 rfl) ?_
  refine sg_geti hc hw ha_a hT_a fi_1_2 k_46 dX1_addBearer_1 ?_
  refine lv_bipush (v := 6) hx hb dX1_addBearer_4 (by decide) ?_
  refine lv_icmp_ge (tgt := 28) hx hb dX1_addBearer_6 (by decide) (fun c6 => ?_) (fun c6 => ?_)
  · have hf := if_of c6 hf
    refine lv_iconst (v := 0) hx hb dX1_addBearer_28 (by decide) ?_
    cases hf
    exact sg_zret hc hw hz hn0 hr hlocks rfl ⟨⟨rfl, rfl⟩, rfl⟩ dX1_addBearer_29
  · have hf := if_no c6 hf
    refine lv_iload_n hx hb dX1_addBearer_9 rfl (lv_at hl 1 rfl) ?_
    refine lv_iconst (v := 1) hx hb dX1_addBearer_10 (by decide) ?_
    refine lv_bipush (v := 60) hx hb dX1_addBearer_11 (by decide) ?_
    obtain ⟨p13, hp13, hf⟩ := cl_of hf
    refine sg_ni (rest := []) (c_X8_within hn (h := h) hp13) hc hw hz hn0 hml hl cn_X1_46 ⟨⟨rfl, rfl⟩, Nat.le_trans (Nat.le_of_ble_eq_true rfl) hRf, Nat.le_trans (Nat.le_of_ble_eq_true rfl) hRl⟩ ⟨Nat.zero_le _, Nat.zero_le _⟩ rfl rfl (Nat.le_of_ble_eq_true rfl) dX1_addBearer_13 (fun r h1 H locs hp hw => ?_)
    obtain ⟨⟨e1, e2⟩, hb13⟩ := hp; subst r; subst h1
    refine lv_if_eq (tgt := 28) hx hb dX1_addBearer_16 (by decide) (fun c16 => ?_) (fun c16 => ?_)
    · have hf := if_of c16 hf
      refine lv_iconst (v := 0) hx hb dX1_addBearer_28 (by decide) ?_
      cases hf
      exact sg_zret hc hw hz hn0 hr hlocks rfl ⟨⟨rfl, rfl⟩, rfl⟩ dX1_addBearer_29
    · have hf := if_no c16 hf
      refine lv_iload_n hx hb dX1_addBearer_19 rfl (lv_at hl 2 rfl) ?_
      refine lv_iconst (v := 0) hx hb dX1_addBearer_20 (by decide) ?_
      refine lv_iconst (v := 3) hx hb dX1_addBearer_21 (by decide) ?_
      obtain ⟨p22, hp22, hf⟩ := cl_of hf
      refine sg_ni (rest := []) (c_X8_within hn (h := h) hp22) hc hw hz hn0 hml hl cn_X1_46 ⟨⟨rfl, rfl⟩, Nat.le_trans (Nat.le_of_ble_eq_true rfl) hRf, Nat.le_trans (Nat.le_of_ble_eq_true rfl) hRl⟩ ⟨Nat.zero_le _, Nat.zero_le _⟩ rfl rfl (Nat.le_of_ble_eq_true rfl) dX1_addBearer_22 (fun r h1 H locs hp hw => ?_)
      obtain ⟨⟨e1, e2⟩, hb22⟩ := hp; subst r; subst h1
      refine lv_if_ne (tgt := 30) hx hb dX1_addBearer_25 (by decide) (fun c25 => ?_) (fun c25 => ?_)
      · have hf := if_no c25 hf
        refine lv_aload_n hx hb dX1_addBearer_30 rfl (lv_at hl 0 rfl) ?_
        obtain ⟨hF31, hT31, ha31, hN31⟩ := ft_1_8 hn ha_a hT_a
        refine sg_getf (q := (a + 4)) hc hw ha_a hT_a fr_1_8 (by decide) k_61 dX1_addBearer_31 hF31 ?_
        refine lv_aload_n hx hb dX1_addBearer_34 rfl (lv_at hl 0 rfl) ?_
        refine sg_geti hc hw ha_a hT_a fi_1_2 k_46 dX1_addBearer_35 ?_
        refine lv_bipush (v := 10) hx hb dX1_addBearer_38 (by decide) ?_
        refine lv_iload_n hx hb dX1_addBearer_40 rfl (lv_at hl 1 rfl) ?_
        refine lv_imul hx hb dX1_addBearer_41 ?_
        obtain ⟨hg42, hf⟩ := gd_of hf
        refine sg_ist hc hw ha31 hT31 hN31 hg42 dX1_addBearer_42 (fun H locs hw => ?_)
        obtain ⟨h42, hw, hf⟩ := sg_name hw hf
        refine lv_aload_n hx hb dX1_addBearer_43 rfl (lv_at hl 0 rfl) ?_
        obtain ⟨hF44, hT44, ha44, hN44⟩ := ft_1_9 hn ha_a hT_a
        refine sg_getf (q := (a + 5)) hc hw ha_a hT_a fr_1_9 (by decide) k_65 dX1_addBearer_44 hF44 ?_
        refine lv_aload_n hx hb dX1_addBearer_47 rfl (lv_at hl 0 rfl) ?_
        refine sg_geti hc hw ha_a hT_a fi_1_2 k_46 dX1_addBearer_48 ?_
        refine lv_iload_n hx hb dX1_addBearer_51 rfl (lv_at hl 2 rfl) ?_
        obtain ⟨hg52, hf⟩ := gd_of hf
        refine sg_ist hc hw ha44 hT44 hN44 hg52 dX1_addBearer_52 (fun H locs hw => ?_)
        obtain ⟨h52, hw, hf⟩ := sg_name hw hf
        refine lv_aload_n hx hb dX1_addBearer_53 rfl (lv_at hl 0 rfl) ?_
        refine lv_dup hx hb dX1_addBearer_54 rfl ?_
        refine sg_geti hc hw ha_a hT_a fi_1_2 k_46 dX1_addBearer_55 ?_
        refine lv_iconst (v := 1) hx hb dX1_addBearer_58 (by decide) ?_
        refine lv_iadd hx hb dX1_addBearer_59 ?_
        refine sg_puti hc hw ha_a hT_a fp_1_2 rfl rfl k_46 dX1_addBearer_60 (fun H locs hw => ?_)
        obtain ⟨h60, hw, hf⟩ := sg_name hw hf
        refine lv_iconst (v := 1) hx hb dX1_addBearer_63 (by decide) ?_
        cases hf
        exact sg_zret hc hw hz hn0 hr hlocks rfl ⟨⟨rfl, rfl⟩, rfl⟩ dX1_addBearer_64
      · have hf := if_of c25 hf
        refine lv_iconst (v := 0) hx hb dX1_addBearer_28 (by decide) ?_
        cases hf
        exact sg_zret hc hw hz hn0 hr hlocks rfl ⟨⟨rfl, rfl⟩, rfl⟩ dX1_addBearer_29
theorem c_X1_addBearer {l : Launch} {D : va_G} {cA : Nat → ClassId} {b n : Nat} (hn : sg_okN n) {a : Nat} {x1 : Int32} {x2 : Int32} (ha_a : a < n) (hT_a : sg_T a = 1) {h : HP} {Rz : Int32 × HP} (hf : F_X1_addBearer a x1 x2 h = some Rz) : Met l yX1_addBearer (Cond.code yX1_addBearer cX1_addBearer 3 (some .boolean) :: sg_tbl) ({ frames := 1, cells := 0, slots := 0, locals := 22 } : Room) (va_Pc [.ref (b + a), .int x1, .int x2] (sg_Wd D b cA n h)) (va_Qi (fun r u => (r = Rz.1 ∧ u = Rz.2) ∧ narrow .boolean (.int r) = .int r) (sg_Wd D b cA n) (sg_A b)) 0 0 (sg_A b) := by
  refine Met.ofW (cc := cX1_addBearer) (maxL := 3) (ret := (some .boolean)) (by decide) rfl ?_
  intro p e s m args below meth c s₁ B hml hv
  obtain ⟨rfl, hP, hK, hz, hY, hN⟩ := hv
  have hl := lv_entry [.ref (b + a), .int x1, .int x2] (n := 3) (Nat.le_of_ble_eq_true rfl)
  rw [lg_entry_eq]
  exact w_X1_addBearer hn ⟨B.exec, B.bytes, findClass_of_methodNamed B.named, fun w h => atoms_spec (ws := Cond.code yX1_addBearer cX1_addBearer 3 (some .boolean) :: sg_tbl) B.pre w (List.mem_cons_of_mem _ h), hK, hN⟩ hz B.returns B.notSynchronized hml (Nat.le_refl _) (Nat.le_refl _) ha_a hT_a hf _ _ _ ⟨hP, hY, va_S.rf⟩ hl
set_option maxHeartbeats 4000000 in
set_option maxRecDepth 100000 in
theorem w_X1_setMust {p : Program} {l : Launch} {e : Env} {R : Room} {s : State} {m : MethodId} {args : Array Value} {below : List Frame} {meth : Method} {c : Code} {D : va_G} {cA : Nat → ClassId} {b n : Nat} (hn : sg_okN n) {a : Nat} {x1 : Int32} {h : HP} {Rz : Int32 × HP} (hc : sg_Cx p s m args c cX1_setMust RX1 D cA) (hz : s.heap.size = b + n) (hr : meth.sig.returnType = some .boolean) (hlocks : meth.locks = false) (hml : c.maxLocals = 2) (hRf : 1 ≤ R.frames) (hRl : 22 ≤ R.locals) (ha_a : a < n) (hT_a : sg_T a = 1) (hf : F_X1_setMust a x1 h = some Rz) (H : Heap) (locs : List Loc) (ls : Array Slot) (hw : sg_Wo D b cA n s.heap h H locs) (hl : lv_has ls 2 [(0, .ref (b + a)), (1, .int x1)]) : W p l e R s m args below meth c H locs 0 0 (sg_Qi below args s D b cA n (fun r u => (r = Rz.1 ∧ u = Rz.2) ∧ narrow .boolean (.int r) = .int r)) (F0 m 0 ls []) := by
  have hx := hc.1
  have hb := hc.2.1
  have hn0 : 0 < n := sg_pos hn
  unfold F_X1_setMust at hf
  refine lv_iload_n hx hb dX1_setMust_0 rfl (lv_at hl 1 rfl) ?_
  refine lv_iconst (v := 1) hx hb dX1_setMust_1 (by decide) ?_
  refine lv_iconst (v := 3) hx hb dX1_setMust_2 (by decide) ?_
  obtain ⟨p3, hp3, hf⟩ := cl_of hf
  refine sg_ni (rest := []) (c_X8_within hn (h := h) hp3) hc hw hz hn0 hml hl cn_X1_46 ⟨⟨rfl, rfl⟩, Nat.le_trans (Nat.le_of_ble_eq_true rfl) hRf, Nat.le_trans (Nat.le_of_ble_eq_true rfl) hRl⟩ ⟨Nat.zero_le _, Nat.zero_le _⟩ rfl rfl (Nat.le_of_ble_eq_true rfl) dX1_setMust_3 (fun r h1 H locs hp hw => ?_)
  obtain ⟨⟨e1, e2⟩, hb3⟩ := hp; subst r; subst h1
  refine lv_if_ne (tgt := 11) hx hb dX1_setMust_6 (by decide) (fun c6 => ?_) (fun c6 => ?_)
  · have hf := if_no c6 hf
    refine lv_aload_n hx hb dX1_setMust_11 rfl (lv_at hl 0 rfl) ?_
    refine lv_iload_n hx hb dX1_setMust_12 rfl (lv_at hl 1 rfl) ?_
    refine sg_puti hc hw ha_a hT_a fp_1_3 rfl rfl k_51 dX1_setMust_13 (fun H locs hw => ?_)
    obtain ⟨h13, hw, hf⟩ := sg_name hw hf
    refine lv_iconst (v := 1) hx hb dX1_setMust_16 (by decide) ?_
    cases hf
    exact sg_zret hc hw hz hn0 hr hlocks rfl ⟨⟨rfl, rfl⟩, rfl⟩ dX1_setMust_17
  · have hf := if_of c6 hf
    refine lv_iconst (v := 0) hx hb dX1_setMust_9 (by decide) ?_
    cases hf
    exact sg_zret hc hw hz hn0 hr hlocks rfl ⟨⟨rfl, rfl⟩, rfl⟩ dX1_setMust_10
theorem c_X1_setMust {l : Launch} {D : va_G} {cA : Nat → ClassId} {b n : Nat} (hn : sg_okN n) {a : Nat} {x1 : Int32} (ha_a : a < n) (hT_a : sg_T a = 1) {h : HP} {Rz : Int32 × HP} (hf : F_X1_setMust a x1 h = some Rz) : Met l yX1_setMust (Cond.code yX1_setMust cX1_setMust 2 (some .boolean) :: sg_tbl) ({ frames := 1, cells := 0, slots := 0, locals := 22 } : Room) (va_Pc [.ref (b + a), .int x1] (sg_Wd D b cA n h)) (va_Qi (fun r u => (r = Rz.1 ∧ u = Rz.2) ∧ narrow .boolean (.int r) = .int r) (sg_Wd D b cA n) (sg_A b)) 0 0 (sg_A b) := by
  refine Met.ofW (cc := cX1_setMust) (maxL := 2) (ret := (some .boolean)) (by decide) rfl ?_
  intro p e s m args below meth c s₁ B hml hv
  obtain ⟨rfl, hP, hK, hz, hY, hN⟩ := hv
  have hl := lv_entry [.ref (b + a), .int x1] (n := 2) (Nat.le_of_ble_eq_true rfl)
  rw [lg_entry_eq]
  exact w_X1_setMust hn ⟨B.exec, B.bytes, findClass_of_methodNamed B.named, fun w h => atoms_spec (ws := Cond.code yX1_setMust cX1_setMust 2 (some .boolean) :: sg_tbl) B.pre w (List.mem_cons_of_mem _ h), hK, hN⟩ hz B.returns B.notSynchronized hml (Nat.le_refl _) (Nat.le_refl _) ha_a hT_a hf _ _ _ ⟨hP, hY, va_S.rf⟩ hl
set_option maxHeartbeats 4000000 in
set_option maxRecDepth 100000 in
theorem w_X1_setWet {p : Program} {l : Launch} {e : Env} {R : Room} {s : State} {m : MethodId} {args : Array Value} {below : List Frame} {meth : Method} {c : Code} {D : va_G} {cA : Nat → ClassId} {b n : Nat} (hn : sg_okN n) {a : Nat} {x1 : Int32} {h : HP} {Rz : Int32 × HP} (hc : sg_Cx p s m args c cX1_setWet RX1 D cA) (hz : s.heap.size = b + n) (hr : meth.sig.returnType = some .boolean) (hlocks : meth.locks = false) (hml : c.maxLocals = 2) (hRf : 1 ≤ R.frames) (hRl : 22 ≤ R.locals) (ha_a : a < n) (hT_a : sg_T a = 1) (hf : F_X1_setWet a x1 h = some Rz) (H : Heap) (locs : List Loc) (ls : Array Slot) (hw : sg_Wo D b cA n s.heap h H locs) (hl : lv_has ls 2 [(0, .ref (b + a)), (1, .int x1)]) : W p l e R s m args below meth c H locs 0 0 (sg_Qi below args s D b cA n (fun r u => (r = Rz.1 ∧ u = Rz.2) ∧ narrow .boolean (.int r) = .int r)) (F0 m 0 ls []) := by
  have hx := hc.1
  have hb := hc.2.1
  have hn0 : 0 < n := sg_pos hn
  unfold F_X1_setWet at hf
  refine lv_iload_n hx hb dX1_setWet_0 rfl (lv_at hl 1 rfl) ?_
  refine lv_iconst (v := 0) hx hb dX1_setWet_1 (by decide) ?_
  refine lv_iconst (v := 3) hx hb dX1_setWet_2 (by decide) ?_
  obtain ⟨p3, hp3, hf⟩ := cl_of hf
  refine sg_ni (rest := []) (c_X8_within hn (h := h) hp3) hc hw hz hn0 hml hl cn_X1_46 ⟨⟨rfl, rfl⟩, Nat.le_trans (Nat.le_of_ble_eq_true rfl) hRf, Nat.le_trans (Nat.le_of_ble_eq_true rfl) hRl⟩ ⟨Nat.zero_le _, Nat.zero_le _⟩ rfl rfl (Nat.le_of_ble_eq_true rfl) dX1_setWet_3 (fun r h1 H locs hp hw => ?_)
  obtain ⟨⟨e1, e2⟩, hb3⟩ := hp; subst r; subst h1
  refine lv_if_ne (tgt := 11) hx hb dX1_setWet_6 (by decide) (fun c6 => ?_) (fun c6 => ?_)
  · have hf := if_no c6 hf
    refine lv_aload_n hx hb dX1_setWet_11 rfl (lv_at hl 0 rfl) ?_
    refine lv_iload_n hx hb dX1_setWet_12 rfl (lv_at hl 1 rfl) ?_
    refine sg_puti hc hw ha_a hT_a fp_1_4 rfl rfl k_53 dX1_setWet_13 (fun H locs hw => ?_)
    obtain ⟨h13, hw, hf⟩ := sg_name hw hf
    refine lv_iconst (v := 1) hx hb dX1_setWet_16 (by decide) ?_
    cases hf
    exact sg_zret hc hw hz hn0 hr hlocks rfl ⟨⟨rfl, rfl⟩, rfl⟩ dX1_setWet_17
  · have hf := if_of c6 hf
    refine lv_iconst (v := 0) hx hb dX1_setWet_9 (by decide) ?_
    cases hf
    exact sg_zret hc hw hz hn0 hr hlocks rfl ⟨⟨rfl, rfl⟩, rfl⟩ dX1_setWet_10
theorem c_X1_setWet {l : Launch} {D : va_G} {cA : Nat → ClassId} {b n : Nat} (hn : sg_okN n) {a : Nat} {x1 : Int32} (ha_a : a < n) (hT_a : sg_T a = 1) {h : HP} {Rz : Int32 × HP} (hf : F_X1_setWet a x1 h = some Rz) : Met l yX1_setWet (Cond.code yX1_setWet cX1_setWet 2 (some .boolean) :: sg_tbl) ({ frames := 1, cells := 0, slots := 0, locals := 22 } : Room) (va_Pc [.ref (b + a), .int x1] (sg_Wd D b cA n h)) (va_Qi (fun r u => (r = Rz.1 ∧ u = Rz.2) ∧ narrow .boolean (.int r) = .int r) (sg_Wd D b cA n) (sg_A b)) 0 0 (sg_A b) := by
  refine Met.ofW (cc := cX1_setWet) (maxL := 2) (ret := (some .boolean)) (by decide) rfl ?_
  intro p e s m args below meth c s₁ B hml hv
  obtain ⟨rfl, hP, hK, hz, hY, hN⟩ := hv
  have hl := lv_entry [.ref (b + a), .int x1] (n := 2) (Nat.le_of_ble_eq_true rfl)
  rw [lg_entry_eq]
  exact w_X1_setWet hn ⟨B.exec, B.bytes, findClass_of_methodNamed B.named, fun w h => atoms_spec (ws := Cond.code yX1_setWet cX1_setWet 2 (some .boolean) :: sg_tbl) B.pre w (List.mem_cons_of_mem _ h), hK, hN⟩ hz B.returns B.notSynchronized hml (Nat.le_refl _) (Nat.le_refl _) ha_a hT_a hf _ _ _ ⟨hP, hY, va_S.rf⟩ hl
set_option maxHeartbeats 4000000 in
set_option maxRecDepth 100000 in
theorem w_X1_hasStretch {p : Program} {l : Launch} {e : Env} {R : Room} {s : State} {m : MethodId} {args : Array Value} {below : List Frame} {meth : Method} {c : Code} {D : va_G} {cA : Nat → ClassId} {b n : Nat} (hn : sg_okN n) {a : Nat} {x1 : Int32} {h : HP} {Rz : Int32} (hc : sg_Cx p s m args c cX1_hasStretch RX1 D cA) (hz : s.heap.size = b + n) (hr : meth.sig.returnType = some .boolean) (hlocks : meth.locks = false) (hml : c.maxLocals = 2) (hRf : 0 ≤ R.frames) (hRl : 0 ≤ R.locals) (ha_a : a < n) (hT_a : sg_T a = 1) (hf : F_X1_hasStretch a x1 h = some Rz) (H : Heap) (locs : List Loc) (ls : Array Slot) (hw : sg_Wo D b cA n s.heap h H locs) (hl : lv_has ls 2 [(0, .ref (b + a)), (1, .int x1)]) : W p l e R s m args below meth c H locs 0 0 (sg_Qi below args s D b cA n (fun r u => (r = Rz ∧ u = h) ∧ narrow .boolean (.int r) = .int r)) (F0 m 0 ls []) := by
  have hx := hc.1
  have hb := hc.2.1
  have hn0 : 0 < n := sg_pos hn
  unfold F_X1_hasStretch at hf
  refine lv_iload_n hx hb dX1_hasStretch_0 rfl (lv_at hl 1 rfl) ?_
  refine lv_if_lt (tgt := 16) hx hb dX1_hasStretch_1 (by decide) (fun c1 => ?_) (fun c1 => ?_)
  · have hf := if_of c1 hf
    refine lv_iconst (v := 0) hx hb dX1_hasStretch_16 (by decide) ?_
    cases hf
    exact sg_zret hc hw hz hn0 hr hlocks rfl ⟨⟨rfl, rfl⟩, rfl⟩ dX1_hasStretch_17
  · have hf := if_no c1 hf
    refine lv_iload_n hx hb dX1_hasStretch_4 rfl (lv_at hl 1 rfl) ?_
    refine lv_aload_n hx hb dX1_hasStretch_5 rfl (lv_at hl 0 rfl) ?_
    refine sg_geti hc hw ha_a hT_a fi_1_0 k_38 dX1_hasStretch_6 ?_
    refine lv_icmp_ge (tgt := 16) hx hb dX1_hasStretch_9 (by decide) (fun c9 => ?_) (fun c9 => ?_)
    · have hf := if_of c9 hf
      refine lv_iconst (v := 0) hx hb dX1_hasStretch_16 (by decide) ?_
      cases hf
      exact sg_zret hc hw hz hn0 hr hlocks rfl ⟨⟨rfl, rfl⟩, rfl⟩ dX1_hasStretch_17
    · have hf := if_no c9 hf
      refine lv_iconst (v := 1) hx hb dX1_hasStretch_12 (by decide) ?_
      refine lv_goto (tgt := 17) hx hb dX1_hasStretch_13 (by decide) ?_
      cases hf
      exact sg_zret hc hw hz hn0 hr hlocks rfl ⟨⟨rfl, rfl⟩, rfl⟩ dX1_hasStretch_17
theorem c_X1_hasStretch {l : Launch} {D : va_G} {cA : Nat → ClassId} {b n : Nat} (hn : sg_okN n) {a : Nat} {x1 : Int32} (ha_a : a < n) (hT_a : sg_T a = 1) {h : HP} {Rz : Int32} (hf : F_X1_hasStretch a x1 h = some Rz) : Met l yX1_hasStretch (Cond.code yX1_hasStretch cX1_hasStretch 2 (some .boolean) :: sg_tbl) ({ frames := 0, cells := 0, slots := 0, locals := 0 } : Room) (va_Pc [.ref (b + a), .int x1] (sg_Wd D b cA n h)) (va_Qi (fun r u => (r = Rz ∧ u = h) ∧ narrow .boolean (.int r) = .int r) (sg_Wd D b cA n) (sg_A b)) 0 0 (sg_A b) := by
  refine Met.ofW (cc := cX1_hasStretch) (maxL := 2) (ret := (some .boolean)) (by decide) rfl ?_
  intro p e s m args below meth c s₁ B hml hv
  obtain ⟨rfl, hP, hK, hz, hY, hN⟩ := hv
  have hl := lv_entry [.ref (b + a), .int x1] (n := 2) (Nat.le_of_ble_eq_true rfl)
  rw [lg_entry_eq]
  exact w_X1_hasStretch hn ⟨B.exec, B.bytes, findClass_of_methodNamed B.named, fun w h => atoms_spec (ws := Cond.code yX1_hasStretch cX1_hasStretch 2 (some .boolean) :: sg_tbl) B.pre w (List.mem_cons_of_mem _ h), hK, hN⟩ hz B.returns B.notSynchronized hml (Nat.le_refl _) (Nat.le_refl _) ha_a hT_a hf _ _ _ ⟨hP, hY, va_S.rf⟩ hl
set_option maxHeartbeats 4000000 in
set_option maxRecDepth 100000 in
theorem w_X1_setPrice {p : Program} {l : Launch} {e : Env} {R : Room} {s : State} {m : MethodId} {args : Array Value} {below : List Frame} {meth : Method} {c : Code} {D : va_G} {cA : Nat → ClassId} {b n : Nat} (hn : sg_okN n) {a : Nat} {x1 : Int32} {x2 : Int32} {h : HP} {Rz : Int32 × HP} (hc : sg_Cx p s m args c cX1_setPrice RX1 D cA) (hz : s.heap.size = b + n) (hr : meth.sig.returnType = some .boolean) (hlocks : meth.locks = false) (hml : c.maxLocals = 3) (hRf : 1 ≤ R.frames) (hRl : 22 ≤ R.locals) (ha_a : a < n) (hT_a : sg_T a = 1) (hf : F_X1_setPrice a x1 x2 h = some Rz) (H : Heap) (locs : List Loc) (ls : Array Slot) (hw : sg_Wo D b cA n s.heap h H locs) (hl : lv_has ls 3 [(0, .ref (b + a)), (1, .int x1), (2, .int x2)]) : W p l e R s m args below meth c H locs 0 0 (sg_Qi below args s D b cA n (fun r u => (r = Rz.1 ∧ u = Rz.2) ∧ narrow .boolean (.int r) = .int r)) (F0 m 0 ls []) := by
  have hx := hc.1
  have hb := hc.2.1
  have hn0 : 0 < n := sg_pos hn
  unfold F_X1_setPrice at hf
  refine lv_aload_n hx hb dX1_setPrice_0 rfl (lv_at hl 0 rfl) ?_
  refine lv_iload_n hx hb dX1_setPrice_1 rfl (lv_at hl 1 rfl) ?_
  obtain ⟨p2, hp2, hf⟩ := cl_of hf
  refine sg_vi (rest := []) (c_X1_hasStretch hn ha_a hT_a hp2) hc hw hz hml hl ha_a hT_a (by decide) rfl cv_X1_50 ⟨⟨rfl, rfl⟩, Nat.le_trans (Nat.le_of_ble_eq_true rfl) hRf, Nat.le_trans (Nat.le_of_ble_eq_true rfl) hRl⟩ ⟨Nat.zero_le _, Nat.zero_le _⟩ rfl rfl (Nat.le_of_ble_eq_true rfl) dX1_setPrice_2 (fun r h1 H locs hp hw => ?_)
  obtain ⟨⟨e1, e2⟩, hb2⟩ := hp; subst r; subst h1
  refine lv_if_eq (tgt := 18) hx hb dX1_setPrice_5 (by decide) (fun c5 => ?_) (fun c5 => ?_)
  · have hf := if_of c5 hf
    refine lv_iconst (v := 0) hx hb dX1_setPrice_18 (by decide) ?_
    cases hf
    exact sg_zret hc hw hz hn0 hr hlocks rfl ⟨⟨rfl, rfl⟩, rfl⟩ dX1_setPrice_19
  · have hf := if_no c5 hf
    refine lv_iload_n hx hb dX1_setPrice_8 rfl (lv_at hl 2 rfl) ?_
    refine lv_iconst (v := 1) hx hb dX1_setPrice_9 (by decide) ?_
    refine lv_bipush (v := 9) hx hb dX1_setPrice_10 (by decide) ?_
    obtain ⟨p12, hp12, hf⟩ := cl_of hf
    refine sg_ni (rest := []) (c_X8_within hn (h := h) hp12) hc hw hz hn0 hml hl cn_X1_46 ⟨⟨rfl, rfl⟩, Nat.le_trans (Nat.le_of_ble_eq_true rfl) hRf, Nat.le_trans (Nat.le_of_ble_eq_true rfl) hRl⟩ ⟨Nat.zero_le _, Nat.zero_le _⟩ rfl rfl (Nat.le_of_ble_eq_true rfl) dX1_setPrice_12 (fun r h1 H locs hp hw => ?_)
    obtain ⟨⟨e1, e2⟩, hb12⟩ := hp; subst r; subst h1
    refine lv_if_ne (tgt := 20) hx hb dX1_setPrice_15 (by decide) (fun c15 => ?_) (fun c15 => ?_)
    · have hf := if_no c15 hf
      refine lv_aload_n hx hb dX1_setPrice_20 rfl (lv_at hl 0 rfl) ?_
      obtain ⟨hF21, hT21, ha21, hN21⟩ := ft_1_7 hn ha_a hT_a
      refine sg_getf (q := (a + 3)) hc hw ha_a hT_a fr_1_7 (by decide) k_60 dX1_setPrice_21 hF21 ?_
      refine lv_iload_n hx hb dX1_setPrice_24 rfl (lv_at hl 1 rfl) ?_
      refine lv_iload_n hx hb dX1_setPrice_25 rfl (lv_at hl 2 rfl) ?_
      obtain ⟨hg26, hf⟩ := gd_of hf
      refine sg_ist hc hw ha21 hT21 hN21 hg26 dX1_setPrice_26 (fun H locs hw => ?_)
      obtain ⟨h26, hw, hf⟩ := sg_name hw hf
      refine lv_iconst (v := 1) hx hb dX1_setPrice_27 (by decide) ?_
      cases hf
      exact sg_zret hc hw hz hn0 hr hlocks rfl ⟨⟨rfl, rfl⟩, rfl⟩ dX1_setPrice_28
    · have hf := if_of c15 hf
      refine lv_iconst (v := 0) hx hb dX1_setPrice_18 (by decide) ?_
      cases hf
      exact sg_zret hc hw hz hn0 hr hlocks rfl ⟨⟨rfl, rfl⟩, rfl⟩ dX1_setPrice_19
theorem c_X1_setPrice {l : Launch} {D : va_G} {cA : Nat → ClassId} {b n : Nat} (hn : sg_okN n) {a : Nat} {x1 : Int32} {x2 : Int32} (ha_a : a < n) (hT_a : sg_T a = 1) {h : HP} {Rz : Int32 × HP} (hf : F_X1_setPrice a x1 x2 h = some Rz) : Met l yX1_setPrice (Cond.code yX1_setPrice cX1_setPrice 3 (some .boolean) :: sg_tbl) ({ frames := 1, cells := 0, slots := 0, locals := 22 } : Room) (va_Pc [.ref (b + a), .int x1, .int x2] (sg_Wd D b cA n h)) (va_Qi (fun r u => (r = Rz.1 ∧ u = Rz.2) ∧ narrow .boolean (.int r) = .int r) (sg_Wd D b cA n) (sg_A b)) 0 0 (sg_A b) := by
  refine Met.ofW (cc := cX1_setPrice) (maxL := 3) (ret := (some .boolean)) (by decide) rfl ?_
  intro p e s m args below meth c s₁ B hml hv
  obtain ⟨rfl, hP, hK, hz, hY, hN⟩ := hv
  have hl := lv_entry [.ref (b + a), .int x1, .int x2] (n := 3) (Nat.le_of_ble_eq_true rfl)
  rw [lg_entry_eq]
  exact w_X1_setPrice hn ⟨B.exec, B.bytes, findClass_of_methodNamed B.named, fun w h => atoms_spec (ws := Cond.code yX1_setPrice cX1_setPrice 3 (some .boolean) :: sg_tbl) B.pre w (List.mem_cons_of_mem _ h), hK, hN⟩ hz B.returns B.notSynchronized hml (Nat.le_refl _) (Nat.le_refl _) ha_a hT_a hf _ _ _ ⟨hP, hY, va_S.rf⟩ hl
set_option maxHeartbeats 4000000 in
set_option maxRecDepth 100000 in
theorem w_X1_markYards {p : Program} {l : Launch} {e : Env} {R : Room} {s : State} {m : MethodId} {args : Array Value} {below : List Frame} {meth : Method} {c : Code} {D : va_G} {cA : Nat → ClassId} {b n : Nat} (hn : sg_okN n) {a : Nat} {h : HP} {Rz : HP} (hc : sg_Cx p s m args c cX1_markYards RX1 D cA) (hz : s.heap.size = b + n) (hr : meth.sig.returnType = none) (hlocks : meth.locks = false) (hml : c.maxLocals = 4) (hRf : 0 ≤ R.frames) (hRl : 0 ≤ R.locals) (ha_a : a < n) (hT_a : sg_T a = 1) (hf : F_X1_markYards a h = some Rz) (H : Heap) (locs : List Loc) (ls : Array Slot) (hw : sg_Wo D b cA n s.heap h H locs) (hl : lv_has ls 4 [(0, .ref (b + a))]) : W p l e R s m args below meth c H locs 0 0 (sg_Qv below args s D b cA n (fun u => u = Rz)) (F0 m 0 ls []) := by
  have hx := hc.1
  have hb := hc.2.1
  have hn0 : 0 < n := sg_pos hn
  have L4 : ∀ (k : Nat) (x : (Int32 × Int32 × HP)), F_X1_markYards_L4 a k x = some Rz → ∀ (H : Heap) (locs : List Loc) (ls : Array Slot), sg_Wo D b cA n s.heap x.2.2 H locs → lv_has ls 4 [(0, .ref (b + a)), (1, .int x.1), (2, .int x.2.1)] → W p l e R s m args below meth c H locs 0 0 (sg_Qv below args s D b cA n (fun u => u = Rz)) (F0 m 4 ls []) := by
    unfold F_X1_markYards_L4
    refine lp_walk ?_
    intro rc4 hrc4 x hf H locs ls hw hl
    obtain ⟨x1, x2, h⟩ := x
    dsimp only at hf hw hl
    have J46 : ∀ (x1 : Int32) (x2 : Int32) (h : HP) (H : Heap) (locs : List Loc) (ls : Array Slot), F_X1_markYards_J46 a rc4 x1 x2 h = some Rz → sg_Wo D b cA n s.heap h H locs → lv_has ls 4 [(0, .ref (b + a)), (1, .int x1), (2, .int x2)] → W p l e R s m args below meth c H locs 0 0 (sg_Qv below args s D b cA n (fun u => u = Rz)) (F0 m 46 ls []) := by
      intro x1 x2 h H locs ls hf hw hl
      unfold F_X1_markYards_J46 at hf
      refine lv_iinc (v := (x2 + 1)) (lv' := [(2, .int (x2 + 1)), (0, .ref (b + a)), (1, .int x1)]) hx hb dX1_markYards_46 hl (k := 2) rfl rfl (by decide) rfl (fun ls hl => ?_)
      refine lv_goto (tgt := 4) hx hb dX1_markYards_49 (by decide) ?_
      exact hrc4 _ hf _ _ _ hw (lv_sub hl [1, 2, 0] rfl)
    have L14 : ∀ (x2 : Int32) (k : Nat) (x : (Int32 × Int32 × HP)), F_X1_markYards_L14 a rc4 x2 k x = some Rz → ∀ (H : Heap) (locs : List Loc) (ls : Array Slot), sg_Wo D b cA n s.heap x.2.2 H locs → lv_has ls 4 [(0, .ref (b + a)), (1, .int x.1), (2, .int x2), (3, .int x.2.1)] → W p l e R s m args below meth c H locs 0 0 (sg_Qv below args s D b cA n (fun u => u = Rz)) (F0 m 14 ls []) := by
      intro x2
      unfold F_X1_markYards_L14
      refine lp_walk ?_
      intro rc14 hrc14 x hf H locs ls hw hl
      obtain ⟨x1, x3, h⟩ := x
      dsimp only at hf hw hl
      refine lv_iload_n hx hb dX1_markYards_14 rfl (lv_at hl 3 rfl) ?_
      refine lv_aload_n hx hb dX1_markYards_15 rfl (lv_at hl 0 rfl) ?_
      obtain ⟨hF16, hT16, ha16, hN16⟩ := ft_1_5 hn ha_a hT_a
      refine sg_getf (q := (a + 1)) hc hw ha_a hT_a fr_1_5 (by decide) k_57 dX1_markYards_16 hF16 ?_
      refine lv_iload_n hx hb dX1_markYards_19 rfl (lv_at hl 2 rfl) ?_
      obtain ⟨hg20, hf⟩ := gd_of hf
      refine sg_ild hc hw ha16 hT16 hN16 hg20 dX1_markYards_20 ?_
      refine lv_icmp_ge (tgt := 46) hx hb dX1_markYards_21 (by decide) (fun c21 => ?_) (fun c21 => ?_)
      · have hf := if_of c21 hf
        exact J46 x1 x2 _ _ _ _ hf hw (lv_sub hl [0, 1, 2] rfl)
      · have hf := if_no c21 hf
        refine lv_iload_n hx hb dX1_markYards_24 rfl (lv_at hl 1 rfl) ?_
        refine lv_bipush (v := 120) hx hb dX1_markYards_25 (by decide) ?_
        refine lv_icmp_ge (tgt := 46) hx hb dX1_markYards_27 (by decide) (fun c27 => ?_) (fun c27 => ?_)
        · have hf := if_of c27 hf
          exact J46 x1 x2 _ _ _ _ hf hw (lv_sub hl [0, 1, 2] rfl)
        · have hf := if_no c27 hf
          refine lv_aload_n hx hb dX1_markYards_30 rfl (lv_at hl 0 rfl) ?_
          obtain ⟨hF31, hT31, ha31, hN31⟩ := ft_1_10 hn ha_a hT_a
          refine sg_getf (q := (a + 6)) hc hw ha_a hT_a fr_1_10 (by decide) k_70 dX1_markYards_31 hF31 ?_
          refine lv_iload_n hx hb dX1_markYards_34 rfl (lv_at hl 1 rfl) ?_
          refine lv_iload_n hx hb dX1_markYards_35 rfl (lv_at hl 2 rfl) ?_
          obtain ⟨hg36, hf⟩ := gd_of hf
          refine sg_ist hc hw ha31 hT31 hN31 hg36 dX1_markYards_36 (fun H locs hw => ?_)
          obtain ⟨h36, hw, hf⟩ := sg_name hw hf
          refine lv_iinc (v := (x1 + 1)) (lv' := [(1, .int (x1 + 1)), (0, .ref (b + a)), (2, .int x2), (3, .int x3)]) hx hb dX1_markYards_37 hl (k := 1) rfl rfl (by decide) rfl (fun ls hl => ?_)
          refine lv_iinc (v := (x3 + 1)) (lv' := [(3, .int (x3 + 1)), (1, .int (x1 + 1)), (0, .ref (b + a)), (2, .int x2)]) hx hb dX1_markYards_40 hl (k := 3) rfl rfl (by decide) rfl (fun ls hl => ?_)
          refine lv_goto (tgt := 14) hx hb dX1_markYards_43 (by decide) ?_
          exact hrc14 _ hf _ _ _ hw (lv_sub hl [2, 1, 3, 0] rfl)
    refine lv_iload_n hx hb dX1_markYards_4 rfl (lv_at hl 2 rfl) ?_
    refine lv_aload_n hx hb dX1_markYards_5 rfl (lv_at hl 0 rfl) ?_
    refine sg_geti hc hw ha_a hT_a fi_1_0 k_38 dX1_markYards_6 ?_
    refine lv_icmp_ge (tgt := 52) hx hb dX1_markYards_9 (by decide) (fun c9 => ?_) (fun c9 => ?_)
    · have hf := if_of c9 hf
      cases hf
      exact sg_vret hc hw hz hn0 hr hlocks rfl dX1_markYards_52
    · have hf := if_no c9 hf
      refine lv_iconst (v := 0) hx hb dX1_markYards_12 (by decide) ?_
      refine lv_istore_n (lv' := [(3, .int 0), (0, .ref (b + a)), (1, .int x1), (2, .int x2)]) hx hb dX1_markYards_13 rfl hl (by decide) rfl (fun ls hl => ?_)
      exact L14 x2 _ _ hf _ _ _ hw (lv_sub hl [1, 2, 3, 0] rfl)
  unfold F_X1_markYards at hf
  refine lv_iconst (v := 0) hx hb dX1_markYards_0 (by decide) ?_
  refine lv_istore_n (lv' := [(1, .int 0), (0, .ref (b + a))]) hx hb dX1_markYards_1 rfl hl (by decide) rfl (fun ls hl => ?_)
  refine lv_iconst (v := 0) hx hb dX1_markYards_2 (by decide) ?_
  refine lv_istore_n (lv' := [(2, .int 0), (1, .int 0), (0, .ref (b + a))]) hx hb dX1_markYards_3 rfl hl (by decide) rfl (fun ls hl => ?_)
  exact L4 _ _ hf _ _ _ hw (lv_sub hl [2, 1, 0] rfl)
theorem c_X1_markYards {l : Launch} {D : va_G} {cA : Nat → ClassId} {b n : Nat} (hn : sg_okN n) {a : Nat} (ha_a : a < n) (hT_a : sg_T a = 1) {h : HP} {Rz : HP} (hf : F_X1_markYards a h = some Rz) : Met l yX1_markYards (Cond.code yX1_markYards cX1_markYards 4 none :: sg_tbl) ({ frames := 0, cells := 0, slots := 0, locals := 0 } : Room) (va_Pc [.ref (b + a)] (sg_Wd D b cA n h)) (va_Qv (fun u => u = Rz) (sg_Wd D b cA n) (sg_A b)) 0 0 (sg_A b) := by
  refine Met.ofW (cc := cX1_markYards) (maxL := 4) (ret := none) (by decide) rfl ?_
  intro p e s m args below meth c s₁ B hml hv
  obtain ⟨rfl, hP, hK, hz, hY, hN⟩ := hv
  have hl := lv_entry [.ref (b + a)] (n := 4) (Nat.le_of_ble_eq_true rfl)
  rw [lg_entry_eq]
  exact w_X1_markYards hn ⟨B.exec, B.bytes, findClass_of_methodNamed B.named, fun w h => atoms_spec (ws := Cond.code yX1_markYards cX1_markYards 4 none :: sg_tbl) B.pre w (List.mem_cons_of_mem _ h), hK, hN⟩ hz B.returns B.notSynchronized hml (Nat.le_refl _) (Nat.le_refl _) ha_a hT_a hf _ _ _ ⟨hP, hY, va_S.rf⟩ hl
set_option maxHeartbeats 4000000 in
set_option maxRecDepth 100000 in
theorem w_X1_copy {p : Program} {l : Launch} {e : Env} {R : Room} {s : State} {m : MethodId} {args : Array Value} {below : List Frame} {meth : Method} {c : Code} {D : va_G} {cA : Nat → ClassId} {b n : Nat} (hn : sg_okN n) {a : Nat} {q1 : Nat} {h : HP} {Rz : HP} (hc : sg_Cx p s m args c cX1_copy RX1 D cA) (hz : s.heap.size = b + n) (hr : meth.sig.returnType = none) (hlocks : meth.locks = false) (hml : c.maxLocals = 2) (hRf : 1 ≤ R.frames) (hRl : 100 ≤ R.locals) (ha_a : a < n) (hT_a : sg_T a = 1) (ha_q1 : q1 < n) (hT_q1 : sg_T q1 = 1) (hf : F_X1_copy a q1 h = some Rz) (H : Heap) (locs : List Loc) (ls : Array Slot) (hw : sg_Wo D b cA n s.heap h H locs) (hl : lv_has ls 2 [(0, .ref (b + a)), (1, .ref (b + q1))]) : W p l e R s m args below meth c H locs 0 0 (sg_Qv below args s D b cA n (fun u => u = Rz)) (F0 m 0 ls []) := by
  have hx := hc.1
  have hb := hc.2.1
  have hn0 : 0 < n := sg_pos hn
  unfold F_X1_copy at hf
  refine lv_aload_n hx hb dX1_copy_0 rfl (lv_at hl 0 rfl) ?_
  refine lv_aload_n hx hb dX1_copy_1 rfl (lv_at hl 1 rfl) ?_
  refine sg_geti hc hw ha_q1 hT_q1 fi_1_0 k_38 dX1_copy_2 ?_
  refine sg_puti hc hw ha_a hT_a fp_1_0 rfl rfl k_38 dX1_copy_5 (fun H locs hw => ?_)
  obtain ⟨h5, hw, hf⟩ := sg_name hw hf
  refine lv_aload_n hx hb dX1_copy_8 rfl (lv_at hl 0 rfl) ?_
  refine lv_aload_n hx hb dX1_copy_9 rfl (lv_at hl 1 rfl) ?_
  refine sg_geti hc hw ha_q1 hT_q1 fi_1_1 k_41 dX1_copy_10 ?_
  refine sg_puti hc hw ha_a hT_a fp_1_1 rfl rfl k_41 dX1_copy_13 (fun H locs hw => ?_)
  obtain ⟨h13, hw, hf⟩ := sg_name hw hf
  refine lv_aload_n hx hb dX1_copy_16 rfl (lv_at hl 0 rfl) ?_
  refine lv_aload_n hx hb dX1_copy_17 rfl (lv_at hl 1 rfl) ?_
  refine sg_geti hc hw ha_q1 hT_q1 fi_1_2 k_46 dX1_copy_18 ?_
  refine sg_puti hc hw ha_a hT_a fp_1_2 rfl rfl k_46 dX1_copy_21 (fun H locs hw => ?_)
  obtain ⟨h21, hw, hf⟩ := sg_name hw hf
  refine lv_aload_n hx hb dX1_copy_24 rfl (lv_at hl 0 rfl) ?_
  refine lv_aload_n hx hb dX1_copy_25 rfl (lv_at hl 1 rfl) ?_
  refine sg_geti hc hw ha_q1 hT_q1 fi_1_3 k_51 dX1_copy_26 ?_
  refine sg_puti hc hw ha_a hT_a fp_1_3 rfl rfl k_51 dX1_copy_29 (fun H locs hw => ?_)
  obtain ⟨h29, hw, hf⟩ := sg_name hw hf
  refine lv_aload_n hx hb dX1_copy_32 rfl (lv_at hl 0 rfl) ?_
  refine lv_aload_n hx hb dX1_copy_33 rfl (lv_at hl 1 rfl) ?_
  refine sg_geti hc hw ha_q1 hT_q1 fi_1_4 k_53 dX1_copy_34 ?_
  refine sg_puti hc hw ha_a hT_a fp_1_4 rfl rfl k_53 dX1_copy_37 (fun H locs hw => ?_)
  obtain ⟨h37, hw, hf⟩ := sg_name hw hf
  refine lv_aload_n hx hb dX1_copy_40 rfl (lv_at hl 1 rfl) ?_
  obtain ⟨hF41, hT41, ha41, hN41⟩ := ft_1_5 hn ha_q1 hT_q1
  refine sg_getf (q := (q1 + 1)) hc hw ha_q1 hT_q1 fr_1_5 (by decide) k_57 dX1_copy_41 hF41 ?_
  refine lv_iconst (v := 0) hx hb dX1_copy_44 (by decide) ?_
  refine lv_aload_n hx hb dX1_copy_45 rfl (lv_at hl 0 rfl) ?_
  obtain ⟨hF46, hT46, ha46, hN46⟩ := ft_1_5 hn ha_a hT_a
  refine sg_getf (q := (a + 1)) hc hw ha_a hT_a fr_1_5 (by decide) k_57 dX1_copy_46 hF46 ?_
  refine lv_iconst (v := 0) hx hb dX1_copy_49 (by decide) ?_
  refine lv_bipush (v := 6) hx hb dX1_copy_50 (by decide) ?_
  refine sg_copy hc hw hml hl k_440 k_442 k_441 k_15 ha41 hT41 hN41 ha46 hT46 hN46 (by decide) (by decide) (by decide) (by decide) (by decide) (Nat.le_trans (by decide) hRf) (Nat.le_trans (by decide) hRl) dX1_copy_52 (fun H locs hw => ?_)
  obtain ⟨h52, hw, hf⟩ := sg_name hw hf
  refine lv_aload_n hx hb dX1_copy_55 rfl (lv_at hl 1 rfl) ?_
  obtain ⟨hF56, hT56, ha56, hN56⟩ := ft_1_6 hn ha_q1 hT_q1
  refine sg_getf (q := (q1 + 2)) hc hw ha_q1 hT_q1 fr_1_6 (by decide) k_59 dX1_copy_56 hF56 ?_
  refine lv_iconst (v := 0) hx hb dX1_copy_59 (by decide) ?_
  refine lv_aload_n hx hb dX1_copy_60 rfl (lv_at hl 0 rfl) ?_
  obtain ⟨hF61, hT61, ha61, hN61⟩ := ft_1_6 hn ha_a hT_a
  refine sg_getf (q := (a + 2)) hc hw ha_a hT_a fr_1_6 (by decide) k_59 dX1_copy_61 hF61 ?_
  refine lv_iconst (v := 0) hx hb dX1_copy_64 (by decide) ?_
  refine lv_bipush (v := 6) hx hb dX1_copy_65 (by decide) ?_
  refine sg_copy hc hw hml hl k_440 k_442 k_441 k_15 ha56 hT56 hN56 ha61 hT61 hN61 (by decide) (by decide) (by decide) (by decide) (by decide) (Nat.le_trans (by decide) hRf) (Nat.le_trans (by decide) hRl) dX1_copy_67 (fun H locs hw => ?_)
  obtain ⟨h67, hw, hf⟩ := sg_name hw hf
  refine lv_aload_n hx hb dX1_copy_70 rfl (lv_at hl 1 rfl) ?_
  obtain ⟨hF71, hT71, ha71, hN71⟩ := ft_1_7 hn ha_q1 hT_q1
  refine sg_getf (q := (q1 + 3)) hc hw ha_q1 hT_q1 fr_1_7 (by decide) k_60 dX1_copy_71 hF71 ?_
  refine lv_iconst (v := 0) hx hb dX1_copy_74 (by decide) ?_
  refine lv_aload_n hx hb dX1_copy_75 rfl (lv_at hl 0 rfl) ?_
  obtain ⟨hF76, hT76, ha76, hN76⟩ := ft_1_7 hn ha_a hT_a
  refine sg_getf (q := (a + 3)) hc hw ha_a hT_a fr_1_7 (by decide) k_60 dX1_copy_76 hF76 ?_
  refine lv_iconst (v := 0) hx hb dX1_copy_79 (by decide) ?_
  refine lv_bipush (v := 6) hx hb dX1_copy_80 (by decide) ?_
  refine sg_copy hc hw hml hl k_440 k_442 k_441 k_15 ha71 hT71 hN71 ha76 hT76 hN76 (by decide) (by decide) (by decide) (by decide) (by decide) (Nat.le_trans (by decide) hRf) (Nat.le_trans (by decide) hRl) dX1_copy_82 (fun H locs hw => ?_)
  obtain ⟨h82, hw, hf⟩ := sg_name hw hf
  refine lv_aload_n hx hb dX1_copy_85 rfl (lv_at hl 1 rfl) ?_
  obtain ⟨hF86, hT86, ha86, hN86⟩ := ft_1_8 hn ha_q1 hT_q1
  refine sg_getf (q := (q1 + 4)) hc hw ha_q1 hT_q1 fr_1_8 (by decide) k_61 dX1_copy_86 hF86 ?_
  refine lv_iconst (v := 0) hx hb dX1_copy_89 (by decide) ?_
  refine lv_aload_n hx hb dX1_copy_90 rfl (lv_at hl 0 rfl) ?_
  obtain ⟨hF91, hT91, ha91, hN91⟩ := ft_1_8 hn ha_a hT_a
  refine sg_getf (q := (a + 4)) hc hw ha_a hT_a fr_1_8 (by decide) k_61 dX1_copy_91 hF91 ?_
  refine lv_iconst (v := 0) hx hb dX1_copy_94 (by decide) ?_
  refine lv_bipush (v := 6) hx hb dX1_copy_95 (by decide) ?_
  refine sg_copy hc hw hml hl k_440 k_442 k_441 k_15 ha86 hT86 hN86 ha91 hT91 hN91 (by decide) (by decide) (by decide) (by decide) (by decide) (Nat.le_trans (by decide) hRf) (Nat.le_trans (by decide) hRl) dX1_copy_97 (fun H locs hw => ?_)
  obtain ⟨h97, hw, hf⟩ := sg_name hw hf
  refine lv_aload_n hx hb dX1_copy_100 rfl (lv_at hl 1 rfl) ?_
  obtain ⟨hF101, hT101, ha101, hN101⟩ := ft_1_9 hn ha_q1 hT_q1
  refine sg_getf (q := (q1 + 5)) hc hw ha_q1 hT_q1 fr_1_9 (by decide) k_65 dX1_copy_101 hF101 ?_
  refine lv_iconst (v := 0) hx hb dX1_copy_104 (by decide) ?_
  refine lv_aload_n hx hb dX1_copy_105 rfl (lv_at hl 0 rfl) ?_
  obtain ⟨hF106, hT106, ha106, hN106⟩ := ft_1_9 hn ha_a hT_a
  refine sg_getf (q := (a + 5)) hc hw ha_a hT_a fr_1_9 (by decide) k_65 dX1_copy_106 hF106 ?_
  refine lv_iconst (v := 0) hx hb dX1_copy_109 (by decide) ?_
  refine lv_bipush (v := 6) hx hb dX1_copy_110 (by decide) ?_
  refine sg_copy hc hw hml hl k_440 k_442 k_441 k_15 ha101 hT101 hN101 ha106 hT106 hN106 (by decide) (by decide) (by decide) (by decide) (by decide) (Nat.le_trans (by decide) hRf) (Nat.le_trans (by decide) hRl) dX1_copy_112 (fun H locs hw => ?_)
  obtain ⟨h112, hw, hf⟩ := sg_name hw hf
  refine lv_aload_n hx hb dX1_copy_115 rfl (lv_at hl 0 rfl) ?_
  obtain ⟨p116, hp116, hf⟩ := cl_of hf
  refine sg_vv (rest := []) (c_X1_markYards hn ha_a hT_a hp116) hc hw hz hml hl ha_a hT_a (by decide) rfl cv_X1_60 ⟨⟨rfl, rfl⟩, Nat.le_trans (Nat.le_of_ble_eq_true rfl) hRf, Nat.le_trans (Nat.le_of_ble_eq_true rfl) hRl⟩ ⟨Nat.zero_le _, Nat.zero_le _⟩ rfl rfl (Nat.le_of_ble_eq_true rfl) dX1_copy_116 (fun h1 H locs hp hw => ?_)
  subst h1
  cases hf
  exact sg_vret hc hw hz hn0 hr hlocks rfl dX1_copy_119
theorem c_X1_copy {l : Launch} {D : va_G} {cA : Nat → ClassId} {b n : Nat} (hn : sg_okN n) {a : Nat} {q1 : Nat} (ha_a : a < n) (hT_a : sg_T a = 1) (ha_q1 : q1 < n) (hT_q1 : sg_T q1 = 1) {h : HP} {Rz : HP} (hf : F_X1_copy a q1 h = some Rz) : Met l yX1_copy (Cond.code yX1_copy cX1_copy 2 none :: sg_tbl) ({ frames := 1, cells := 0, slots := 0, locals := 100 } : Room) (va_Pc [.ref (b + a), .ref (b + q1)] (sg_Wd D b cA n h)) (va_Qv (fun u => u = Rz) (sg_Wd D b cA n) (sg_A b)) 0 0 (sg_A b) := by
  refine Met.ofW (cc := cX1_copy) (maxL := 2) (ret := none) (by decide) rfl ?_
  intro p e s m args below meth c s₁ B hml hv
  obtain ⟨rfl, hP, hK, hz, hY, hN⟩ := hv
  have hl := lv_entry [.ref (b + a), .ref (b + q1)] (n := 2) (Nat.le_of_ble_eq_true rfl)
  rw [lg_entry_eq]
  exact w_X1_copy hn ⟨B.exec, B.bytes, findClass_of_methodNamed B.named, fun w h => atoms_spec (ws := Cond.code yX1_copy cX1_copy 2 none :: sg_tbl) B.pre w (List.mem_cons_of_mem _ h), hK, hN⟩ hz B.returns B.notSynchronized hml (Nat.le_refl _) (Nat.le_refl _) ha_a hT_a ha_q1 hT_q1 hf _ _ _ ⟨hP, hY, va_S.rf⟩ hl
set_option maxHeartbeats 4000000 in
set_option maxRecDepth 100000 in
theorem w_X1_moveBorder {p : Program} {l : Launch} {e : Env} {R : Room} {s : State} {m : MethodId} {args : Array Value} {below : List Frame} {meth : Method} {c : Code} {D : va_G} {cA : Nat → ClassId} {b n : Nat} (hn : sg_okN n) {a : Nat} {x1 : Int32} {x2 : Int32} {h : HP} {Rz : Int32 × HP} (hc : sg_Cx p s m args c cX1_moveBorder RX1 D cA) (hz : s.heap.size = b + n) (hr : meth.sig.returnType = some .boolean) (hlocks : meth.locks = false) (hml : c.maxLocals = 3) (hRf : 1 ≤ R.frames) (hRl : 23 ≤ R.locals) (ha_a : a < n) (hT_a : sg_T a = 1) (hf : F_X1_moveBorder a x1 x2 h = some Rz) (H : Heap) (locs : List Loc) (ls : Array Slot) (hw : sg_Wo D b cA n s.heap h H locs) (hl : lv_has ls 3 [(0, .ref (b + a)), (1, .int x1), (2, .int x2)]) : W p l e R s m args below meth c H locs 0 0 (sg_Qi below args s D b cA n (fun r u => (r = Rz.1 ∧ u = Rz.2) ∧ narrow .boolean (.int r) = .int r)) (F0 m 0 ls []) := by
  have hx := hc.1
  have hb := hc.2.1
  have hn0 : 0 < n := sg_pos hn
  unfold F_X1_moveBorder at hf
  refine lv_iload_n hx hb dX1_moveBorder_0 rfl (lv_at hl 1 rfl) ?_
  refine lv_if_lt (tgt := 40) hx hb dX1_moveBorder_1 (by decide) (fun c1 => ?_) (fun c1 => ?_)
  · have hf := if_of c1 hf
    refine lv_iconst (v := 0) hx hb dX1_moveBorder_40 (by decide) ?_
    cases hf
    exact sg_zret hc hw hz hn0 hr hlocks rfl ⟨⟨rfl, rfl⟩, rfl⟩ dX1_moveBorder_41
  · have hf := if_no c1 hf
    refine lv_iload_n hx hb dX1_moveBorder_4 rfl (lv_at hl 1 rfl) ?_
    refine lv_iconst (v := 1) hx hb dX1_moveBorder_5 (by decide) ?_
    refine lv_iadd hx hb dX1_moveBorder_6 ?_
    refine lv_aload_n hx hb dX1_moveBorder_7 rfl (lv_at hl 0 rfl) ?_
    refine sg_geti hc hw ha_a hT_a fi_1_0 k_38 dX1_moveBorder_8 ?_
    refine lv_icmp_ge (tgt := 40) hx hb dX1_moveBorder_11 (by decide) (fun c11 => ?_) (fun c11 => ?_)
    · have hf := if_of c11 hf
      refine lv_iconst (v := 0) hx hb dX1_moveBorder_40 (by decide) ?_
      cases hf
      exact sg_zret hc hw hz hn0 hr hlocks rfl ⟨⟨rfl, rfl⟩, rfl⟩ dX1_moveBorder_41
    · have hf := if_no c11 hf
      refine lv_aload_n hx hb dX1_moveBorder_14 rfl (lv_at hl 0 rfl) ?_
      obtain ⟨hF15, hT15, ha15, hN15⟩ := ft_1_5 hn ha_a hT_a
      refine sg_getf (q := (a + 1)) hc hw ha_a hT_a fr_1_5 (by decide) k_57 dX1_moveBorder_15 hF15 ?_
      refine lv_iload_n hx hb dX1_moveBorder_18 rfl (lv_at hl 1 rfl) ?_
      obtain ⟨hg19, hf⟩ := gd_of hf
      refine sg_ild hc hw ha15 hT15 hN15 hg19 dX1_moveBorder_19 ?_
      refine lv_iload_n hx hb dX1_moveBorder_20 rfl (lv_at hl 2 rfl) ?_
      refine lv_iadd hx hb dX1_moveBorder_21 ?_
      refine lv_iconst (v := 1) hx hb dX1_moveBorder_22 (by decide) ?_
      refine lv_icmp_lt (tgt := 40) hx hb dX1_moveBorder_23 (by decide) (fun c23 => ?_) (fun c23 => ?_)
      · have hf := if_of c23 hf
        refine lv_iconst (v := 0) hx hb dX1_moveBorder_40 (by decide) ?_
        cases hf
        exact sg_zret hc hw hz hn0 hr hlocks rfl ⟨⟨rfl, rfl⟩, rfl⟩ dX1_moveBorder_41
      · have hf := if_no c23 hf
        refine lv_aload_n hx hb dX1_moveBorder_26 rfl (lv_at hl 0 rfl) ?_
        refine sg_getf (q := (a + 1)) hc hw ha_a hT_a fr_1_5 (by decide) k_57 dX1_moveBorder_27 (ft_1_5 hn ha_a hT_a).1 ?_
        refine lv_iload_n hx hb dX1_moveBorder_30 rfl (lv_at hl 1 rfl) ?_
        refine lv_iconst (v := 1) hx hb dX1_moveBorder_31 (by decide) ?_
        refine lv_iadd hx hb dX1_moveBorder_32 ?_
        obtain ⟨hg33, hf⟩ := gd_of hf
        refine sg_ild hc hw ha15 hT15 hN15 hg33 dX1_moveBorder_33 ?_
        refine lv_iload_n hx hb dX1_moveBorder_34 rfl (lv_at hl 2 rfl) ?_
        refine lv_isub hx hb dX1_moveBorder_35 ?_
        refine lv_iconst (v := 1) hx hb dX1_moveBorder_36 (by decide) ?_
        refine lv_icmp_ge (tgt := 42) hx hb dX1_moveBorder_37 (by decide) (fun c37 => ?_) (fun c37 => ?_)
        · have hf := if_of c37 hf
          refine lv_aload_n hx hb dX1_moveBorder_42 rfl (lv_at hl 0 rfl) ?_
          refine sg_getf (q := (a + 1)) hc hw ha_a hT_a fr_1_5 (by decide) k_57 dX1_moveBorder_43 (ft_1_5 hn ha_a hT_a).1 ?_
          refine lv_iload_n hx hb dX1_moveBorder_46 rfl (lv_at hl 1 rfl) ?_
          refine lv_dup2_11 hx hb dX1_moveBorder_47 rfl rfl ?_
          obtain ⟨hg48, hf⟩ := gd_of hf
          refine sg_ild hc hw ha15 hT15 hN15 hg48 dX1_moveBorder_48 ?_
          refine lv_iload_n hx hb dX1_moveBorder_49 rfl (lv_at hl 2 rfl) ?_
          refine lv_iadd hx hb dX1_moveBorder_50 ?_
          obtain ⟨hg51, hf⟩ := gd_of hf
          refine sg_ist hc hw ha15 hT15 hN15 hg51 dX1_moveBorder_51 (fun H locs hw => ?_)
          obtain ⟨h51, hw, hf⟩ := sg_name hw hf
          refine lv_aload_n hx hb dX1_moveBorder_52 rfl (lv_at hl 0 rfl) ?_
          refine sg_getf (q := (a + 1)) hc hw ha_a hT_a fr_1_5 (by decide) k_57 dX1_moveBorder_53 (ft_1_5 hn ha_a hT_a).1 ?_
          refine lv_iload_n hx hb dX1_moveBorder_56 rfl (lv_at hl 1 rfl) ?_
          refine lv_iconst (v := 1) hx hb dX1_moveBorder_57 (by decide) ?_
          refine lv_iadd hx hb dX1_moveBorder_58 ?_
          refine lv_dup2_11 hx hb dX1_moveBorder_59 rfl rfl ?_
          obtain ⟨hg60, hf⟩ := gd_of hf
          refine sg_ild hc hw ha15 hT15 hN15 hg60 dX1_moveBorder_60 ?_
          refine lv_iload_n hx hb dX1_moveBorder_61 rfl (lv_at hl 2 rfl) ?_
          refine lv_isub hx hb dX1_moveBorder_62 ?_
          obtain ⟨hg63, hf⟩ := gd_of hf
          refine sg_ist hc hw ha15 hT15 hN15 hg63 dX1_moveBorder_63 (fun H locs hw => ?_)
          obtain ⟨h63, hw, hf⟩ := sg_name hw hf
          refine lv_aload_n hx hb dX1_moveBorder_64 rfl (lv_at hl 0 rfl) ?_
          obtain ⟨p65, hp65, hf⟩ := cl_of hf
          refine sg_vv (rest := []) (c_X1_markYards hn ha_a hT_a hp65) hc hw hz hml hl ha_a hT_a (by decide) rfl cv_X1_60 ⟨⟨rfl, rfl⟩, Nat.le_trans (Nat.le_of_ble_eq_true rfl) hRf, Nat.le_trans (Nat.le_of_ble_eq_true rfl) hRl⟩ ⟨Nat.zero_le _, Nat.zero_le _⟩ rfl rfl (Nat.le_of_ble_eq_true rfl) dX1_moveBorder_65 (fun h1 H locs hp hw => ?_)
          subst h1
          refine lv_iconst (v := 1) hx hb dX1_moveBorder_68 (by decide) ?_
          cases hf
          exact sg_zret hc hw hz hn0 hr hlocks rfl ⟨⟨rfl, rfl⟩, rfl⟩ dX1_moveBorder_69
        · have hf := if_no c37 hf
          refine lv_iconst (v := 0) hx hb dX1_moveBorder_40 (by decide) ?_
          cases hf
          exact sg_zret hc hw hz hn0 hr hlocks rfl ⟨⟨rfl, rfl⟩, rfl⟩ dX1_moveBorder_41
theorem c_X1_moveBorder {l : Launch} {D : va_G} {cA : Nat → ClassId} {b n : Nat} (hn : sg_okN n) {a : Nat} {x1 : Int32} {x2 : Int32} (ha_a : a < n) (hT_a : sg_T a = 1) {h : HP} {Rz : Int32 × HP} (hf : F_X1_moveBorder a x1 x2 h = some Rz) : Met l yX1_moveBorder (Cond.code yX1_moveBorder cX1_moveBorder 3 (some .boolean) :: sg_tbl) ({ frames := 1, cells := 0, slots := 0, locals := 23 } : Room) (va_Pc [.ref (b + a), .int x1, .int x2] (sg_Wd D b cA n h)) (va_Qi (fun r u => (r = Rz.1 ∧ u = Rz.2) ∧ narrow .boolean (.int r) = .int r) (sg_Wd D b cA n) (sg_A b)) 0 0 (sg_A b) := by
  refine Met.ofW (cc := cX1_moveBorder) (maxL := 3) (ret := (some .boolean)) (by decide) rfl ?_
  intro p e s m args below meth c s₁ B hml hv
  obtain ⟨rfl, hP, hK, hz, hY, hN⟩ := hv
  have hl := lv_entry [.ref (b + a), .int x1, .int x2] (n := 3) (Nat.le_of_ble_eq_true rfl)
  rw [lg_entry_eq]
  exact w_X1_moveBorder hn ⟨B.exec, B.bytes, findClass_of_methodNamed B.named, fun w h => atoms_spec (ws := Cond.code yX1_moveBorder cX1_moveBorder 3 (some .boolean) :: sg_tbl) B.pre w (List.mem_cons_of_mem _ h), hK, hN⟩ hz B.returns B.notSynchronized hml (Nat.le_refl _) (Nat.le_refl _) ha_a hT_a hf _ _ _ ⟨hP, hY, va_S.rf⟩ hl
