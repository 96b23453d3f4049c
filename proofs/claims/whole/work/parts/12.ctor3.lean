def I_4 (a : Nat) (h : HP) : HP := (ur (ur (I_6 (a + 8) (ur (I_1 (a + 1) h) a 0 ((a + 1) + 1))) a 1 ((a + 8) + 1)) a 2 ((a + 12) + 1))
set_option maxHeartbeats 4000000 in
set_option maxRecDepth 100000 in
theorem i_4 {l : Launch} {D : va_G} {cA : Nat → ClassId} {b : Nat} {a : Nat} {h : HP} (ha : a < 154) (hT : sg_T a = 4) : Met l yX4_init (Cond.code yX4_init cX4_init 1 none :: sg_tbl) ({ frames := 2, cells := 12, slots := 195, locals := 40 } : Room) (va_Pc [.ref (b + a)] (sg_Wk D b cA (a + 1) h)) (va_Qv (fun u => u = I_4 a h) (sg_Wk D b cA (a + 13)) (sg_A b)) 12 195 (sg_A b) := by
  refine Met.ofW (cc := cX4_init) (maxL := 1) (ret := none) (by decide) rfl ?_
  intro p e s m args below meth c s₁ B hml hv
  obtain ⟨rfl, hP, hK, hz, hZ, hN, hov⟩ := hv
  have hl := lv_entry [.ref (b + a)] (n := 1) (Nat.le_of_ble_eq_true rfl)
  rw [lg_entry_eq]
  have hin : meth.name = "<init>" := (name_of_methodNamed B.named B.method).1
  have hc : sg_Cx p s m _ c cX4_init RX4 D cA := ⟨B.exec, B.bytes, findClass_of_methodNamed B.named, fun w h => atoms_spec (ws := Cond.code yX4_init cX4_init 1 none :: sg_tbl) B.pre w (List.mem_cons_of_mem _ h), hK, hN⟩
  have hx := hc.1
  have hb := hc.2.1
  have hw : sg_Wc D b cA (a + 1) s.heap h s.heap [] := ⟨hP, va_S.rf, hZ⟩
  generalize (lg_sl ([.ref (b + a)]) ++ List.replicate (1 - (lg_sl ([.ref (b + a)])).length) Slot.unset).toArray = ls at hl ⊢
  have hl : lv_has ls 1 [(0, .ref (b + a))] := hl
  have hRf : 2 ≤ (headSpec (Cond.code yX4_init cX4_init 1 none :: sg_tbl) ({ frames := 2, cells := 12, slots := 195, locals := 40 } : Room)).room.frames := Nat.le_refl _
  have hRl : 40 ≤ (headSpec (Cond.code yX4_init cX4_init 1 none :: sg_tbl) ({ frames := 2, cells := 12, slots := 195, locals := 40 } : Room)).room.locals := Nat.le_refl _
  have hRc : 12 ≤ (headSpec (Cond.code yX4_init cX4_init 1 none :: sg_tbl) ({ frames := 2, cells := 12, slots := 195, locals := 40 } : Room)).room.cells := Nat.le_refl _
  have hRs : 195 ≤ (headSpec (Cond.code yX4_init cX4_init 1 none :: sg_tbl) ({ frames := 2, cells := 12, slots := 195, locals := 40 } : Room)).room.slots := Nat.le_refl _
  generalize (headSpec (Cond.code yX4_init cX4_init 1 none :: sg_tbl) ({ frames := 2, cells := 12, slots := 195, locals := 40 } : Room)).room = R at hRf hRl hRc hRs ⊢
  refine lv_aload_n hx hb dX4_init_0 rfl (lv_at hl 0 rfl) ?_
  refine sg_cobj hc hml hl k_31 k_24 k_25 (Nat.le_trans (by decide) hRf) (Nat.le_trans (by decide) hRl) dX4_init_1 ?_
  refine lv_aload_n hx hb dX4_init_4 rfl (lv_at hl 0 rfl) ?_
  refine sg_cnew (n := (a + 1)) hc hw (by omega) (fun h9 => by omega) (ft_4_0_a _ ha hT).2.1 fn_1 k_32 k_33 k_3 (Nat.le_trans (Nat.le_of_ble_eq_true rfl) hRc) (Nat.le_trans (Nat.le_of_ble_eq_true rfl) hRs) dX4_init_5 (fun H hw => ?_)
  have hw : sg_Wc D b cA (a + 2) s.heap h H _ := hw
  refine lv_dup hx hb dX4_init_8 rfl ?_
  refine sg_cinitN (k := 0) (rest := [.ref (b + (a + 1)), .ref (b + a)]) (i_1 (a := (a + 1)) (by have := (ft_4_0_a _ ha hT).2.2.1; omega) (ft_4_0_a _ ha hT).2.1) hc hov hw (by omega) (by omega) hml hl kn_34 k_35 k_3 k_36 rfl ⟨by decide, by decide, by decide +kernel⟩ ⟨⟨rfl, rfl⟩, Nat.le_trans (Nat.le_of_ble_eq_true rfl) hRf, Nat.le_trans (Nat.le_of_ble_eq_true rfl) hRl⟩ ⟨Nat.le_trans (Nat.le_of_ble_eq_true rfl) hRc, Nat.le_trans (Nat.le_of_ble_eq_true rfl) hRs⟩ rfl rfl (Nat.le_of_ble_eq_true rfl) dX4_init_9 (fun H locs hw => ?_)
  have hw : sg_Wc D b cA (a + 8) s.heap (I_1 (a + 1) h) H _ := hw
  refine sg_cputF (q := (a + 1)) (ty := (.object "ShoulderHeirs$Funeral")) hc hw (by omega) hT fr_4_0 tyX4_ok nmX4 rfl hin rfl (by decide +kernel) rfl rfl k_121 dX4_init_12 (fun H locs hw => ?_)
  refine lv_aload_n hx hb dX4_init_15 rfl (lv_at hl 0 rfl) ?_
  refine sg_cnew (n := (a + 8)) hc hw (by omega) (fun h9 => by omega) (ft_4_1_a _ ha hT).2.1 fn_6 k_97 k_98 k_4 (Nat.le_trans (Nat.le_of_ble_eq_true rfl) hRc) (Nat.le_trans (Nat.le_of_ble_eq_true rfl) hRs) dX4_init_16 (fun H hw => ?_)
  have hw : sg_Wc D b cA (a + 9) s.heap (ur (I_1 (a + 1) h) a 0 ((a + 1) + 1)) H _ := hw
  refine lv_dup hx hb dX4_init_19 rfl ?_
  refine sg_cinitN (k := 0) (rest := [.ref (b + (a + 8)), .ref (b + a)]) (i_6 (a := (a + 8)) (by have := (ft_4_1_a _ ha hT).2.2.1; omega) (ft_4_1_a _ ha hT).2.1) hc hov hw (by omega) (by omega) hml hl kn_99 k_100 k_4 k_101 rfl ⟨by decide, by decide, by decide +kernel⟩ ⟨⟨rfl, rfl⟩, Nat.le_trans (Nat.le_of_ble_eq_true rfl) hRf, Nat.le_trans (Nat.le_of_ble_eq_true rfl) hRl⟩ ⟨Nat.le_trans (Nat.le_of_ble_eq_true rfl) hRc, Nat.le_trans (Nat.le_of_ble_eq_true rfl) hRs⟩ rfl rfl (Nat.le_of_ble_eq_true rfl) dX4_init_20 (fun H locs hw => ?_)
  have hw : sg_Wc D b cA (a + 12) s.heap (I_6 (a + 8) (ur (I_1 (a + 1) h) a 0 ((a + 1) + 1))) H _ := hw
  refine sg_cputF (q := (a + 8)) (ty := (.object "ShoulderHeirs$Turns")) hc hw (by omega) hT fr_4_1 tyX4_ok nmX4 rfl hin rfl (by decide +kernel) rfl rfl k_123 dX4_init_23 (fun H locs hw => ?_)
  refine lv_aload_n hx hb dX4_init_26 rfl (lv_at hl 0 rfl) ?_
  refine lv_iconst (v := 3) hx hb dX4_init_27 (by decide) ?_
  refine sg_cnewi (n := (a + 12)) hc hw (by omega) (by omega) k_96 (ft_4_2_a _ ha hT).2.1 (ft_4_2_a _ ha hT).2.2.2 (by decide) (by decide) (by decide) (Nat.le_trans (Nat.le_of_ble_eq_true rfl) hRc) (Nat.le_trans (Nat.le_of_ble_eq_true rfl) hRs) dX4_init_28 (fun H hw => ?_)
  have hw : sg_Wc D b cA (a + 13) s.heap (ur (I_6 (a + 8) (ur (I_1 (a + 1) h) a 0 ((a + 1) + 1))) a 1 ((a + 8) + 1)) H _ := hw
  refine sg_cputF (q := (a + 12)) (ty := (.array .int)) hc hw (by omega) hT fr_4_2 tyX4_ok nmX4 rfl hin rfl (by decide +kernel) rfl rfl k_125 dX4_init_30 (fun H locs hw => ?_)
  exact sg_cvret (n0 := 0) hc hov hw (by omega) (by omega) B.returns B.notSynchronized rfl dX4_init_33
def I_5 (a q1 q2 : Nat) (h : HP) : HP := (ur (I_7 (a + 16) q1 (ur (I_7 (a + 9) q1 (ur (I_7 (a + 2) q1 (ur (ur (ur h a 11 ((a + 1) + 1)) a 6 (q1 + 1)) a 7 (q2 + 1))) a 8 ((a + 2) + 1))) a 9 ((a + 9) + 1))) a 10 ((a + 16) + 1))
set_option maxHeartbeats 4000000 in
set_option maxRecDepth 100000 in
theorem i_5 {l : Launch} {D : va_G} {cA : Nat → ClassId} {b : Nat} {a q1 q2 : Nat} {h : HP} (ha : a < 154) (hT : sg_T a = 5) : Met l yX5_init (Cond.code yX5_init cX5_init 3 none :: sg_tbl) ({ frames := 2, cells := 22, slots := 607, locals := 41 } : Room) (va_Pc [.ref (b + a), .ref (b + q1), .ref (b + q2)] (sg_Wk D b cA (a + 1) h)) (va_Qv (fun u => u = I_5 a q1 q2 h) (sg_Wk D b cA (a + 23)) (sg_A b)) 22 607 (sg_A b) := by
  refine Met.ofW (cc := cX5_init) (maxL := 3) (ret := none) (by decide) rfl ?_
  intro p e s m args below meth c s₁ B hml hv
  obtain ⟨rfl, hP, hK, hz, hZ, hN, hov⟩ := hv
  have hl := lv_entry [.ref (b + a), .ref (b + q1), .ref (b + q2)] (n := 3) (Nat.le_of_ble_eq_true rfl)
  rw [lg_entry_eq]
  have hin : meth.name = "<init>" := (name_of_methodNamed B.named B.method).1
  have hc : sg_Cx p s m _ c cX5_init RX5 D cA := ⟨B.exec, B.bytes, findClass_of_methodNamed B.named, fun w h => atoms_spec (ws := Cond.code yX5_init cX5_init 3 none :: sg_tbl) B.pre w (List.mem_cons_of_mem _ h), hK, hN⟩
  have hx := hc.1
  have hb := hc.2.1
  have hw : sg_Wc D b cA (a + 1) s.heap h s.heap [] := ⟨hP, va_S.rf, hZ⟩
  generalize (lg_sl ([.ref (b + a), .ref (b + q1), .ref (b + q2)]) ++ List.replicate (3 - (lg_sl ([.ref (b + a), .ref (b + q1), .ref (b + q2)])).length) Slot.unset).toArray = ls at hl ⊢
  have hl : lv_has ls 3 [(0, .ref (b + a)), (1, .ref (b + q1)), (2, .ref (b + q2))] := hl
  have hRf : 2 ≤ (headSpec (Cond.code yX5_init cX5_init 3 none :: sg_tbl) ({ frames := 2, cells := 22, slots := 607, locals := 41 } : Room)).room.frames := Nat.le_refl _
  have hRl : 41 ≤ (headSpec (Cond.code yX5_init cX5_init 3 none :: sg_tbl) ({ frames := 2, cells := 22, slots := 607, locals := 41 } : Room)).room.locals := Nat.le_refl _
  have hRc : 22 ≤ (headSpec (Cond.code yX5_init cX5_init 3 none :: sg_tbl) ({ frames := 2, cells := 22, slots := 607, locals := 41 } : Room)).room.cells := Nat.le_refl _
  have hRs : 607 ≤ (headSpec (Cond.code yX5_init cX5_init 3 none :: sg_tbl) ({ frames := 2, cells := 22, slots := 607, locals := 41 } : Room)).room.slots := Nat.le_refl _
  generalize (headSpec (Cond.code yX5_init cX5_init 3 none :: sg_tbl) ({ frames := 2, cells := 22, slots := 607, locals := 41 } : Room)).room = R at hRf hRl hRc hRs ⊢
  refine lv_aload_n hx hb dX5_init_0 rfl (lv_at hl 0 rfl) ?_
  refine sg_cobj hc hml hl k_210 k_24 k_25 (Nat.le_trans (by decide) hRf) (Nat.le_trans (by decide) hRl) dX5_init_1 ?_
  refine lv_aload_n hx hb dX5_init_4 rfl (lv_at hl 0 rfl) ?_
  refine lv_bipush (v := 121) hx hb dX5_init_5 (by decide) ?_
  refine sg_cnewi (n := (a + 1)) hc hw (by omega) (by omega) k_96 (ft_5_11_a _ ha hT).2.1 (ft_5_11_a _ ha hT).2.2.2 (by decide) (by decide) (by decide) (Nat.le_trans (Nat.le_of_ble_eq_true rfl) hRc) (Nat.le_trans (Nat.le_of_ble_eq_true rfl) hRs) dX5_init_7 (fun H hw => ?_)
  have hw : sg_Wc D b cA (a + 2) s.heap h H _ := hw
  refine sg_cputF (q := (a + 1)) (ty := (.array .int)) hc hw (by omega) hT fr_5_11 tyX5_ok nmX5 rfl hin rfl (by decide +kernel) rfl rfl k_227 dX5_init_9 (fun H locs hw => ?_)
  refine lv_aload_n hx hb dX5_init_12 rfl (lv_at hl 0 rfl) ?_
  refine lv_aload_n hx hb dX5_init_13 rfl (lv_at hl 1 rfl) ?_
  refine sg_cputF (q := q1) (ty := (.object "ShoulderHeirs$Funeral")) hc hw (by omega) hT fr_5_6 tyX5_ok nmX5 rfl hin rfl (by decide +kernel) rfl rfl k_222 dX5_init_14 (fun H locs hw => ?_)
  refine lv_aload_n hx hb dX5_init_17 rfl (lv_at hl 0 rfl) ?_
  refine lv_aload_n hx hb dX5_init_18 rfl (lv_at hl 2 rfl) ?_
  refine sg_cputF (q := q2) (ty := (.array .int)) hc hw (by omega) hT fr_5_7 tyX5_ok nmX5 rfl hin rfl (by decide +kernel) rfl rfl k_223 dX5_init_19 (fun H locs hw => ?_)
  refine lv_aload_n hx hb dX5_init_22 rfl (lv_at hl 0 rfl) ?_
  refine sg_cnew (n := (a + 2)) hc hw (by omega) (fun h9 => by omega) (ft_5_8_a _ ha hT).2.1 fn_7 k_211 k_155 k_6 (Nat.le_trans (Nat.le_of_ble_eq_true rfl) hRc) (Nat.le_trans (Nat.le_of_ble_eq_true rfl) hRs) dX5_init_23 (fun H hw => ?_)
  have hw : sg_Wc D b cA (a + 3) s.heap (ur (ur (ur h a 11 ((a + 1) + 1)) a 6 (q1 + 1)) a 7 (q2 + 1)) H _ := hw
  refine lv_dup hx hb dX5_init_26 rfl ?_
  refine lv_aload_n hx hb dX5_init_27 rfl (lv_at hl 1 rfl) ?_
  refine sg_cinit (k := 1) (rest := [.ref (b + (a + 2)), .ref (b + a)]) (i_7 (a := (a + 2)) (q1 := q1) (by have := (ft_5_8_a _ ha hT).2.2.1; omega) (ft_5_8_a _ ha hT).2.1) hc hov hw (by omega) (by omega) hml hl k_212 k_157 k_6 k_158 rfl ⟨by decide, by decide, by decide +kernel⟩ ⟨⟨rfl, rfl⟩, Nat.le_trans (Nat.le_of_ble_eq_true rfl) hRf, Nat.le_trans (Nat.le_of_ble_eq_true rfl) hRl⟩ ⟨Nat.le_trans (Nat.le_of_ble_eq_true rfl) hRc, Nat.le_trans (Nat.le_of_ble_eq_true rfl) hRs⟩ rfl rfl (Nat.le_of_ble_eq_true rfl) dX5_init_28 (fun H locs hw => ?_)
  have hw : sg_Wc D b cA (a + 9) s.heap (I_7 (a + 2) q1 (ur (ur (ur h a 11 ((a + 1) + 1)) a 6 (q1 + 1)) a 7 (q2 + 1))) H _ := hw
  refine sg_cputF (q := (a + 2)) (ty := (.object "ShoulderHeirs$Walk")) hc hw (by omega) hT fr_5_8 tyX5_ok nmX5 rfl hin rfl (by decide +kernel) rfl rfl k_224 dX5_init_31 (fun H locs hw => ?_)
  refine lv_aload_n hx hb dX5_init_34 rfl (lv_at hl 0 rfl) ?_
  refine sg_cnew (n := (a + 9)) hc hw (by omega) (fun h9 => by omega) (ft_5_9_a _ ha hT).2.1 fn_7 k_211 k_155 k_6 (Nat.le_trans (Nat.le_of_ble_eq_true rfl) hRc) (Nat.le_trans (Nat.le_of_ble_eq_true rfl) hRs) dX5_init_35 (fun H hw => ?_)
  have hw : sg_Wc D b cA (a + 10) s.heap (ur (I_7 (a + 2) q1 (ur (ur (ur h a 11 ((a + 1) + 1)) a 6 (q1 + 1)) a 7 (q2 + 1))) a 8 ((a + 2) + 1)) H _ := hw
  refine lv_dup hx hb dX5_init_38 rfl ?_
  refine lv_aload_n hx hb dX5_init_39 rfl (lv_at hl 1 rfl) ?_
  refine sg_cinit (k := 1) (rest := [.ref (b + (a + 9)), .ref (b + a)]) (i_7 (a := (a + 9)) (q1 := q1) (by have := (ft_5_9_a _ ha hT).2.2.1; omega) (ft_5_9_a _ ha hT).2.1) hc hov hw (by omega) (by omega) hml hl k_212 k_157 k_6 k_158 rfl ⟨by decide, by decide, by decide +kernel⟩ ⟨⟨rfl, rfl⟩, Nat.le_trans (Nat.le_of_ble_eq_true rfl) hRf, Nat.le_trans (Nat.le_of_ble_eq_true rfl) hRl⟩ ⟨Nat.le_trans (Nat.le_of_ble_eq_true rfl) hRc, Nat.le_trans (Nat.le_of_ble_eq_true rfl) hRs⟩ rfl rfl (Nat.le_of_ble_eq_true rfl) dX5_init_40 (fun H locs hw => ?_)
  have hw : sg_Wc D b cA (a + 16) s.heap (I_7 (a + 9) q1 (ur (I_7 (a + 2) q1 (ur (ur (ur h a 11 ((a + 1) + 1)) a 6 (q1 + 1)) a 7 (q2 + 1))) a 8 ((a + 2) + 1))) H _ := hw
  refine sg_cputF (q := (a + 9)) (ty := (.object "ShoulderHeirs$Walk")) hc hw (by omega) hT fr_5_9 tyX5_ok nmX5 rfl hin rfl (by decide +kernel) rfl rfl k_225 dX5_init_43 (fun H locs hw => ?_)
  refine lv_aload_n hx hb dX5_init_46 rfl (lv_at hl 0 rfl) ?_
  refine sg_cnew (n := (a + 16)) hc hw (by omega) (fun h9 => by omega) (ft_5_10_a _ ha hT).2.1 fn_7 k_211 k_155 k_6 (Nat.le_trans (Nat.le_of_ble_eq_true rfl) hRc) (Nat.le_trans (Nat.le_of_ble_eq_true rfl) hRs) dX5_init_47 (fun H hw => ?_)
  have hw : sg_Wc D b cA (a + 17) s.heap (ur (I_7 (a + 9) q1 (ur (I_7 (a + 2) q1 (ur (ur (ur h a 11 ((a + 1) + 1)) a 6 (q1 + 1)) a 7 (q2 + 1))) a 8 ((a + 2) + 1))) a 9 ((a + 9) + 1)) H _ := hw
  refine lv_dup hx hb dX5_init_50 rfl ?_
  refine lv_aload_n hx hb dX5_init_51 rfl (lv_at hl 1 rfl) ?_
  refine sg_cinit (k := 1) (rest := [.ref (b + (a + 16)), .ref (b + a)]) (i_7 (a := (a + 16)) (q1 := q1) (by have := (ft_5_10_a _ ha hT).2.2.1; omega) (ft_5_10_a _ ha hT).2.1) hc hov hw (by omega) (by omega) hml hl k_212 k_157 k_6 k_158 rfl ⟨by decide, by decide, by decide +kernel⟩ ⟨⟨rfl, rfl⟩, Nat.le_trans (Nat.le_of_ble_eq_true rfl) hRf, Nat.le_trans (Nat.le_of_ble_eq_true rfl) hRl⟩ ⟨Nat.le_trans (Nat.le_of_ble_eq_true rfl) hRc, Nat.le_trans (Nat.le_of_ble_eq_true rfl) hRs⟩ rfl rfl (Nat.le_of_ble_eq_true rfl) dX5_init_52 (fun H locs hw => ?_)
  have hw : sg_Wc D b cA (a + 23) s.heap (I_7 (a + 16) q1 (ur (I_7 (a + 9) q1 (ur (I_7 (a + 2) q1 (ur (ur (ur h a 11 ((a + 1) + 1)) a 6 (q1 + 1)) a 7 (q2 + 1))) a 8 ((a + 2) + 1))) a 9 ((a + 9) + 1))) H _ := hw
  refine sg_cputF (q := (a + 16)) (ty := (.object "ShoulderHeirs$Walk")) hc hw (by omega) hT fr_5_10 tyX5_ok nmX5 rfl hin rfl (by decide +kernel) rfl rfl k_226 dX5_init_55 (fun H locs hw => ?_)
  exact sg_cvret (n0 := 0) hc hov hw (by omega) (by omega) B.returns B.notSynchronized rfl dX5_init_58
def I_0 (a q1 : Nat) (h : HP) : HP := (ur (I_7 (a + 5) q1 (ur (ur (ur (ur (ur h a 4 ((a + 1) + 1)) a 5 ((a + 2) + 1)) a 6 ((a + 3) + 1)) a 7 ((a + 4) + 1)) a 2 (q1 + 1))) a 3 ((a + 5) + 1))
set_option maxHeartbeats 4000000 in
set_option maxRecDepth 100000 in
theorem i_0 {l : Launch} {D : va_G} {cA : Nat → ClassId} {b : Nat} {a q1 : Nat} {h : HP} (ha : a < 154) (hT : sg_T a = 0) : Met l yX0_init (Cond.code yX0_init cX0_init 2 none :: sg_tbl) ({ frames := 2, cells := 11, slots := 186, locals := 41 } : Room) (va_Pc [.ref (b + a), .ref (b + q1)] (sg_Wk D b cA (a + 1) h)) (va_Qv (fun u => u = I_0 a q1 h) (sg_Wk D b cA (a + 12)) (sg_A b)) 11 186 (sg_A b) := by
  refine Met.ofW (cc := cX0_init) (maxL := 2) (ret := none) (by decide) rfl ?_
  intro p e s m args below meth c s₁ B hml hv
  obtain ⟨rfl, hP, hK, hz, hZ, hN, hov⟩ := hv
  have hl := lv_entry [.ref (b + a), .ref (b + q1)] (n := 2) (Nat.le_of_ble_eq_true rfl)
  rw [lg_entry_eq]
  have hin : meth.name = "<init>" := (name_of_methodNamed B.named B.method).1
  have hc : sg_Cx p s m _ c cX0_init RX0 D cA := ⟨B.exec, B.bytes, findClass_of_methodNamed B.named, fun w h => atoms_spec (ws := Cond.code yX0_init cX0_init 2 none :: sg_tbl) B.pre w (List.mem_cons_of_mem _ h), hK, hN⟩
  have hx := hc.1
  have hb := hc.2.1
  have hw : sg_Wc D b cA (a + 1) s.heap h s.heap [] := ⟨hP, va_S.rf, hZ⟩
  generalize (lg_sl ([.ref (b + a), .ref (b + q1)]) ++ List.replicate (2 - (lg_sl ([.ref (b + a), .ref (b + q1)])).length) Slot.unset).toArray = ls at hl ⊢
  have hl : lv_has ls 2 [(0, .ref (b + a)), (1, .ref (b + q1))] := hl
  have hRf : 2 ≤ (headSpec (Cond.code yX0_init cX0_init 2 none :: sg_tbl) ({ frames := 2, cells := 11, slots := 186, locals := 41 } : Room)).room.frames := Nat.le_refl _
  have hRl : 41 ≤ (headSpec (Cond.code yX0_init cX0_init 2 none :: sg_tbl) ({ frames := 2, cells := 11, slots := 186, locals := 41 } : Room)).room.locals := Nat.le_refl _
  have hRc : 11 ≤ (headSpec (Cond.code yX0_init cX0_init 2 none :: sg_tbl) ({ frames := 2, cells := 11, slots := 186, locals := 41 } : Room)).room.cells := Nat.le_refl _
  have hRs : 186 ≤ (headSpec (Cond.code yX0_init cX0_init 2 none :: sg_tbl) ({ frames := 2, cells := 11, slots := 186, locals := 41 } : Room)).room.slots := Nat.le_refl _
  generalize (headSpec (Cond.code yX0_init cX0_init 2 none :: sg_tbl) ({ frames := 2, cells := 11, slots := 186, locals := 41 } : Room)).room = R at hRf hRl hRc hRs ⊢
  refine lv_aload_n hx hb dX0_init_0 rfl (lv_at hl 0 rfl) ?_
  refine sg_cobj hc hml hl k_285 k_24 k_25 (Nat.le_trans (by decide) hRf) (Nat.le_trans (by decide) hRl) dX0_init_1 ?_
  refine lv_aload_n hx hb dX0_init_4 rfl (lv_at hl 0 rfl) ?_
  refine lv_bipush (v := 6) hx hb dX0_init_5 (by decide) ?_
  refine sg_cnewi (n := (a + 1)) hc hw (by omega) (by omega) k_96 (ft_0_4_a _ ha hT).2.1 (ft_0_4_a _ ha hT).2.2.2 (by decide) (by decide) (by decide) (Nat.le_trans (Nat.le_of_ble_eq_true rfl) hRc) (Nat.le_trans (Nat.le_of_ble_eq_true rfl) hRs) dX0_init_7 (fun H hw => ?_)
  have hw : sg_Wc D b cA (a + 2) s.heap h H _ := hw
  refine sg_cputF (q := (a + 1)) (ty := (.array .int)) hc hw (by omega) hT fr_0_4 tyX0_ok nmX0 rfl hin rfl (by decide +kernel) rfl rfl k_294 dX0_init_9 (fun H locs hw => ?_)
  refine lv_aload_n hx hb dX0_init_12 rfl (lv_at hl 0 rfl) ?_
  refine lv_bipush (v := 6) hx hb dX0_init_13 (by decide) ?_
  refine sg_cnewi (n := (a + 2)) hc hw (by omega) (by omega) k_96 (ft_0_5_a _ ha hT).2.1 (ft_0_5_a _ ha hT).2.2.2 (by decide) (by decide) (by decide) (Nat.le_trans (Nat.le_of_ble_eq_true rfl) hRc) (Nat.le_trans (Nat.le_of_ble_eq_true rfl) hRs) dX0_init_15 (fun H hw => ?_)
  have hw : sg_Wc D b cA (a + 3) s.heap (ur h a 4 ((a + 1) + 1)) H _ := hw
  refine sg_cputF (q := (a + 2)) (ty := (.array .int)) hc hw (by omega) hT fr_0_5 tyX0_ok nmX0 rfl hin rfl (by decide +kernel) rfl rfl k_295 dX0_init_17 (fun H locs hw => ?_)
  refine lv_aload_n hx hb dX0_init_20 rfl (lv_at hl 0 rfl) ?_
  refine lv_bipush (v := 6) hx hb dX0_init_21 (by decide) ?_
  refine sg_cnewi (n := (a + 3)) hc hw (by omega) (by omega) k_96 (ft_0_6_a _ ha hT).2.1 (ft_0_6_a _ ha hT).2.2.2 (by decide) (by decide) (by decide) (Nat.le_trans (Nat.le_of_ble_eq_true rfl) hRc) (Nat.le_trans (Nat.le_of_ble_eq_true rfl) hRs) dX0_init_23 (fun H hw => ?_)
  have hw : sg_Wc D b cA (a + 4) s.heap (ur (ur h a 4 ((a + 1) + 1)) a 5 ((a + 2) + 1)) H _ := hw
  refine sg_cputF (q := (a + 3)) (ty := (.array .int)) hc hw (by omega) hT fr_0_6 tyX0_ok nmX0 rfl hin rfl (by decide +kernel) rfl rfl k_296 dX0_init_25 (fun H locs hw => ?_)
  refine lv_aload_n hx hb dX0_init_28 rfl (lv_at hl 0 rfl) ?_
  refine lv_bipush (v := 6) hx hb dX0_init_29 (by decide) ?_
  refine sg_cnewi (n := (a + 4)) hc hw (by omega) (by omega) k_96 (ft_0_7_a _ ha hT).2.1 (ft_0_7_a _ ha hT).2.2.2 (by decide) (by decide) (by decide) (Nat.le_trans (Nat.le_of_ble_eq_true rfl) hRc) (Nat.le_trans (Nat.le_of_ble_eq_true rfl) hRs) dX0_init_31 (fun H hw => ?_)
  have hw : sg_Wc D b cA (a + 5) s.heap (ur (ur (ur h a 4 ((a + 1) + 1)) a 5 ((a + 2) + 1)) a 6 ((a + 3) + 1)) H _ := hw
  refine sg_cputF (q := (a + 4)) (ty := (.array .int)) hc hw (by omega) hT fr_0_7 tyX0_ok nmX0 rfl hin rfl (by decide +kernel) rfl rfl k_297 dX0_init_33 (fun H locs hw => ?_)
  refine lv_aload_n hx hb dX0_init_36 rfl (lv_at hl 0 rfl) ?_
  refine lv_aload_n hx hb dX0_init_37 rfl (lv_at hl 1 rfl) ?_
  refine sg_cputF (q := q1) (ty := (.object "ShoulderHeirs$Funeral")) hc hw (by omega) hT fr_0_2 tyX0_ok nmX0 rfl hin rfl (by decide +kernel) rfl rfl k_292 dX0_init_38 (fun H locs hw => ?_)
  refine lv_aload_n hx hb dX0_init_41 rfl (lv_at hl 0 rfl) ?_
  refine sg_cnew (n := (a + 5)) hc hw (by omega) (fun h9 => by omega) (ft_0_3_a _ ha hT).2.1 fn_7 k_286 k_155 k_6 (Nat.le_trans (Nat.le_of_ble_eq_true rfl) hRc) (Nat.le_trans (Nat.le_of_ble_eq_true rfl) hRs) dX0_init_42 (fun H hw => ?_)
  have hw : sg_Wc D b cA (a + 6) s.heap (ur (ur (ur (ur (ur h a 4 ((a + 1) + 1)) a 5 ((a + 2) + 1)) a 6 ((a + 3) + 1)) a 7 ((a + 4) + 1)) a 2 (q1 + 1)) H _ := hw
  refine lv_dup hx hb dX0_init_45 rfl ?_
  refine lv_aload_n hx hb dX0_init_46 rfl (lv_at hl 1 rfl) ?_
  refine sg_cinit (k := 1) (rest := [.ref (b + (a + 5)), .ref (b + a)]) (i_7 (a := (a + 5)) (q1 := q1) (by have := (ft_0_3_a _ ha hT).2.2.1; omega) (ft_0_3_a _ ha hT).2.1) hc hov hw (by omega) (by omega) hml hl k_287 k_157 k_6 k_158 rfl ⟨by decide, by decide, by decide +kernel⟩ ⟨⟨rfl, rfl⟩, Nat.le_trans (Nat.le_of_ble_eq_true rfl) hRf, Nat.le_trans (Nat.le_of_ble_eq_true rfl) hRl⟩ ⟨Nat.le_trans (Nat.le_of_ble_eq_true rfl) hRc, Nat.le_trans (Nat.le_of_ble_eq_true rfl) hRs⟩ rfl rfl (Nat.le_of_ble_eq_true rfl) dX0_init_47 (fun H locs hw => ?_)
  have hw : sg_Wc D b cA (a + 12) s.heap (I_7 (a + 5) q1 (ur (ur (ur (ur (ur h a 4 ((a + 1) + 1)) a 5 ((a + 2) + 1)) a 6 ((a + 3) + 1)) a 7 ((a + 4) + 1)) a 2 (q1 + 1))) H _ := hw
  refine sg_cputF (q := (a + 5)) (ty := (.object "ShoulderHeirs$Walk")) hc hw (by omega) hT fr_0_3 tyX0_ok nmX0 rfl hin rfl (by decide +kernel) rfl rfl k_293 dX0_init_50 (fun H locs hw => ?_)
  exact sg_cvret (n0 := 0) hc hov hw (by omega) (by omega) B.returns B.notSynchronized rfl dX0_init_53
