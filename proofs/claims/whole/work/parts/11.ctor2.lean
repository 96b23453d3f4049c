theorem fn_0 : sg_Nn 0 RX0 TX0 10 tyX0 := ⟨rfl, sg_in0, tyX0_ok, nmX0, rfl, by decide, by decide +kernel⟩
theorem fn_1 : sg_Nn 1 RX1 TX1 11 tyX1 := ⟨rfl, sg_in1, tyX1_ok, nmX1, rfl, by decide, by decide +kernel⟩
theorem fn_2 : sg_Nn 2 RX2 TX2 6 tyX2 := ⟨rfl, sg_in2, tyX2_ok, nmX2, rfl, by decide, by decide +kernel⟩
theorem fn_3 : sg_Nn 3 RX3 TX3 2 tyX3 := ⟨rfl, sg_in3, tyX3_ok, nmX3, rfl, by decide, by decide +kernel⟩
theorem fn_4 : sg_Nn 4 RX4 TX4 3 tyX4 := ⟨rfl, sg_in4, tyX4_ok, nmX4, rfl, by decide, by decide +kernel⟩
theorem fn_5 : sg_Nn 5 RX5 TX5 12 tyX5 := ⟨rfl, sg_in5, tyX5_ok, nmX5, rfl, by decide, by decide +kernel⟩
theorem fn_6 : sg_Nn 6 RX6 TX6 4 tyX6 := ⟨rfl, sg_in6, tyX6_ok, nmX6, rfl, by decide, by decide +kernel⟩
theorem fn_7 : sg_Nn 7 RX7 TX7 12 tyX7 := ⟨rfl, sg_in7, tyX7_ok, nmX7, rfl, by decide, by decide +kernel⟩
theorem fn_8 : sg_Nn 8 RX8 TX8 18 tyX8 := ⟨rfl, sg_in8, tyX8_ok, nmX8, rfl, by decide, by decide +kernel⟩
theorem fn_9 : sg_Nn 9 RX9 TX9 28 tyX9 := ⟨rfl, sg_in9, tyX9_ok, nmX9, rfl, by decide, by decide +kernel⟩
def I_1 (a : Nat) (h : HP) : HP := (ur (ur (ur (ur (ur (ur h a 5 ((a + 1) + 1)) a 6 ((a + 2) + 1)) a 7 ((a + 3) + 1)) a 8 ((a + 4) + 1)) a 9 ((a + 5) + 1)) a 10 ((a + 6) + 1))
set_option maxHeartbeats 4000000 in
set_option maxRecDepth 100000 in
theorem i_1 {l : Launch} {D : va_G} {cA : Nat → ClassId} {b : Nat} {a : Nat} {h : HP} (ha : a < 154) (hT : sg_T a = 1) : Met l yX1_init (Cond.code yX1_init cX1_init 1 none :: sg_tbl) ({ frames := 1, cells := 6, slots := 150, locals := 20 } : Room) (va_Pc [.ref (b + a)] (sg_Wk D b cA (a + 1) h)) (va_Qv (fun u => u = I_1 a h) (sg_Wk D b cA (a + 7)) (sg_A b)) 6 150 (sg_A b) := by
  refine Met.ofW (cc := cX1_init) (maxL := 1) (ret := none) (by decide) rfl ?_
  intro p e s m args below meth c s₁ B hml hv
  obtain ⟨rfl, hP, hK, hz, hZ, hN, hov⟩ := hv
  have hl := lv_entry [.ref (b + a)] (n := 1) (Nat.le_of_ble_eq_true rfl)
  rw [lg_entry_eq]
  have hin : meth.name = "<init>" := (name_of_methodNamed B.named B.method).1
  have hc : sg_Cx p s m _ c cX1_init RX1 D cA := ⟨B.exec, B.bytes, findClass_of_methodNamed B.named, fun w h => atoms_spec (ws := Cond.code yX1_init cX1_init 1 none :: sg_tbl) B.pre w (List.mem_cons_of_mem _ h), hK, hN⟩
  have hx := hc.1
  have hb := hc.2.1
  have hw : sg_Wc D b cA (a + 1) s.heap h s.heap [] := ⟨hP, va_S.rf, hZ⟩
  generalize (lg_sl ([.ref (b + a)]) ++ List.replicate (1 - (lg_sl ([.ref (b + a)])).length) Slot.unset).toArray = ls at hl ⊢
  have hl : lv_has ls 1 [(0, .ref (b + a))] := hl
  have hRf : 1 ≤ (headSpec (Cond.code yX1_init cX1_init 1 none :: sg_tbl) ({ frames := 1, cells := 6, slots := 150, locals := 20 } : Room)).room.frames := Nat.le_refl _
  have hRl : 20 ≤ (headSpec (Cond.code yX1_init cX1_init 1 none :: sg_tbl) ({ frames := 1, cells := 6, slots := 150, locals := 20 } : Room)).room.locals := Nat.le_refl _
  have hRc : 6 ≤ (headSpec (Cond.code yX1_init cX1_init 1 none :: sg_tbl) ({ frames := 1, cells := 6, slots := 150, locals := 20 } : Room)).room.cells := Nat.le_refl _
  have hRs : 150 ≤ (headSpec (Cond.code yX1_init cX1_init 1 none :: sg_tbl) ({ frames := 1, cells := 6, slots := 150, locals := 20 } : Room)).room.slots := Nat.le_refl _
  generalize (headSpec (Cond.code yX1_init cX1_init 1 none :: sg_tbl) ({ frames := 1, cells := 6, slots := 150, locals := 20 } : Room)).room = R at hRf hRl hRc hRs ⊢
  refine lv_aload_n hx hb dX1_init_0 rfl (lv_at hl 0 rfl) ?_
  refine sg_cobj hc hml hl k_37 k_24 k_25 (Nat.le_trans (by decide) hRf) (Nat.le_trans (by decide) hRl) dX1_init_1 ?_
  refine lv_aload_n hx hb dX1_init_4 rfl (lv_at hl 0 rfl) ?_
  refine lv_bipush (v := 6) hx hb dX1_init_5 (by decide) ?_
  refine sg_cnewi (n := (a + 1)) hc hw (by omega) (by omega) k_96 (ft_1_5_a _ ha hT).2.1 (ft_1_5_a _ ha hT).2.2.2 (by decide) (by decide) (by decide) (Nat.le_trans (Nat.le_of_ble_eq_true rfl) hRc) (Nat.le_trans (Nat.le_of_ble_eq_true rfl) hRs) dX1_init_7 (fun H hw => ?_)
  have hw : sg_Wc D b cA (a + 2) s.heap h H _ := hw
  refine sg_cputF (q := (a + 1)) (ty := (.array .int)) hc hw (by omega) hT fr_1_5 tyX1_ok nmX1 rfl hin rfl (by decide +kernel) rfl rfl k_57 dX1_init_9 (fun H locs hw => ?_)
  refine lv_aload_n hx hb dX1_init_12 rfl (lv_at hl 0 rfl) ?_
  refine lv_bipush (v := 6) hx hb dX1_init_13 (by decide) ?_
  refine sg_cnewi (n := (a + 2)) hc hw (by omega) (by omega) k_96 (ft_1_6_a _ ha hT).2.1 (ft_1_6_a _ ha hT).2.2.2 (by decide) (by decide) (by decide) (Nat.le_trans (Nat.le_of_ble_eq_true rfl) hRc) (Nat.le_trans (Nat.le_of_ble_eq_true rfl) hRs) dX1_init_15 (fun H hw => ?_)
  have hw : sg_Wc D b cA (a + 3) s.heap (ur h a 5 ((a + 1) + 1)) H _ := hw
  refine sg_cputF (q := (a + 2)) (ty := (.array .int)) hc hw (by omega) hT fr_1_6 tyX1_ok nmX1 rfl hin rfl (by decide +kernel) rfl rfl k_59 dX1_init_17 (fun H locs hw => ?_)
  refine lv_aload_n hx hb dX1_init_20 rfl (lv_at hl 0 rfl) ?_
  refine lv_bipush (v := 6) hx hb dX1_init_21 (by decide) ?_
  refine sg_cnewi (n := (a + 3)) hc hw (by omega) (by omega) k_96 (ft_1_7_a _ ha hT).2.1 (ft_1_7_a _ ha hT).2.2.2 (by decide) (by decide) (by decide) (Nat.le_trans (Nat.le_of_ble_eq_true rfl) hRc) (Nat.le_trans (Nat.le_of_ble_eq_true rfl) hRs) dX1_init_23 (fun H hw => ?_)
  have hw : sg_Wc D b cA (a + 4) s.heap (ur (ur h a 5 ((a + 1) + 1)) a 6 ((a + 2) + 1)) H _ := hw
  refine sg_cputF (q := (a + 3)) (ty := (.array .int)) hc hw (by omega) hT fr_1_7 tyX1_ok nmX1 rfl hin rfl (by decide +kernel) rfl rfl k_60 dX1_init_25 (fun H locs hw => ?_)
  refine lv_aload_n hx hb dX1_init_28 rfl (lv_at hl 0 rfl) ?_
  refine lv_bipush (v := 6) hx hb dX1_init_29 (by decide) ?_
  refine sg_cnewi (n := (a + 4)) hc hw (by omega) (by omega) k_96 (ft_1_8_a _ ha hT).2.1 (ft_1_8_a _ ha hT).2.2.2 (by decide) (by decide) (by decide) (Nat.le_trans (Nat.le_of_ble_eq_true rfl) hRc) (Nat.le_trans (Nat.le_of_ble_eq_true rfl) hRs) dX1_init_31 (fun H hw => ?_)
  have hw : sg_Wc D b cA (a + 5) s.heap (ur (ur (ur h a 5 ((a + 1) + 1)) a 6 ((a + 2) + 1)) a 7 ((a + 3) + 1)) H _ := hw
  refine sg_cputF (q := (a + 4)) (ty := (.array .int)) hc hw (by omega) hT fr_1_8 tyX1_ok nmX1 rfl hin rfl (by decide +kernel) rfl rfl k_61 dX1_init_33 (fun H locs hw => ?_)
  refine lv_aload_n hx hb dX1_init_36 rfl (lv_at hl 0 rfl) ?_
  refine lv_bipush (v := 6) hx hb dX1_init_37 (by decide) ?_
  refine sg_cnewi (n := (a + 5)) hc hw (by omega) (by omega) k_96 (ft_1_9_a _ ha hT).2.1 (ft_1_9_a _ ha hT).2.2.2 (by decide) (by decide) (by decide) (Nat.le_trans (Nat.le_of_ble_eq_true rfl) hRc) (Nat.le_trans (Nat.le_of_ble_eq_true rfl) hRs) dX1_init_39 (fun H hw => ?_)
  have hw : sg_Wc D b cA (a + 6) s.heap (ur (ur (ur (ur h a 5 ((a + 1) + 1)) a 6 ((a + 2) + 1)) a 7 ((a + 3) + 1)) a 8 ((a + 4) + 1)) H _ := hw
  refine sg_cputF (q := (a + 5)) (ty := (.array .int)) hc hw (by omega) hT fr_1_9 tyX1_ok nmX1 rfl hin rfl (by decide +kernel) rfl rfl k_65 dX1_init_41 (fun H locs hw => ?_)
  refine lv_aload_n hx hb dX1_init_44 rfl (lv_at hl 0 rfl) ?_
  refine lv_bipush (v := 120) hx hb dX1_init_45 (by decide) ?_
  refine sg_cnewi (n := (a + 6)) hc hw (by omega) (by omega) k_96 (ft_1_10_a _ ha hT).2.1 (ft_1_10_a _ ha hT).2.2.2 (by decide) (by decide) (by decide) (Nat.le_trans (Nat.le_of_ble_eq_true rfl) hRc) (Nat.le_trans (Nat.le_of_ble_eq_true rfl) hRs) dX1_init_47 (fun H hw => ?_)
  have hw : sg_Wc D b cA (a + 7) s.heap (ur (ur (ur (ur (ur h a 5 ((a + 1) + 1)) a 6 ((a + 2) + 1)) a 7 ((a + 3) + 1)) a 8 ((a + 4) + 1)) a 9 ((a + 5) + 1)) H _ := hw
  refine sg_cputF (q := (a + 6)) (ty := (.array .int)) hc hw (by omega) hT fr_1_10 tyX1_ok nmX1 rfl hin rfl (by decide +kernel) rfl rfl k_70 dX1_init_49 (fun H locs hw => ?_)
  exact sg_cvret (n0 := 0) hc hov hw (by omega) (by omega) B.returns B.notSynchronized rfl dX1_init_52
def I_6 (a : Nat) (h : HP) : HP := (ur (ur (ur h a 1 ((a + 1) + 1)) a 2 ((a + 2) + 1)) a 3 ((a + 3) + 1))
set_option maxHeartbeats 4000000 in
set_option maxRecDepth 100000 in
theorem i_6 {l : Launch} {D : va_G} {cA : Nat → ClassId} {b : Nat} {a : Nat} {h : HP} (ha : a < 154) (hT : sg_T a = 6) : Met l yX6_init (Cond.code yX6_init cX6_init 1 none :: sg_tbl) ({ frames := 1, cells := 3, slots := 27, locals := 20 } : Room) (va_Pc [.ref (b + a)] (sg_Wk D b cA (a + 1) h)) (va_Qv (fun u => u = I_6 a h) (sg_Wk D b cA (a + 4)) (sg_A b)) 3 27 (sg_A b) := by
  refine Met.ofW (cc := cX6_init) (maxL := 1) (ret := none) (by decide) rfl ?_
  intro p e s m args below meth c s₁ B hml hv
  obtain ⟨rfl, hP, hK, hz, hZ, hN, hov⟩ := hv
  have hl := lv_entry [.ref (b + a)] (n := 1) (Nat.le_of_ble_eq_true rfl)
  rw [lg_entry_eq]
  have hin : meth.name = "<init>" := (name_of_methodNamed B.named B.method).1
  have hc : sg_Cx p s m _ c cX6_init RX6 D cA := ⟨B.exec, B.bytes, findClass_of_methodNamed B.named, fun w h => atoms_spec (ws := Cond.code yX6_init cX6_init 1 none :: sg_tbl) B.pre w (List.mem_cons_of_mem _ h), hK, hN⟩
  have hx := hc.1
  have hb := hc.2.1
  have hw : sg_Wc D b cA (a + 1) s.heap h s.heap [] := ⟨hP, va_S.rf, hZ⟩
  generalize (lg_sl ([.ref (b + a)]) ++ List.replicate (1 - (lg_sl ([.ref (b + a)])).length) Slot.unset).toArray = ls at hl ⊢
  have hl : lv_has ls 1 [(0, .ref (b + a))] := hl
  have hRf : 1 ≤ (headSpec (Cond.code yX6_init cX6_init 1 none :: sg_tbl) ({ frames := 1, cells := 3, slots := 27, locals := 20 } : Room)).room.frames := Nat.le_refl _
  have hRl : 20 ≤ (headSpec (Cond.code yX6_init cX6_init 1 none :: sg_tbl) ({ frames := 1, cells := 3, slots := 27, locals := 20 } : Room)).room.locals := Nat.le_refl _
  have hRc : 3 ≤ (headSpec (Cond.code yX6_init cX6_init 1 none :: sg_tbl) ({ frames := 1, cells := 3, slots := 27, locals := 20 } : Room)).room.cells := Nat.le_refl _
  have hRs : 27 ≤ (headSpec (Cond.code yX6_init cX6_init 1 none :: sg_tbl) ({ frames := 1, cells := 3, slots := 27, locals := 20 } : Room)).room.slots := Nat.le_refl _
  generalize (headSpec (Cond.code yX6_init cX6_init 1 none :: sg_tbl) ({ frames := 1, cells := 3, slots := 27, locals := 20 } : Room)).room = R at hRf hRl hRc hRs ⊢
  refine lv_aload_n hx hb dX6_init_0 rfl (lv_at hl 0 rfl) ?_
  refine sg_cobj hc hml hl k_102 k_24 k_25 (Nat.le_trans (by decide) hRf) (Nat.le_trans (by decide) hRl) dX6_init_1 ?_
  refine lv_aload_n hx hb dX6_init_4 rfl (lv_at hl 0 rfl) ?_
  refine lv_bipush (v := 9) hx hb dX6_init_5 (by decide) ?_
  refine sg_cnewi (n := (a + 1)) hc hw (by omega) (by omega) k_96 (ft_6_1_a _ ha hT).2.1 (ft_6_1_a _ ha hT).2.2.2 (by decide) (by decide) (by decide) (Nat.le_trans (Nat.le_of_ble_eq_true rfl) hRc) (Nat.le_trans (Nat.le_of_ble_eq_true rfl) hRs) dX6_init_7 (fun H hw => ?_)
  have hw : sg_Wc D b cA (a + 2) s.heap h H _ := hw
  refine sg_cputF (q := (a + 1)) (ty := (.array .int)) hc hw (by omega) hT fr_6_1 tyX6_ok nmX6 rfl hin rfl (by decide +kernel) rfl rfl k_106 dX6_init_9 (fun H locs hw => ?_)
  refine lv_aload_n hx hb dX6_init_12 rfl (lv_at hl 0 rfl) ?_
  refine lv_bipush (v := 9) hx hb dX6_init_13 (by decide) ?_
  refine sg_cnewi (n := (a + 2)) hc hw (by omega) (by omega) k_96 (ft_6_2_a _ ha hT).2.1 (ft_6_2_a _ ha hT).2.2.2 (by decide) (by decide) (by decide) (Nat.le_trans (Nat.le_of_ble_eq_true rfl) hRc) (Nat.le_trans (Nat.le_of_ble_eq_true rfl) hRs) dX6_init_15 (fun H hw => ?_)
  have hw : sg_Wc D b cA (a + 3) s.heap (ur h a 1 ((a + 1) + 1)) H _ := hw
  refine sg_cputF (q := (a + 2)) (ty := (.array .int)) hc hw (by omega) hT fr_6_2 tyX6_ok nmX6 rfl hin rfl (by decide +kernel) rfl rfl k_108 dX6_init_17 (fun H locs hw => ?_)
  refine lv_aload_n hx hb dX6_init_20 rfl (lv_at hl 0 rfl) ?_
  refine lv_bipush (v := 9) hx hb dX6_init_21 (by decide) ?_
  refine sg_cnewi (n := (a + 3)) hc hw (by omega) (by omega) k_96 (ft_6_3_a _ ha hT).2.1 (ft_6_3_a _ ha hT).2.2.2 (by decide) (by decide) (by decide) (Nat.le_trans (Nat.le_of_ble_eq_true rfl) hRc) (Nat.le_trans (Nat.le_of_ble_eq_true rfl) hRs) dX6_init_23 (fun H hw => ?_)
  have hw : sg_Wc D b cA (a + 4) s.heap (ur (ur h a 1 ((a + 1) + 1)) a 2 ((a + 2) + 1)) H _ := hw
  refine sg_cputF (q := (a + 3)) (ty := (.array .int)) hc hw (by omega) hT fr_6_3 tyX6_ok nmX6 rfl hin rfl (by decide +kernel) rfl rfl k_110 dX6_init_25 (fun H locs hw => ?_)
  exact sg_cvret (n0 := 0) hc hov hw (by omega) (by omega) B.returns B.notSynchronized rfl dX6_init_28
def I_7 (a q1 : Nat) (h : HP) : HP := (ur (ur (ur (ur (ur (ur (ur h a 6 ((a + 1) + 1)) a 7 ((a + 2) + 1)) a 8 ((a + 3) + 1)) a 9 ((a + 4) + 1)) a 10 ((a + 5) + 1)) a 11 ((a + 6) + 1)) a 0 (q1 + 1))
set_option maxHeartbeats 4000000 in
set_option maxRecDepth 100000 in
theorem i_7 {l : Launch} {D : va_G} {cA : Nat → ClassId} {b : Nat} {a q1 : Nat} {h : HP} (ha : a < 154) (hT : sg_T a = 7) : Met l yX7_init (Cond.code yX7_init cX7_init 2 none :: sg_tbl) ({ frames := 1, cells := 6, slots := 150, locals := 20 } : Room) (va_Pc [.ref (b + a), .ref (b + q1)] (sg_Wk D b cA (a + 1) h)) (va_Qv (fun u => u = I_7 a q1 h) (sg_Wk D b cA (a + 7)) (sg_A b)) 6 150 (sg_A b) := by
  refine Met.ofW (cc := cX7_init) (maxL := 2) (ret := none) (by decide) rfl ?_
  intro p e s m args below meth c s₁ B hml hv
  obtain ⟨rfl, hP, hK, hz, hZ, hN, hov⟩ := hv
  have hl := lv_entry [.ref (b + a), .ref (b + q1)] (n := 2) (Nat.le_of_ble_eq_true rfl)
  rw [lg_entry_eq]
  have hin : meth.name = "<init>" := (name_of_methodNamed B.named B.method).1
  have hc : sg_Cx p s m _ c cX7_init RX7 D cA := ⟨B.exec, B.bytes, findClass_of_methodNamed B.named, fun w h => atoms_spec (ws := Cond.code yX7_init cX7_init 2 none :: sg_tbl) B.pre w (List.mem_cons_of_mem _ h), hK, hN⟩
  have hx := hc.1
  have hb := hc.2.1
  have hw : sg_Wc D b cA (a + 1) s.heap h s.heap [] := ⟨hP, va_S.rf, hZ⟩
  generalize (lg_sl ([.ref (b + a), .ref (b + q1)]) ++ List.replicate (2 - (lg_sl ([.ref (b + a), .ref (b + q1)])).length) Slot.unset).toArray = ls at hl ⊢
  have hl : lv_has ls 2 [(0, .ref (b + a)), (1, .ref (b + q1))] := hl
  have hRf : 1 ≤ (headSpec (Cond.code yX7_init cX7_init 2 none :: sg_tbl) ({ frames := 1, cells := 6, slots := 150, locals := 20 } : Room)).room.frames := Nat.le_refl _
  have hRl : 20 ≤ (headSpec (Cond.code yX7_init cX7_init 2 none :: sg_tbl) ({ frames := 1, cells := 6, slots := 150, locals := 20 } : Room)).room.locals := Nat.le_refl _
  have hRc : 6 ≤ (headSpec (Cond.code yX7_init cX7_init 2 none :: sg_tbl) ({ frames := 1, cells := 6, slots := 150, locals := 20 } : Room)).room.cells := Nat.le_refl _
  have hRs : 150 ≤ (headSpec (Cond.code yX7_init cX7_init 2 none :: sg_tbl) ({ frames := 1, cells := 6, slots := 150, locals := 20 } : Room)).room.slots := Nat.le_refl _
  generalize (headSpec (Cond.code yX7_init cX7_init 2 none :: sg_tbl) ({ frames := 1, cells := 6, slots := 150, locals := 20 } : Room)).room = R at hRf hRl hRc hRs ⊢
  refine lv_aload_n hx hb dX7_init_0 rfl (lv_at hl 0 rfl) ?_
  refine sg_cobj hc hml hl k_159 k_24 k_25 (Nat.le_trans (by decide) hRf) (Nat.le_trans (by decide) hRl) dX7_init_1 ?_
  refine lv_aload_n hx hb dX7_init_4 rfl (lv_at hl 0 rfl) ?_
  refine lv_bipush (v := 6) hx hb dX7_init_5 (by decide) ?_
  refine sg_cnewi (n := (a + 1)) hc hw (by omega) (by omega) k_96 (ft_7_6_a _ ha hT).2.1 (ft_7_6_a _ ha hT).2.2.2 (by decide) (by decide) (by decide) (Nat.le_trans (Nat.le_of_ble_eq_true rfl) hRc) (Nat.le_trans (Nat.le_of_ble_eq_true rfl) hRs) dX7_init_7 (fun H hw => ?_)
  have hw : sg_Wc D b cA (a + 2) s.heap h H _ := hw
  refine sg_cputF (q := (a + 1)) (ty := (.array .int)) hc hw (by omega) hT fr_7_6 tyX7_ok nmX7 rfl hin rfl (by decide +kernel) rfl rfl k_170 dX7_init_9 (fun H locs hw => ?_)
  refine lv_aload_n hx hb dX7_init_12 rfl (lv_at hl 0 rfl) ?_
  refine lv_bipush (v := 6) hx hb dX7_init_13 (by decide) ?_
  refine sg_cnewi (n := (a + 2)) hc hw (by omega) (by omega) k_96 (ft_7_7_a _ ha hT).2.1 (ft_7_7_a _ ha hT).2.2.2 (by decide) (by decide) (by decide) (Nat.le_trans (Nat.le_of_ble_eq_true rfl) hRc) (Nat.le_trans (Nat.le_of_ble_eq_true rfl) hRs) dX7_init_15 (fun H hw => ?_)
  have hw : sg_Wc D b cA (a + 3) s.heap (ur h a 6 ((a + 1) + 1)) H _ := hw
  refine sg_cputF (q := (a + 2)) (ty := (.array .int)) hc hw (by omega) hT fr_7_7 tyX7_ok nmX7 rfl hin rfl (by decide +kernel) rfl rfl k_172 dX7_init_17 (fun H locs hw => ?_)
  refine lv_aload_n hx hb dX7_init_20 rfl (lv_at hl 0 rfl) ?_
  refine lv_bipush (v := 6) hx hb dX7_init_21 (by decide) ?_
  refine sg_cnewi (n := (a + 3)) hc hw (by omega) (by omega) k_96 (ft_7_8_a _ ha hT).2.1 (ft_7_8_a _ ha hT).2.2.2 (by decide) (by decide) (by decide) (Nat.le_trans (Nat.le_of_ble_eq_true rfl) hRc) (Nat.le_trans (Nat.le_of_ble_eq_true rfl) hRs) dX7_init_23 (fun H hw => ?_)
  have hw : sg_Wc D b cA (a + 4) s.heap (ur (ur h a 6 ((a + 1) + 1)) a 7 ((a + 2) + 1)) H _ := hw
  refine sg_cputF (q := (a + 3)) (ty := (.array .int)) hc hw (by omega) hT fr_7_8 tyX7_ok nmX7 rfl hin rfl (by decide +kernel) rfl rfl k_174 dX7_init_25 (fun H locs hw => ?_)
  refine lv_aload_n hx hb dX7_init_28 rfl (lv_at hl 0 rfl) ?_
  refine lv_bipush (v := 6) hx hb dX7_init_29 (by decide) ?_
  refine sg_cnewi (n := (a + 4)) hc hw (by omega) (by omega) k_96 (ft_7_9_a _ ha hT).2.1 (ft_7_9_a _ ha hT).2.2.2 (by decide) (by decide) (by decide) (Nat.le_trans (Nat.le_of_ble_eq_true rfl) hRc) (Nat.le_trans (Nat.le_of_ble_eq_true rfl) hRs) dX7_init_31 (fun H hw => ?_)
  have hw : sg_Wc D b cA (a + 5) s.heap (ur (ur (ur h a 6 ((a + 1) + 1)) a 7 ((a + 2) + 1)) a 8 ((a + 3) + 1)) H _ := hw
  refine sg_cputF (q := (a + 4)) (ty := (.array .int)) hc hw (by omega) hT fr_7_9 tyX7_ok nmX7 rfl hin rfl (by decide +kernel) rfl rfl k_176 dX7_init_33 (fun H locs hw => ?_)
  refine lv_aload_n hx hb dX7_init_36 rfl (lv_at hl 0 rfl) ?_
  refine lv_bipush (v := 120) hx hb dX7_init_37 (by decide) ?_
  refine sg_cnewi (n := (a + 5)) hc hw (by omega) (by omega) k_96 (ft_7_10_a _ ha hT).2.1 (ft_7_10_a _ ha hT).2.2.2 (by decide) (by decide) (by decide) (Nat.le_trans (Nat.le_of_ble_eq_true rfl) hRc) (Nat.le_trans (Nat.le_of_ble_eq_true rfl) hRs) dX7_init_39 (fun H hw => ?_)
  have hw : sg_Wc D b cA (a + 6) s.heap (ur (ur (ur (ur h a 6 ((a + 1) + 1)) a 7 ((a + 2) + 1)) a 8 ((a + 3) + 1)) a 9 ((a + 4) + 1)) H _ := hw
  refine sg_cputF (q := (a + 5)) (ty := (.array .int)) hc hw (by omega) hT fr_7_10 tyX7_ok nmX7 rfl hin rfl (by decide +kernel) rfl rfl k_177 dX7_init_41 (fun H locs hw => ?_)
  refine lv_aload_n hx hb dX7_init_44 rfl (lv_at hl 0 rfl) ?_
  refine lv_bipush (v := 6) hx hb dX7_init_45 (by decide) ?_
  refine sg_cnewi (n := (a + 6)) hc hw (by omega) (by omega) k_96 (ft_7_11_a _ ha hT).2.1 (ft_7_11_a _ ha hT).2.2.2 (by decide) (by decide) (by decide) (Nat.le_trans (Nat.le_of_ble_eq_true rfl) hRc) (Nat.le_trans (Nat.le_of_ble_eq_true rfl) hRs) dX7_init_47 (fun H hw => ?_)
  have hw : sg_Wc D b cA (a + 7) s.heap (ur (ur (ur (ur (ur h a 6 ((a + 1) + 1)) a 7 ((a + 2) + 1)) a 8 ((a + 3) + 1)) a 9 ((a + 4) + 1)) a 10 ((a + 5) + 1)) H _ := hw
  refine sg_cputF (q := (a + 6)) (ty := (.array .int)) hc hw (by omega) hT fr_7_11 tyX7_ok nmX7 rfl hin rfl (by decide +kernel) rfl rfl k_179 dX7_init_49 (fun H locs hw => ?_)
  refine lv_aload_n hx hb dX7_init_52 rfl (lv_at hl 0 rfl) ?_
  refine lv_aload_n hx hb dX7_init_53 rfl (lv_at hl 1 rfl) ?_
  refine sg_cputr (q := q1) hc hw (by omega) hT k_160 fr_7_0 dX7_init_54 (fun H locs hw => ?_)
  exact sg_cvret (n0 := 0) hc hov hw (by omega) (by omega) B.returns B.notSynchronized rfl dX7_init_57
def I_2 (a q1 : Nat) (h : HP) : HP := (ur (ur (ur h a 1 ((a + 1) + 1)) a 2 ((a + 2) + 1)) a 3 (q1 + 1))
set_option maxHeartbeats 4000000 in
set_option maxRecDepth 100000 in
theorem i_2 {l : Launch} {D : va_G} {cA : Nat → ClassId} {b : Nat} {a q1 : Nat} {h : HP} (ha : a < 154) (hT : sg_T a = 2) : Met l yX2_init (Cond.code yX2_init cX2_init 2 none :: sg_tbl) ({ frames := 1, cells := 2, slots := 12, locals := 20 } : Room) (va_Pc [.ref (b + a), .ref (b + q1)] (sg_Wk D b cA (a + 1) h)) (va_Qv (fun u => u = I_2 a q1 h) (sg_Wk D b cA (a + 3)) (sg_A b)) 2 12 (sg_A b) := by
  refine Met.ofW (cc := cX2_init) (maxL := 2) (ret := none) (by decide) rfl ?_
  intro p e s m args below meth c s₁ B hml hv
  obtain ⟨rfl, hP, hK, hz, hZ, hN, hov⟩ := hv
  have hl := lv_entry [.ref (b + a), .ref (b + q1)] (n := 2) (Nat.le_of_ble_eq_true rfl)
  rw [lg_entry_eq]
  have hin : meth.name = "<init>" := (name_of_methodNamed B.named B.method).1
  have hc : sg_Cx p s m _ c cX2_init RX2 D cA := ⟨B.exec, B.bytes, findClass_of_methodNamed B.named, fun w h => atoms_spec (ws := Cond.code yX2_init cX2_init 2 none :: sg_tbl) B.pre w (List.mem_cons_of_mem _ h), hK, hN⟩
  have hx := hc.1
  have hb := hc.2.1
  have hw : sg_Wc D b cA (a + 1) s.heap h s.heap [] := ⟨hP, va_S.rf, hZ⟩
  generalize (lg_sl ([.ref (b + a), .ref (b + q1)]) ++ List.replicate (2 - (lg_sl ([.ref (b + a), .ref (b + q1)])).length) Slot.unset).toArray = ls at hl ⊢
  have hl : lv_has ls 2 [(0, .ref (b + a)), (1, .ref (b + q1))] := hl
  have hRf : 1 ≤ (headSpec (Cond.code yX2_init cX2_init 2 none :: sg_tbl) ({ frames := 1, cells := 2, slots := 12, locals := 20 } : Room)).room.frames := Nat.le_refl _
  have hRl : 20 ≤ (headSpec (Cond.code yX2_init cX2_init 2 none :: sg_tbl) ({ frames := 1, cells := 2, slots := 12, locals := 20 } : Room)).room.locals := Nat.le_refl _
  have hRc : 2 ≤ (headSpec (Cond.code yX2_init cX2_init 2 none :: sg_tbl) ({ frames := 1, cells := 2, slots := 12, locals := 20 } : Room)).room.cells := Nat.le_refl _
  have hRs : 12 ≤ (headSpec (Cond.code yX2_init cX2_init 2 none :: sg_tbl) ({ frames := 1, cells := 2, slots := 12, locals := 20 } : Room)).room.slots := Nat.le_refl _
  generalize (headSpec (Cond.code yX2_init cX2_init 2 none :: sg_tbl) ({ frames := 1, cells := 2, slots := 12, locals := 20 } : Room)).room = R at hRf hRl hRc hRs ⊢
  refine lv_aload_n hx hb dX2_init_0 rfl (lv_at hl 0 rfl) ?_
  refine sg_cobj hc hml hl k_258 k_24 k_25 (Nat.le_trans (by decide) hRf) (Nat.le_trans (by decide) hRl) dX2_init_1 ?_
  refine lv_aload_n hx hb dX2_init_4 rfl (lv_at hl 0 rfl) ?_
  refine lv_bipush (v := 6) hx hb dX2_init_5 (by decide) ?_
  refine sg_cnewi (n := (a + 1)) hc hw (by omega) (by omega) k_96 (ft_2_1_a _ ha hT).2.1 (ft_2_1_a _ ha hT).2.2.2 (by decide) (by decide) (by decide) (Nat.le_trans (Nat.le_of_ble_eq_true rfl) hRc) (Nat.le_trans (Nat.le_of_ble_eq_true rfl) hRs) dX2_init_7 (fun H hw => ?_)
  have hw : sg_Wc D b cA (a + 2) s.heap h H _ := hw
  refine sg_cputF (q := (a + 1)) (ty := (.array .int)) hc hw (by omega) hT fr_2_1 tyX2_ok nmX2 rfl hin rfl (by decide +kernel) rfl rfl k_261 dX2_init_9 (fun H locs hw => ?_)
  refine lv_aload_n hx hb dX2_init_12 rfl (lv_at hl 0 rfl) ?_
  refine lv_bipush (v := 6) hx hb dX2_init_13 (by decide) ?_
  refine sg_cnewi (n := (a + 2)) hc hw (by omega) (by omega) k_96 (ft_2_2_a _ ha hT).2.1 (ft_2_2_a _ ha hT).2.2.2 (by decide) (by decide) (by decide) (Nat.le_trans (Nat.le_of_ble_eq_true rfl) hRc) (Nat.le_trans (Nat.le_of_ble_eq_true rfl) hRs) dX2_init_15 (fun H hw => ?_)
  have hw : sg_Wc D b cA (a + 3) s.heap (ur h a 1 ((a + 1) + 1)) H _ := hw
  refine sg_cputF (q := (a + 2)) (ty := (.array .int)) hc hw (by omega) hT fr_2_2 tyX2_ok nmX2 rfl hin rfl (by decide +kernel) rfl rfl k_263 dX2_init_17 (fun H locs hw => ?_)
  refine lv_aload_n hx hb dX2_init_20 rfl (lv_at hl 0 rfl) ?_
  refine lv_aload_n hx hb dX2_init_21 rfl (lv_at hl 1 rfl) ?_
  refine sg_cputF (q := q1) (ty := (.object "ShoulderHeirs$Funeral")) hc hw (by omega) hT fr_2_3 tyX2_ok nmX2 rfl hin rfl (by decide +kernel) rfl rfl k_264 dX2_init_22 (fun H locs hw => ?_)
  exact sg_cvret (n0 := 0) hc hov hw (by omega) (by omega) B.returns B.notSynchronized rfl dX2_init_25
