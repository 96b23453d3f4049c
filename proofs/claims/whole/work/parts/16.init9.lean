def I_9a (a : Nat) (h : HP) : HP := (ur (ur (ur (ur (ur (ur (ur (ur (ur (ur (ur (ur (ur (ur (ur (ur (ur (ur (ur (ur h a 0 ((a + 1) + 1)) a 1 ((a + 2) + 1)) a 2 ((a + 3) + 1)) a 3 ((a + 4) + 1)) a 4 ((a + 5) + 1)) a 6 ((a + 6) + 1)) a 8 ((a + 7) + 1)) a 10 ((a + 8) + 1)) a 13 ((a + 9) + 1)) a 14 ((a + 10) + 1)) a 15 ((a + 11) + 1)) a 18 ((a + 12) + 1)) a 19 ((a + 13) + 1)) a 20 ((a + 14) + 1)) a 21 ((a + 15) + 1)) a 22 ((a + 16) + 1)) a 24 ((a + 17) + 1)) a 25 ((a + 18) + 1)) a 26 ((a + 19) + 1)) a 27 ((a + 20) + 1))
def F_X9_init (a : Nat) (h : HP) : Option (HP) :=
  cl (F_X9_clean a h) (fun p166 =>
  cl (F_X9_stretch a 10 0 p166) (fun p173 =>
  cl (F_X9_stretch a 8 3 p173) (fun p180 =>
  cl (F_X9_stretch a 12 1 p180) (fun p187 =>
  cl (F_X9_comes a 60 0 p187) (fun p194 =>
  cl (F_X9_comes a 30 1 p194) (fun p201 =>
  cl (F_X9_comes a 90 2 p201) (fun p208 =>
  cl (F_X9_comes a 40 3 p208) (fun p215 =>
  cl (F_X9_comes a 40 3 p215) (fun p222 =>
  cl (F_X9_takesTurn a 0 0 9 p222) (fun p230 =>
  cl (F_X9_takesTurn a 1 4 12 p230) (fun p238 =>
  cl (F_X9_takesTurn a 2 10 20 p238) (fun p247 =>
  cl (F_X9_takesTurn a 3 18 29 p247) (fun p256 =>
  cl (F_X9_takesTurn a 4 18 29 p256) (fun p265 =>
  nm (st p265 (a + 2) 17 2) (fun h275 =>
  cl (F_X9_begins a h275) (fun p277 =>
  some p277))))))))))))))))
set_option maxHeartbeats 4000000 in
set_option maxRecDepth 100000 in
theorem i_9 {l : Launch} {D : va_G} {cA : Nat → ClassId} {b a : Nat} {h : HP} {Rz : HP} (ha : a < 154) (hT : sg_T a = 9) (hA : a = 133) (hTy : sg_Ty 154 (I_9a a h).2) (hf : F_X9_init a (I_9a a h) = some Rz) : Met l yX9_init (Cond.code yX9_init cX9_init 1 none :: sg_tbl) ({ frames := 1, cells := 20, slots := 952, locals := 24 } : Room) (va_Pc [.ref (b + a)] (sg_Wk D b cA (a + 1) h)) (va_Qv (fun u => u = Rz) (sg_Wd D b cA 154) (sg_A b)) 20 952 (sg_A b) := by
  refine Met.ofW (cc := cX9_init) (maxL := 1) (ret := none) (by decide) rfl ?_
  intro p e s m args below meth c s₁ B hml hv
  obtain ⟨rfl, hP, hK, hz, hZ, hN, hov⟩ := hv
  have hl := lv_entry [.ref (b + a)] (n := 1) (Nat.le_of_ble_eq_true rfl)
  rw [lg_entry_eq]
  have hin : meth.name = "<init>" := (name_of_methodNamed B.named B.method).1
  have hc : sg_Cx p s m _ c cX9_init RX9 D cA := ⟨B.exec, B.bytes, findClass_of_methodNamed B.named, fun w h => atoms_spec (ws := Cond.code yX9_init cX9_init 1 none :: sg_tbl) B.pre w (List.mem_cons_of_mem _ h), hK, hN⟩
  have hx := hc.1
  have hb := hc.2.1
  have hr := B.returns
  have hlocks := B.notSynchronized
  have hw : sg_Wc D b cA (a + 1) s.heap h s.heap [] := ⟨hP, va_S.rf, hZ⟩
  generalize (lg_sl ([.ref (b + a)]) ++ List.replicate (1 - (lg_sl ([.ref (b + a)])).length) Slot.unset).toArray = ls at hl ⊢
  have hl : lv_has ls 1 [(0, .ref (b + a))] := hl
  have hRf : 1 ≤ (headSpec (Cond.code yX9_init cX9_init 1 none :: sg_tbl) ({ frames := 1, cells := 20, slots := 952, locals := 24 } : Room)).room.frames := Nat.le_refl _
  have hRl : 24 ≤ (headSpec (Cond.code yX9_init cX9_init 1 none :: sg_tbl) ({ frames := 1, cells := 20, slots := 952, locals := 24 } : Room)).room.locals := Nat.le_refl _
  have hRc : 20 ≤ (headSpec (Cond.code yX9_init cX9_init 1 none :: sg_tbl) ({ frames := 1, cells := 20, slots := 952, locals := 24 } : Room)).room.cells := Nat.le_refl _
  have hRs : 952 ≤ (headSpec (Cond.code yX9_init cX9_init 1 none :: sg_tbl) ({ frames := 1, cells := 20, slots := 952, locals := 24 } : Room)).room.slots := Nat.le_refl _
  generalize (headSpec (Cond.code yX9_init cX9_init 1 none :: sg_tbl) ({ frames := 1, cells := 20, slots := 952, locals := 24 } : Room)).room = R at hRf hRl hRc hRs ⊢
  refine lv_aload_n hx hb dX9_init_0 rfl (lv_at hl 0 rfl) ?_
  refine sg_cobj hc hml hl k_852 k_24 k_25 (Nat.le_trans (by decide) hRf) (Nat.le_trans (by decide) hRl) dX9_init_1 ?_
  refine lv_aload_n hx hb dX9_init_4 rfl (lv_at hl 0 rfl) ?_
  refine lv_bipush (v := 34) hx hb dX9_init_5 (by decide) ?_
  refine sg_cnewi (n := (a + 1)) hc hw (by omega) (by omega) k_96 (ft_9_0_a _ ha hT).2.1 (ft_9_0_a _ ha hT).2.2.2 (by decide) (by decide) (by decide) (Nat.le_trans (Nat.le_of_ble_eq_true rfl) hRc) (Nat.le_trans (Nat.le_of_ble_eq_true rfl) hRs) dX9_init_7 (fun H hw => ?_)
  have hw : sg_Wc D b cA (a + 2) s.heap h H _ := hw
  refine sg_cputF (q := (a + 1)) (ty := (.array .int)) hc hw (by omega) hT fr_9_0 tyX9_ok nmX9 rfl hin rfl (by decide +kernel) rfl rfl k_873 dX9_init_9 (fun H locs hw => ?_)
  refine lv_aload_n hx hb dX9_init_12 rfl (lv_at hl 0 rfl) ?_
  refine lv_bipush (v := 34) hx hb dX9_init_13 (by decide) ?_
  refine sg_cnewi (n := (a + 2)) hc hw (by omega) (by omega) k_96 (ft_9_1_a _ ha hT).2.1 (ft_9_1_a _ ha hT).2.2.2 (by decide) (by decide) (by decide) (Nat.le_trans (Nat.le_of_ble_eq_true rfl) hRc) (Nat.le_trans (Nat.le_of_ble_eq_true rfl) hRs) dX9_init_15 (fun H hw => ?_)
  have hw : sg_Wc D b cA (a + 3) s.heap (ur h a 0 ((a + 1) + 1)) H _ := hw
  refine sg_cputF (q := (a + 2)) (ty := (.array .int)) hc hw (by omega) hT fr_9_1 tyX9_ok nmX9 rfl hin rfl (by decide +kernel) rfl rfl k_874 dX9_init_17 (fun H locs hw => ?_)
  refine lv_aload_n hx hb dX9_init_20 rfl (lv_at hl 0 rfl) ?_
  refine lv_bipush (v := 31) hx hb dX9_init_21 (by decide) ?_
  refine sg_cnewi (n := (a + 3)) hc hw (by omega) (by omega) k_96 (ft_9_2_a _ ha hT).2.1 (ft_9_2_a _ ha hT).2.2.2 (by decide) (by decide) (by decide) (Nat.le_trans (Nat.le_of_ble_eq_true rfl) hRc) (Nat.le_trans (Nat.le_of_ble_eq_true rfl) hRs) dX9_init_23 (fun H hw => ?_)
  have hw : sg_Wc D b cA (a + 4) s.heap (ur (ur h a 0 ((a + 1) + 1)) a 1 ((a + 2) + 1)) H _ := hw
  refine sg_cputF (q := (a + 3)) (ty := (.array .int)) hc hw (by omega) hT fr_9_2 tyX9_ok nmX9 rfl hin rfl (by decide +kernel) rfl rfl k_875 dX9_init_25 (fun H locs hw => ?_)
  refine lv_aload_n hx hb dX9_init_28 rfl (lv_at hl 0 rfl) ?_
  refine lv_bipush (v := 31) hx hb dX9_init_29 (by decide) ?_
  refine sg_cnewi (n := (a + 4)) hc hw (by omega) (by omega) k_96 (ft_9_3_a _ ha hT).2.1 (ft_9_3_a _ ha hT).2.2.2 (by decide) (by decide) (by decide) (Nat.le_trans (Nat.le_of_ble_eq_true rfl) hRc) (Nat.le_trans (Nat.le_of_ble_eq_true rfl) hRs) dX9_init_31 (fun H hw => ?_)
  have hw : sg_Wc D b cA (a + 5) s.heap (ur (ur (ur h a 0 ((a + 1) + 1)) a 1 ((a + 2) + 1)) a 2 ((a + 3) + 1)) H _ := hw
  refine sg_cputF (q := (a + 4)) (ty := (.array .int)) hc hw (by omega) hT fr_9_3 tyX9_ok nmX9 rfl hin rfl (by decide +kernel) rfl rfl k_876 dX9_init_33 (fun H locs hw => ?_)
  refine lv_aload_n hx hb dX9_init_36 rfl (lv_at hl 0 rfl) ?_
  refine lv_sipush (v := 248) hx hb dX9_init_37 (by decide) ?_
  refine sg_cnewi (n := (a + 5)) hc hw (by omega) (by omega) k_96 (ft_9_4_a _ ha hT).2.1 (ft_9_4_a _ ha hT).2.2.2 (by decide) (by decide) (by decide) (Nat.le_trans (Nat.le_of_ble_eq_true rfl) hRc) (Nat.le_trans (Nat.le_of_ble_eq_true rfl) hRs) dX9_init_40 (fun H hw => ?_)
  have hw : sg_Wc D b cA (a + 6) s.heap (ur (ur (ur (ur h a 0 ((a + 1) + 1)) a 1 ((a + 2) + 1)) a 2 ((a + 3) + 1)) a 3 ((a + 4) + 1)) H _ := hw
  refine sg_cputF (q := (a + 5)) (ty := (.array .int)) hc hw (by omega) hT fr_9_4 tyX9_ok nmX9 rfl hin rfl (by decide +kernel) rfl rfl k_877 dX9_init_42 (fun H locs hw => ?_)
  refine lv_aload_n hx hb dX9_init_45 rfl (lv_at hl 0 rfl) ?_
  refine lv_bipush (v := 62) hx hb dX9_init_46 (by decide) ?_
  refine sg_cnewi (n := (a + 6)) hc hw (by omega) (by omega) k_96 (ft_9_6_a _ ha hT).2.1 (ft_9_6_a _ ha hT).2.2.2 (by decide) (by decide) (by decide) (Nat.le_trans (Nat.le_of_ble_eq_true rfl) hRc) (Nat.le_trans (Nat.le_of_ble_eq_true rfl) hRs) dX9_init_48 (fun H hw => ?_)
  have hw : sg_Wc D b cA (a + 7) s.heap (ur (ur (ur (ur (ur h a 0 ((a + 1) + 1)) a 1 ((a + 2) + 1)) a 2 ((a + 3) + 1)) a 3 ((a + 4) + 1)) a 4 ((a + 5) + 1)) H _ := hw
  refine sg_cputF (q := (a + 6)) (ty := (.array .int)) hc hw (by omega) hT fr_9_6 tyX9_ok nmX9 rfl hin rfl (by decide +kernel) rfl rfl k_879 dX9_init_50 (fun H locs hw => ?_)
  refine lv_aload_n hx hb dX9_init_53 rfl (lv_at hl 0 rfl) ?_
  refine lv_sipush (v := 200) hx hb dX9_init_54 (by decide) ?_
  refine sg_cnewi (n := (a + 7)) hc hw (by omega) (by omega) k_96 (ft_9_8_a _ ha hT).2.1 (ft_9_8_a _ ha hT).2.2.2 (by decide) (by decide) (by decide) (Nat.le_trans (Nat.le_of_ble_eq_true rfl) hRc) (Nat.le_trans (Nat.le_of_ble_eq_true rfl) hRs) dX9_init_57 (fun H hw => ?_)
  have hw : sg_Wc D b cA (a + 8) s.heap (ur (ur (ur (ur (ur (ur h a 0 ((a + 1) + 1)) a 1 ((a + 2) + 1)) a 2 ((a + 3) + 1)) a 3 ((a + 4) + 1)) a 4 ((a + 5) + 1)) a 6 ((a + 6) + 1)) H _ := hw
  refine sg_cputF (q := (a + 7)) (ty := (.array .int)) hc hw (by omega) hT fr_9_8 tyX9_ok nmX9 rfl hin rfl (by decide +kernel) rfl rfl k_881 dX9_init_59 (fun H locs hw => ?_)
  refine lv_aload_n hx hb dX9_init_62 rfl (lv_at hl 0 rfl) ?_
  refine lv_bipush (v := 16) hx hb dX9_init_63 (by decide) ?_
  refine sg_cnewi (n := (a + 8)) hc hw (by omega) (by omega) k_96 (ft_9_10_a _ ha hT).2.1 (ft_9_10_a _ ha hT).2.2.2 (by decide) (by decide) (by decide) (Nat.le_trans (Nat.le_of_ble_eq_true rfl) hRc) (Nat.le_trans (Nat.le_of_ble_eq_true rfl) hRs) dX9_init_65 (fun H hw => ?_)
  have hw : sg_Wc D b cA (a + 9) s.heap (ur (ur (ur (ur (ur (ur (ur h a 0 ((a + 1) + 1)) a 1 ((a + 2) + 1)) a 2 ((a + 3) + 1)) a 3 ((a + 4) + 1)) a 4 ((a + 5) + 1)) a 6 ((a + 6) + 1)) a 8 ((a + 7) + 1)) H _ := hw
  refine sg_cputF (q := (a + 8)) (ty := (.array .int)) hc hw (by omega) hT fr_9_10 tyX9_ok nmX9 rfl hin rfl (by decide +kernel) rfl rfl k_883 dX9_init_67 (fun H locs hw => ?_)
  refine lv_aload_n hx hb dX9_init_70 rfl (lv_at hl 0 rfl) ?_
  refine lv_iconst (v := 3) hx hb dX9_init_71 (by decide) ?_
  refine sg_cnewi (n := (a + 9)) hc hw (by omega) (by omega) k_96 (ft_9_13_a _ ha hT).2.1 (ft_9_13_a _ ha hT).2.2.2 (by decide) (by decide) (by decide) (Nat.le_trans (Nat.le_of_ble_eq_true rfl) hRc) (Nat.le_trans (Nat.le_of_ble_eq_true rfl) hRs) dX9_init_72 (fun H hw => ?_)
  have hw : sg_Wc D b cA (a + 10) s.heap (ur (ur (ur (ur (ur (ur (ur (ur h a 0 ((a + 1) + 1)) a 1 ((a + 2) + 1)) a 2 ((a + 3) + 1)) a 3 ((a + 4) + 1)) a 4 ((a + 5) + 1)) a 6 ((a + 6) + 1)) a 8 ((a + 7) + 1)) a 10 ((a + 8) + 1)) H _ := hw
  refine sg_cputF (q := (a + 9)) (ty := (.array .int)) hc hw (by omega) hT fr_9_13 tyX9_ok nmX9 rfl hin rfl (by decide +kernel) rfl rfl k_886 dX9_init_74 (fun H locs hw => ?_)
  refine lv_aload_n hx hb dX9_init_77 rfl (lv_at hl 0 rfl) ?_
  refine lv_bipush (v := 34) hx hb dX9_init_78 (by decide) ?_
  refine sg_cnewi (n := (a + 10)) hc hw (by omega) (by omega) k_96 (ft_9_14_a _ ha hT).2.1 (ft_9_14_a _ ha hT).2.2.2 (by decide) (by decide) (by decide) (Nat.le_trans (Nat.le_of_ble_eq_true rfl) hRc) (Nat.le_trans (Nat.le_of_ble_eq_true rfl) hRs) dX9_init_80 (fun H hw => ?_)
  have hw : sg_Wc D b cA (a + 11) s.heap (ur (ur (ur (ur (ur (ur (ur (ur (ur h a 0 ((a + 1) + 1)) a 1 ((a + 2) + 1)) a 2 ((a + 3) + 1)) a 3 ((a + 4) + 1)) a 4 ((a + 5) + 1)) a 6 ((a + 6) + 1)) a 8 ((a + 7) + 1)) a 10 ((a + 8) + 1)) a 13 ((a + 9) + 1)) H _ := hw
  refine sg_cputF (q := (a + 10)) (ty := (.array .int)) hc hw (by omega) hT fr_9_14 tyX9_ok nmX9 rfl hin rfl (by decide +kernel) rfl rfl k_887 dX9_init_82 (fun H locs hw => ?_)
  refine lv_aload_n hx hb dX9_init_85 rfl (lv_at hl 0 rfl) ?_
  refine lv_bipush (v := 31) hx hb dX9_init_86 (by decide) ?_
  refine sg_cnewi (n := (a + 11)) hc hw (by omega) (by omega) k_96 (ft_9_15_a _ ha hT).2.1 (ft_9_15_a _ ha hT).2.2.2 (by decide) (by decide) (by decide) (Nat.le_trans (Nat.le_of_ble_eq_true rfl) hRc) (Nat.le_trans (Nat.le_of_ble_eq_true rfl) hRs) dX9_init_88 (fun H hw => ?_)
  have hw : sg_Wc D b cA (a + 12) s.heap (ur (ur (ur (ur (ur (ur (ur (ur (ur (ur h a 0 ((a + 1) + 1)) a 1 ((a + 2) + 1)) a 2 ((a + 3) + 1)) a 3 ((a + 4) + 1)) a 4 ((a + 5) + 1)) a 6 ((a + 6) + 1)) a 8 ((a + 7) + 1)) a 10 ((a + 8) + 1)) a 13 ((a + 9) + 1)) a 14 ((a + 10) + 1)) H _ := hw
  refine sg_cputF (q := (a + 11)) (ty := (.array .int)) hc hw (by omega) hT fr_9_15 tyX9_ok nmX9 rfl hin rfl (by decide +kernel) rfl rfl k_888 dX9_init_90 (fun H locs hw => ?_)
  refine lv_aload_n hx hb dX9_init_93 rfl (lv_at hl 0 rfl) ?_
  refine lv_bipush (v := 6) hx hb dX9_init_94 (by decide) ?_
  refine sg_cnewi (n := (a + 12)) hc hw (by omega) (by omega) k_96 (ft_9_18_a _ ha hT).2.1 (ft_9_18_a _ ha hT).2.2.2 (by decide) (by decide) (by decide) (Nat.le_trans (Nat.le_of_ble_eq_true rfl) hRc) (Nat.le_trans (Nat.le_of_ble_eq_true rfl) hRs) dX9_init_96 (fun H hw => ?_)
  have hw : sg_Wc D b cA (a + 13) s.heap (ur (ur (ur (ur (ur (ur (ur (ur (ur (ur (ur h a 0 ((a + 1) + 1)) a 1 ((a + 2) + 1)) a 2 ((a + 3) + 1)) a 3 ((a + 4) + 1)) a 4 ((a + 5) + 1)) a 6 ((a + 6) + 1)) a 8 ((a + 7) + 1)) a 10 ((a + 8) + 1)) a 13 ((a + 9) + 1)) a 14 ((a + 10) + 1)) a 15 ((a + 11) + 1)) H _ := hw
  refine sg_cputF (q := (a + 12)) (ty := (.array .int)) hc hw (by omega) hT fr_9_18 tyX9_ok nmX9 rfl hin rfl (by decide +kernel) rfl rfl k_891 dX9_init_98 (fun H locs hw => ?_)
  refine lv_aload_n hx hb dX9_init_101 rfl (lv_at hl 0 rfl) ?_
  refine lv_bipush (v := 6) hx hb dX9_init_102 (by decide) ?_
  refine sg_cnewi (n := (a + 13)) hc hw (by omega) (by omega) k_96 (ft_9_19_a _ ha hT).2.1 (ft_9_19_a _ ha hT).2.2.2 (by decide) (by decide) (by decide) (Nat.le_trans (Nat.le_of_ble_eq_true rfl) hRc) (Nat.le_trans (Nat.le_of_ble_eq_true rfl) hRs) dX9_init_104 (fun H hw => ?_)
  have hw : sg_Wc D b cA (a + 14) s.heap (ur (ur (ur (ur (ur (ur (ur (ur (ur (ur (ur (ur h a 0 ((a + 1) + 1)) a 1 ((a + 2) + 1)) a 2 ((a + 3) + 1)) a 3 ((a + 4) + 1)) a 4 ((a + 5) + 1)) a 6 ((a + 6) + 1)) a 8 ((a + 7) + 1)) a 10 ((a + 8) + 1)) a 13 ((a + 9) + 1)) a 14 ((a + 10) + 1)) a 15 ((a + 11) + 1)) a 18 ((a + 12) + 1)) H _ := hw
  refine sg_cputF (q := (a + 13)) (ty := (.array .int)) hc hw (by omega) hT fr_9_19 tyX9_ok nmX9 rfl hin rfl (by decide +kernel) rfl rfl k_892 dX9_init_106 (fun H locs hw => ?_)
  refine lv_aload_n hx hb dX9_init_109 rfl (lv_at hl 0 rfl) ?_
  refine lv_bipush (v := 6) hx hb dX9_init_110 (by decide) ?_
  refine sg_cnewi (n := (a + 14)) hc hw (by omega) (by omega) k_96 (ft_9_20_a _ ha hT).2.1 (ft_9_20_a _ ha hT).2.2.2 (by decide) (by decide) (by decide) (Nat.le_trans (Nat.le_of_ble_eq_true rfl) hRc) (Nat.le_trans (Nat.le_of_ble_eq_true rfl) hRs) dX9_init_112 (fun H hw => ?_)
  have hw : sg_Wc D b cA (a + 15) s.heap (ur (ur (ur (ur (ur (ur (ur (ur (ur (ur (ur (ur (ur h a 0 ((a + 1) + 1)) a 1 ((a + 2) + 1)) a 2 ((a + 3) + 1)) a 3 ((a + 4) + 1)) a 4 ((a + 5) + 1)) a 6 ((a + 6) + 1)) a 8 ((a + 7) + 1)) a 10 ((a + 8) + 1)) a 13 ((a + 9) + 1)) a 14 ((a + 10) + 1)) a 15 ((a + 11) + 1)) a 18 ((a + 12) + 1)) a 19 ((a + 13) + 1)) H _ := hw
  refine sg_cputF (q := (a + 14)) (ty := (.array .int)) hc hw (by omega) hT fr_9_20 tyX9_ok nmX9 rfl hin rfl (by decide +kernel) rfl rfl k_893 dX9_init_114 (fun H locs hw => ?_)
  refine lv_aload_n hx hb dX9_init_117 rfl (lv_at hl 0 rfl) ?_
  refine lv_bipush (v := 6) hx hb dX9_init_118 (by decide) ?_
  refine sg_cnewi (n := (a + 15)) hc hw (by omega) (by omega) k_96 (ft_9_21_a _ ha hT).2.1 (ft_9_21_a _ ha hT).2.2.2 (by decide) (by decide) (by decide) (Nat.le_trans (Nat.le_of_ble_eq_true rfl) hRc) (Nat.le_trans (Nat.le_of_ble_eq_true rfl) hRs) dX9_init_120 (fun H hw => ?_)
  have hw : sg_Wc D b cA (a + 16) s.heap (ur (ur (ur (ur (ur (ur (ur (ur (ur (ur (ur (ur (ur (ur h a 0 ((a + 1) + 1)) a 1 ((a + 2) + 1)) a 2 ((a + 3) + 1)) a 3 ((a + 4) + 1)) a 4 ((a + 5) + 1)) a 6 ((a + 6) + 1)) a 8 ((a + 7) + 1)) a 10 ((a + 8) + 1)) a 13 ((a + 9) + 1)) a 14 ((a + 10) + 1)) a 15 ((a + 11) + 1)) a 18 ((a + 12) + 1)) a 19 ((a + 13) + 1)) a 20 ((a + 14) + 1)) H _ := hw
  refine sg_cputF (q := (a + 15)) (ty := (.array .int)) hc hw (by omega) hT fr_9_21 tyX9_ok nmX9 rfl hin rfl (by decide +kernel) rfl rfl k_894 dX9_init_122 (fun H locs hw => ?_)
  refine lv_aload_n hx hb dX9_init_125 rfl (lv_at hl 0 rfl) ?_
  refine lv_bipush (v := 120) hx hb dX9_init_126 (by decide) ?_
  refine sg_cnewi (n := (a + 16)) hc hw (by omega) (by omega) k_96 (ft_9_22_a _ ha hT).2.1 (ft_9_22_a _ ha hT).2.2.2 (by decide) (by decide) (by decide) (Nat.le_trans (Nat.le_of_ble_eq_true rfl) hRc) (Nat.le_trans (Nat.le_of_ble_eq_true rfl) hRs) dX9_init_128 (fun H hw => ?_)
  have hw : sg_Wc D b cA (a + 17) s.heap (ur (ur (ur (ur (ur (ur (ur (ur (ur (ur (ur (ur (ur (ur (ur h a 0 ((a + 1) + 1)) a 1 ((a + 2) + 1)) a 2 ((a + 3) + 1)) a 3 ((a + 4) + 1)) a 4 ((a + 5) + 1)) a 6 ((a + 6) + 1)) a 8 ((a + 7) + 1)) a 10 ((a + 8) + 1)) a 13 ((a + 9) + 1)) a 14 ((a + 10) + 1)) a 15 ((a + 11) + 1)) a 18 ((a + 12) + 1)) a 19 ((a + 13) + 1)) a 20 ((a + 14) + 1)) a 21 ((a + 15) + 1)) H _ := hw
  refine sg_cputF (q := (a + 16)) (ty := (.array .int)) hc hw (by omega) hT fr_9_22 tyX9_ok nmX9 rfl hin rfl (by decide +kernel) rfl rfl k_895 dX9_init_130 (fun H locs hw => ?_)
  refine lv_aload_n hx hb dX9_init_133 rfl (lv_at hl 0 rfl) ?_
  refine lv_bipush (v := 6) hx hb dX9_init_134 (by decide) ?_
  refine sg_cnewi (n := (a + 17)) hc hw (by omega) (by omega) k_96 (ft_9_24_a _ ha hT).2.1 (ft_9_24_a _ ha hT).2.2.2 (by decide) (by decide) (by decide) (Nat.le_trans (Nat.le_of_ble_eq_true rfl) hRc) (Nat.le_trans (Nat.le_of_ble_eq_true rfl) hRs) dX9_init_136 (fun H hw => ?_)
  have hw : sg_Wc D b cA (a + 18) s.heap (ur (ur (ur (ur (ur (ur (ur (ur (ur (ur (ur (ur (ur (ur (ur (ur h a 0 ((a + 1) + 1)) a 1 ((a + 2) + 1)) a 2 ((a + 3) + 1)) a 3 ((a + 4) + 1)) a 4 ((a + 5) + 1)) a 6 ((a + 6) + 1)) a 8 ((a + 7) + 1)) a 10 ((a + 8) + 1)) a 13 ((a + 9) + 1)) a 14 ((a + 10) + 1)) a 15 ((a + 11) + 1)) a 18 ((a + 12) + 1)) a 19 ((a + 13) + 1)) a 20 ((a + 14) + 1)) a 21 ((a + 15) + 1)) a 22 ((a + 16) + 1)) H _ := hw
  refine sg_cputF (q := (a + 17)) (ty := (.array .int)) hc hw (by omega) hT fr_9_24 tyX9_ok nmX9 rfl hin rfl (by decide +kernel) rfl rfl k_897 dX9_init_138 (fun H locs hw => ?_)
  refine lv_aload_n hx hb dX9_init_141 rfl (lv_at hl 0 rfl) ?_
  refine lv_bipush (v := 6) hx hb dX9_init_142 (by decide) ?_
  refine sg_cnewi (n := (a + 18)) hc hw (by omega) (by omega) k_96 (ft_9_25_a _ ha hT).2.1 (ft_9_25_a _ ha hT).2.2.2 (by decide) (by decide) (by decide) (Nat.le_trans (Nat.le_of_ble_eq_true rfl) hRc) (Nat.le_trans (Nat.le_of_ble_eq_true rfl) hRs) dX9_init_144 (fun H hw => ?_)
  have hw : sg_Wc D b cA (a + 19) s.heap (ur (ur (ur (ur (ur (ur (ur (ur (ur (ur (ur (ur (ur (ur (ur (ur (ur h a 0 ((a + 1) + 1)) a 1 ((a + 2) + 1)) a 2 ((a + 3) + 1)) a 3 ((a + 4) + 1)) a 4 ((a + 5) + 1)) a 6 ((a + 6) + 1)) a 8 ((a + 7) + 1)) a 10 ((a + 8) + 1)) a 13 ((a + 9) + 1)) a 14 ((a + 10) + 1)) a 15 ((a + 11) + 1)) a 18 ((a + 12) + 1)) a 19 ((a + 13) + 1)) a 20 ((a + 14) + 1)) a 21 ((a + 15) + 1)) a 22 ((a + 16) + 1)) a 24 ((a + 17) + 1)) H _ := hw
  refine sg_cputF (q := (a + 18)) (ty := (.array .int)) hc hw (by omega) hT fr_9_25 tyX9_ok nmX9 rfl hin rfl (by decide +kernel) rfl rfl k_898 dX9_init_146 (fun H locs hw => ?_)
  refine lv_aload_n hx hb dX9_init_149 rfl (lv_at hl 0 rfl) ?_
  refine lv_bipush (v := 36) hx hb dX9_init_150 (by decide) ?_
  refine sg_cnewi (n := (a + 19)) hc hw (by omega) (by omega) k_96 (ft_9_26_a _ ha hT).2.1 (ft_9_26_a _ ha hT).2.2.2 (by decide) (by decide) (by decide) (Nat.le_trans (Nat.le_of_ble_eq_true rfl) hRc) (Nat.le_trans (Nat.le_of_ble_eq_true rfl) hRs) dX9_init_152 (fun H hw => ?_)
  have hw : sg_Wc D b cA (a + 20) s.heap (ur (ur (ur (ur (ur (ur (ur (ur (ur (ur (ur (ur (ur (ur (ur (ur (ur (ur h a 0 ((a + 1) + 1)) a 1 ((a + 2) + 1)) a 2 ((a + 3) + 1)) a 3 ((a + 4) + 1)) a 4 ((a + 5) + 1)) a 6 ((a + 6) + 1)) a 8 ((a + 7) + 1)) a 10 ((a + 8) + 1)) a 13 ((a + 9) + 1)) a 14 ((a + 10) + 1)) a 15 ((a + 11) + 1)) a 18 ((a + 12) + 1)) a 19 ((a + 13) + 1)) a 20 ((a + 14) + 1)) a 21 ((a + 15) + 1)) a 22 ((a + 16) + 1)) a 24 ((a + 17) + 1)) a 25 ((a + 18) + 1)) H _ := hw
  refine sg_cputF (q := (a + 19)) (ty := (.array .int)) hc hw (by omega) hT fr_9_26 tyX9_ok nmX9 rfl hin rfl (by decide +kernel) rfl rfl k_899 dX9_init_154 (fun H locs hw => ?_)
  refine lv_aload_n hx hb dX9_init_157 rfl (lv_at hl 0 rfl) ?_
  refine lv_bipush (v := 36) hx hb dX9_init_158 (by decide) ?_
  refine sg_cnewi (n := (a + 20)) hc hw (by omega) (by omega) k_96 (ft_9_27_a _ ha hT).2.1 (ft_9_27_a _ ha hT).2.2.2 (by decide) (by decide) (by decide) (Nat.le_trans (Nat.le_of_ble_eq_true rfl) hRc) (Nat.le_trans (Nat.le_of_ble_eq_true rfl) hRs) dX9_init_160 (fun H hw => ?_)
  have hw : sg_Wc D b cA (a + 21) s.heap (ur (ur (ur (ur (ur (ur (ur (ur (ur (ur (ur (ur (ur (ur (ur (ur (ur (ur (ur h a 0 ((a + 1) + 1)) a 1 ((a + 2) + 1)) a 2 ((a + 3) + 1)) a 3 ((a + 4) + 1)) a 4 ((a + 5) + 1)) a 6 ((a + 6) + 1)) a 8 ((a + 7) + 1)) a 10 ((a + 8) + 1)) a 13 ((a + 9) + 1)) a 14 ((a + 10) + 1)) a 15 ((a + 11) + 1)) a 18 ((a + 12) + 1)) a 19 ((a + 13) + 1)) a 20 ((a + 14) + 1)) a 21 ((a + 15) + 1)) a 22 ((a + 16) + 1)) a 24 ((a + 17) + 1)) a 25 ((a + 18) + 1)) a 26 ((a + 19) + 1)) H _ := hw
  refine sg_cputF (q := (a + 20)) (ty := (.array .int)) hc hw (by omega) hT fr_9_27 tyX9_ok nmX9 rfl hin rfl (by decide +kernel) rfl rfl k_900 dX9_init_162 (fun H locs hw => ?_)
  have hn : sg_okN 154 := Or.inr rfl
  have hz : s.heap.size + 20 = b + 154 := by omega
  have hn0 : 0 < 154 := by decide
  have ha_a : a < 154 := ha
  have hT_a : sg_T a = 9 := hT
  have hw : sg_Wo D b cA 154 s.heap (I_9a a h) _ _ := sg_Wc.to (n := 154) (by have e9 : a + 21 = 154 := by omega
                                                                              rw [← e9]; exact hw) hTy
  generalize I_9a a h = h at hw hf
  unfold F_X9_init at hf
  refine lv_aload_n hx hb dX9_init_165 rfl (lv_at hl 0 rfl) ?_
  obtain ⟨p166, hp166, hf⟩ := cl_of hf
  refine sg_vv (rest := []) (c_X9_clean hn ha_a hT_a hp166) hc hw hz hml hl ha_a hT_a (by decide) rfl cv_X9_70 ⟨⟨rfl, rfl⟩, Nat.le_trans (Nat.le_of_ble_eq_true rfl) hRf, Nat.le_trans (Nat.le_of_ble_eq_true rfl) hRl⟩ ⟨hRc, hRs⟩ rfl rfl (Nat.le_of_ble_eq_true rfl) dX9_init_166 (fun h1 H locs hp hw => ?_)
  subst h1
  refine lv_aload_n hx hb dX9_init_169 rfl (lv_at hl 0 rfl) ?_
  refine lv_bipush (v := 10) hx hb dX9_init_170 (by decide) ?_
  refine lv_iconst (v := 0) hx hb dX9_init_172 (by decide) ?_
  obtain ⟨p173, hp173, hf⟩ := cl_of hf
  refine sg_vv (rest := []) (c_X9_stretch hn ha_a hT_a hp173) hc hw hz hml hl ha_a hT_a (by decide) rfl cv_X9_73 ⟨⟨rfl, rfl⟩, Nat.le_trans (Nat.le_of_ble_eq_true rfl) hRf, Nat.le_trans (Nat.le_of_ble_eq_true rfl) hRl⟩ ⟨hRc, hRs⟩ rfl rfl (Nat.le_of_ble_eq_true rfl) dX9_init_173 (fun h1 H locs hp hw => ?_)
  subst h1
  refine lv_aload_n hx hb dX9_init_176 rfl (lv_at hl 0 rfl) ?_
  refine lv_bipush (v := 8) hx hb dX9_init_177 (by decide) ?_
  refine lv_iconst (v := 3) hx hb dX9_init_179 (by decide) ?_
  obtain ⟨p180, hp180, hf⟩ := cl_of hf
  refine sg_vv (rest := []) (c_X9_stretch hn ha_a hT_a hp180) hc hw hz hml hl ha_a hT_a (by decide) rfl cv_X9_73 ⟨⟨rfl, rfl⟩, Nat.le_trans (Nat.le_of_ble_eq_true rfl) hRf, Nat.le_trans (Nat.le_of_ble_eq_true rfl) hRl⟩ ⟨hRc, hRs⟩ rfl rfl (Nat.le_of_ble_eq_true rfl) dX9_init_180 (fun h1 H locs hp hw => ?_)
  subst h1
  refine lv_aload_n hx hb dX9_init_183 rfl (lv_at hl 0 rfl) ?_
  refine lv_bipush (v := 12) hx hb dX9_init_184 (by decide) ?_
  refine lv_iconst (v := 1) hx hb dX9_init_186 (by decide) ?_
  obtain ⟨p187, hp187, hf⟩ := cl_of hf
  refine sg_vv (rest := []) (c_X9_stretch hn ha_a hT_a hp187) hc hw hz hml hl ha_a hT_a (by decide) rfl cv_X9_73 ⟨⟨rfl, rfl⟩, Nat.le_trans (Nat.le_of_ble_eq_true rfl) hRf, Nat.le_trans (Nat.le_of_ble_eq_true rfl) hRl⟩ ⟨hRc, hRs⟩ rfl rfl (Nat.le_of_ble_eq_true rfl) dX9_init_187 (fun h1 H locs hp hw => ?_)
  subst h1
  refine lv_aload_n hx hb dX9_init_190 rfl (lv_at hl 0 rfl) ?_
  refine lv_bipush (v := 60) hx hb dX9_init_191 (by decide) ?_
  refine lv_iconst (v := 0) hx hb dX9_init_193 (by decide) ?_
  obtain ⟨p194, hp194, hf⟩ := cl_of hf
  refine sg_vv (rest := []) (c_X9_comes hn ha_a hT_a hp194) hc hw hz hml hl ha_a hT_a (by decide) rfl cv_X9_77 ⟨⟨rfl, rfl⟩, Nat.le_trans (Nat.le_of_ble_eq_true rfl) hRf, Nat.le_trans (Nat.le_of_ble_eq_true rfl) hRl⟩ ⟨hRc, hRs⟩ rfl rfl (Nat.le_of_ble_eq_true rfl) dX9_init_194 (fun h1 H locs hp hw => ?_)
  subst h1
  refine lv_aload_n hx hb dX9_init_197 rfl (lv_at hl 0 rfl) ?_
  refine lv_bipush (v := 30) hx hb dX9_init_198 (by decide) ?_
  refine lv_iconst (v := 1) hx hb dX9_init_200 (by decide) ?_
  obtain ⟨p201, hp201, hf⟩ := cl_of hf
  refine sg_vv (rest := []) (c_X9_comes hn ha_a hT_a hp201) hc hw hz hml hl ha_a hT_a (by decide) rfl cv_X9_77 ⟨⟨rfl, rfl⟩, Nat.le_trans (Nat.le_of_ble_eq_true rfl) hRf, Nat.le_trans (Nat.le_of_ble_eq_true rfl) hRl⟩ ⟨hRc, hRs⟩ rfl rfl (Nat.le_of_ble_eq_true rfl) dX9_init_201 (fun h1 H locs hp hw => ?_)
  subst h1
  refine lv_aload_n hx hb dX9_init_204 rfl (lv_at hl 0 rfl) ?_
  refine lv_bipush (v := 90) hx hb dX9_init_205 (by decide) ?_
  refine lv_iconst (v := 2) hx hb dX9_init_207 (by decide) ?_
  obtain ⟨p208, hp208, hf⟩ := cl_of hf
  refine sg_vv (rest := []) (c_X9_comes hn ha_a hT_a hp208) hc hw hz hml hl ha_a hT_a (by decide) rfl cv_X9_77 ⟨⟨rfl, rfl⟩, Nat.le_trans (Nat.le_of_ble_eq_true rfl) hRf, Nat.le_trans (Nat.le_of_ble_eq_true rfl) hRl⟩ ⟨hRc, hRs⟩ rfl rfl (Nat.le_of_ble_eq_true rfl) dX9_init_208 (fun h1 H locs hp hw => ?_)
  subst h1
  refine lv_aload_n hx hb dX9_init_211 rfl (lv_at hl 0 rfl) ?_
  refine lv_bipush (v := 40) hx hb dX9_init_212 (by decide) ?_
  refine lv_iconst (v := 3) hx hb dX9_init_214 (by decide) ?_
  obtain ⟨p215, hp215, hf⟩ := cl_of hf
  refine sg_vv (rest := []) (c_X9_comes hn ha_a hT_a hp215) hc hw hz hml hl ha_a hT_a (by decide) rfl cv_X9_77 ⟨⟨rfl, rfl⟩, Nat.le_trans (Nat.le_of_ble_eq_true rfl) hRf, Nat.le_trans (Nat.le_of_ble_eq_true rfl) hRl⟩ ⟨hRc, hRs⟩ rfl rfl (Nat.le_of_ble_eq_true rfl) dX9_init_215 (fun h1 H locs hp hw => ?_)
  subst h1
  refine lv_aload_n hx hb dX9_init_218 rfl (lv_at hl 0 rfl) ?_
  refine lv_bipush (v := 40) hx hb dX9_init_219 (by decide) ?_
  refine lv_iconst (v := 3) hx hb dX9_init_221 (by decide) ?_
  obtain ⟨p222, hp222, hf⟩ := cl_of hf
  refine sg_vv (rest := []) (c_X9_comes hn ha_a hT_a hp222) hc hw hz hml hl ha_a hT_a (by decide) rfl cv_X9_77 ⟨⟨rfl, rfl⟩, Nat.le_trans (Nat.le_of_ble_eq_true rfl) hRf, Nat.le_trans (Nat.le_of_ble_eq_true rfl) hRl⟩ ⟨hRc, hRs⟩ rfl rfl (Nat.le_of_ble_eq_true rfl) dX9_init_222 (fun h1 H locs hp hw => ?_)
  subst h1
  refine lv_aload_n hx hb dX9_init_225 rfl (lv_at hl 0 rfl) ?_
  refine lv_iconst (v := 0) hx hb dX9_init_226 (by decide) ?_
  refine lv_iconst (v := 0) hx hb dX9_init_227 (by decide) ?_
  refine lv_bipush (v := 9) hx hb dX9_init_228 (by decide) ?_
  obtain ⟨p230, hp230, hf⟩ := cl_of hf
  refine sg_vv (rest := []) (c_X9_takesTurn hn ha_a hT_a hp230) hc hw hz hml hl ha_a hT_a (by decide) rfl cv_X9_80 ⟨⟨rfl, rfl⟩, Nat.le_trans (Nat.le_of_ble_eq_true rfl) hRf, Nat.le_trans (Nat.le_of_ble_eq_true rfl) hRl⟩ ⟨hRc, hRs⟩ rfl rfl (Nat.le_of_ble_eq_true rfl) dX9_init_230 (fun h1 H locs hp hw => ?_)
  subst h1
  refine lv_aload_n hx hb dX9_init_233 rfl (lv_at hl 0 rfl) ?_
  refine lv_iconst (v := 1) hx hb dX9_init_234 (by decide) ?_
  refine lv_iconst (v := 4) hx hb dX9_init_235 (by decide) ?_
  refine lv_bipush (v := 12) hx hb dX9_init_236 (by decide) ?_
  obtain ⟨p238, hp238, hf⟩ := cl_of hf
  refine sg_vv (rest := []) (c_X9_takesTurn hn ha_a hT_a hp238) hc hw hz hml hl ha_a hT_a (by decide) rfl cv_X9_80 ⟨⟨rfl, rfl⟩, Nat.le_trans (Nat.le_of_ble_eq_true rfl) hRf, Nat.le_trans (Nat.le_of_ble_eq_true rfl) hRl⟩ ⟨hRc, hRs⟩ rfl rfl (Nat.le_of_ble_eq_true rfl) dX9_init_238 (fun h1 H locs hp hw => ?_)
  subst h1
  refine lv_aload_n hx hb dX9_init_241 rfl (lv_at hl 0 rfl) ?_
  refine lv_iconst (v := 2) hx hb dX9_init_242 (by decide) ?_
  refine lv_bipush (v := 10) hx hb dX9_init_243 (by decide) ?_
  refine lv_bipush (v := 20) hx hb dX9_init_245 (by decide) ?_
  obtain ⟨p247, hp247, hf⟩ := cl_of hf
  refine sg_vv (rest := []) (c_X9_takesTurn hn ha_a hT_a hp247) hc hw hz hml hl ha_a hT_a (by decide) rfl cv_X9_80 ⟨⟨rfl, rfl⟩, Nat.le_trans (Nat.le_of_ble_eq_true rfl) hRf, Nat.le_trans (Nat.le_of_ble_eq_true rfl) hRl⟩ ⟨hRc, hRs⟩ rfl rfl (Nat.le_of_ble_eq_true rfl) dX9_init_247 (fun h1 H locs hp hw => ?_)
  subst h1
  refine lv_aload_n hx hb dX9_init_250 rfl (lv_at hl 0 rfl) ?_
  refine lv_iconst (v := 3) hx hb dX9_init_251 (by decide) ?_
  refine lv_bipush (v := 18) hx hb dX9_init_252 (by decide) ?_
  refine lv_bipush (v := 29) hx hb dX9_init_254 (by decide) ?_
  obtain ⟨p256, hp256, hf⟩ := cl_of hf
  refine sg_vv (rest := []) (c_X9_takesTurn hn ha_a hT_a hp256) hc hw hz hml hl ha_a hT_a (by decide) rfl cv_X9_80 ⟨⟨rfl, rfl⟩, Nat.le_trans (Nat.le_of_ble_eq_true rfl) hRf, Nat.le_trans (Nat.le_of_ble_eq_true rfl) hRl⟩ ⟨hRc, hRs⟩ rfl rfl (Nat.le_of_ble_eq_true rfl) dX9_init_256 (fun h1 H locs hp hw => ?_)
  subst h1
  refine lv_aload_n hx hb dX9_init_259 rfl (lv_at hl 0 rfl) ?_
  refine lv_iconst (v := 4) hx hb dX9_init_260 (by decide) ?_
  refine lv_bipush (v := 18) hx hb dX9_init_261 (by decide) ?_
  refine lv_bipush (v := 29) hx hb dX9_init_263 (by decide) ?_
  obtain ⟨p265, hp265, hf⟩ := cl_of hf
  refine sg_vv (rest := []) (c_X9_takesTurn hn ha_a hT_a hp265) hc hw hz hml hl ha_a hT_a (by decide) rfl cv_X9_80 ⟨⟨rfl, rfl⟩, Nat.le_trans (Nat.le_of_ble_eq_true rfl) hRf, Nat.le_trans (Nat.le_of_ble_eq_true rfl) hRl⟩ ⟨hRc, hRs⟩ rfl rfl (Nat.le_of_ble_eq_true rfl) dX9_init_265 (fun h1 H locs hp hw => ?_)
  subst h1
  refine lv_aload_n hx hb dX9_init_268 rfl (lv_at hl 0 rfl) ?_
  obtain ⟨hF269, hT269, ha269, hN269⟩ := ft_9_1 hn ha_a hT_a
  refine sg_getf (q := (a + 2)) hc hw ha_a hT_a fr_9_1 (by decide) k_874 dX9_init_269 hF269 ?_
  refine lv_bipush (v := 17) hx hb dX9_init_272 (by decide) ?_
  refine lv_iconst (v := 2) hx hb dX9_init_274 (by decide) ?_
  refine sg_ist hc hw ha269 hT269 hN269 (show vp_in 17 34 by unfold vp_in; decide) dX9_init_275 (fun H locs hw => ?_)
  obtain ⟨h275, hw, hf⟩ := sg_name hw hf
  refine lv_aload_n hx hb dX9_init_276 rfl (lv_at hl 0 rfl) ?_
  obtain ⟨p277, hp277, hf⟩ := cl_of hf
  refine sg_vv (rest := []) (c_X9_begins hn ha_a hT_a hp277) hc hw hz hml hl ha_a hT_a (by decide) rfl cv_X9_84 ⟨⟨rfl, rfl⟩, Nat.le_trans (Nat.le_of_ble_eq_true rfl) hRf, Nat.le_trans (Nat.le_of_ble_eq_true rfl) hRl⟩ ⟨hRc, hRs⟩ rfl rfl (Nat.le_of_ble_eq_true rfl) dX9_init_277 (fun h1 H locs hp hw => ?_)
  subst h1
  cases hf
  refine sg_size (fun hup => ?_)
  have hsz : _ = b + 154 := Nat.le_antisymm (by omega) (sg_lo hw (by decide))
  exact W.vret hx hb hr (fun t ht hW => ⟨⟨_, rfl, rfl, by rw [ht]; exact hw.1, va_K.moved hW.alike hK, by rw [ht]; exact hsz, hw.2.1, hN.warm hW⟩, hw.2.2.F ht⟩) hw.2.2.2.2 dX9_init_280 hlocks
