theorem cv_L_13 : sg_Cv RL 13 RX8 yX8_write cX8_write 2 (some .int) 1 := ⟨k_573, k_574, k_575, k_1, k_576, rfl, ⟨by decide, by decide, by decide +kernel⟩⟩
theorem cv_L_17 : sg_Cv RL 17 RX9 yX9_write cX9_write 2 (some .int) 1 := ⟨k_958, k_959, k_960, k_17, k_961, rfl, ⟨by decide, by decide, by decide +kernel⟩⟩
theorem cv_L_18 : sg_Cv RL 18 RX8 yX8_wipe cX8_wipe 2 (some .int) 0 := ⟨k_578, k_579, k_580, k_1, k_581, rfl, ⟨by decide, by decide, by decide +kernel⟩⟩
theorem cv_L_22 : sg_Cv RL 22 RX9 yX9_wipe cX9_wipe 2 (some .int) 0 := ⟨k_967, k_968, k_969, k_17, k_970, rfl, ⟨by decide, by decide, by decide +kernel⟩⟩
theorem cv_L_23 : sg_Cv RL 23 RX8 yX8_fault cX8_fault 1 (some .int) 0 := ⟨k_582, k_583, k_584, k_1, k_585, rfl, ⟨by decide, by decide, by decide +kernel⟩⟩
theorem cv_L_26 : sg_Cv RL 26 RX9 yX9_fault cX9_fault 2 (some .int) 0 := ⟨k_971, k_972, k_973, k_17, k_974, rfl, ⟨by decide, by decide, by decide +kernel⟩⟩
theorem cv_L_27 : sg_Cv RL 27 RX8 yX8_lay cX8_lay 1 (some .int) 0 := ⟨k_586, k_587, k_588, k_1, k_589, rfl, ⟨by decide, by decide, by decide +kernel⟩⟩
theorem cv_L_30 : sg_Cv RL 30 RX9 yX9_lay cX9_lay 1 (some .int) 0 := ⟨k_1013, k_1014, k_1015, k_17, k_1016, rfl, ⟨by decide, by decide, by decide +kernel⟩⟩
theorem cv_L_31 : sg_Cv RL 31 RX8 yX8_yard cX8_yard 3 (some .int) 2 := ⟨k_590, k_591, k_592, k_1, k_593, rfl, ⟨by decide, by decide, by decide +kernel⟩⟩
theorem cv_L_35 : sg_Cv RL 35 RX9 yX9_yard cX9_yard 4 (some .int) 2 := ⟨k_1018, k_1019, k_1020, k_17, k_1021, rfl, ⟨by decide, by decide, by decide +kernel⟩⟩
theorem cv_L_36 : sg_Cv RL 36 RX8 yX8_bearer cX8_bearer 3 (some .int) 2 := ⟨k_600, k_601, k_602, k_1, k_603, rfl, ⟨by decide, by decide, by decide +kernel⟩⟩
theorem cv_L_39 : sg_Cv RL 39 RX9 yX9_bearer cX9_bearer 3 (some .int) 2 := ⟨k_1078, k_1079, k_1080, k_17, k_1081, rfl, ⟨by decide, by decide, by decide +kernel⟩⟩
theorem cv_L_40 : sg_Cv RL 40 RX8 yX8_stands cX8_stands 1 (some .int) 0 := ⟨k_613, k_614, k_615, k_1, k_616, rfl, ⟨by decide, by decide, by decide +kernel⟩⟩
theorem cv_L_43 : sg_Cv RL 43 RX9 yX9_stands cX9_stands 1 (some .int) 0 := ⟨k_1087, k_1088, k_1089, k_17, k_1090, rfl, ⟨by decide, by decide, by decide +kernel⟩⟩
theorem cv_L_44 : sg_Cv RL 44 RX8 yX8_share cX8_share 5 (some .int) 2 := ⟨k_617, k_618, k_619, k_1, k_620, rfl, ⟨by decide, by decide, by decide +kernel⟩⟩
theorem cv_L_47 : sg_Cv RL 47 RX9 yX9_share cX9_share 5 (some .int) 2 := ⟨k_1091, k_1092, k_1093, k_17, k_1094, rfl, ⟨by decide, by decide, by decide +kernel⟩⟩
theorem cv_L_48 : sg_Cv RL 48 RX8 yX8_turn cX8_turn 3 (some .int) 2 := ⟨k_627, k_628, k_629, k_1, k_630, rfl, ⟨by decide, by decide, by decide +kernel⟩⟩
theorem cv_L_51 : sg_Cv RL 51 RX9 yX9_turn cX9_turn 3 (some .int) 2 := ⟨k_1101, k_1102, k_1103, k_17, k_1104, rfl, ⟨by decide, by decide, by decide +kernel⟩⟩
theorem cv_L_52 : sg_Cv RL 52 RX8 yX8_bear cX8_bear 4 (some .int) 3 := ⟨k_635, k_636, k_637, k_1, k_638, rfl, ⟨by decide, by decide, by decide +kernel⟩⟩
theorem cv_L_56 : sg_Cv RL 56 RX9 yX9_bear cX9_bear 4 (some .int) 3 := ⟨k_1109, k_1110, k_1111, k_17, k_1112, rfl, ⟨by decide, by decide, by decide +kernel⟩⟩
theorem cv_L_57 : sg_Cv RL 57 RX8 yX8_leave cX8_leave 2 (some .int) 1 := ⟨k_654, k_655, k_656, k_1, k_657, rfl, ⟨by decide, by decide, by decide +kernel⟩⟩
theorem cv_L_60 : sg_Cv RL 60 RX9 yX9_leave cX9_leave 4 (some .int) 1 := ⟨k_1124, k_1125, k_1126, k_17, k_1127, rfl, ⟨by decide, by decide, by decide +kernel⟩⟩
theorem cv_L_61 : sg_Cv RL 61 RX8 yX8_undo cX8_undo 1 (some .int) 0 := ⟨k_662, k_663, k_664, k_1, k_665, rfl, ⟨by decide, by decide, by decide +kernel⟩⟩
theorem cv_L_64 : sg_Cv RL 64 RX9 yX9_undo cX9_undo 1 (some .int) 0 := ⟨k_1128, k_1129, k_1130, k_17, k_1131, rfl, ⟨by decide, by decide, by decide +kernel⟩⟩
theorem cv_L_65 : sg_Cv RL 65 RX8 yX8_best cX8_best 3 (some .int) 2 := ⟨k_670, k_671, k_672, k_1, k_673, rfl, ⟨by decide, by decide, by decide +kernel⟩⟩
theorem cv_L_68 : sg_Cv RL 68 RX9 yX9_best cX9_best 8 (some .int) 2 := ⟨k_1132, k_1133, k_1134, k_17, k_1135, rfl, ⟨by decide, by decide, by decide +kernel⟩⟩
theorem cv_L_69 : sg_Cv RL 69 RX8 yX8_safe cX8_safe 2 (some .int) 0 := ⟨k_705, k_706, k_707, k_1, k_708, rfl, ⟨by decide, by decide, by decide +kernel⟩⟩
theorem cv_L_72 : sg_Cv RL 72 RX9 yX9_safe cX9_safe 2 (some .int) 0 := ⟨k_1136, k_1137, k_1138, k_17, k_1139, rfl, ⟨by decide, by decide, by decide +kernel⟩⟩
theorem cv_L_73 : sg_Cv RL 73 RX8 yX8_needed cX8_needed 4 (some .int) 0 := ⟨k_713, k_714, k_715, k_1, k_716, rfl, ⟨by decide, by decide, by decide +kernel⟩⟩
theorem cv_L_76 : sg_Cv RL 76 RX9 yX9_needed cX9_needed 4 (some .int) 0 := ⟨k_1140, k_1141, k_1142, k_17, k_1143, rfl, ⟨by decide, by decide, by decide +kernel⟩⟩
theorem cv_L_77 : sg_Cv RL 77 RX8 yX8_far cX8_far 2 (some .int) 1 := ⟨k_722, k_723, k_724, k_1, k_725, rfl, ⟨by decide, by decide, by decide +kernel⟩⟩
theorem cv_L_80 : sg_Cv RL 80 RX9 yX9_far cX9_far 3 (some .int) 1 := ⟨k_1144, k_1145, k_1146, k_17, k_1147, rfl, ⟨by decide, by decide, by decide +kernel⟩⟩
theorem cv_L_81 : sg_Cv RL 81 RX8 yX8_son cX8_son 4 (some .int) 2 := ⟨k_745, k_746, k_747, k_1, k_748, rfl, ⟨by decide, by decide, by decide +kernel⟩⟩
theorem cv_L_84 : sg_Cv RL 84 RX9 yX9_son cX9_son 3 (some .int) 2 := ⟨k_1161, k_1162, k_1163, k_17, k_1164, rfl, ⟨by decide, by decide, by decide +kernel⟩⟩
theorem cv_L_85 : sg_Cv RL 85 RX8 yX8_cairn cX8_cairn 4 (some .int) 3 := ⟨k_749, k_750, k_751, k_1, k_752, rfl, ⟨by decide, by decide, by decide +kernel⟩⟩
theorem cv_L_88 : sg_Cv RL 88 RX9 yX9_cairn cX9_cairn 5 (some .int) 3 := ⟨k_1166, k_1167, k_1168, k_17, k_1169, rfl, ⟨by decide, by decide, by decide +kernel⟩⟩
theorem cv_L_89 : sg_Cv RL 89 RX8 yX8_heir cX8_heir 2 (some .int) 1 := ⟨k_758, k_759, k_760, k_1, k_761, rfl, ⟨by decide, by decide, by decide +kernel⟩⟩
theorem cv_L_92 : sg_Cv RL 92 RX9 yX9_heir cX9_heir 2 (some .int) 1 := ⟨k_1172, k_1173, k_1174, k_17, k_1175, rfl, ⟨by decide, by decide, by decide +kernel⟩⟩
theorem cv_L_93 : sg_Cv RL 93 RX8 yX8_rests cX8_rests 4 (some .int) 3 := ⟨k_771, k_772, k_773, k_1, k_774, rfl, ⟨by decide, by decide, by decide +kernel⟩⟩
theorem cv_L_96 : sg_Cv RL 96 RX9 yX9_rests cX9_rests 11 (some .int) 3 := ⟨k_1180, k_1181, k_1182, k_17, k_1183, rfl, ⟨by decide, by decide, by decide +kernel⟩⟩
theorem cv_L_97 : sg_Cv RL 97 RX8 yX8_print cX8_print 3 (some .int) 2 := ⟨k_803, k_804, k_805, k_1, k_806, rfl, ⟨by decide, by decide, by decide +kernel⟩⟩
theorem cv_L_100 : sg_Cv RL 100 RX9 yX9_print cX9_print 3 (some .int) 2 := ⟨k_1188, k_1189, k_1190, k_17, k_1191, rfl, ⟨by decide, by decide, by decide +kernel⟩⟩
theorem cv_L_101 : sg_Cv RL 101 RX8 yX8_forget cX8_forget 2 (some .int) 0 := ⟨k_807, k_808, k_809, k_1, k_810, rfl, ⟨by decide, by decide, by decide +kernel⟩⟩
theorem cv_L_104 : sg_Cv RL 104 RX9 yX9_forget cX9_forget 2 (some .int) 0 := ⟨k_1193, k_1194, k_1195, k_17, k_1196, rfl, ⟨by decide, by decide, by decide +kernel⟩⟩
theorem cv_L_105 : sg_Cv RL 105 RX8 yX8_failed cX8_failed 3 (some .int) 0 := ⟨k_811, k_812, k_813, k_1, k_814, rfl, ⟨by decide, by decide, by decide +kernel⟩⟩
theorem cv_L_108 : sg_Cv RL 108 RX9 yX9_failed cX9_failed 3 (some .int) 0 := ⟨k_1197, k_1198, k_1199, k_17, k_1200, rfl, ⟨by decide, by decide, by decide +kernel⟩⟩
theorem cv_L_109 : sg_Cv RL 109 RX8 yX8_odds cX8_odds 10 (some .int) 3 := ⟨k_819, k_820, k_821, k_1, k_822, rfl, ⟨by decide, by decide, by decide +kernel⟩⟩
theorem cv_L_112 : sg_Cv RL 112 RX9 yX9_odds cX9_odds 14 (some .int) 3 := ⟨k_1205, k_1206, k_1207, k_17, k_1208, rfl, ⟨by decide, by decide, by decide +kernel⟩⟩
theorem cv_L_113 : sg_Cv RL 113 RX8 yX8_rain cX8_rain 3 (some .int) 2 := ⟨k_830, k_831, k_832, k_1, k_833, rfl, ⟨by decide, by decide, by decide +kernel⟩⟩
theorem cv_L_116 : sg_Cv RL 116 RX9 yX9_rain cX9_rain 3 (some .int) 2 := ⟨k_1210, k_1211, k_1212, k_17, k_1213, rfl, ⟨by decide, by decide, by decide +kernel⟩⟩
theorem cv_L_117 : sg_Cv RL 117 RX8 yX8_keep cX8_keep 1 (some .int) 0 := ⟨k_834, k_835, k_836, k_1, k_837, rfl, ⟨by decide, by decide, by decide +kernel⟩⟩
theorem cv_L_120 : sg_Cv RL 120 RX9 yX9_keep cX9_keep 1 (some .int) 0 := ⟨k_1215, k_1216, k_1217, k_17, k_1218, rfl, ⟨by decide, by decide, by decide +kernel⟩⟩
theorem cv_L_121 : sg_Cv RL 121 RX8 yX8_back cX8_back 1 (some .int) 0 := ⟨k_839, k_840, k_841, k_1, k_842, rfl, ⟨by decide, by decide, by decide +kernel⟩⟩
theorem cv_L_124 : sg_Cv RL 124 RX9 yX9_back cX9_back 1 (some .int) 0 := ⟨k_1219, k_1220, k_1221, k_17, k_1222, rfl, ⟨by decide, by decide, by decide +kernel⟩⟩
theorem cv_L_125 : sg_Cv RL 125 RX8 yX8_count cX8_count 2 (some .int) 1 := ⟨k_843, k_844, k_845, k_1, k_846, rfl, ⟨by decide, by decide, by decide +kernel⟩⟩
theorem cv_L_128 : sg_Cv RL 128 RX9 yX9_count cX9_count 2 (some .int) 1 := ⟨k_1223, k_1224, k_1225, k_17, k_1226, rfl, ⟨by decide, by decide, by decide +kernel⟩⟩
theorem law_lt {L j : Nat} (hL : L ≤ 2048) (h : ¬ Int32.ofNat L - 4 < nI (4 * j)) (hj : 4 * j < 2 ^ 20) : 4 * j + 4 ≤ L := by
  rcases Nat.lt_or_ge L 4 with q | q
  · exfalso
    have h2 : Int32.ofNat L - 4 < 0 := by
      have : L = 0 ∨ L = 1 ∨ L = 2 ∨ L = 3 := by omega
      rcases this with rfl | rfl | rfl | rfl <;> decide
    have h3 : (0 : Int32) ≤ nI (4 * j) := nI_pos' (by omega)
    exact h (Int32.lt_of_lt_of_le h2 h3)
  · have e : Int32.ofNat L - 4 = nI (L - 4) := pk_sub (a := L) (b := 4) q
    rw [e] at h
    rcases Nat.lt_or_ge (L - 4) (4 * j) with q2 | q2
    · exact absurd (nI_lt q2 (by omega)) h
    · omega
set_option maxHeartbeats 4000000 in
set_option maxRecDepth 100000 in
theorem law_loop {p : Program} {l : Launch} {e : Env} {s : State} {m : MethodId} {below : List Frame} {meth : Method} {c : Code} {D : va_G} {cA : Nat → ClassId} {bs L : Nat} {xs : Nat → Int32} (hL : L ≤ 2048) (C0 : lw_At p s m meth c bs L xs) (hK : va_K D vwCl (sg_ty cA) s) : ∀ (n j : Nat), j ≤ 600 → L < 4 * (j + n) → ∀ (h : HP), Inv h → ∀ (H : Heap) (locs : List Loc) (ls : Array Slot), sg_Wo D s.heap.size cA 154 s.heap h H locs → lv_has ls 4 [(0, .ref bs), (1, .ref (s.heap.size + 0)), (2, .ref (s.heap.size + 133)), (3, .int (nI (4 * j)))] → W p l e room_1 s m #[Value.ref bs] below meth c H locs 154 3486 (lw_Z below #[Value.ref bs] s) (F0 m 18 ls []) := by
  obtain ⟨hx, hb, hr, hml, hown, hts, hX, hbl, hlocks, hgv⟩ := C0
  have hc : sg_Cx p s m #[Value.ref bs] c code RL D cA := ⟨hx, hb, hown, fun w hw => hts w (sg_tb hw), hK, fun q hq => va_Nw.of rfl (hts _ (sg_nl_in q hq))⟩
  have hbA : ¬ sg_A s.heap.size bs := Nat.not_le.mpr hbl
  have hn : sg_okN 154 := Or.inr rfl
  have hz : s.heap.size + 154 = s.heap.size + 154 := rfl
  intro n
  induction n with
  | zero =>
    intro j hj hLn h hI H locs ls hw hl
    refine lv_iload_n hx hb dL_law_18 rfl (lv_at hl 3 rfl) ?_
    refine lv_aload_n hx hb dL_law_19 rfl (lv_at hl 0 rfl) ?_
    refine va_slen hx hb hX hbl hbA hw.2.2 dL_law_20 ?_
    refine lv_iconst (v := 4) hx hb dL_law_21 (by decide) ?_
    refine lv_isub hx hb dL_law_22 ?_
    refine lv_icmp_gt (tgt := 860) hx hb dL_law_23 (by decide) (fun c1 => ?_) (fun c1 => absurd (law_lt hL c1 (by omega)) (by omega))
    refine lv_iconst (v := 1) hx hb dL_law_860 (by decide) ?_
    refine va_forget (fun q hq => hw.2.2.2.2 q hq) ?_
    refine W.widen (k := 600000) (n := 7302250) (by decide) (by decide) ?_
    exact lw_ret hx hb hr hlocks dL_law_861
  | succ n ih =>
    intro j hj hLn h hI H locs ls hw hl
    have hend : ∀ h2, Inv h2 → ∀ (H : Heap) (locs : List Loc) (ls : Array Slot), sg_Wo D s.heap.size cA 154 s.heap h2 H locs → lv_has ls 4 [(0, .ref bs), (1, .ref (s.heap.size + 0)), (2, .ref (s.heap.size + 133)), (3, .int (nI (4 * j)))] → 4 * j + 4 ≤ L → W p l e room_1 s m #[Value.ref bs] below meth c H locs 154 3486 (lw_Z below #[Value.ref bs] s) (F0 m 854 ls []) := by
      intro h2 hI2 H locs ls hw hl hlt
      refine lv_iinc (v := nI (4 * (j + 1))) (lv' := [(3, .int (nI (4 * (j + 1)))), (0, .ref bs), (1, .ref (s.heap.size + 0)), (2, .ref (s.heap.size + 133))]) hx hb dL_law_854 hl (k := 3) rfl (by show nI (4 * j) + nI 4 = _; rw [nI_add]; rfl) (by decide) rfl (fun ls hl => ?_)
      refine lv_goto (tgt := 18) hx hb dL_law_857 (by decide) ?_
      exact ih (j + 1) (by omega) (by omega) h2 hI2 _ _ _ hw (lv_sub hl [1, 2, 3, 0] rfl)
    refine lv_iload_n hx hb dL_law_18 rfl (lv_at hl 3 rfl) ?_
    refine lv_aload_n hx hb dL_law_19 rfl (lv_at hl 0 rfl) ?_
    refine va_slen hx hb hX hbl hbA hw.2.2 dL_law_20 ?_
    refine lv_iconst (v := 4) hx hb dL_law_21 (by decide) ?_
    refine lv_isub hx hb dL_law_22 ?_
    refine lv_icmp_gt (tgt := 860) hx hb dL_law_23 (by decide) (fun c1 => ?_) (fun c1 => ?_)
    · refine lv_iconst (v := 1) hx hb dL_law_860 (by decide) ?_
      refine va_forget (fun q hq => hw.2.2.2.2 q hq) ?_
      refine W.widen (k := 600000) (n := 7302250) (by decide) (by decide) ?_
      exact lw_ret hx hb hr hlocks dL_law_861
    have hlt := law_lt hL c1 (by omega)
    have hi0 : vp_in (nI (4 * j)) L := vp_in_nI (by omega) (by omega)
    have hi1 : vp_in (nI (4 * j) + 1) L := by rw [nI_1]; exact vp_in_nI (by omega) (by omega)
    have hi2 : vp_in (nI (4 * j) + 2) L := by rw [show nI (4 * j) + 2 = nI (4 * j + 2) from nI_add _ 2]; exact vp_in_nI (by omega) (by omega)
    have hi3 : vp_in (nI (4 * j) + 3) L := by rw [show nI (4 * j) + 3 = nI (4 * j + 3) from nI_add _ 3]; exact vp_in_nI (by omega) (by omega)
    have hend := fun h2 hI2 H locs ls hw hl => hend h2 hI2 H locs ls hw hl hlt
    refine lv_aload_n hx hb dL_law_26 rfl (lv_at hl 0 rfl) ?_
    refine lv_iload_n hx hb dL_law_27 rfl (lv_at hl 3 rfl) ?_
    refine va_sld hx hb hX hbl hbA hw.2.2 hi0 dL_law_28 ?_
    refine lv_bipush (v := 31) hx hb dL_law_29 (by decide) ?_
    refine lv_iand hx hb dL_law_31 ?_
    refine lv_topi (fun v e0 => ?_)
    by_cases hk0 : v = 0
    · refine lv_tableIn (off := 128) (tgt := 160) hx hb dL_law_32 (by rw [hk0]; decide) (by rw [hk0]; decide) (by rw [hk0]; decide) (by decide) ?_
      obtain ⟨r, h1, h2, e1, e2, hI2⟩ := step_write h hI (xs ((nI (4 * j)) + 1).toNatClampNeg)
      refine lv_aload_n hx hb dL_law_160 rfl (lv_at hl 1 rfl) ?_
      refine lv_aload_n hx hb dL_law_161 rfl (lv_at hl 0 rfl) ?_
      refine lv_iload_n hx hb dL_law_162 rfl (lv_at hl 3 rfl) ?_
      refine lv_iconst (v := 1) hx hb dL_law_163 (by decide) ?_
      refine lv_iadd hx hb dL_law_164 ?_
      refine va_sld hx hb hX hbl hbA hw.2.2 hi1 dL_law_165 ?_
      refine sg_vi (rest := []) (c_X8_write (b := s.heap.size) hn (a := 0) (by decide) rfl e1) hc hw hz hml hl (a := 0) (by decide) rfl (by decide) rfl cv_L_13 ⟨⟨rfl, rfl⟩, Nat.le_of_ble_eq_true rfl, Nat.le_of_ble_eq_true rfl⟩ ⟨Nat.le_of_ble_eq_true rfl, Nat.le_of_ble_eq_true rfl⟩ rfl rfl (Nat.le_of_ble_eq_true rfl) dL_law_166 (fun r1 u1 H locs hp hw => ?_)
      obtain ⟨q1, q2⟩ := hp; subst r1; subst u1
      refine lv_aload_n hx hb dL_law_169 rfl (lv_at hl 2 rfl) ?_
      refine lv_aload_n hx hb dL_law_170 rfl (lv_at hl 0 rfl) ?_
      refine lv_iload_n hx hb dL_law_171 rfl (lv_at hl 3 rfl) ?_
      refine lv_iconst (v := 1) hx hb dL_law_172 (by decide) ?_
      refine lv_iadd hx hb dL_law_173 ?_
      refine va_sld hx hb hX hbl hbA hw.2.2 hi1 dL_law_174 ?_
      refine sg_vi (rest := [.int r]) (c_X9_write (b := s.heap.size) hn (a := 133) (by decide) rfl e2) hc hw hz hml hl (a := 133) (by decide) rfl (by decide) rfl cv_L_17 ⟨⟨rfl, rfl⟩, Nat.le_of_ble_eq_true rfl, Nat.le_of_ble_eq_true rfl⟩ ⟨Nat.le_of_ble_eq_true rfl, Nat.le_of_ble_eq_true rfl⟩ rfl rfl (Nat.le_of_ble_eq_true rfl) dL_law_175 (fun r2 u2 H locs hp hw => ?_)
      obtain ⟨q1, q2⟩ := hp; subst r2; subst u2
      refine lv_icmp_eq (tgt := 854) hx hb dL_law_178 (by decide) (fun c9 => ?_) (fun c9 => absurd rfl c9)
      exact hend h2 hI2 _ _ _ hw hl
    by_cases hk1 : v = 1
    · refine lv_tableIn (off := 151) (tgt := 183) hx hb dL_law_32 (by rw [hk1]; decide) (by rw [hk1]; decide) (by rw [hk1]; decide) (by decide) ?_
      obtain ⟨r, h1, h2, e1, e2, hI2⟩ := step_wipe h hI
      refine lv_aload_n hx hb dL_law_183 rfl (lv_at hl 1 rfl) ?_
      refine sg_vi (rest := []) (c_X8_wipe (b := s.heap.size) hn (a := 0) (by decide) rfl e1) hc hw hz hml hl (a := 0) (by decide) rfl (by decide) rfl cv_L_18 ⟨⟨rfl, rfl⟩, Nat.le_of_ble_eq_true rfl, Nat.le_of_ble_eq_true rfl⟩ ⟨Nat.le_of_ble_eq_true rfl, Nat.le_of_ble_eq_true rfl⟩ rfl rfl (Nat.le_of_ble_eq_true rfl) dL_law_184 (fun r1 u1 H locs hp hw => ?_)
      obtain ⟨q1, q2⟩ := hp; subst r1; subst u1
      refine lv_aload_n hx hb dL_law_187 rfl (lv_at hl 2 rfl) ?_
      refine sg_vi (rest := [.int r]) (c_X9_wipe (b := s.heap.size) hn (a := 133) (by decide) rfl e2) hc hw hz hml hl (a := 133) (by decide) rfl (by decide) rfl cv_L_22 ⟨⟨rfl, rfl⟩, Nat.le_of_ble_eq_true rfl, Nat.le_of_ble_eq_true rfl⟩ ⟨Nat.le_of_ble_eq_true rfl, Nat.le_of_ble_eq_true rfl⟩ rfl rfl (Nat.le_of_ble_eq_true rfl) dL_law_188 (fun r2 u2 H locs hp hw => ?_)
      obtain ⟨q1, q2⟩ := hp; subst r2; subst u2
      refine lv_icmp_eq (tgt := 854) hx hb dL_law_191 (by decide) (fun c9 => ?_) (fun c9 => absurd rfl c9)
      exact hend h2 hI2 _ _ _ hw hl
    by_cases hk2 : v = 2
    · refine lv_tableIn (off := 164) (tgt := 196) hx hb dL_law_32 (by rw [hk2]; decide) (by rw [hk2]; decide) (by rw [hk2]; decide) (by decide) ?_
      obtain ⟨r, h1, h2, e1, e2, hI2⟩ := step_fault h hI
      refine lv_aload_n hx hb dL_law_196 rfl (lv_at hl 1 rfl) ?_
      refine sg_vi (rest := []) (c_X8_fault (b := s.heap.size) hn (a := 0) (by decide) rfl e1) hc hw hz hml hl (a := 0) (by decide) rfl (by decide) rfl cv_L_23 ⟨⟨rfl, rfl⟩, Nat.le_of_ble_eq_true rfl, Nat.le_of_ble_eq_true rfl⟩ ⟨Nat.le_of_ble_eq_true rfl, Nat.le_of_ble_eq_true rfl⟩ rfl rfl (Nat.le_of_ble_eq_true rfl) dL_law_197 (fun r1 u1 H locs hp hw => ?_)
      obtain ⟨q1, q2⟩ := hp; subst r1; subst u1
      refine lv_aload_n hx hb dL_law_200 rfl (lv_at hl 2 rfl) ?_
      refine sg_vi (rest := [.int r]) (c_X9_fault (b := s.heap.size) hn (a := 133) (by decide) rfl e2) hc hw hz hml hl (a := 133) (by decide) rfl (by decide) rfl cv_L_26 ⟨⟨rfl, rfl⟩, Nat.le_of_ble_eq_true rfl, Nat.le_of_ble_eq_true rfl⟩ ⟨Nat.le_of_ble_eq_true rfl, Nat.le_of_ble_eq_true rfl⟩ rfl rfl (Nat.le_of_ble_eq_true rfl) dL_law_201 (fun r2 u2 H locs hp hw => ?_)
      obtain ⟨q1, q2⟩ := hp; subst r2; subst u2
      refine lv_icmp_eq (tgt := 854) hx hb dL_law_204 (by decide) (fun c9 => ?_) (fun c9 => absurd rfl c9)
      exact hend h2 hI2 _ _ _ hw hl
    by_cases hk3 : v = 3
    · refine lv_tableIn (off := 177) (tgt := 209) hx hb dL_law_32 (by rw [hk3]; decide) (by rw [hk3]; decide) (by rw [hk3]; decide) (by decide) ?_
      obtain ⟨r, h1, h2, e1, e2, hI2⟩ := step_lay h hI
      refine lv_aload_n hx hb dL_law_209 rfl (lv_at hl 1 rfl) ?_
      refine sg_vi (rest := []) (c_X8_lay (b := s.heap.size) hn (a := 0) (by decide) rfl e1) hc hw hz hml hl (a := 0) (by decide) rfl (by decide) rfl cv_L_27 ⟨⟨rfl, rfl⟩, Nat.le_of_ble_eq_true rfl, Nat.le_of_ble_eq_true rfl⟩ ⟨Nat.le_of_ble_eq_true rfl, Nat.le_of_ble_eq_true rfl⟩ rfl rfl (Nat.le_of_ble_eq_true rfl) dL_law_210 (fun r1 u1 H locs hp hw => ?_)
      obtain ⟨q1, q2⟩ := hp; subst r1; subst u1
      refine lv_aload_n hx hb dL_law_213 rfl (lv_at hl 2 rfl) ?_
      refine sg_vi (rest := [.int r]) (c_X9_lay (b := s.heap.size) hn (a := 133) (by decide) rfl e2) hc hw hz hml hl (a := 133) (by decide) rfl (by decide) rfl cv_L_30 ⟨⟨rfl, rfl⟩, Nat.le_of_ble_eq_true rfl, Nat.le_of_ble_eq_true rfl⟩ ⟨Nat.le_of_ble_eq_true rfl, Nat.le_of_ble_eq_true rfl⟩ rfl rfl (Nat.le_of_ble_eq_true rfl) dL_law_214 (fun r2 u2 H locs hp hw => ?_)
      obtain ⟨q1, q2⟩ := hp; subst r2; subst u2
      refine lv_icmp_eq (tgt := 854) hx hb dL_law_217 (by decide) (fun c9 => ?_) (fun c9 => absurd rfl c9)
      exact hend h2 hI2 _ _ _ hw hl
    by_cases hk4 : v = 4
    · refine lv_tableIn (off := 190) (tgt := 222) hx hb dL_law_32 (by rw [hk4]; decide) (by rw [hk4]; decide) (by rw [hk4]; decide) (by decide) ?_
      obtain ⟨r, h2, e1, e2, hI2⟩ := step_yard h hI (xs ((nI (4 * j)) + 1).toNatClampNeg) (xs ((nI (4 * j)) + 2).toNatClampNeg)
      refine lv_aload_n hx hb dL_law_222 rfl (lv_at hl 1 rfl) ?_
      refine lv_aload_n hx hb dL_law_223 rfl (lv_at hl 0 rfl) ?_
      refine lv_iload_n hx hb dL_law_224 rfl (lv_at hl 3 rfl) ?_
      refine lv_iconst (v := 1) hx hb dL_law_225 (by decide) ?_
      refine lv_iadd hx hb dL_law_226 ?_
      refine va_sld hx hb hX hbl hbA hw.2.2 hi1 dL_law_227 ?_
      refine lv_aload_n hx hb dL_law_228 rfl (lv_at hl 0 rfl) ?_
      refine lv_iload_n hx hb dL_law_229 rfl (lv_at hl 3 rfl) ?_
      refine lv_iconst (v := 2) hx hb dL_law_230 (by decide) ?_
      refine lv_iadd hx hb dL_law_231 ?_
      refine va_sld hx hb hX hbl hbA hw.2.2 hi2 dL_law_232 ?_
      refine sg_vi (rest := []) (c_X8_yard (b := s.heap.size) hn (a := 0) (by decide) rfl e1) hc hw hz hml hl (a := 0) (by decide) rfl (by decide) rfl cv_L_31 ⟨⟨rfl, rfl⟩, Nat.le_of_ble_eq_true rfl, Nat.le_of_ble_eq_true rfl⟩ ⟨Nat.le_of_ble_eq_true rfl, Nat.le_of_ble_eq_true rfl⟩ rfl rfl (Nat.le_of_ble_eq_true rfl) dL_law_233 (fun r1 u1 H locs hp hw => ?_)
      obtain ⟨q1, q2⟩ := hp; subst r1; subst u1
      refine lv_aload_n hx hb dL_law_236 rfl (lv_at hl 2 rfl) ?_
      refine lv_aload_n hx hb dL_law_237 rfl (lv_at hl 0 rfl) ?_
      refine lv_iload_n hx hb dL_law_238 rfl (lv_at hl 3 rfl) ?_
      refine lv_iconst (v := 1) hx hb dL_law_239 (by decide) ?_
      refine lv_iadd hx hb dL_law_240 ?_
      refine va_sld hx hb hX hbl hbA hw.2.2 hi1 dL_law_241 ?_
      refine lv_aload_n hx hb dL_law_242 rfl (lv_at hl 0 rfl) ?_
      refine lv_iload_n hx hb dL_law_243 rfl (lv_at hl 3 rfl) ?_
      refine lv_iconst (v := 2) hx hb dL_law_244 (by decide) ?_
      refine lv_iadd hx hb dL_law_245 ?_
      refine va_sld hx hb hX hbl hbA hw.2.2 hi2 dL_law_246 ?_
      refine sg_vi (rest := [.int r]) (c_X9_yard (b := s.heap.size) hn (a := 133) (by decide) rfl e2) hc hw hz hml hl (a := 133) (by decide) rfl (by decide) rfl cv_L_35 ⟨⟨rfl, rfl⟩, Nat.le_of_ble_eq_true rfl, Nat.le_of_ble_eq_true rfl⟩ ⟨Nat.le_of_ble_eq_true rfl, Nat.le_of_ble_eq_true rfl⟩ rfl rfl (Nat.le_of_ble_eq_true rfl) dL_law_247 (fun r2 u2 H locs hp hw => ?_)
      obtain ⟨q1, q2⟩ := hp; subst r2; subst u2
      refine lv_icmp_eq (tgt := 854) hx hb dL_law_250 (by decide) (fun c9 => ?_) (fun c9 => absurd rfl c9)
      exact hend h2 hI2 _ _ _ hw hl
    by_cases hk5 : v = 5
    · refine lv_tableIn (off := 223) (tgt := 255) hx hb dL_law_32 (by rw [hk5]; decide) (by rw [hk5]; decide) (by rw [hk5]; decide) (by decide) ?_
      obtain ⟨r, h2, e1, e2, hI2⟩ := step_bearer h hI (xs ((nI (4 * j)) + 1).toNatClampNeg) (xs ((nI (4 * j)) + 2).toNatClampNeg)
      refine lv_aload_n hx hb dL_law_255 rfl (lv_at hl 1 rfl) ?_
      refine lv_aload_n hx hb dL_law_256 rfl (lv_at hl 0 rfl) ?_
      refine lv_iload_n hx hb dL_law_257 rfl (lv_at hl 3 rfl) ?_
      refine lv_iconst (v := 1) hx hb dL_law_258 (by decide) ?_
      refine lv_iadd hx hb dL_law_259 ?_
      refine va_sld hx hb hX hbl hbA hw.2.2 hi1 dL_law_260 ?_
      refine lv_aload_n hx hb dL_law_261 rfl (lv_at hl 0 rfl) ?_
      refine lv_iload_n hx hb dL_law_262 rfl (lv_at hl 3 rfl) ?_
      refine lv_iconst (v := 2) hx hb dL_law_263 (by decide) ?_
      refine lv_iadd hx hb dL_law_264 ?_
      refine va_sld hx hb hX hbl hbA hw.2.2 hi2 dL_law_265 ?_
      refine sg_vi (rest := []) (c_X8_bearer (b := s.heap.size) hn (a := 0) (by decide) rfl e1) hc hw hz hml hl (a := 0) (by decide) rfl (by decide) rfl cv_L_36 ⟨⟨rfl, rfl⟩, Nat.le_of_ble_eq_true rfl, Nat.le_of_ble_eq_true rfl⟩ ⟨Nat.le_of_ble_eq_true rfl, Nat.le_of_ble_eq_true rfl⟩ rfl rfl (Nat.le_of_ble_eq_true rfl) dL_law_266 (fun r1 u1 H locs hp hw => ?_)
      obtain ⟨q1, q2⟩ := hp; subst r1; subst u1
      refine lv_aload_n hx hb dL_law_269 rfl (lv_at hl 2 rfl) ?_
      refine lv_aload_n hx hb dL_law_270 rfl (lv_at hl 0 rfl) ?_
      refine lv_iload_n hx hb dL_law_271 rfl (lv_at hl 3 rfl) ?_
      refine lv_iconst (v := 1) hx hb dL_law_272 (by decide) ?_
      refine lv_iadd hx hb dL_law_273 ?_
      refine va_sld hx hb hX hbl hbA hw.2.2 hi1 dL_law_274 ?_
      refine lv_aload_n hx hb dL_law_275 rfl (lv_at hl 0 rfl) ?_
      refine lv_iload_n hx hb dL_law_276 rfl (lv_at hl 3 rfl) ?_
      refine lv_iconst (v := 2) hx hb dL_law_277 (by decide) ?_
      refine lv_iadd hx hb dL_law_278 ?_
      refine va_sld hx hb hX hbl hbA hw.2.2 hi2 dL_law_279 ?_
      refine sg_vi (rest := [.int r]) (c_X9_bearer (b := s.heap.size) hn (a := 133) (by decide) rfl e2) hc hw hz hml hl (a := 133) (by decide) rfl (by decide) rfl cv_L_39 ⟨⟨rfl, rfl⟩, Nat.le_of_ble_eq_true rfl, Nat.le_of_ble_eq_true rfl⟩ ⟨Nat.le_of_ble_eq_true rfl, Nat.le_of_ble_eq_true rfl⟩ rfl rfl (Nat.le_of_ble_eq_true rfl) dL_law_280 (fun r2 u2 H locs hp hw => ?_)
      obtain ⟨q1, q2⟩ := hp; subst r2; subst u2
      refine lv_icmp_eq (tgt := 854) hx hb dL_law_283 (by decide) (fun c9 => ?_) (fun c9 => absurd rfl c9)
      exact hend h2 hI2 _ _ _ hw hl
    by_cases hk6 : v = 6
    · refine lv_tableIn (off := 256) (tgt := 288) hx hb dL_law_32 (by rw [hk6]; decide) (by rw [hk6]; decide) (by rw [hk6]; decide) (by decide) ?_
      obtain ⟨r, h2, e1, e2, hI2⟩ := step_stands h hI
      refine lv_aload_n hx hb dL_law_288 rfl (lv_at hl 1 rfl) ?_
      refine sg_vi (rest := []) (c_X8_stands (b := s.heap.size) hn (a := 0) (by decide) rfl e1) hc hw hz hml hl (a := 0) (by decide) rfl (by decide) rfl cv_L_40 ⟨⟨rfl, rfl⟩, Nat.le_of_ble_eq_true rfl, Nat.le_of_ble_eq_true rfl⟩ ⟨Nat.le_of_ble_eq_true rfl, Nat.le_of_ble_eq_true rfl⟩ rfl rfl (Nat.le_of_ble_eq_true rfl) dL_law_289 (fun r1 u1 H locs hp hw => ?_)
      obtain ⟨q1, q2⟩ := hp; subst r1; subst u1
      refine lv_aload_n hx hb dL_law_292 rfl (lv_at hl 2 rfl) ?_
      refine sg_vi (rest := [.int r]) (c_X9_stands (b := s.heap.size) hn (a := 133) (by decide) rfl e2) hc hw hz hml hl (a := 133) (by decide) rfl (by decide) rfl cv_L_43 ⟨⟨rfl, rfl⟩, Nat.le_of_ble_eq_true rfl, Nat.le_of_ble_eq_true rfl⟩ ⟨Nat.le_of_ble_eq_true rfl, Nat.le_of_ble_eq_true rfl⟩ rfl rfl (Nat.le_of_ble_eq_true rfl) dL_law_293 (fun r2 u2 H locs hp hw => ?_)
      obtain ⟨q1, q2⟩ := hp; subst r2; subst u2
      refine lv_icmp_eq (tgt := 854) hx hb dL_law_296 (by decide) (fun c9 => ?_) (fun c9 => absurd rfl c9)
      exact hend h2 hI2 _ _ _ hw hl
    by_cases hk7 : v = 7
    · refine lv_tableIn (off := 269) (tgt := 301) hx hb dL_law_32 (by rw [hk7]; decide) (by rw [hk7]; decide) (by rw [hk7]; decide) (by decide) ?_
      obtain ⟨r, h2, e1, e2, hI2⟩ := step_share h hI (xs ((nI (4 * j)) + 1).toNatClampNeg) (xs ((nI (4 * j)) + 2).toNatClampNeg)
      refine lv_aload_n hx hb dL_law_301 rfl (lv_at hl 1 rfl) ?_
      refine lv_aload_n hx hb dL_law_302 rfl (lv_at hl 0 rfl) ?_
      refine lv_iload_n hx hb dL_law_303 rfl (lv_at hl 3 rfl) ?_
      refine lv_iconst (v := 1) hx hb dL_law_304 (by decide) ?_
      refine lv_iadd hx hb dL_law_305 ?_
      refine va_sld hx hb hX hbl hbA hw.2.2 hi1 dL_law_306 ?_
      refine lv_aload_n hx hb dL_law_307 rfl (lv_at hl 0 rfl) ?_
      refine lv_iload_n hx hb dL_law_308 rfl (lv_at hl 3 rfl) ?_
      refine lv_iconst (v := 2) hx hb dL_law_309 (by decide) ?_
      refine lv_iadd hx hb dL_law_310 ?_
      refine va_sld hx hb hX hbl hbA hw.2.2 hi2 dL_law_311 ?_
      refine sg_vi (rest := []) (c_X8_share (b := s.heap.size) hn (a := 0) (by decide) rfl e1) hc hw hz hml hl (a := 0) (by decide) rfl (by decide) rfl cv_L_44 ⟨⟨rfl, rfl⟩, Nat.le_of_ble_eq_true rfl, Nat.le_of_ble_eq_true rfl⟩ ⟨Nat.le_of_ble_eq_true rfl, Nat.le_of_ble_eq_true rfl⟩ rfl rfl (Nat.le_of_ble_eq_true rfl) dL_law_312 (fun r1 u1 H locs hp hw => ?_)
      obtain ⟨q1, q2⟩ := hp; subst r1; subst u1
      refine lv_aload_n hx hb dL_law_315 rfl (lv_at hl 2 rfl) ?_
      refine lv_aload_n hx hb dL_law_316 rfl (lv_at hl 0 rfl) ?_
      refine lv_iload_n hx hb dL_law_317 rfl (lv_at hl 3 rfl) ?_
      refine lv_iconst (v := 1) hx hb dL_law_318 (by decide) ?_
      refine lv_iadd hx hb dL_law_319 ?_
      refine va_sld hx hb hX hbl hbA hw.2.2 hi1 dL_law_320 ?_
      refine lv_aload_n hx hb dL_law_321 rfl (lv_at hl 0 rfl) ?_
      refine lv_iload_n hx hb dL_law_322 rfl (lv_at hl 3 rfl) ?_
      refine lv_iconst (v := 2) hx hb dL_law_323 (by decide) ?_
      refine lv_iadd hx hb dL_law_324 ?_
      refine va_sld hx hb hX hbl hbA hw.2.2 hi2 dL_law_325 ?_
      refine sg_vi (rest := [.int r]) (c_X9_share (b := s.heap.size) hn (a := 133) (by decide) rfl e2) hc hw hz hml hl (a := 133) (by decide) rfl (by decide) rfl cv_L_47 ⟨⟨rfl, rfl⟩, Nat.le_of_ble_eq_true rfl, Nat.le_of_ble_eq_true rfl⟩ ⟨Nat.le_of_ble_eq_true rfl, Nat.le_of_ble_eq_true rfl⟩ rfl rfl (Nat.le_of_ble_eq_true rfl) dL_law_326 (fun r2 u2 H locs hp hw => ?_)
      obtain ⟨q1, q2⟩ := hp; subst r2; subst u2
      refine lv_icmp_eq (tgt := 854) hx hb dL_law_329 (by decide) (fun c9 => ?_) (fun c9 => absurd rfl c9)
      exact hend h2 hI2 _ _ _ hw hl
    by_cases hk8 : v = 8
    · refine lv_tableIn (off := 302) (tgt := 334) hx hb dL_law_32 (by rw [hk8]; decide) (by rw [hk8]; decide) (by rw [hk8]; decide) (by decide) ?_
      obtain ⟨r, e1, e2⟩ := step_turn h hI (xs ((nI (4 * j)) + 1).toNatClampNeg) (xs ((nI (4 * j)) + 2).toNatClampNeg)
      refine lv_aload_n hx hb dL_law_334 rfl (lv_at hl 1 rfl) ?_
      refine lv_aload_n hx hb dL_law_335 rfl (lv_at hl 0 rfl) ?_
      refine lv_iload_n hx hb dL_law_336 rfl (lv_at hl 3 rfl) ?_
      refine lv_iconst (v := 1) hx hb dL_law_337 (by decide) ?_
      refine lv_iadd hx hb dL_law_338 ?_
      refine va_sld hx hb hX hbl hbA hw.2.2 hi1 dL_law_339 ?_
      refine lv_aload_n hx hb dL_law_340 rfl (lv_at hl 0 rfl) ?_
      refine lv_iload_n hx hb dL_law_341 rfl (lv_at hl 3 rfl) ?_
      refine lv_iconst (v := 2) hx hb dL_law_342 (by decide) ?_
      refine lv_iadd hx hb dL_law_343 ?_
      refine va_sld hx hb hX hbl hbA hw.2.2 hi2 dL_law_344 ?_
      refine sg_vi (rest := []) (c_X8_turn (b := s.heap.size) hn (a := 0) (by decide) rfl e1) hc hw hz hml hl (a := 0) (by decide) rfl (by decide) rfl cv_L_48 ⟨⟨rfl, rfl⟩, Nat.le_of_ble_eq_true rfl, Nat.le_of_ble_eq_true rfl⟩ ⟨Nat.le_of_ble_eq_true rfl, Nat.le_of_ble_eq_true rfl⟩ rfl rfl (Nat.le_of_ble_eq_true rfl) dL_law_345 (fun r1 u1 H locs hp hw => ?_)
      obtain ⟨q1, q2⟩ := hp; subst r1; subst u1
      refine lv_aload_n hx hb dL_law_348 rfl (lv_at hl 2 rfl) ?_
      refine lv_aload_n hx hb dL_law_349 rfl (lv_at hl 0 rfl) ?_
      refine lv_iload_n hx hb dL_law_350 rfl (lv_at hl 3 rfl) ?_
      refine lv_iconst (v := 1) hx hb dL_law_351 (by decide) ?_
      refine lv_iadd hx hb dL_law_352 ?_
      refine va_sld hx hb hX hbl hbA hw.2.2 hi1 dL_law_353 ?_
      refine lv_aload_n hx hb dL_law_354 rfl (lv_at hl 0 rfl) ?_
      refine lv_iload_n hx hb dL_law_355 rfl (lv_at hl 3 rfl) ?_
      refine lv_iconst (v := 2) hx hb dL_law_356 (by decide) ?_
      refine lv_iadd hx hb dL_law_357 ?_
      refine va_sld hx hb hX hbl hbA hw.2.2 hi2 dL_law_358 ?_
      refine sg_vi (rest := [.int r]) (c_X9_turn (b := s.heap.size) hn (a := 133) (by decide) rfl e2) hc hw hz hml hl (a := 133) (by decide) rfl (by decide) rfl cv_L_51 ⟨⟨rfl, rfl⟩, Nat.le_of_ble_eq_true rfl, Nat.le_of_ble_eq_true rfl⟩ ⟨Nat.le_of_ble_eq_true rfl, Nat.le_of_ble_eq_true rfl⟩ rfl rfl (Nat.le_of_ble_eq_true rfl) dL_law_359 (fun r2 u2 H locs hp hw => ?_)
      obtain ⟨q1, q2⟩ := hp; subst r2; subst u2
      refine lv_icmp_eq (tgt := 854) hx hb dL_law_362 (by decide) (fun c9 => ?_) (fun c9 => absurd rfl c9)
      exact hend h hI _ _ _ hw hl
    by_cases hk9 : v = 9
    · refine lv_tableIn (off := 335) (tgt := 367) hx hb dL_law_32 (by rw [hk9]; decide) (by rw [hk9]; decide) (by rw [hk9]; decide) (by decide) ?_
      obtain ⟨r, h1, h2, e1, e2, hI2⟩ := step_bear h hI (xs ((nI (4 * j)) + 1).toNatClampNeg) (xs ((nI (4 * j)) + 2).toNatClampNeg) (xs ((nI (4 * j)) + 3).toNatClampNeg)
      refine lv_aload_n hx hb dL_law_367 rfl (lv_at hl 1 rfl) ?_
      refine lv_aload_n hx hb dL_law_368 rfl (lv_at hl 0 rfl) ?_
      refine lv_iload_n hx hb dL_law_369 rfl (lv_at hl 3 rfl) ?_
      refine lv_iconst (v := 1) hx hb dL_law_370 (by decide) ?_
      refine lv_iadd hx hb dL_law_371 ?_
      refine va_sld hx hb hX hbl hbA hw.2.2 hi1 dL_law_372 ?_
      refine lv_aload_n hx hb dL_law_373 rfl (lv_at hl 0 rfl) ?_
      refine lv_iload_n hx hb dL_law_374 rfl (lv_at hl 3 rfl) ?_
      refine lv_iconst (v := 2) hx hb dL_law_375 (by decide) ?_
      refine lv_iadd hx hb dL_law_376 ?_
      refine va_sld hx hb hX hbl hbA hw.2.2 hi2 dL_law_377 ?_
      refine lv_aload_n hx hb dL_law_378 rfl (lv_at hl 0 rfl) ?_
      refine lv_iload_n hx hb dL_law_379 rfl (lv_at hl 3 rfl) ?_
      refine lv_iconst (v := 3) hx hb dL_law_380 (by decide) ?_
      refine lv_iadd hx hb dL_law_381 ?_
      refine va_sld hx hb hX hbl hbA hw.2.2 hi3 dL_law_382 ?_
      refine sg_vi (rest := []) (c_X8_bear (b := s.heap.size) hn (a := 0) (by decide) rfl e1) hc hw hz hml hl (a := 0) (by decide) rfl (by decide) rfl cv_L_52 ⟨⟨rfl, rfl⟩, Nat.le_of_ble_eq_true rfl, Nat.le_of_ble_eq_true rfl⟩ ⟨Nat.le_of_ble_eq_true rfl, Nat.le_of_ble_eq_true rfl⟩ rfl rfl (Nat.le_of_ble_eq_true rfl) dL_law_383 (fun r1 u1 H locs hp hw => ?_)
      obtain ⟨q1, q2⟩ := hp; subst r1; subst u1
      refine lv_aload_n hx hb dL_law_386 rfl (lv_at hl 2 rfl) ?_
      refine lv_aload_n hx hb dL_law_387 rfl (lv_at hl 0 rfl) ?_
      refine lv_iload_n hx hb dL_law_388 rfl (lv_at hl 3 rfl) ?_
      refine lv_iconst (v := 1) hx hb dL_law_389 (by decide) ?_
      refine lv_iadd hx hb dL_law_390 ?_
      refine va_sld hx hb hX hbl hbA hw.2.2 hi1 dL_law_391 ?_
      refine lv_aload_n hx hb dL_law_392 rfl (lv_at hl 0 rfl) ?_
      refine lv_iload_n hx hb dL_law_393 rfl (lv_at hl 3 rfl) ?_
      refine lv_iconst (v := 2) hx hb dL_law_394 (by decide) ?_
      refine lv_iadd hx hb dL_law_395 ?_
      refine va_sld hx hb hX hbl hbA hw.2.2 hi2 dL_law_396 ?_
      refine lv_aload_n hx hb dL_law_397 rfl (lv_at hl 0 rfl) ?_
      refine lv_iload_n hx hb dL_law_398 rfl (lv_at hl 3 rfl) ?_
      refine lv_iconst (v := 3) hx hb dL_law_399 (by decide) ?_
      refine lv_iadd hx hb dL_law_400 ?_
      refine va_sld hx hb hX hbl hbA hw.2.2 hi3 dL_law_401 ?_
      refine sg_vi (rest := [.int r]) (c_X9_bear (b := s.heap.size) hn (a := 133) (by decide) rfl e2) hc hw hz hml hl (a := 133) (by decide) rfl (by decide) rfl cv_L_56 ⟨⟨rfl, rfl⟩, Nat.le_of_ble_eq_true rfl, Nat.le_of_ble_eq_true rfl⟩ ⟨Nat.le_of_ble_eq_true rfl, Nat.le_of_ble_eq_true rfl⟩ rfl rfl (Nat.le_of_ble_eq_true rfl) dL_law_402 (fun r2 u2 H locs hp hw => ?_)
      obtain ⟨q1, q2⟩ := hp; subst r2; subst u2
      refine lv_icmp_eq (tgt := 854) hx hb dL_law_405 (by decide) (fun c9 => ?_) (fun c9 => absurd rfl c9)
      exact hend h2 hI2 _ _ _ hw hl
    by_cases hk10 : v = 10
    · refine lv_tableIn (off := 378) (tgt := 410) hx hb dL_law_32 (by rw [hk10]; decide) (by rw [hk10]; decide) (by rw [hk10]; decide) (by decide) ?_
      obtain ⟨r, h1, h2, e1, e2, hI2⟩ := step_leave h hI (xs ((nI (4 * j)) + 1).toNatClampNeg)
      refine lv_aload_n hx hb dL_law_410 rfl (lv_at hl 1 rfl) ?_
      refine lv_aload_n hx hb dL_law_411 rfl (lv_at hl 0 rfl) ?_
      refine lv_iload_n hx hb dL_law_412 rfl (lv_at hl 3 rfl) ?_
      refine lv_iconst (v := 1) hx hb dL_law_413 (by decide) ?_
      refine lv_iadd hx hb dL_law_414 ?_
      refine va_sld hx hb hX hbl hbA hw.2.2 hi1 dL_law_415 ?_
      refine sg_vi (rest := []) (c_X8_leave (b := s.heap.size) hn (a := 0) (by decide) rfl e1) hc hw hz hml hl (a := 0) (by decide) rfl (by decide) rfl cv_L_57 ⟨⟨rfl, rfl⟩, Nat.le_of_ble_eq_true rfl, Nat.le_of_ble_eq_true rfl⟩ ⟨Nat.le_of_ble_eq_true rfl, Nat.le_of_ble_eq_true rfl⟩ rfl rfl (Nat.le_of_ble_eq_true rfl) dL_law_416 (fun r1 u1 H locs hp hw => ?_)
      obtain ⟨q1, q2⟩ := hp; subst r1; subst u1
      refine lv_aload_n hx hb dL_law_419 rfl (lv_at hl 2 rfl) ?_
      refine lv_aload_n hx hb dL_law_420 rfl (lv_at hl 0 rfl) ?_
      refine lv_iload_n hx hb dL_law_421 rfl (lv_at hl 3 rfl) ?_
      refine lv_iconst (v := 1) hx hb dL_law_422 (by decide) ?_
      refine lv_iadd hx hb dL_law_423 ?_
      refine va_sld hx hb hX hbl hbA hw.2.2 hi1 dL_law_424 ?_
      refine sg_vi (rest := [.int r]) (c_X9_leave (b := s.heap.size) hn (a := 133) (by decide) rfl e2) hc hw hz hml hl (a := 133) (by decide) rfl (by decide) rfl cv_L_60 ⟨⟨rfl, rfl⟩, Nat.le_of_ble_eq_true rfl, Nat.le_of_ble_eq_true rfl⟩ ⟨Nat.le_of_ble_eq_true rfl, Nat.le_of_ble_eq_true rfl⟩ rfl rfl (Nat.le_of_ble_eq_true rfl) dL_law_425 (fun r2 u2 H locs hp hw => ?_)
      obtain ⟨q1, q2⟩ := hp; subst r2; subst u2
      refine lv_icmp_eq (tgt := 854) hx hb dL_law_428 (by decide) (fun c9 => ?_) (fun c9 => absurd rfl c9)
      exact hend h2 hI2 _ _ _ hw hl
    by_cases hk11 : v = 11
    · refine lv_tableIn (off := 401) (tgt := 433) hx hb dL_law_32 (by rw [hk11]; decide) (by rw [hk11]; decide) (by rw [hk11]; decide) (by decide) ?_
      obtain ⟨r, h1, h2, e1, e2, hI2⟩ := step_undo h hI
      refine lv_aload_n hx hb dL_law_433 rfl (lv_at hl 1 rfl) ?_
      refine sg_vi (rest := []) (c_X8_undo (b := s.heap.size) hn (a := 0) (by decide) rfl e1) hc hw hz hml hl (a := 0) (by decide) rfl (by decide) rfl cv_L_61 ⟨⟨rfl, rfl⟩, Nat.le_of_ble_eq_true rfl, Nat.le_of_ble_eq_true rfl⟩ ⟨Nat.le_of_ble_eq_true rfl, Nat.le_of_ble_eq_true rfl⟩ rfl rfl (Nat.le_of_ble_eq_true rfl) dL_law_434 (fun r1 u1 H locs hp hw => ?_)
      obtain ⟨q1, q2⟩ := hp; subst r1; subst u1
      refine lv_aload_n hx hb dL_law_437 rfl (lv_at hl 2 rfl) ?_
      refine sg_vi (rest := [.int r]) (c_X9_undo (b := s.heap.size) hn (a := 133) (by decide) rfl e2) hc hw hz hml hl (a := 133) (by decide) rfl (by decide) rfl cv_L_64 ⟨⟨rfl, rfl⟩, Nat.le_of_ble_eq_true rfl, Nat.le_of_ble_eq_true rfl⟩ ⟨Nat.le_of_ble_eq_true rfl, Nat.le_of_ble_eq_true rfl⟩ rfl rfl (Nat.le_of_ble_eq_true rfl) dL_law_438 (fun r2 u2 H locs hp hw => ?_)
      obtain ⟨q1, q2⟩ := hp; subst r2; subst u2
      refine lv_icmp_eq (tgt := 854) hx hb dL_law_441 (by decide) (fun c9 => ?_) (fun c9 => absurd rfl c9)
      exact hend h2 hI2 _ _ _ hw hl
    by_cases hk12 : v = 12
    · refine lv_tableIn (off := 414) (tgt := 446) hx hb dL_law_32 (by rw [hk12]; decide) (by rw [hk12]; decide) (by rw [hk12]; decide) (by decide) ?_
      obtain ⟨r, h1, h2, e1, e2, hI2⟩ := step_best h hI (xs ((nI (4 * j)) + 1).toNatClampNeg) (xs ((nI (4 * j)) + 2).toNatClampNeg)
      refine lv_aload_n hx hb dL_law_446 rfl (lv_at hl 1 rfl) ?_
      refine lv_aload_n hx hb dL_law_447 rfl (lv_at hl 0 rfl) ?_
      refine lv_iload_n hx hb dL_law_448 rfl (lv_at hl 3 rfl) ?_
      refine lv_iconst (v := 1) hx hb dL_law_449 (by decide) ?_
      refine lv_iadd hx hb dL_law_450 ?_
      refine va_sld hx hb hX hbl hbA hw.2.2 hi1 dL_law_451 ?_
      refine lv_aload_n hx hb dL_law_452 rfl (lv_at hl 0 rfl) ?_
      refine lv_iload_n hx hb dL_law_453 rfl (lv_at hl 3 rfl) ?_
      refine lv_iconst (v := 2) hx hb dL_law_454 (by decide) ?_
      refine lv_iadd hx hb dL_law_455 ?_
      refine va_sld hx hb hX hbl hbA hw.2.2 hi2 dL_law_456 ?_
      refine sg_vi (rest := []) (c_X8_best (b := s.heap.size) hn (a := 0) (by decide) rfl e1) hc hw hz hml hl (a := 0) (by decide) rfl (by decide) rfl cv_L_65 ⟨⟨rfl, rfl⟩, Nat.le_of_ble_eq_true rfl, Nat.le_of_ble_eq_true rfl⟩ ⟨Nat.le_of_ble_eq_true rfl, Nat.le_of_ble_eq_true rfl⟩ rfl rfl (Nat.le_of_ble_eq_true rfl) dL_law_457 (fun r1 u1 H locs hp hw => ?_)
      obtain ⟨q1, q2⟩ := hp; subst r1; subst u1
      refine lv_aload_n hx hb dL_law_460 rfl (lv_at hl 2 rfl) ?_
      refine lv_aload_n hx hb dL_law_461 rfl (lv_at hl 0 rfl) ?_
      refine lv_iload_n hx hb dL_law_462 rfl (lv_at hl 3 rfl) ?_
      refine lv_iconst (v := 1) hx hb dL_law_463 (by decide) ?_
      refine lv_iadd hx hb dL_law_464 ?_
      refine va_sld hx hb hX hbl hbA hw.2.2 hi1 dL_law_465 ?_
      refine lv_aload_n hx hb dL_law_466 rfl (lv_at hl 0 rfl) ?_
      refine lv_iload_n hx hb dL_law_467 rfl (lv_at hl 3 rfl) ?_
      refine lv_iconst (v := 2) hx hb dL_law_468 (by decide) ?_
      refine lv_iadd hx hb dL_law_469 ?_
      refine va_sld hx hb hX hbl hbA hw.2.2 hi2 dL_law_470 ?_
      refine sg_vi (rest := [.int r]) (c_X9_best (b := s.heap.size) hn (a := 133) (by decide) rfl e2) hc hw hz hml hl (a := 133) (by decide) rfl (by decide) rfl cv_L_68 ⟨⟨rfl, rfl⟩, Nat.le_of_ble_eq_true rfl, Nat.le_of_ble_eq_true rfl⟩ ⟨Nat.le_of_ble_eq_true rfl, Nat.le_of_ble_eq_true rfl⟩ rfl rfl (Nat.le_of_ble_eq_true rfl) dL_law_471 (fun r2 u2 H locs hp hw => ?_)
      obtain ⟨q1, q2⟩ := hp; subst r2; subst u2
      refine lv_icmp_eq (tgt := 854) hx hb dL_law_474 (by decide) (fun c9 => ?_) (fun c9 => absurd rfl c9)
      exact hend h2 hI2 _ _ _ hw hl
    by_cases hk13 : v = 13
    · refine lv_tableIn (off := 447) (tgt := 479) hx hb dL_law_32 (by rw [hk13]; decide) (by rw [hk13]; decide) (by rw [hk13]; decide) (by decide) ?_
      obtain ⟨r, h1, h2, e1, e2, hI2⟩ := step_safe h hI
      refine lv_aload_n hx hb dL_law_479 rfl (lv_at hl 1 rfl) ?_
      refine sg_vi (rest := []) (c_X8_safe (b := s.heap.size) hn (a := 0) (by decide) rfl e1) hc hw hz hml hl (a := 0) (by decide) rfl (by decide) rfl cv_L_69 ⟨⟨rfl, rfl⟩, Nat.le_of_ble_eq_true rfl, Nat.le_of_ble_eq_true rfl⟩ ⟨Nat.le_of_ble_eq_true rfl, Nat.le_of_ble_eq_true rfl⟩ rfl rfl (Nat.le_of_ble_eq_true rfl) dL_law_480 (fun r1 u1 H locs hp hw => ?_)
      obtain ⟨q1, q2⟩ := hp; subst r1; subst u1
      refine lv_aload_n hx hb dL_law_483 rfl (lv_at hl 2 rfl) ?_
      refine sg_vi (rest := [.int r]) (c_X9_safe (b := s.heap.size) hn (a := 133) (by decide) rfl e2) hc hw hz hml hl (a := 133) (by decide) rfl (by decide) rfl cv_L_72 ⟨⟨rfl, rfl⟩, Nat.le_of_ble_eq_true rfl, Nat.le_of_ble_eq_true rfl⟩ ⟨Nat.le_of_ble_eq_true rfl, Nat.le_of_ble_eq_true rfl⟩ rfl rfl (Nat.le_of_ble_eq_true rfl) dL_law_484 (fun r2 u2 H locs hp hw => ?_)
      obtain ⟨q1, q2⟩ := hp; subst r2; subst u2
      refine lv_icmp_eq (tgt := 854) hx hb dL_law_487 (by decide) (fun c9 => ?_) (fun c9 => absurd rfl c9)
      exact hend h2 hI2 _ _ _ hw hl
    by_cases hk14 : v = 14
    · refine lv_tableIn (off := 460) (tgt := 492) hx hb dL_law_32 (by rw [hk14]; decide) (by rw [hk14]; decide) (by rw [hk14]; decide) (by decide) ?_
      obtain ⟨r, h1, h2, e1, e2, hI2⟩ := step_needed h hI
      refine lv_aload_n hx hb dL_law_492 rfl (lv_at hl 1 rfl) ?_
      refine sg_vi (rest := []) (c_X8_needed (b := s.heap.size) hn (a := 0) (by decide) rfl e1) hc hw hz hml hl (a := 0) (by decide) rfl (by decide) rfl cv_L_73 ⟨⟨rfl, rfl⟩, Nat.le_of_ble_eq_true rfl, Nat.le_of_ble_eq_true rfl⟩ ⟨Nat.le_of_ble_eq_true rfl, Nat.le_of_ble_eq_true rfl⟩ rfl rfl (Nat.le_of_ble_eq_true rfl) dL_law_493 (fun r1 u1 H locs hp hw => ?_)
      obtain ⟨q1, q2⟩ := hp; subst r1; subst u1
      refine lv_aload_n hx hb dL_law_496 rfl (lv_at hl 2 rfl) ?_
      refine sg_vi (rest := [.int r]) (c_X9_needed (b := s.heap.size) hn (a := 133) (by decide) rfl e2) hc hw hz hml hl (a := 133) (by decide) rfl (by decide) rfl cv_L_76 ⟨⟨rfl, rfl⟩, Nat.le_of_ble_eq_true rfl, Nat.le_of_ble_eq_true rfl⟩ ⟨Nat.le_of_ble_eq_true rfl, Nat.le_of_ble_eq_true rfl⟩ rfl rfl (Nat.le_of_ble_eq_true rfl) dL_law_497 (fun r2 u2 H locs hp hw => ?_)
      obtain ⟨q1, q2⟩ := hp; subst r2; subst u2
      refine lv_icmp_eq (tgt := 854) hx hb dL_law_500 (by decide) (fun c9 => ?_) (fun c9 => absurd rfl c9)
      exact hend h2 hI2 _ _ _ hw hl
    by_cases hk15 : v = 15
    · refine lv_tableIn (off := 473) (tgt := 505) hx hb dL_law_32 (by rw [hk15]; decide) (by rw [hk15]; decide) (by rw [hk15]; decide) (by decide) ?_
      obtain ⟨r, h1, h2, e1, e2, hI2⟩ := step_far h hI (xs ((nI (4 * j)) + 1).toNatClampNeg)
      refine lv_aload_n hx hb dL_law_505 rfl (lv_at hl 1 rfl) ?_
      refine lv_aload_n hx hb dL_law_506 rfl (lv_at hl 0 rfl) ?_
      refine lv_iload_n hx hb dL_law_507 rfl (lv_at hl 3 rfl) ?_
      refine lv_iconst (v := 1) hx hb dL_law_508 (by decide) ?_
      refine lv_iadd hx hb dL_law_509 ?_
      refine va_sld hx hb hX hbl hbA hw.2.2 hi1 dL_law_510 ?_
      refine sg_vi (rest := []) (c_X8_far (b := s.heap.size) hn (a := 0) (by decide) rfl e1) hc hw hz hml hl (a := 0) (by decide) rfl (by decide) rfl cv_L_77 ⟨⟨rfl, rfl⟩, Nat.le_of_ble_eq_true rfl, Nat.le_of_ble_eq_true rfl⟩ ⟨Nat.le_of_ble_eq_true rfl, Nat.le_of_ble_eq_true rfl⟩ rfl rfl (Nat.le_of_ble_eq_true rfl) dL_law_511 (fun r1 u1 H locs hp hw => ?_)
      obtain ⟨q1, q2⟩ := hp; subst r1; subst u1
      refine lv_aload_n hx hb dL_law_514 rfl (lv_at hl 2 rfl) ?_
      refine lv_aload_n hx hb dL_law_515 rfl (lv_at hl 0 rfl) ?_
      refine lv_iload_n hx hb dL_law_516 rfl (lv_at hl 3 rfl) ?_
      refine lv_iconst (v := 1) hx hb dL_law_517 (by decide) ?_
      refine lv_iadd hx hb dL_law_518 ?_
      refine va_sld hx hb hX hbl hbA hw.2.2 hi1 dL_law_519 ?_
      refine sg_vi (rest := [.int r]) (c_X9_far (b := s.heap.size) hn (a := 133) (by decide) rfl e2) hc hw hz hml hl (a := 133) (by decide) rfl (by decide) rfl cv_L_80 ⟨⟨rfl, rfl⟩, Nat.le_of_ble_eq_true rfl, Nat.le_of_ble_eq_true rfl⟩ ⟨Nat.le_of_ble_eq_true rfl, Nat.le_of_ble_eq_true rfl⟩ rfl rfl (Nat.le_of_ble_eq_true rfl) dL_law_520 (fun r2 u2 H locs hp hw => ?_)
      obtain ⟨q1, q2⟩ := hp; subst r2; subst u2
      refine lv_icmp_eq (tgt := 854) hx hb dL_law_523 (by decide) (fun c9 => ?_) (fun c9 => absurd rfl c9)
      exact hend h2 hI2 _ _ _ hw hl
    by_cases hk16 : v = 16
    · refine lv_tableIn (off := 496) (tgt := 528) hx hb dL_law_32 (by rw [hk16]; decide) (by rw [hk16]; decide) (by rw [hk16]; decide) (by decide) ?_
      obtain ⟨r, h1, h2, e1, e2, hI2⟩ := step_son h hI (xs ((nI (4 * j)) + 1).toNatClampNeg) (xs ((nI (4 * j)) + 2).toNatClampNeg)
      refine lv_aload_n hx hb dL_law_528 rfl (lv_at hl 1 rfl) ?_
      refine lv_aload_n hx hb dL_law_529 rfl (lv_at hl 0 rfl) ?_
      refine lv_iload_n hx hb dL_law_530 rfl (lv_at hl 3 rfl) ?_
      refine lv_iconst (v := 1) hx hb dL_law_531 (by decide) ?_
      refine lv_iadd hx hb dL_law_532 ?_
      refine va_sld hx hb hX hbl hbA hw.2.2 hi1 dL_law_533 ?_
      refine lv_aload_n hx hb dL_law_534 rfl (lv_at hl 0 rfl) ?_
      refine lv_iload_n hx hb dL_law_535 rfl (lv_at hl 3 rfl) ?_
      refine lv_iconst (v := 2) hx hb dL_law_536 (by decide) ?_
      refine lv_iadd hx hb dL_law_537 ?_
      refine va_sld hx hb hX hbl hbA hw.2.2 hi2 dL_law_538 ?_
      refine sg_vi (rest := []) (c_X8_son (b := s.heap.size) hn (a := 0) (by decide) rfl e1) hc hw hz hml hl (a := 0) (by decide) rfl (by decide) rfl cv_L_81 ⟨⟨rfl, rfl⟩, Nat.le_of_ble_eq_true rfl, Nat.le_of_ble_eq_true rfl⟩ ⟨Nat.le_of_ble_eq_true rfl, Nat.le_of_ble_eq_true rfl⟩ rfl rfl (Nat.le_of_ble_eq_true rfl) dL_law_539 (fun r1 u1 H locs hp hw => ?_)
      obtain ⟨q1, q2⟩ := hp; subst r1; subst u1
      refine lv_aload_n hx hb dL_law_542 rfl (lv_at hl 2 rfl) ?_
      refine lv_aload_n hx hb dL_law_543 rfl (lv_at hl 0 rfl) ?_
      refine lv_iload_n hx hb dL_law_544 rfl (lv_at hl 3 rfl) ?_
      refine lv_iconst (v := 1) hx hb dL_law_545 (by decide) ?_
      refine lv_iadd hx hb dL_law_546 ?_
      refine va_sld hx hb hX hbl hbA hw.2.2 hi1 dL_law_547 ?_
      refine lv_aload_n hx hb dL_law_548 rfl (lv_at hl 0 rfl) ?_
      refine lv_iload_n hx hb dL_law_549 rfl (lv_at hl 3 rfl) ?_
      refine lv_iconst (v := 2) hx hb dL_law_550 (by decide) ?_
      refine lv_iadd hx hb dL_law_551 ?_
      refine va_sld hx hb hX hbl hbA hw.2.2 hi2 dL_law_552 ?_
      refine sg_vi (rest := [.int r]) (c_X9_son (b := s.heap.size) hn (a := 133) (by decide) rfl e2) hc hw hz hml hl (a := 133) (by decide) rfl (by decide) rfl cv_L_84 ⟨⟨rfl, rfl⟩, Nat.le_of_ble_eq_true rfl, Nat.le_of_ble_eq_true rfl⟩ ⟨Nat.le_of_ble_eq_true rfl, Nat.le_of_ble_eq_true rfl⟩ rfl rfl (Nat.le_of_ble_eq_true rfl) dL_law_553 (fun r2 u2 H locs hp hw => ?_)
      obtain ⟨q1, q2⟩ := hp; subst r2; subst u2
      refine lv_icmp_eq (tgt := 854) hx hb dL_law_556 (by decide) (fun c9 => ?_) (fun c9 => absurd rfl c9)
      exact hend h2 hI2 _ _ _ hw hl
    by_cases hk17 : v = 17
    · refine lv_tableIn (off := 529) (tgt := 561) hx hb dL_law_32 (by rw [hk17]; decide) (by rw [hk17]; decide) (by rw [hk17]; decide) (by decide) ?_
      obtain ⟨r, h1, h2, e1, e2, hI2⟩ := step_cairn h hI (xs ((nI (4 * j)) + 1).toNatClampNeg) (xs ((nI (4 * j)) + 2).toNatClampNeg) (xs ((nI (4 * j)) + 3).toNatClampNeg)
      refine lv_aload_n hx hb dL_law_561 rfl (lv_at hl 1 rfl) ?_
      refine lv_aload_n hx hb dL_law_562 rfl (lv_at hl 0 rfl) ?_
      refine lv_iload_n hx hb dL_law_563 rfl (lv_at hl 3 rfl) ?_
      refine lv_iconst (v := 1) hx hb dL_law_564 (by decide) ?_
      refine lv_iadd hx hb dL_law_565 ?_
      refine va_sld hx hb hX hbl hbA hw.2.2 hi1 dL_law_566 ?_
      refine lv_aload_n hx hb dL_law_567 rfl (lv_at hl 0 rfl) ?_
      refine lv_iload_n hx hb dL_law_568 rfl (lv_at hl 3 rfl) ?_
      refine lv_iconst (v := 2) hx hb dL_law_569 (by decide) ?_
      refine lv_iadd hx hb dL_law_570 ?_
      refine va_sld hx hb hX hbl hbA hw.2.2 hi2 dL_law_571 ?_
      refine lv_aload_n hx hb dL_law_572 rfl (lv_at hl 0 rfl) ?_
      refine lv_iload_n hx hb dL_law_573 rfl (lv_at hl 3 rfl) ?_
      refine lv_iconst (v := 3) hx hb dL_law_574 (by decide) ?_
      refine lv_iadd hx hb dL_law_575 ?_
      refine va_sld hx hb hX hbl hbA hw.2.2 hi3 dL_law_576 ?_
      refine sg_vi (rest := []) (c_X8_cairn (b := s.heap.size) hn (a := 0) (by decide) rfl e1) hc hw hz hml hl (a := 0) (by decide) rfl (by decide) rfl cv_L_85 ⟨⟨rfl, rfl⟩, Nat.le_of_ble_eq_true rfl, Nat.le_of_ble_eq_true rfl⟩ ⟨Nat.le_of_ble_eq_true rfl, Nat.le_of_ble_eq_true rfl⟩ rfl rfl (Nat.le_of_ble_eq_true rfl) dL_law_577 (fun r1 u1 H locs hp hw => ?_)
      obtain ⟨q1, q2⟩ := hp; subst r1; subst u1
      refine lv_aload_n hx hb dL_law_580 rfl (lv_at hl 2 rfl) ?_
      refine lv_aload_n hx hb dL_law_581 rfl (lv_at hl 0 rfl) ?_
      refine lv_iload_n hx hb dL_law_582 rfl (lv_at hl 3 rfl) ?_
      refine lv_iconst (v := 1) hx hb dL_law_583 (by decide) ?_
      refine lv_iadd hx hb dL_law_584 ?_
      refine va_sld hx hb hX hbl hbA hw.2.2 hi1 dL_law_585 ?_
      refine lv_aload_n hx hb dL_law_586 rfl (lv_at hl 0 rfl) ?_
      refine lv_iload_n hx hb dL_law_587 rfl (lv_at hl 3 rfl) ?_
      refine lv_iconst (v := 2) hx hb dL_law_588 (by decide) ?_
      refine lv_iadd hx hb dL_law_589 ?_
      refine va_sld hx hb hX hbl hbA hw.2.2 hi2 dL_law_590 ?_
      refine lv_aload_n hx hb dL_law_591 rfl (lv_at hl 0 rfl) ?_
      refine lv_iload_n hx hb dL_law_592 rfl (lv_at hl 3 rfl) ?_
      refine lv_iconst (v := 3) hx hb dL_law_593 (by decide) ?_
      refine lv_iadd hx hb dL_law_594 ?_
      refine va_sld hx hb hX hbl hbA hw.2.2 hi3 dL_law_595 ?_
      refine sg_vi (rest := [.int r]) (c_X9_cairn (b := s.heap.size) hn (a := 133) (by decide) rfl e2) hc hw hz hml hl (a := 133) (by decide) rfl (by decide) rfl cv_L_88 ⟨⟨rfl, rfl⟩, Nat.le_of_ble_eq_true rfl, Nat.le_of_ble_eq_true rfl⟩ ⟨Nat.le_of_ble_eq_true rfl, Nat.le_of_ble_eq_true rfl⟩ rfl rfl (Nat.le_of_ble_eq_true rfl) dL_law_596 (fun r2 u2 H locs hp hw => ?_)
      obtain ⟨q1, q2⟩ := hp; subst r2; subst u2
      refine lv_icmp_eq (tgt := 854) hx hb dL_law_599 (by decide) (fun c9 => ?_) (fun c9 => absurd rfl c9)
      exact hend h2 hI2 _ _ _ hw hl
    by_cases hk18 : v = 18
    · refine lv_tableIn (off := 572) (tgt := 604) hx hb dL_law_32 (by rw [hk18]; decide) (by rw [hk18]; decide) (by rw [hk18]; decide) (by decide) ?_
      obtain ⟨r, h2, e1, e2, hI2⟩ := step_heir h hI (xs ((nI (4 * j)) + 1).toNatClampNeg)
      refine lv_aload_n hx hb dL_law_604 rfl (lv_at hl 1 rfl) ?_
      refine lv_aload_n hx hb dL_law_605 rfl (lv_at hl 0 rfl) ?_
      refine lv_iload_n hx hb dL_law_606 rfl (lv_at hl 3 rfl) ?_
      refine lv_iconst (v := 1) hx hb dL_law_607 (by decide) ?_
      refine lv_iadd hx hb dL_law_608 ?_
      refine va_sld hx hb hX hbl hbA hw.2.2 hi1 dL_law_609 ?_
      refine sg_vi (rest := []) (c_X8_heir (b := s.heap.size) hn (a := 0) (by decide) rfl e1) hc hw hz hml hl (a := 0) (by decide) rfl (by decide) rfl cv_L_89 ⟨⟨rfl, rfl⟩, Nat.le_of_ble_eq_true rfl, Nat.le_of_ble_eq_true rfl⟩ ⟨Nat.le_of_ble_eq_true rfl, Nat.le_of_ble_eq_true rfl⟩ rfl rfl (Nat.le_of_ble_eq_true rfl) dL_law_610 (fun r1 u1 H locs hp hw => ?_)
      obtain ⟨q1, q2⟩ := hp; subst r1; subst u1
      refine lv_aload_n hx hb dL_law_613 rfl (lv_at hl 2 rfl) ?_
      refine lv_aload_n hx hb dL_law_614 rfl (lv_at hl 0 rfl) ?_
      refine lv_iload_n hx hb dL_law_615 rfl (lv_at hl 3 rfl) ?_
      refine lv_iconst (v := 1) hx hb dL_law_616 (by decide) ?_
      refine lv_iadd hx hb dL_law_617 ?_
      refine va_sld hx hb hX hbl hbA hw.2.2 hi1 dL_law_618 ?_
      refine sg_vi (rest := [.int r]) (c_X9_heir (b := s.heap.size) hn (a := 133) (by decide) rfl e2) hc hw hz hml hl (a := 133) (by decide) rfl (by decide) rfl cv_L_92 ⟨⟨rfl, rfl⟩, Nat.le_of_ble_eq_true rfl, Nat.le_of_ble_eq_true rfl⟩ ⟨Nat.le_of_ble_eq_true rfl, Nat.le_of_ble_eq_true rfl⟩ rfl rfl (Nat.le_of_ble_eq_true rfl) dL_law_619 (fun r2 u2 H locs hp hw => ?_)
      obtain ⟨q1, q2⟩ := hp; subst r2; subst u2
      refine lv_icmp_eq (tgt := 854) hx hb dL_law_622 (by decide) (fun c9 => ?_) (fun c9 => absurd rfl c9)
      exact hend h2 hI2 _ _ _ hw hl
    by_cases hk19 : v = 19
    · refine lv_tableIn (off := 595) (tgt := 627) hx hb dL_law_32 (by rw [hk19]; decide) (by rw [hk19]; decide) (by rw [hk19]; decide) (by decide) ?_
      obtain ⟨r, h1, h2, e1, e2, hI2⟩ := step_rests h hI (xs ((nI (4 * j)) + 1).toNatClampNeg) (xs ((nI (4 * j)) + 2).toNatClampNeg) (xs ((nI (4 * j)) + 3).toNatClampNeg)
      refine lv_aload_n hx hb dL_law_627 rfl (lv_at hl 1 rfl) ?_
      refine lv_aload_n hx hb dL_law_628 rfl (lv_at hl 0 rfl) ?_
      refine lv_iload_n hx hb dL_law_629 rfl (lv_at hl 3 rfl) ?_
      refine lv_iconst (v := 1) hx hb dL_law_630 (by decide) ?_
      refine lv_iadd hx hb dL_law_631 ?_
      refine va_sld hx hb hX hbl hbA hw.2.2 hi1 dL_law_632 ?_
      refine lv_aload_n hx hb dL_law_633 rfl (lv_at hl 0 rfl) ?_
      refine lv_iload_n hx hb dL_law_634 rfl (lv_at hl 3 rfl) ?_
      refine lv_iconst (v := 2) hx hb dL_law_635 (by decide) ?_
      refine lv_iadd hx hb dL_law_636 ?_
      refine va_sld hx hb hX hbl hbA hw.2.2 hi2 dL_law_637 ?_
      refine lv_aload_n hx hb dL_law_638 rfl (lv_at hl 0 rfl) ?_
      refine lv_iload_n hx hb dL_law_639 rfl (lv_at hl 3 rfl) ?_
      refine lv_iconst (v := 3) hx hb dL_law_640 (by decide) ?_
      refine lv_iadd hx hb dL_law_641 ?_
      refine va_sld hx hb hX hbl hbA hw.2.2 hi3 dL_law_642 ?_
      refine sg_vi (rest := []) (c_X8_rests (b := s.heap.size) hn (a := 0) (by decide) rfl e1) hc hw hz hml hl (a := 0) (by decide) rfl (by decide) rfl cv_L_93 ⟨⟨rfl, rfl⟩, Nat.le_of_ble_eq_true rfl, Nat.le_of_ble_eq_true rfl⟩ ⟨Nat.le_of_ble_eq_true rfl, Nat.le_of_ble_eq_true rfl⟩ rfl rfl (Nat.le_of_ble_eq_true rfl) dL_law_643 (fun r1 u1 H locs hp hw => ?_)
      obtain ⟨q1, q2⟩ := hp; subst r1; subst u1
      refine lv_aload_n hx hb dL_law_646 rfl (lv_at hl 2 rfl) ?_
      refine lv_aload_n hx hb dL_law_647 rfl (lv_at hl 0 rfl) ?_
      refine lv_iload_n hx hb dL_law_648 rfl (lv_at hl 3 rfl) ?_
      refine lv_iconst (v := 1) hx hb dL_law_649 (by decide) ?_
      refine lv_iadd hx hb dL_law_650 ?_
      refine va_sld hx hb hX hbl hbA hw.2.2 hi1 dL_law_651 ?_
      refine lv_aload_n hx hb dL_law_652 rfl (lv_at hl 0 rfl) ?_
      refine lv_iload_n hx hb dL_law_653 rfl (lv_at hl 3 rfl) ?_
      refine lv_iconst (v := 2) hx hb dL_law_654 (by decide) ?_
      refine lv_iadd hx hb dL_law_655 ?_
      refine va_sld hx hb hX hbl hbA hw.2.2 hi2 dL_law_656 ?_
      refine lv_aload_n hx hb dL_law_657 rfl (lv_at hl 0 rfl) ?_
      refine lv_iload_n hx hb dL_law_658 rfl (lv_at hl 3 rfl) ?_
      refine lv_iconst (v := 3) hx hb dL_law_659 (by decide) ?_
      refine lv_iadd hx hb dL_law_660 ?_
      refine va_sld hx hb hX hbl hbA hw.2.2 hi3 dL_law_661 ?_
      refine sg_vi (rest := [.int r]) (c_X9_rests (b := s.heap.size) hn (a := 133) (by decide) rfl e2) hc hw hz hml hl (a := 133) (by decide) rfl (by decide) rfl cv_L_96 ⟨⟨rfl, rfl⟩, Nat.le_of_ble_eq_true rfl, Nat.le_of_ble_eq_true rfl⟩ ⟨Nat.le_of_ble_eq_true rfl, Nat.le_of_ble_eq_true rfl⟩ rfl rfl (Nat.le_of_ble_eq_true rfl) dL_law_662 (fun r2 u2 H locs hp hw => ?_)
      obtain ⟨q1, q2⟩ := hp; subst r2; subst u2
      refine lv_icmp_eq (tgt := 854) hx hb dL_law_665 (by decide) (fun c9 => ?_) (fun c9 => absurd rfl c9)
      exact hend h2 hI2 _ _ _ hw hl
    by_cases hk20 : v = 20
    · refine lv_tableIn (off := 638) (tgt := 670) hx hb dL_law_32 (by rw [hk20]; decide) (by rw [hk20]; decide) (by rw [hk20]; decide) (by decide) ?_
      obtain ⟨r, h1, h2, e1, e2, hI2⟩ := step_print h hI (xs ((nI (4 * j)) + 1).toNatClampNeg) (xs ((nI (4 * j)) + 2).toNatClampNeg)
      refine lv_aload_n hx hb dL_law_670 rfl (lv_at hl 1 rfl) ?_
      refine lv_aload_n hx hb dL_law_671 rfl (lv_at hl 0 rfl) ?_
      refine lv_iload_n hx hb dL_law_672 rfl (lv_at hl 3 rfl) ?_
      refine lv_iconst (v := 1) hx hb dL_law_673 (by decide) ?_
      refine lv_iadd hx hb dL_law_674 ?_
      refine va_sld hx hb hX hbl hbA hw.2.2 hi1 dL_law_675 ?_
      refine lv_aload_n hx hb dL_law_676 rfl (lv_at hl 0 rfl) ?_
      refine lv_iload_n hx hb dL_law_677 rfl (lv_at hl 3 rfl) ?_
      refine lv_iconst (v := 2) hx hb dL_law_678 (by decide) ?_
      refine lv_iadd hx hb dL_law_679 ?_
      refine va_sld hx hb hX hbl hbA hw.2.2 hi2 dL_law_680 ?_
      refine sg_vi (rest := []) (c_X8_print (b := s.heap.size) hn (a := 0) (by decide) rfl e1) hc hw hz hml hl (a := 0) (by decide) rfl (by decide) rfl cv_L_97 ⟨⟨rfl, rfl⟩, Nat.le_of_ble_eq_true rfl, Nat.le_of_ble_eq_true rfl⟩ ⟨Nat.le_of_ble_eq_true rfl, Nat.le_of_ble_eq_true rfl⟩ rfl rfl (Nat.le_of_ble_eq_true rfl) dL_law_681 (fun r1 u1 H locs hp hw => ?_)
      obtain ⟨q1, q2⟩ := hp; subst r1; subst u1
      refine lv_aload_n hx hb dL_law_684 rfl (lv_at hl 2 rfl) ?_
      refine lv_aload_n hx hb dL_law_685 rfl (lv_at hl 0 rfl) ?_
      refine lv_iload_n hx hb dL_law_686 rfl (lv_at hl 3 rfl) ?_
      refine lv_iconst (v := 1) hx hb dL_law_687 (by decide) ?_
      refine lv_iadd hx hb dL_law_688 ?_
      refine va_sld hx hb hX hbl hbA hw.2.2 hi1 dL_law_689 ?_
      refine lv_aload_n hx hb dL_law_690 rfl (lv_at hl 0 rfl) ?_
      refine lv_iload_n hx hb dL_law_691 rfl (lv_at hl 3 rfl) ?_
      refine lv_iconst (v := 2) hx hb dL_law_692 (by decide) ?_
      refine lv_iadd hx hb dL_law_693 ?_
      refine va_sld hx hb hX hbl hbA hw.2.2 hi2 dL_law_694 ?_
      refine sg_vi (rest := [.int r]) (c_X9_print (b := s.heap.size) hn (a := 133) (by decide) rfl e2) hc hw hz hml hl (a := 133) (by decide) rfl (by decide) rfl cv_L_100 ⟨⟨rfl, rfl⟩, Nat.le_of_ble_eq_true rfl, Nat.le_of_ble_eq_true rfl⟩ ⟨Nat.le_of_ble_eq_true rfl, Nat.le_of_ble_eq_true rfl⟩ rfl rfl (Nat.le_of_ble_eq_true rfl) dL_law_695 (fun r2 u2 H locs hp hw => ?_)
      obtain ⟨q1, q2⟩ := hp; subst r2; subst u2
      refine lv_icmp_eq (tgt := 854) hx hb dL_law_698 (by decide) (fun c9 => ?_) (fun c9 => absurd rfl c9)
      exact hend h2 hI2 _ _ _ hw hl
    by_cases hk21 : v = 21
    · refine lv_tableIn (off := 671) (tgt := 703) hx hb dL_law_32 (by rw [hk21]; decide) (by rw [hk21]; decide) (by rw [hk21]; decide) (by decide) ?_
      obtain ⟨r, h1, h2, e1, e2, hI2⟩ := step_forget h hI
      refine lv_aload_n hx hb dL_law_703 rfl (lv_at hl 1 rfl) ?_
      refine sg_vi (rest := []) (c_X8_forget (b := s.heap.size) hn (a := 0) (by decide) rfl e1) hc hw hz hml hl (a := 0) (by decide) rfl (by decide) rfl cv_L_101 ⟨⟨rfl, rfl⟩, Nat.le_of_ble_eq_true rfl, Nat.le_of_ble_eq_true rfl⟩ ⟨Nat.le_of_ble_eq_true rfl, Nat.le_of_ble_eq_true rfl⟩ rfl rfl (Nat.le_of_ble_eq_true rfl) dL_law_704 (fun r1 u1 H locs hp hw => ?_)
      obtain ⟨q1, q2⟩ := hp; subst r1; subst u1
      refine lv_aload_n hx hb dL_law_707 rfl (lv_at hl 2 rfl) ?_
      refine sg_vi (rest := [.int r]) (c_X9_forget (b := s.heap.size) hn (a := 133) (by decide) rfl e2) hc hw hz hml hl (a := 133) (by decide) rfl (by decide) rfl cv_L_104 ⟨⟨rfl, rfl⟩, Nat.le_of_ble_eq_true rfl, Nat.le_of_ble_eq_true rfl⟩ ⟨Nat.le_of_ble_eq_true rfl, Nat.le_of_ble_eq_true rfl⟩ rfl rfl (Nat.le_of_ble_eq_true rfl) dL_law_708 (fun r2 u2 H locs hp hw => ?_)
      obtain ⟨q1, q2⟩ := hp; subst r2; subst u2
      refine lv_icmp_eq (tgt := 854) hx hb dL_law_711 (by decide) (fun c9 => ?_) (fun c9 => absurd rfl c9)
      exact hend h2 hI2 _ _ _ hw hl
    by_cases hk22 : v = 22
    · refine lv_tableIn (off := 684) (tgt := 716) hx hb dL_law_32 (by rw [hk22]; decide) (by rw [hk22]; decide) (by rw [hk22]; decide) (by decide) ?_
      obtain ⟨r, h1, h2, e1, e2, hI2⟩ := step_failed h hI
      refine lv_aload_n hx hb dL_law_716 rfl (lv_at hl 1 rfl) ?_
      refine sg_vi (rest := []) (c_X8_failed (b := s.heap.size) hn (a := 0) (by decide) rfl e1) hc hw hz hml hl (a := 0) (by decide) rfl (by decide) rfl cv_L_105 ⟨⟨rfl, rfl⟩, Nat.le_of_ble_eq_true rfl, Nat.le_of_ble_eq_true rfl⟩ ⟨Nat.le_of_ble_eq_true rfl, Nat.le_of_ble_eq_true rfl⟩ rfl rfl (Nat.le_of_ble_eq_true rfl) dL_law_717 (fun r1 u1 H locs hp hw => ?_)
      obtain ⟨q1, q2⟩ := hp; subst r1; subst u1
      refine lv_aload_n hx hb dL_law_720 rfl (lv_at hl 2 rfl) ?_
      refine sg_vi (rest := [.int r]) (c_X9_failed (b := s.heap.size) hn (a := 133) (by decide) rfl e2) hc hw hz hml hl (a := 133) (by decide) rfl (by decide) rfl cv_L_108 ⟨⟨rfl, rfl⟩, Nat.le_of_ble_eq_true rfl, Nat.le_of_ble_eq_true rfl⟩ ⟨Nat.le_of_ble_eq_true rfl, Nat.le_of_ble_eq_true rfl⟩ rfl rfl (Nat.le_of_ble_eq_true rfl) dL_law_721 (fun r2 u2 H locs hp hw => ?_)
      obtain ⟨q1, q2⟩ := hp; subst r2; subst u2
      refine lv_icmp_eq (tgt := 854) hx hb dL_law_724 (by decide) (fun c9 => ?_) (fun c9 => absurd rfl c9)
      exact hend h2 hI2 _ _ _ hw hl
    by_cases hk23 : v = 23
    · refine lv_tableIn (off := 697) (tgt := 729) hx hb dL_law_32 (by rw [hk23]; decide) (by rw [hk23]; decide) (by rw [hk23]; decide) (by decide) ?_
      obtain ⟨r, h1, h2, e1, e2, hI2⟩ := step_odds h hI (xs ((nI (4 * j)) + 1).toNatClampNeg) (xs ((nI (4 * j)) + 2).toNatClampNeg) (xs ((nI (4 * j)) + 3).toNatClampNeg)
      refine lv_aload_n hx hb dL_law_729 rfl (lv_at hl 1 rfl) ?_
      refine lv_aload_n hx hb dL_law_730 rfl (lv_at hl 0 rfl) ?_
      refine lv_iload_n hx hb dL_law_731 rfl (lv_at hl 3 rfl) ?_
      refine lv_iconst (v := 1) hx hb dL_law_732 (by decide) ?_
      refine lv_iadd hx hb dL_law_733 ?_
      refine va_sld hx hb hX hbl hbA hw.2.2 hi1 dL_law_734 ?_
      refine lv_aload_n hx hb dL_law_735 rfl (lv_at hl 0 rfl) ?_
      refine lv_iload_n hx hb dL_law_736 rfl (lv_at hl 3 rfl) ?_
      refine lv_iconst (v := 2) hx hb dL_law_737 (by decide) ?_
      refine lv_iadd hx hb dL_law_738 ?_
      refine va_sld hx hb hX hbl hbA hw.2.2 hi2 dL_law_739 ?_
      refine lv_aload_n hx hb dL_law_740 rfl (lv_at hl 0 rfl) ?_
      refine lv_iload_n hx hb dL_law_741 rfl (lv_at hl 3 rfl) ?_
      refine lv_iconst (v := 3) hx hb dL_law_742 (by decide) ?_
      refine lv_iadd hx hb dL_law_743 ?_
      refine va_sld hx hb hX hbl hbA hw.2.2 hi3 dL_law_744 ?_
      refine sg_vi (rest := []) (c_X8_odds (b := s.heap.size) hn (a := 0) (by decide) rfl e1) hc hw hz hml hl (a := 0) (by decide) rfl (by decide) rfl cv_L_109 ⟨⟨rfl, rfl⟩, Nat.le_of_ble_eq_true rfl, Nat.le_of_ble_eq_true rfl⟩ ⟨Nat.le_of_ble_eq_true rfl, Nat.le_of_ble_eq_true rfl⟩ rfl rfl (Nat.le_of_ble_eq_true rfl) dL_law_745 (fun r1 u1 H locs hp hw => ?_)
      obtain ⟨q1, q2⟩ := hp; subst r1; subst u1
      refine lv_aload_n hx hb dL_law_748 rfl (lv_at hl 2 rfl) ?_
      refine lv_aload_n hx hb dL_law_749 rfl (lv_at hl 0 rfl) ?_
      refine lv_iload_n hx hb dL_law_750 rfl (lv_at hl 3 rfl) ?_
      refine lv_iconst (v := 1) hx hb dL_law_751 (by decide) ?_
      refine lv_iadd hx hb dL_law_752 ?_
      refine va_sld hx hb hX hbl hbA hw.2.2 hi1 dL_law_753 ?_
      refine lv_aload_n hx hb dL_law_754 rfl (lv_at hl 0 rfl) ?_
      refine lv_iload_n hx hb dL_law_755 rfl (lv_at hl 3 rfl) ?_
      refine lv_iconst (v := 2) hx hb dL_law_756 (by decide) ?_
      refine lv_iadd hx hb dL_law_757 ?_
      refine va_sld hx hb hX hbl hbA hw.2.2 hi2 dL_law_758 ?_
      refine lv_aload_n hx hb dL_law_759 rfl (lv_at hl 0 rfl) ?_
      refine lv_iload_n hx hb dL_law_760 rfl (lv_at hl 3 rfl) ?_
      refine lv_iconst (v := 3) hx hb dL_law_761 (by decide) ?_
      refine lv_iadd hx hb dL_law_762 ?_
      refine va_sld hx hb hX hbl hbA hw.2.2 hi3 dL_law_763 ?_
      refine sg_vi (rest := [.int r]) (c_X9_odds (b := s.heap.size) hn (a := 133) (by decide) rfl e2) hc hw hz hml hl (a := 133) (by decide) rfl (by decide) rfl cv_L_112 ⟨⟨rfl, rfl⟩, Nat.le_of_ble_eq_true rfl, Nat.le_of_ble_eq_true rfl⟩ ⟨Nat.le_of_ble_eq_true rfl, Nat.le_of_ble_eq_true rfl⟩ rfl rfl (Nat.le_of_ble_eq_true rfl) dL_law_764 (fun r2 u2 H locs hp hw => ?_)
      obtain ⟨q1, q2⟩ := hp; subst r2; subst u2
      refine lv_icmp_eq (tgt := 854) hx hb dL_law_767 (by decide) (fun c9 => ?_) (fun c9 => absurd rfl c9)
      exact hend h2 hI2 _ _ _ hw hl
    by_cases hk24 : v = 24
    · refine lv_tableIn (off := 740) (tgt := 772) hx hb dL_law_32 (by rw [hk24]; decide) (by rw [hk24]; decide) (by rw [hk24]; decide) (by decide) ?_
      obtain ⟨r, h1, h2, e1, e2, hI2⟩ := step_rain h hI (xs ((nI (4 * j)) + 1).toNatClampNeg) (xs ((nI (4 * j)) + 2).toNatClampNeg)
      refine lv_aload_n hx hb dL_law_772 rfl (lv_at hl 1 rfl) ?_
      refine lv_aload_n hx hb dL_law_773 rfl (lv_at hl 0 rfl) ?_
      refine lv_iload_n hx hb dL_law_774 rfl (lv_at hl 3 rfl) ?_
      refine lv_iconst (v := 1) hx hb dL_law_775 (by decide) ?_
      refine lv_iadd hx hb dL_law_776 ?_
      refine va_sld hx hb hX hbl hbA hw.2.2 hi1 dL_law_777 ?_
      refine lv_aload_n hx hb dL_law_778 rfl (lv_at hl 0 rfl) ?_
      refine lv_iload_n hx hb dL_law_779 rfl (lv_at hl 3 rfl) ?_
      refine lv_iconst (v := 2) hx hb dL_law_780 (by decide) ?_
      refine lv_iadd hx hb dL_law_781 ?_
      refine va_sld hx hb hX hbl hbA hw.2.2 hi2 dL_law_782 ?_
      refine sg_vi (rest := []) (c_X8_rain (b := s.heap.size) hn (a := 0) (by decide) rfl e1) hc hw hz hml hl (a := 0) (by decide) rfl (by decide) rfl cv_L_113 ⟨⟨rfl, rfl⟩, Nat.le_of_ble_eq_true rfl, Nat.le_of_ble_eq_true rfl⟩ ⟨Nat.le_of_ble_eq_true rfl, Nat.le_of_ble_eq_true rfl⟩ rfl rfl (Nat.le_of_ble_eq_true rfl) dL_law_783 (fun r1 u1 H locs hp hw => ?_)
      obtain ⟨q1, q2⟩ := hp; subst r1; subst u1
      refine lv_aload_n hx hb dL_law_786 rfl (lv_at hl 2 rfl) ?_
      refine lv_aload_n hx hb dL_law_787 rfl (lv_at hl 0 rfl) ?_
      refine lv_iload_n hx hb dL_law_788 rfl (lv_at hl 3 rfl) ?_
      refine lv_iconst (v := 1) hx hb dL_law_789 (by decide) ?_
      refine lv_iadd hx hb dL_law_790 ?_
      refine va_sld hx hb hX hbl hbA hw.2.2 hi1 dL_law_791 ?_
      refine lv_aload_n hx hb dL_law_792 rfl (lv_at hl 0 rfl) ?_
      refine lv_iload_n hx hb dL_law_793 rfl (lv_at hl 3 rfl) ?_
      refine lv_iconst (v := 2) hx hb dL_law_794 (by decide) ?_
      refine lv_iadd hx hb dL_law_795 ?_
      refine va_sld hx hb hX hbl hbA hw.2.2 hi2 dL_law_796 ?_
      refine sg_vi (rest := [.int r]) (c_X9_rain (b := s.heap.size) hn (a := 133) (by decide) rfl e2) hc hw hz hml hl (a := 133) (by decide) rfl (by decide) rfl cv_L_116 ⟨⟨rfl, rfl⟩, Nat.le_of_ble_eq_true rfl, Nat.le_of_ble_eq_true rfl⟩ ⟨Nat.le_of_ble_eq_true rfl, Nat.le_of_ble_eq_true rfl⟩ rfl rfl (Nat.le_of_ble_eq_true rfl) dL_law_797 (fun r2 u2 H locs hp hw => ?_)
      obtain ⟨q1, q2⟩ := hp; subst r2; subst u2
      refine lv_icmp_eq (tgt := 854) hx hb dL_law_800 (by decide) (fun c9 => ?_) (fun c9 => absurd rfl c9)
      exact hend h2 hI2 _ _ _ hw hl
    by_cases hk25 : v = 25
    · refine lv_tableIn (off := 773) (tgt := 805) hx hb dL_law_32 (by rw [hk25]; decide) (by rw [hk25]; decide) (by rw [hk25]; decide) (by decide) ?_
      obtain ⟨r, h1, h2, e1, e2, hI2⟩ := step_keep h hI
      refine lv_aload_n hx hb dL_law_805 rfl (lv_at hl 1 rfl) ?_
      refine sg_vi (rest := []) (c_X8_keep (b := s.heap.size) hn (a := 0) (by decide) rfl e1) hc hw hz hml hl (a := 0) (by decide) rfl (by decide) rfl cv_L_117 ⟨⟨rfl, rfl⟩, Nat.le_of_ble_eq_true rfl, Nat.le_of_ble_eq_true rfl⟩ ⟨Nat.le_of_ble_eq_true rfl, Nat.le_of_ble_eq_true rfl⟩ rfl rfl (Nat.le_of_ble_eq_true rfl) dL_law_806 (fun r1 u1 H locs hp hw => ?_)
      obtain ⟨q1, q2⟩ := hp; subst r1; subst u1
      refine lv_aload_n hx hb dL_law_809 rfl (lv_at hl 2 rfl) ?_
      refine sg_vi (rest := [.int r]) (c_X9_keep (b := s.heap.size) hn (a := 133) (by decide) rfl e2) hc hw hz hml hl (a := 133) (by decide) rfl (by decide) rfl cv_L_120 ⟨⟨rfl, rfl⟩, Nat.le_of_ble_eq_true rfl, Nat.le_of_ble_eq_true rfl⟩ ⟨Nat.le_of_ble_eq_true rfl, Nat.le_of_ble_eq_true rfl⟩ rfl rfl (Nat.le_of_ble_eq_true rfl) dL_law_810 (fun r2 u2 H locs hp hw => ?_)
      obtain ⟨q1, q2⟩ := hp; subst r2; subst u2
      refine lv_icmp_eq (tgt := 854) hx hb dL_law_813 (by decide) (fun c9 => ?_) (fun c9 => absurd rfl c9)
      exact hend h2 hI2 _ _ _ hw hl
    by_cases hk26 : v = 26
    · refine lv_tableIn (off := 786) (tgt := 818) hx hb dL_law_32 (by rw [hk26]; decide) (by rw [hk26]; decide) (by rw [hk26]; decide) (by decide) ?_
      obtain ⟨r, h1, h2, e1, e2, hI2⟩ := step_back h hI
      refine lv_aload_n hx hb dL_law_818 rfl (lv_at hl 1 rfl) ?_
      refine sg_vi (rest := []) (c_X8_back (b := s.heap.size) hn (a := 0) (by decide) rfl e1) hc hw hz hml hl (a := 0) (by decide) rfl (by decide) rfl cv_L_121 ⟨⟨rfl, rfl⟩, Nat.le_of_ble_eq_true rfl, Nat.le_of_ble_eq_true rfl⟩ ⟨Nat.le_of_ble_eq_true rfl, Nat.le_of_ble_eq_true rfl⟩ rfl rfl (Nat.le_of_ble_eq_true rfl) dL_law_819 (fun r1 u1 H locs hp hw => ?_)
      obtain ⟨q1, q2⟩ := hp; subst r1; subst u1
      refine lv_aload_n hx hb dL_law_822 rfl (lv_at hl 2 rfl) ?_
      refine sg_vi (rest := [.int r]) (c_X9_back (b := s.heap.size) hn (a := 133) (by decide) rfl e2) hc hw hz hml hl (a := 133) (by decide) rfl (by decide) rfl cv_L_124 ⟨⟨rfl, rfl⟩, Nat.le_of_ble_eq_true rfl, Nat.le_of_ble_eq_true rfl⟩ ⟨Nat.le_of_ble_eq_true rfl, Nat.le_of_ble_eq_true rfl⟩ rfl rfl (Nat.le_of_ble_eq_true rfl) dL_law_823 (fun r2 u2 H locs hp hw => ?_)
      obtain ⟨q1, q2⟩ := hp; subst r2; subst u2
      refine lv_icmp_eq (tgt := 854) hx hb dL_law_826 (by decide) (fun c9 => ?_) (fun c9 => absurd rfl c9)
      exact hend h2 hI2 _ _ _ hw hl
    by_cases hk27 : v = 27
    · refine lv_tableIn (off := 799) (tgt := 831) hx hb dL_law_32 (by rw [hk27]; decide) (by rw [hk27]; decide) (by rw [hk27]; decide) (by decide) ?_
      obtain ⟨r, e1, e2⟩ := step_count h hI (xs ((nI (4 * j)) + 1).toNatClampNeg)
      refine lv_aload_n hx hb dL_law_831 rfl (lv_at hl 1 rfl) ?_
      refine lv_aload_n hx hb dL_law_832 rfl (lv_at hl 0 rfl) ?_
      refine lv_iload_n hx hb dL_law_833 rfl (lv_at hl 3 rfl) ?_
      refine lv_iconst (v := 1) hx hb dL_law_834 (by decide) ?_
      refine lv_iadd hx hb dL_law_835 ?_
      refine va_sld hx hb hX hbl hbA hw.2.2 hi1 dL_law_836 ?_
      refine sg_vi (rest := []) (c_X8_count (b := s.heap.size) hn (a := 0) (by decide) rfl e1) hc hw hz hml hl (a := 0) (by decide) rfl (by decide) rfl cv_L_125 ⟨⟨rfl, rfl⟩, Nat.le_of_ble_eq_true rfl, Nat.le_of_ble_eq_true rfl⟩ ⟨Nat.le_of_ble_eq_true rfl, Nat.le_of_ble_eq_true rfl⟩ rfl rfl (Nat.le_of_ble_eq_true rfl) dL_law_837 (fun r1 u1 H locs hp hw => ?_)
      obtain ⟨q1, q2⟩ := hp; subst r1; subst u1
      refine lv_aload_n hx hb dL_law_840 rfl (lv_at hl 2 rfl) ?_
      refine lv_aload_n hx hb dL_law_841 rfl (lv_at hl 0 rfl) ?_
      refine lv_iload_n hx hb dL_law_842 rfl (lv_at hl 3 rfl) ?_
      refine lv_iconst (v := 1) hx hb dL_law_843 (by decide) ?_
      refine lv_iadd hx hb dL_law_844 ?_
      refine va_sld hx hb hX hbl hbA hw.2.2 hi1 dL_law_845 ?_
      refine sg_vi (rest := [.int r]) (c_X9_count (b := s.heap.size) hn (a := 133) (by decide) rfl e2) hc hw hz hml hl (a := 133) (by decide) rfl (by decide) rfl cv_L_128 ⟨⟨rfl, rfl⟩, Nat.le_of_ble_eq_true rfl, Nat.le_of_ble_eq_true rfl⟩ ⟨Nat.le_of_ble_eq_true rfl, Nat.le_of_ble_eq_true rfl⟩ rfl rfl (Nat.le_of_ble_eq_true rfl) dL_law_846 (fun r2 u2 H locs hp hw => ?_)
      obtain ⟨q1, q2⟩ := hp; subst r2; subst u2
      refine lv_icmp_eq (tgt := 854) hx hb dL_law_849 (by decide) (fun c9 => ?_) (fun c9 => absurd rfl c9)
      exact hend h hI _ _ _ hw hl
    refine lv_tableOut (tgt := 854) hx hb dL_law_32 (by have e0 := sg_ne hk0 (k := 0) (by decide); have e1 := sg_ne hk1 (k := 1) (by decide); have e2 := sg_ne hk2 (k := 2) (by decide); have e3 := sg_ne hk3 (k := 3) (by decide); have e4 := sg_ne hk4 (k := 4) (by decide); have e5 := sg_ne hk5 (k := 5) (by decide); have e6 := sg_ne hk6 (k := 6) (by decide); have e7 := sg_ne hk7 (k := 7) (by decide); have e8 := sg_ne hk8 (k := 8) (by decide); have e9 := sg_ne hk9 (k := 9) (by decide); have e10 := sg_ne hk10 (k := 10) (by decide); have e11 := sg_ne hk11 (k := 11) (by decide); have e12 := sg_ne hk12 (k := 12) (by decide); have e13 := sg_ne hk13 (k := 13) (by decide); have e14 := sg_ne hk14 (k := 14) (by decide); have e15 := sg_ne hk15 (k := 15) (by decide); have e16 := sg_ne hk16 (k := 16) (by decide); have e17 := sg_ne hk17 (k := 17) (by decide); have e18 := sg_ne hk18 (k := 18) (by decide); have e19 := sg_ne hk19 (k := 19) (by decide); have e20 := sg_ne hk20 (k := 20) (by decide); have e21 := sg_ne hk21 (k := 21) (by decide); have e22 := sg_ne hk22 (k := 22) (by decide); have e23 := sg_ne hk23 (k := 23) (by decide); have e24 := sg_ne hk24 (k := 24) (by decide); have e25 := sg_ne hk25 (k := 25) (by decide); have e26 := sg_ne hk26 (k := 26) (by decide); have e27 := sg_ne hk27 (k := 27) (by decide); omega) (by decide) ?_
    exact hend h hI _ _ _ hw hl
