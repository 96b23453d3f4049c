def I_8a (h : HP) : HP := (ur (I_0 121 15 (ur (I_2 118 15 (ur (I_5 95 15 79 (ur (I_7 88 15 (ur (I_7 81 15 (ur (ur (ur (ur (ur (I_3 67 2 (ur (I_3 33 8 (ur (I_6 29 (ur (I_1 22 (ur (I_1 15 (ur (I_4 2 (ur h 0 0 (1 + 1))) 0 2 (2 + 1))) 0 3 (15 + 1))) 0 4 (22 + 1))) 0 5 (29 + 1))) 0 6 (33 + 1))) 0 7 (67 + 1)) 0 8 (77 + 1)) 0 9 (78 + 1)) 0 11 (79 + 1)) 0 12 (80 + 1))) 0 13 (81 + 1))) 0 14 (88 + 1))) 0 15 (95 + 1))) 0 16 (118 + 1))) 0 17 (121 + 1))
def I_8t (g : HP) : Nat → HP
  | 0 => g
  | j + 1 => st (I_8t g j) 1 (nI j) (vp_nar .char (sg_ch j))
theorem sg_Wc.to {D : va_G} {b n : Nat} {cA : Nat → ClassId} {H0 H : Heap} {h : HP} {locs : List Loc} (hw : sg_Wc D b cA n H0 h H locs) (hY : sg_Ty n h.2) : sg_Wo D b cA n H0 h H locs := ⟨hw.1, hY, hw.2.1⟩
theorem sg_Wc.same {D : va_G} {b n : Nat} {cA : Nat → ClassId} {H0 H H1 : Heap} {h : HP} {locs locs1 : List Loc} (hw : sg_Wc D b cA n H0 h H locs) (hk : ∀ q : Nat, q < H.size → ¬ sg_no q → H1[q]? = H[q]?) (hS : va_S (sg_A b) H0 H1 locs1) : sg_Wc D b cA n H0 h H1 locs1 := ⟨hw.1.kept (fun k q hq => hk _ (hw.1 k q hq).lt (fun z => z)), hS, hw.2.2⟩
theorem sg_Wo.ofc {D : va_G} {b n : Nat} {cA : Nat → ClassId} {H0 H : Heap} {h : HP} {locs : List Loc} (hw : sg_Wo D b cA n H0 h H locs) (hZ : ∀ k, n ≤ k → h.1 k = (fun _ => 0) ∧ h.2 k = (fun _ => 0)) : sg_Wc D b cA n H0 h H locs := ⟨hw.1, hw.2.2, hZ⟩
set_option maxHeartbeats 4000000 in
set_option maxRecDepth 100000 in
theorem i_8 {l : Launch} {D : va_G} {cA : Nat → ClassId} {b : Nat} {kK kV : Nat → Nat} {h : HP} {Rz : Int32 × HP} (hTy : sg_Ty 133 (I_8a h).2) (hz8 : ∀ k, 133 ≤ k → (I_8a h).1 k = (fun _ => 0) ∧ (I_8a h).2 k = (fun _ => 0)) (hf : F_X8_layText 0 (ui (I_8t (I_8a h) 92) 0 1 92) = some Rz) : Met l yX8_init (Cond.code yX8_init cX8_init 3 none :: sg_tbl) ({ frames := 6, cells := 132, slots := 2488, locals := 141 } : Room) (va_Pc [.ref (b + 0)] (fun U => sg_Wk D b cA 1 h U ∧ sg_Sk kK kV (sg_A b) U ∧ vk_R "ShoulderHeirs" 97 "s10,0;s8,3;s12,1;b6,0;b3,1;b9,2;b4,3;b4,3;m1;t0,0,9;t1,4,12;t2,10,20;t3,18,29;t4,18,29;x1,2;" (kK 0) U)) (va_Qv (fun u => u = ui Rz.2 0 1 0) (sg_Wd D b cA 133) (sg_A b)) 132 2488 (sg_A b) := by
  refine Met.ofW (cc := cX8_init) (maxL := 3) (ret := none) (by decide) rfl ?_
  intro p e s m args below meth c s₁ B hml hv
  obtain ⟨rfl, ⟨hP, hK, hz, hZ, hN, hov⟩, hsk, hvr⟩ := hv
  have hl := lv_entry [.ref (b + 0)] (n := 3) (Nat.le_of_ble_eq_true rfl)
  rw [lg_entry_eq]
  have hin : meth.name = "<init>" := (name_of_methodNamed B.named B.method).1
  have hc : sg_Cx p s m _ c cX8_init RX8 D cA := ⟨B.exec, B.bytes, findClass_of_methodNamed B.named, fun w h => atoms_spec (ws := Cond.code yX8_init cX8_init 3 none :: sg_tbl) B.pre w (List.mem_cons_of_mem _ h), hK, hN⟩
  have hx := hc.1
  have hb := hc.2.1
  have hown := hc.2.2.1
  have hts := hc.2.2.2.1
  have hw : sg_Wc D b cA 1 s.heap h s.heap [] := ⟨hP, va_S.rf, hZ⟩
  generalize (lg_sl ([.ref (b + 0)]) ++ List.replicate (3 - (lg_sl ([.ref (b + 0)])).length) Slot.unset).toArray = ls at hl ⊢
  have hl : lv_has ls 3 [(0, .ref (b + 0))] := hl
  have hRf : 6 ≤ (headSpec (Cond.code yX8_init cX8_init 3 none :: sg_tbl) ({ frames := 6, cells := 132, slots := 2488, locals := 141 } : Room)).room.frames := Nat.le_refl _
  have hRl : 141 ≤ (headSpec (Cond.code yX8_init cX8_init 3 none :: sg_tbl) ({ frames := 6, cells := 132, slots := 2488, locals := 141 } : Room)).room.locals := Nat.le_refl _
  have hRc : 132 ≤ (headSpec (Cond.code yX8_init cX8_init 3 none :: sg_tbl) ({ frames := 6, cells := 132, slots := 2488, locals := 141 } : Room)).room.cells := Nat.le_refl _
  have hRs : 2488 ≤ (headSpec (Cond.code yX8_init cX8_init 3 none :: sg_tbl) ({ frames := 6, cells := 132, slots := 2488, locals := 141 } : Room)).room.slots := Nat.le_refl _
  generalize (headSpec (Cond.code yX8_init cX8_init 3 none :: sg_tbl) ({ frames := 6, cells := 132, slots := 2488, locals := 141 } : Room)).room = R at hRf hRl hRc hRs ⊢
  have hn : sg_okN 133 := Or.inl rfl
  have hzE : s.heap.size + 132 = b + 133 := by omega
  have END : ∀ (H : Heap) (locs : List Loc) (ls : Array Slot), sg_Wc D b cA 133 s.heap (I_8t (I_8a h) 92) H locs → lv_has ls 3 [(0, .ref (b + 0)), (1, .int 92)] → W p l e R s m (List.toArray [.ref (b + 0)]) below meth c H locs 132 2488 (MQ below (va_Qv (fun u => u = ui Rz.2 0 1 0) (sg_Wd D b cA 133) (sg_A b)) (List.toArray [.ref (b + 0)]) s 132 2488 (sg_A b)) (F0 m 230 ls []) := by
    intro H locs ls hw hl
    have hT2 : (I_8t (I_8a h) 92).2 = (I_8a h).2 := rfl
    have hw : sg_Wo D b cA 133 s.heap (I_8t (I_8a h) 92) H locs := hw.to (by rw [hT2]; exact hTy)
    refine lv_aload_n hx hb dX8_init_230 rfl (lv_at hl 0 rfl) ?_
    refine lv_iload_n hx hb dX8_init_231 rfl (lv_at hl 1 rfl) ?_
    refine sg_puti hc hw (by decide) rfl fp_8_1 rfl rfl k_518 dX8_init_232 (fun H locs hw => ?_)
    refine lv_aload_n hx hb dX8_init_235 rfl (lv_at hl 0 rfl) ?_
    refine sg_vi (rest := []) (c_X8_layText hn (by decide) rfl hf) hc hw hzE hml hl (by decide) rfl (by decide) rfl cv_X8_118 ⟨⟨rfl, rfl⟩, Nat.le_trans (Nat.le_of_ble_eq_true rfl) hRf, Nat.le_trans (Nat.le_of_ble_eq_true rfl) hRl⟩ ⟨hRc, hRs⟩ rfl rfl (Nat.le_of_ble_eq_true rfl) dX8_init_236 (fun r1 h1 H locs hp hw => ?_)
    obtain ⟨e1, e2⟩ := hp; subst h1
    refine lv_pop hx hb dX8_init_239 rfl ?_
    refine lv_aload_n hx hb dX8_init_240 rfl (lv_at hl 0 rfl) ?_
    refine lv_iconst (v := 0) hx hb dX8_init_241 (by decide) ?_
    refine sg_puti hc hw (by decide) rfl fp_8_1 rfl rfl k_518 dX8_init_242 (fun H locs hw => ?_)
    refine sg_size (fun hup => ?_)
    have hsz : H.size = b + 133 := by have := sg_lo hw (by decide); omega
    exact W.vret hx hb B.returns (fun t ht hW => ⟨⟨_, rfl, rfl, by rw [ht]; exact hw.1, va_K.moved hW.alike hK, by rw [ht]; exact hsz, hw.2.1, hN.warm hW⟩, hw.2.2.F ht⟩) hw.2.2.2.2 dX8_init_245 B.notSynchronized
  have hZ8 : ∀ k, 133 ≤ k → (I_8a h).1 k = (fun _ => 0) ∧ (I_8a h).2 k = (fun _ => 0) := hz8
  have LOOP : ∀ (d j : Nat), j + d = 92 → ∀ (H : Heap) (locs : List Loc) (ls : Array Slot), sg_Wc D b cA 133 s.heap (I_8t (I_8a h) j) H locs → lv_has ls 3 [(0, .ref (b + 0)), (1, .int 92), (2, .int (nI j))] → W p l e R s m (List.toArray [.ref (b + 0)]) below meth c H locs 132 2488 (MQ below (va_Qv (fun u => u = ui Rz.2 0 1 0) (sg_Wd D b cA 133) (sg_A b)) (List.toArray [.ref (b + 0)]) s 132 2488 (sg_A b)) (F0 m 207 ls []) := by
    intro d
    induction d with
    | zero =>
      intro j hj H locs ls hw hl
      obtain rfl : j = 92 := by omega
      refine lv_iload_n hx hb dX8_init_207 rfl (lv_at hl 2 rfl) ?_
      refine lv_iload_n hx hb dX8_init_208 rfl (lv_at hl 1 rfl) ?_
      refine lv_icmp_ge (tgt := 230) hx hb dX8_init_209 (by decide) (fun c1 => ?_) (fun c1 => absurd (by decide) c1)
      exact END _ _ _ hw (lv_sub hl [0, 1] rfl)
    | succ d ih =>
      intro j hj H locs ls hw hl
      have hjN : j < 92 := by omega
      refine lv_iload_n hx hb dX8_init_207 rfl (lv_at hl 2 rfl) ?_
      refine lv_iload_n hx hb dX8_init_208 rfl (lv_at hl 1 rfl) ?_
      refine lv_icmp_ge (tgt := 230) hx hb dX8_init_209 (by decide) (fun c1 => absurd c1 (nI_ge hjN (by decide))) (fun c1 => ?_)
      refine lv_aload_n hx hb dX8_init_212 rfl (lv_at hl 0 rfl) ?_
      have h2 : (I_8t (I_8a h) j).2 = (I_8a h).2 := by
        have key : ∀ (g : HP) (k : Nat), (I_8t g k).2 = g.2 := fun g k => by
          induction k with
          | zero => rfl
          | succ k ihk => exact ihk
        exact key _ j
      refine sg_cgetr (q := 1) hc hw (by decide) rfl fr_8_0 k_517 dX8_init_213 (by rw [h2]; rfl) ?_
      refine lv_iload_n hx hb dX8_init_216 rfl (lv_at hl 2 rfl) ?_
      refine va_ldcS hx hb hown hvr dX8_init_217 ?_
      refine lv_iload_n hx hb dX8_init_219 rfl (lv_at hl 2 rfl) ?_
      refine va_calli (va_runV (As := [.int (nI j)]) (rest := [.int (nI j), .ref (b + 1)]) (C := RJ0) ⟨hx, hb, hml, hown, hts⟩ (t_charAt hjN) (cwV 1 hts (sg_good (sg_wv k_335 k_336 k_337 k_10 k_338)) rfl rfl rfl ⟨rfl, by decide, by decide, by decide +kernel⟩ ⟨Nat.le_trans (Nat.le_of_ble_eq_true rfl) hRf, Nat.le_trans (Nat.le_of_ble_eq_true rfl) hRl⟩) ⟨sg_Sblind, vk_recv hsk.1 (i := 0) (by decide) hw.2.1, fun U hU hW => ⟨rfl, (hsk.at hw.2.1 hU hW.alike).narrow (fun q z => z.elim)⟩⟩ rfl rfl hl.1 rfl (lv_room (Nat.le_of_ble_eq_true rfl)) dX8_init_220 ⟨hRc, hRs⟩) hw.2.1 (fun q _ z => z.elim) (fun q z => z.elim) (fun r1 u t H1 locs ht hvm hp hB hz1 hk1 hS => ?_)
      subst hp
      have hw := hw.same hk1 hS
      have hwo : sg_Wo D b cA 133 s.heap (I_8t (I_8a h) j) H1 locs := hw.to (by rw [h2]; exact hTy)
      refine sg_cst (N := 200) hc hwo (by decide) rfl rfl (vp_in_nI (by omega) (by decide)) dX8_init_223 (fun H locs hw => ?_)
      have hw : sg_Wc D b cA 133 s.heap (I_8t (I_8a h) (j + 1)) H locs := hw.ofc (fun k hk => by
        have h9 := hwo
        have hz9 : ∀ (g : HP), (∀ k, 133 ≤ k → g.1 k = (fun _ => 0) ∧ g.2 k = (fun _ => 0)) → ∀ i, ∀ k, 133 ≤ k → (I_8t g i).1 k = (fun _ => 0) ∧ (I_8t g i).2 k = (fun _ => 0) := by
          intro g hg i
          induction i with
          | zero => exact hg
          | succ i ihi =>
            intro k hk
            refine ⟨?_, (ihi k hk).2⟩
            show (if k = 1 then _ else (I_8t g i).1 k) = _
            rw [if_neg (by omega)]
            exact (ihi k hk).1
        exact hz9 _ hZ8 (j + 1) k hk)
      refine lv_iinc (v := nI (j + 1)) (lv' := [(2, .int (nI (j + 1))), (0, .ref (b + 0)), (1, .int 92)]) hx hb dX8_init_224 hl (k := 2) rfl (nI_1 j) (by decide) rfl (fun ls hl => ?_)
      refine lv_goto (tgt := 207) hx hb dX8_init_227 (by decide) ?_
      exact ih (j + 1) (by omega) _ _ _ hw (lv_sub hl [1, 2, 0] rfl)
  refine lv_aload_n hx hb dX8_init_0 rfl (lv_at hl 0 rfl) ?_
  refine sg_cobj hc hml hl k_23 k_24 k_25 (Nat.le_trans (by decide) hRf) (Nat.le_trans (by decide) hRl) dX8_init_1 ?_
  refine lv_aload_n hx hb dX8_init_4 rfl (lv_at hl 0 rfl) ?_
  refine lv_sipush (v := 200) hx hb dX8_init_5 (by decide) ?_
  refine sg_cnewc (n := 1) hc hw (by omega) (by omega) k_95 rfl rfl (by decide) (by decide) (by decide) (Nat.le_trans (Nat.le_of_ble_eq_true rfl) hRc) (Nat.le_trans (Nat.le_of_ble_eq_true rfl) hRs) dX8_init_8 (fun H hw => ?_)
  have hw : sg_Wc D b cA 2 s.heap h H _ := hw
  refine sg_cputF (q := 1) (ty := (.array .char)) hc hw (by omega) rfl fr_8_0 tyX8_ok nmX8 rfl hin rfl (by decide +kernel) rfl rfl k_517 dX8_init_10 (fun H locs hw => ?_)
  refine lv_aload_n hx hb dX8_init_13 rfl (lv_at hl 0 rfl) ?_
  refine sg_cnew (n := 2) hc hw (by omega) (fun h9 => by omega) rfl fn_4 k_26 k_27 k_2 (Nat.le_trans (Nat.le_of_ble_eq_true rfl) hRc) (Nat.le_trans (Nat.le_of_ble_eq_true rfl) hRs) dX8_init_14 (fun H hw => ?_)
  have hw : sg_Wc D b cA 3 s.heap (ur h 0 0 (1 + 1)) H _ := hw
  refine lv_dup hx hb dX8_init_17 rfl ?_
  refine sg_cinitN (k := 0) (rest := [.ref (b + 2), .ref (b + 0)]) (i_4 (a := 2) (by decide) rfl) hc hov hw (by omega) (by omega) hml hl kn_28 k_29 k_2 k_30 rfl ⟨by decide, by decide, by decide +kernel⟩ ⟨⟨rfl, rfl⟩, Nat.le_trans (Nat.le_of_ble_eq_true rfl) hRf, Nat.le_trans (Nat.le_of_ble_eq_true rfl) hRl⟩ ⟨Nat.le_trans (Nat.le_of_ble_eq_true rfl) hRc, Nat.le_trans (Nat.le_of_ble_eq_true rfl) hRs⟩ rfl rfl (Nat.le_of_ble_eq_true rfl) dX8_init_18 (fun H locs hw => ?_)
  have hw : sg_Wc D b cA 15 s.heap (I_4 2 (ur h 0 0 (1 + 1))) H _ := hw
  refine sg_cputF (q := 2) (ty := (.object "ShoulderHeirs$Reader")) hc hw (by omega) rfl fr_8_2 tyX8_ok nmX8 rfl hin rfl (by decide +kernel) rfl rfl k_519 dX8_init_21 (fun H locs hw => ?_)
  refine lv_aload_n hx hb dX8_init_24 rfl (lv_at hl 0 rfl) ?_
  refine sg_cnew (n := 15) hc hw (by omega) (fun h9 => by omega) rfl fn_1 k_133 k_33 k_3 (Nat.le_trans (Nat.le_of_ble_eq_true rfl) hRc) (Nat.le_trans (Nat.le_of_ble_eq_true rfl) hRs) dX8_init_25 (fun H hw => ?_)
  have hw : sg_Wc D b cA 16 s.heap (ur (I_4 2 (ur h 0 0 (1 + 1))) 0 2 (2 + 1)) H _ := hw
  refine lv_dup hx hb dX8_init_28 rfl ?_
  refine sg_cinitN (k := 0) (rest := [.ref (b + 15), .ref (b + 0)]) (i_1 (a := 15) (by decide) rfl) hc hov hw (by omega) (by omega) hml hl kn_134 k_35 k_3 k_36 rfl ⟨by decide, by decide, by decide +kernel⟩ ⟨⟨rfl, rfl⟩, Nat.le_trans (Nat.le_of_ble_eq_true rfl) hRf, Nat.le_trans (Nat.le_of_ble_eq_true rfl) hRl⟩ ⟨Nat.le_trans (Nat.le_of_ble_eq_true rfl) hRc, Nat.le_trans (Nat.le_of_ble_eq_true rfl) hRs⟩ rfl rfl (Nat.le_of_ble_eq_true rfl) dX8_init_29 (fun H locs hw => ?_)
  have hw : sg_Wc D b cA 22 s.heap (I_1 15 (ur (I_4 2 (ur h 0 0 (1 + 1))) 0 2 (2 + 1))) H _ := hw
  refine sg_cputF (q := 15) (ty := (.object "ShoulderHeirs$Funeral")) hc hw (by omega) rfl fr_8_3 tyX8_ok nmX8 rfl hin rfl (by decide +kernel) rfl rfl k_520 dX8_init_32 (fun H locs hw => ?_)
  refine lv_aload_n hx hb dX8_init_35 rfl (lv_at hl 0 rfl) ?_
  refine sg_cnew (n := 22) hc hw (by omega) (fun h9 => by omega) rfl fn_1 k_133 k_33 k_3 (Nat.le_trans (Nat.le_of_ble_eq_true rfl) hRc) (Nat.le_trans (Nat.le_of_ble_eq_true rfl) hRs) dX8_init_36 (fun H hw => ?_)
  have hw : sg_Wc D b cA 23 s.heap (ur (I_1 15 (ur (I_4 2 (ur h 0 0 (1 + 1))) 0 2 (2 + 1))) 0 3 (15 + 1)) H _ := hw
  refine lv_dup hx hb dX8_init_39 rfl ?_
  refine sg_cinitN (k := 0) (rest := [.ref (b + 22), .ref (b + 0)]) (i_1 (a := 22) (by decide) rfl) hc hov hw (by omega) (by omega) hml hl kn_134 k_35 k_3 k_36 rfl ⟨by decide, by decide, by decide +kernel⟩ ⟨⟨rfl, rfl⟩, Nat.le_trans (Nat.le_of_ble_eq_true rfl) hRf, Nat.le_trans (Nat.le_of_ble_eq_true rfl) hRl⟩ ⟨Nat.le_trans (Nat.le_of_ble_eq_true rfl) hRc, Nat.le_trans (Nat.le_of_ble_eq_true rfl) hRs⟩ rfl rfl (Nat.le_of_ble_eq_true rfl) dX8_init_40 (fun H locs hw => ?_)
  have hw : sg_Wc D b cA 29 s.heap (I_1 22 (ur (I_1 15 (ur (I_4 2 (ur h 0 0 (1 + 1))) 0 2 (2 + 1))) 0 3 (15 + 1))) H _ := hw
  refine sg_cputF (q := 22) (ty := (.object "ShoulderHeirs$Funeral")) hc hw (by omega) rfl fr_8_4 tyX8_ok nmX8 rfl hin rfl (by decide +kernel) rfl rfl k_521 dX8_init_43 (fun H locs hw => ?_)
  refine lv_aload_n hx hb dX8_init_46 rfl (lv_at hl 0 rfl) ?_
  refine sg_cnew (n := 29) hc hw (by omega) (fun h9 => by omega) rfl fn_6 k_135 k_98 k_4 (Nat.le_trans (Nat.le_of_ble_eq_true rfl) hRc) (Nat.le_trans (Nat.le_of_ble_eq_true rfl) hRs) dX8_init_47 (fun H hw => ?_)
  have hw : sg_Wc D b cA 30 s.heap (ur (I_1 22 (ur (I_1 15 (ur (I_4 2 (ur h 0 0 (1 + 1))) 0 2 (2 + 1))) 0 3 (15 + 1))) 0 4 (22 + 1)) H _ := hw
  refine lv_dup hx hb dX8_init_50 rfl ?_
  refine sg_cinitN (k := 0) (rest := [.ref (b + 29), .ref (b + 0)]) (i_6 (a := 29) (by decide) rfl) hc hov hw (by omega) (by omega) hml hl kn_136 k_100 k_4 k_101 rfl ⟨by decide, by decide, by decide +kernel⟩ ⟨⟨rfl, rfl⟩, Nat.le_trans (Nat.le_of_ble_eq_true rfl) hRf, Nat.le_trans (Nat.le_of_ble_eq_true rfl) hRl⟩ ⟨Nat.le_trans (Nat.le_of_ble_eq_true rfl) hRc, Nat.le_trans (Nat.le_of_ble_eq_true rfl) hRs⟩ rfl rfl (Nat.le_of_ble_eq_true rfl) dX8_init_51 (fun H locs hw => ?_)
  have hw : sg_Wc D b cA 33 s.heap (I_6 29 (ur (I_1 22 (ur (I_1 15 (ur (I_4 2 (ur h 0 0 (1 + 1))) 0 2 (2 + 1))) 0 3 (15 + 1))) 0 4 (22 + 1))) H _ := hw
  refine sg_cputF (q := 29) (ty := (.object "ShoulderHeirs$Turns")) hc hw (by omega) rfl fr_8_5 tyX8_ok nmX8 rfl hin rfl (by decide +kernel) rfl rfl k_522 dX8_init_54 (fun H locs hw => ?_)
  refine lv_aload_n hx hb dX8_init_57 rfl (lv_at hl 0 rfl) ?_
  refine sg_cnew (n := 33) hc hw (by omega) (fun h9 => by omega) rfl fn_3 k_137 k_138 k_5 (Nat.le_trans (Nat.le_of_ble_eq_true rfl) hRc) (Nat.le_trans (Nat.le_of_ble_eq_true rfl) hRs) dX8_init_58 (fun H hw => ?_)
  have hw : sg_Wc D b cA 34 s.heap (ur (I_6 29 (ur (I_1 22 (ur (I_1 15 (ur (I_4 2 (ur h 0 0 (1 + 1))) 0 2 (2 + 1))) 0 3 (15 + 1))) 0 4 (22 + 1))) 0 5 (29 + 1)) H _ := hw
  refine lv_dup hx hb dX8_init_61 rfl ?_
  refine lv_bipush (v := 8) hx hb dX8_init_62 (by decide) ?_
  refine sg_cinit (k := 1) (rest := [.ref (b + 33), .ref (b + 0)]) (i_3 (a := 33) (N := 8) rfl rfl rfl (by decide) (by decide) (by decide)) hc hov hw (by omega) (by omega) hml hl k_139 k_140 k_5 k_141 rfl ⟨by decide, by decide, by decide +kernel⟩ ⟨⟨rfl, rfl⟩, Nat.le_trans (Nat.le_of_ble_eq_true rfl) hRf, Nat.le_trans (Nat.le_of_ble_eq_true rfl) hRl⟩ ⟨Nat.le_trans (Nat.le_of_ble_eq_true rfl) hRc, Nat.le_trans (Nat.le_of_ble_eq_true rfl) hRs⟩ rfl rfl (Nat.le_of_ble_eq_true rfl) dX8_init_64 (fun H locs hw => ?_)
  have hw : sg_Wc D b cA 67 s.heap (I_3 33 8 (ur (I_6 29 (ur (I_1 22 (ur (I_1 15 (ur (I_4 2 (ur h 0 0 (1 + 1))) 0 2 (2 + 1))) 0 3 (15 + 1))) 0 4 (22 + 1))) 0 5 (29 + 1))) H _ := hw
  refine sg_cputF (q := 33) (ty := (.object "ShoulderHeirs$Pile")) hc hw (by omega) rfl fr_8_6 tyX8_ok nmX8 rfl hin rfl (by decide +kernel) rfl rfl k_523 dX8_init_67 (fun H locs hw => ?_)
  refine lv_aload_n hx hb dX8_init_70 rfl (lv_at hl 0 rfl) ?_
  refine sg_cnew (n := 67) hc hw (by omega) (fun h9 => by omega) rfl fn_3 k_137 k_138 k_5 (Nat.le_trans (Nat.le_of_ble_eq_true rfl) hRc) (Nat.le_trans (Nat.le_of_ble_eq_true rfl) hRs) dX8_init_71 (fun H hw => ?_)
  have hw : sg_Wc D b cA 68 s.heap (ur (I_3 33 8 (ur (I_6 29 (ur (I_1 22 (ur (I_1 15 (ur (I_4 2 (ur h 0 0 (1 + 1))) 0 2 (2 + 1))) 0 3 (15 + 1))) 0 4 (22 + 1))) 0 5 (29 + 1))) 0 6 (33 + 1)) H _ := hw
  refine lv_dup hx hb dX8_init_74 rfl ?_
  refine lv_iconst (v := 2) hx hb dX8_init_75 (by decide) ?_
  refine sg_cinit (k := 1) (rest := [.ref (b + 67), .ref (b + 0)]) (i_3 (a := 67) (N := 2) rfl rfl rfl (by decide) (by decide) (by decide)) hc hov hw (by omega) (by omega) hml hl k_139 k_140 k_5 k_141 rfl ⟨by decide, by decide, by decide +kernel⟩ ⟨⟨rfl, rfl⟩, Nat.le_trans (Nat.le_of_ble_eq_true rfl) hRf, Nat.le_trans (Nat.le_of_ble_eq_true rfl) hRl⟩ ⟨Nat.le_trans (Nat.le_of_ble_eq_true rfl) hRc, Nat.le_trans (Nat.le_of_ble_eq_true rfl) hRs⟩ rfl rfl (Nat.le_of_ble_eq_true rfl) dX8_init_76 (fun H locs hw => ?_)
  have hw : sg_Wc D b cA 77 s.heap (I_3 67 2 (ur (I_3 33 8 (ur (I_6 29 (ur (I_1 22 (ur (I_1 15 (ur (I_4 2 (ur h 0 0 (1 + 1))) 0 2 (2 + 1))) 0 3 (15 + 1))) 0 4 (22 + 1))) 0 5 (29 + 1))) 0 6 (33 + 1))) H _ := hw
  refine sg_cputF (q := 67) (ty := (.object "ShoulderHeirs$Pile")) hc hw (by omega) rfl fr_8_7 tyX8_ok nmX8 rfl hin rfl (by decide +kernel) rfl rfl k_524 dX8_init_79 (fun H locs hw => ?_)
  refine lv_aload_n hx hb dX8_init_82 rfl (lv_at hl 0 rfl) ?_
  refine lv_bipush (v := 8) hx hb dX8_init_83 (by decide) ?_
  refine sg_cnewi (n := 77) hc hw (by omega) (by omega) k_96 rfl rfl (by decide) (by decide) (by decide) (Nat.le_trans (Nat.le_of_ble_eq_true rfl) hRc) (Nat.le_trans (Nat.le_of_ble_eq_true rfl) hRs) dX8_init_85 (fun H hw => ?_)
  have hw : sg_Wc D b cA 78 s.heap (ur (I_3 67 2 (ur (I_3 33 8 (ur (I_6 29 (ur (I_1 22 (ur (I_1 15 (ur (I_4 2 (ur h 0 0 (1 + 1))) 0 2 (2 + 1))) 0 3 (15 + 1))) 0 4 (22 + 1))) 0 5 (29 + 1))) 0 6 (33 + 1))) 0 7 (67 + 1)) H _ := hw
  refine sg_cputF (q := 77) (ty := (.array .int)) hc hw (by omega) rfl fr_8_8 tyX8_ok nmX8 rfl hin rfl (by decide +kernel) rfl rfl k_525 dX8_init_87 (fun H locs hw => ?_)
  refine lv_aload_n hx hb dX8_init_90 rfl (lv_at hl 0 rfl) ?_
  refine lv_bipush (v := 8) hx hb dX8_init_91 (by decide) ?_
  refine sg_cnewi (n := 78) hc hw (by omega) (by omega) k_96 rfl rfl (by decide) (by decide) (by decide) (Nat.le_trans (Nat.le_of_ble_eq_true rfl) hRc) (Nat.le_trans (Nat.le_of_ble_eq_true rfl) hRs) dX8_init_93 (fun H hw => ?_)
  have hw : sg_Wc D b cA 79 s.heap (ur (ur (I_3 67 2 (ur (I_3 33 8 (ur (I_6 29 (ur (I_1 22 (ur (I_1 15 (ur (I_4 2 (ur h 0 0 (1 + 1))) 0 2 (2 + 1))) 0 3 (15 + 1))) 0 4 (22 + 1))) 0 5 (29 + 1))) 0 6 (33 + 1))) 0 7 (67 + 1)) 0 8 (77 + 1)) H _ := hw
  refine sg_cputF (q := 78) (ty := (.array .int)) hc hw (by omega) rfl fr_8_9 tyX8_ok nmX8 rfl hin rfl (by decide +kernel) rfl rfl k_526 dX8_init_95 (fun H locs hw => ?_)
  refine lv_aload_n hx hb dX8_init_98 rfl (lv_at hl 0 rfl) ?_
  refine lv_bipush (v := 120) hx hb dX8_init_99 (by decide) ?_
  refine sg_cnewi (n := 79) hc hw (by omega) (by omega) k_96 rfl rfl (by decide) (by decide) (by decide) (Nat.le_trans (Nat.le_of_ble_eq_true rfl) hRc) (Nat.le_trans (Nat.le_of_ble_eq_true rfl) hRs) dX8_init_101 (fun H hw => ?_)
  have hw : sg_Wc D b cA 80 s.heap (ur (ur (ur (I_3 67 2 (ur (I_3 33 8 (ur (I_6 29 (ur (I_1 22 (ur (I_1 15 (ur (I_4 2 (ur h 0 0 (1 + 1))) 0 2 (2 + 1))) 0 3 (15 + 1))) 0 4 (22 + 1))) 0 5 (29 + 1))) 0 6 (33 + 1))) 0 7 (67 + 1)) 0 8 (77 + 1)) 0 9 (78 + 1)) H _ := hw
  refine sg_cputF (q := 79) (ty := (.array .int)) hc hw (by omega) rfl fr_8_11 tyX8_ok nmX8 rfl hin rfl (by decide +kernel) rfl rfl k_528 dX8_init_103 (fun H locs hw => ?_)
  refine lv_aload_n hx hb dX8_init_106 rfl (lv_at hl 0 rfl) ?_
  refine lv_bipush (v := 120) hx hb dX8_init_107 (by decide) ?_
  refine sg_cnewi (n := 80) hc hw (by omega) (by omega) k_96 rfl rfl (by decide) (by decide) (by decide) (Nat.le_trans (Nat.le_of_ble_eq_true rfl) hRc) (Nat.le_trans (Nat.le_of_ble_eq_true rfl) hRs) dX8_init_109 (fun H hw => ?_)
  have hw : sg_Wc D b cA 81 s.heap (ur (ur (ur (ur (I_3 67 2 (ur (I_3 33 8 (ur (I_6 29 (ur (I_1 22 (ur (I_1 15 (ur (I_4 2 (ur h 0 0 (1 + 1))) 0 2 (2 + 1))) 0 3 (15 + 1))) 0 4 (22 + 1))) 0 5 (29 + 1))) 0 6 (33 + 1))) 0 7 (67 + 1)) 0 8 (77 + 1)) 0 9 (78 + 1)) 0 11 (79 + 1)) H _ := hw
  refine sg_cputF (q := 80) (ty := (.array .int)) hc hw (by omega) rfl fr_8_12 tyX8_ok nmX8 rfl hin rfl (by decide +kernel) rfl rfl k_529 dX8_init_111 (fun H locs hw => ?_)
  refine lv_aload_n hx hb dX8_init_114 rfl (lv_at hl 0 rfl) ?_
  refine sg_cnew (n := 81) hc hw (by omega) (fun h9 => by omega) rfl fn_7 k_154 k_155 k_6 (Nat.le_trans (Nat.le_of_ble_eq_true rfl) hRc) (Nat.le_trans (Nat.le_of_ble_eq_true rfl) hRs) dX8_init_115 (fun H hw => ?_)
  have hw : sg_Wc D b cA 82 s.heap (ur (ur (ur (ur (ur (I_3 67 2 (ur (I_3 33 8 (ur (I_6 29 (ur (I_1 22 (ur (I_1 15 (ur (I_4 2 (ur h 0 0 (1 + 1))) 0 2 (2 + 1))) 0 3 (15 + 1))) 0 4 (22 + 1))) 0 5 (29 + 1))) 0 6 (33 + 1))) 0 7 (67 + 1)) 0 8 (77 + 1)) 0 9 (78 + 1)) 0 11 (79 + 1)) 0 12 (80 + 1)) H _ := hw
  refine lv_dup hx hb dX8_init_118 rfl ?_
  refine lv_aload_n hx hb dX8_init_119 rfl (lv_at hl 0 rfl) ?_
  refine sg_cgetr (q := 15) hc hw (by omega) rfl fr_8_3 k_520 dX8_init_120 rfl ?_
  refine sg_cinit (k := 1) (rest := [.ref (b + 81), .ref (b + 0)]) (i_7 (a := 81) (q1 := 15) (by decide) rfl) hc hov hw (by omega) (by omega) hml hl k_156 k_157 k_6 k_158 rfl ⟨by decide, by decide, by decide +kernel⟩ ⟨⟨rfl, rfl⟩, Nat.le_trans (Nat.le_of_ble_eq_true rfl) hRf, Nat.le_trans (Nat.le_of_ble_eq_true rfl) hRl⟩ ⟨Nat.le_trans (Nat.le_of_ble_eq_true rfl) hRc, Nat.le_trans (Nat.le_of_ble_eq_true rfl) hRs⟩ rfl rfl (Nat.le_of_ble_eq_true rfl) dX8_init_123 (fun H locs hw => ?_)
  have hw : sg_Wc D b cA 88 s.heap (I_7 81 15 (ur (ur (ur (ur (ur (I_3 67 2 (ur (I_3 33 8 (ur (I_6 29 (ur (I_1 22 (ur (I_1 15 (ur (I_4 2 (ur h 0 0 (1 + 1))) 0 2 (2 + 1))) 0 3 (15 + 1))) 0 4 (22 + 1))) 0 5 (29 + 1))) 0 6 (33 + 1))) 0 7 (67 + 1)) 0 8 (77 + 1)) 0 9 (78 + 1)) 0 11 (79 + 1)) 0 12 (80 + 1))) H _ := hw
  refine sg_cputF (q := 81) (ty := (.object "ShoulderHeirs$Walk")) hc hw (by omega) rfl fr_8_13 tyX8_ok nmX8 rfl hin rfl (by decide +kernel) rfl rfl k_530 dX8_init_126 (fun H locs hw => ?_)
  refine lv_aload_n hx hb dX8_init_129 rfl (lv_at hl 0 rfl) ?_
  refine sg_cnew (n := 88) hc hw (by omega) (fun h9 => by omega) rfl fn_7 k_154 k_155 k_6 (Nat.le_trans (Nat.le_of_ble_eq_true rfl) hRc) (Nat.le_trans (Nat.le_of_ble_eq_true rfl) hRs) dX8_init_130 (fun H hw => ?_)
  have hw : sg_Wc D b cA 89 s.heap (ur (I_7 81 15 (ur (ur (ur (ur (ur (I_3 67 2 (ur (I_3 33 8 (ur (I_6 29 (ur (I_1 22 (ur (I_1 15 (ur (I_4 2 (ur h 0 0 (1 + 1))) 0 2 (2 + 1))) 0 3 (15 + 1))) 0 4 (22 + 1))) 0 5 (29 + 1))) 0 6 (33 + 1))) 0 7 (67 + 1)) 0 8 (77 + 1)) 0 9 (78 + 1)) 0 11 (79 + 1)) 0 12 (80 + 1))) 0 13 (81 + 1)) H _ := hw
  refine lv_dup hx hb dX8_init_133 rfl ?_
  refine lv_aload_n hx hb dX8_init_134 rfl (lv_at hl 0 rfl) ?_
  refine sg_cgetr (q := 15) hc hw (by omega) rfl fr_8_3 k_520 dX8_init_135 rfl ?_
  refine sg_cinit (k := 1) (rest := [.ref (b + 88), .ref (b + 0)]) (i_7 (a := 88) (q1 := 15) (by decide) rfl) hc hov hw (by omega) (by omega) hml hl k_156 k_157 k_6 k_158 rfl ⟨by decide, by decide, by decide +kernel⟩ ⟨⟨rfl, rfl⟩, Nat.le_trans (Nat.le_of_ble_eq_true rfl) hRf, Nat.le_trans (Nat.le_of_ble_eq_true rfl) hRl⟩ ⟨Nat.le_trans (Nat.le_of_ble_eq_true rfl) hRc, Nat.le_trans (Nat.le_of_ble_eq_true rfl) hRs⟩ rfl rfl (Nat.le_of_ble_eq_true rfl) dX8_init_138 (fun H locs hw => ?_)
  have hw : sg_Wc D b cA 95 s.heap (I_7 88 15 (ur (I_7 81 15 (ur (ur (ur (ur (ur (I_3 67 2 (ur (I_3 33 8 (ur (I_6 29 (ur (I_1 22 (ur (I_1 15 (ur (I_4 2 (ur h 0 0 (1 + 1))) 0 2 (2 + 1))) 0 3 (15 + 1))) 0 4 (22 + 1))) 0 5 (29 + 1))) 0 6 (33 + 1))) 0 7 (67 + 1)) 0 8 (77 + 1)) 0 9 (78 + 1)) 0 11 (79 + 1)) 0 12 (80 + 1))) 0 13 (81 + 1))) H _ := hw
  refine sg_cputF (q := 88) (ty := (.object "ShoulderHeirs$Walk")) hc hw (by omega) rfl fr_8_14 tyX8_ok nmX8 rfl hin rfl (by decide +kernel) rfl rfl k_531 dX8_init_141 (fun H locs hw => ?_)
  refine lv_aload_n hx hb dX8_init_144 rfl (lv_at hl 0 rfl) ?_
  refine sg_cnew (n := 95) hc hw (by omega) (fun h9 => by omega) rfl fn_5 k_205 k_206 k_7 (Nat.le_trans (Nat.le_of_ble_eq_true rfl) hRc) (Nat.le_trans (Nat.le_of_ble_eq_true rfl) hRs) dX8_init_145 (fun H hw => ?_)
  have hw : sg_Wc D b cA 96 s.heap (ur (I_7 88 15 (ur (I_7 81 15 (ur (ur (ur (ur (ur (I_3 67 2 (ur (I_3 33 8 (ur (I_6 29 (ur (I_1 22 (ur (I_1 15 (ur (I_4 2 (ur h 0 0 (1 + 1))) 0 2 (2 + 1))) 0 3 (15 + 1))) 0 4 (22 + 1))) 0 5 (29 + 1))) 0 6 (33 + 1))) 0 7 (67 + 1)) 0 8 (77 + 1)) 0 9 (78 + 1)) 0 11 (79 + 1)) 0 12 (80 + 1))) 0 13 (81 + 1))) 0 14 (88 + 1)) H _ := hw
  refine lv_dup hx hb dX8_init_148 rfl ?_
  refine lv_aload_n hx hb dX8_init_149 rfl (lv_at hl 0 rfl) ?_
  refine sg_cgetr (q := 15) hc hw (by omega) rfl fr_8_3 k_520 dX8_init_150 rfl ?_
  refine lv_aload_n hx hb dX8_init_153 rfl (lv_at hl 0 rfl) ?_
  refine sg_cgetr (q := 79) hc hw (by omega) rfl fr_8_11 k_528 dX8_init_154 rfl ?_
  refine sg_cinit (k := 2) (rest := [.ref (b + 95), .ref (b + 0)]) (i_5 (a := 95) (q1 := 15) (q2 := 79) (by decide) rfl) hc hov hw (by omega) (by omega) hml hl k_207 k_208 k_7 k_209 rfl ⟨by decide, by decide, by decide +kernel⟩ ⟨⟨rfl, rfl⟩, Nat.le_trans (Nat.le_of_ble_eq_true rfl) hRf, Nat.le_trans (Nat.le_of_ble_eq_true rfl) hRl⟩ ⟨Nat.le_trans (Nat.le_of_ble_eq_true rfl) hRc, Nat.le_trans (Nat.le_of_ble_eq_true rfl) hRs⟩ rfl rfl (Nat.le_of_ble_eq_true rfl) dX8_init_157 (fun H locs hw => ?_)
  have hw : sg_Wc D b cA 118 s.heap (I_5 95 15 79 (ur (I_7 88 15 (ur (I_7 81 15 (ur (ur (ur (ur (ur (I_3 67 2 (ur (I_3 33 8 (ur (I_6 29 (ur (I_1 22 (ur (I_1 15 (ur (I_4 2 (ur h 0 0 (1 + 1))) 0 2 (2 + 1))) 0 3 (15 + 1))) 0 4 (22 + 1))) 0 5 (29 + 1))) 0 6 (33 + 1))) 0 7 (67 + 1)) 0 8 (77 + 1)) 0 9 (78 + 1)) 0 11 (79 + 1)) 0 12 (80 + 1))) 0 13 (81 + 1))) 0 14 (88 + 1))) H _ := hw
  refine sg_cputF (q := 95) (ty := (.object "ShoulderHeirs$TurnSearch")) hc hw (by omega) rfl fr_8_15 tyX8_ok nmX8 rfl hin rfl (by decide +kernel) rfl rfl k_532 dX8_init_160 (fun H locs hw => ?_)
  refine lv_aload_n hx hb dX8_init_163 rfl (lv_at hl 0 rfl) ?_
  refine sg_cnew (n := 118) hc hw (by omega) (fun h9 => by omega) rfl fn_2 k_253 k_254 k_8 (Nat.le_trans (Nat.le_of_ble_eq_true rfl) hRc) (Nat.le_trans (Nat.le_of_ble_eq_true rfl) hRs) dX8_init_164 (fun H hw => ?_)
  have hw : sg_Wc D b cA 119 s.heap (ur (I_5 95 15 79 (ur (I_7 88 15 (ur (I_7 81 15 (ur (ur (ur (ur (ur (I_3 67 2 (ur (I_3 33 8 (ur (I_6 29 (ur (I_1 22 (ur (I_1 15 (ur (I_4 2 (ur h 0 0 (1 + 1))) 0 2 (2 + 1))) 0 3 (15 + 1))) 0 4 (22 + 1))) 0 5 (29 + 1))) 0 6 (33 + 1))) 0 7 (67 + 1)) 0 8 (77 + 1)) 0 9 (78 + 1)) 0 11 (79 + 1)) 0 12 (80 + 1))) 0 13 (81 + 1))) 0 14 (88 + 1))) 0 15 (95 + 1)) H _ := hw
  refine lv_dup hx hb dX8_init_167 rfl ?_
  refine lv_aload_n hx hb dX8_init_168 rfl (lv_at hl 0 rfl) ?_
  refine sg_cgetr (q := 15) hc hw (by omega) rfl fr_8_3 k_520 dX8_init_169 rfl ?_
  refine sg_cinit (k := 1) (rest := [.ref (b + 118), .ref (b + 0)]) (i_2 (a := 118) (q1 := 15) (by decide) rfl) hc hov hw (by omega) (by omega) hml hl k_255 k_256 k_8 k_257 rfl ⟨by decide, by decide, by decide +kernel⟩ ⟨⟨rfl, rfl⟩, Nat.le_trans (Nat.le_of_ble_eq_true rfl) hRf, Nat.le_trans (Nat.le_of_ble_eq_true rfl) hRl⟩ ⟨Nat.le_trans (Nat.le_of_ble_eq_true rfl) hRc, Nat.le_trans (Nat.le_of_ble_eq_true rfl) hRs⟩ rfl rfl (Nat.le_of_ble_eq_true rfl) dX8_init_172 (fun H locs hw => ?_)
  have hw : sg_Wc D b cA 121 s.heap (I_2 118 15 (ur (I_5 95 15 79 (ur (I_7 88 15 (ur (I_7 81 15 (ur (ur (ur (ur (ur (I_3 67 2 (ur (I_3 33 8 (ur (I_6 29 (ur (I_1 22 (ur (I_1 15 (ur (I_4 2 (ur h 0 0 (1 + 1))) 0 2 (2 + 1))) 0 3 (15 + 1))) 0 4 (22 + 1))) 0 5 (29 + 1))) 0 6 (33 + 1))) 0 7 (67 + 1)) 0 8 (77 + 1)) 0 9 (78 + 1)) 0 11 (79 + 1)) 0 12 (80 + 1))) 0 13 (81 + 1))) 0 14 (88 + 1))) 0 15 (95 + 1))) H _ := hw
  refine sg_cputF (q := 118) (ty := (.object "ShoulderHeirs$OrderSearch")) hc hw (by omega) rfl fr_8_16 tyX8_ok nmX8 rfl hin rfl (by decide +kernel) rfl rfl k_533 dX8_init_175 (fun H locs hw => ?_)
  refine lv_aload_n hx hb dX8_init_178 rfl (lv_at hl 0 rfl) ?_
  refine sg_cnew (n := 121) hc hw (by omega) (fun h9 => by omega) rfl fn_0 k_280 k_281 k_9 (Nat.le_trans (Nat.le_of_ble_eq_true rfl) hRc) (Nat.le_trans (Nat.le_of_ble_eq_true rfl) hRs) dX8_init_179 (fun H hw => ?_)
  have hw : sg_Wc D b cA 122 s.heap (ur (I_2 118 15 (ur (I_5 95 15 79 (ur (I_7 88 15 (ur (I_7 81 15 (ur (ur (ur (ur (ur (I_3 67 2 (ur (I_3 33 8 (ur (I_6 29 (ur (I_1 22 (ur (I_1 15 (ur (I_4 2 (ur h 0 0 (1 + 1))) 0 2 (2 + 1))) 0 3 (15 + 1))) 0 4 (22 + 1))) 0 5 (29 + 1))) 0 6 (33 + 1))) 0 7 (67 + 1)) 0 8 (77 + 1)) 0 9 (78 + 1)) 0 11 (79 + 1)) 0 12 (80 + 1))) 0 13 (81 + 1))) 0 14 (88 + 1))) 0 15 (95 + 1))) 0 16 (118 + 1)) H _ := hw
  refine lv_dup hx hb dX8_init_182 rfl ?_
  refine lv_aload_n hx hb dX8_init_183 rfl (lv_at hl 0 rfl) ?_
  refine sg_cgetr (q := 15) hc hw (by omega) rfl fr_8_3 k_520 dX8_init_184 rfl ?_
  refine sg_cinit (k := 1) (rest := [.ref (b + 121), .ref (b + 0)]) (i_0 (a := 121) (q1 := 15) (by decide) rfl) hc hov hw (by omega) (by omega) hml hl k_282 k_283 k_9 k_284 rfl ⟨by decide, by decide, by decide +kernel⟩ ⟨⟨rfl, rfl⟩, Nat.le_trans (Nat.le_of_ble_eq_true rfl) hRf, Nat.le_trans (Nat.le_of_ble_eq_true rfl) hRl⟩ ⟨Nat.le_trans (Nat.le_of_ble_eq_true rfl) hRc, Nat.le_trans (Nat.le_of_ble_eq_true rfl) hRs⟩ rfl rfl (Nat.le_of_ble_eq_true rfl) dX8_init_187 (fun H locs hw => ?_)
  have hw : sg_Wc D b cA 133 s.heap (I_0 121 15 (ur (I_2 118 15 (ur (I_5 95 15 79 (ur (I_7 88 15 (ur (I_7 81 15 (ur (ur (ur (ur (ur (I_3 67 2 (ur (I_3 33 8 (ur (I_6 29 (ur (I_1 22 (ur (I_1 15 (ur (I_4 2 (ur h 0 0 (1 + 1))) 0 2 (2 + 1))) 0 3 (15 + 1))) 0 4 (22 + 1))) 0 5 (29 + 1))) 0 6 (33 + 1))) 0 7 (67 + 1)) 0 8 (77 + 1)) 0 9 (78 + 1)) 0 11 (79 + 1)) 0 12 (80 + 1))) 0 13 (81 + 1))) 0 14 (88 + 1))) 0 15 (95 + 1))) 0 16 (118 + 1))) H _ := hw
  refine sg_cputF (q := 121) (ty := (.object "ShoulderHeirs$Choices")) hc hw (by omega) rfl fr_8_17 tyX8_ok nmX8 rfl hin rfl (by decide +kernel) rfl rfl k_534 dX8_init_190 (fun H locs hw => ?_)
  refine va_ldcS hx hb hown hvr dX8_init_193 ?_
  refine va_calli (va_runV (As := []) (rest := []) (C := RJ0) ⟨hx, hb, hml, hown, hts⟩ t_length (cwV 0 hts (sg_good (sg_wv k_322 k_323 k_324 k_10 k_325)) rfl rfl rfl ⟨rfl, by decide, by decide, by decide +kernel⟩ ⟨Nat.le_trans (Nat.le_of_ble_eq_true rfl) hRf, Nat.le_trans (Nat.le_of_ble_eq_true rfl) hRl⟩) ⟨sg_Sblind, vk_recv hsk.1 (i := 0) (by decide) hw.2.1, fun U hU hW => ⟨rfl, (hsk.at hw.2.1 hU hW.alike).narrow (fun q z => z.elim)⟩⟩ rfl rfl hl.1 rfl (lv_room (Nat.le_of_ble_eq_true rfl)) dX8_init_195 ⟨hRc, hRs⟩) hw.2.1 (fun q _ z => z.elim) (fun q z => z.elim) (fun r1 u t H1 locs ht hvm hp hB hz1 hk1 hS => ?_)
  subst hp
  have hw := hw.same hk1 hS
  refine lv_sipush (v := 200) hx hb dX8_init_198 (by decide) ?_
  refine va_mmin hx hb (by rw [hml]; exact hl.1.symm) hown (hts _ k_332) (hts _ k_333) (hts _ k_11) (hts _ k_334) (Nat.le_trans (by decide) hRf) (Nat.le_trans (by decide) hRl) hRc hRs dX8_init_201 ?_
  refine lv_topi (fun v1 ev1 => ?_)
  obtain rfl : v1 = 92 := ev1.trans (by decide)
  refine lv_istore_n (lv' := [(1, .int 92), (0, .ref (b + 0))]) hx hb dX8_init_204 rfl hl (by decide) rfl (fun ls hl => ?_)
  refine lv_iconst (v := 0) hx hb dX8_init_205 (by decide) ?_
  refine lv_istore_n (lv' := [(2, .int 0), (1, .int 92), (0, .ref (b + 0))]) hx hb dX8_init_206 rfl hl (by decide) rfl (fun ls hl => ?_)
  exact LOOP 92 0 (by decide) _ _ _ hw (lv_sub hl [2, 1, 0] rfl)
