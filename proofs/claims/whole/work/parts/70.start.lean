theorem sg_Sset {s : State} {args : Array Value} {A : Nat → Prop} (hg : (Jvm.Cond.and given_1 narrow_1).before args s = true) (hts : ∀ w ∈ lw_tbl, w.before args s = true) (hA : ∀ a : Nat, a < s.heap.size → ¬ A a) : ∃ kK kV : Nat → Nat, sg_Sk kK kV A s ∧ vk_R "ShoulderHeirs" 97 "s10,0;s8,3;s12,1;b6,0;b3,1;b9,2;b4,3;b4,3;m1;t0,0,9;t1,4,12;t2,10,20;t3,18,29;t4,18,29;x1,2;" (kK 0) s := by
  have hs := flat_of_before _ hg
  obtain ⟨kK, kV, h1, h2⟩ := vk_Sof (args := args) (s := s) (N := 1) (tm := fun _ => .string "ShoulderHeirs" 97) (len := [92]) (byt := [sg_txt]) (A := A)
    (fun i hi => by obtain rfl : i = 0 := by omega
                    decide)
    (fun i hi => hs _ (by decide +kernel)) (fun i hi => hs _ (by decide +kernel)) (fun i hi => hs _ (by decide +kernel))
    (fun i hi => by obtain rfl : i = 0 := by omega
                    exact hs _ (by decide +kernel))
    (fun i hi j hj => by
      obtain rfl : i = 0 := by omega
      have key : ∀ j, j < 92 → (Cond.eq (.elem (.field (.string "ShoulderHeirs" 97) "java/lang/String" "value" "[B") (.int (Int32.ofNat j))) (.int (([sg_txt].getD 0 []).getD j 0))) ∈ flatC (Jvm.Cond.and given_1 narrow_1) := by decide +kernel
      exact hs _ (key j hj))
    (fun i j hi hj hne => by omega) hA
  exact ⟨kK, kV, ⟨h1, va_Zof (hts _ kb_331) (hts _ (sg_tb k_10)) (va_eqt (hs _ (by decide +kernel))) hA, va_Zqof (hts _ kb_350) (hts _ (sg_tb k_13)) (hs _ (by decide +kernel)) hA⟩, ⟨by
    have h9 := hts _ kb_321
    exact h9, by
    have h9 := h2 0 (by decide)
    exact h9⟩⟩
set_option maxHeartbeats 4000000 in
set_option maxRecDepth 100000 in
theorem whole_start {p : Program} {e : Env} {s : State} {m : MethodId} {below : List Frame} {meth : Method} {c : Code} (l : Launch) {b L : Nat} {xs : Nat → Int32} (hL : L ≤ 2048) (C0 : lw_At p s m meth c b L xs) : W p l e room_1 s m #[Value.ref b] below meth c s.heap [] 0 0 (lw_Z below #[Value.ref b] s) (entryFrame m ([Value.ref b] : List Value).toArray 4) := by
  obtain ⟨hx, hb, hr, hml, hown, hts, hX, hbl, hlocks, hgv⟩ := id C0
  have hA : ∀ q : Nat, s.heap.size ≤ q → sg_A s.heap.size q := fun _ h => h
  obtain ⟨c0, iS0, hKn0⟩ := u_known (C := RX0) (T := TX0) (N := 10) (n := 10) hts (fun w hw => sg_tb (sg_in0 w hw)) (hts _ (sg_tb k_281))
  obtain ⟨c1, iS1, hKn1⟩ := u_known (C := RX1) (T := TX1) (N := 11) (n := 11) hts (fun w hw => sg_tb (sg_in1 w hw)) (hts _ (sg_tb k_33))
  obtain ⟨c2, iS2, hKn2⟩ := u_known (C := RX2) (T := TX2) (N := 6) (n := 6) hts (fun w hw => sg_tb (sg_in2 w hw)) (hts _ (sg_tb k_254))
  obtain ⟨c3, iS3, hKn3⟩ := u_known (C := RX3) (T := TX3) (N := 2) (n := 2) hts (fun w hw => sg_tb (sg_in3 w hw)) (hts _ (sg_tb k_138))
  obtain ⟨c4, iS4, hKn4⟩ := u_known (C := RX4) (T := TX4) (N := 3) (n := 3) hts (fun w hw => sg_tb (sg_in4 w hw)) (hts _ (sg_tb k_27))
  obtain ⟨c5, iS5, hKn5⟩ := u_known (C := RX5) (T := TX5) (N := 12) (n := 12) hts (fun w hw => sg_tb (sg_in5 w hw)) (hts _ (sg_tb k_206))
  obtain ⟨c6, iS6, hKn6⟩ := u_known (C := RX6) (T := TX6) (N := 4) (n := 4) hts (fun w hw => sg_tb (sg_in6 w hw)) (hts _ (sg_tb k_98))
  obtain ⟨c7, iS7, hKn7⟩ := u_known (C := RX7) (T := TX7) (N := 12) (n := 12) hts (fun w hw => sg_tb (sg_in7 w hw)) (hts _ (sg_tb k_155))
  obtain ⟨c8, iS8, hKn8⟩ := u_known (C := RX8) (T := TX8) (N := 18) (n := 18) hts (fun w hw => sg_tb (sg_in8 w hw)) (hts _ (sg_tb k_19))
  obtain ⟨c9, iS9, hKn9⟩ := u_known (C := RX9) (T := TX9) (N := 28) (n := 28) hts (fun w hw => sg_tb (sg_in9 w hw)) (hts _ (sg_tb k_848))
  obtain ⟨dC, dI, hKc⟩ : ∃ (dC : Nat → ClassId) (dI : Nat → Nat → Nat), ∀ (k : Nat) (q : vw_C), vwCl[k]? = some q → u_Kn s q.1 q.2.1 q.2.2 (dC k) (dI k) := by
    refine ⟨fun k => if k = 0 then c0 else if k = 1 then c1 else if k = 2 then c2 else if k = 3 then c3 else if k = 4 then c4 else if k = 5 then c5 else if k = 6 then c6 else if k = 7 then c7 else if k = 8 then c8 else c9, fun k => if k = 0 then iS0 else if k = 1 then iS1 else if k = 2 then iS2 else if k = 3 then iS3 else if k = 4 then iS4 else if k = 5 then iS5 else if k = 6 then iS6 else if k = 7 then iS7 else if k = 8 then iS8 else iS9, ?_⟩
    intro k q hq
    match k, hq with
    | 0, hq => cases hq; exact hKn0
    | 1, hq => cases hq; exact hKn1
    | 2, hq => cases hq; exact hKn2
    | 3, hq => cases hq; exact hKn3
    | 4, hq => cases hq; exact hKn4
    | 5, hq => cases hq; exact hKn5
    | 6, hq => cases hq; exact hKn6
    | 7, hq => cases hq; exact hKn7
    | 8, hq => cases hq; exact hKn8
    | 9, hq => cases hq; exact hKn9
    | k + 10, hq => simp [vwCl] at hq
  obtain ⟨a10, k10, m10, f10, g10, h10⟩ := Cond.arrayClass_spec (hts _ (sg_tb k_95))
  obtain ⟨a11, k11, m11, f11, g11, h11⟩ := Cond.arrayClass_spec (hts _ (sg_tb k_96))
  have hov : va_AO RX6 s := va_AO.of (hts _ kb_144)
  obtain ⟨m12, a12, k12, e12, -, g12, h12, f12⟩ := Cond.arrayOver_spec (n := RX6) (hts _ kb_144)
  obtain ⟨cA, hcA⟩ : ∃ cA : Nat → ClassId, cA 10 = a10 ∧ cA 11 = a11 ∧ cA 12 = a12 := ⟨fun k => if k = 10 then a10 else if k = 11 then a11 else a12, rfl, rfl, rfl⟩
  have hK : va_K (dC, dI) vwCl (sg_ty cA) s := by
    refine ⟨hKc, fun k q hq => ?_⟩
    match k, hq with
    | 0, hq => cases hq; rw [hcA.1]; exact ⟨fun n z => ⟨fun k h => (by cases h), k10, g10, m10, h10⟩, f10⟩
    | 1, hq => cases hq; rw [hcA.2.1]; exact ⟨fun n z => ⟨fun k h => (by cases h), k11, g11, m11, h11⟩, f11⟩
    | 2, hq => cases hq; rw [hcA.2.2]; exact ⟨fun n z => ⟨fun k h => (by cases h), k12, g12, m12, h12⟩, k12, m12, g12, h12, e12, f12⟩
    | k + 3, hq => simp [sg_ty] at hq
  have hN : sg_Nw s := fun q hq => va_Nw.of rfl (hts _ (sg_nl_in q hq))
  have hc : sg_Cx p s m #[Value.ref b] c code RL (dC, dI) cA := ⟨hx, hb, hown, fun w hw => hts w (sg_tb hw), hK, hN⟩
  obtain ⟨kK, kV, hsk, hvr⟩ := sg_Sset (A := sg_A s.heap.size) hgv hts (fun a h => Nat.not_le.mpr h)
  obtain ⟨R1, R2, hTy1, hz1, hf1, hz2, hTy2, hf2, hI⟩ := init_ok
  have hw : sg_Wc (dC, dI) s.heap.size cA 0 s.heap z0 s.heap [] := ⟨fun k q h => by simp [sg_ws] at h, va_S.rf, fun k _ => ⟨rfl, rfl⟩⟩
  have hl := lv_entry ([.ref b]) (n := 4) (Nat.le_of_ble_eq_true rfl)
  rw [lg_entry_eq]
  generalize (lg_sl ([.ref b]) ++ List.replicate (4 - (lg_sl ([.ref b])).length) Slot.unset).toArray = ls at hl ⊢
  have hl : lv_has ls 4 [(0, .ref b)] := hl
  refine sg_cnew (n := 0) hc hw rfl (fun _ => rfl) rfl fn_8 k_18 k_19 k_1 (by decide) (by decide) dL_law_0 (fun H hw => ?_)
  refine lv_dup hx hb dL_law_3 rfl ?_
  refine sg_size (fun hup => ?_)
  have hsz : H.size = s.heap.size + 1 := Nat.le_antisymm hup (sg_clo hw (by decide))
  refine va_callv (va_runI (As := []) (rest := [.ref (s.heap.size + 0)]) ⟨hx, hb, hml, hown, hc.2.2.2.1⟩ (i_8 (b := s.heap.size) (D := (dC, dI)) (cA := cA) (kK := kK) (kV := kV) hTy1 hz1 hf1) (cwI 0 hc.2.2.2.1 (sg_goodC k_22) rfl rfl rfl (hc.2.2.2.1 _ k_1) (hc.2.2.2.1 _ k_20) (hc.2.2.2.1 _ k_21) rfl ⟨by decide, by decide, by decide +kernel⟩ ⟨Nat.le_of_ble_eq_true rfl, Nat.le_of_ble_eq_true rfl⟩) ⟨fun a U g mk q => by
      obtain ⟨q0, ⟨qP, qK, qz, qY, qN, qA⟩, ⟨u1, u2, u3⟩, u4⟩ := q
      exact ⟨q0, ⟨qP, va_K.moved (u := U) (U := U.calling g mk a) (Vm.Alike.refl U.vm) qK, qz, qY, qN.same rfl, va_AO.moved (u := U) (U := U.calling g mk a) (Vm.Alike.refl U.vm) qA⟩, ⟨u1.moved (u := U) (U := U.calling g mk a) (Vm.Alike.refl U.vm), u2.moved (u := U) (U := U.calling g mk a) (Vm.Alike.refl U.vm), u3.moved (u := U) (U := U.calling g mk a) (Vm.Alike.refl U.vm)⟩, vk_R.same (u := U) rfl u4⟩, fun U hU hW => ⟨rfl, ⟨by rw [hU]; exact hw.1, va_K.moved hW.alike hK, by rw [hU]; exact hsz, hw.2.2, hN.warm hW, va_AO.moved hW.alike hov⟩, hsk.at hw.2.1 hU hW.alike, hvr.warm hW⟩⟩ rfl rfl hl.1 rfl (lv_room (Nat.le_of_ble_eq_true rfl)) dL_law_4 ⟨Nat.le_of_ble_eq_true rfl, Nat.le_of_ble_eq_true rfl⟩) hw.2.1 (fun q _ h => h) (fun q h => h) (fun u t H locs ht hvm hp hB hz9 hk9 hS => ?_)
  subst hp
  have hw : sg_Wc (dC, dI) s.heap.size cA 133 s.heap (ui R1.2 0 1 0) H locs := ⟨by rw [← ht]; exact hB.1, hS, hz2⟩
  refine lv_astore_n (lv' := [(1, .ref (s.heap.size + 0)), (0, .ref b)]) hx hb dL_law_7 rfl hl (by decide) rfl (fun ls hl => ?_)
  refine sg_cnew (n := 133) hc hw rfl (fun h9 => by cases h9) rfl fn_9 k_847 k_848 k_17 (by decide) (by decide) dL_law_8 (fun H hw => ?_)
  refine lv_dup hx hb dL_law_11 rfl ?_
  refine sg_size (fun hup => ?_)
  have hsz : H.size = s.heap.size + 134 := Nat.le_antisymm hup (sg_clo hw (by decide))
  refine va_callv (va_runI (As := []) (rest := [.ref (s.heap.size + 133)]) ⟨hx, hb, hml, hown, hc.2.2.2.1⟩ (i_9 (b := s.heap.size) (D := (dC, dI)) (cA := cA) (a := 133) (by decide) rfl rfl hTy2 hf2) (cwI 0 hc.2.2.2.1 (sg_goodC k_851) rfl rfl rfl (hc.2.2.2.1 _ k_17) (hc.2.2.2.1 _ k_849) (hc.2.2.2.1 _ k_850) rfl ⟨by decide, by decide, by decide +kernel⟩ ⟨Nat.le_of_ble_eq_true rfl, Nat.le_of_ble_eq_true rfl⟩) ⟨sg_kblind, sg_kpre hc hov hw hsz⟩ rfl rfl hl.1 rfl (lv_room (Nat.le_of_ble_eq_true rfl)) dL_law_12 ⟨Nat.le_of_ble_eq_true rfl, Nat.le_of_ble_eq_true rfl⟩) hw.2.1 (fun q _ h => h) (fun q h => h) (fun u t H locs ht hvm hp hB hz9 hk9 hS => ?_)
  subst u
  have hw : sg_Wo (dC, dI) s.heap.size cA 154 s.heap R2 H locs := sg_back ht hB hS
  refine lv_astore_n (lv' := [(2, .ref (s.heap.size + 133)), (1, .ref (s.heap.size + 0)), (0, .ref b)]) hx hb dL_law_15 rfl hl (by decide) rfl (fun ls hl => ?_)
  refine lv_iconst (v := 0) hx hb dL_law_16 (by decide) ?_
  refine lv_istore_n (lv' := [(3, .int 0), (2, .ref (s.heap.size + 133)), (1, .ref (s.heap.size + 0)), (0, .ref b)]) hx hb dL_law_17 rfl hl (by decide) rfl (fun ls hl => ?_)
  exact law_loop hL C0 hK 513 0 (by decide) (by omega) R2 hI _ _ _ hw (lv_sub hl [3, 2, 1, 0] rfl)
