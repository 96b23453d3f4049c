theorem mk_zero {p : Nat → Bool} : ∀ {n : Nat}, (∀ i, i < n → p i = false) → mk p n = 0
  | 0, _ => rfl
  | n + 1, h => by
    unfold mk
    rw [mk_zero (fun i hi => h i (by omega)), h n (by omega)]
    simp
theorem wfm_0 {nb : Nat} {K L : Nat → Int32} {b : Int32} : wfm nb K L 0 b = 0 := mk_zero (fun i _ => by simp)
theorem wbm_0 {nb : Nat} {K L : Nat → Int32} {b : Int32} : wbm nb K L 0 b = 0 := by
  unfold wbm nd
  rw [Nat.zero_and]
theorem cb_sub {nb : Nat} {K : Nat → Int32} {base : Int32} {D : Nat} {s : (Nat → Int32) × Nat} {e i : Nat} (h : (cbG nb K base D s e).testBit i = true) : D.testBit i = true := nd_sub (nd_sub h)
theorem ch0 {nb : Nat} {K : Nat → Int32} {base : Int32} {D : Nat} {s : (Nat → Int32) × Nat} {i : Nat} (hi : D.testBit i = false) : ∀ e, chG nb K base D s i e = 0
  | 0 => rfl
  | e + 1 => by
    show chG nb K base D s i e + (if (cbG nb K base D s e).testBit i = true then _ else 0) = 0
    rw [ch0 hi e, if_neg (fun z => by rw [cb_sub z] at hi; exact absurd hi (by decide))]
    rfl
theorem cs_keep {nb : Nat} {K : Nat → Int32} {base : Int32} {D : Nat} {s : (Nat → Int32) × Nat} {j : Nat} (hj : D.testBit j = false) : ∀ e, (csG nb K base D s e).1 j = s.1 j ∧ (csG nb K base D s e).2.testBit j = s.2.testBit j
  | 0 => ⟨rfl, rfl⟩
  | e + 1 => by
    obtain ⟨h1, h2⟩ := cs_keep (nb := nb) (K := K) (base := base) (s := s) hj e
    constructor
    · show (if (wbm nb K (csG nb K base D s e).1 (nd D (csG nb K base D s e).2) base).testBit j = true then _ else (csG nb K base D s e).1 j) = s.1 j
      rw [if_neg (fun z => by rw [nd_sub (nd_sub z)] at hj; exact absurd hj (by decide))]
      exact h1
    · show ((csG nb K base D s e).2 ||| wfm nb K (csG nb K base D s e).1 (nd D (csG nb K base D s e).2) base).testBit j = _
      rw [Nat.testBit_or, h2]
      have : (wfm nb K (csG nb K base D s e).1 (nd D (csG nb K base D s e).2) base).testBit j = false := by
        cases hz : (wfm nb K (csG nb K base D s e).1 (nd D (csG nb K base D s e).2) base).testBit j
        · rfl
        · have := nd_sub (wfm_sub hz).2.1
          rw [this] at hj
          exact absurd hj (by decide)
      rw [this, Bool.or_false]
theorem nd_one : ∀ j, j < 6 → ∀ s, s < 64 → nd (2 ^ j) s = if s.testBit j = true then 0 else 2 ^ j := by decide +kernel
theorem cs_lt {nb : Nat} {K : Nat → Int32} {base : Int32} {D : Nat} {s : (Nat → Int32) × Nat} (hs : s.2 < 2 ^ nb) : ∀ e, (csG nb K base D s e).2 < 2 ^ nb
  | 0 => hs
  | e + 1 => Nat.or_lt_two_pow (cs_lt hs e) (mk_lt2 (Nat.le_refl _))
/-- one alone: what others have doesn't matter -/
theorem cs_one {nb : Nat} {K : Nat → Int32} {base : Int32} {s s' : (Nat → Int32) × Nat} {j : Nat} (hn : nb ≤ 6) (hj : j < nb) (h2 : s.2 < 2 ^ nb) (h2' : s'.2 < 2 ^ nb) (e1 : s.1 j = s'.1 j) (e2 : s.2.testBit j = s'.2.testBit j) : ∀ e, (csG nb K base (2 ^ j) s e).1 j = (csG nb K base (2 ^ j) s' e).1 j ∧ (csG nb K base (2 ^ j) s e).2.testBit j = (csG nb K base (2 ^ j) s' e).2.testBit j ∧ chG nb K base (2 ^ j) s j e = chG nb K base (2 ^ j) s' j e
  | 0 => ⟨e1, e2, rfl⟩
  | e + 1 => by
    obtain ⟨i1, i2, i3⟩ := cs_one (K := K) (base := base) hn hj h2 h2' e1 e2 e
    have l1 := Nat.lt_of_lt_of_le (cs_lt (K := K) (base := base) (D := 2 ^ j) h2 e) (two_le hn)
    have l2 := Nat.lt_of_lt_of_le (cs_lt (K := K) (base := base) (D := 2 ^ j) h2' e) (two_le hn)
    have et : nd (2 ^ j) (csG nb K base (2 ^ j) s e).2 = nd (2 ^ j) (csG nb K base (2 ^ j) s' e).2 := by
      rw [nd_one j (by omega) _ l1, nd_one j (by omega) _ l2, i2]
    have ef : wfm nb K (csG nb K base (2 ^ j) s e).1 (nd (2 ^ j) (csG nb K base (2 ^ j) s e).2) base = wfm nb K (csG nb K base (2 ^ j) s' e).1 (nd (2 ^ j) (csG nb K base (2 ^ j) s' e).2) base := by
      rw [et]
      refine mk_congr (fun i hi => ?_)
      by_cases hij : i = j
      · subst hij
        rw [i1]
      · have : (nd (2 ^ j) (csG nb K base (2 ^ j) s' e).2).testBit i = false := by
          cases hz : (nd (2 ^ j) (csG nb K base (2 ^ j) s' e).2).testBit i
          · rfl
          · have := nd_sub hz
            rw [Nat.testBit_two_pow] at this
            simp at this
            omega
        rw [this]
        simp
    have eb : wbm nb K (csG nb K base (2 ^ j) s e).1 (nd (2 ^ j) (csG nb K base (2 ^ j) s e).2) base = wbm nb K (csG nb K base (2 ^ j) s' e).1 (nd (2 ^ j) (csG nb K base (2 ^ j) s' e).2) base := by
      unfold wbm
      rw [ef, et]
    refine ⟨?_, ?_, ?_⟩
    · show (if (wbm nb K (csG nb K base (2 ^ j) s e).1 (nd (2 ^ j) (csG nb K base (2 ^ j) s e).2) base).testBit j = true then (csG nb K base (2 ^ j) s e).1 j - cV nb K (nd (2 ^ j) (csG nb K base (2 ^ j) s e).2) base j else (csG nb K base (2 ^ j) s e).1 j) = (if (wbm nb K (csG nb K base (2 ^ j) s' e).1 (nd (2 ^ j) (csG nb K base (2 ^ j) s' e).2) base).testBit j = true then (csG nb K base (2 ^ j) s' e).1 j - cV nb K (nd (2 ^ j) (csG nb K base (2 ^ j) s' e).2) base j else (csG nb K base (2 ^ j) s' e).1 j)
      rw [eb, et, i1]
    · show ((csG nb K base (2 ^ j) s e).2 ||| wfm nb K (csG nb K base (2 ^ j) s e).1 (nd (2 ^ j) (csG nb K base (2 ^ j) s e).2) base).testBit j = ((csG nb K base (2 ^ j) s' e).2 ||| wfm nb K (csG nb K base (2 ^ j) s' e).1 (nd (2 ^ j) (csG nb K base (2 ^ j) s' e).2) base).testBit j
      rw [Nat.testBit_or, Nat.testBit_or, i2, ef]
    · have ec : cbG nb K base (2 ^ j) s e = cbG nb K base (2 ^ j) s' e := eb
      show chG nb K base (2 ^ j) s j e + _ = chG nb K base (2 ^ j) s' j e + _
      rw [i3, ec]
/-- the model's own state, walking of its own -/
def MS (x : HP) (nb : Nat) (s : (Nat → Int32) × Nat) : Prop := s.2 < 2 ^ nb ∧ ∀ i, i < nb → x.1 145 i = s.1 i ∧ (s.2.testBit i = true → 0 ≤ x.1 147 i) ∧ (s.2.testBit i = false → x.1 147 i = -1)
theorem ms_nd {x : HP} {nb D : Nat} {s : (Nat → Int32) × Nat} (hS : MS x nb s) (hn : nb ≤ 6) (hD : D < 2 ^ nb) : mk (fun i => D.testBit i && decide (¬ 0 ≤ x.1 147 i)) nb = nd D s.2 := by
  have hD6 : D < 64 := Nat.lt_of_lt_of_le hD (two_le hn)
  have hs6 : s.2 < 64 := Nat.lt_of_lt_of_le hS.1 (two_le hn)
  refine mk_ext _ (mk_lt hn) _ (nd_lt hD6) (fun i hi => ?_)
  rw [mk_bit, nd_bit _ hD6 _ hs6 i hi]
  by_cases h1 : i < nb
  · obtain ⟨j1, j2, j3⟩ := hS.2 i h1
    cases hb : s.2.testBit i
    · rw [j3 hb]
      have : ¬ (0 : Int32) ≤ -1 := by decide
      simp only [h1, this, decide_true, not_false_iff, Bool.not_false]
      simp
    · simp [h1, j2 hb]
  · rw [bits_out hD (by omega)]
    simp
theorem pc_two : ∀ i, i < 6 → ∀ j, j < 6 → ∀ b, b < 64 → b &&& (2 ^ i ||| 2 ^ j) = b → pc b ≤ 2 := by decide +kernel
theorem pc_1 : pc 1 = 1 := by decide
theorem inc_eq {bm i : Nat} (hb : bm < 64) (h2 : pc bm ≤ 2) (hi : i < 6) (hbit : bm.testBit i = true) : (60 : Int32) / nI (pc bm) = if pc bm ≤ 1 then 60 else 30 := by
  have h1 := pc_pos bm hb i hi hbit
  have : pc bm = 1 ∨ pc bm = 2 := by omega
  rcases this with e | e
  · rw [e]; decide
  · rw [e]; decide
/-- a stretch of the model's choice -/
theorem layM {x : HP} {nb ns k i j D : Nat} {ln : Nat → Nat} {U : Nat → Int32} {s : (Nat → Int32) × Nat} {o1 o2 : Int32} {x3 x4 x7 : Int32} {rc17 : (Int32 × Int32 × Int32 × HP) → Option HP} (hU : ∀ e, e < 34 → x.1 143 e = U e) (hM : MU U nb ns ln) (hk : k < ns) (hi : i < nb) (hj : j < nb) (hD : D < 2 ^ nb) (hD2 : D &&& (2 ^ i ||| 2 ^ j) = D) (hS : MS x nb s) : ∃ x', F_X9_layChoice_L102 133 rc17 (nI i) (nI j) x3 x4 x7 (nI k) (nI D) (bsN U k) sg_fuel (o1, o2, 0, x) = rc17 (o1 + chG nb (uK U) (bsN U k) D s i (ln k), o2 + chG nb (uK U) (bsN U k) D s j (ln k), x7 + 1, x') ∧ MS x' nb (csG nb (uK U) (bsN U k) D s (ln k)) ∧ FM x x' ∧ x'.1 143 = x.1 143 := by
  obtain ⟨m1, m2, m3, m4, m5, m6⟩ := id hM
  have hD6 : D < 64 := Nat.lt_of_lt_of_le hD (two_le m3)
  have hlen : ln k ≤ 120 := by
    have := lsum_mono (ln := ln) (i := k + 1) (k := ns) (by omega)
    have e : lsum ln (k + 1) = lsum ln k + ln k := rfl
    omega
  unfold F_X9_layChoice_L102
  refine lp_inv' (fun e z => z.1 = o1 + chG nb (uK U) (bsN U k) D s i e ∧ z.2.1 = o2 + chG nb (uK U) (bsN U k) D s j e ∧ z.2.2.1 = nI e ∧ MS z.2.2.2 nb (csG nb (uK U) (bsN U k) D s e) ∧ FM x z.2.2.2 ∧ z.2.2.2.1 143 = x.1 143) (B := ln k) (Q := fun r => ∃ x', r = rc17 (o1 + chG nb (uK U) (bsN U k) D s i (ln k), o2 + chG nb (uK U) (bsN U k) D s j (ln k), x7 + 1, x') ∧ MS x' nb (csG nb (uK U) (bsN U k) D s (ln k)) ∧ FM x x' ∧ x'.1 143 = x.1 143) ?_ ?_ sg_fuel 0 (o1, o2, 0, x) (Nat.zero_le _) (fu (by omega)) ⟨(Int32.add_zero o1).symm, (Int32.add_zero o2).symm, rfl, hS, FM.rf, rfl⟩
  · rintro e ⟨z1, z2, z3, z4⟩ rc he ⟨rfl, rfl, rfl, i1, i2, i3⟩
    left
    dsimp only at i1 i2 i3 ⊢
    have r143 : ∀ y, y < 34 → z4.1 143 y = U y := fun y hy => by rw [i3]; exact hU y hy
    have hb143 : z4.1 143 1 = nI nb := by rw [r143 1 (by decide)]; exact m2
    have hK : ∀ y, y < nb → z4.1 143 (28 + y) = uK U y := fun y hy => r143 (28 + y) (by omega)
    have hset := ms_nd i1 m3 hD
    simp only [Nat.reduceAdd]
    rw [lit_add 4, gd_ok (by omega) (by decide), ld_nI (by omega), r143 (4 + k) (by omega), m5 k hk, if_neg (nI_ge he (by omega)), unfallen_eq hb143 m3 hD6, cl_some, hset]
    generalize hst : csG nb (uK U) (bsN U k) D s e = st at i1
    have ht : csG nb (uK U) (bsN U k) D s (e + 1) = (fun i => if (wbm nb (uK U) st.1 (nd D st.2) (bsN U k)).testBit i = true then st.1 i - cV nb (uK U) (nd D st.2) (bsN U k) i else st.1 i, st.2 ||| wfm nb (uK U) st.1 (nd D st.2) (bsN U k)) := by rw [← hst]; rfl
    have hcb : cbG nb (uK U) (bsN U k) D s e = wbm nb (uK U) st.1 (nd D st.2) (bsN U k) := by rw [← hst]; rfl
    have hc1 : ∀ o : Int32, ∀ q : Nat, o + chG nb (uK U) (bsN U k) D s q (e + 1) = o + chG nb (uK U) (bsN U k) D s q e + (if (wbm nb (uK U) st.1 (nd D st.2) (bsN U k)).testBit q = true then (if pc (wbm nb (uK U) st.1 (nd D st.2) (bsN U k)) ≤ 1 then 60 else 30) else 0) := fun o q => by
      show o + (chG nb (uK U) (bsN U k) D s q e + (if (cbG nb (uK U) (bsN U k) D s e).testBit q = true then (if pc (cbG nb (uK U) (bsN U k) D s e) ≤ 1 then 60 else 30) else 0)) = _
      rw [hcb, Int32.add_assoc]
    generalize htb : nd D st.2 = tb at hset ht hc1 ⊢
    have htb2 : tb < 2 ^ nb := by rw [← htb]; exact nd_lt2 hD
    have htb6 : tb < 64 := Nat.lt_of_lt_of_le htb2 (two_le m3)
    by_cases h0 : tb = 0
    · subst h0
      rw [if_pos nI_0]
      unfold F_X9_layChoice_J143 F_X9_layChoice_J214
      rw [if_pos rfl, nI_1]
      rw [wbm_0, wfm_0] at ht
      simp only [wbm_0, Nat.zero_testBit, Bool.false_eq_true, if_false, Int32.add_zero] at hc1
      refine ⟨_, ⟨(hc1 o1 i).symm, (hc1 o2 j).symm, rfl, ?_, i2, i3⟩, rfl⟩
      rw [ht]
      simp only [Nat.zero_testBit, Bool.false_eq_true, if_false, Nat.or_zero]
      exact i1
    · rw [if_neg (nI_ne0 (by omega) (by omega))]
      have hwb : wbm nb (uK U) (z4.1 145) tb (bsN U k) = wbm nb (uK U) st.1 tb (bsN U k) := wbm_congr (fun y hy => (i1.2 y hy).1)
      have hwf : wfm nb (uK U) (z4.1 145) tb (bsN U k) = wfm nb (uK U) st.1 tb (bsN U k) := wfm_congr (fun y hy => (i1.2 y hy).1)
      rw [bears_eq hK hb143 m3 htb2, cl_some, hwb, hwf]
      generalize hbm : wbm nb (uK U) st.1 tb (bsN U k) = bm at ht hc1 ⊢
      generalize hfm : wfm nb (uK U) st.1 tb (bsN U k) = fm at ht ⊢
      have hb2 : bm < 2 ^ nb := by rw [← hbm]; exact nd_lt2 htb2
      have hb6 : bm < 64 := Nat.lt_of_lt_of_le hb2 (two_le m3)
      have hf2 : fm < 2 ^ nb := by rw [← hfm]; exact mk_lt2 (Nat.le_refl _)
      have hbs : ∀ y, bm.testBit y = true → tb.testBit y = true := fun y hy => by rw [← hbm] at hy; exact nd_sub hy
      have hbD : ∀ y, bm.testBit y = true → D.testBit y = true := fun y hy => by have := hbs y hy; rw [← htb] at this; exact nd_sub this
      have hpc2 : pc bm ≤ 2 := by
        refine pc_two i (by omega) j (by omega) bm hb6 (mk_ext _ (and64 hb6) _ hb6 (fun y hy => ?_))
        rw [Nat.testBit_and]
        cases hz : bm.testBit y
        · rfl
        · have hd := hbD y hz
          rw [← hD2, Nat.testBit_and, Bool.and_eq_true] at hd
          rw [hd.2]
          rfl
      have h0e : (0 : Int32) ≤ nI e := nI_pos' (by omega)
      -- the fallen
      have hfell : ∀ y, y < nb → ((st.2 ||| fm).testBit y = true → 0 ≤ (if fm.testBit y = true then nI e else z4.1 147 y)) ∧ ((st.2 ||| fm).testBit y = false → (if fm.testBit y = true then nI e else z4.1 147 y) = -1) := by
        intro y hy
        obtain ⟨j1, j2, j3⟩ := i1.2 y hy
        rw [Nat.testBit_or]
        cases hf : fm.testBit y
        · simp only [Bool.or_false, Bool.false_eq_true, if_false]
          exact ⟨j2, j3⟩
        · simp [h0e]
      generalize hz5 : sa z4 147 (fun y => if fm.testBit y = true then nI e else z4.1 147 y) = z5
      have f5 : FM z4 z5 := by rw [← hz5]; exact fm_st (by omega)
      have r5 : z5.1 143 = z4.1 143 := by rw [← hz5, sa_n (by decide)]
      have s5 : ∀ y, z5.1 147 y = (if fm.testBit y = true then nI e else z4.1 147 y) := fun y => by rw [← hz5, sa_r]
      have l5 : z5.1 145 = z4.1 145 := by rw [← hz5, sa_n (by decide)]
      unfold F_X9_layChoice_J143
      by_cases hb0 : bm = 0
      · subst hb0
        rw [if_pos nI_0]
        unfold F_X9_layChoice_J214
        rw [nI_1]
        simp only [Nat.zero_testBit, Bool.false_eq_true, if_false, Int32.add_zero] at hc1
        refine ⟨_, ⟨(hc1 o1 i).symm, (hc1 o2 j).symm, rfl, ?_, i2.trans f5, by rw [r5]; exact i3⟩, rfl⟩
        rw [ht]
        refine ⟨Nat.or_lt_two_pow i1.1 hf2, fun y hy => ?_⟩
        rw [l5, s5]
        refine ⟨?_, hfell y hy⟩
        simp only [Nat.zero_testBit, Bool.false_eq_true, if_false]
        exact (i1.2 y hy).1
      · rw [if_neg (nI_ne0 (by omega) (by omega)), pays_eq (K := uK U) (fun y hy => by rw [r5]; exact hK y hy) (by rw [r5]; exact hb143) m3 hb2 htb6 hbs, cl_some]
        generalize hz6 : sa (sa (sa z5 145 (fun y => if bm.testBit y = true then z5.1 145 y - cV nb (uK U) tb (bsN U k) y else z5.1 145 y)) 146 (fun y => if bm.testBit y = true then z5.1 146 y + wpart bm 60 else z5.1 146 y)) 148 (fun y => if bm.testBit y = true then z5.1 148 y + 1 else z5.1 148 y) = z6
        have f6 : FM z5 z6 := by rw [← hz6]; exact (fm_st (by omega)).trans ((fm_st (by omega)).trans (fm_st (by omega)))
        have r6 : z6.1 143 = z5.1 143 := by rw [← hz6, sa_n (by decide), sa_n (by decide), sa_n (by decide)]
        have hp6 := pc_le bm hb6
        unfold F_X9_layChoice_J185 F_X9_layChoice_J211 F_X9_layChoice_J214
        rw [mk_has _ hb6 i (by omega), mk_has _ hb6 j (by omega), mk_bits _ hb6, nI_1]
        simp only [cl_some, b01, nm_eq]
        have hpp : ∀ y, bm.testBit y = true → ¬ nI (pc bm) = 0 := fun y hy => by
          have h7 : y < 6 := by
            rcases Nat.lt_or_ge y 6 with q | q
            · exact q
            · rw [bits_out (nb := 6) (by omega) q] at hy; exact absurd hy (by decide)
          have := pc_pos bm hb6 y h7 hy
          exact nI_ne0 (by omega) (by omega)
        have fin : ∃ x', (x'.1 = o1 + chG nb (uK U) (bsN U k) D s i (e + 1) ∧ x'.2.1 = o2 + chG nb (uK U) (bsN U k) D s j (e + 1) ∧ x'.2.2.1 = nI (e + 1) ∧ MS x'.2.2.2 nb (csG nb (uK U) (bsN U k) D s (e + 1)) ∧ FM x x'.2.2.2 ∧ x'.2.2.2.1 143 = x.1 143) ∧ x' = (o1 + chG nb (uK U) (bsN U k) D s i (e + 1), o2 + chG nb (uK U) (bsN U k) D s j (e + 1), nI (e + 1), z6) := by
          refine ⟨_, ⟨rfl, rfl, rfl, ?_, i2.trans (f5.trans f6), by rw [r6, r5]; exact i3⟩, rfl⟩
          rw [ht]
          refine ⟨Nat.or_lt_two_pow i1.1 hf2, fun y hy => ?_⟩
          have q145 : z6.1 145 = (fun y => if bm.testBit y = true then z5.1 145 y - cV nb (uK U) tb (bsN U k) y else z5.1 145 y) := by rw [← hz6, sa_n (by decide), sa_n (by decide), sa_r]
          have q147 : z6.1 147 = z5.1 147 := by rw [← hz6, sa_n (by decide), sa_n (by decide), sa_n (by decide)]
          rw [q145, q147, s5]
          refine ⟨?_, hfell y hy⟩
          dsimp only
          rw [l5, (i1.2 y hy).1]
        obtain ⟨x', fx, rfl⟩ := fin
        refine ⟨_, fx, ?_⟩
        rw [hc1 o1 i, hc1 o2 j]
        by_cases c1 : bm.testBit i = true
        · rw [if_pos c1, if_pos c1, gz_ok (hpp i c1), inc_eq hb6 hpc2 (by omega) c1]
          by_cases c2 : bm.testBit j = true
          · rw [if_pos c2, if_pos c2, gz_ok (hpp j c2)]
          · rw [if_neg c2, if_neg c2]
        · rw [if_neg c1, if_neg c1]
          by_cases c2 : bm.testBit j = true
          · rw [if_pos c2, if_pos c2, gz_ok (hpp j c2), inc_eq hb6 hpc2 (by omega) c2]
          · rw [if_neg c2, if_neg c2]
  · rintro ⟨z1, z2, z3, z4⟩ rc ⟨rfl, rfl, rfl, i1, i2, i3⟩
    dsimp only at i1 i2 i3 ⊢
    simp only [Nat.reduceAdd]
    rw [lit_add 4, gd_ok (by omega) (by decide), ld_nI (by omega), i3, hU (4 + k) (by omega), m5 k hk, if_pos (Int32.le_refl _)]
    unfold F_X9_layChoice_J220
    exact ⟨z4, rfl, i1, i2, i3⟩
