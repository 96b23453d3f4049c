def fV : Option Nat → Int32
  | none => -4
  | some c => nI c
/-- the model walks with a turn more -/
theorem oneM {h x : HP} {nb ns n i a b : Nat} {ln wh fr to : Nat → Nat} (c : Core h nb ns ln n wh fr to) (hx : FM h x) (hi : i < nb) (hab : a ≤ b) (hb : b < lsum ln ns) : ∃ ha B h2, F_X9_asItIs 133 x = some ha ∧ F_X9_adds 144 (nI i) (nI a) (nI b) ha = some (sa ha 144 B) ∧ F_X9_goesUp 133 (sa ha 144 B) = some h2 ∧ h2.1 146 i = nI (Wc (h.1 134) nb ns ln (TA n wh fr to) i (200 * a + b)) ∧ FM h h2 := by
  obtain ⟨c1, c2, c3, c4, c5, c6⟩ := c
  have hn := c1.1.2.2.1
  have h120 : lsum ln ns ≤ 120 := c1.1.2.2.2.2.2
  obtain ⟨ha, a1, a2, a3, a4, a5, a6⟩ := asItIs_ok x
  have e136 : x.1 136 = h.1 136 := hx.1 136 (by omega)
  have e134 : x.1 134 = h.1 134 := hx.1 134 (by omega)
  have hT : TM (ha.1 144) n wh fr to := c4.of (fun j hj => by rw [a4 j hj, e136])
  obtain ⟨B, b1, b2⟩ := adds_eq (q := 144) (i := i) (a := a) (b := b) hT (by have := c3.2.1; omega) rfl (by omega) hab (by omega)
  have hw : ∀ k, k < n + 1 → upN wh n i k < nb := fun k hk => by
    by_cases e : k = n
    · rw [e, upN_r]; exact hi
    · rw [upN_n e]; exact c5 k (by omega)
  obtain ⟨h2, g1, g2, g3⟩ := goB (h := h) (ha := ha) (ln := ln) (ns := ns) (nb := nb) (T := tX (TA n wh fr to) i a b) c1 (fun j hj => by rw [a3 j hj, e134]) a5 a6 b2 hw (fun y hy => by
    show tmask (upN wh n i) (upN fr n a) (upN to n b) (fun _ => true) y (n + 1) = _
    rw [tmask_up]
    unfold tX
    simp only [true_and])
  refine ⟨ha, B, h2, a1, b1, g1, ?_, hx.trans (a2.trans g3)⟩
  rw [(g2.2.2.1 i hi).2.2.2.1, Wc_ab (by omega)]
  exact (acN_eq (K := uK (h.1 134)) (c1.bd (d := -1) (T := tX (TA n wh fr to) i a b) (fun y hy => Nat.lt_of_lt_of_le (tX_lt (tmask_lt2 c5) hi) (two_le hn)) (Nat.le_refl _)) h120 hi).1
theorem best59 {h x : HP} {nb ns n i a A0 most : Nat} {ln wh fr to : Nat → Nat} {F : Option Nat} {x2 : Int32} {rc : (Int32 × Int32 × Int32 × HP) → Option (Int32 × HP)} (c : Core h nb ns ln n wh fr to) (hx : FM h x) (hi : i < nb) (ha : a < lsum ln ns) (hA : A0 ≤ 64800) (hS : BS (Wc (h.1 134) nb ns ln (TA n wh fr to) i) (lsum ln ns) A0 (200 * a) most F) : ∃ x' most' F', F_X9_best_L59 133 rc (nI i) x2 (nI (lsum ln ns)) (nI a) sg_fuel (nI most, fV F, nI a, x) = rc (nI most', fV F', nI (a + 1), x') ∧ FM h x' ∧ BS (Wc (h.1 134) nb ns ln (TA n wh fr to) i) (lsum ln ns) A0 (200 * a + lsum ln ns) most' F' := by
  have hn := c.1.1.2.2.1
  have h120 : lsum ln ns ≤ 120 := c.1.1.2.2.2.2.2
  have hWl : ∀ k, Wc (h.1 134) nb ns ln (TA n wh fr to) i k ≤ 64800 := fun k => Wc_le c.1 (fun y hy => tmask_lt2 c.2.2.2.2.1) hi
  unfold F_X9_best_L59
  simp only [Nat.reduceAdd]
  refine lp_inv' (fun d z => ∃ most F, z.1 = nI most ∧ z.2.1 = fV F ∧ z.2.2.1 = nI (a + d) ∧ FM h z.2.2.2 ∧ BS (Wc (h.1 134) nb ns ln (TA n wh fr to) i) (lsum ln ns) A0 (200 * a + (a + d)) most F) (B := lsum ln ns - a) (Q := fun r => ∃ x' most' F', r = rc (nI most', fV F', nI (a + 1), x') ∧ FM h x' ∧ BS (Wc (h.1 134) nb ns ln (TA n wh fr to) i) (lsum ln ns) A0 (200 * a + lsum ln ns) most' F') ?_ ?_ sg_fuel 0 (nI most, fV F, nI a, x) (Nat.zero_le _) (fu (by omega)) ⟨most, F, rfl, rfl, rfl, hx, hS.skip (by omega) (fun k q1 q2 q3 => absurd q3.1 (by omega))⟩
  · rintro d ⟨z1, z2, z3, z4⟩ rc2 hd ⟨most, F, i1, i2, i3, i4, i5⟩
    dsimp only at i1 i2 i3 i4 i5 ⊢
    subst i1 i2 i3
    left
    generalize hy : a + d = b at *
    have hbY : b < lsum ln ns := by omega
    have hm : most ≤ 64800 := i5.le hA hWl
    obtain ⟨hh, B, h2, a1, a2, a3, a4, a5⟩ := oneM (a := a) (b := b) c i4 hi (by omega) hbY
    have hW1 := hWl (200 * a + b)
    rw [if_neg (nI_ge hbY (by omega)), a1, cl_some, a2, cl_some, a3, cl_some, gd_ok (by omega) (by decide), ld_nI (by omega), a4]
    unfold F_X9_best_J110 F_X9_best_J132
    simp only [Nat.reduceAdd]
    rw [ld_nI (by omega), a4, nI_1]
    by_cases c1 : nI (Wc (h.1 134) nb ns ln (TA n wh fr to) i (200 * a + b)) ≤ nI most
    · rw [if_pos c1, gd_ok (by omega) (by decide), if_pos c1]
      rw [nI_leI (by omega) (by omega)] at c1
      refine ⟨_, ⟨most, F, rfl, rfl, by rw [← hy]; rfl, a5, i5.skip (by omega) (fun k q1 q2 q3 => ?_)⟩, rfl⟩
      have : k = 200 * a + b := by omega
      rw [this]; exact c1
    · rw [if_neg c1, gd_ok (by omega) (by decide), if_neg c1, gd_ok (by omega) (by decide)]
      rw [nI_leI (by omega) (by omega)] at c1
      have e2 : (200 : Int32) * nI a + nI b = nI (200 * a + b) := by
        rw [show (200 : Int32) * nI a = nI (200 * a) from pk_mul 200 a, nI_add]
      rw [e2]
      refine ⟨_, ⟨_, some (200 * a + b), rfl, rfl, by rw [← hy]; rfl, a5, ?_⟩, rfl⟩
      rw [show 200 * a + (a + (d + 1)) = 200 * a + b + 1 by omega]
      exact i5.take (vld_ab (by omega) (by omega) (by omega)) (by omega)
  · rintro ⟨z1, z2, z3, z4⟩ rc2 ⟨most, F, i1, i2, i3, i4, i5⟩
    dsimp only at i1 i2 i3 i4 i5 ⊢
    subst i1 i2 i3
    rw [show a + (lsum ln ns - a) = lsum ln ns by omega] at i5 ⊢
    rw [if_pos (Int32.le_refl _)]
    unfold F_X9_best_J139
    rw [nI_1]
    exact ⟨z4, most, F, rfl, i4, i5⟩
theorem best48 {h x : HP} {nb ns n i A0 : Nat} {ln wh fr to : Nat → Nat} {x2 : Int32} (c : Core h nb ns ln n wh fr to) (hx : FM h x) (hi : i < nb) (hA : A0 ≤ 64800) : ∃ x' most F, F_X9_best_L48 133 (nI i) x2 (nI (lsum ln ns)) sg_fuel (nI A0, -4, 0, x) = F_X9_best_J145 133 x2 (nI most) (fV F) x' ∧ FM h x' ∧ BS (Wc (h.1 134) nb ns ln (TA n wh fr to) i) (lsum ln ns) A0 (200 * lsum ln ns) most F := by
  have h120 : lsum ln ns ≤ 120 := c.1.1.2.2.2.2.2
  unfold F_X9_best_L48
  refine lp_inv' (fun a z => ∃ most F, z.1 = nI most ∧ z.2.1 = fV F ∧ z.2.2.1 = nI a ∧ FM h z.2.2.2 ∧ BS (Wc (h.1 134) nb ns ln (TA n wh fr to) i) (lsum ln ns) A0 (200 * a) most F) (B := lsum ln ns) (Q := fun r => ∃ x' most F, r = F_X9_best_J145 133 x2 (nI most) (fV F) x' ∧ FM h x' ∧ BS (Wc (h.1 134) nb ns ln (TA n wh fr to) i) (lsum ln ns) A0 (200 * lsum ln ns) most F) ?_ ?_ sg_fuel 0 (nI A0, -4, 0, x) (Nat.zero_le _) (fu (by omega)) ⟨A0, none, rfl, rfl, rfl, hx, fun k hk => absurd hk (Nat.not_lt_zero k), Nat.le_refl _, fun _ => rfl, fun k hk => by cases hk⟩
  · rintro a ⟨z1, z2, z3, z4⟩ rc ha ⟨most, F, i1, i2, i3, i4, i5⟩
    dsimp only at i1 i2 i3 i4 i5 ⊢
    subst i1 i2 i3
    left
    obtain ⟨x', most', F', w1, w2, w3⟩ := best59 (x2 := x2) (rc := rc) c i4 hi ha hA i5
    rw [if_neg (nI_ge ha (by omega)), w1]
    exact ⟨_, ⟨most', F', rfl, rfl, rfl, w2, w3.skip (by omega) (fun k q1 q2 q3 => absurd q3.2 (by omega))⟩, rfl⟩
  · rintro ⟨z1, z2, z3, z4⟩ rc ⟨most, F, i1, i2, i3, i4, i5⟩
    dsimp only at i1 i2 i3 i4 i5 ⊢
    subst i1 i2 i3
    rw [if_pos (Int32.le_refl _)]
    exact ⟨z4, most, F, rfl, i4, i5⟩
theorem nI_n4b {l : Nat} (h : l < 2 ^ 31) : ¬ nI l = -4 := fun e => by
  have := n4lt h
  rw [e] at this
  exact absurd this (by decide)
theorem step_best (h : HP) (hI : Inv h) (x1 x2 : Int32) : ∃ (r : Int32) (h1 h2 : HP), F_X8_best 0 x1 x2 h = some (r, h1) ∧ F_X9_best 133 x1 x2 h1 = some (r, h2) ∧ Inv h2 := by
  have hI0 := hI
  obtain ⟨nb, ns, ln, n, wh, fr, to, c, t, u, k, q⟩ := hI
  have hn : nb ≤ 6 := c.1.1.2.2.1
  have h120 : lsum ln ns ≤ 120 := c.1.1.2.2.2.2.2
  unfold F_X8_best F_X9_best F_X9_isTwo
  simp only [Nat.reduceAdd]
  rw [hasB c.2.1.2.2.1, cl_some, b01, within_eq, cl_some, b01]
  by_cases hx : 0 ≤ x1 ∧ x1 < nI nb
  · rw [if_pos hx]
    obtain ⟨i, rfl, hi⟩ := nI_ex hx.1 hx.2 (by omega)
    by_cases hx2 : 0 ≤ x2 ∧ x2 ≤ 1
    · rw [if_pos hx2]
      obtain ⟨m1, m2⟩ := acN_eq (K := uK (h.1 134)) (c.1.bd (d := -1) c.T64 (Nat.le_refl _)) h120 hi
      generalize hA0 : acN (uK (h.1 134)) (WR (h.1 134) nb ns ln (-1) (TA n wh fr to) (uT (h.1 134)) (lsum ln ns)) i = A0 at *
      rw [acres_eq c.2.2.2.2.2.2.1 (c.2.1.2.2.2.2.2.2.1 i hi).2 hn hi, cl_some, m1]
      obtain ⟨x, most, F, s1, s2, s3, s4⟩ := seekT c.1 c.2.1 (T := TA n wh fr to) (fun y hy => ⟨c.2.2.2.2.2.1 y hy, tmask_lt2 c.2.2.2.2.1⟩) hi hA0.symm
      have cx := s4.kp.core c
      have eU : x.1 134 = h.1 134 := s4.1 134 (by omega)
      rw [s1, cl_some]
      dsimp only
      obtain ⟨ha, g2, a1, a2, a3, a4, a5, a6⟩ := asGo cx
      obtain ⟨x', most', F', w1, w2, w3⟩ := best48 (x2 := x2) (A0 := A0) cx a5 hi (by omega)
      rw [eU] at w3 a3
      obtain ⟨rfl, rfl⟩ := w3.one s3
      have hinv : Inv x' := w2.kp.inv (s4.kp.inv hI0)
      have hy9 : F_X9_yardsOf 134 g2 = some (nI (lsum ln ns)) := yardsOf_eq (by rw [a5.1 134 (by omega), eU]; exact c.1.1) rfl
      have e9 : F_X9_best_L48 133 (nI i) x2 (nI (lsum ln ns)) sg_fuel (g2.1 146 i, -4, 0, g2) = F_X9_best_J145 133 x2 (nI most') (fV F') x' := by
        rw [(a3.2.2.1 i hi).2.2.2.1]
        have : (if (WR (h.1 134) nb ns ln (-1) (TA n wh fr to) (uT (h.1 134)) (lsum ln ns)).2.2.2.2.1.testBit i = true ∨ uK (h.1 134) i = 2 then 0 else (WR (h.1 134) nb ns ln (-1) (TA n wh fr to) (uT (h.1 134)) (lsum ln ns)).2.2.2.1 i) = nI A0 := m1
        rw [this]
        exact w1
      have key : ∀ r, F_X9_best_J145 133 x2 (nI most') (fV F') x' = some (r, x') → cl (F_X9_isBearer 133 (nI i) x) (fun p2 => (if p2 = 0 then some ((-1), x) else cl (cl (F_X9_in x2.toInt64 0 1) (fun p5 => some p5)) (fun p9 => (if p9 = 0 then some ((-1), x) else cl (F_X9_asItIs 133 x) (fun p18 => cl (F_X9_goesUp 133 p18) (fun p22 => gd (nI i) 6 (nm (ld p22 146 (nI i)) (fun v31 => cl (F_X9_yardsOf 134 p22) (fun p40 => F_X9_best_L48 133 (nI i) x2 p40 sg_fuel (v31, (-4), 0, p22)))))))))) = some (r, x') := by
        intro r hr
        rw [isB (by rw [eU]; exact c.1.1.2.1) c.1.2.1 hn, cl_some, b01, if_pos hx, inL (l := 0) (m := 1) (by decide) (by decide), cl_some, cl_some, b01, if_pos hx2, a1, cl_some, a2, cl_some, gd_ok (by omega) (by decide), nm_eq, ld_nI (by omega), hy9, cl_some, e9]
        exact hr
      unfold F_X9_best_J145 at key
      cases F' with
      | none =>
        rw [s2.2.1 rfl, if_pos rfl]
        exact ⟨-4, x, x', rfl, key _ (if_pos rfl), hinv⟩
      | some k =>
        obtain ⟨s5, s6, s7⟩ := s2.2.2 k rfl
        have hk : k < 200 * lsum ln ns := (s3.2.2.2 k rfl).1
        rw [s5, if_neg (by decide)]
        have e4 : ¬ fV (some k) = -4 := nI_n4b (by omega)
        by_cases h0 : x2 = 0
        · rw [if_pos h0, s6, s7]
          have e2 : (200 : Int32) * nI (k / 200) + nI (k % 200) = nI k := by
            rw [show (200 : Int32) * nI (k / 200) = nI (200 * (k / 200)) from pk_mul 200 _, nI_add, Nat.div_add_mod]
          rw [e2]
          exact ⟨nI k, x, x', rfl, key _ (by rw [if_neg e4, if_pos h0]; rfl), hinv⟩
        · rw [if_neg h0, s2.1]
          exact ⟨_, x, x', rfl, key _ (by rw [if_neg e4, if_neg h0]), hinv⟩
    · rw [if_neg hx2]
      refine ⟨-1, h, h, rfl, ?_, hI0⟩
      rw [isB c.1.1.2.1 c.1.2.1 hn, cl_some, b01, if_pos hx, inL (l := 0) (m := 1) (by decide) (by decide), cl_some, cl_some, b01, if_neg hx2]
  · rw [if_neg hx]
    refine ⟨-1, h, h, rfl, ?_, hI0⟩
    rw [isB c.1.1.2.1 c.1.2.1 hn, cl_some, b01, if_neg hx]
