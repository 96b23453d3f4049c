/-- Euclid, step by step -/
def eu : Nat → Nat × Nat → Nat × Nat
  | 0, p => p
  | k + 1, p => if (eu k p).2 = 0 then eu k p else ((eu k p).2, (eu k p).1 % (eu k p).2)
theorem eu_add (p : Nat × Nat) (j : Nat) : ∀ k, eu (j + k) p = eu k (eu j p)
  | 0 => rfl
  | k + 1 => by
    show (if (eu (j + k) p).2 = 0 then eu (j + k) p else ((eu (j + k) p).2, (eu (j + k) p).1 % (eu (j + k) p).2)) = (if (eu k (eu j p)).2 = 0 then eu k (eu j p) else ((eu k (eu j p)).2, (eu k (eu j p)).1 % (eu k (eu j p)).2))
    rw [eu_add p j k]
theorem eu_0 {p : Nat × Nat} (h : p.2 = 0) : ∀ k, eu k p = p
  | 0 => rfl
  | k + 1 => by
    show (if (eu k p).2 = 0 then eu k p else _) = p
    rw [eu_0 h k, if_pos h]
theorem eu_1 {a b : Nat} (h : ¬ b = 0) : eu 1 (a, b) = (b, a % b) := by
  show (if b = 0 then _ else _) = _
  rw [if_neg h]
  rfl
theorem eu_end : ∀ (m a b : Nat), b < 2 ^ m → (eu (2 * m) (a, b)).2 = 0
  | 0, a, b, h => by
    have : b = 0 := by simpa using h
    exact this
  | m + 1, a, b, h => by
    by_cases hb : b = 0
    · rw [eu_0 hb]; exact hb
    · rw [show 2 * (m + 1) = 1 + (1 + 2 * m) by omega, eu_add, eu_1 hb]
      by_cases hr : a % b = 0
      · rw [eu_0 hr]; exact hr
      · rw [eu_add, eu_1 hr]
        refine eu_end m _ _ ?_
        have h1 : a % b < b := Nat.mod_lt _ (by omega)
        have h2 : 2 ^ (m + 1) = 2 * 2 ^ m := by rw [Nat.pow_succ]; omega
        rcases Nat.lt_or_ge (2 * (a % b)) b with q | q
        · have := Nat.mod_lt b (show a % b > 0 by omega)
          omega
        · have e : b % (a % b) ≤ b - a % b := by
            rw [Nat.mod_eq_sub_mod (by omega)]
            exact Nat.mod_le _ _
          omega
theorem eu_bd {a b M : Nat} (ha : a < M) (hb : b < M) : ∀ k, (eu k (a, b)).1 < M ∧ (eu k (a, b)).2 < M
  | 0 => ⟨ha, hb⟩
  | k + 1 => by
    obtain ⟨h1, h2⟩ := eu_bd ha hb k
    show (if (eu k (a, b)).2 = 0 then eu k (a, b) else ((eu k (a, b)).2, (eu k (a, b)).1 % (eu k (a, b)).2)).1 < M ∧ (if (eu k (a, b)).2 = 0 then eu k (a, b) else ((eu k (a, b)).2, (eu k (a, b)).1 % (eu k (a, b)).2)).2 < M
    split
    · exact ⟨h1, h2⟩
    · exact ⟨h2, Nat.lt_of_le_of_lt (Nat.mod_le _ _) h1⟩
theorem eu_pos {a b : Nat} (h : 0 < a ∨ 0 < b) : ∀ k, 0 < (eu k (a, b)).1 ∨ 0 < (eu k (a, b)).2
  | 0 => h
  | k + 1 => by
    have ih := eu_pos h k
    show 0 < (if (eu k (a, b)).2 = 0 then eu k (a, b) else ((eu k (a, b)).2, (eu k (a, b)).1 % (eu k (a, b)).2)).1 ∨ 0 < (if (eu k (a, b)).2 = 0 then eu k (a, b) else ((eu k (a, b)).2, (eu k (a, b)).1 % (eu k (a, b)).2)).2
    split
    · exact ih
    · left; dsimp only; omega
/-- where it ends -/
theorem eu_stop {a b : Nat} (hb : b < 2 ^ 30) : ∃ k, k ≤ 60 ∧ (eu k (a, b)).2 = 0 ∧ ∀ j, j < k → ¬ (eu j (a, b)).2 = 0 := by
  obtain ⟨k, k1, k2, k3⟩ := fb_first (p := fun k => (eu k (a, b)).2 = 0) (n := 61) ⟨60, by decide, eu_end 30 a b hb⟩
  exact ⟨k, by omega, k2, k3⟩
theorem divisor_eq {a b k : Nat} (ha : a < 2 ^ 30) (hb : b < 2 ^ 30) (hk : k ≤ 60) (h1 : (eu k (a, b)).2 = 0) (h2 : ∀ j, j < k → ¬ (eu j (a, b)).2 = 0) : F_X8_commonDivisor (nI a) (nI b) = some (nI (eu k (a, b)).1) := by
  unfold F_X8_commonDivisor F_X8_commonDivisor_L7
  refine lp_seq' (fun j => (nI (eu j (a, b)).1, nI (eu j (a, b)).2, nI j)) k (fu (by omega)) rfl (fun j hj rc => ?_) (fun rc => ?_)
  · dsimp only
    obtain ⟨b1, b2⟩ := eu_bd ha hb j
    have hne := h2 j hj
    have hz : ¬ nI (eu j (a, b)).2 = 0 := nI_ne0 (by omega) (by omega)
    rw [if_neg (show ¬ 100 ≤ nI j from nI_ge (b := 100) (by omega) (by decide)), if_neg hz, gz_ok hz, nm_eq, pk_rem (by omega) (by omega) (by omega), nI_1]
    show _ = rc (nI (if (eu j (a, b)).2 = 0 then eu j (a, b) else ((eu j (a, b)).2, (eu j (a, b)).1 % (eu j (a, b)).2)).1, nI (if (eu j (a, b)).2 = 0 then eu j (a, b) else ((eu j (a, b)).2, (eu j (a, b)).1 % (eu j (a, b)).2)).2, nI (j + 1))
    rw [if_neg hne]
  · dsimp only
    rw [if_neg (show ¬ 100 ≤ nI k from nI_ge (b := 100) (by omega) (by decide)), h1, if_pos nI_0]
theorem cmp0 {b : Nat} (hb : b < 2 ^ 31) : lg_cmp (lN b) 0 = 0 ↔ b = 0 := by
  unfold lg_cmp
  constructor
  · intro h
    by_cases h1 : lN b > 0
    · rw [if_pos h1] at h; exact absurd h (by decide)
    · rw [if_neg h1] at h
      by_cases h2 : lN b = 0
      · exact (lN_eq (a := b) (b := 0) hb (by decide)).mp h2
      · rw [if_neg h2] at h; exact absurd h (by decide)
  · intro h
    subst h
    rfl
theorem fraction_eq {a b k : Nat} {part : Int32} (ha : a < 2 ^ 30) (hb : b < 2 ^ 30) (h0 : 0 < a ∨ 0 < b) (hk : k ≤ 60) (h1 : (eu k (a, b)).2 = 0) (h2 : ∀ j, j < k → ¬ (eu j (a, b)).2 = 0) : F_X9_fraction (lN a) (lN b) part = some (nI ((if part = 0 then a else b) / (eu k (a, b)).1)) := by
  unfold F_X9_fraction F_X9_fraction_L6
  refine lp_seq' (fun j => (lN (eu j (a, b)).1, lN (eu j (a, b)).2)) k (fu (by omega)) rfl (fun j hj rc => ?_) (fun rc => ?_)
  · dsimp only
    obtain ⟨b1, b2⟩ := eu_bd ha hb j
    have hne := h2 j hj
    rw [if_neg (fun z => hne ((cmp0 (by omega)).mp z)), gzl_ok (fun z => hne ((lN_eq (b := 0) (by omega) (by decide)).mp z)), nm_eq, pk_lRem (by omega) (by omega) (by omega)]
    show _ = rc (lN (if (eu j (a, b)).2 = 0 then eu j (a, b) else ((eu j (a, b)).2, (eu j (a, b)).1 % (eu j (a, b)).2)).1, lN (if (eu j (a, b)).2 = 0 then eu j (a, b) else ((eu j (a, b)).2, (eu j (a, b)).1 % (eu j (a, b)).2)).2)
    rw [if_neg hne]
  · dsimp only
    obtain ⟨b1, b2⟩ := eu_bd ha hb k
    have hp := (eu_pos h0 k).resolve_right (by omega)
    rw [if_pos ((cmp0 (by omega)).mpr h1)]
    unfold F_X9_fraction_J31 F_X9_fraction_J41
    rw [gzl_ok (fun z => by have := (lN_eq (b := 0) (by omega) (by decide)).mp z; omega), gzl_ok (fun z => by have := (lN_eq (b := 0) (by omega) (by decide)).mp z; omega), pk_lDiv (by omega) hp (by omega), pk_lDiv (by omega) hp (by omega), lN_i, lN_i]
    split <;> rfl
theorem lowest {a b : Nat} {part : Int32} (ha : a < 2 ^ 30) (hb : b < 2 ^ 30) (h0 : b = 0 → a = 0) : ∃ r, F_X8_lowestTerms (nI a) (nI b) part = some r ∧ F_X9_fraction (lN a) (lN (if b = 0 then 1 else b)) part = some r := by
  have hb2 : (if b = 0 then 1 else b) < 2 ^ 30 := by split <;> omega
  have hb3 : 0 < (if b = 0 then 1 else b) := by split <;> omega
  obtain ⟨k, k1, k2, k3⟩ := eu_stop (a := a) hb2
  rw [fraction_eq (part := part) ha hb2 (Or.inr hb3) k1 k2 k3]
  refine ⟨_, ?_, rfl⟩
  unfold F_X8_lowestTerms F_X8_lowestTerms_J8
  by_cases h1 : a = 0
  · subst h1
    rw [if_pos nI_0]
    have hk : 1 ≤ k := by
      rcases Nat.eq_zero_or_pos k with q | q
      · subst q
        have : (if b = 0 then 1 else b) = 0 := k2
        omega
      · exact q
    have e : eu k (0, if b = 0 then 1 else b) = (if b = 0 then 1 else b, 0) := by
      obtain ⟨j, rfl⟩ : ∃ j, k = 1 + j := ⟨k - 1, by omega⟩
      rw [eu_add, eu_1 (by omega), Nat.zero_mod, eu_0 rfl]
    rw [e]
    dsimp only
    split
    · rw [Nat.zero_div]; rfl
    · rw [Nat.div_self hb3]; rfl
  · have h2 : ¬ b = 0 := fun z => h1 (h0 z)
    rw [if_neg h2] at k2 k3 ⊢
    have hp := (eu_pos (a := a) (b := b) (Or.inl (by omega)) k).resolve_right (by omega)
    obtain ⟨b1, b2⟩ := eu_bd ha hb k
    have hz : ¬ nI (eu k (a, b)).1 = 0 := nI_ne0 hp (by omega)
    rw [if_neg (nI_ne0 (by omega) (by omega)), if_neg (nI_ne0 (by omega) (by omega)), divisor_eq ha hb k1 k2 k3, cl_some, if_neg hz]
    unfold F_X8_lowestTerms_J47
    rw [gz_ok hz, gz_ok hz, pk_div (by omega) hp (by omega), pk_div (by omega) hp (by omega)]
    split <;> rfl
def nsum (v : Nat → Nat) : Nat → Nat
  | 0 => 0
  | k + 1 => nsum v k + v k
theorem nsum_le {v : Nat → Nat} {M : Nat} : ∀ {k : Nat}, (∀ i, i < k → v i ≤ M) → nsum v k ≤ k * M
  | 0, _ => by simp [nsum]
  | k + 1, h => by
    have := nsum_le (v := v) (k := k) (fun i hi => h i (by omega))
    have h2 := h k (by omega)
    rw [Nat.succ_mul]
    unfold nsum
    omega
theorem nsum_ge {v : Nat → Nat} : ∀ {k i : Nat}, i < k → v i ≤ nsum v k
  | k + 1, i, h => by
    unfold nsum
    by_cases e : i = k
    · subst e; omega
    · have := nsum_ge (v := v) (k := k) (i := i) (by omega)
      omega
theorem step_share (h : HP) (hI : Inv h) (x1 x2 : Int32) : ∃ (r : Int32) (h2 : HP), F_X8_share 0 x1 x2 h = some r ∧ F_X9_share 133 x1 x2 h = some (r, h2) ∧ Inv h2 := by
  have hI0 := hI
  obtain ⟨nb, ns, ln, n, wh, fr, to, c, t, u, k, q⟩ := hI
  obtain ⟨ha, h2, a1, a2, a3, a4, a5, a6⟩ := asGo c
  have hT := c.T64
  obtain ⟨c1, c2, c3, c4, c5, c6, c7, c8⟩ := c
  have hn : nb ≤ 6 := c1.1.2.2.1
  have h120 : lsum ln ns ≤ 120 := c1.1.2.2.2.2.2
  have hbd := c1.bd (d := -1) hT (Nat.le_refl _)
  unfold F_X8_share F_X9_share F_X9_isTwo
  simp only [Nat.reduceAdd]
  rw [hasB c2.2.2.1, cl_some, b01, within_eq, cl_some, b01, isB c1.1.2.1 c1.2.1 hn, cl_some, b01, inL (l := 0) (m := 1) (by decide) (by decide), cl_some, cl_some, b01, a1, cl_some, a2, cl_some]
  by_cases hx : 0 ≤ x1 ∧ x1 < nI nb
  · rw [if_pos hx, if_pos hx]
    obtain ⟨i, rfl, hi⟩ := nI_ex hx.1 hx.2 (by omega)
    by_cases hx2 : 0 ≤ x2 ∧ x2 ≤ 1
    · rw [if_pos hx2, if_pos hx2]
      generalize hW : WR (h.1 134) nb ns ln (-1) (TA n wh fr to) (uT (h.1 134)) (lsum ln ns) = W at *
      have hg : ∀ j, j < nb → acr (uK (h.1 134)) W j = nI (acr (uK (h.1 134)) W j).toNatClampNeg ∧ (acr (uK (h.1 134)) W j).toNatClampNeg ≤ 64800 := by
        intro j hj
        obtain ⟨g, g1, g2⟩ := hbd.acres (K := uK (h.1 134)) hj
        rw [g1, nI_clamp (by omega)]
        exact ⟨rfl, by omega⟩
      generalize hv : (fun j => (acr (uK (h.1 134)) W j).toNatClampNeg) = v
      have hv1 : ∀ j, j < nb → acr (uK (h.1 134)) W j = nI (v j) ∧ v j ≤ 64800 := fun j hj => by rw [← hv]; exact hg j hj
      have hs := nsum_le (v := v) (M := 64800) (k := nb) (fun j hj => (hv1 j hj).2)
      have hs2 := nsum_ge (v := v) hi
      have hs3 : nsum v nb ≤ 388800 := Nat.le_trans hs (Nat.mul_le_mul_right _ hn)
      obtain ⟨r, r1, r2⟩ := lowest (a := v i) (b := nsum v nb) (part := x2) (by have := (hv1 i hi).2; omega) (by omega) (by omega)
      have hac : ∀ j, j < nb → F_X7_acres 81 (nI j) h = some (nI (v j)) := fun j hj => by rw [acres_eq c7 (c2.2.2.2.2.2.2.1 j hj).2 hn hj, (hv1 j hj).1]
      have hmc : ∀ j, j < nb → h2.1 146 j = nI (v j) := fun j hj => by rw [(a3.2.2.1 j hj).2.2.2.1, ← (hv1 j hj).1]; rfl
      refine ⟨r, h2, ?_, ?_, a5.kp.inv hI0⟩
      · unfold F_X8_share_L27
        refine lp_seq' (fun k => (nI (nsum v k), nI k)) nb (fu (by omega)) rfl (fun k hk rc => ?_) (fun rc => ?_)
        · dsimp only
          simp only [Nat.reduceAdd]
          rw [c2.2.2.1, if_neg (nI_ge hk (by omega)), hac k hk, cl_some, nm_eq, nI_add, nI_1]
          rfl
        · dsimp only
          simp only [Nat.reduceAdd]
          rw [c2.2.2.1, if_pos (Int32.le_refl _)]
          unfold F_X8_share_J57
          simp only [Nat.reduceAdd]
          rw [hac i hi, cl_some, r1, cl_some]
      · unfold F_X9_share_L30
        have hU : ld h2 134 1 = nI nb := by rw [← c1.1.2.1, ← a5.1 134 (by omega)]; rfl
        refine lp_seq' (fun k => (nI (nsum v k), nI k)) nb (fu (by omega)) rfl (fun k hk rc => ?_) (fun rc => ?_)
        · dsimp only
          simp only [Nat.reduceAdd]
          rw [hU, if_neg (nI_ge hk (by omega)), gd_ok (by omega) (by decide), nm_eq, ld_nI (by omega), hmc k hk, nI_add, nI_1]
          rfl
        · dsimp only
          simp only [Nat.reduceAdd]
          rw [hU, if_pos (Int32.le_refl _)]
          unfold F_X9_share_J57 F_X9_share_J74
          simp only [Nat.reduceAdd]
          rw [gd_ok (by omega) (by decide), ld_nI (by omega), hmc i hi, nI_l (by have := (hv1 i hi).2; omega), nI_l (by omega)]
          by_cases hz : nsum v nb = 0
          · rw [if_pos hz] at r2
            rw [hz, if_pos nI_0]
            have : F_X9_fraction (lN (v i)) 1 x2 = some r := r2
            rw [this, cl_some]
          · rw [if_neg hz] at r2
            rw [if_neg (nI_ne0 (by omega) (by omega)), r2, cl_some]
    · rw [if_neg hx2, if_neg hx2]
      exact ⟨_, _, rfl, rfl, hI0⟩
  · rw [if_neg hx, if_neg hx]
    exact ⟨_, _, rfl, rfl, hI0⟩
