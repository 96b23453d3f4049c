theorem wbore_lt {nb : Nat} {K SL PR : Nat → Int32} {must wet day : Int32} {T : Nat → Nat} {w : WS} {y : Nat} (hT : T y < 64) : wbore nb K SL PR must wet day T w y < 64 := by
  unfold wbore wbear
  split
  · split
    · exact nd_lt (nd_lt hT)
    · decide
  · decide
def prB (P : Nat → Int32) (b : Nat → Nat) : Nat → Bool
  | 0 => true
  | k + 1 => prB P b k && decide (nI (pc (b (P (2 * k)).toNatClampNeg)) = P (2 * k + 1))
theorem prB_false {P : Nat → Int32} {b : Nat → Nat} {k : Nat} (h : prB P b k = false) : ∀ d, prB P b (k + d) = false
  | 0 => h
  | d + 1 => by
    show (prB P b (k + d) && _) = false
    rw [prB_false h d, Bool.false_and]
theorem printsC {h : HP} {a u yards : Nat} {b : Nat → Nat} (hy : yards ≤ 120) (hu : u ≤ 8) (h1 : h.1 0 10 = nI u) (hP : ∀ p, p < u → h.1 77 p = h.1 141 (2 * p) ∧ h.1 78 p = h.1 141 (2 * p + 1) ∧ (∃ y, y < yards ∧ h.1 141 (2 * p) = nI y) ∧ ∃ m, m ≤ 6 ∧ h.1 141 (2 * p + 1) = nI m) (hb : ∀ y, y < yards → h.1 (a + 5) y = nI (b y) ∧ b y < 64) : F_X8_printsAreSo 0 a h = some (if prB (h.1 141) b u = true then 1 else 0) := by
  unfold F_X8_printsAreSo F_X8_printsAreSo_L2
  simp only [Nat.reduceAdd]
  refine lp_inv (fun k x => x = nI k ∧ prB (h.1 141) b k = true) (B := u) (Q := fun r => r = some (if prB (h.1 141) b u = true then 1 else 0)) ?_ ?_ sg_fuel 0 0 (Nat.zero_le _) (fu (by omega)) ⟨rfl, rfl⟩
  · rintro k x hk ⟨rfl, i1⟩
    obtain ⟨p1, p2, ⟨y, y1, y2⟩, m, m1, m2⟩ := hP k hk
    obtain ⟨b1, b2⟩ := hb y y1
    have e : (h.1 141 (2 * k)).toNatClampNeg = y := by rw [y2, nI_clamp (by omega)]
    have key : ∀ rc : Int32 → Option Int32, (if h.1 0 10 ≤ nI k then some 1 else gd (nI k) 8 (gd (ld h 77 (nI k)) 120 (cl (F_J6_bitCount_0f7a4 (ld h (a + 5) (ld h 77 (nI k)))) fun p21 => gd (nI k) 8 (if p21 = ld h 78 (nI k) then rc (nI k + 1) else some 0)))) = if nI (pc (b y)) = h.1 141 (2 * k + 1) then rc (nI (k + 1)) else some 0 := by
      intro rc
      rw [h1, if_neg (nI_ge hk (by omega)), gd_ok (by omega) (by decide), ld_nI (by omega), p1, y2, gd_ok (by omega) (by decide), ld_nI (by omega), b1, mk_bitCount _ b2, cl_some, gd_ok (by omega) (by decide), ld_nI (by omega), p2, nI_1]
    by_cases hc : nI (pc (b y)) = h.1 141 (2 * k + 1)
    · left
      refine ⟨nI (k + 1), ⟨rfl, ?_⟩, fun rc => ?_⟩
      · show (prB (h.1 141) b k && decide (nI (pc (b (h.1 141 (2 * k)).toNatClampNeg)) = h.1 141 (2 * k + 1))) = true
        rw [i1, e]
        simp [hc]
      · rw [key rc, if_pos hc]
    · right
      refine ⟨some 0, ?_, fun rc => ?_⟩
      · have hf : prB (h.1 141) b (k + 1) = false := by
          show (prB (h.1 141) b k && decide (nI (pc (b (h.1 141 (2 * k)).toNatClampNeg)) = h.1 141 (2 * k + 1))) = false
          rw [e]
          simp [hc]
        have := prB_false hf (u - (k + 1))
        rw [show k + 1 + (u - (k + 1)) = u by omega] at this
        rw [this]
        rfl
      · rw [key rc, if_neg hc]
  · rintro x ⟨rfl, i1⟩
    refine ⟨_, rfl, fun rc => ?_⟩
    rw [h1, if_pos (Int32.le_refl _), if_pos i1]
theorem areSoM {h : HP} {u yards : Nat} {b : Nat → Nat} (hy : yards ≤ 120) (hu : u ≤ 8) (h1 : h.1 133 11 = nI u) (hP : ∀ p, p < u → (∃ y, y < yards ∧ h.1 141 (2 * p) = nI y) ∧ ∃ m, m ≤ 6 ∧ h.1 141 (2 * p + 1) = nI m) (hb : ∀ y, y < yards → h.1 149 y = nI (b y) ∧ b y < 64) : F_X9_areSo_L17 133 h sg_fuel (1, 0) = some (if prB (h.1 141) b u = true then 1 else 0, h) := by
  unfold F_X9_areSo_L17
  simp only [Nat.reduceAdd]
  refine lp_seq' (fun k => ((if prB (h.1 141) b k = true then 1 else 0), nI k)) u (fu (by omega)) rfl (fun k hk rc => ?_) (fun rc => ?_)
  · dsimp only
    obtain ⟨⟨y, y1, y2⟩, m, m1, m2⟩ := hP k hk
    obtain ⟨b1, b2⟩ := hb y y1
    have e : (h.1 141 (2 * k)).toNatClampNeg = y := by rw [y2, nI_clamp (by omega)]
    have e2 : (2 : Int32) * nI k = nI (2 * k) := pk_mul 2 k
    unfold F_X9_areSo_J62 F_X9_areSo_J63
    rw [h1, if_neg (nI_ge hk (by omega)), e2, gd_ok (by omega) (by decide), ld_nI (by omega), y2, gd_ok (by omega) (by decide), ld_nI (by omega), b1, mk_bits _ b2, cl_some, nI_1, nI_1, gd_ok (by omega) (by decide), ld_nI (by omega), b01]
    show _ = rc ((if (prB (h.1 141) b k && decide (nI (pc (b (h.1 141 (2 * k)).toNatClampNeg)) = h.1 141 (2 * k + 1))) = true then 1 else 0), nI (k + 1))
    rw [e]
    by_cases hp : prB (h.1 141) b k = true
    · rw [if_pos hp, hp]
      by_cases hc : nI (pc (b y)) = h.1 141 (2 * k + 1)
      · rw [if_pos hc]
        simp [hc]
      · rw [if_neg hc]
        simp [hc]
    · rw [if_neg hp]
      simp [hp]
  · dsimp only
    rw [h1, if_pos (Int32.le_refl _), gb_ok (by split <;> simp)]
def flV (p0 : Bool) (p : Nat → Bool) : Nat → Nat
  | 0 => if p0 = true then 64 else 0
  | k + 1 => flV p0 p k ||| (if p k = true then 2 ^ k else 0)
theorem flC {h : HP} {nb ns n u : Nat} {ln wh fr to : Nat → Nat} (c : Core h nb ns ln n wh fr to) (hu : u ≤ 8) (h1 : h.1 0 10 = nI u) (hP : ∀ p, p < u → h.1 77 p = h.1 141 (2 * p) ∧ h.1 78 p = h.1 141 (2 * p + 1) ∧ (∃ y, y < lsum ln ns ∧ h.1 141 (2 * p) = nI y) ∧ ∃ m, m ≤ 6 ∧ h.1 141 (2 * p + 1) = nI m) : ∃ h', F_X8_failed 0 h = some (nI (flV (prB (h.1 141) (WB (h.1 134) nb ns ln (-1) (TA n wh fr to) (uT (h.1 134))) u) (fun i => prB (h.1 141) (WB (h.1 134) nb ns ln (-1) (TA n wh fr to) (sW (uT (h.1 134)) i)) u) nb), h') ∧ FrB 88 h h' := by
  have hn := c.1.1.2.2.1
  have h120 : lsum ln ns ≤ 120 := c.1.1.2.2.2.2.2
  have hT := c.T64
  unfold F_X8_failed
  simp only [Nat.reduceAdd]
  rw [printsC (a := 81) h120 hu h1 hP (fun y hy => ⟨c.2.2.2.2.2.2.2 y hy, wbore_lt (hT y hy)⟩), cl_some, b01]
  generalize hp0 : prB (h.1 141) (WB (h.1 134) nb ns ln (-1) (TA n wh fr to) (uT (h.1 134))) u = p0
  generalize hp : (fun i => prB (h.1 141) (WB (h.1 134) nb ns ln (-1) (TA n wh fr to) (sW (uT (h.1 134)) i)) u) = p
  have hj : (if p0 = true then F_X8_failed_J17 0 64 h else F_X8_failed_J17 0 0 h) = F_X8_failed_L20 0 sg_fuel (nI (flV p0 p 0), 0, h) := by
    unfold F_X8_failed_J17 flV
    split <;> rfl
  rw [hj]
  unfold F_X8_failed_L20
  refine lp_inv (fun k x => x.1 = nI (flV p0 p k) ∧ x.2.1 = nI k ∧ FrB 88 h x.2.2) (B := nb) (Q := fun r => ∃ h', r = some (nI (flV p0 p nb), h') ∧ FrB 88 h h') ?_ ?_ sg_fuel 0 (nI (flV p0 p 0), 0, h) (Nat.zero_le _) (fu (by omega)) ⟨rfl, rfl, fun _ _ => rfl, fun _ _ => rfl⟩
  · rintro k ⟨x1, x2, x3⟩ hk ⟨rfl, rfl, i2⟩
    dsimp only at i2 ⊢
    have cx := (i2.kp (Or.inl rfl)).core c
    obtain ⟨h', e1, e2, e3, e4⟩ := without_eq cx hk
    rw [i2.U (by omega)] at e2 e3
    have i3 := i2.trans e4
    have hpr := printsC (h := h') (a := 88) (u := u) (b := WB (h.1 134) nb ns ln (-1) (TA n wh fr to) (sW (uT (h.1 134)) k)) h120 hu (by rw [i3.1 0 (by omega)]; exact h1) (by rw [i3.1 77 (by omega), i3.1 78 (by omega), i3.1 141 (by omega)]; exact hP) (fun y hy => ⟨e3 y hy, wbore_lt (hT y hy)⟩)
    rw [i3.1 141 (by omega)] at hpr
    have hpk : prB (h.1 141) (WB (h.1 134) nb ns ln (-1) (TA n wh fr to) (sW (uT (h.1 134)) k)) u = p k := by rw [← hp]
    rw [hpk] at hpr
    refine Or.inl ⟨(nI (flV p0 p (k + 1)), nI (k + 1), h'), ⟨rfl, rfl, i3⟩, fun rc => ?_⟩
    simp only [Nat.reduceAdd, e1, cl_some, cx.2.1.2.2.1, if_neg (nI_ge hk (show nb < 2 ^ 31 by omega)), hpr, b01]
    unfold F_X8_failed_J53
    rw [nm_eq, nI_1, mk_shl k (by omega), fa_or]
    show _ = rc (nI (flV p0 p k ||| (if p k = true then 2 ^ k else 0)), _)
    by_cases hc : p k = true
    · rw [if_pos hc, if_pos hc]
    · rw [if_neg hc, if_neg hc, Nat.or_zero]
  · rintro ⟨x1, x2, x3⟩ ⟨rfl, rfl, i2⟩
    dsimp only at i2 ⊢
    have cx := (i2.kp (Or.inl rfl)).core c
    exact ⟨some (nI (flV p0 p nb), x3), ⟨x3, rfl, i2⟩, fun rc => by simp only [Nat.reduceAdd, cx.2.1.2.2.1, if_pos (Int32.le_refl _)]⟩
theorem flM {h : HP} {nb ns n u : Nat} {ln wh fr to : Nat → Nat} (c : Core h nb ns ln n wh fr to) (hu : u ≤ 8) (h1 : h.1 133 11 = nI u) (hP : ∀ p, p < u → (∃ y, y < lsum ln ns ∧ h.1 141 (2 * p) = nI y) ∧ ∃ m, m ≤ 6 ∧ h.1 141 (2 * p + 1) = nI m) : ∃ h', F_X9_failed 133 h = some (nI (flV (prB (h.1 141) (WB (h.1 134) nb ns ln (-1) (TA n wh fr to) (uT (h.1 134))) u) (fun i => prB (h.1 141) (WB (h.1 134) nb ns ln (-1) (TA n wh fr to) (sW (uT (h.1 134)) i)) u) nb), h') ∧ FM h h' := by
  have hn := c.1.1.2.2.1
  have h120 : lsum ln ns ≤ 120 := c.1.1.2.2.2.2.2
  have hT := c.T64
  generalize hp0 : prB (h.1 141) (WB (h.1 134) nb ns ln (-1) (TA n wh fr to) (uT (h.1 134))) u = p0
  generalize hp : (fun i => prB (h.1 141) (WB (h.1 134) nb ns ln (-1) (TA n wh fr to) (sW (uT (h.1 134)) i)) u) = p
  -- as it is
  have h0 : ∃ h', F_X9_areSo 133 (-1) h = some (if p0 = true then 1 else 0, h') ∧ FM h h' := by
    obtain ⟨ha, h2, a1, a2, a3, a4, a5, a6⟩ := asGo c
    obtain ⟨ha', b1, b2, b3, b4, b5, b6⟩ := asItIs_ok h
    have e : ha' = ha := Option.some.inj (b1.symm.trans a1)
    subst e
    have e2 : ui ha' 133 16 (-1) = ha' := by
      rw [ui_sa]
      exact sa_id (fa_upd_same b5)
    unfold F_X9_areSo
    refine ⟨h2, ?_, a5⟩
    have := areSoM (h := h2) (u := u) (b := WB (h.1 134) nb ns ln (-1) (TA n wh fr to) (uT (h.1 134))) h120 hu (by rw [a5.2.1 11 (by decide) (by decide) (by decide)]; exact h1) (by rw [a5.1 141 (by omega)]; exact hP) (fun y hy => ⟨a3.2.2.2 y hy, wbore_lt (hT y hy)⟩)
    rw [a5.1 141 (by omega), hp0] at this
    rw [a1, cl_some, nm_eq, e2, a2, cl_some, this]
  obtain ⟨hA, s1, s2⟩ := h0
  unfold F_X9_failed
  rw [s1, cl_some, b01]
  have hj : (if p0 = true then F_X9_failed_J14 133 64 hA else F_X9_failed_J14 133 0 hA) = F_X9_failed_L17 133 sg_fuel (nI (flV p0 p 0), 0, hA) := by
    unfold F_X9_failed_J14 flV
    split <;> rfl
  dsimp only
  rw [hj]
  unfold F_X9_failed_L17
  refine lp_inv (fun k x => x.1 = nI (flV p0 p k) ∧ x.2.1 = nI k ∧ FM h x.2.2) (B := nb) (Q := fun r => ∃ h', r = some (nI (flV p0 p nb), h') ∧ FM h h') ?_ ?_ sg_fuel 0 (nI (flV p0 p 0), 0, hA) (Nat.zero_le _) (fu (by omega)) ⟨rfl, rfl, s2⟩
  · rintro k ⟨x1, x2, x3⟩ hk ⟨rfl, rfl, i2⟩
    dsimp only at i2 ⊢
    have cx := i2.kp.core c
    obtain ⟨ha, h', e0, e1, e2, e4⟩ := asGo1 cx hk
    rw [i2.1 134 (by omega)] at e2
    have i3 := i2.trans e4
    have hpr := areSoM (h := h') (u := u) (b := WB (h.1 134) nb ns ln (-1) (TA n wh fr to) (sW (uT (h.1 134)) k)) h120 hu (by rw [i3.2.1 11 (by decide) (by decide) (by decide)]; exact h1) (by rw [i3.1 141 (by omega)]; exact hP) (fun y hy => ⟨e2.2.2.2 y hy, wbore_lt (hT y hy)⟩)
    rw [i3.1 141 (by omega)] at hpr
    have hpk : prB (h.1 141) (WB (h.1 134) nb ns ln (-1) (TA n wh fr to) (sW (uT (h.1 134)) k)) u = p k := by rw [← hp]
    rw [hpk] at hpr
    have l : ld x3 134 1 = nI nb := cx.1.1.2.1
    refine Or.inl ⟨(nI (flV p0 p (k + 1)), nI (k + 1), h'), ⟨rfl, rfl, i3⟩, fun rc => ?_⟩
    have hA : F_X9_areSo 133 (nI k) x3 = some (if p k = true then 1 else 0, h') := by
      unfold F_X9_areSo
      rw [e0, cl_some, nm_eq, e1, cl_some, hpr]
    simp only [Nat.reduceAdd, hA, cl_some, l, if_neg (nI_ge hk (show nb < 2 ^ 31 by omega)), b01]
    unfold F_X9_failed_J43
    rw [nm_eq, nm_eq, nI_1, mk_shl k (by omega), fa_or]
    show _ = rc (nI (flV p0 p k ||| (if p k = true then 2 ^ k else 0)), _)
    by_cases hc : p k = true
    · rw [if_pos hc, if_pos hc]
    · rw [if_neg hc, if_neg hc]
      have : nI (flV p0 p k) ||| 0 = nI (flV p0 p k ||| 0) := fa_or _ 0
      rw [this]
  · rintro ⟨x1, x2, x3⟩ ⟨rfl, rfl, i2⟩
    dsimp only at i2 ⊢
    have cx := i2.kp.core c
    have l : ld x3 134 1 = nI nb := cx.1.1.2.1
    exact ⟨some (nI (flV p0 p nb), x3), ⟨x3, rfl, i2⟩, fun rc => by simp only [Nat.reduceAdd, l, if_pos (Int32.le_refl _)]⟩
theorem step_failed (h : HP) (hI : Inv h) : ∃ (r : Int32) (h1 h2 : HP), F_X8_failed 0 h = some (r, h1) ∧ F_X9_failed 133 h1 = some (r, h2) ∧ Inv h2 := by
  have hI0 := hI
  obtain ⟨nb, ns, ln, n, wh, fr, to, c, t, u, k, q⟩ := hI
  obtain ⟨v, v1, v2, v3, v4⟩ := q
  obtain ⟨h1, e1, e2⟩ := flC c v1 v2 v4
  have k1 := e2.kp (Or.inl rfl)
  have e141 := e2.1 141 (by omega)
  obtain ⟨h2, e3, e4⟩ := flM (k1.core c) v1 (by rw [e2.1 133 (by omega)]; exact v3) (by rw [e141]; exact fun p hp => (v4 p hp).2.2)
  rw [e2.U (by omega), e141] at e3
  exact ⟨_, h1, h2, e1, e3, e4.kp.inv (k1.inv hI0)⟩
