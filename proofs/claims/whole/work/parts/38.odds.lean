theorem power_eq {x m : Nat} (hm : m ≤ 9) : F_X8_power (nI x) (nI m) = some (nI (x ^ m)) := by
  unfold F_X8_power F_X8_power_L4
  refine lp_seq' (fun k => (nI (x ^ k), nI k)) m (fu (by omega)) rfl (fun k hk rc => ?_) (fun rc => ?_)
  · dsimp only
    rw [if_neg (nI_ge hk (by omega)), nm_eq, pk_mul, nI_1]
    rfl
  · dsimp only
    rw [if_pos (Int32.le_refl _)]
/-- the chance (in ten to the d-th) that just those are gone -/
def wy (g x : Nat) : Nat → Nat
  | 0 => 1
  | k + 1 => wy g x k * (if g.testBit k = true then x else 10 - x)
theorem wy_eq : ∀ d, d < 6 → ∀ g, g < 2 ^ d → ∀ x, x < 11 → wy g x d = x ^ pc g * (10 - x) ^ (d - pc g) ∧ wy g x d ≤ 100000 ∧ pc g ≤ d := by decide +kernel
def odP (U : Nat → Int32) (nb ns : Nat) (ln : Nat → Nat) (n : Nat) (wh fr to : Nat → Nat) (g : Nat) : Bool := decide ((WR U nb ns ln (-1) (fun y => tmask wh fr to (fun k => !g.testBit k) y n) (uT U) (lsum ln ns)).2.2.2.2.2 = -4)
/-- what is above -/
def odA (p : Nat → Bool) (x d : Nat) : Nat → Nat
  | 0 => 0
  | g + 1 => odA p x d g + (if p g = true then wy g x d else 0)
theorem odA_le {p : Nat → Bool} {x d : Nat} (hd : d < 6) (hx : x < 11) : ∀ g, g ≤ 2 ^ d → odA p x d g ≤ g * 100000
  | 0, _ => by simp [odA]
  | g + 1, h => by
    have ih := odA_le (p := p) hd hx g (by omega)
    have h2 := (wy_eq d hd g (by omega) x hx).2.1
    have h3 : (if p g = true then wy g x d else 0) ≤ 100000 := by
      by_cases hc : p g = true
      · rw [if_pos hc]; exact h2
      · rw [if_neg hc]; exact Nat.zero_le _
    show odA p x d g + (if p g = true then wy g x d else 0) ≤ (g + 1) * 100000
    generalize (if p g = true then wy g x d else 0) = z at h3 ⊢
    omega
theorem withoutC {h : HP} {nb ns n g : Nat} {ln wh fr to : Nat → Nat} (c : Core h nb ns ln n wh fr to) (hg : g < 64) : ∃ h', F_X8_neverStandsWithout 0 (nI g) h = some (if odP (h.1 134) nb ns ln n wh fr to g = true then 1 else 0, h') ∧ FC h h' := by
  obtain ⟨c1, c2, c3, c4, c5, c6, c7, c8⟩ := c
  have h120 : lsum ln ns ≤ 120 := c1.1.2.2.2.2.2
  have e0 := tellDuty_eq (h := h) (q := 80) (gone := g) c3 (by omega) rfl h120 hg
  generalize hf : (fun y => if y < lsum ln ns then nI (tmask wh fr to (fun k => !g.testBit k) y n) else h.1 80 y) = f at e0
  have f1 : FC h (sa h 80 f) := fc_sa
  obtain ⟨h1, h2, e1, e2, e3, e4⟩ := trial80 (h := sa h 80 f) (U := h.1 134) (T := fun y => tmask wh fr to (fun k => !g.testBit k) y n) (c2.of (fun x _ _ => f1.1 x (by omega))) c1.1 (fun y hy => ⟨by rw [sa_r, ← hf]; exact if_pos hy, tmask_lt (fun k hk => (c3.2.2 k hk).2.2.2.1)⟩)
  refine ⟨h2, ?_, f1.trans e4⟩
  unfold F_X8_neverStandsWithout
  simp only [Nat.reduceAdd]
  rw [c2.2.1, e0, cl_some, e1, cl_some, e2, cl_some, e3]
  unfold odP
  by_cases hc : (WR (h.1 134) nb ns ln (-1) (fun y => tmask wh fr to (fun k => !g.testBit k) y n) (uT (h.1 134)) (lsum ln ns)).2.2.2.2.2 = -4
  · rw [if_pos hc]; simp [hc]
  · rw [if_neg hc]; simp [hc]
theorem odC {h : HP} {nb ns n x d : Nat} {part : Int32} {ln wh fr to : Nat → Nat} (c : Core h nb ns ln n wh fr to) (hd : d ≤ 5) (hx : x ≤ 10) : ∃ h', F_X8_odds_L58 0 (nI x) part (nI d) (nI (10 ^ d)) sg_fuel (0, 0, h) = cl (F_X8_lowestTerms (nI (odA (odP (h.1 134) nb ns ln n wh fr to) x d (2 ^ d))) (nI (10 ^ d)) part) (fun r => some (r, h')) ∧ FC h h' := by
  generalize hp : odP (h.1 134) nb ns ln n wh fr to = p
  have h32 : 2 ^ d ≤ 32 := Nat.pow_le_pow_right (n := 2) (by decide) hd
  unfold F_X8_odds_L58
  refine lp_inv' (fun g z => z.1 = nI (odA p x d g) ∧ z.2.1 = nI g ∧ FC h z.2.2) (B := 2 ^ d) (Q := fun r => ∃ h', r = cl (F_X8_lowestTerms (nI (odA p x d (2 ^ d))) (nI (10 ^ d)) part) (fun r => some (r, h')) ∧ FC h h') ?_ ?_ sg_fuel 0 (0, 0, h) (Nat.zero_le _) (fu (by omega)) ⟨rfl, rfl, FC.rf⟩
  · rintro g ⟨x1, x2, x3⟩ rc hg ⟨rfl, rfl, i⟩
    left
    dsimp only at i ⊢
    have cx := i.kp.core c
    obtain ⟨h', e1, e2⟩ := withoutC (g := g) cx (by omega)
    rw [i.1 134 (by omega), hp] at e1
    obtain ⟨w1, w2, w3⟩ := wy_eq d (by omega) g hg x (by omega)
    have es : (10 : Int32) - nI x = nI (10 - x) := pk_sub (a := 10) hx
    rw [mk_shl9 d (by omega), if_neg (nI_ge hg (by omega)), mk_bitCount _ (by omega), cl_some, power_eq (by omega), cl_some, es, pk_sub w3, power_eq (by omega), cl_some, nm_eq, pk_mul, ← w1]
    unfold F_X8_odds_J116
    rw [nI_1, e1, cl_some, b01, nm_eq, nI_add]
    by_cases hz : wy g x d = 0
    · rw [hz, if_pos (show nI 0 ≤ 0 from Int32.le_refl _)]
      refine ⟨_, ⟨?_, rfl, i⟩, rfl⟩
      show nI (odA p x d g) = nI (odA p x d g + (if p g = true then wy g x d else 0))
      rw [hz]
      congr 1
      split <;> omega
    · rw [if_neg (nI_nle (by omega) (by omega))]
      by_cases hc : p g = true
      · rw [if_pos hc]
        refine ⟨_, ⟨?_, rfl, i.trans e2⟩, rfl⟩
        show nI (odA p x d g + wy g x d) = nI (odA p x d g + (if p g = true then wy g x d else 0))
        rw [if_pos hc]
      · rw [if_neg hc]
        refine ⟨_, ⟨?_, rfl, i.trans e2⟩, rfl⟩
        show nI (odA p x d g) = nI (odA p x d g + (if p g = true then wy g x d else 0))
        rw [if_neg hc, Nat.add_zero]
  · rintro ⟨x1, x2, x3⟩ rc ⟨rfl, rfl, i⟩
    dsimp only at i ⊢
    rw [mk_shl9 d (by omega), if_pos (Int32.le_refl _)]
    exact ⟨x3, rfl, i⟩
theorem odM {h : HP} {nb ns n x d : Nat} {part : Int32} {z7 : Int64} {ln wh fr to : Nat → Nat} (c : Core h nb ns ln n wh fr to) (hd : d ≤ 5) (hdn : d ≤ n) (hx : x ≤ 10) : ∃ h', F_X9_odds_L88 133 (nI x) part (nI d) z7 sg_fuel (0, 0, h) = cl (F_X9_fraction (lN (odA (odP (h.1 134) nb ns ln n wh fr to) x d (2 ^ d))) z7 part) (fun r => some (r, h')) ∧ FM h h' := by
  generalize hp : odP (h.1 134) nb ns ln n wh fr to = p
  have h32 : 2 ^ d ≤ 32 := Nat.pow_le_pow_right (n := 2) (by decide) hd
  have hn := c.1.1.2.2.1
  have hn9 := c.2.2.1.2.1
  unfold F_X9_odds_L88
  refine lp_inv' (fun g z => z.1 = lN (odA p x d g) ∧ z.2.1 = nI g ∧ FM h z.2.2) (B := 2 ^ d) (Q := fun r => ∃ h', r = cl (F_X9_fraction (lN (odA p x d (2 ^ d))) z7 part) (fun r => some (r, h')) ∧ FM h h') ?_ ?_ sg_fuel 0 (0, 0, h) (Nat.zero_le _) (fu (by omega)) ⟨rfl, rfl, FM.rf⟩
  · rintro g ⟨x1, x2, x3⟩ rc hg ⟨rfl, rfl, i⟩
    left
    dsimp only at i ⊢
    have cx := i.kp.core c
    have hU : x3.1 134 = h.1 134 := i.1 134 (by omega)
    obtain ⟨ha, a1, a2, a3, a4, a5, a6⟩ := asItIs_ok x3
    simp only [Nat.reduceAdd]
    have s0 : st ha 144 0 0 = sa ha 144 (upd (ha.1 144) 0 0) := st_sa (j := 0) (by decide)
    rw [mk_shl9 d (by omega), if_neg (nI_ge hg (by omega)), a1, cl_some, nm_eq, s0]
    unfold F_X9_odds_L114
    refine lp_inv' (fun e z => z.1 = lN (wy g x (min e d)) ∧ z.2.1 = nI e ∧ ∃ B m wh' fr' to', z.2.2 = sa ha 144 B ∧ TM B m wh' fr' to' ∧ m ≤ e ∧ (∀ j, j < m → wh' j < nb) ∧ ∀ y, TA m wh' fr' to' y = tmask wh fr to (fun k => !g.testBit k) y e) (B := n) (Q := fun r => ∃ x', (x'.1 = lN (odA p x d (g + 1)) ∧ x'.2.1 = nI (g + 1) ∧ FM h x'.2.2) ∧ r = rc x') ?_ ?_ sg_fuel 0 (1, 0, sa ha 144 (upd (ha.1 144) 0 0)) (Nat.zero_le _) (fu (by omega)) ⟨by rw [Nat.zero_min]; rfl, rfl, _, 0, wh, fr, to, rfl, ⟨by rw [upd_r]; rfl, by omega, fun j hj => absurd hj (Nat.not_lt_zero j)⟩, Nat.le_refl _, fun j hj => absurd hj (Nat.not_lt_zero j), fun y => rfl⟩
    · rintro e ⟨z1, z2, z3⟩ rc2 he ⟨rfl, rfl, B, m, wh', fr', to', rfl, b1, b2, b3, b4⟩
      left
      dsimp only
      have h136 : (sa ha 144 B).1 136 = x3.1 136 := by rw [sa_n (by decide)]; exact a2.1 136 (by omega)
      have l2 : ld (sa ha 144 B) 136 0 = nI n := by
        show (sa ha 144 B).1 136 0 = nI n
        rw [h136]
        exact cx.2.2.2.1.1
      obtain ⟨k1, k2, k3, k4, k5, k6⟩ := cx.2.2.2.1.2.2 e he
      have es : (10 : Int64) - (nI x).toInt64 = lN (10 - x) := by
        rw [nI_l (by omega)]
        exact lN_sub (a := 10) hx
      -- with the turn, without it
      have hJ : ∀ (s0 : Int32) (z : HP), F_X9_odds_J190 133 rc rc2 (nI x) part (nI d) (lN (odA p x d g)) z7 (nI g) (lN (wy g x (min e d))) (nI e) s0 z = rc2 (lN (wy g x (min e d) * (if e < d then (if s0 = 0 then x else 10 - x) else 1)), nI (e + 1), z) := by
        intro s0 z
        unfold F_X9_odds_J190 F_X9_odds_J219
        rw [es, nI_l (by omega), nI_1]
        simp only [nm_eq]
        by_cases hed : e < d
        · rw [if_pos (nI_lt hed (by omega)), if_pos hed]
          by_cases hs : s0 = 0
          · rw [if_pos hs, if_pos hs, lN_mul]
          · rw [if_neg hs, if_neg hs, lN_mul]
        · rw [if_neg (nI_nlt (by omega) (by omega)), if_neg hed]
          have : lN (wy g x (min e d)) * 1 = lN (wy g x (min e d) * 1) := lN_mul _ 1
          rw [this]
      have hyes : g.testBit e = false → ∃ x', (x'.1 = lN (wy g x (min (e + 1) d)) ∧ x'.2.1 = nI (e + 1) ∧ ∃ B m wh' fr' to', x'.2.2 = sa ha 144 B ∧ TM B m wh' fr' to' ∧ m ≤ e + 1 ∧ (∀ j, j < m → wh' j < nb) ∧ ∀ y, TA m wh' fr' to' y = tmask wh fr to (fun k => !g.testBit k) y (e + 1)) ∧ F_X9_odds_J142 133 rc rc2 (nI x) part (nI d) (lN (odA p x d g)) z7 (nI g) (lN (wy g x (min e d))) (nI e) (sa ha 144 B) = rc2 x' := by
        intro hb
        obtain ⟨B', g1, g2⟩ := adds_eq (h := sa ha 144 B) (q := 144) (i := wh e) (a := fr e) (b := to e) (by rw [sa_r]; exact b1) (by omega) rfl k4 k5 k6
        unfold F_X9_odds_J142 F_X9_odds_J147
        simp only [Nat.reduceAdd]
        rw [if_neg (by decide), lit_add 1, lit_add 11, lit_add 21, gd_ok (by omega) (by decide), gd_ok (by omega) (by decide), gd_ok (by omega) (by decide), ld_nI (by omega), ld_nI (by omega), ld_nI (by omega), h136, k1, k2, k3, g1, cl_some, hJ, sa_sa]
        refine ⟨_, ⟨?_, rfl, B', m + 1, _, _, _, rfl, g2, by omega, fun j hj => ?_, fun y => ?_⟩, rfl⟩
        · dsimp only
          by_cases hed : e < d
          · rw [if_pos hed, if_neg (by decide), show min e d = e by omega, show min (e + 1) d = e + 1 by omega]
            show _ = lN (wy g x e * (if g.testBit e = true then x else 10 - x))
            rw [hb]
            simp
          · rw [if_neg hed, show min e d = d by omega, show min (e + 1) d = d by omega, Nat.mul_one]
        · by_cases hj2 : j = m
          · subst hj2; rw [upN_r]; exact c.2.2.2.2.1 e he
          · rw [upN_n hj2]; exact b3 j (by omega)
        · show tmask _ _ _ _ y (m + 1) = tmask wh fr to (fun k => !g.testBit k) y e ||| (if (!g.testBit e) = true ∧ fr e ≤ y ∧ y ≤ to e then 2 ^ wh e else 0)
          rw [tmask_up, ← b4 y, hb]
          rfl
      rw [l2, if_neg (nI_ge he (by omega))]
      by_cases hed : d ≤ e
      · rw [if_pos (nI_le hed (by omega))]
        exact hyes (bits_out hg hed)
      · rw [if_neg (nI_ge (by omega) (by omega)), mk_has _ (by omega) e (by omega), cl_some, b01]
        by_cases hb : g.testBit e = true
        · rw [if_pos hb]
          unfold F_X9_odds_J147
          rw [if_pos rfl, hJ]
          refine ⟨_, ⟨?_, rfl, B, m, wh', fr', to', rfl, b1, by omega, b3, fun y => ?_⟩, rfl⟩
          · dsimp only
            rw [if_pos (by omega), if_pos rfl, show min e d = e by omega, show min (e + 1) d = e + 1 by omega]
            show _ = lN (wy g x e * (if g.testBit e = true then x else 10 - x))
            rw [if_pos hb]
          · show _ = tmask wh fr to (fun k => !g.testBit k) y e ||| (if (!g.testBit e) = true ∧ fr e ≤ y ∧ y ≤ to e then 2 ^ wh e else 0)
            rw [← b4 y, hb]
            simp
        · rw [if_neg hb]
          rw [Bool.not_eq_true] at hb
          exact hyes hb
    · rintro ⟨z1, z2, z3⟩ rc2 ⟨rfl, rfl, B, m, wh', fr', to', rfl, b1, b2, b3, b4⟩
      dsimp only
      have h136 : (sa ha 144 B).1 136 = x3.1 136 := by rw [sa_n (by decide)]; exact a2.1 136 (by omega)
      have l2 : ld (sa ha 144 B) 136 0 = nI n := by
        show (sa ha 144 B).1 136 0 = nI n
        rw [h136]
        exact cx.2.2.2.1.1
      obtain ⟨h2, g1, g2, g3⟩ := goB (h := x3) (T := fun y => tmask wh fr to (fun k => !g.testBit k) y n) cx.1 a3 a5 a6 b1 b3 (fun y hy => b4 y)
      rw [l2, if_pos (Int32.le_refl _)]
      unfold F_X9_odds_J228 F_X9_odds_J249
      rw [g1, cl_some, nI_1]
      simp only [nm_eq]
      have hst : h2.1 133 23 = -4 ↔ p g = true := by
        rw [g2.1, ← hp, hU]
        unfold odP
        rw [decide_eq_true_iff]
      rw [show min n d = d by omega]
      by_cases hc : p g = true
      · rw [if_pos (hst.mpr hc)]
        refine ⟨_, ⟨?_, rfl, i.trans (a2.trans g3)⟩, rfl⟩
        show _ = lN (odA p x d g + (if p g = true then wy g x d else 0))
        rw [if_pos hc, ← lN_add]
      · rw [if_neg (fun z => hc (hst.mp z))]
        refine ⟨_, ⟨?_, rfl, i.trans (a2.trans g3)⟩, rfl⟩
        show _ = lN (odA p x d g + (if p g = true then wy g x d else 0))
        rw [if_neg hc]
        exact lN_add _ 0
  · rintro ⟨x1, x2, x3⟩ rc ⟨rfl, rfl, i⟩
    dsimp only at i ⊢
    rw [mk_shl9 d (by omega), if_pos (Int32.le_refl _)]
    exact ⟨x3, rfl, i⟩
theorem step_odds (h : HP) (hI : Inv h) (x1 x2 x3 : Int32) : ∃ (r : Int32) (h1 h2 : HP), F_X8_odds 0 x1 x2 x3 h = some (r, h1) ∧ F_X9_odds 133 x1 x2 x3 h1 = some (r, h2) ∧ Inv h2 := by
  have hI0 := hI
  obtain ⟨nb, ns, ln, n, wh, fr, to, c, t, u, k, q⟩ := hI
  have hn9 := c.2.2.1.2.1
  unfold F_X8_odds F_X9_odds F_X9_isTwo
  simp only [Nat.reduceAdd]
  rw [within_eq, within_eq, within_eq, inL (l := 0) (m := 5) (by decide) (by decide), inL (l := 0) (m := 10) (by decide) (by decide), inL (l := 0) (m := 1) (by decide) (by decide)]
  simp only [cl_some, b01]
  by_cases hx : 0 ≤ x1 ∧ x1 ≤ 5
  · simp only [if_pos hx]
    by_cases hx2 : 0 ≤ x2 ∧ x2 ≤ 10
    · simp only [if_pos hx2]
      by_cases hx3 : 0 ≤ x3 ∧ x3 ≤ 1
      · simp only [if_pos hx3]
        obtain ⟨v, rfl, hv1, hv2⟩ := nI_ex2 (l := 0) (m := 5) hx.1 hx.2 (by decide) (by decide)
        obtain ⟨x, rfl, hx1, hx2⟩ := nI_ex2 (l := 0) (m := 10) hx2.1 hx2.2 (by decide) (by decide)
        have em : (if h.1 29 0 < nI v then h.1 29 0 else nI v) = nI (min n v) := by
          rw [c.2.2.1.1]
          by_cases hc : n < v
          · rw [if_pos (nI_lt hc (by omega)), show min n v = n by omega]
          · rw [if_neg (nI_nlt (by omega) (by omega)), show min n v = v by omega]
        generalize hd : min n v = d at em
        have hd5 : d ≤ 5 := by omega
        have hp10 : 10 ^ d ≤ 100000 := Nat.pow_le_pow_right (n := 10) (by decide) hd5
        have hp1 : 1 ≤ 10 ^ d := Nat.pos_of_ne_zero (by simp)
        have h32 : 2 ^ d ≤ 32 := Nat.pow_le_pow_right (n := 2) (by decide) hd5
        obtain ⟨h1, e1, e2⟩ := odC (part := x3) (d := d) (x := x) c hd5 (by omega)
        obtain ⟨h2, e3, e4⟩ := odM (part := x3) (z7 := lN (10 ^ d)) (d := d) (x := x) (e2.kp.core c) hd5 (by omega) (by omega)
        rw [e2.1 134 (by omega)] at e3
        have hA := odA_le (p := odP (h.1 134) nb ns ln n wh fr to) (x := x) (d := d) (by omega) (by omega) (2 ^ d) (Nat.le_refl _)
        have hA2 : odA (odP (h.1 134) nb ns ln n wh fr to) x d (2 ^ d) ≤ 3200000 := Nat.le_trans hA (by omega)
        obtain ⟨r, r1, r2⟩ := lowest (part := x3) (a := odA (odP (h.1 134) nb ns ln n wh fr to) x d (2 ^ d)) (b := 10 ^ d) (by omega) (by omega) (by omega)
        rw [if_neg (by omega)] at r2
        refine ⟨r, h1, h2, ?_, ?_, e4.kp.inv (e2.kp.inv hI0)⟩
        · have hpw : F_X8_power 10 (nI d) = some (nI (10 ^ d)) := power_eq (x := 10) (by omega)
          rw [em, nm_eq, hpw, cl_some, e1, r1, cl_some]
        · have h136 : ld h1 136 0 = nI n := (e2.kp.core c).2.2.2.1.1
          have em2 : (if ld h1 136 0 ≤ nI v then F_X9_odds_J53 133 (nI x) x3 (ld h1 136 0) h1 else F_X9_odds_J53 133 (nI x) x3 (nI v) h1) = F_X9_odds_J53 133 (nI x) x3 (nI d) h1 := by
            rw [h136]
            by_cases hc : n ≤ v
            · rw [if_pos (nI_le hc (by omega)), show d = n by omega]
            · rw [if_neg (nI_ge (by omega) (by omega)), show d = v by omega]
          rw [em2]
          unfold F_X9_odds_J53 F_X9_odds_L64
          refine lp_seq' (fun k => (lN (10 ^ k), nI k)) d (fu (by omega)) rfl (fun k hk rc => ?_) (fun rc => ?_)
          · dsimp only
            rw [if_neg (nI_ge hk (by omega)), nm_eq, nI_1]
            have : lN (10 ^ k) * 10 = lN (10 ^ k * 10) := lN_mul _ 10
            rw [this]
            rfl
          · dsimp only
            rw [if_pos (Int32.le_refl _)]
            unfold F_X9_odds_J85
            have e3' : F_X9_odds_L88 133 (nI x) x3 (nI d) (lN (10 ^ d)) sg_fuel (0, 0, h1) = _ := e3
            rw [e3', r2, cl_some]
      · simp only [if_neg hx3]
        exact ⟨-1, h, h, rfl, rfl, hI0⟩
    · simp only [if_neg hx2]
      exact ⟨-1, h, h, rfl, rfl, hI0⟩
  · simp only [if_neg hx]
    exact ⟨-1, h, h, rfl, rfl, hI0⟩
