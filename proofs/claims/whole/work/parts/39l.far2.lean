def FT (h x : HP) : Prop := (∀ y, (y < 118 ∨ 120 < y) → x.1 y = h.1 y) ∧ x.1 118 4 = h.1 118 4 ∧ x.1 118 5 = h.1 118 5 ∧ x.2 = h.2
theorem FT.rf {h : HP} : FT h h := ⟨fun _ _ => rfl, rfl, rfl, rfl⟩
def RS (x : HP) (n : Nat) (V : Nat → Nat) (c : Nat) : Prop := (fo n V c = none → x.1 118 0 = -4) ∧ ∀ v b, fo n V c = some (v, b) → x.1 118 0 = nI v ∧ ∀ k, k < n → x.1 119 k = nI (dg n b k)
theorem RS.eq {x : HP} {n : Nat} {V : Nat → Nat} {c c' : Nat} (r : RS x n V c) (e : fo n V c' = fo n V c) : RS x n V c' := by
  unfold RS
  rw [e]
  exact r
theorem RS.of {x x' : HP} {n : Nat} {V : Nat → Nat} {c : Nat} (r : RS x n V c) (h1 : x'.1 118 0 = x.1 118 0) (h2 : x'.1 119 = x.1 119) : RS x' n V c := by
  unfold RS
  rw [h1, h2]
  exact r
theorem Vf_le {U : Nat → Int32} {ln : Nat → Nat} {ns : Nat} {st : Int32} {mo : Nat} : ∀ d c, Vf (goA U ln ns st mo) d c ≤ lsum ln ns
  | 0, _ => Nat.zero_le _
  | d + 1, c => by
    show goA U ln ns st mo (c % 6) (Vf (goA U ln ns st mo) d (c / 6)) ≤ lsum ln ns
    exact goA_le (Vf_le d (c / 6))
theorem full_of : ∀ n, n < 7 → ∀ m, m < 64 → pc m = n → (∀ i, i < 6 → m.testBit i = true → i < n) → m = 2 ^ n - 1 := by decide +kernel
theorem dg_child {d p i k : Nat} (hi : i < 6) (hk : k < d) : dg (d + 1) (6 * p + i) k = dg d p k := by
  unfold dg
  have e : d + 1 - 1 - k = (d - 1 - k) + 1 := by omega
  rw [e, Nat.pow_succ', ← Nat.div_div_eq_div_mul, show (6 * p + i) / 6 = p by omega]
theorem dg_last {d p i : Nat} (hi : i < 6) : dg (d + 1) (6 * p + i) d = i := by
  unfold dg
  rw [show d + 1 - 1 - d = 0 by omega, Nat.pow_zero, Nat.div_one]
  omega
theorem m4_nle {y : Nat} (h : y ≤ 200) : ¬ nI y ≤ -4 := fun z => absurd (Int32.le_trans (nI_pos' (n := y) (by omega)) z) (by decide)
theorem noteC {h x : HP} {nb ns p mo : Nat} {ln : Nat → Nat} {U : Nat → Int32} {st : Int32} (v : HV U nb ns ln) (hp : okc nb p = true) (hr : RS x nb (Vf (goA U ln ns st mo) nb) p) (ht : ∀ k, k < nb → x.1 120 k = nI (dg nb p k)) (hf : FT h x) : ∃ x', F_X2_note 118 (nI (Vf (goA U ln ns st mo) nb p)) x = some x' ∧ RS x' nb (Vf (goA U ln ns st mo) nb) (p + 1) ∧ (∀ k, k < nb → x'.1 120 k = nI (dg nb p k)) ∧ FT h x' := by
  have hn := v.1.2.2.1
  have h120 : lsum ln ns ≤ 120 := v.1.2.2.2.2.2
  have hV := Vf_le (U := U) (ln := ln) (ns := ns) (st := st) (mo := mo) nb p
  have hV2 : ∀ b, Vf (goA U ln ns st mo) nb b ≤ lsum ln ns := fun b => Vf_le nb b
  generalize hVg : Vf (goA U ln ns st mo) nb = V at *
  have hs : fo nb V (p + 1) = (match fo nb V p with
    | none => if okc nb p = true then some (V p, p) else none
    | some q => if okc nb p = true ∧ q.1 < V p then some (V p, p) else some q) := rfl
  unfold F_X2_note
  have e6 : (6 : Int32).toNatClampNeg = 6 := by decide
  have e0 : (0 : Int32).toNatClampNeg = 0 := by decide
  simp only [Nat.reduceAdd]
  rw [e6, e0]
  -- taken
  have take : fo nb V (p + 1) = some (V p, p) → ∃ x', (nm (ui x 118 0 (nI (V p))) (fun h10 => nm (uc h10 120 119 0 0 6) (fun h25 => some h25)) : Option HP) = some x' ∧ RS x' nb V (p + 1) ∧ (∀ k, k < nb → x'.1 120 k = nI (dg nb p k)) ∧ FT h x' := by
    intro hfo
    refine ⟨_, rfl, ?_, ?_, ?_⟩
    · rw [ui_sa, uc_sa]
      refine ⟨fun z => ?_, fun v b z => ?_⟩
      · rw [hfo] at z; cases z
      · rw [hfo] at z
        cases z
        refine ⟨by rw [sa_n (by decide), sa_r, upd_r], fun k hk => ?_⟩
        rw [sa_r, pk_cpy_in (Nat.zero_le _) (by omega), sa_n (by decide), Nat.zero_add, Nat.sub_zero]
        exact ht k hk
    · intro k hk
      rw [ui_sa, uc_sa, sa_n (by decide), sa_n (by decide)]
      exact ht k hk
    · rw [ui_sa, uc_sa]
      refine ⟨fun y hy => by rw [sa_n (by omega), sa_n (by omega)]; exact hf.1 y hy, ?_, ?_, hf.2.2.2⟩
      · rw [sa_n (by decide), sa_r, upd_n (by decide)]; exact hf.2.1
      · rw [sa_n (by decide), sa_r, upd_n (by decide)]; exact hf.2.2.1
  cases hfo : fo nb V p with
  | none =>
    rw [hfo] at hs
    dsimp only at hs
    rw [if_pos hp] at hs
    rw [hr.1 hfo, if_neg (m4_nle (by omega))]
    exact take hs
  | some q =>
    obtain ⟨w, b⟩ := q
    rw [hfo] at hs
    dsimp only at hs
    obtain ⟨r1, r2⟩ := hr.2 w b hfo
    have hw : w ≤ lsum ln ns := by
      have := (fo_lt hfo).1
      have := hV2 b
      omega
    rw [r1]
    by_cases hc : V p ≤ w
    · rw [if_pos (nI_le hc (by omega))]
      rw [if_neg (by omega)] at hs
      exact ⟨x, rfl, hr.eq (by rw [hs, hfo]), ht, hf⟩
    · rw [if_neg (nI_ge (by omega) (by omega))]
      rw [if_pos ⟨hp, by omega⟩] at hs
      exact take hs
theorem tryC {h : HP} {nb ns mo : Nat} {ln : Nat → Nat} {U : Nat → Int32} {st : Int32} (v : HV U nb ns ln) (hC : CF h 15 U nb ns ln) (h4 : h.1 118 4 = st) (h5 : h.1 118 5 = nI mo) (hm : mo ≤ 99) : ∀ e d p, d + e = nb → p < 6 ^ d → pc (Mk d p) = d → (∀ i, i < 6 → (Mk d p).testBit i = true → i < nb) → ∀ N, e < N → ∀ x, RS x nb (Vf (goA U ln ns st mo) nb) (p * 6 ^ e) → (∀ k, k < d → x.1 120 k = nI (dg d p k)) → FT h x → ∃ x', F_X2_tryNext_R N (118, nI d, nI (Mk d p), nI (Vf (goA U ln ns st mo) d p), x) = some x' ∧ RS x' nb (Vf (goA U ln ns st mo) nb) ((p + 1) * 6 ^ e) ∧ (∀ k, k < d → x'.1 120 k = nI (dg d p k)) ∧ FT h x' := by
  have hn := v.1.2.2.1
  have h120 : lsum ln ns ≤ 120 := v.1.2.2.2.2.2
  have hV2 : ∀ b, Vf (goA U ln ns st mo) nb b ≤ lsum ln ns := fun b => Vf_le nb b
  intro e
  induction e with
  | zero =>
    intro d p hd hp hpc hbit N hN x hr ht hf
    obtain ⟨N, rfl⟩ : ∃ M, N = M + 1 := ⟨N - 1, by omega⟩
    have hdn : d = nb := by omega
    subst hdn
    rw [Nat.pow_zero, Nat.mul_one] at hr ⊢
    have hok : okc d p = true := by
      unfold okc
      rw [decide_eq_true_iff]
      exact full_of d (by omega) _ (Mk_lt _ _) hpc hbit
    obtain ⟨x', e1, e2, e3, e4⟩ := noteC v hok hr ht hf
    refine ⟨x', ?_, e2, e3, e4⟩
    show F_X2_tryNext_B (F_X2_tryNext_R N) 118 (nI d) (nI (Mk d p)) (nI (Vf (goA U ln ns st mo) d p)) x = some x'
    unfold F_X2_tryNext_B F_X2_tryNext_J17
    rw [hf.1 15 (by omega), hC.2.2.1, if_pos (Int32.le_refl _), e1, cl_some]
  | succ e ih =>
    intro d p hd hp hpc hbit N hN x hr ht hf
    obtain ⟨N, rfl⟩ : ∃ M, N = M + 1 := ⟨N - 1, by omega⟩
    show ∃ x', F_X2_tryNext_B (F_X2_tryNext_R N) 118 (nI d) (nI (Mk d p)) (nI (Vf (goA U ln ns st mo) d p)) x = some x' ∧ _
    unfold F_X2_tryNext_B
    rw [hf.1 15 (by omega), hC.2.2.1, if_neg (nI_ge (by omega) (by omega)), if_pos (show nI d < 6 from nI_lt (b := 6) (by omega) (by decide))]
    have hpow : 6 ^ (e + 1) = 6 * 6 ^ e := by rw [Nat.pow_succ]; omega
    have hpos : 0 < 6 ^ e := Nat.pos_of_ne_zero (by simp)
    have hen : nb - d - 1 = e := by omega
    -- a block of codes that are none
    have gap : ∀ i j, i ≤ j → j ≤ 6 → (∀ k, i ≤ k → k < j → nb ≤ k ∨ (Mk d p).testBit k = true) → fo nb (Vf (goA U ln ns st mo) nb) ((6 * p + j) * 6 ^ e) = fo nb (Vf (goA U ln ns st mo) nb) ((6 * p + i) * 6 ^ e) := by
      intro i j hij hj hk
      have hsum : (6 * p + i) * 6 ^ e + (j - i) * 6 ^ e = (6 * p + j) * 6 ^ e := by
        rw [← Nat.add_mul]
        congr 1
        omega
      rw [← hsum]
      refine fo_gap _ (fun c c1 c2 => ?_)
      rw [hsum] at c2
      have q1 : 6 * p + i ≤ c / 6 ^ e := (Nat.le_div_iff_mul_le hpos).mpr c1
      have q2 : c / 6 ^ e < 6 * p + j := (Nat.div_lt_iff_lt_mul hpos).mpr c2
      have := hk (c / 6 ^ e - 6 * p) (by omega) (by omega)
      exact ok_no hn (by omega) (c / 6 ^ e - 6 * p) (by omega) this c (by rw [hen]; omega)
    unfold F_X2_tryNext_L26
    refine lp_inv' (fun i z => z.1 = nI i ∧ RS z.2 nb (Vf (goA U ln ns st mo) nb) ((6 * p + i) * 6 ^ e) ∧ (∀ k, k < d → z.2.1 120 k = nI (dg d p k)) ∧ FT h z.2) (B := nb) (Q := fun r => ∃ x', r = some x' ∧ RS x' nb (Vf (goA U ln ns st mo) nb) ((p + 1) * 6 ^ (e + 1)) ∧ (∀ k, k < d → x'.1 120 k = nI (dg d p k)) ∧ FT h x') ?_ ?_ sg_fuel 0 (0, x) (Nat.zero_le _) (fu (by omega)) ⟨rfl, hr.eq (by rw [hpow, Nat.add_zero, ← Nat.mul_assoc, Nat.mul_comm p 6]), ht, hf⟩
    · rintro i ⟨z1, z2⟩ rc hi ⟨rfl, i1, i2, i3⟩
      dsimp only at i1 i2 i3 ⊢
      rw [i3.1 15 (by omega), hC.2.2.1, if_neg (nI_ge hi (by omega)), hC.2.1]
      by_cases hfull : nI (lsum ln ns) ≤ z2.1 118 0
      · right
        rw [if_pos hfull]
        refine ⟨z2, rfl, ?_, i2, i3⟩
        cases hfo : fo nb (Vf (goA U ln ns st mo) nb) ((6 * p + i) * 6 ^ e) with
        | none =>
          rw [i1.1 hfo] at hfull
          exact absurd hfull (m4_nle (by omega))
        | some q =>
          obtain ⟨w, b⟩ := q
          rw [(i1.2 w b hfo).1] at hfull
          have hw : w ≤ lsum ln ns := by
            have := (fo_lt hfo).1
            have := hV2 b
            omega
          have hwe : w = lsum ln ns := by
            have := (nI_leI (by omega) (by omega)).mp hfull
            omega
          subst hwe
          have hm := fo_max hV2 hfo ((6 - i) * 6 ^ e)
          have hsum : (6 * p + i) * 6 ^ e + (6 - i) * 6 ^ e = (p + 1) * 6 ^ (e + 1) := by
            rw [← Nat.add_mul, hpow, ← Nat.mul_assoc]
            congr 1
            omega
          rw [hsum] at hm
          exact i1.eq (by rw [hm, hfo])
      · left
        rw [if_neg hfull, mk_isIn _ (Mk_lt _ _) i (by omega), cl_some, b01]
        unfold F_X2_tryNext_J89
        rw [nI_1]
        by_cases hb : (Mk d p).testBit i = true
        · rw [if_pos hb]
          exact ⟨_, ⟨rfl, i1.eq (gap i (i + 1) (by omega) (by omega) (fun k k1 k2 => Or.inr (by rw [show k = i by omega]; exact hb))), i2, i3⟩, rfl⟩
        · rw [if_neg hb]
          simp only [Nat.reduceAdd]
          have hfz : FT h (sa z2 120 (upd (z2.1 120) d (nI i))) := ⟨fun y hy => by rw [sa_n (by omega)]; exact i3.1 y hy, by rw [sa_n (by decide)]; exact i3.2.1, by rw [sa_n (by decide)]; exact i3.2.2.1, i3.2.2.2⟩
          have hgo := goAloneC (h := sa z2 120 (upd (z2.1 120) d (nI i))) (mo := mo) (st := st) (y := Vf (goA U ln ns st mo) d p) v (hC.of (fun y h1 h2 => hfz.1 y (by omega))) (by rw [hfz.2.1]; exact h4) (by rw [hfz.2.2.1]; exact h5) hm hi (Vf_le d p)
          have e1 : (6 * p + i) / 6 = p := by omega
          have e2 : (6 * p + i) % 6 = i := by omega
          have hMk : Mk (d + 1) (6 * p + i) = Mk d p ||| 2 ^ i := by
            show Mk d ((6 * p + i) / 6) ||| 2 ^ ((6 * p + i) % 6) = _
            rw [e1, e2]
          have hVk : Vf (goA U ln ns st mo) (d + 1) (6 * p + i) = goA U ln ns st mo i (Vf (goA U ln ns st mo) d p) := by
            show goA U ln ns st mo ((6 * p + i) % 6) (Vf (goA U ln ns st mo) d ((6 * p + i) / 6)) = _
            rw [e1, e2]
          obtain ⟨x', g1, g2, g3, g4⟩ := ih (d + 1) (6 * p + i) (by omega) (by rw [Nat.pow_succ]; omega) (by rw [hMk, pc_or _ (Mk_lt _ _) _ (by omega), hpc, if_neg hb]) (fun k hk6 hk => by
              rw [hMk, Nat.testBit_or, Bool.or_eq_true] at hk
              rcases hk with hk | hk
              · exact hbit k hk6 hk
              · rw [Nat.testBit_two_pow] at hk
                simp at hk
                omega) N (by omega) (sa z2 120 (upd (z2.1 120) d (nI i))) (i1.of (by rw [sa_n (by decide)]) (by rw [sa_n (by decide)])) (fun k hk => by
              rw [sa_r]
              by_cases ek : k = d
              · subst ek
                rw [upd_r, dg_last (by omega)]
              · rw [upd_n ek, dg_child (by omega) (by omega)]
                exact i2 k (by omega)) hfz
          rw [hMk, hVk] at g1
          rw [gd_ok (by omega) (by decide), nm_eq, st_sa (by omega), hgo, cl_some, mk_shl i (by omega), mk_or _ (Mk_lt _ _) _ (two64 (by omega)), nI_1, g1, cl_some]
          refine ⟨_, ⟨rfl, g2.eq (by rw [Nat.add_assoc]), fun k hk => ?_, g4⟩, rfl⟩
          dsimp only
          rw [g3 k (by omega), dg_child (by omega) hk]
    · rintro ⟨z1, z2⟩ rc ⟨rfl, i1, i2, i3⟩
      dsimp only at i1 i2 i3 ⊢
      rw [i3.1 15 (by omega), hC.2.2.1, if_pos (Int32.le_refl _)]
      refine ⟨z2, rfl, i1.eq ?_, i2, i3⟩
      have := gap nb 6 hn (by omega) (fun k k1 k2 => Or.inl k1)
      rw [← this]
      congr 1
      rw [hpow, ← Nat.mul_assoc]
      congr 1
      omega
theorem seekC {h : HP} {nb ns mo : Nat} {ln : Nat → Nat} {U : Nat → Int32} {st : Int32} (v : HV U nb ns ln) (hC : CF h 15 U nb ns ln) (hm : mo ≤ 99) : ∃ h', F_X2_seek 118 st (nI mo) h = some h' ∧ RS h' nb (Vf (goA U ln ns st mo) nb) (6 ^ nb) ∧ (∀ y, (y < 118 ∨ 120 < y) → h'.1 y = h.1 y) ∧ h'.2 = h.2 := by
  unfold F_X2_seek
  rw [nm_eq, nm_eq, nm_eq]
  generalize hg : ui (ui (ui h 118 4 st) 118 5 (nI mo)) 118 0 (-4) = g
  have gx : ∀ y, y ≠ 118 → g.1 y = h.1 y := fun y hy => by rw [← hg]; simp only [ui_sa]; rw [sa_n hy, sa_n hy, sa_n hy]
  have g4 : g.1 118 4 = st := by rw [← hg]; simp only [ui_sa, sa_r]; rw [upd_n (by decide), upd_n (by decide), upd_r]
  have g5 : g.1 118 5 = nI mo := by rw [← hg]; simp only [ui_sa, sa_r]; rw [upd_n (by decide), upd_r]
  have g0 : g.1 118 0 = -4 := by rw [← hg]; simp only [ui_sa, sa_r]; rw [upd_r]
  have gr : g.2 = h.2 := by rw [← hg]; rfl
  have hn := v.1.2.2.1
  obtain ⟨x', e1, e2, e3, e4⟩ := tryC (h := g) (st := st) (mo := mo) v (hC.of (fun y h1 h2 => gx y (by omega))) g4 g5 hm nb 0 0 (by omega) (by decide) (by decide) (fun i hi z => by simp [Mk] at z) 8 (by omega) g ⟨fun _ => g0, fun v b z => by rw [Nat.zero_mul] at z; cases z⟩ (fun k hk => absurd hk (Nat.not_lt_zero k)) FT.rf
  have e1' : F_X2_tryNext 118 0 0 0 g = some x' := e1
  rw [e1', cl_some]
  refine ⟨x', rfl, e2.eq (by rw [Nat.zero_add, Nat.one_mul]), fun y hy => by rw [e4.1 y hy, gx y (by omega)], by rw [e4.2.2.2, gr]⟩
