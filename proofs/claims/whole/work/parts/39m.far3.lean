/-- who is met among the last digits -/
def Mr (d c : Nat) : Nat → Nat
  | 0 => 0
  | t + 1 => Mr d c t ||| 2 ^ (dg d c (d - 1 - t))
theorem Mr_lt (d c : Nat) : ∀ t, Mr d c t < 64
  | 0 => by unfold Mr; decide
  | t + 1 => by
    unfold Mr
    exact or64 (Mr_lt d c t) (two64 (by unfold dg; omega))
theorem Mr_bit (d c i : Nat) : ∀ t, (Mr d c t).testBit i = true ↔ ∃ k, k < t ∧ dg d c (d - 1 - k) = i
  | 0 => by simp [Mr]
  | t + 1 => by
    unfold Mr
    rw [Nat.testBit_or, Bool.or_eq_true, Mr_bit d c i t, Nat.testBit_two_pow]
    constructor
    · rintro (⟨k, k1, k2⟩ | h)
      · exact ⟨k, by omega, k2⟩
      · exact ⟨t, by omega, by simpa using h⟩
    · rintro ⟨k, k1, k2⟩
      by_cases e : k = t
      · subst e; right; simpa using k2
      · exact Or.inl ⟨k, by omega, k2⟩
theorem dg_div {d c k : Nat} (hk : k + 1 < d + 1) : dg (d + 1) c k = dg d (c / 6) k := by
  unfold dg
  rw [show d + 1 - 1 - k = (d - 1 - k) + 1 by omega, Nat.pow_succ', ← Nat.div_div_eq_div_mul]
theorem Mk_bit (i : Nat) : ∀ d c, (Mk d c).testBit i = true ↔ ∃ k, k < d ∧ dg d c k = i
  | 0, c => by simp [Mk]
  | d + 1, c => by
    unfold Mk
    rw [Nat.testBit_or, Bool.or_eq_true, Mk_bit i d (c / 6), Nat.testBit_two_pow]
    have e : dg (d + 1) c d = c % 6 := by
      unfold dg
      rw [show d + 1 - 1 - d = 0 by omega, Nat.pow_zero, Nat.div_one]
    constructor
    · rintro (⟨k, k1, k2⟩ | h)
      · exact ⟨k, by omega, by rw [dg_div (by omega)]; exact k2⟩
      · exact ⟨d, by omega, by rw [e]; simpa using h⟩
    · rintro ⟨k, k1, k2⟩
      by_cases ek : k = d
      · subst ek; right; rw [e] at k2; simpa using k2
      · left
        exact ⟨k, by omega, by rw [← dg_div (by omega)]; exact k2⟩
theorem Mr_Mk (d c : Nat) : Mr d c d = Mk d c := by
  refine mk_ext _ (Mr_lt d c d) _ (Mk_lt d c) (fun i hi => ?_)
  have h : (Mr d c d).testBit i = true ↔ (Mk d c).testBit i = true := by
    rw [Mr_bit, Mk_bit]
    constructor
    · rintro ⟨k, k1, k2⟩
      exact ⟨d - 1 - k, by omega, k2⟩
    · rintro ⟨k, k1, k2⟩
      exact ⟨d - 1 - k, by omega, by rw [show d - 1 - (d - 1 - k) = k by omega]; exact k2⟩
  cases h1 : (Mr d c d).testBit i
  · cases h2 : (Mk d c).testBit i
    · rfl
    · rw [h.mpr h2] at h1; exact absurd h1 (by decide)
  · rw [h.mp h1]
theorem layOrderM {h : HP} {n c : Nat} (hb : h.1 134 1 = nI n) (hn : n ≤ 6) (hn1 : 1 ≤ n) (hc : c < 46656) : ∃ Q, F_X9_layOrder 133 (nI c) h = some (if okc n c = true then 1 else 0, sa h 150 Q) ∧ ∀ k, k < n → Q k = nI (dg n c k) := by
  have l : ld h 134 1 = nI n := hb
  have ep : nI n - 1 = nI (n - 1) := by
    have := nI_pred (n - 1)
    rw [show n - 1 + 1 = n by omega] at this
    exact this
  have m1 : ∀ k : Nat, nI k + (-1) = (if k = 0 then -1 else nI (k - 1)) := fun k => by
    by_cases e : k = 0
    · subst e; rw [if_pos rfl]; rfl
    · rw [if_neg e]
      have := nI_m (k := k - 1)
      rw [show k - 1 + 1 = k by omega] at this
      exact this
  unfold F_X9_layOrder F_X9_layOrder_L17
  simp only [Nat.reduceAdd]
  rw [nm_eq, nm_eq, l, ep]
  refine lp_inv' (fun t x => x.1 = nI (c / 6 ^ t) ∧ x.2.1 = nI (Mr n c t) ∧ x.2.2.1 = (if t = n then -1 else nI (n - 1 - t)) ∧ ∃ Q, x.2.2.2 = sa h 150 Q ∧ ∀ k, n - t ≤ k → k < n → Q k = nI (dg n c k)) (B := n) (Q := fun r => ∃ Q, r = some (if okc n c = true then 1 else 0, sa h 150 Q) ∧ ∀ k, k < n → Q k = nI (dg n c k)) ?_ ?_ sg_fuel 0 (nI c, 0, nI (n - 1), h) (Nat.zero_le _) (fu (by omega)) ⟨by rw [Nat.pow_zero, Nat.div_one], rfl, by rw [if_neg (by omega)]; rfl, h.1 150, sa_self.symm, fun k h1 h2 => absurd h1 (by omega)⟩
  · rintro t ⟨x1, x2, x3, x4⟩ rc ht ⟨rfl, rfl, i1, Q, rfl, i2⟩
    left
    dsimp only at i1 ⊢
    rw [if_neg (by omega)] at i1
    subst i1
    have hlt : c / 6 ^ t < 2 ^ 31 := Nat.lt_of_le_of_lt (Nat.div_le_self _ _) (by omega)
    have e6 : nI (c / 6 ^ t) - nI (c / 6 ^ t) / 6 * 6 = nI (c / 6 ^ t % 6) := pk_rem (d := 6) hlt (by decide) (by decide)
    have d6 : nI (c / 6 ^ t) / 6 = nI (c / 6 ^ t / 6) := pk_div (d := 6) hlt (by decide) (by decide)
    have hdg : dg n c (n - 1 - t) = c / 6 ^ t % 6 := by
      unfold dg
      rw [show n - 1 - (n - 1 - t) = t by omega]
    rw [if_neg (nI_pos (by omega)), gd_ok (by omega) (by decide), nm_eq, nm_eq, gd_ok (by omega) (by decide), nm_eq, e6, d6, st_sa (by omega), sa_sa, sa_r, ld_nI (by omega), sa_r, upd_r, mk_shl _ (by omega), mk_or _ (Mr_lt _ _ _) _ (two64 (by omega)), m1]
    refine ⟨_, ⟨?_, ?_, ?_, _, rfl, fun k h1 h2 => ?_⟩, rfl⟩
    · dsimp only
      rw [Nat.pow_succ, Nat.div_div_eq_div_mul]
    · dsimp only
      show _ = nI (Mr n c t ||| 2 ^ (dg n c (n - 1 - t)))
      rw [hdg]
    · dsimp only
      by_cases e : t + 1 = n
      · rw [if_pos (by omega), if_pos e]
      · rw [if_neg (by omega), if_neg e, show n - 1 - t - 1 = n - 1 - (t + 1) by omega]
    · by_cases e : k = n - 1 - t
      · subst e
        rw [upd_r, hdg]
      · rw [upd_n e]
        exact i2 k (by omega) h2
  · rintro ⟨x1, x2, x3, x4⟩ rc ⟨rfl, rfl, i1, Q, rfl, i2⟩
    dsimp only at i1 ⊢
    rw [if_pos rfl] at i1
    subst i1
    rw [if_pos (show (-1 : Int32) < 0 by decide)]
    unfold F_X9_layOrder_J58
    have hf : nI (2 ^ n) - 1 = nI (2 ^ n - 1) := by
      have := nI_pred (2 ^ n - 1)
      have hp : 0 < 2 ^ n := Nat.two_pow_pos n
      rw [show 2 ^ n - 1 + 1 = 2 ^ n by omega] at this
      exact this
    have h64 := two_le hn
    rw [mk_shl9 n (by omega), hf, Mr_Mk]
    refine ⟨Q, ?_, fun k hk => i2 k (by omega) hk⟩
    unfold okc
    by_cases e : Mk n c = 2 ^ n - 1
    · rw [if_pos (by rw [e]), if_pos (by simp [e])]
    · rw [if_neg (fun z => e ((nI_eq (by have := Mk_lt n c; omega) (by omega)).mp z)), if_neg (by simp [e])]
/-- the first k of the order have gone -/
theorem Vf_pre {go : Nat → Nat → Nat} {n c k : Nat} (hk : k < n) : Vf go (k + 1) (c / 6 ^ (n - (k + 1))) = go (dg n c k) (Vf go k (c / 6 ^ (n - k))) := by
  show go (c / 6 ^ (n - (k + 1)) % 6) (Vf go k (c / 6 ^ (n - (k + 1)) / 6)) = _
  have e1 : c / 6 ^ (n - (k + 1)) % 6 = dg n c k := by
    unfold dg
    rw [show n - 1 - k = n - (k + 1) by omega]
  have e2 : c / 6 ^ (n - (k + 1)) / 6 = c / 6 ^ (n - k) := by
    rw [Nat.div_div_eq_div_mul, ← Nat.pow_succ, show (n - (k + 1)).succ = n - k by omega]
  rw [e1, e2]
theorem comesM {h : HP} {nb ns c mo : Nat} {ln : Nat → Nat} {st : Int32} (v : HV (h.1 134) nb ns ln) (hok : okc nb c = true) (hm : mo ≤ 99) (hQ : ∀ k, k < nb → h.1 150 k = nI (dg nb c k)) (hc : c < 6 ^ nb) : F_X9_comesTo 133 st (nI mo) h = some (nI (Vf (goA (h.1 134) ln ns st mo) nb c)) := by
  have hn := v.1.2.2.1
  have h120 : lsum ln ns ≤ 120 := v.1.2.2.2.2.2
  have hdlt : ∀ k, k < nb → dg nb c k < nb := by
    intro k hk
    have hM : Mk nb c = 2 ^ nb - 1 := by unfold okc at hok; simpa using hok
    have hb : (Mk nb c).testBit (dg nb c k) = true := (Mk_bit _ _ _).mpr ⟨k, hk, rfl⟩
    have h6 : dg nb c k < 6 := by unfold dg; omega
    rw [hM, full_bit nb (by omega) _ h6] at hb
    simpa using hb
  unfold F_X9_comesTo
  simp only [Nat.reduceAdd]
  rw [yardsOf_eq v.1 rfl, cl_some]
  unfold F_X9_comesTo_L14
  simp only [Nat.reduceAdd]
  have l : ld h 134 1 = nI nb := v.1.2.1
  have l3 : ld h 134 3 = h.1 134 3 := rfl
  refine lp_inv' (fun k x => x.1 = nI (Vf (goA (h.1 134) ln ns st mo) k (c / 6 ^ (nb - k))) ∧ x.2 = nI k) (B := nb) (Q := fun r => r = some (nI (Vf (goA (h.1 134) ln ns st mo) nb c))) ?_ ?_ sg_fuel 0 (0, 0) (Nat.zero_le _) (fu (by omega)) ⟨rfl, rfl⟩
  · rintro k ⟨x1, x2⟩ rc hk ⟨rfl, rfl⟩
    left
    dsimp only
    have hi := hdlt k hk
    have hQk := hQ k hk
    generalize hig : dg nb c k = i at hi hQk
    have hyle := Vf_le (U := h.1 134) (ln := ln) (ns := ns) (st := st) (mo := mo) k (c / 6 ^ (nb - k))
    have hpre := Vf_pre (go := goA (h.1 134) ln ns st mo) (n := nb) (c := c) hk
    rw [hig] at hpre
    refine ⟨(nI (Vf (goA (h.1 134) ln ns st mo) (k + 1) (c / 6 ^ (nb - (k + 1)))), nI (k + 1)), ⟨rfl, rfl⟩, ?_⟩
    rw [hpre]
    generalize Vf (goA (h.1 134) ln ns st mo) k (c / 6 ^ (nb - k)) = y at hyle
    obtain ⟨s1, s2⟩ := sN_eq v (st := st) (mo := mo) hi hm
    -- one goes
    have go : F_X9_comesTo_L61 133 rc st (nI mo) (nI (lsum ln ns)) (nI k) (nI i) h sg_fuel (nI y, nI (sN (h.1 134) st mo i), 1) = rc (nI (goA (h.1 134) ln ns st mo i y), nI (k + 1)) := by
      unfold F_X9_comesTo_L61
      obtain ⟨body, hbody⟩ : ∃ body, body = (fun (rc61 : Int32 × Int32 × Int32 → Option Int32) (x : Int32 × Int32 × Int32) => (if nI (lsum ln ns) ≤ x.1 then F_X9_comesTo_J152 133 rc st (nI mo) (nI (lsum ln ns)) x.1 (nI k) h else (if x.2.2 = 0 then F_X9_comesTo_J152 133 rc st (nI mo) (nI (lsum ln ns)) x.1 (nI k) h else cl (F_X9_stretchAt (133 + 1) x.1 h) (fun p95 => gd (10 + p95) 34 ( cl (F_X9_cost (133 + 1) (nI i) (1 <<< (nI i &&& 31)) ((1 + (ld h (133 + 1) (10 + p95))) + (ld h (133 + 1) 3)) h) (fun p108 => (if x.2.1 < p108 then F_X9_comesTo_J125 133 rc rc61 st (nI mo) (nI (lsum ln ns)) x.1 (nI k) (nI i) x.2.1 p108 0 h else F_X9_comesTo_J125 133 rc rc61 st (nI mo) (nI (lsum ln ns)) x.1 (nI k) (nI i) x.2.1 p108 1 h))))))) := ⟨_, rfl⟩
      have hstep : ∀ (rc61 : Int32 × Int32 × Int32 → Option Int32) (x : Int32 × Int32 × Int32), body rc61 x = (if nI (lsum ln ns) ≤ x.1 then F_X9_comesTo_J152 133 rc st (nI mo) (nI (lsum ln ns)) x.1 (nI k) h else (if x.2.2 = 0 then F_X9_comesTo_J152 133 rc st (nI mo) (nI (lsum ln ns)) x.1 (nI k) h else cl (F_X9_stretchAt (133 + 1) x.1 h) (fun p95 => gd (10 + p95) 34 ( cl (F_X9_cost (133 + 1) (nI i) (1 <<< (nI i &&& 31)) ((1 + (ld h (133 + 1) (10 + p95))) + (ld h (133 + 1) 3)) h) (fun p108 => (if x.2.1 < p108 then F_X9_comesTo_J125 133 rc rc61 st (nI mo) (nI (lsum ln ns)) x.1 (nI k) (nI i) x.2.1 p108 0 h else F_X9_comesTo_J125 133 rc rc61 st (nI mo) (nI (lsum ln ns)) x.1 (nI k) (nI i) x.2.1 p108 1 h)))))) := fun rc x => by rw [hbody]
      have key : ∀ d l y, y + d = lsum ln ns → l ≤ 699 → ∀ N, d + 1 < N → lp body N (nI y, nI l, 1) = rc (nI (ga (cN (h.1 134) ln ns i) l y d), nI (k + 1)) := by
        intro d
        induction d with
        | zero =>
          intro l y e hl N hN
          obtain ⟨N, rfl⟩ : ∃ M, N = M + 1 := ⟨N - 1, by omega⟩
          show body (lp body N) (nI y, nI l, 1) = _
          rw [hstep]
          dsimp only
          rw [if_pos (nI_le (by omega) (by omega))]
          unfold F_X9_comesTo_J152 ga
          rw [nI_1]
        | succ d ih =>
          intro l y e hl N hN
          obtain ⟨N, rfl⟩ : ∃ M, N = M + 1 := ⟨N - 1, by omega⟩
          have hy : y < lsum ln ns := by omega
          obtain ⟨q1, q2, q3⟩ := so_spec hy
          have hns := v.1.2.2.2.1
          obtain ⟨c1, c2, c3⟩ := cI_eq v hi hy
          show body (lp body N) (nI y, nI l, 1) = _
          rw [hstep]
          dsimp only
          simp only [Nat.reduceAdd]
          have p64 : 2 ^ i < 64 := two64 (by omega)
          have hbi : (2 ^ i).testBit i = true := by rw [Nat.testBit_two_pow]; simp
          rw [if_neg (nI_ge hy (by omega)), if_neg (by decide), stretchAt_eq v.1 rfl q1 q2 q3, cl_some, lit_add 10, gd_ok (by omega) (by decide), ld_nI (by omega), l3, mk_shl i (by omega), cost_eq (K := uK (h.1 134)) (fun j _ => rfl) v.1.2.1 hn p64 rfl hi hbi, cl_some, cV_one hn (by omega)]
          have ec : tollV (1 + h.1 134 (10 + so ln y ns) + h.1 134 3) (uK (h.1 134) i) 1 1 = nI (cN (h.1 134) ln ns i y) := c1
          rw [ec]
          unfold F_X9_comesTo_J125 F_X9_comesTo_J146
          show _ = rc (nI (if cN (h.1 134) ln ns i y ≤ l then ga (cN (h.1 134) ln ns i) (l - cN (h.1 134) ln ns i y) (y + 1) d else y), nI (k + 1))
          by_cases hcc : cN (h.1 134) ln ns i y ≤ l
          · rw [if_neg (nI_nlt hcc (by omega)), if_pos hcc, nm_eq, if_neg (by decide), nm_eq, nI_1, pk_sub hcc]
            exact ih (l - cN (h.1 134) ln ns i y) (y + 1) (by omega) (by omega) N (by omega)
          · rw [if_pos (nI_lt (by omega) (by omega)), if_neg hcc, nm_eq, if_pos rfl, nm_eq, Int32.add_zero]
            obtain ⟨N, rfl⟩ : ∃ M, N = M + 1 := ⟨N - 1, by omega⟩
            show body (lp body N) (nI y, nI l - nI (cN (h.1 134) ln ns i y), 0) = _
            rw [hstep]
            dsimp only
            rw [if_neg (nI_ge hy (by omega)), if_pos rfl]
            unfold F_X9_comesTo_J152
            rw [nI_1]
      have k2 := key (lsum ln ns - y) (sN (h.1 134) st mo i) y (by omega) s2 sg_fuel (by rw [sg_fuel_eq]; omega)
      rw [hbody] at k2
      unfold goA
      exact k2
    rw [l, if_neg (nI_ge hk (by omega)), gd_ok (by omega) (by decide), nm_eq, ld_nI (by omega), hQk, lit_add 22, gd_ok (by omega) (by decide), ld_nI (by omega)]
    unfold F_X9_comesTo_J55
    by_cases e : nI i = st
    · rw [if_pos e] at s1 ⊢
      rw [nm_eq, s1]
      exact go
    · rw [if_neg e] at s1 ⊢
      rw [nm_eq, s1]
      exact go
  · rintro ⟨x1, x2⟩ rc ⟨rfl, rfl⟩
    dsimp only
    rw [l, if_pos (Int32.le_refl _), Nat.sub_self, Nat.pow_zero, Nat.div_one]
