theorem b01_1 {c : Prop} [Decidable c] (h : c) : (if c then (1 : Int32) else 0) = 1 := if_pos h
theorem b01_0 {c : Prop} [Decidable c] (h : ¬ c) : (if c then (1 : Int32) else 0) = 0 := if_neg h
theorem b01 {c : Prop} [Decidable c] {α : Type} {A B : α} : (if (if c then (1 : Int32) else 0) = 0 then A else B) = if c then B else A := by
  by_cases h : c
  · rw [b01_1 h, if_pos h, if_neg (by decide)]
  · rw [b01_0 h, if_neg h, if_pos rfl]
theorem mk_or0 (d : Nat) (hd : d < 64) : nI d ||| 0 = nI (d ||| 0) := mk_or d hd 0 (by decide)
theorem in_eq (z0 z2 z4 : Int64) : F_X9_in z0 z2 z4 = some (if z2 ≤ z0 ∧ z0 ≤ z4 then 1 else 0) := by
  unfold F_X9_in lg_cmp
  by_cases h1 : z2 ≤ z0
  · have e1 : ¬ (if z0 > z2 then (1 : Int32) else if z0 = z2 then 0 else -1) < 0 := by
      by_cases q : z0 > z2
      · rw [if_pos q]; decide
      · have : z0 = z2 := Int64.le_antisymm (Int64.not_lt.mp q) h1
        rw [if_neg q, if_pos this]; decide
    rw [if_neg e1]
    by_cases h2 : z0 ≤ z4
    · have e2 : ¬ 0 < (if z0 > z4 then (1 : Int32) else if z0 = z4 then 0 else -1) := by
        have q : ¬ z0 > z4 := Int64.not_lt.mpr h2
        rw [if_neg q]
        split <;> decide
      rw [if_neg e2, if_pos ⟨h1, h2⟩]
    · have q : z0 > z4 := Int64.not_le.mp h2
      rw [if_pos q, if_pos (by decide), if_neg (fun z => h2 z.2)]
  · have q : ¬ z0 > z2 := fun z => h1 (Int64.le_of_lt z)
    have q2 : ¬ z0 = z2 := fun z => h1 (z ▸ Int64.le_refl _)
    rw [if_neg q, if_neg q2, if_pos (by decide), if_neg (fun z => h1 z.1)]
theorem inI_eq (x l m : Int32) : F_X9_in x.toInt64 l.toInt64 m.toInt64 = some (if l ≤ x ∧ x ≤ m then 1 else 0) := by
  rw [in_eq]
  simp only [fa_wide_le]
def lsum (ln : Nat → Nat) : Nat → Nat
  | 0 => 0
  | k + 1 => lsum ln k + ln k
theorem lsum_mono {ln : Nat → Nat} {i : Nat} : ∀ {k : Nat}, i ≤ k → lsum ln i ≤ lsum ln k
  | 0, h => by rw [Nat.le_zero.mp h]; exact Nat.le_refl _
  | k + 1, h => by
    rcases Nat.lt_or_ge k i with q | q
    · have : i = k + 1 := by omega
      rw [this]; exact Nat.le_refl _
    · exact Nat.le_trans (lsum_mono q) (Nat.le_add_right _ _)
/-- the stretch of a yard -/
def so (ln : Nat → Nat) (y : Nat) : Nat → Nat
  | 0 => 0
  | n + 1 => if lsum ln n ≤ y then n else so ln y n
theorem so_spec {ln : Nat → Nat} {y : Nat} : ∀ {n : Nat}, y < lsum ln n → so ln y n < n ∧ lsum ln (so ln y n) ≤ y ∧ y < lsum ln (so ln y n + 1)
  | 0, h => absurd h (Nat.not_lt_zero _)
  | n + 1, h => by
    unfold so
    split
    · exact ⟨by omega, by assumption, h⟩
    · obtain ⟨h1, h2, h3⟩ := so_spec (n := n) (ln := ln) (y := y) (by omega)
      exact ⟨by omega, h2, h3⟩
/-- a funeral as the model holds it -/
def MU (U : Nat → Int32) (nb ns : Nat) (ln : Nat → Nat) : Prop := U 0 = nI ns ∧ U 1 = nI nb ∧ nb ≤ 6 ∧ ns ≤ 6 ∧ (∀ i, i < ns → U (4 + i) = nI (ln i)) ∧ lsum ln ns ≤ 120
theorem lit_add (c k : Nat) : (OfNat.ofNat c : Int32) + nI k = nI (c + k) := nI_add c k
theorem yardsOf_eq {h : HP} {q nb ns : Nat} {ln : Nat → Nat} (hM : MU (h.1 q) nb ns ln) (hN : sg_N q = 34) : F_X9_yardsOf q h = some (nI (lsum ln ns)) := by
  obtain ⟨m1, m2, m3, m4, m5, m6⟩ := hM
  unfold F_X9_yardsOf F_X9_yardsOf_L4
  rw [hN]
  have l0 : ld h q 0 = nI ns := by rw [← m1]; rfl
  refine lp_seq' (fun k => (nI (lsum ln k), nI k)) ns (fu (by omega)) rfl (fun k hk rc => ?_) (fun rc => ?_)
  · dsimp only
    have hk2 := lsum_mono (ln := ln) (i := k + 1) (k := ns) (by omega)
    rw [show gd (0 : Int32) 34 = gd (nI 0) 34 from rfl, gd_ok (by decide) (by decide), l0, if_neg (nI_ge hk (by omega)), lit_add 4 k, gd_ok (by omega) (by decide), nm_eq, ld_nI (by omega), m5 k hk, nI_add, nI_1]
    rfl
  · dsimp only
    rw [show gd (0 : Int32) 34 = gd (nI 0) 34 from rfl, gd_ok (by decide) (by decide), l0, if_pos (Int32.le_refl _)]
theorem stretchAt_eq {h : HP} {q nb ns y s : Nat} {ln : Nat → Nat} (hM : MU (h.1 q) nb ns ln) (hN : sg_N q = 34) (hs : s < ns) (h1 : lsum ln s ≤ y) (h2 : y < lsum ln (s + 1)) : F_X9_stretchAt q (nI y) h = some (nI s) := by
  obtain ⟨m1, m2, m3, m4, m5, m6⟩ := hM
  have hy : y < 120 := Nat.lt_of_lt_of_le h2 (Nat.le_trans (lsum_mono (by omega)) m6)
  unfold F_X9_stretchAt F_X9_stretchAt_L4
  rw [hN]
  refine lp_seq' (fun k => (nI k, nI (y - lsum ln k))) s (fu (by omega)) rfl (fun k hk rc => ?_) (fun rc => ?_)
  · dsimp only
    have e1 : lsum ln (k + 1) ≤ lsum ln s := lsum_mono (by omega)
    have e2 : lsum ln (k + 1) = lsum ln k + ln k := rfl
    rw [lit_add 4 k, gd_ok (by omega) (by decide), ld_nI (by omega), m5 k (by omega), if_neg (nI_nlt (by omega) (by omega)), gd_ok (by omega) (by decide), nm_eq, pk_sub (by omega), nI_1]
    congr 3
    omega
  · dsimp only
    have e2 : lsum ln (s + 1) = lsum ln s + ln s := rfl
    rw [lit_add 4 s, gd_ok (by omega) (by decide), ld_nI (by omega), m5 s hs, if_pos (nI_lt (by omega) (by have := lsum_mono (ln := ln) (i := s + 1) (k := ns) (by omega); omega))]
/-- turns as the model holds them -/
def TM (B : Nat → Int32) (n : Nat) (wh fr to : Nat → Nat) : Prop := B 0 = nI n ∧ n ≤ 10 ∧ ∀ k, k < n → B (1 + k) = nI (wh k) ∧ B (11 + k) = nI (fr k) ∧ B (21 + k) = nI (to k) ∧ wh k < 6 ∧ fr k ≤ to k ∧ to k < 120
theorem tolds_eq {h : HP} {n y : Nat} {wh fr to : Nat → Nat} (hT : TM (h.1 144) n wh fr to) (hy : y < 120) : F_X9_tolds 133 (nI y) h = some (nI (tmask wh fr to (fun _ => true) y n)) := by
  obtain ⟨t1, t2, t3⟩ := hT
  unfold F_X9_tolds F_X9_tolds_L4
  simp only [Nat.reduceAdd]
  have l0 : ld h 144 0 = nI n := by rw [← t1]; rfl
  refine lp_seq' (fun k => (nI (tmask wh fr to (fun _ => true) y k), nI k)) n (fu (by omega)) rfl (fun k hk rc => ?_) (fun rc => ?_)
  · dsimp only
    obtain ⟨k1, k2, k3, k4, k5, k6⟩ := t3 k hk
    have hlt : tmask wh fr to (fun _ => true) y k < 64 := tmask_lt (fun j hj => (t3 j (by omega)).2.2.2.1)
    rw [l0, if_neg (nI_ge hk (by omega)), lit_add 11 k, gd_ok (by omega) (by decide), lit_add 21 k, gd_ok (by omega) (by decide), ld_nI (by omega), ld_nI (by omega), k2, k3, inI_eq, cl_some, lit_add 1 k]
    unfold F_X9_tolds_J57
    rw [nI_1]
    by_cases hc : fr k ≤ y ∧ y ≤ to k
    · rw [b01_1 (show nI (fr k) ≤ nI y ∧ nI y ≤ nI (to k) from ⟨nI_le hc.1 (by omega), nI_le hc.2 (by omega)⟩), if_neg (by decide), gd_ok (by omega) (by decide), nm_eq, ld_nI (by omega), k1, mk_shl _ k4, mk_or _ hlt _ (two64 k4)]
      simp [tmask, hc]
    · rw [b01_0 (show ¬ (nI (fr k) ≤ nI y ∧ nI y ≤ nI (to k)) from fun z => hc ⟨(nI_leI (by omega) (by omega)).mp z.1, (nI_leI (by omega) (by omega)).mp z.2⟩), if_pos rfl, nm_eq, mk_or0 _ hlt]
      simp [tmask, hc]
  · dsimp only
    rw [l0, if_pos (Int32.le_refl _)]
theorem tmask_bit {wh fr to : Nat → Nat} {pr : Nat → Bool} {y i : Nat} : ∀ {n : Nat}, (tmask wh fr to pr y n).testBit i = true ↔ ∃ k, k < n ∧ pr k = true ∧ fr k ≤ y ∧ y ≤ to k ∧ wh k = i
  | 0 => by simp [tmask]
  | n + 1 => by
    unfold tmask
    rw [Nat.testBit_or, Bool.or_eq_true, tmask_bit]
    constructor
    · rintro (⟨k, h1, h2⟩ | h)
      · exact ⟨k, by omega, h2⟩
      · split at h
        · rename_i hc
          rw [Nat.testBit_two_pow] at h
          exact ⟨n, by omega, hc.1, hc.2.1, hc.2.2, by simpa using h⟩
        · simp at h
    · rintro ⟨k, h1, h2, h3, h4, h5⟩
      by_cases hk : k = n
      · subst hk
        right
        rw [if_pos ⟨h2, h3, h4⟩, Nat.testBit_two_pow]
        simpa using h5
      · exact Or.inl ⟨k, by omega, h2, h3, h4, h5⟩
theorem unfallen_eq {h : HP} {nb m : Nat} (hb : h.1 143 1 = nI nb) (hn : nb ≤ 6) (hm : m < 64) : F_X9_unfallen 133 (nI m) h = some (nI (mk (fun i => m.testBit i && decide (¬ 0 ≤ h.1 147 i)) nb)) := by
  unfold F_X9_unfallen F_X9_unfallen_L4
  simp only [Nat.reduceAdd]
  have l0 : ld h 143 1 = nI nb := by rw [← hb]; rfl
  refine lp_seq' (fun k => (nI (mk (fun i => m.testBit i && decide (¬ 0 ≤ h.1 147 i)) k), nI k)) nb (fu (by omega)) rfl (fun k hk rc => ?_) (fun rc => ?_)
  · dsimp only
    have hlt : mk (fun i => m.testBit i && decide (¬ 0 ≤ h.1 147 i)) k < 64 := mk_lt (by omega)
    rw [l0, if_neg (nI_ge hk (by omega)), mk_has _ hm k (by omega), cl_some]
    unfold F_X9_unfallen_J38 F_X9_unfallen_J39
    rw [nI_1]
    by_cases hbit : m.testBit k = true
    · rw [if_pos hbit, if_neg (by decide), gd_ok (by omega) (by decide), ld_nI (by omega)]
      by_cases hc : 0 ≤ h.1 147 k
      · rw [if_pos hc, nm_eq, mk_or0 _ hlt]
        simp [mk, hbit, hc]
      · rw [if_neg hc, nm_eq, mk_shl k (by omega), mk_or _ hlt _ (two64 (by omega))]
        simp [mk, hbit, hc]
    · rw [if_neg hbit, if_pos rfl, nm_eq, mk_or0 _ hlt]
      simp [mk, hbit]
  · dsimp only
    rw [l0, if_pos (Int32.le_refl _)]
