/-! pure part: the heap with whole rows set -/
def sa (h : HP) (q : Nat) (f : Nat → Int32) : HP := (fun x => if x = q then f else h.1 x, h.2)
theorem sa_r {h : HP} {q : Nat} {f : Nat → Int32} : (sa h q f).1 q = f := by simp [sa]
theorem sa_n {h : HP} {q x : Nat} {f : Nat → Int32} (hx : x ≠ q) : (sa h q f).1 x = h.1 x := by simp [sa, hx]
theorem sa_2 {h : HP} {q : Nat} {f : Nat → Int32} : (sa h q f).2 = h.2 := rfl
theorem sa_sa {h : HP} {q : Nat} {f g : Nat → Int32} : sa (sa h q f) q g = sa h q g := by
  simp only [sa]
  congr 1
  funext x
  by_cases hx : x = q <;> simp [hx]
theorem sa_self {h : HP} {q : Nat} : sa h q (h.1 q) = h := by
  simp only [sa]
  refine Prod.ext ?_ rfl
  funext x
  by_cases hx : x = q <;> simp [hx]
theorem sa_id {h : HP} {q : Nat} {f : Nat → Int32} (hf : f = h.1 q) : sa h q f = h := by rw [hf]; exact sa_self
theorem sa_comm {h : HP} {q r : Nat} {f g : Nat → Int32} (hqr : q ≠ r) : sa (sa h q f) r g = sa (sa h r g) q f := by
  simp only [sa]
  congr 1
  funext x
  by_cases hx : x = q
  · by_cases hy : x = r
    · exact absurd (hx.symm.trans hy) hqr
    · simp [hx, hqr]
  · by_cases hy : x = r
    · subst hy
      simp [hx]
    · simp [hx, hy]
theorem ui_sa {h : HP} {a k : Nat} {v : Int32} : ui h a k v = sa h a (upd (h.1 a) k v) := rfl
theorem uc_sa {h : HP} {q a sp dp n : Nat} : uc h q a sp dp n = sa h a (va_cpy (h.1 q) (h.1 a) sp dp n) := rfl
theorem st_sa {h : HP} {q j : Nat} {v : Int32} (hj : j < 2 ^ 31) : st h q (nI j) v = sa h q (upd (h.1 q) j v) := by
  unfold st
  rw [nI_clamp hj]
  rfl
theorem ld_nI {h : HP} {q j : Nat} (hj : j < 2 ^ 31) : ld h q (nI j) = h.1 q j := by
  unfold ld
  rw [nI_clamp hj]
theorem gd_ok {β : Type} {j n : Nat} {k : Option β} (hj : j < n) (hn : n < 2 ^ 31) : gd (nI j) n k = k := by
  unfold gd
  exact if_neg (nI_in hj hn)
theorem gn_ok {β : Type} {r : Nat} {k : Option β} (hr : r ≠ 0) : gn r k = k := if_neg hr
theorem gz_ok {β : Type} {y : Int32} {k : Option β} (hr : ¬ y = 0) : gz y k = k := if_neg hr
theorem gzl_ok {β : Type} {y : Int64} {k : Option β} (hr : ¬ y = 0) : gzl y k = k := if_neg hr
theorem gb_ok {β : Type} {y : Int32} {k : Option β} (hr : y = 0 ∨ y = 1) : gb y k = k := if_pos hr
theorem cl_some {α β : Type} {v : α} {k : α → Option β} : cl (some v) k = k v := rfl
theorem nm_eq {α β : Type} {v : α} {k : α → β} : nm v k = k v := rfl
/-- a loop whose states are known one by one -/
theorem lp_seq {α β : Type} {body : (α → Option β) → α → Option β} (x : Nat → α) (B : Nat) {E : Option β} (hs : ∀ i, i < B → ∀ rc, body rc (x i) = rc (x (i + 1))) (he : ∀ rc, body rc (x B) = E) : ∀ N, B < N → lp body N (x 0) = E := by
  have key : ∀ d i, i + d = B → ∀ N, d < N → lp body N (x i) = E := by
    intro d
    induction d with
    | zero =>
      intro i hi N hN
      obtain ⟨N, rfl⟩ : ∃ M, N = M + 1 := ⟨N - 1, by omega⟩
      obtain rfl : i = B := by omega
      exact he _
    | succ d ih =>
      intro i hi N hN
      obtain ⟨N, rfl⟩ : ∃ M, N = M + 1 := ⟨N - 1, by omega⟩
      show body (lp body N) (x i) = E
      rw [hs i (by omega)]
      exact ih (i + 1) (by omega) N (by omega)
  intro N hN
  exact key B 0 (by omega) N hN
/-- a loop with an invariant, that may end early -/
theorem lp_inv {α β : Type} {body : (α → Option β) → α → Option β} (I : Nat → α → Prop) {B : Nat} {Q : Option β → Prop} (hs : ∀ i x, i < B → I i x → (∃ x', I (i + 1) x' ∧ ∀ rc, body rc x = rc x') ∨ ∃ r, Q r ∧ ∀ rc, body rc x = r) (he : ∀ x, I B x → ∃ r, Q r ∧ ∀ rc, body rc x = r) : ∀ N i x, i ≤ B → B - i < N → I i x → Q (lp body N x) := by
  intro N
  induction N with
  | zero => intro i x _ h; exact absurd h (Nat.not_lt_zero _)
  | succ N ih =>
    intro i x hi hN hI
    show Q (body (lp body N) x)
    rcases Nat.lt_or_ge i B with hl | hl
    · rcases hs i x hl hI with ⟨x', h1, h2⟩ | ⟨r, h1, h2⟩
      · rw [h2]
        exact ih (i + 1) x' (by omega) (by omega) h1
      · rw [h2]
        exact h1
    · obtain rfl : i = B := by omega
      obtain ⟨r, h1, h2⟩ := he x hI
      rw [h2]
      exact h1
theorem sg_fuel_eq : sg_fuel = 60000 := rfl
/-! masks below 64 -/
def pc (m : Nat) : Nat := (if m.testBit 0 then 1 else 0) + (if m.testBit 1 then 1 else 0) + (if m.testBit 2 then 1 else 0) + (if m.testBit 3 then 1 else 0) + (if m.testBit 4 then 1 else 0) + (if m.testBit 5 then 1 else 0)
def nd (d s : Nat) : Nat := d &&& (63 ^^^ s)
theorem mk_isIn : ∀ m, m < 64 → ∀ i, i < 6 → F_X8_isIn (nI i) (nI m) = some (if m.testBit i then 1 else 0) := by decide +kernel
theorem mk_has : ∀ m, m < 64 → ∀ i, i < 6 → F_X9_has (nI m) (nI i) = some (if m.testBit i then 1 else 0) := by decide +kernel
theorem mk_bitCount : ∀ m, m < 64 → F_J6_bitCount_0f7a4 (nI m) = some (nI (pc m)) := by decide +kernel
theorem mk_bits : ∀ m, m < 64 → F_X9_bits (nI m) = some (nI (pc m)) := by decide +kernel
theorem mk_shl : ∀ i, i < 6 → (1 : Int32) <<< (nI i &&& 31) = nI (2 ^ i) := by decide +kernel
theorem mk_nd : ∀ d, d < 64 → ∀ s, s < 64 → nI d &&& (nI s ^^^ (-1)) = nI (nd d s) := by decide +kernel
theorem mk_or : ∀ d, d < 64 → ∀ s, s < 64 → nI d ||| nI s = nI (d ||| s) := by decide +kernel
theorem mk_and : ∀ d, d < 64 → ∀ s, s < 64 → nI d &&& nI s = nI (d &&& s) := by decide +kernel
theorem pc_le : ∀ m, m < 64 → pc m ≤ 6 := by decide +kernel
theorem nd_lt {d s : Nat} (hd : d < 64) : nd d s < 64 := Nat.lt_of_le_of_lt Nat.and_le_left hd
theorem or64 {d s : Nat} (hd : d < 64) (hs : s < 64) : d ||| s < 64 := Nat.or_lt_two_pow (n := 6) hd hs
theorem and64 {d s : Nat} (hd : d < 64) : d &&& s < 64 := Nat.lt_of_le_of_lt Nat.and_le_left hd
theorem nd_bit : ∀ d, d < 64 → ∀ s, s < 64 → ∀ i, i < 6 → (nd d s).testBit i = (d.testBit i && !s.testBit i) := by decide +kernel
theorem two64 {i : Nat} (hi : i < 6) : 2 ^ i < 64 := Nat.pow_lt_pow_right (by decide) hi
theorem mk_ext : ∀ a, a < 64 → ∀ b, b < 64 → (∀ i, i < 6 → a.testBit i = b.testBit i) → a = b := by decide +kernel
/-- the mask of those below n of whom p holds -/
def mk (p : Nat → Bool) : Nat → Nat
  | 0 => 0
  | n + 1 => mk p n ||| (if p n then 2 ^ n else 0)
theorem mk_lt {p : Nat → Bool} : ∀ {n : Nat}, n ≤ 6 → mk p n < 64
  | 0, _ => Nat.zero_lt_succ _
  | n + 1, h => by
    unfold mk
    refine or64 (mk_lt (by omega)) ?_
    split
    · exact two64 (by omega)
    · decide
theorem mk_bit {p : Nat → Bool} : ∀ {n i : Nat}, (mk p n).testBit i = (decide (i < n) && p i)
  | 0, i => by simp [mk]
  | n + 1, i => by
    unfold mk
    rw [Nat.testBit_or, mk_bit]
    by_cases hp : p n = true
    · rw [if_pos hp, Nat.testBit_two_pow]
      by_cases hi : i = n
      · subst hi; simp [hp]
      · have e1 : decide (n = i) = false := by simp; omega
        have e2 : decide (i < n + 1) = decide (i < n) := by simp; omega
        rw [e1, e2, Bool.or_false]
    · rw [if_neg hp, Nat.zero_testBit, Bool.or_false]
      by_cases hi : i = n
      · subst hi; simp at hp; simp [hp]
      · have e2 : decide (i < n + 1) = decide (i < n) := by simp; omega
        rw [e2]
theorem mk_congr {p q : Nat → Bool} : ∀ {n : Nat}, (∀ i, i < n → p i = q i) → mk p n = mk q n
  | 0, _ => rfl
  | n + 1, h => by
    unfold mk
    rw [mk_congr (fun i hi => h i (by omega)), h n (by omega)]
theorem lp_seq' {α β : Type} {body : (α → Option β) → α → Option β} (x : Nat → α) (B : Nat) {x0 : α} {E : Option β} {N : Nat} (hN : B < N) (h0 : x0 = x 0) (hs : ∀ i, i < B → ∀ rc, body rc (x i) = rc (x (i + 1))) (he : ∀ rc, body rc (x B) = E) : lp body N x0 = E := by
  rw [h0]
  exact lp_seq x B hs he N hN
theorem ltk {i k : Nat} (h : ¬ i = k) : (i < k + 1) = (i < k) := by
  apply propext
  omega
theorem sa_g {h : HP} {q x : Nat} {f : Nat → Int32} : (sa h q f).1 x = if x = q then f else h.1 x := rfl
theorem ifk_no {k : Nat} {p : Nat → Bool} {X Y : Nat → Int32} (hb : ¬ p k = true) : (fun i => if i < k ∧ p i = true then X i else Y i) = (fun i => if i < k + 1 ∧ p i = true then X i else Y i) := by
  funext i
  by_cases hi : i = k
  · subst hi
    simp [hb]
  · simp only [ltk hi]
theorem ifk_yes {k : Nat} {p : Nat → Bool} {X Y : Nat → Int32} {v : Int32} (hb : p k = true) (hv : v = X k) : upd (fun i => if i < k ∧ p i = true then X i else Y i) k v = (fun i => if i < k + 1 ∧ p i = true then X i else Y i) := by
  subst hv
  funext i
  by_cases hi : i = k
  · subst hi
    simp [upd, hb]
  · simp only [upd, if_neg hi, ltk hi]
theorem ifk_at {k : Nat} {p : Nat → Bool} {X Y : Nat → Int32} : (if k < k ∧ p k = true then X k else Y k) = Y k := by simp
