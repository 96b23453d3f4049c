/-- how far one comes alone -/
def ga (c : Nat → Nat) (l y : Nat) : Nat → Nat
  | 0 => y
  | d + 1 => if c y ≤ l then ga c (l - c y) (y + 1) d else y
theorem ga_le {c : Nat → Nat} : ∀ {d l y : Nat}, ga c l y d ≤ y + d
  | 0, l, y => Nat.le_refl _
  | d + 1, l, y => by
    unfold ga
    split
    · have := ga_le (c := c) (d := d) (l := l - c y) (y := y + 1)
      omega
    · omega
theorem ga_ge {c : Nat → Nat} : ∀ {d l y : Nat}, y ≤ ga c l y d
  | 0, l, y => Nat.le_refl _
  | d + 1, l, y => by
    unfold ga
    split
    · have := ga_ge (c := c) (d := d) (l := l - c y) (y := y + 1)
      omega
    · omega
def cI (U : Nat → Int32) (ln : Nat → Nat) (ns i y : Nat) : Int32 := tollV (1 + uS U ln ns y + U 3) (uK U i) 1 1
def cN (U : Nat → Int32) (ln : Nat → Nat) (ns i y : Nat) : Nat := (cI U ln ns i y).toNatClampNeg
theorem tollV_11 : ∀ b, b < 10 → ∀ k, k < 4 → 1 ≤ b → ∃ c, c < 20 ∧ tollV (nI b) (nI k) 1 1 = nI c := by decide +kernel
theorem cI_eq {U : Nat → Int32} {nb ns : Nat} {ln : Nat → Nat} (v : HV U nb ns ln) {i y : Nat} (hi : i < nb) (hy : y < lsum ln ns) : cI U ln ns i y = nI (cN U ln ns i y) ∧ cN U ln ns i y < 20 ∧ 1 + uS U ln ns y + U 3 = nI (1 + (U (10 + so ln y ns)).toNatClampNeg + (U 3).toNatClampNeg) := by
  obtain ⟨s1, s2, s3⟩ := so_spec hy
  obtain ⟨_, _, ⟨s, e1, e2⟩, _⟩ := v.2.2.2.2.2.1 _ s1
  obtain ⟨r, r1, r2⟩ := v.2.2.2.2.1
  obtain ⟨_, k, k1, k2⟩ := v.2.2.2.2.2.2 i hi
  have eb : 1 + uS U ln ns y + U 3 = nI (1 + s + r) := by
    unfold uS
    rw [e1, r1, lit_add 1, nI_add]
  have ek : uK U i = nI k := k1
  obtain ⟨c, c1, c2⟩ := tollV_11 (1 + s + r) (by omega) k (by omega) (by omega)
  have ec : cI U ln ns i y = nI c := by unfold cI; rw [eb, ek, c2]
  have en : cN U ln ns i y = c := by unfold cN; rw [ec, nI_clamp (by omega)]
  refine ⟨by rw [ec, en], by omega, ?_⟩
  rw [eb, e1, r1, nI_clamp (by omega), nI_clamp (by omega)]
theorem pc_2 : ∀ i, i < 6 → pc (2 ^ i) = 1 := by decide +kernel
theorem pc_2and : ∀ i, i < 6 → ∀ t, t < 64 → pc (2 ^ i &&& t) ≤ 1 := by decide +kernel
/-- the model's cost of one alone is the class's -/
theorem cV_one {nb i : Nat} {K : Nat → Int32} {b : Int32} (hn : nb ≤ 6) (hi : i < 6) : cV nb K (2 ^ i) b i = tollV b (K i) 1 1 := by
  have ht : twm nb K < 64 := mk_lt hn
  have h1 := pc_2and i hi _ ht
  unfold cV tollV
  rw [pc_2 i hi, if_pos (show nI (pc (2 ^ i &&& twm nb K)) ≤ 1 from nI_le (b := 1) h1 (by decide))]
  rfl
/-- strength, with what is more -/
def sN (U : Nat → Int32) (st : Int32) (mo : Nat) (i : Nat) : Nat := (U (22 + i)).toNatClampNeg + (if nI i = st then mo else 0)
def goA (U : Nat → Int32) (ln : Nat → Nat) (ns : Nat) (st : Int32) (mo i y : Nat) : Nat := ga (cN U ln ns i) (sN U st mo i) y (lsum ln ns - y)
theorem sN_eq {U : Nat → Int32} {nb ns : Nat} {ln : Nat → Nat} (v : HV U nb ns ln) {st : Int32} {mo i : Nat} (hi : i < nb) (hm : mo ≤ 99) : U (22 + i) + (if nI i = st then nI mo else 0) = nI (sN U st mo i) ∧ sN U st mo i ≤ 699 := by
  obtain ⟨⟨s, s1, s2, s3⟩, _⟩ := v.2.2.2.2.2.2 i hi
  unfold sN
  rw [s1, nI_clamp (by omega)]
  split
  · rw [nI_add]
    exact ⟨rfl, by omega⟩
  · refine ⟨?_, by omega⟩
    have : nI s + 0 = nI (s + 0) := nI_add s 0
    exact this
theorem goA_le {U : Nat → Int32} {ln : Nat → Nat} {ns : Nat} {st : Int32} {mo i y : Nat} (hy : y ≤ lsum ln ns) : goA U ln ns st mo i y ≤ lsum ln ns := by
  have := ga_le (c := cN U ln ns i) (d := lsum ln ns - y) (l := sN U st mo i) (y := y)
  unfold goA
  omega
theorem goAloneC {h : HP} {nb ns i y mo : Nat} {ln : Nat → Nat} {U : Nat → Int32} {st : Int32} (v : HV U nb ns ln) (hC : CF h 15 U nb ns ln) (h4 : h.1 118 4 = st) (h5 : h.1 118 5 = nI mo) (hm : mo ≤ 99) (hi : i < nb) (hy : y ≤ lsum ln ns) : F_X2_goAlone 118 (nI i) (nI y) h = some (nI (goA U ln ns st mo i y)) := by
  have hn := v.1.2.2.1
  have h120 : lsum ln ns ≤ 120 := v.1.2.2.2.2.2
  have hF := hC.FU v.1
  obtain ⟨body, hbody⟩ : ∃ body, body = (fun (rc30 : Int32 × Int32 → Option Int32) (x : Int32 × Int32) => (if (h.1 15 1) ≤ x.2 then F_X2_goAlone_J91 118 h else cl (F_X1_slopeAt 15 x.2 h) (fun p50 => gd (nI i) 6 ( cl (F_X8_toll ((1 + p50) + (h.1 15 4)) (ld h 20 (nI i)) 1 1) (fun p73 => nm (x.1 - p73) (fun v77 => (if 0 ≤ v77 then rc30 (v77, (x.2 + 1)) else some x.2))))))) := ⟨_, rfl⟩
  have hstep : ∀ (rc30 : Int32 × Int32 → Option Int32) (x : Int32 × Int32), body rc30 x = (if (h.1 15 1) ≤ x.2 then F_X2_goAlone_J91 118 h else cl (F_X1_slopeAt 15 x.2 h) (fun p50 => gd (nI i) 6 ( cl (F_X8_toll ((1 + p50) + (h.1 15 4)) (ld h 20 (nI i)) 1 1) (fun p73 => nm (x.1 - p73) (fun v77 => (if 0 ≤ v77 then rc30 (v77, (x.2 + 1)) else some x.2)))))) := fun rc x => by rw [hbody]
  have key : ∀ d l y, y + d = lsum ln ns → l ≤ 699 → ∀ N, d < N → lp body N (nI l, nI y) = some (nI (ga (cN U ln ns i) l y d)) := by
    intro d
    induction d with
    | zero =>
      intro l y e hl N hN
      obtain ⟨N, rfl⟩ : ∃ M, N = M + 1 := ⟨N - 1, by omega⟩
      show body (lp body N) (nI l, nI y) = _
      rw [hstep]
      dsimp only
      rw [hC.2.1, if_pos (nI_le (by omega) (by omega))]
      unfold F_X2_goAlone_J91 ga
      rw [hC.2.1, show lsum ln ns = y by omega]
    | succ d ih =>
      intro l y e hl N hN
      obtain ⟨N, rfl⟩ : ∃ M, N = M + 1 := ⟨N - 1, by omega⟩
      obtain ⟨c1, c2, c3⟩ := cI_eq v hi (show y < lsum ln ns by omega)
      show body (lp body N) (nI l, nI y) = _
      rw [hstep]
      dsimp only
      rw [hC.2.1, if_neg (nI_ge (by omega) (by omega)), (slope_eq hF (by omega)).1, cl_some, gd_ok (by omega) (by decide), toll_eq, cl_some, nm_eq, ld_nI (by omega), hC.2.2.2.2.1, (hC.2.2.2.2.2.2.1 i hi).2]
      have ec : tollV (1 + uS U ln ns y + U 3) (U (28 + i)) 1 1 = nI (cN U ln ns i y) := c1
      rw [ec]
      unfold ga
      by_cases hc : cN U ln ns i y ≤ l
      · rw [if_pos hc, pk_sub hc, if_pos (nI_pos' (by omega)), nI_1]
        exact ih (l - cN U ln ns i y) (y + 1) (by omega) (by omega) N (by omega)
      · rw [if_neg hc, if_neg]
        exact Int32.not_le.mpr (pk_sneg (by omega) (by omega))
  obtain ⟨s1, s2⟩ := sN_eq v (st := st) (mo := mo) hi hm
  unfold F_X2_goAlone F_X2_goAlone_J25 F_X2_goAlone_L30
  rw [gd_ok (by omega) (by decide), h4, h5]
  have l19 : ld h 19 (nI i) = U (22 + i) := by rw [ld_nI (by omega)]; exact (hC.2.2.2.2.2.2.1 i hi).1
  rw [l19]
  have k := key (lsum ln ns - y) (sN U st mo i) y (by omega) s2 sg_fuel (fu (by omega))
  rw [hbody] at k
  unfold goA
  by_cases e : nI i = st
  · rw [if_pos e] at s1 ⊢
    rw [nm_eq, s1]
    exact k
  · rw [if_neg e] at s1 ⊢
    rw [nm_eq, s1]
    exact k
/-- digits, who is met, how far -/
def dg (d c k : Nat) : Nat := c / 6 ^ (d - 1 - k) % 6
def Mk : Nat → Nat → Nat
  | 0, _ => 0
  | d + 1, c => Mk d (c / 6) ||| 2 ^ (c % 6)
def Vf (go : Nat → Nat → Nat) : Nat → Nat → Nat
  | 0, _ => 0
  | d + 1, c => go (c % 6) (Vf go d (c / 6))
theorem Mk_lt : ∀ d c, Mk d c < 64
  | 0, _ => by unfold Mk; decide
  | d + 1, c => by
    unfold Mk
    exact or64 (Mk_lt d (c / 6)) (two64 (by omega))
theorem pc_or : ∀ m, m < 64 → ∀ i, i < 6 → pc (m ||| 2 ^ i) = pc m + (if m.testBit i then 0 else 1) := by decide +kernel
theorem Mk_pc : ∀ d c, pc (Mk d c) ≤ d
  | 0, _ => by unfold Mk; decide
  | d + 1, c => by
    unfold Mk
    rw [pc_or _ (Mk_lt _ _) _ (by omega)]
    have := Mk_pc d (c / 6)
    split <;> omega
theorem Mk_rep {d p : Nat} (h : pc (Mk d p) < d) : ∀ e c, c / 6 ^ e = p → pc (Mk (d + e) c) < d + e
  | 0, c, hc => by
    rw [Nat.pow_zero, Nat.div_one] at hc
    rw [hc]
    exact h
  | e + 1, c, hc => by
    have ih := Mk_rep h e (c / 6) (by rw [Nat.div_div_eq_div_mul, Nat.mul_comm, ← Nat.pow_succ]; exact hc)
    show pc (Mk (d + e) (c / 6) ||| 2 ^ (c % 6)) < d + e + 1
    rw [pc_or _ (Mk_lt _ _) _ (by omega)]
    split <;> omega
theorem Mk_big {d p i : Nat} (h : (Mk d p).testBit i = true) : ∀ e c, c / 6 ^ e = p → (Mk (d + e) c).testBit i = true
  | 0, c, hc => by
    rw [Nat.pow_zero, Nat.div_one] at hc
    rw [hc]
    exact h
  | e + 1, c, hc => by
    have ih := Mk_big h e (c / 6) (by rw [Nat.div_div_eq_div_mul, Nat.mul_comm, ← Nat.pow_succ]; exact hc)
    show (Mk (d + e) (c / 6) ||| 2 ^ (c % 6)).testBit i = true
    rw [Nat.testBit_or, ih]
    rfl
theorem pc_full : ∀ n, n < 7 → pc (2 ^ n - 1) = n := by decide +kernel
theorem full_bit : ∀ n, n < 7 → ∀ i, i < 6 → (2 ^ n - 1).testBit i = decide (i < n) := by decide +kernel
def okc (n c : Nat) : Bool := decide (Mk n c = 2 ^ n - 1)
/-- a code with a digit twice, or too large, is none -/
theorem ok_no {n d p : Nat} (hn : n ≤ 6) (hd : d < n) (i : Nat) (hi : i < 6) (h : n ≤ i ∨ (Mk d p).testBit i = true) : ∀ c, c / 6 ^ (n - d - 1) = 6 * p + i → okc n c = false := by
  intro c hc
  have e1 : (6 * p + i) / 6 = p := by omega
  have e2 : (6 * p + i) % 6 = i := by omega
  have hen : d + 1 + (n - d - 1) = n := by omega
  unfold okc
  rw [decide_eq_false_iff_not]
  intro hok
  rcases h with h | h
  · have hb : (Mk (d + 1) (6 * p + i)).testBit i = true := by
      show (Mk d ((6 * p + i) / 6) ||| 2 ^ ((6 * p + i) % 6)).testBit i = true
      rw [e1, e2, Nat.testBit_or, Nat.testBit_two_pow]
      simp
    have := Mk_big hb (n - d - 1) c hc
    rw [hen, hok, full_bit n (by omega) i hi] at this
    simp at this
    omega
  · have hb : pc (Mk (d + 1) (6 * p + i)) < d + 1 := by
      show pc (Mk d ((6 * p + i) / 6) ||| 2 ^ ((6 * p + i) % 6)) < d + 1
      rw [e1, e2, pc_or _ (Mk_lt _ _) _ hi, h]
      have := Mk_pc d p
      simp
      omega
    have := Mk_rep hb (n - d - 1) c hc
    rw [hen, hok, pc_full n (by omega)] at this
    omega
/-- the first of the codes below c that is best -/
def fo (n : Nat) (V : Nat → Nat) : Nat → Option (Nat × Nat)
  | 0 => none
  | c + 1 => match fo n V c with
    | none => if okc n c = true then some (V c, c) else none
    | some q => if okc n c = true ∧ q.1 < V c then some (V c, c) else some q
theorem fo_gap {n : Nat} {V : Nat → Nat} {c0 : Nat} : ∀ d, (∀ c, c0 ≤ c → c < c0 + d → okc n c = false) → fo n V (c0 + d) = fo n V c0
  | 0, _ => rfl
  | d + 1, h => by
    have ih := fo_gap (V := V) d (fun c h1 h2 => h c h1 (by omega))
    show (match fo n V (c0 + d) with
      | none => if okc n (c0 + d) = true then some (V (c0 + d), c0 + d) else none
      | some q => if okc n (c0 + d) = true ∧ q.1 < V (c0 + d) then some (V (c0 + d), c0 + d) else some q) = fo n V c0
    rw [ih, h (c0 + d) (by omega) (by omega)]
    cases fo n V c0 with
    | none => rfl
    | some q => simp
theorem fo_max {n : Nat} {V : Nat → Nat} {c0 Y b : Nat} (hV : ∀ c, V c ≤ Y) (h : fo n V c0 = some (Y, b)) : ∀ d, fo n V (c0 + d) = some (Y, b)
  | 0 => h
  | d + 1 => by
    have ih := fo_max hV h d
    show (match fo n V (c0 + d) with
      | none => if okc n (c0 + d) = true then some (V (c0 + d), c0 + d) else none
      | some q => if okc n (c0 + d) = true ∧ q.1 < V (c0 + d) then some (V (c0 + d), c0 + d) else some q) = some (Y, b)
    rw [ih]
    have := hV (c0 + d)
    dsimp only
    rw [if_neg (by omega)]
theorem fo_some {n : Nat} {V : Nat → Nat} {c : Nat} (hok : okc n c = true) : ∀ d, ∃ q, fo n V (c + 1 + d) = some q
  | 0 => by
    show ∃ q, (match fo n V c with
      | none => if okc n c = true then some (V c, c) else none
      | some q => if okc n c = true ∧ q.1 < V c then some (V c, c) else some q) = some q
    cases fo n V c with
    | none => exact ⟨_, if_pos hok⟩
    | some q =>
      dsimp only
      split
      · exact ⟨_, rfl⟩
      · exact ⟨_, rfl⟩
  | d + 1 => by
    obtain ⟨q, hq⟩ := fo_some (V := V) hok d
    show ∃ q, (match fo n V (c + 1 + d) with
      | none => if okc n (c + 1 + d) = true then some (V (c + 1 + d), c + 1 + d) else none
      | some q => if okc n (c + 1 + d) = true ∧ q.1 < V (c + 1 + d) then some (V (c + 1 + d), c + 1 + d) else some q) = some q
    rw [hq]
    dsimp only
    split
    · exact ⟨_, rfl⟩
    · exact ⟨_, rfl⟩
theorem fo_ne {n : Nat} {V : Nat → Nat} (hn : n ≤ 6) (hn1 : 1 ≤ n) : ∃ q, fo n V (6 ^ n) = some q := by
  have key : ∀ c, c < 6 ^ n → okc n c = true → ∃ q, fo n V (6 ^ n) = some q := fun c h1 h2 => by
    obtain ⟨q, hq⟩ := fo_some (V := V) h2 (6 ^ n - (c + 1))
    rw [show c + 1 + (6 ^ n - (c + 1)) = 6 ^ n by omega] at hq
    exact ⟨q, hq⟩
  have : n = 1 ∨ n = 2 ∨ n = 3 ∨ n = 4 ∨ n = 5 ∨ n = 6 := by omega
  rcases this with rfl | rfl | rfl | rfl | rfl | rfl
  · exact key 0 (by decide) (by decide)
  · exact key 1 (by decide) (by decide)
  · exact key 8 (by decide) (by decide)
  · exact key 51 (by decide) (by decide)
  · exact key 310 (by decide) (by decide)
  · exact key 1865 (by decide) (by decide)
theorem fo_lt {n : Nat} {V : Nat → Nat} : ∀ {c v b : Nat}, fo n V c = some (v, b) → v = V b ∧ okc n b = true ∧ b < c
  | 0, v, b, h => by cases h
  | c + 1, v, b, h => by
    unfold fo at h
    cases hk : fo n V c with
    | none =>
      rw [hk] at h
      dsimp only at h
      split at h
      · cases h
        rename_i e
        exact ⟨rfl, e, by omega⟩
      · cases h
    | some q =>
      obtain ⟨q1, q2⟩ := q
      have := fo_lt hk
      rw [hk] at h
      dsimp only at h
      split at h
      · cases h
        rename_i e
        exact ⟨rfl, e.1, by omega⟩
      · cases h
        exact ⟨this.1, this.2.1, by omega⟩
