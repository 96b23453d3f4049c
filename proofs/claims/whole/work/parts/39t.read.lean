/-! the text: numbers -/
def isD (c : Nat) : Bool := decide (48 ≤ c ∧ c ≤ 57)
theorem isD_iff {c : Nat} : isD c = true ↔ 48 ≤ c ∧ c ≤ 57 := by simp [isD]
/-- a number and what ends it: its value, the place behind -/
def rd1 (tx : Nat → Nat) (l p e : Nat) : Option (Nat × Nat) :=
  if p < l ∧ isD (tx p) = true then
    if p + 1 < l ∧ isD (tx (p + 1)) = true then
      if p + 2 < l ∧ tx (p + 2) = e then some (10 * (tx p - 48) + (tx (p + 1) - 48), p + 3) else none
    else if p + 1 < l ∧ tx (p + 1) = e then some (tx p - 48, p + 2) else none
  else none
theorem rd1_bd {tx : Nat → Nat} {l p e : Nat} {q : Nat × Nat} (h : rd1 tx l p e = some q) : q.1 ≤ 99 ∧ p < q.2 ∧ q.2 ≤ l := by
  unfold rd1 at h
  split at h
  · next h1 =>
    have d1 := isD_iff.mp h1.2
    split at h
    · next h2 =>
      have d2 := isD_iff.mp h2.2
      split at h
      · next h3 =>
        cases h
        dsimp only
        omega
      · cases h
    · split at h
      · next h3 =>
        cases h
        dsimp only
        omega
      · cases h
  · cases h
def ek (k w : Nat) : Nat := if k + 1 < w then 44 else 59
theorem ek_no {k w : Nat} : isD (ek k w) = false := by
  unfold ek
  split <;> decide
/-- the numbers of an item, d of w still to be read -/
def rdn (tx : Nat → Nat) (l w : Nat) : Nat → Nat → (Nat → Nat) → Option (Nat × (Nat → Nat))
  | 0, p, v => some (p, v)
  | d + 1, p, v => match rd1 tx l p (ek (w - (d + 1)) w) with
    | none => none
    | some q => rdn tx l w d q.2 (upN v (w - (d + 1)) q.1)
theorem rdn_none {tx : Nat → Nat} {l w d p : Nat} {v : Nat → Nat} (h : rd1 tx l p (ek (w - (d + 1)) w) = none) : rdn tx l w (d + 1) p v = none := by
  unfold rdn
  rw [h]
theorem rdn_some {tx : Nat → Nat} {l w d p : Nat} {v : Nat → Nat} {q : Nat × Nat} (h : rd1 tx l p (ek (w - (d + 1)) w) = some q) : rdn tx l w (d + 1) p v = rdn tx l w d q.2 (upN v (w - (d + 1)) q.1) := by
  show (match rd1 tx l p (ek (w - (d + 1)) w) with
    | none => none
    | some q => rdn tx l w d q.2 (upN v (w - (d + 1)) q.1)) = _
  rw [h]
theorem rdn_bd {tx : Nat → Nat} {l w : Nat} : ∀ (d p : Nat) (v : Nat → Nat) {q : Nat × (Nat → Nat)}, p ≤ l → (∀ j, v j ≤ 99) → rdn tx l w d p v = some q → q.1 ≤ l ∧ p ≤ q.1 ∧ ∀ j, q.2 j ≤ 99
  | 0, p, v, q, hp, hv, h => by
    cases h
    exact ⟨hp, Nat.le_refl _, hv⟩
  | d + 1, p, v, q, hp, hv, h => by
    cases e : rd1 tx l p (ek (w - (d + 1)) w) with
    | none => rw [rdn_none e] at h; cases h
    | some r =>
      rw [rdn_some e] at h
      obtain ⟨r1, r2, r3⟩ := rd1_bd e
      obtain ⟨s1, s2, s3⟩ := rdn_bd d r.2 _ r3 (fun j => by
        by_cases ej : j = w - (d + 1)
        · rw [ej, upN_r]; exact r1
        · rw [upN_n ej]; exact hv j) h
      exact ⟨s1, by omega, s3⟩
/-- the letters -/
def TX (tx : Nat → Nat) (l : Nat) : Prop := l ≤ 200 ∧ ∀ i, i < l → 32 ≤ tx i ∧ tx i ≤ 126
theorem dgv {v c : Nat} (h : 48 ≤ c) : (10 : Int32) * nI v + nI c - 48 = nI (10 * v + (c - 48)) := by
  rw [show (10 : Int32) * nI v = nI (10 * v) from pk_mul 10 v, nI_add, show (48 : Int32) = nI 48 from rfl, pk_sub (by omega)]
  congr 1
  omega
theorem nI_sm {a b : Nat} (ha : a ≤ 1000) (hb : b ≤ 1000) : nI a = nI b ↔ a = b := nI_eq (by omega) (by omega)
theorem lp_u {α β : Type} {body : (α → Option β) → α → Option β} {N : Nat} {x : α} : lp body (N + 1) x = body (lp body N) x := rfl
/-- the class: what ends a number -/
theorem endC {y : HP} {tx : Nat → Nat} {l p m k w : Nat} {rc : (Int32 × Int32 × HP) → Option (Int32 × HP)} (ht : TX tx l) (hy : ∀ i, i < l → y.1 1 i = nI (tx i)) (hm : m ≤ l) (hp : p ≤ m) (hk : k < 3) (hw : w ≤ 3) : F_X4_readNumbers_J85 2 1 rc (nI l) (nI w) (nI m) (nI k) (nI p) y = if p < m ∧ m < l ∧ tx m = ek k w then rc (nI (m + 1), nI (k + 1), y) else some (-4, y) := by
  have hl := ht.1
  have key : ∀ e, e ≤ 1000 → F_X4_readNumbers_J101 2 1 rc (nI l) (nI w) (nI m) (nI k) (nI p) (nI e) y = if p < m ∧ m < l ∧ tx m = e then rc (nI (m + 1), nI (k + 1), y) else some (-4, y) := by
    intro e he
    unfold F_X4_readNumbers_J101
    by_cases c1 : m = p
    · rw [if_pos (by rw [c1]), if_neg (by omega)]
    · rw [if_neg (fun z => c1 ((nI_sm (by omega) (by omega)).mp z))]
      by_cases c2 : l ≤ m
      · rw [if_pos (nI_le c2 (by omega)), if_neg (by omega)]
      · rw [if_neg (nI_ge (by omega) (by omega)), show sg_N 1 = 200 from rfl, gd_ok (by omega) (by decide), ld_nI (by omega), hy m (by omega), nI_1, nI_1]
        have := ht.2 m (by omega)
        by_cases c3 : tx m = e
        · rw [if_pos (by rw [c3]), if_pos ⟨by omega, by omega, c3⟩]
        · rw [if_neg (fun z => c3 ((nI_sm (by omega) he).mp z)), if_neg (fun z => c3 z.2.2)]
  unfold F_X4_readNumbers_J85 ek
  rw [nI_1]
  by_cases c : k + 1 < w
  · rw [if_neg (nI_ge c (by omega)), if_pos c]
    exact key 44 (by omega)
  · rw [if_pos (nI_le (by omega) (by omega)), if_neg c]
    exact key 59 (by omega)
/-- the class: one number -/
theorem numC {x : HP} {tx : Nat → Nat} {l p k w : Nat} {rc : (Int32 × Int32 × HP) → Option (Int32 × HP)} (ht : TX tx l) (hx : ∀ i, i < l → x.1 1 i = nI (tx i)) (hp : p ≤ l) (hk : k < 3) (hw : w ≤ 3) (h0 : x.1 14 k = 0) : ∃ R, (∀ j, j ≠ k → R j = x.1 14 j) ∧ (rd1 tx l p (ek k w) = none → F_X4_readNumbers_L25 2 1 rc (nI l) (nI w) (nI k) (nI p) sg_fuel (nI p, x) = some (-4, sa x 14 R)) ∧ ∀ q, rd1 tx l p (ek k w) = some q → R k = nI q.1 ∧ F_X4_readNumbers_L25 2 1 rc (nI l) (nI w) (nI k) (nI p) sg_fuel (nI p, x) = rc (nI q.2, nI (k + 1), sa x 14 R) := by
  have hl := ht.1
  unfold F_X4_readNumbers_L25
  rw [show sg_fuel = 59997 + 1 + 1 + 1 from rfl]
  have stp : ∀ (N m v : Nat) (y : HP), (∀ i, i < l → y.1 1 i = nI (tx i)) → y.1 14 k = nI v → p ≤ m → m < p + 2 → m ≤ l → lp (fun rc25 (x : Int32 × HP) => (if (nI l) ≤ x.1 then F_X4_readNumbers_J85 2 1 rc (nI l) (nI w) x.1 (nI k) (nI p) x.2 else (if ((nI p) + 2) ≤ x.1 then F_X4_readNumbers_J85 2 1 rc (nI l) (nI w) x.1 (nI k) (nI p) x.2 else gd x.1 (sg_N 1) (cl (F_X8_within (ld x.2 1 x.1) 48 57) (fun p48 => (if p48 = 0 then F_X4_readNumbers_J85 2 1 rc (nI l) (nI w) x.1 (nI k) (nI p) x.2 else gd (nI k) 3 (gd x.1 (sg_N 1) (gd (nI k) 3 (nm (st x.2 (2 + 12) (nI k) (((10 * (ld x.2 (2 + 12) (nI k))) + (ld x.2 1 x.1)) - 48)) (fun h78 => rc25 ((x.1 + 1), h78))))))))))) (N + 1) (nI m, y) = if m < l ∧ isD (tx m) = true then lp (fun rc25 (x : Int32 × HP) => (if (nI l) ≤ x.1 then F_X4_readNumbers_J85 2 1 rc (nI l) (nI w) x.1 (nI k) (nI p) x.2 else (if ((nI p) + 2) ≤ x.1 then F_X4_readNumbers_J85 2 1 rc (nI l) (nI w) x.1 (nI k) (nI p) x.2 else gd x.1 (sg_N 1) (cl (F_X8_within (ld x.2 1 x.1) 48 57) (fun p48 => (if p48 = 0 then F_X4_readNumbers_J85 2 1 rc (nI l) (nI w) x.1 (nI k) (nI p) x.2 else gd (nI k) 3 (gd x.1 (sg_N 1) (gd (nI k) 3 (nm (st x.2 (2 + 12) (nI k) (((10 * (ld x.2 (2 + 12) (nI k))) + (ld x.2 1 x.1)) - 48)) (fun h78 => rc25 ((x.1 + 1), h78))))))))))) N (nI (m + 1), sa y 14 (upd (y.1 14) k (nI (10 * v + (tx m - 48))))) else F_X4_readNumbers_J85 2 1 rc (nI l) (nI w) (nI m) (nI k) (nI p) y := by
    intro N m v y hy hv h1 h2 h3
    rw [lp_u]
    dsimp only
    simp only [Nat.reduceAdd]
    by_cases c1 : m < l
    · have t := ht.2 m c1
      rw [if_neg (nI_ge c1 (by omega)), show nI p + 2 = nI (p + 2) from nI_add p 2, if_neg (nI_ge h2 (by omega)), show sg_N 1 = 200 from rfl, gd_ok (by omega) (by decide), ld_nI (by omega), hy m c1, within_eq, cl_some, b01]
      by_cases c2 : isD (tx m) = true
      · have d := isD_iff.mp c2
        rw [if_pos ⟨nI_le (a := 48) d.1 (by omega), nI_le (b := 57) d.2 (by decide)⟩, if_pos ⟨c1, c2⟩, gd_ok hk (by decide), gd_ok (by omega) (by decide), gd_ok hk (by decide), nm_eq, ld_nI (by omega), hv, dgv d.1, st_sa (by omega), nI_1]
      · rw [if_neg (fun z => c2 (isD_iff.mpr ⟨(nI_leI (a := 48) (by omega) (by omega)).mp z.1, (nI_leI (b := 57) (by omega) (by omega)).mp z.2⟩)), if_neg (fun z => c2 z.2)]
    · rw [if_pos (nI_le (by omega) (by omega)), if_neg (fun z => c1 z.1)]
  rw [stp _ p 0 x hx h0 (Nat.le_refl _) (by omega) hp]
  unfold rd1
  by_cases c0 : p < l ∧ isD (tx p) = true
  · rw [if_pos c0, if_pos c0]
    have hx1 : ∀ i, i < l → (sa x 14 (upd (x.1 14) k (nI (10 * 0 + (tx p - 48))))).1 1 i = nI (tx i) := fun i hi => by rw [sa_n (by decide)]; exact hx i hi
    rw [stp _ (p + 1) (10 * 0 + (tx p - 48)) _ hx1 (by rw [sa_r, upd_r]) (by omega) (by omega) (by omega), sa_sa, sa_r]
    by_cases c1 : p + 1 < l ∧ isD (tx (p + 1)) = true
    · rw [if_pos c1, if_pos c1, lp_u]
      dsimp only
      have hx2 : ∀ (R : Nat → Int32) i, i < l → (sa x 14 R).1 1 i = nI (tx i) := fun R i hi => by rw [sa_n (by decide)]; exact hx i hi
      have e3 : ∀ (A B : Option (Int32 × HP)), (if nI l ≤ nI (p + 1 + 1) then A else (if nI p + 2 ≤ nI (p + 1 + 1) then A else B)) = A := by
        intro A B
        by_cases c : nI l ≤ nI (p + 1 + 1)
        · rw [if_pos c]
        · rw [if_neg c, show nI p + 2 = nI (p + 2) from nI_add p 2, if_pos (Int32.le_refl _)]
      rw [e3, endC ht (hx2 _) (by omega) (by omega) hk hw]
      refine ⟨upd (upd (x.1 14) k (nI (10 * 0 + (tx p - 48)))) k (nI (10 * (10 * 0 + (tx p - 48)) + (tx (p + 1) - 48))), fun j hj => by rw [upd_n hj, upd_n hj], fun h => ?_, fun q h => ?_⟩
      · split at h
        · cases h
        · next hn =>
          rw [if_neg (fun z => hn ⟨z.2.1, z.2.2⟩)]
      · split at h
        · next hn =>
          cases h
          rw [if_pos ⟨by omega, hn.1, hn.2⟩, upd_r]
          refine ⟨?_, rfl⟩
          congr 1
          omega
        · cases h
    · rw [if_neg c1, if_neg c1, endC ht hx1 (by omega) (by omega) hk hw]
      refine ⟨upd (x.1 14) k (nI (10 * 0 + (tx p - 48))), fun j hj => by rw [upd_n hj], fun h => ?_, fun q h => ?_⟩
      · split at h
        · cases h
        · next hn =>
          rw [if_neg (fun z => hn ⟨z.2.1, z.2.2⟩)]
      · split at h
        · next hn =>
          cases h
          rw [if_pos ⟨by omega, hn.1, hn.2⟩, upd_r]
          refine ⟨?_, rfl⟩
          congr 1
          omega
        · cases h
  · rw [if_neg c0, if_neg c0, endC ht hx hp (Nat.le_refl _) hk hw, if_neg (by omega)]
    exact ⟨x.1 14, fun _ _ => rfl, fun _ => by rw [sa_self], fun q h => by cases h⟩
/-- the class: the numbers of an item -/
theorem numsC {tx : Nat → Nat} {l w : Nat} (ht : TX tx l) (hw : w ≤ 3) (hw1 : 1 ≤ w) : ∀ (d p : Nat) (v : Nat → Nat) (x : HP) (N : Nat), d ≤ w → d < N → p ≤ l → (∀ i, i < l → x.1 1 i = nI (tx i)) → (∀ j, j < w - d → x.1 14 j = nI (v j)) → ∃ R, (rdn tx l w d p v = none → F_X4_readNumbers_L6 2 1 (nI l) (nI w) N (nI p, nI (w - d), x) = some (-4, sa x 14 R)) ∧ ∀ q, rdn tx l w d p v = some q → F_X4_readNumbers_L6 2 1 (nI l) (nI w) N (nI p, nI (w - d), x) = some (nI q.1, sa x 14 R) ∧ ∀ j, j < w → R j = nI (q.2 j)
  | 0, p, v, x, N, hd, hN, hp, hx, hv => by
    obtain ⟨N, rfl⟩ : ∃ M, N = M + 1 := ⟨N - 1, by omega⟩
    refine ⟨x.1 14, fun h => (by cases h), fun q h => ?_⟩
    cases h
    rw [sa_self]
    refine ⟨?_, fun j hj => hv j (by omega)⟩
    unfold F_X4_readNumbers_L6
    rw [lp_u]
    dsimp only
    rw [Nat.sub_zero, if_pos (Int32.le_refl _)]
    unfold F_X4_readNumbers_J137
    rw [if_neg (nI_nle (by omega) (by omega))]
  | d + 1, p, v, x, N, hd, hN, hp, hx, hv => by
    obtain ⟨N, rfl⟩ : ∃ M, N = M + 1 := ⟨N - 1, by omega⟩
    have hk : w - (d + 1) < 3 := by omega
    generalize hke : w - (d + 1) = k at *
    have e1 : ∀ rc, (if nI w ≤ nI k then F_X4_readNumbers_J137 2 1 (nI w) (nI p) x else gd (nI k) 3 (nm (st x (2 + 12) (nI k) 0) (fun h24 => F_X4_readNumbers_L25 2 1 rc (nI l) (nI w) (nI k) (nI p) sg_fuel (nI p, h24)))) = F_X4_readNumbers_L25 2 1 rc (nI l) (nI w) (nI k) (nI p) sg_fuel (nI p, sa x 14 (upd (x.1 14) k 0)) := by
      intro rc
      rw [if_neg (nI_ge (by omega) (by omega)), gd_ok hk (by decide), nm_eq, st_sa (by omega)]
    obtain ⟨R, r1, r2, r3⟩ := numC (x := sa x 14 (upd (x.1 14) k 0)) (rc := F_X4_readNumbers_L6 2 1 (nI l) (nI w) N) ht (fun i hi => by rw [sa_n (by decide)]; exact hx i hi) hp hk hw (by rw [sa_r, upd_r])
    rw [sa_r] at r1
    rw [sa_sa] at r2 r3
    have e2 : F_X4_readNumbers_L6 2 1 (nI l) (nI w) (N + 1) (nI p, nI k, x) = F_X4_readNumbers_L25 2 1 (F_X4_readNumbers_L6 2 1 (nI l) (nI w) N) (nI l) (nI w) (nI k) (nI p) sg_fuel (nI p, sa x 14 (upd (x.1 14) k 0)) := e1 _
    rw [e2]
    cases e : rd1 tx l p (ek k w) with
    | none =>
      refine ⟨R, fun _ => r2 e, fun q h => ?_⟩
      rw [rdn_none (by rw [hke]; exact e)] at h
      cases h
    | some q =>
      obtain ⟨r4, r5⟩ := r3 q e
      obtain ⟨b1, b2, b3⟩ := rd1_bd e
      rw [rdn_some (by rw [hke]; exact e), r5, hke]
      obtain ⟨R', s1, s2⟩ := numsC ht hw hw1 d q.2 (upN v k q.1) (sa x 14 R) N (by omega) (by omega) b3 (fun i hi => by rw [sa_n (by decide)]; exact hx i hi) (fun j hj => by
        rw [sa_r]
        by_cases ej : j = k
        · rw [ej, upN_r]; exact r4
        · rw [upN_n ej, r1 j ej, upd_n ej]
          exact hv j (by omega))
      rw [show w - d = k + 1 by omega, sa_sa] at s1 s2
      exact ⟨R', s1, s2⟩
