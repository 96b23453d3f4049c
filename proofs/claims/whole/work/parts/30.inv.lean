/-- a hill as the model holds it, with its bounds -/
def HV (U : Nat → Int32) (nb ns : Nat) (ln : Nat → Nat) : Prop :=
  MU U nb ns ln ∧ 1 ≤ nb ∧ 1 ≤ ns ∧ (∃ m, U 2 = nI m ∧ 1 ≤ m ∧ m ≤ 3) ∧ (∃ r, U 3 = nI r ∧ r ≤ 3) ∧
  (∀ i, i < ns → 1 ≤ ln i ∧ ln i ≤ 30 ∧ (∃ s, U (10 + i) = nI s ∧ s ≤ 5) ∧ ∃ p, U (16 + i) = nI p ∧ 1 ≤ p ∧ p ≤ 9) ∧
  ∀ i, i < nb → (∃ s, U (22 + i) = nI s ∧ 10 ≤ s ∧ s ≤ 600) ∧ ∃ k, U (28 + i) = nI k ∧ k ≤ 3
/-- the class's funeral at f is that hill -/
def CF (h : HP) (f : Nat) (U : Nat → Int32) (nb ns : Nat) (ln : Nat → Nat) : Prop :=
  h.1 f 0 = nI ns ∧ h.1 f 1 = nI (lsum ln ns) ∧ h.1 f 2 = nI nb ∧ h.1 f 3 = U 2 ∧ h.1 f 4 = U 3 ∧
  (∀ i, i < ns → h.1 (f + 1) i = U (4 + i) ∧ h.1 (f + 2) i = U (10 + i) ∧ h.1 (f + 3) i = U (16 + i)) ∧
  (∀ i, i < nb → h.1 (f + 4) i = U (22 + i) ∧ h.1 (f + 5) i = U (28 + i)) ∧
  ∀ y, y < lsum ln ns → h.1 (f + 6) y = nI (so ln y ns)
theorem CF.of {h h' : HP} {f : Nat} {U : Nat → Int32} {nb ns : Nat} {ln : Nat → Nat} (c : CF h f U nb ns ln) (hk : ∀ x, f ≤ x → x < f + 7 → h'.1 x = h.1 x) : CF h' f U nb ns ln := by
  unfold CF at c ⊢
  rw [hk f (by omega) (by omega), hk (f + 1) (by omega) (by omega), hk (f + 2) (by omega) (by omega), hk (f + 3) (by omega) (by omega), hk (f + 4) (by omega) (by omega), hk (f + 5) (by omega) (by omega), hk (f + 6) (by omega) (by omega)]
  exact c
theorem CF.FU {h : HP} {f : Nat} {U : Nat → Int32} {nb ns : Nat} {ln : Nat → Nat} (c : CF h f U nb ns ln) (v : MU U nb ns ln) : FU h f nb (lsum ln ns) (uK U) (uS U ln ns) (uP U ln ns) (U 3) := by
  obtain ⟨c1, c2, c3, c4, c5, c6, c7, c8⟩ := c
  obtain ⟨m1, m2, m3, m4, m5, m6⟩ := v
  refine ⟨c2, c3, c5, fun i hi => (c7 i hi).2, m3, m6, fun y hy => ?_⟩
  obtain ⟨s1, s2, s3⟩ := so_spec hy
  exact ⟨so ln y ns, by omega, c8 y hy, (c6 _ s1).2.1, (c6 _ s1).2.2⟩
abbrev WR (U : Nat → Int32) (nb ns : Nat) (ln : Nat → Nat) (d : Int32) (T : Nat → Nat) (ST : Nat → Int32) : Nat → WS := wrun nb (uK U) (uS U ln ns) (uP U ln ns) (U 2) (U 3) d T (w0 ST)
abbrev WB (U : Nat → Int32) (nb ns : Nat) (ln : Nat → Nat) (d : Int32) (T : Nat → Nat) (ST : Nat → Int32) : Nat → Nat := wbore nb (uK U) (uS U ln ns) (uP U ln ns) (U 2) (U 3) d T (w0 ST)
def uT (U : Nat → Int32) : Nat → Int32 := fun i => U (22 + i)
abbrev TA (n : Nat) (wh fr to : Nat → Nat) : Nat → Nat := fun y => tmask wh fr to (fun _ => true) y n
/-- the funeral, its turns, who is to bear, the walk as it is -/
def Core (h : HP) (nb ns : Nat) (ln : Nat → Nat) (n : Nat) (wh fr to : Nat → Nat) : Prop :=
  HV (h.1 134) nb ns ln ∧ CF h 15 (h.1 134) nb ns ln ∧ TN h 29 n wh fr to ∧ TM (h.1 136) n wh fr to ∧ (∀ k, k < n → wh k < nb) ∧
  (∀ y, y < lsum ln ns → h.1 79 y = nI (TA n wh fr to y)) ∧
  WK h 81 15 nb (uK (h.1 134)) (h.1 134 2) (-1) (WR (h.1 134) nb ns ln (-1) (TA n wh fr to) (uT (h.1 134)) (lsum ln ns)) ∧
  ∀ y, y < lsum ln ns → h.1 86 y = nI (WB (h.1 134) nb ns ln (-1) (TA n wh fr to) (uT (h.1 134)) y)
def Txt (h : HP) : Prop := ∃ l, l ≤ 200 ∧ h.1 0 1 = nI l ∧ h.1 133 9 = nI l ∧ ∀ i, i < l → h.1 1 i = h.1 140 i ∧ ∃ c, h.1 140 i = nI c ∧ 32 ≤ c ∧ c ≤ 126
/-- turns of the class at t, of the model in B, are the same -/
def TB (h : HP) (t : Nat) (B : Nat → Int32) (nb : Nat) : Prop := ∃ n wh fr to, TN h t n wh fr to ∧ TM B n wh fr to ∧ ∀ k, k < n → wh k < nb
theorem TB.of {h h' : HP} {t : Nat} {B : Nat → Int32} {nb : Nat} (c : TB h t B nb) (hk : ∀ x, t ≤ x → x < t + 4 → h'.1 x = h.1 x) : TB h' t B nb := by
  obtain ⟨n, wh, fr, to, c1, c2, c3⟩ := c
  exact ⟨n, wh, fr, to, c1.of hk, c2, c3⟩
def Und (h : HP) (nb : Nat) : Prop := ∃ u, u ≤ 8 ∧ h.1 33 1 = nI u ∧ h.1 133 5 = nI u ∧ (∀ k, k < 8 → ∃ s, s < 8 ∧ h.2 34 k = 36 + 4 * s) ∧ (∀ j k, j < k → k < 8 → h.2 34 j ≠ h.2 34 k) ∧ ∀ k, k < u → TB h (h.2 34 k - 1) (fun i => h.1 138 (31 * k + i)) nb
def Kep (h : HP) (nb : Nat) : Prop := ∃ u, u ≤ 2 ∧ h.1 67 1 = nI u ∧ h.1 133 7 = nI u ∧ (∀ k, k < 2 → h.2 68 k = 70 + 4 * k) ∧ ∀ k, k < u → TB h (69 + 4 * k) (fun i => h.1 139 (31 * k + i)) nb
def Pri (h : HP) (yards : Nat) : Prop := ∃ u, u ≤ 8 ∧ h.1 0 10 = nI u ∧ h.1 133 11 = nI u ∧ ∀ p, p < u → h.1 77 p = h.1 141 (2 * p) ∧ h.1 78 p = h.1 141 (2 * p + 1) ∧ (∃ y, y < yards ∧ h.1 141 (2 * p) = nI y) ∧ ∃ m, m ≤ 6 ∧ h.1 141 (2 * p + 1) = nI m
def Inv (h : HP) : Prop := ∃ nb ns ln n wh fr to, Core h nb ns ln n wh fr to ∧ Txt h ∧ Und h nb ∧ Kep h nb ∧ Pri h (lsum ln ns)
theorem Core.of {h h' : HP} {nb ns : Nat} {ln : Nat → Nat} {n : Nat} {wh fr to : Nat → Nat} (c : Core h nb ns ln n wh fr to) (hk : ∀ x, ((15 ≤ x ∧ x ≤ 21) ∨ (29 ≤ x ∧ x ≤ 32) ∨ x = 79 ∨ (81 ≤ x ∧ x ≤ 86) ∨ x = 134 ∨ x = 136) → h'.1 x = h.1 x) (h2 : h'.2 81 = h.2 81) : Core h' nb ns ln n wh fr to := by
  obtain ⟨c1, c2, c3, c4, c5, c6, c7, c8⟩ := c
  unfold Core
  rw [hk 134 (by omega), hk 136 (by omega), hk 79 (by omega), hk 86 (by omega)]
  exact ⟨c1, c2.of (fun x _ _ => hk x (by omega)), c3.of (fun x _ _ => hk x (by omega)), c4, c5, c6, c7.of (fun x _ _ => hk x (by omega)) (by rw [h2]), c8⟩
theorem Txt.of {h h' : HP} (c : Txt h) (k0 : h'.1 0 1 = h.1 0 1) (k1 : h'.1 1 = h.1 1) (k2 : h'.1 133 9 = h.1 133 9) (k3 : h'.1 140 = h.1 140) : Txt h' := by
  unfold Txt
  rw [k0, k1, k2, k3]
  exact c
theorem Und.of {h h' : HP} {nb : Nat} (c : Und h nb) (hk : ∀ x, (35 ≤ x ∧ x ≤ 66) → h'.1 x = h.1 x) (k1 : h'.1 33 1 = h.1 33 1) (k2 : h'.1 133 5 = h.1 133 5) (k3 : h'.1 138 = h.1 138) (k4 : h'.2 34 = h.2 34) : Und h' nb := by
  obtain ⟨u, u1, u2, u3, u4, u5, u6⟩ := c
  unfold Und
  rw [k1, k2, k3, k4]
  refine ⟨u, u1, u2, u3, u4, u5, fun k hk' => ?_⟩
  obtain ⟨s, s1, s2⟩ := u4 k (by omega)
  exact (u6 k hk').of (fun x hx1 hx2 => hk x (by omega))
theorem Kep.of {h h' : HP} {nb : Nat} (c : Kep h nb) (hk : ∀ x, (69 ≤ x ∧ x ≤ 76) → h'.1 x = h.1 x) (k1 : h'.1 67 1 = h.1 67 1) (k2 : h'.1 133 7 = h.1 133 7) (k3 : h'.1 139 = h.1 139) (k4 : h'.2 68 = h.2 68) : Kep h' nb := by
  obtain ⟨u, u1, u2, u3, u4, u5⟩ := c
  unfold Kep
  rw [k1, k2, k3, k4]
  exact ⟨u, u1, u2, u3, u4, fun k hk' => (u5 k hk').of (fun x hx1 hx2 => hk x (by omega))⟩
theorem Pri.of {h h' : HP} {yards : Nat} (c : Pri h yards) (k0 : h'.1 0 10 = h.1 0 10) (k1 : h'.1 77 = h.1 77) (k2 : h'.1 78 = h.1 78) (k3 : h'.1 133 11 = h.1 133 11) (k4 : h'.1 141 = h.1 141) : Pri h' yards := by
  unfold Pri
  rw [k0, k1, k2, k3, k4]
  exact c
/-- rows that only telling calls change -/
def Pz (x : Nat) : Prop := x ≤ 1 ∨ (15 ≤ x ∧ x ≤ 21) ∨ (29 ≤ x ∧ x ≤ 79) ∨ (81 ≤ x ∧ x ≤ 87) ∨ x = 134 ∨ x = 136 ∨ (138 ≤ x ∧ x ≤ 141)
def Kp (h h' : HP) : Prop := (∀ x, Pz x → h'.1 x = h.1 x) ∧ (∀ j, j = 5 ∨ j = 7 ∨ j = 9 ∨ j = 11 → h'.1 133 j = h.1 133 j) ∧ ∀ x, x = 34 ∨ x = 68 ∨ x = 81 → h'.2 x = h.2 x
theorem Kp.rf {h : HP} : Kp h h := ⟨fun _ _ => rfl, fun _ _ => rfl, fun _ _ => rfl⟩
theorem Kp.trans {h1 h2 h3 : HP} (p : Kp h1 h2) (q : Kp h2 h3) : Kp h1 h3 := ⟨fun x hx => (q.1 x hx).trans (p.1 x hx), fun j hj => (q.2.1 j hj).trans (p.2.1 j hj), fun x hx => (q.2.2 x hx).trans (p.2.2 x hx)⟩
theorem pz {x : Nat} (h : x ≤ 1 ∨ (15 ≤ x ∧ x ≤ 21) ∨ (29 ≤ x ∧ x ≤ 79) ∨ (81 ≤ x ∧ x ≤ 87) ∨ x = 134 ∨ x = 136 ∨ (138 ≤ x ∧ x ≤ 141)) : Pz x := h
theorem Kp.core {h h' : HP} {nb ns : Nat} {ln : Nat → Nat} {n : Nat} {wh fr to : Nat → Nat} (p : Kp h h') (c : Core h nb ns ln n wh fr to) : Core h' nb ns ln n wh fr to := c.of (fun x hx => p.1 x (pz (by omega))) (p.2.2 81 (by omega))
theorem Kp.inv {h h' : HP} (p : Kp h h') (hI : Inv h) : Inv h' := by
  obtain ⟨nb, ns, ln, n, wh, fr, to, c, t, u, k, q⟩ := hI
  refine ⟨nb, ns, ln, n, wh, fr, to, p.core c, t.of ?_ ?_ ?_ ?_, u.of (fun x hx => p.1 x (pz (by omega))) ?_ ?_ ?_ ?_, k.of (fun x hx => p.1 x (pz (by omega))) ?_ ?_ ?_ ?_, q.of ?_ ?_ ?_ ?_ ?_⟩
  · rw [p.1 0 (pz (by omega))]
  · exact p.1 1 (pz (by omega))
  · exact p.2.1 9 (by omega)
  · exact p.1 140 (pz (by omega))
  · rw [p.1 33 (pz (by omega))]
  · exact p.2.1 5 (by omega)
  · exact p.1 138 (pz (by omega))
  · exact p.2.2 34 (by omega)
  · rw [p.1 67 (pz (by omega))]
  · exact p.2.1 7 (by omega)
  · exact p.1 139 (pz (by omega))
  · exact p.2.2 68 (by omega)
  · rw [p.1 0 (pz (by omega))]
  · exact p.1 77 (pz (by omega))
  · exact p.1 78 (pz (by omega))
  · exact p.2.1 11 (by omega)
  · exact p.1 141 (pz (by omega))
theorem FrM.kp {h h' : HP} (p : FrM h h') : Kp h h' := ⟨fun x hx => p.1 x (by unfold Pz at hx; omega), fun j hj => p.2.1 j (by omega), fun x hx => by rw [p.2.2]⟩
theorem FrB.kp {a : Nat} {h h' : HP} (p : FrB a h h') (ha : a = 88 ∨ a = 97 ∨ a = 104 ∨ a = 111 ∨ a = 126) : Kp h h' := ⟨fun x hx => p.1 x (by unfold Pz at hx; omega), fun j hj => by rw [p.1 133 (by omega)], fun x hx => p.2 x (by omega)⟩
theorem sa_kp {h : HP} {q : Nat} {f : Nat → Int32} (hq : ¬ Pz q) (hq2 : q ≠ 133) : Kp h (sa h q f) := ⟨fun x hx => sa_n (fun e => hq (e ▸ hx)), fun j hj => by rw [sa_n (fun e => hq2 e.symm)], fun _ _ => rfl⟩
theorem within_eq (x l m : Int32) : F_X8_within x l m = some (if l ≤ x ∧ x ≤ m then 1 else 0) := by
  unfold F_X8_within
  by_cases h1 : l ≤ x
  · rw [if_neg (Int32.not_lt.mpr h1)]
    by_cases h2 : x ≤ m
    · rw [if_neg (Int32.not_lt.mpr h2), if_pos ⟨h1, h2⟩]
    · rw [if_pos (Int32.not_le.mp h2), if_neg (fun z => h2 z.2)]
  · rw [if_pos (Int32.not_le.mp h1), if_neg (fun z => h1 z.1)]
theorem has_eq (x m : Int32) : (if x < 0 then some (0 : Int32) else if m ≤ x then some 0 else some 1) = some (if 0 ≤ x ∧ x < m then 1 else 0) := by
  by_cases h1 : 0 ≤ x
  · rw [if_neg (Int32.not_lt.mpr h1)]
    by_cases h2 : x < m
    · rw [if_neg (Int32.not_le.mpr h2), if_pos ⟨h1, h2⟩]
    · rw [if_pos (Int32.not_lt.mp h2), if_neg (fun z => h2 z.2)]
  · rw [if_pos (Int32.not_le.mp h1), if_neg (fun z => h1 z.1)]
/-- an int between bounds is a number -/
theorem nI_ex {x : Int32} {m : Nat} (h0 : 0 ≤ x) (h1 : x < nI m) (hm : m < 2 ^ 31) : ∃ i, x = nI i ∧ i < m := by
  refine ⟨x.toInt.toNat, ?_, ?_⟩
  · rw [fa_le] at h0
    rw [fa_eq]
    have e0 : (0 : Int32).toInt = 0 := rfl
    rw [e0] at h0
    have := fb_rng x
    rw [nI_toInt (by omega)]
    omega
  · rw [fa_le] at h0
    rw [fa_lt, nI_toInt hm] at h1
    have e0 : (0 : Int32).toInt = 0 := rfl
    omega
theorem isB_iff {x : Int32} {m : Nat} (hm : 1 ≤ m) (hm2 : m < 2 ^ 31) : (0 ≤ x ∧ x ≤ nI m - 1) ↔ (0 ≤ x ∧ x < nI m) := by
  have e : nI m - 1 = nI (m - 1) := by
    have := pk_sub (a := m) (b := 1) (by omega)
    exact this
  rw [e]
  constructor
  · rintro ⟨h1, h2⟩
    exact ⟨h1, Int32.lt_of_le_of_lt h2 (nI_lt (by omega) hm2)⟩
  · rintro ⟨h1, h2⟩
    obtain ⟨i, rfl, hi⟩ := nI_ex h1 h2 hm2
    exact ⟨h1, nI_le (by omega) (by omega)⟩
