/-- the best of the turns so far, by their numbers -/
def vld (Y c : Nat) : Prop := c / 200 ≤ c % 200 ∧ c % 200 < Y
def BS (w : Nat → Nat) (Y A0 c0 most : Nat) (F : Option Nat) : Prop :=
  (∀ c, c < c0 → vld Y c → w c ≤ most) ∧ A0 ≤ most ∧ (F = none → most = A0) ∧ ∀ c, F = some c → c < c0 ∧ vld Y c ∧ w c = most ∧ A0 < most ∧ ∀ c', c' < c → vld Y c' → w c' < most
theorem BS.skip {w : Nat → Nat} {Y A0 c0 c1 most : Nat} {F : Option Nat} (h : BS w Y A0 c0 most F) (hc : c0 ≤ c1) (hs : ∀ c, c0 ≤ c → c < c1 → vld Y c → w c ≤ most) : BS w Y A0 c1 most F := by
  obtain ⟨h1, h2, h3, h4⟩ := h
  refine ⟨fun c c2 c3 => ?_, h2, h3, fun c hF => ?_⟩
  · rcases Nat.lt_or_ge c c0 with q | q
    · exact h1 c q c3
    · exact hs c q c2 c3
  · obtain ⟨a, b⟩ := h4 c hF
    exact ⟨by omega, b⟩
theorem BS.take {w : Nat → Nat} {Y A0 c0 most : Nat} {F : Option Nat} (h : BS w Y A0 c0 most F) (hv : vld Y c0) (hw : most < w c0) : BS w Y A0 (c0 + 1) (w c0) (some c0) := by
  obtain ⟨h1, h2, h3, h4⟩ := h
  refine ⟨fun c c2 c3 => ?_, by omega, fun z => (by cases z), fun c hF => ?_⟩
  · by_cases e : c = c0
    · subst e; exact Nat.le_refl _
    · have := h1 c (by omega) c3
      omega
  · cases hF
    refine ⟨by omega, hv, rfl, by omega, fun c' c2 c3 => ?_⟩
    have := h1 c' c2 c3
    omega
theorem BS.one {w : Nat → Nat} {Y A0 c0 m m' : Nat} {F F' : Option Nat} (h : BS w Y A0 c0 m F) (h' : BS w Y A0 c0 m' F') : m = m' ∧ F = F' := by
  obtain ⟨a1, a2, a3, a4⟩ := h
  obtain ⟨b1, b2, b3, b4⟩ := h'
  cases F with
  | none =>
    have e := a3 rfl
    cases F' with
    | none => exact ⟨by rw [e, b3 rfl], rfl⟩
    | some c =>
      obtain ⟨c1, c2, c3, c4, c5⟩ := b4 c rfl
      have := a1 c c1 c2
      omega
  | some c =>
    obtain ⟨c1, c2, c3, c4, c5⟩ := a4 c rfl
    cases F' with
    | none =>
      have e := b3 rfl
      have := b1 c c1 c2
      omega
    | some d =>
      obtain ⟨d1, d2, d3, d4, d5⟩ := b4 d rfl
      have x1 := a1 d d1 d2
      have x2 := b1 c c1 c2
      have hm : m = m' := by omega
      refine ⟨hm, ?_⟩
      rcases Nat.lt_trichotomy c d with q | q | q
      · have := d5 c q c2
        omega
      · rw [q]
      · have := c5 d q d2
        omega
theorem wrun_congr {nb : Nat} {K SL PR : Nat → Int32} {must wet day : Int32} {T T' : Nat → Nat} {w : WS} : ∀ {y : Nat}, (∀ z, z < y → T z = T' z) → wrun nb K SL PR must wet day T w y = wrun nb K SL PR must wet day T' w y
  | 0, _ => rfl
  | y + 1, h => by
    show wstep nb K must (T y) _ _ _ (wrun nb K SL PR must wet day T w y) = wstep nb K must (T' y) _ _ _ (wrun nb K SL PR must wet day T' w y)
    rw [wrun_congr (fun z hz => h z (by omega)), h y (by omega)]
/-- who has stumbled has stumbled -/
theorem wstep_sm {nb : Nat} {K : Nat → Int32} {must : Int32} {m : Nat} {base worth Y : Int32} {w : WS} {i : Nat} (h : w.2.2.2.2.1.testBit i = true) : (wstep nb K must m base worth Y w).2.2.2.2.1.testBit i = true := by
  unfold wstep
  split
  · split
    · dsimp only
      rw [Nat.testBit_or, h]
      rfl
    · dsimp only
      rw [Nat.testBit_or, h]
      rfl
  · exact h
theorem wrun_sm {nb : Nat} {K SL PR : Nat → Int32} {must wet day : Int32} {T : Nat → Nat} {w : WS} {i y : Nat} (h : (wrun nb K SL PR must wet day T w y).2.2.2.2.1.testBit i = true) : ∀ d, (wrun nb K SL PR must wet day T w (y + d)).2.2.2.2.1.testBit i = true
  | 0 => h
  | d + 1 => wstep_sm (wrun_sm h d)
/-- a yard that isn't his changes nothing of what he has -/
theorem wstep_not {nb : Nat} {K : Nat → Int32} {must : Int32} {m : Nat} {base worth Y : Int32} {w : WS} {i : Nat} (h : m.testBit i = false) : (wstep nb K must m base worth Y w).2.2.2.2.1.testBit i = w.2.2.2.2.1.testBit i ∧ (wstep nb K must m base worth Y w).2.2.2.1 i = w.2.2.2.1 i := by
  have hb : (wbm nb K w.1 (nd m w.2.2.2.2.1) base).testBit i = false := by
    cases hz : (wbm nb K w.1 (nd m w.2.2.2.2.1) base).testBit i
    · rfl
    · rw [nd_sub (nd_sub hz)] at h; exact absurd h (by decide)
  have hf : (wfm nb K w.1 (nd m w.2.2.2.2.1) base).testBit i = false := by
    cases hz : (wfm nb K w.1 (nd m w.2.2.2.2.1) base).testBit i
    · rfl
    · rw [nd_sub (wfm_sub hz).2.1] at h; exact absurd h (by decide)
  unfold wstep
  split
  · split
    · dsimp only
      rw [Nat.testBit_or, hf, hb]
      simp
    · dsimp only
      rw [Nat.testBit_or, hf]
      simp
  · exact ⟨rfl, rfl⟩
theorem wrun_not {nb : Nat} {K SL PR : Nat → Int32} {must wet day : Int32} {T : Nat → Nat} {w : WS} {i y : Nat} : ∀ d, (∀ z, y ≤ z → z < y + d → (T z).testBit i = false) → acr K (wrun nb K SL PR must wet day T w (y + d)) i = acr K (wrun nb K SL PR must wet day T w y) i
  | 0, _ => rfl
  | d + 1, h => by
    have ih := wrun_not (nb := nb) (K := K) (SL := SL) (PR := PR) (must := must) (wet := wet) (day := day) (T := T) (w := w) (i := i) (y := y) d (fun z h1 h2 => h z h1 (by omega))
    rw [← ih]
    obtain ⟨h1, h2⟩ := wstep_not (nb := nb) (K := K) (must := must) (base := wbase SL wet day (y + d)) (worth := 60 * PR (y + d)) (Y := nI (y + d)) (w := wrun nb K SL PR must wet day T w (y + d)) (h (y + d) (by omega) (by omega))
    show acr K (wstep nb K must (T (y + d)) (wbase SL wet day (y + d)) (60 * PR (y + d)) (nI (y + d)) (wrun nb K SL PR must wet day T w (y + d))) i = _
    unfold acr
    rw [h1, h2]
def acN (K : Nat → Int32) (w : WS) (i : Nat) : Nat := (acr K w i).toNatClampNeg
theorem acN_eq {nb : Nat} {S : Nat → Nat} {y : Nat} {w : WS} {K : Nat → Int32} {i : Nat} (b : Bd nb S y w) (hy : y ≤ 120) (hi : i < nb) : acr K w i = nI (acN K w i) ∧ acN K w i ≤ 540 * y := by
  obtain ⟨g, g1, g2⟩ := b.acres (K := K) hi
  unfold acN
  rw [g1, nI_clamp (by omega)]
  exact ⟨rfl, g2⟩
theorem acN_fell {w : WS} {K : Nat → Int32} {i : Nat} (h : w.2.2.2.2.1.testBit i = true) : acN K w i = 0 := by
  unfold acN acr
  rw [if_pos (Or.inl h)]
  rfl
/-- a yard more: no more than its worth, if it is his -/
theorem wstep_up {nb : Nat} {S : Nat → Nat} {y : Nat} {w : WS} {K : Nat → Int32} {must : Int32} {m p : Nat} {base Y : Int32} {i : Nat} (b : Bd nb S y w) (hy : y < 120) (hm : m < 64) (hn : nb ≤ 6) (hi : i < nb) (hp : p ≤ 9) : acN K (wstep nb K must m base (60 * nI p) Y w) i ≤ acN K w i + (if m.testBit i = true then 60 * p else 0) := by
  by_cases hbit : m.testBit i = true
  · rw [if_pos hbit]
    by_cases hf : (wstep nb K must m base (60 * nI p) Y w).2.2.2.2.1.testBit i = true
    · rw [acN_fell hf]; exact Nat.zero_le _
    · have hf0 : ¬ w.2.2.2.2.1.testBit i = true := fun z => hf (wstep_sm z)
      obtain ⟨_, _, g, g1, g2⟩ := b i hi
      unfold acN acr
      by_cases hk : K i = 2
      · rw [if_pos (Or.inr hk), if_pos (Or.inr hk)]
        exact Nat.zero_le _
      · rw [if_neg (fun z => z.elim hf hk), if_neg (fun z => z.elim hf0 hk), g1, nI_clamp (by omega)]
        have hb64 : wbm nb K w.1 (nd m w.2.2.2.2.1) base < 64 := nd_lt (nd_lt hm)
        have hpart : ∃ q, wpart (wbm nb K w.1 (nd m w.2.2.2.2.1) base) (60 * nI p) = nI q ∧ q ≤ 60 * p := by
          unfold wpart
          have e : (60 : Int32) * nI p = nI (60 * p) := pk_mul 60 p
          have hp6 := pc_le _ hb64
          rw [e]
          by_cases h0 : pc (wbm nb K w.1 (nd m w.2.2.2.2.1) base) = 0
          · rw [if_pos h0]; exact ⟨0, rfl, Nat.zero_le _⟩
          · rw [if_neg h0, pk_div (by omega) (by omega) (by omega)]
            exact ⟨_, rfl, Nat.div_le_self _ _⟩
        obtain ⟨q, q1, q2⟩ := hpart
        have key : (wstep nb K must m base (60 * nI p) Y w).2.2.2.1 i = nI g ∨ (wstep nb K must m base (60 * nI p) Y w).2.2.2.1 i = nI (g + q) := by
          unfold wstep
          split
          · split
            · dsimp only
              split
              · right
                rw [g1, q1, nI_add]
              · exact Or.inl g1
            · exact Or.inl g1
          · exact Or.inl g1
        rcases key with e | e
        · rw [e, nI_clamp (by omega)]; omega
        · rw [e, nI_clamp (by omega)]; omega
  · rw [if_neg hbit]
    rw [Bool.not_eq_true] at hbit
    obtain ⟨h1, h2⟩ := wstep_not (nb := nb) (K := K) (must := must) (base := base) (worth := 60 * nI p) (Y := Y) (w := w) hbit
    unfold acN acr
    rw [h1, h2]
    exact Nat.le_refl _
/-- what is his behind, at most: of the last d yards -/
def mbd (T : Nat → Nat) (pN : Nat → Nat) (i Y : Nat) : Nat → Nat
  | 0 => 0
  | d + 1 => mbd T pN i Y d + (if (T (Y - (d + 1))).testBit i = true then 60 * pN (Y - (d + 1)) else 0)
theorem mbd_le {T pN : Nat → Nat} {i Y : Nat} (hp : ∀ y, y < Y → pN y ≤ 9) : ∀ d, d ≤ Y → mbd T pN i Y d ≤ 540 * d
  | 0, _ => Nat.le_refl _
  | d + 1, h => by
    have ih := mbd_le (T := T) (i := i) hp d (by omega)
    have h2 := hp (Y - (d + 1)) (by omega)
    unfold mbd
    split <;> omega
theorem wrun_up {nb : Nat} {S : Nat → Nat} {K SL PR ST : Nat → Int32} {must wet day : Int32} {T T' pN : Nat → Nat} {i Y : Nat} (hB : ∀ y, y ≤ Y → Bd nb S y (wrun nb K SL PR must wet day T (w0 ST) y)) (hY : Y ≤ 120) (hn : nb ≤ 6) (hi : i < nb) (hT : ∀ y, y < Y → T y < 64) (hP : ∀ y, y < Y → PR y = nI (pN y) ∧ pN y ≤ 9) : ∀ d, d ≤ Y → (∀ z, Y - d ≤ z → z < Y → (T' z).testBit i = (T z).testBit i) → acN K (wrun nb K SL PR must wet day T (w0 ST) Y) i ≤ acN K (wrun nb K SL PR must wet day T (w0 ST) (Y - d)) i + mbd T' pN i Y d
  | 0, _, _ => by
    rw [Nat.sub_zero]
    exact Nat.le_add_right _ _
  | d + 1, h, hTT => by
    have ih := wrun_up hB hY hn hi hT hP d (by omega) (fun z h1 h2 => hTT z (by omega) h2)
    have e : Y - d = (Y - (d + 1)) + 1 := by omega
    obtain ⟨p1, p2⟩ := hP (Y - (d + 1)) (by omega)
    have hs : acN K (wrun nb K SL PR must wet day T (w0 ST) (Y - d)) i ≤ acN K (wrun nb K SL PR must wet day T (w0 ST) (Y - (d + 1))) i + (if (T (Y - (d + 1))).testBit i = true then 60 * pN (Y - (d + 1)) else 0) := by
      rw [e]
      show acN K (wstep nb K must (T (Y - (d + 1))) _ (60 * PR (Y - (d + 1))) _ (wrun nb K SL PR must wet day T (w0 ST) (Y - (d + 1)))) i ≤ _
      rw [p1]
      exact wstep_up (hB _ (by omega)) (by omega) (hT _ (by omega)) hn hi p2
    rw [← hTT (Y - (d + 1)) (by omega) (by omega)] at hs
    unfold mbd
    omega
/-- the duties with a turn more -/
def tX (T : Nat → Nat) (i a b : Nat) : Nat → Nat := fun y => T y ||| (if a ≤ y ∧ y ≤ b then 2 ^ i else 0)
/-- the same, with no end -/
def tY (T : Nat → Nat) (i a : Nat) : Nat → Nat := fun y => T y ||| (if a ≤ y then 2 ^ i else 0)
theorem tX_lt {T : Nat → Nat} {i a b y nb : Nat} (h : T y < 2 ^ nb) (hi : i < nb) : tX T i a b y < 2 ^ nb := by
  unfold tX
  refine Nat.or_lt_two_pow h ?_
  split
  · exact Nat.pow_lt_pow_right (by decide) hi
  · exact Nat.two_pow_pos nb
theorem or_has {m i : Nat} (h : m.testBit i = true) : m ||| 2 ^ i = m := by
  apply Nat.eq_of_testBit_eq
  intro j
  rw [Nat.testBit_or, Nat.testBit_two_pow]
  by_cases e : i = j
  · subst e; simp [h]
  · simp [e]
theorem tX_low {T : Nat → Nat} {i a b y : Nat} (h : y < a) : tX T i a b y = T y := by
  unfold tX
  rw [if_neg (by omega), Nat.or_zero]
theorem tX_tY {T : Nat → Nat} {i a b y : Nat} (h : y ≤ b) : tX T i a b y = tY T i a y := by
  unfold tX tY
  by_cases e : a ≤ y
  · rw [if_pos ⟨e, h⟩, if_pos e]
  · rw [if_neg (fun z => e z.1), if_neg e]
theorem tX_high {T : Nat → Nat} {i a b y : Nat} (h : b < y) : tX T i a b y = T y := by
  unfold tX
  rw [if_neg (by omega), Nat.or_zero]
theorem tX_a {T : Nat → Nat} {i a b : Nat} (ha : 1 ≤ a) (h : (T (a - 1)).testBit i = true) : tX T i a b = tX T i (a - 1) b ∨ b + 1 < a := by
  by_cases hb : b + 1 < a
  · exact Or.inr hb
  · left
    funext y
    unfold tX
    by_cases e : y = a - 1
    · subst e
      rw [if_neg (by omega), if_pos (by omega), Nat.or_zero, or_has h]
    · have : (a ≤ y ∧ y ≤ b) ↔ (a - 1 ≤ y ∧ y ≤ b) := by omega
      simp only [this]
theorem tX_b {T : Nat → Nat} {i a b : Nat} (hb : a + 1 ≤ b) (h : (T b).testBit i = true) : tX T i a b = tX T i a (b - 1) := by
  funext y
  unfold tX
  by_cases e : y = b
  · subst e
    rw [if_pos (by omega), if_neg (by omega), Nat.or_zero, or_has h]
  · have : (a ≤ y ∧ y ≤ b) ↔ (a ≤ y ∧ y ≤ b - 1) := by omega
    simp only [this]
theorem tX_aa {T : Nat → Nat} {i a : Nat} (h : (T a).testBit i = true) : tX T i a a = T := by
  funext y
  unfold tX
  by_cases e : a ≤ y ∧ y ≤ a
  · have : y = a := by omega
    subst this
    rw [if_pos e, or_has h]
  · rw [if_neg e, Nat.or_zero]
