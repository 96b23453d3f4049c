/-- a walk's state: strength left, where each stumbled, yards borne, acres gained, who has stumbled (bits), where it stands -/
abbrev WS : Type := (Nat → Int32) × (Nat → Int32) × (Nat → Int32) × (Nat → Int32) × Nat × Int32
def twm (nb : Nat) (K : Nat → Int32) : Nat := mk (fun i => decide (K i = 3)) nb
def cV (nb : Nat) (K : Nat → Int32) (tb : Nat) (base : Int32) (i : Nat) : Int32 := tollV base (K i) (nI (pc tb)) (nI (pc (tb &&& twm nb K)))
def wfm (nb : Nat) (K : Nat → Int32) (L : Nat → Int32) (tb : Nat) (base : Int32) : Nat := mk (fun i => tb.testBit i && decide (¬ cV nb K tb base i ≤ L i)) nb
def wbm (nb : Nat) (K : Nat → Int32) (L : Nat → Int32) (tb : Nat) (base : Int32) : Nat := nd tb (wfm nb K L tb base)
def wpart (bm : Nat) (worth : Int32) : Int32 := if pc bm = 0 then 0 else worth / nI (pc bm)
def wstep (nb : Nat) (K : Nat → Int32) (must : Int32) (m : Nat) (base worth y : Int32) (w : WS) : WS :=
  if w.2.2.2.2.2 = -4 then
    if must ≤ nI (pc (wbm nb K w.1 (nd m w.2.2.2.2.1) base)) then
      (fun i => if (wbm nb K w.1 (nd m w.2.2.2.2.1) base).testBit i = true then w.1 i - cV nb K (nd m w.2.2.2.2.1) base i else w.1 i,
       fun i => if (wfm nb K w.1 (nd m w.2.2.2.2.1) base).testBit i = true then y else w.2.1 i,
       fun i => if (wbm nb K w.1 (nd m w.2.2.2.2.1) base).testBit i = true then w.2.2.1 i + 1 else w.2.2.1 i,
       fun i => if (wbm nb K w.1 (nd m w.2.2.2.2.1) base).testBit i = true then w.2.2.2.1 i + wpart (wbm nb K w.1 (nd m w.2.2.2.2.1) base) worth else w.2.2.2.1 i,
       w.2.2.2.2.1 ||| wfm nb K w.1 (nd m w.2.2.2.2.1) base, -4)
    else
      (w.1, fun i => if (wfm nb K w.1 (nd m w.2.2.2.2.1) base).testBit i = true then y else w.2.1 i, w.2.2.1, w.2.2.2.1, w.2.2.2.2.1 ||| wfm nb K w.1 (nd m w.2.2.2.2.1) base, y)
  else w
/-- who bears the yard -/
def wbear (nb : Nat) (K : Nat → Int32) (must : Int32) (m : Nat) (base : Int32) (w : WS) : Nat :=
  if w.2.2.2.2.2 = -4 then
    if must ≤ nI (pc (wbm nb K w.1 (nd m w.2.2.2.2.1) base)) then wbm nb K w.1 (nd m w.2.2.2.2.1) base else 0
  else 0
def WK (h : HP) (a f nb : Nat) (K : Nat → Int32) (must day : Int32) (w : WS) : Prop :=
  h.2 a 0 = f + 1 ∧ h.1 a 1 = must ∧ h.1 a 2 = day ∧ h.1 a 3 = w.2.2.2.2.2 ∧ h.1 a 4 = nI w.2.2.2.2.1 ∧ h.1 a 5 = nI (twm nb K) ∧ w.2.2.2.2.1 < 64 ∧ ∀ i, i < nb → h.1 (a + 1) i = w.1 i ∧ h.1 (a + 2) i = w.2.1 i ∧ h.1 (a + 3) i = w.2.2.1 i ∧ h.1 (a + 4) i = w.2.2.2.1 i
/-- what a walk asks of a funeral: bearers, kinds, wet, slope and price by yard -/
def FU (h : HP) (f nb yards : Nat) (K SL PR : Nat → Int32) (wet : Int32) : Prop :=
  h.1 f 1 = nI yards ∧ h.1 f 2 = nI nb ∧ h.1 f 4 = wet ∧ (∀ i, i < nb → h.1 (f + 5) i = K i) ∧ nb ≤ 6 ∧ yards ≤ 120 ∧ ∀ y, y < yards → ∃ s, s < 6 ∧ h.1 (f + 6) y = nI s ∧ h.1 (f + 2) s = SL y ∧ h.1 (f + 3) s = PR y
theorem FU.of {h h' : HP} {f nb yards : Nat} {K SL PR : Nat → Int32} {wet : Int32} (hF : FU h f nb yards K SL PR wet) (hk : ∀ x, f ≤ x → x < f + 7 → h'.1 x = h.1 x) : FU h' f nb yards K SL PR wet := by
  obtain ⟨h1, h2, h3, h4, h5, h6, h7⟩ := hF
  refine ⟨by rw [hk f (by omega) (by omega)]; exact h1, by rw [hk f (by omega) (by omega)]; exact h2, by rw [hk f (by omega) (by omega)]; exact h3, fun i hi => by rw [hk (f + 5) (by omega) (by omega)]; exact h4 i hi, h5, h6, fun y hy => ?_⟩
  obtain ⟨s, s1, s2, s3, s4⟩ := h7 y hy
  exact ⟨s, s1, by rw [hk (f + 6) (by omega) (by omega)]; exact s2, by rw [hk (f + 2) (by omega) (by omega)]; exact s3, by rw [hk (f + 3) (by omega) (by omega)]; exact s4⟩
/-- nothing but the walk's own rows (its row of who bore apart) -/
def FrW (a : Nat) (h h' : HP) : Prop := (∀ x, (x < a ∨ a + 7 ≤ x ∨ x = a + 5) → h'.1 x = h.1 x) ∧ h'.2 = h.2
theorem FrW.trans {a : Nat} {h1 h2 h3 : HP} (p : FrW a h1 h2) (q : FrW a h2 h3) : FrW a h1 h3 := ⟨fun x hx => (q.1 x hx).trans (p.1 x hx), q.2.trans p.2⟩
def drV (day y : Int32) : Int32 := if day = -1 then 0 else (((((7919 * day.toInt64) + (6151 * y.toInt64)) + 1) * (((7919 * day.toInt64) + (6151 * y.toInt64)) + 1) - (((7919 * day.toInt64) + (6151 * y.toInt64)) + 1) * (((7919 * day.toInt64) + (6151 * y.toInt64)) + 1) / 65521 * 65521) - ((((7919 * day.toInt64) + (6151 * y.toInt64)) + 1) * (((7919 * day.toInt64) + (6151 * y.toInt64)) + 1) - (((7919 * day.toInt64) + (6151 * y.toInt64)) + 1) * (((7919 * day.toInt64) + (6151 * y.toInt64)) + 1) / 65521 * 65521) / 3 * 3).toInt32
theorem drawn_eq {h : HP} {a : Nat} {y : Int32} : F_X7_drawnAt a y h = some (drV (h.1 a 2) y) := by
  unfold F_X7_drawnAt drV
  simp only [nm_eq]
  split <;> rfl
theorem slope_eq {h : HP} {f nb yards y : Nat} {K SL PR : Nat → Int32} {wet : Int32} (hF : FU h f nb yards K SL PR wet) (hy : y < yards) : F_X1_slopeAt f (nI y) h = some (SL y) ∧ F_X1_priceAt f (nI y) h = some (PR y) := by
  obtain ⟨h1, h2, h3, h4, h5, h6, h7⟩ := hF
  obtain ⟨s, s1, s2, s3, s4⟩ := h7 y hy
  unfold F_X1_slopeAt F_X1_priceAt
  rw [gd_ok (by omega) (by decide), gd_ok (by omega) (by decide), ld_nI (by omega), s2, gd_ok s1 (by decide), gd_ok s1 (by decide), ld_nI (by omega), ld_nI (by omega), s3, s4]
  exact ⟨rfl, rfl⟩
theorem mk_sub {p : Nat → Bool} {n tb : Nat} (h : ∀ i, i < n → p i = true → tb.testBit i = true) {i : Nat} (hi : (mk p n).testBit i = true) : i < n ∧ tb.testBit i = true ∧ p i = true := by
  rw [mk_bit] at hi
  simp only [Bool.and_eq_true, decide_eq_true_eq] at hi
  exact ⟨hi.1, h i hi.1 hi.2, hi.2⟩
theorem step_eq {h : HP} {a f nb yards y m : Nat} {K SL PR : Nat → Int32} {wet must day : Int32} {w : WS} (hd : a + 7 ≤ f ∨ f + 7 ≤ a) (hF : FU h f nb yards K SL PR wet) (hW : WK h a f nb K must day w) (hy : y < yards) (hm : m < 64) :
    ∃ h', F_X7_step a (nI y) (nI m) h = some (nI (wbear nb K must m (1 + SL y + wet + drV day (nI y)) w), h') ∧ WK h' a f nb K must day (wstep nb K must m (1 + SL y + wet + drV day (nI y)) (60 * PR y) (nI y) w) ∧ FrW a h h' := by
  obtain ⟨L, S, B, G, sm, std⟩ := w
  obtain ⟨w1, w2, w3, w4, w5, w6, w7, w8⟩ := hW
  dsimp only at w4 w5 w7 w8
  obtain ⟨sl, pr⟩ := slope_eq hF hy
  obtain ⟨f1, f2, f3, f4, f5, f6, f7⟩ := id hF
  unfold F_X7_step wbear wstep
  dsimp only
  rw [w4]
  by_cases hs : std = -4
  · rw [if_pos hs, if_pos hs, if_pos hs, nm_eq, w5, mk_nd _ hm _ w7, w1, gn_ok (by omega), nm_eq, Nat.add_sub_cancel, sl, cl_some, gn_ok (by omega), nm_eq, f3, drawn_eq, cl_some, w3]
    generalize hbase : 1 + SL y + wet + drV day (nI y) = base
    have htb : nd m sm < 64 := nd_lt hm
    generalize htbe : nd m sm = tb at htb
    rw [setCosts_eq hd w1 f2 f5 htb (mk_lt f5) w6, cl_some]
    generalize hC : (fun i => if i < nb ∧ tb.testBit i = true then tollV base (h.1 (f + 5) i) (nI (pc tb)) (nI (pc (tb &&& mk (fun i => decide (K i = 3)) nb))) else h.1 (a + 6) i) = C
    have hCi : ∀ i, i < nb → tb.testBit i = true → C i = cV nb K tb base i := fun i hi hb => by
      rw [← hC]
      simp only [hi, hb, and_self, if_true, cV, twm, f4 i hi]
    rw [stumbling_eq (h := sa h (a + 6) C) (sm := sm) hd (by rw [sa_2]; exact w1) (by rw [sa_n (by omega)]; exact f2) f5 htb w7 (by rw [sa_n (by omega)]; exact w5), cl_some]
    have hfm : mk (fun i => tb.testBit i && decide (¬ (sa h (a + 6) C).1 (a + 6) i ≤ (sa h (a + 6) C).1 (a + 1) i)) nb = wfm nb K L tb base := by
      unfold wfm
      refine mk_congr (fun i hi => ?_)
      rw [sa_r, sa_n (by omega), (w8 i hi).1]
      by_cases hb : tb.testBit i = true
      · rw [hCi i hi hb]
      · simp [hb]
    have hfmi : ∀ i, (i < nb ∧ (tb.testBit i && decide (¬ (sa h (a + 6) C).1 (a + 6) i ≤ (sa h (a + 6) C).1 (a + 1) i)) = true) ↔ (wfm nb K L tb base).testBit i = true := fun i => by
      rw [← hfm, mk_bit]
      simp
    rw [hfm]
    have hfl : wfm nb K L tb base < 64 := mk_lt f5
    simp only [hfmi]
    generalize hfe : wfm nb K L tb base = fm at *
    have hbe : wbm nb K L tb base = nd tb fm := by rw [wbm, hfe]
    rw [hbe]
    rw [nm_eq, mk_nd _ htb _ hfl, mk_bitCount _ (nd_lt htb), cl_some]
    have hbl : nd tb fm < 64 := nd_lt htb
    generalize hbme : nd tb fm = bm at *
    generalize hS : (fun i => if fm.testBit i = true then nI y else (sa h (a + 6) C).1 (a + 2) i) = S'
    have hSi : ∀ i, i < nb → S' i = if fm.testBit i = true then nI y else S i := fun i hi => by
      rw [← hS]
      simp only [sa_g, show ¬ a + 2 = a + 6 by omega, if_false, (w8 i hi).2.1]
    generalize hO : upd ((sa h (a + 6) C).1 a) 4 (nI (sm ||| fm)) = O
    have hOj : ∀ j, O j = if j = 4 then nI (sm ||| fm) else h.1 a j := fun j => by
      rw [← hO]
      simp only [upd, sa_g, show ¬ a = a + 6 by omega, if_false]
    have e1 : (sa (sa (sa h (a + 6) C) (a + 2) S') a O).1 a 1 = must := by rw [sa_r, hOj]; exact w2
    rw [e1]
    have hsl : sm ||| fm < 64 := or64 w7 hfl
    by_cases hc : must ≤ nI (pc bm)
    · rw [if_pos hc, if_pos hc, if_pos hc, sa_2, sa_2, sa_2, w1, gn_ok (by omega), nm_eq, Nat.add_sub_cancel]
      have hF' : FU (sa (sa (sa h (a + 6) C) (a + 2) S') a O) f nb yards K SL PR wet := hF.of (fun x x1 x2 => by rw [sa_n (by omega), sa_n (by omega), sa_n (by omega)])
      rw [(slope_eq hF' hy).2, cl_some, bringUp_eq hd (by exact w1) (by rw [sa_n (by omega), sa_n (by omega), sa_n (by omega)]; exact f2) f5 hbl, cl_some]
      have hbt : ∀ i, bm.testBit i = true → i < 6 := fun i hi => by
        rcases Nat.lt_or_ge i 6 with q | q
        · exact q
        · exact absurd hi (by rw [Nat.testBit_lt_two_pow (Nat.lt_of_lt_of_le hbl (Nat.pow_le_pow_right (n := 2) (by decide) q))]; decide)
      have hbtb : ∀ i, i < nb → bm.testBit i = true → tb.testBit i = true := fun i hi hb => by
        rw [← hbme, nd_bit _ htb _ hfl i (by omega)] at hb
        simp at hb
        exact hb.1
      refine ⟨_, rfl, ⟨w1, ?_, ?_, ?_, ?_, ?_, hsl, fun i hi => ?_⟩, fun x hx => ?_, rfl⟩
      · simp only [sa_g, show ¬ a = a + 4 by omega, show ¬ a = a + 3 by omega, show ¬ a = a + 1 by omega, if_false, if_true, hOj]
        exact w2
      · simp only [sa_g, show ¬ a = a + 4 by omega, show ¬ a = a + 3 by omega, show ¬ a = a + 1 by omega, if_false, if_true, hOj]
        exact w3
      · simp only [sa_g, show ¬ a = a + 4 by omega, show ¬ a = a + 3 by omega, show ¬ a = a + 1 by omega, if_false, if_true, hOj]
        exact w4.trans hs
      · simp only [sa_g, show ¬ a = a + 4 by omega, show ¬ a = a + 3 by omega, show ¬ a = a + 1 by omega, if_false, if_true, hOj]
      · simp only [sa_g, show ¬ a = a + 4 by omega, show ¬ a = a + 3 by omega, show ¬ a = a + 1 by omega, if_false, if_true, hOj]
        exact w6
      · obtain ⟨v1, v2, v3, v4⟩ := w8 i hi
        refine ⟨?_, ?_, ?_, ?_⟩
        · simp [sa_g, hi, v1]
          by_cases hb : bm.testBit i = true
          · rw [if_pos hb, if_pos hb, hCi i hi (hbtb i hi hb)]
          · rw [if_neg hb, if_neg hb]
        · simp [sa_g, hSi i hi]
        · simp [sa_g, hi, v3]
        · simp [sa_g, hi, v4, wpart]
      · simp [sa_g]
        rw [if_neg (by omega), if_neg (by omega), if_neg (by omega), if_neg (by omega), if_neg (by omega), if_neg (by omega)]
    · rw [if_neg hc, if_neg hc, if_neg hc, nm_eq, ui_sa, sa_sa, sa_r]
      refine ⟨_, rfl, ⟨w1, ?_, ?_, ?_, ?_, ?_, hsl, fun i hi => ?_⟩, fun x hx => ?_, rfl⟩
      · rw [sa_r]; simp [upd, hOj, w2]
      · rw [sa_r]; simp [upd, hOj, w3]
      · rw [sa_r]; simp [upd]
      · rw [sa_r]; simp [upd, hOj]
      · rw [sa_r]; simp [upd, hOj, w6]
      · obtain ⟨v1, v2, v3, v4⟩ := w8 i hi
        refine ⟨?_, ?_, ?_, ?_⟩
        · simp [sa_g, v1]
        · simp [sa_g, hSi i hi]
        · simp [sa_g, v3]
        · simp [sa_g, v4]
      · simp [sa_g]
        rw [if_neg (by omega), if_neg (by omega), if_neg (by omega)]
  · rw [if_neg hs, if_neg hs, if_neg hs]
    exact ⟨h, rfl, ⟨w1, w2, w3, w4, w5, w6, w7, w8⟩, fun _ _ => rfl, rfl⟩
