/-- strength left and who has stumbled, some yards on, of those of D alone -/
def csG (nb : Nat) (K : Nat → Int32) (base : Int32) (D : Nat) (s : (Nat → Int32) × Nat) : Nat → (Nat → Int32) × Nat
  | 0 => s
  | e + 1 => (fun i => if (wbm nb K (csG nb K base D s e).1 (nd D (csG nb K base D s e).2) base).testBit i = true then (csG nb K base D s e).1 i - cV nb K (nd D (csG nb K base D s e).2) base i else (csG nb K base D s e).1 i, (csG nb K base D s e).2 ||| wfm nb K (csG nb K base D s e).1 (nd D (csG nb K base D s e).2) base)
def cbG (nb : Nat) (K : Nat → Int32) (base : Int32) (D : Nat) (s : (Nat → Int32) × Nat) (e : Nat) : Nat := wbm nb K (csG nb K base D s e).1 (nd D (csG nb K base D s e).2) base
def chG (nb : Nat) (K : Nat → Int32) (base : Int32) (D : Nat) (s : (Nat → Int32) × Nat) (i : Nat) : Nat → Int32
  | 0 => 0
  | e + 1 => chG nb K base D s i e + (if (cbG nb K base D s e).testBit i = true then (if pc (cbG nb K base D s e) ≤ 1 then 60 else 30) else 0)
def bsN (U : Nat → Int32) (n : Nat) : Int32 := 1 + U (10 + n) + U 3
theorem wbase_n {U : Nat → Int32} {ln : Nat → Nat} {ns n y : Nat} (hn : n < ns) (h1 : lsum ln n ≤ y) (h2 : y < lsum ln (n + 1)) : 1 + uS U ln ns y + U 3 + drV (-1) (nI y) = bsN U n := by
  unfold uS bsN
  rw [so_one hn h1 h2]
  simp [drV]
theorem wstep_0 {nb : Nat} {K : Nat → Int32} {m : Nat} {base worth Y : Int32} {w : WS} (hm : m < 64) (h4 : w.2.2.2.2.2 = -4) : (wstep nb K 0 m base worth Y w).1 = (fun i => if (wbm nb K w.1 (nd m w.2.2.2.2.1) base).testBit i = true then w.1 i - cV nb K (nd m w.2.2.2.2.1) base i else w.1 i) ∧ (wstep nb K 0 m base worth Y w).2.2.2.2.1 = w.2.2.2.2.1 ||| wfm nb K w.1 (nd m w.2.2.2.2.1) base ∧ (wstep nb K 0 m base worth Y w).2.2.2.2.2 = -4 ∧ wbear nb K 0 m base w = wbm nb K w.1 (nd m w.2.2.2.2.1) base := by
  have hb : wbm nb K w.1 (nd m w.2.2.2.2.1) base < 64 := nd_lt (nd_lt hm)
  have hp := pc_le _ hb
  have h0 : (0 : Int32) ≤ nI (pc (wbm nb K w.1 (nd m w.2.2.2.2.1) base)) := nI_pos' (by omega)
  unfold wstep wbear
  rw [if_pos h4, if_pos h0, if_pos h4, if_pos h0]
  exact ⟨rfl, rfl, rfl, rfl⟩
/-- what the choices' walks leave as it was -/
def FX (h h' : HP) : Prop := (∀ x, (x < 121 ∨ (121 < x ∧ x < 126) ∨ 132 < x) → h'.1 x = h.1 x) ∧ (∀ j, j ≠ 8 → j ≠ 9 → h'.1 121 j = h.1 121 j) ∧ ∀ x, x ≠ 126 → h'.2 x = h.2 x
theorem FX.trans {h1 h2 h3 : HP} (p : FX h1 h2) (q : FX h2 h3) : FX h1 h3 := ⟨fun x hx => (q.1 x hx).trans (p.1 x hx), fun j a b => (q.2.1 j a b).trans (p.2.1 j a b), fun x hx => (q.2.2 x hx).trans (p.2.2 x hx)⟩
theorem FrB.fx {h h' : HP} (p : FrB 126 h h') : FX h h' := ⟨fun x hx => p.1 x (by omega), fun j _ _ => by rw [p.1 121 (by omega)], p.2⟩
theorem fx_ui {h : HP} {j : Nat} {v : Int32} (hj : j = 8 ∨ j = 9) : FX h (ui h 121 j v) := by
  rw [ui_sa]
  exact ⟨fun x hx => sa_n (by omega), fun k a b => by rw [sa_r, upd_n (by omega)], fun _ _ => rfl⟩
theorem fx_uw {h : HP} {j : Nat} {v : Int32} : FX h (ui h 126 j v) := by
  rw [ui_sa]
  exact ⟨fun x hx => sa_n (by omega), fun k a b => by rw [sa_n (by decide)], fun _ _ => rfl⟩
theorem bearC {h : HP} {nb ns n i j D : Nat} {ln : Nat → Nat} {U : Nat → Int32} (hC : CF h 15 U nb ns ln) (hM : MU U nb ns ln) (hn : n < ns) (hi : i < nb) (hj : j < nb) (hD : D < 64) : ∃ h', F_X0_bearStretch 121 (nI (lsum ln n)) (nI (lsum ln (n + 1))) (nI i) (nI j) (nI D) h = some h' ∧ h'.1 121 8 = chG nb (uK U) (bsN U n) D (uT U, 0) i (ln n) ∧ h'.1 121 9 = chG nb (uK U) (bsN U n) D (uT U, 0) j (ln n) ∧ FX h h' := by
  obtain ⟨m1, m2, m3, m4, m5, m6⟩ := id hM
  obtain ⟨h1, e1, e2, e3⟩ := beginC (a := 126) (by omega) hC m3
  have e1l : lsum ln (n + 1) = lsum ln n + ln n := rfl
  have e2l := lsum_mono (ln := ln) (i := n + 1) (k := ns) (by omega)
  unfold F_X0_bearStretch
  simp only [Nat.reduceAdd]
  rw [e1, cl_some, nm_eq, nm_eq, nm_eq]
  generalize hg : ui (ui (ui h1 126 1 0) 121 8 0) 121 9 0 = g
  have fg : FX h g := by rw [← hg]; exact e3.fx.trans (fx_uw.trans ((fx_ui (Or.inl rfl)).trans (fx_ui (Or.inr rfl))))
  have wg : WK g 126 15 nb (uK U) 0 (-1) (w0 (uT U)) := by
    obtain ⟨w1, w2, w3, w4, w5, w6, w7, w8⟩ := e2
    have r126 : g.1 126 = upd (h1.1 126) 1 0 := by rw [← hg]; simp only [ui_sa]; rw [sa_n (by decide), sa_n (by decide), sa_r]
    have rx : ∀ x, x ≠ 126 → x ≠ 121 → g.1 x = h1.1 x := fun x a b => by rw [← hg]; simp only [ui_sa]; rw [sa_n b, sa_n b, sa_n a]
    refine ⟨by rw [← hg]; exact w1, by rw [r126, upd_r], by rw [r126, upd_n (by decide)]; exact w3, by rw [r126, upd_n (by decide)]; exact w4, by rw [r126, upd_n (by decide)]; exact w5, by rw [r126, upd_n (by decide)]; exact w6, w7, fun i hi => ?_⟩
    rw [rx (126 + 1) (by decide) (by decide), rx (126 + 2) (by decide) (by decide), rx (126 + 3) (by decide) (by decide), rx (126 + 4) (by decide) (by decide)]
    exact w8 i hi
  have g8 : g.1 121 8 = 0 := by rw [← hg]; simp only [ui_sa]; rw [sa_r, upd_n (by decide), sa_r, upd_r]
  have g9 : g.1 121 9 = 0 := by rw [← hg]; simp only [ui_sa]; rw [sa_r, upd_r]
  unfold F_X0_bearStretch_L32
  refine lp_inv' (fun e x => x.1 = nI (lsum ln n + e) ∧ (∃ w : WS, WK x.2 126 15 nb (uK U) 0 (-1) w ∧ w.1 = (csG nb (uK U) (bsN U n) D (uT U, 0) e).1 ∧ w.2.2.2.2.1 = (csG nb (uK U) (bsN U n) D (uT U, 0) e).2 ∧ w.2.2.2.2.2 = -4) ∧ x.2.1 121 8 = chG nb (uK U) (bsN U n) D (uT U, 0) i e ∧ x.2.1 121 9 = chG nb (uK U) (bsN U n) D (uT U, 0) j e ∧ FX h x.2) (B := ln n) (Q := fun r => ∃ h', r = some h' ∧ h'.1 121 8 = chG nb (uK U) (bsN U n) D (uT U, 0) i (ln n) ∧ h'.1 121 9 = chG nb (uK U) (bsN U n) D (uT U, 0) j (ln n) ∧ FX h h') ?_ ?_ sg_fuel 0 (nI (lsum ln n), g) (Nat.zero_le _) (fu (by omega)) ⟨rfl, ⟨w0 (uT U), wg, rfl, rfl, rfl⟩, g8, g9, fg⟩
  · rintro e ⟨x1, x2⟩ rc he ⟨rfl, ⟨w, v1, v2, v3, v4⟩, i1, i2, i3⟩
    left
    dsimp only at v1 i1 i2 i3 ⊢
    have hF := (hC.of (h' := x2) (fun x hx1 hx2 => i3.1 x (by omega))).FU hM
    obtain ⟨h2, s1, s2, s3⟩ := step_eq (a := 126) (y := lsum ln n + e) (m := D) (by omega) hF v1 (by omega) hD
    rw [wbase_n hn (by omega) (by omega)] at s1 s2
    obtain ⟨z1, z2, z3, z4⟩ := wstep_0 (nb := nb) (K := uK U) (base := bsN U n) (worth := 60 * uP U ln ns (lsum ln n + e)) (Y := nI (lsum ln n + e)) hD v4
    have hcb : wbear nb (uK U) 0 D (bsN U n) w = cbG nb (uK U) (bsN U n) D (uT U, 0) e := by rw [z4]; unfold cbG; rw [v2, v3]
    rw [hcb] at s1
    generalize hbm : cbG nb (uK U) (bsN U n) D (uT U, 0) e = bm at s1
    have hb6 : bm < 64 := by rw [← hbm]; exact nd_lt (nd_lt hD)
    rw [if_neg (nI_ge (by omega) (by omega)), s1, cl_some, mk_bitCount _ hb6, cl_some]
    have hr121 : h2.1 121 = x2.1 121 := s3.1 121 (by omega)
    -- what is added
    have hJ : ∀ (v : Int32), F_X0_bearStretch_J67 121 rc (nI (lsum ln (n + 1))) (nI i) (nI j) (nI D) (nI (lsum ln n + e)) (nI bm) v h2 = rc (nI (lsum ln n + e + 1), sa h2 121 (upd (upd (h2.1 121) 8 (h2.1 121 8 + (if bm.testBit i = true then v else 0))) 9 (h2.1 121 9 + (if bm.testBit j = true then v else 0)))) := by
      intro v
      unfold F_X0_bearStretch_J67 F_X0_bearStretch_J89 F_X0_bearStretch_J114
      rw [mk_isIn _ hb6 i (by omega), mk_isIn _ hb6 j (by omega)]
      simp only [cl_some, b01, nm_eq, ui_sa, sa_sa, sa_r, nI_1]
      rw [upd_n (by decide), upd_n (by decide)]
      by_cases c1 : bm.testBit i = true
      · by_cases c2 : bm.testBit j = true
        · simp only [if_pos c1, if_pos c2]
        · simp only [if_pos c1, if_neg c2]
      · by_cases c2 : bm.testBit j = true
        · simp only [if_neg c1, if_pos c2]
        · simp only [if_neg c1, if_neg c2]
    have hv : (if nI (pc bm) ≤ 1 then F_X0_bearStretch_J67 121 rc (nI (lsum ln (n + 1))) (nI i) (nI j) (nI D) (nI (lsum ln n + e)) (nI bm) 60 h2 else F_X0_bearStretch_J67 121 rc (nI (lsum ln (n + 1))) (nI i) (nI j) (nI D) (nI (lsum ln n + e)) (nI bm) 30 h2) = F_X0_bearStretch_J67 121 rc (nI (lsum ln (n + 1))) (nI i) (nI j) (nI D) (nI (lsum ln n + e)) (nI bm) (if pc bm ≤ 1 then 60 else 30) h2 := by
      have := pc_le bm hb6
      by_cases c : pc bm ≤ 1
      · rw [if_pos (show nI (pc bm) ≤ 1 from nI_le (b := 1) c (by decide)), if_pos c]
      · rw [if_neg (show ¬ nI (pc bm) ≤ 1 from nI_ge (a := 1) (by omega) (by omega)), if_neg c]
    rw [hv, hJ]
    refine ⟨_, ⟨rfl, ⟨wstep nb (uK U) 0 D (bsN U n) (60 * uP U ln ns (lsum ln n + e)) (nI (lsum ln n + e)) w, s2.of (fun x hx1 hx2 => sa_n (by omega)) rfl, ?_, ?_, z3⟩, ?_, ?_, ?_⟩, rfl⟩
    · rw [z1, v2, v3]; rfl
    · rw [z2, v2, v3]; rfl
    · dsimp only
      rw [sa_r, upd_n (by decide), upd_r, hr121, i1, ← hbm]
      rfl
    · dsimp only
      rw [sa_r, upd_r, hr121, i2, ← hbm]
      rfl
    · dsimp only
      refine i3.trans ((FrW.B s3).fx.trans ⟨fun x hx => sa_n (by omega), fun k a b => by rw [sa_r, upd_n b, upd_n a], fun _ _ => rfl⟩)
  · rintro ⟨x1, x2⟩ rc ⟨rfl, ⟨w, v1, v2, v3, v4⟩, i1, i2, i3⟩
    dsimp only at v1 i1 i2 i3 ⊢
    rw [if_pos (nI_le (by omega) (by omega))]
    exact ⟨x2, rfl, i1, i2, i3⟩
/-- what each has of each stretch -/
def r1 (U : Nat → Int32) (nb : Nat) (ln : Nat → Nat) (D i n : Nat) : Int32 := chG nb (uK U) (bsN U n) D (uT U, 0) i (ln n)
def FY (h h' : HP) : Prop := (∀ x, (x < 121 ∨ 132 < x) → h'.1 x = h.1 x) ∧ ∀ x, x ≠ 126 → h'.2 x = h.2 x
theorem FX.fy {h h' : HP} (p : FX h h') : FY h h' := ⟨fun x hx => p.1 x (by omega), p.2.2⟩
theorem FY.trans {h1 h2 h3 : HP} (p : FY h1 h2) (q : FY h2 h3) : FY h1 h3 := ⟨fun x hx => (q.1 x hx).trans (p.1 x hx), fun x hx => (q.2 x hx).trans (p.2 x hx)⟩
theorem FY.kp {h h' : HP} (p : FY h h') : Kp h h' := ⟨fun x hx => p.1 x (by unfold Pz at hx; omega), fun j hj => by rw [p.1 133 (by omega)], fun x hx => p.2 x (by omega)⟩
theorem fy_sa {h : HP} {q : Nat} {f : Nat → Int32} (hq : 121 ≤ q ∧ q ≤ 132) : FY h (sa h q f) := ⟨fun x hx => sa_n (by omega), fun _ _ => rfl⟩
theorem fillC {h : HP} {nb ns i j : Nat} {ln : Nat → Nat} {U : Nat → Int32} (hC : CF h 15 U nb ns ln) (hM : MU U nb ns ln) (hi : i < nb) (hj : j < nb) : ∃ h', F_X0_fill 121 (nI i) (nI j) h = some h' ∧ (∀ n, n < ns → h'.1 122 n = r1 U nb ln (2 ^ i) i n ∧ h'.1 124 n = r1 U nb ln (2 ^ j) j n ∧ h'.1 123 n = r1 U nb ln (2 ^ i ||| 2 ^ j) i n ∧ h'.1 125 n = r1 U nb ln (2 ^ i ||| 2 ^ j) j n) ∧ FY h h' := by
  obtain ⟨m1, m2, m3, m4, m5, m6⟩ := id hM
  have p64i : 2 ^ i < 64 := two64 (by omega)
  have p64j : 2 ^ j < 64 := two64 (by omega)
  unfold F_X0_fill F_X0_fill_L5
  refine lp_inv' (fun n x => x.1 = nI (lsum ln n) ∧ x.2.1 = nI n ∧ (∀ k, k < n → x.2.2.1 122 k = r1 U nb ln (2 ^ i) i k ∧ x.2.2.1 124 k = r1 U nb ln (2 ^ j) j k ∧ x.2.2.1 123 k = r1 U nb ln (2 ^ i ||| 2 ^ j) i k ∧ x.2.2.1 125 k = r1 U nb ln (2 ^ i ||| 2 ^ j) j k) ∧ FY h x.2.2) (B := ns) (Q := fun r => ∃ h', r = some h' ∧ (∀ n, n < ns → h'.1 122 n = r1 U nb ln (2 ^ i) i n ∧ h'.1 124 n = r1 U nb ln (2 ^ j) j n ∧ h'.1 123 n = r1 U nb ln (2 ^ i ||| 2 ^ j) i n ∧ h'.1 125 n = r1 U nb ln (2 ^ i ||| 2 ^ j) j n) ∧ FY h h') ?_ ?_ sg_fuel 0 (0, 0, h) (Nat.zero_le _) (fu (by omega)) ⟨rfl, rfl, fun k hk => absurd hk (Nat.not_lt_zero k), fun _ _ => rfl, fun _ _ => rfl⟩
  · rintro n ⟨x1, x2, x3⟩ rc hn ⟨rfl, rfl, i1, i2⟩
    left
    dsimp only at i1 i2 ⊢
    have hCx : ∀ {g : HP}, FY h g → CF g 15 U nb ns ln := fun f => hC.of (fun x hx1 hx2 => f.1 x (by omega))
    have hlen : ld x3 16 (nI n) = nI (ln n) := by
      rw [ld_nI (by omega), i2.1 16 (by omega), ← m5 n hn]
      exact (hC.2.2.2.2.2.1 n hn).1
    have e1l : nI (lsum ln n) + nI (ln n) = nI (lsum ln (n + 1)) := nI_add _ _
    obtain ⟨a1, b1, b2, b3, b4⟩ := bearC (hCx i2) hM hn hi hj p64i
    have f1 : FY h (sa a1 122 (upd (a1.1 122) n (a1.1 121 8))) := i2.trans (b4.fy.trans (fy_sa (by omega)))
    obtain ⟨a2, c1, c2, c3, c4⟩ := bearC (hCx f1) hM hn hi hj p64j
    have f2 : FY h (sa a2 124 (upd (a2.1 124) n (a2.1 121 9))) := f1.trans (c4.fy.trans (fy_sa (by omega)))
    obtain ⟨a3, d1, d2, d3, d4⟩ := bearC (hCx f2) hM hn hi hj (or64 p64i p64j)
    have f3 : FY h (sa (sa a3 123 (upd (a3.1 123) n (a3.1 121 8))) 125 (upd (a3.1 125) n (a3.1 121 9))) := f2.trans (d4.fy.trans ((fy_sa (by omega)).trans (fy_sa (by omega))))
    simp only [Nat.reduceAdd]
    rw [i2.1 15 (by omega), hC.1, if_neg (nI_ge hn (by omega)), gd_ok (by omega) (by decide), nm_eq, hlen, e1l, mk_shl i (by omega), mk_shl j (by omega), mk_or _ p64i _ p64j, b1, cl_some, gd_ok (by omega) (by decide), nm_eq, st_sa (by omega), c1, cl_some, gd_ok (by omega) (by decide), nm_eq, st_sa (by omega), d1, cl_some, gd_ok (by omega) (by decide), nm_eq, st_sa (by omega), gd_ok (by omega) (by decide), nm_eq, st_sa (by omega), nI_1, sa_n (q := 123) (x := 121) (by decide), sa_n (q := 123) (x := 125) (by decide)]
    refine ⟨_, ⟨rfl, rfl, fun k hk => ?_, f3⟩, rfl⟩
    dsimp only
    have q122 : (sa (sa a3 123 (upd (a3.1 123) n (a3.1 121 8))) 125 (upd (a3.1 125) n (a3.1 121 9))).1 122 = upd (x3.1 122) n (a1.1 121 8) := by
      rw [sa_n (by decide), sa_n (by decide), d4.1 122 (by omega), sa_n (by decide), c4.1 122 (by omega), sa_r, b4.1 122 (by omega)]
    have q124 : (sa (sa a3 123 (upd (a3.1 123) n (a3.1 121 8))) 125 (upd (a3.1 125) n (a3.1 121 9))).1 124 = upd (x3.1 124) n (a2.1 121 9) := by
      rw [sa_n (by decide), sa_n (by decide), d4.1 124 (by omega), sa_r, c4.1 124 (by omega), sa_n (by decide), b4.1 124 (by omega)]
    have q123 : (sa (sa a3 123 (upd (a3.1 123) n (a3.1 121 8))) 125 (upd (a3.1 125) n (a3.1 121 9))).1 123 = upd (x3.1 123) n (a3.1 121 8) := by
      rw [sa_n (by decide), sa_r, d4.1 123 (by omega), sa_n (by decide), c4.1 123 (by omega), sa_n (by decide), b4.1 123 (by omega)]
    have q125 : (sa (sa a3 123 (upd (a3.1 123) n (a3.1 121 8))) 125 (upd (a3.1 125) n (a3.1 121 9))).1 125 = upd (x3.1 125) n (a3.1 121 9) := by
      rw [sa_r, d4.1 125 (by omega), sa_n (by decide), c4.1 125 (by omega), sa_n (by decide), b4.1 125 (by omega)]
    rw [q122, q124, q123, q125]
    by_cases e : k = n
    · subst e
      rw [upd_r, upd_r, upd_r, upd_r, b2, c3, d2, d3]
      exact ⟨rfl, rfl, rfl, rfl⟩
    · rw [upd_n e, upd_n e, upd_n e, upd_n e]
      exact i1 k (by omega)
  · rintro ⟨x1, x2, x3⟩ rc ⟨rfl, rfl, i1, i2⟩
    dsimp only at i1 i2 ⊢
    rw [i2.1 15 (by omega), hC.1, if_pos (Int32.le_refl _)]
    exact ⟨x3, rfl, i1, i2⟩
