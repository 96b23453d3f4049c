theorem beginC {h : HP} {a f nb ns : Nat} {ln : Nat → Nat} {U : Nat → Int32} (hd : a + 7 ≤ f ∨ f + 7 ≤ a) (hC : CF h f U nb ns ln) (hn : nb ≤ 6) : ∃ h', F_X7_begin a f h = some h' ∧ WK h' a f nb (uK U) (U 2) (-1) (w0 (uT U)) ∧ FrB a h h' := by
  obtain ⟨h', e1, e2, e3⟩ := begin_eq (K := uK U) hd hC.2.2.1 hn (fun i hi => (hC.2.2.2.2.2.2.1 i hi).2)
  refine ⟨h', e1, ?_, e3⟩
  rw [hC.2.2.2.1] at e2
  exact e2.w0 (fun i hi => (hC.2.2.2.2.2.2.1 i hi).1)
theorem goC {h : HP} {a f q nb ns : Nat} {ln T : Nat → Nat} {U ST : Nat → Int32} {d : Int32} (hd : a + 7 ≤ f ∨ f + 7 ≤ a) (hq : q < a ∨ a + 7 ≤ q) (hN : sg_N q = 120) (hC : CF h f U nb ns ln) (hM : MU U nb ns ln) (hW : WK h a f nb (uK U) (U 2) d (w0 ST)) (hT : ∀ y, y < lsum ln ns → h.1 q y = nI (T y) ∧ T y < 64) :
    ∃ h', F_X7_go a q h = some h' ∧ WK h' a f nb (uK U) (U 2) d (WR U nb ns ln d T ST (lsum ln ns)) ∧ (∀ y, y < lsum ln ns → h'.1 (a + 5) y = nI (WB U nb ns ln d T ST y)) ∧ FrB a h h' ∧ h'.2 = h.2 := go_eq hd hq hN (hC.FU hM) hW hT
theorem CF.fr {a f : Nat} {h h' : HP} {U : Nat → Int32} {nb ns : Nat} {ln : Nat → Nat} (c : CF h f U nb ns ln) (p : FrB a h h') (hd : a + 7 ≤ f ∨ f + 7 ≤ a) : CF h' f U nb ns ln := c.of (fun x hx1 hx2 => p.1 x (by omega))
/-- the model walks, its copies laid in its own rows -/
theorem goM {h : HP} {nb ns : Nat} {ln T : Nat → Nat} {U ST : Nat → Int32} {d fl : Int32} (hU : ∀ i, i < 34 → h.1 143 i = U i) (hM : MU U nb ns ln) (hd : h.1 133 17 = d) (hd2 : d = -1 ∨ 0 ≤ d) (hfl : h.1 133 16 = fl) (hS : ∀ i, i < nb → (if nI i = fl then 0 else U (22 + i)) = ST i) (hT : ∀ y, y < lsum ln ns → T y < 2 ^ nb ∧ ∀ x : HP, x.1 144 = h.1 144 → F_X9_tolds 133 (nI y) x = some (nI (T y))) :
    ∃ h', F_X9_goesUp 133 h = some h' ∧ MR h' nb (lsum ln ns) (uK U) (WR U nb ns ln d T ST (lsum ln ns)) (WB U nb ns ln d T ST) ∧ FM h h' := by
  obtain ⟨h', e1, e2, e3⟩ := goesUp_eq hU hM hd hd2 hfl hS hT
  exact ⟨h', e1, e2, e3.fm⟩
theorem fm_ui {h : HP} {j : Nat} {v : Int32} (hj : j = 16 ∨ j = 17 ∨ j = 23) : FM h (ui h 133 j v) := by
  rw [ui_sa]
  exact ⟨fun x hx => sa_n (by omega), fun k a b c => by rw [sa_r, upd_n (by omega)], rfl⟩
theorem fm_st {h : HP} {j : Nat} {v : Nat → Int32} (hj : 143 ≤ j ∧ j ≤ 149) : FM h (sa h j v) := ⟨fun x hx => sa_n (by omega), fun k a b c => by rw [sa_n (by omega)], rfl⟩
/-- one has no strength -/
def sW (ST : Nat → Int32) (i : Nat) : Nat → Int32 := fun j => if j = i then 0 else ST j
/-- the model walks, one without strength -/
theorem asGo1 {h : HP} {nb ns n i : Nat} {ln wh fr to : Nat → Nat} (c : Core h nb ns ln n wh fr to) (hi : i < nb) : ∃ ha h2, F_X9_asItIs 133 h = some ha ∧ F_X9_goesUp 133 (ui ha 133 16 (nI i)) = some h2 ∧ MR h2 nb (lsum ln ns) (uK (h.1 134)) (WR (h.1 134) nb ns ln (-1) (TA n wh fr to) (sW (uT (h.1 134)) i) (lsum ln ns)) (WB (h.1 134) nb ns ln (-1) (TA n wh fr to) (sW (uT (h.1 134)) i)) ∧ FM h h2 := by
  obtain ⟨ha, a1, a2, a3, a4, a5, a6⟩ := asItIs_ok h
  obtain ⟨c1, c2, c3, c4, c5, c6⟩ := c
  have hn := c1.1.2.2.1
  obtain ⟨h2, g1, g2, g3⟩ := goM (h := ui ha 133 16 (nI i)) (U := h.1 134) (ST := sW (uT (h.1 134)) i) (T := TA n wh fr to) (fun j hj => by rw [ui_sa, sa_n (by decide)]; exact a3 j hj) c1.1 (d := -1) (by rw [ui_sa, sa_r, upd_n (by decide)]; exact a6) (Or.inl rfl) (fl := nI i) (by rw [ui_sa, sa_r, upd_r]) (fun j hj => by
      unfold sW uT
      by_cases e : j = i
      · rw [if_pos (by rw [e]), if_pos e]
      · rw [if_neg (fun z => e ((nI_eq (by omega) (by omega)).mp z)), if_neg e]) (tolds_all (by rw [ui_sa, sa_n (by decide)]; exact c4.of a4) c5 c1.1.2.2.2.2.2)
  exact ⟨ha, h2, a1, g1, g2, a2.trans ((fm_ui (Or.inl rfl)).trans g3)⟩
/-- the class walks, one without strength -/
theorem without_eq {h : HP} {nb ns n i : Nat} {ln wh fr to : Nat → Nat} (c : Core h nb ns ln n wh fr to) (hi : i < nb) : ∃ h', F_X8_walkWithout 0 (nI i) h = some h' ∧ WK h' 88 15 nb (uK (h.1 134)) (h.1 134 2) (-1) (WR (h.1 134) nb ns ln (-1) (TA n wh fr to) (sW (uT (h.1 134)) i) (lsum ln ns)) ∧ (∀ y, y < lsum ln ns → h'.1 93 y = nI (WB (h.1 134) nb ns ln (-1) (TA n wh fr to) (sW (uT (h.1 134)) i) y)) ∧ FrB 88 h h' := by
  have hT := c.T64
  obtain ⟨c1, c2, c3, c4, c5, c6, c7, c8⟩ := c
  have hn := c1.1.2.2.1
  obtain ⟨h1, e1, e2, e3⟩ := beginC (a := 88) (by omega) c2 hn
  have f1 : FrB 88 h1 (sa h1 89 (upd (h1.1 89) i 0)) := ⟨fun x hx => sa_n (by omega), fun _ _ => rfl⟩
  obtain ⟨h2, g1, g2, g3, g4, g5⟩ := goC (h := sa h1 89 (upd (h1.1 89) i 0)) (a := 88) (f := 15) (q := 79) (T := TA n wh fr to) (ST := sW (uT (h.1 134)) i) (d := -1) (by omega) (by omega) rfl (c2.fr (e3.trans f1) (by omega)) c1.1 (by
    obtain ⟨w1, w2, w3, w4, w5, w6, w7, w8⟩ := e2
    refine ⟨w1, w2, w3, w4, w5, w6, w7, fun j hj => ?_⟩
    obtain ⟨v1, v2, v3, v4⟩ := w8 j hj
    refine ⟨?_, v2, v3, v4⟩
    show upd (h1.1 89) i 0 j = sW (uT (h.1 134)) i j
    unfold sW
    by_cases e : j = i
    · subst e
      rw [upd_r, if_pos rfl]
    · rw [upd_n e, if_neg e]
      exact v1) (fun y hy => ⟨by rw [(e3.trans f1).1 79 (by omega)]; exact c6 y hy, hT y hy⟩)
  refine ⟨h2, ?_, g2, g3, (e3.trans f1).trans g4⟩
  unfold F_X8_walkWithout
  simp only [Nat.reduceAdd]
  rw [e1, cl_some, gd_ok (by omega) (by decide), nm_eq, st_sa (by omega), g1, cl_some]
def safeP (U : Nat → Int32) (nb ns : Nat) (ln T : Nat → Nat) (i : Nat) : Bool := !decide ((WR U nb ns ln (-1) T (sW (uT U) i) (lsum ln ns)).2.2.2.2.2 = -4)
def frV (p : Nat → Bool) (n : Nat) : Int32 := if fa_first p n < n then nI (fa_first p n) else -4
theorem frV_at {p : Nat → Bool} {n k : Nat} (hk : k < n) (h : ∀ j, j < k → p j = false) (hp : p k = true) : frV p n = nI k := by
  have e : fa_first p n = k := by
    have h1 := fa_first_no p n
    have h2 := fa_first_yes p n
    have h3 := fa_first_le p n
    rcases Nat.lt_trichotomy (fa_first p n) k with q | q | q
    · have := h _ q
      rw [h2 (by omega)] at this
      exact absurd this (by decide)
    · exact q
    · have := h1 _ q
      rw [hp] at this
      exact absurd this (by decide)
  unfold frV
  rw [e, if_pos hk]
theorem frV_no {p : Nat → Bool} {n : Nat} (h : ∀ j, j < n → p j = false) : frV p n = -4 := by
  unfold frV
  rw [if_neg]
  intro z
  have := h _ z
  rw [fa_first_yes p n z] at this
  exact absurd this (by decide)
theorem FrB.U {a : Nat} {h h' : HP} (p : FrB a h h') (ha : a ≤ 126) : h'.1 134 = h.1 134 := p.1 134 (by omega)
theorem safeC {h : HP} {nb ns n : Nat} {ln wh fr to : Nat → Nat} (c : Core h nb ns ln n wh fr to) : ∃ h', F_X8_safe 0 h = some (frV (safeP (h.1 134) nb ns ln (TA n wh fr to)) nb, h') ∧ FrB 88 h h' := by
  unfold F_X8_safe F_X8_safe_L2
  have hn := c.1.1.2.2.1
  refine lp_inv (fun k x => x.1 = nI k ∧ (∀ j, j < k → safeP (h.1 134) nb ns ln (TA n wh fr to) j = false) ∧ FrB 88 h x.2) (B := nb) (Q := fun r => ∃ h', r = some (frV (safeP (h.1 134) nb ns ln (TA n wh fr to)) nb, h') ∧ FrB 88 h h') ?_ ?_ sg_fuel 0 (0, h) (Nat.zero_le _) (fu (by omega)) ⟨rfl, fun j hj => absurd hj (Nat.not_lt_zero j), fun _ _ => rfl, fun _ _ => rfl⟩
  · rintro k ⟨x1, x2⟩ hk ⟨rfl, i1, i2⟩
    dsimp only at i1 i2 ⊢
    have cx := (i2.kp (Or.inl rfl)).core c
    obtain ⟨h', e1, e2, e3, e4⟩ := without_eq cx hk
    rw [i2.U (by omega)] at e2 e3
    simp only [Nat.reduceAdd, e1, cl_some, e2.2.2.2.1, cx.2.1.2.2.1, if_neg (nI_ge hk (show nb < 2 ^ 31 by omega)), nI_1]
    by_cases hs : (WR (h.1 134) nb ns ln (-1) (TA n wh fr to) (sW (uT (h.1 134)) k) (lsum ln ns)).2.2.2.2.2 = -4
    · left
      refine ⟨(nI (k + 1), h'), ⟨rfl, fun j hj => ?_, i2.trans e4⟩, fun rc => by rw [if_pos hs]⟩
      by_cases e : j = k
      · subst e
        simp [safeP, hs]
      · exact i1 j (by omega)
    · right
      refine ⟨_, ⟨h', ?_, i2.trans e4⟩, fun rc => if_neg hs⟩
      rw [frV_at hk i1 (by simp [safeP, hs])]
  · rintro ⟨x1, x2⟩ ⟨rfl, i1, i2⟩
    dsimp only at i1 i2 ⊢
    have cx := (i2.kp (Or.inl rfl)).core c
    refine ⟨some (-4, x2), ⟨x2, ?_, i2⟩, fun rc => by simp only [Nat.reduceAdd, cx.2.1.2.2.1, if_pos (Int32.le_refl _)]⟩
    rw [frV_no i1]
theorem safeM {h : HP} {nb ns n : Nat} {ln wh fr to : Nat → Nat} (c : Core h nb ns ln n wh fr to) : ∃ h', F_X9_safe 133 h = some (frV (safeP (h.1 134) nb ns ln (TA n wh fr to)) nb, h') ∧ FM h h' := by
  unfold F_X9_safe F_X9_safe_L2
  have hn := c.1.1.2.2.1
  refine lp_inv (fun k x => x.1 = nI k ∧ (∀ j, j < k → safeP (h.1 134) nb ns ln (TA n wh fr to) j = false) ∧ FM h x.2) (B := nb) (Q := fun r => ∃ h', r = some (frV (safeP (h.1 134) nb ns ln (TA n wh fr to)) nb, h') ∧ FM h h') ?_ ?_ sg_fuel 0 (0, h) (Nat.zero_le _) (fu (by omega)) ⟨rfl, fun j hj => absurd hj (Nat.not_lt_zero j), FM.rf⟩
  · rintro k ⟨x1, x2⟩ hk ⟨rfl, i1, i2⟩
    dsimp only at i1 i2 ⊢
    have cx := i2.kp.core c
    obtain ⟨ha, h', e0, e1, e2, e4⟩ := asGo1 cx hk
    rw [i2.1 134 (by omega)] at e2
    have l : ld x2 134 1 = nI nb := cx.1.1.2.1
    simp only [Nat.reduceAdd, e0, e1, cl_some, nm_eq, e2.1, l, if_neg (nI_ge hk (show nb < 2 ^ 31 by omega)), nI_1]
    by_cases hs : (WR (h.1 134) nb ns ln (-1) (TA n wh fr to) (sW (uT (h.1 134)) k) (lsum ln ns)).2.2.2.2.2 = -4
    · left
      refine ⟨(nI (k + 1), h'), ⟨rfl, fun j hj => ?_, i2.trans e4⟩, fun rc => by rw [if_pos hs]⟩
      by_cases e : j = k
      · subst e
        simp [safeP, hs]
      · exact i1 j (by omega)
    · right
      refine ⟨_, ⟨h', ?_, i2.trans e4⟩, fun rc => if_neg hs⟩
      rw [frV_at hk i1 (by simp [safeP, hs])]
  · rintro ⟨x1, x2⟩ ⟨rfl, i1, i2⟩
    dsimp only at i1 i2 ⊢
    have cx := i2.kp.core c
    have l : ld x2 134 1 = nI nb := cx.1.1.2.1
    refine ⟨some (-4, x2), ⟨x2, ?_, i2⟩, fun rc => by simp only [Nat.reduceAdd, l, if_pos (Int32.le_refl _)]⟩
    rw [frV_no i1]
theorem step_safe (h : HP) (hI : Inv h) : ∃ (r : Int32) (h1 h2 : HP), F_X8_safe 0 h = some (r, h1) ∧ F_X9_safe 133 h1 = some (r, h2) ∧ Inv h2 := by
  have hI0 := hI
  obtain ⟨nb, ns, ln, n, wh, fr, to, c, t, u, k, q⟩ := hI
  obtain ⟨h1, e1, e2⟩ := safeC c
  have k1 := e2.kp (Or.inl rfl)
  obtain ⟨h2, e3, e4⟩ := safeM (k1.core c)
  rw [e2.U (by omega)] at e3
  exact ⟨_, h1, h2, e1, e3, e4.kp.inv (k1.inv hI0)⟩
theorem step_rain (h : HP) (hI : Inv h) (x1 x2 : Int32) : ∃ (r : Int32) (h1 h2 : HP), F_X8_rain 0 x1 x2 h = some (r, h1) ∧ F_X9_rain 133 x1 x2 h1 = some (r, h2) ∧ Inv h2 := by
  have hI0 := hI
  obtain ⟨nb, ns, ln, n, wh, fr, to, c, t, u, k, q⟩ := hI
  have hT := c.T64
  have c0 := c
  obtain ⟨c1, c2, c3, c4, c5, c6, c7, c8⟩ := c
  have hn : nb ≤ 6 := c1.1.2.2.1
  unfold F_X8_rain F_X9_rain F_X9_isTwo
  simp only [Nat.reduceAdd]
  rw [within_eq, cl_some, b01, within_eq, cl_some, b01, inL (l := 0) (m := 9999) (by decide) (by decide), inL (l := 0) (m := 1) (by decide) (by decide)]
  simp only [cl_some, b01]
  by_cases hx : 0 ≤ x1 ∧ x1 ≤ 9999
  · rw [if_pos hx]
    simp only [if_pos hx]
    by_cases hx2 : 0 ≤ x2 ∧ x2 ≤ 1
    · rw [if_pos hx2]
      simp only [if_pos hx2]
      obtain ⟨h1, e1, e2, e3⟩ := beginC (a := 88) (by omega) c2 hn
      have f1 : FrB 88 h1 (ui h1 88 2 x1) := ⟨fun x hx => by rw [ui_sa, sa_n (by omega)], fun _ _ => rfl⟩
      obtain ⟨h2, g1, g2, g3, g4, g5⟩ := goC (h := ui h1 88 2 x1) (a := 88) (f := 15) (q := 79) (T := TA n wh fr to) (ST := uT (h.1 134)) (d := x1) (by omega) (by omega) rfl (c2.fr (e3.trans f1) (by omega)) c1.1 (by
        obtain ⟨w1, w2, w3, w4, w5, w6, w7, w8⟩ := e2
        refine ⟨w1, ?_, ?_, ?_, ?_, ?_, w7, fun j hj => w8 j hj⟩
        · rw [ui_sa, sa_r, upd_n (by decide)]; exact w2
        · rw [ui_sa, sa_r, upd_r]
        · rw [ui_sa, sa_r, upd_n (by decide)]; exact w4
        · rw [ui_sa, sa_r, upd_n (by decide)]; exact w5
        · rw [ui_sa, sa_r, upd_n (by decide)]; exact w6) (fun y hy => ⟨by rw [(e3.trans f1).1 79 (by omega)]; exact c6 y hy, hT y hy⟩)
      have k1 := ((e3.trans f1).trans g4).kp (Or.inl rfl)
      have kc := k1.core c0
      obtain ⟨ha, a1, a2, a3, a4, a5, a6⟩ := asItIs_ok h2
      have hU2 : h2.1 134 = h.1 134 := k1.1 134 (pz (by omega))
      obtain ⟨h4, m1, m2, m3⟩ := goM (h := ui ha 133 17 x1) (U := h.1 134) (ST := uT (h.1 134)) (T := TA n wh fr to) (fun j hj => by rw [ui_sa, sa_n (by decide), a3 j hj, hU2]) c1.1 (d := x1) (by rw [ui_sa, sa_r, upd_r]) (Or.inr hx.1) (fl := -1) (by rw [ui_sa, sa_r, upd_n (by decide)]; exact a5) (fun i hi => by rw [if_neg (nI_m1 (by omega))]; rfl) (tolds_all (by rw [ui_sa, sa_n (by decide)]; exact kc.2.2.2.1.of a4) c5 c1.1.2.2.2.2.2)
      have k4 := a2.trans ((fm_ui (j := 17) (v := x1) (by omega)).trans m3)
      have c2' := c2.fr ((e3.trans f1).trans g4) (by omega)
      rw [e1, cl_some, nm_eq, g1, cl_some, first_eq (h := h2) g2.1 c2'.2.2.1 hn c1.2.1 (fun i hi => merit_eq (ST := uT (h.1 134)) g2 (c2'.2.2.2.2.2.2.1 i hi).2 (c2'.2.2.2.2.2.2.1 i hi).1 hn hi), cl_some]
      rw [g2.2.2.2.1]
      by_cases h0 : x2 = 0
      · rw [if_pos h0]
        refine ⟨_, h2, h4, rfl, ?_, k4.kp.inv (k1.inv hI0)⟩
        rw [a1, cl_some, nm_eq, m1, cl_some, if_pos h0, m2.1]
      · rw [if_neg h0]
        refine ⟨_, h2, h4, rfl, ?_, k4.kp.inv (k1.inv hI0)⟩
        rw [a1, cl_some, nm_eq, m1, cl_some, if_neg h0, heirMR c1 (by rw [k4.1 134 (by omega), hU2]) hT m2, cl_some]
    · rw [if_neg hx2]
      refine ⟨-1, h, h, rfl, ?_, hI0⟩
      rw [if_neg hx2]
  · rw [if_neg hx]
    refine ⟨-1, h, h, rfl, ?_, hI0⟩
    rw [if_neg hx]
