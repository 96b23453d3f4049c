/-- what the model's walk leaves -/
def MR (h : HP) (nb yards : Nat) (K : Nat → Int32) (w : WS) (b : Nat → Nat) : Prop :=
  h.1 133 23 = w.2.2.2.2.2 ∧ w.2.2.2.2.1 < 2 ^ nb ∧ (∀ i, i < nb → h.1 145 i = w.1 i ∧ h.1 147 i = (if w.2.2.2.2.1.testBit i = true then w.2.1 i else -1) ∧ h.1 148 i = w.2.2.1 i ∧ h.1 146 i = (if w.2.2.2.2.1.testBit i = true ∨ K i = 2 then 0 else w.2.2.2.1 i) ∧ (if w.2.2.2.2.1.testBit i = true then 0 ≤ w.2.1 i else w.2.1 i = -4)) ∧ ∀ y, y < yards → h.1 149 y = nI (b y)
theorem MW.w0 {h : HP} {nb : Nat} {S S' : Nat → Int32} (c : MW h nb (w0 S)) (hS : ∀ i, i < nb → S i = S' i) : MW h nb (w0 S') := by
  obtain ⟨c1, c2, c3⟩ := c
  exact ⟨c1, c2, fun i hi => ⟨(c3 i hi).1.trans (hS i hi), (c3 i hi).2⟩⟩
theorem WK.w0 {h : HP} {a f nb : Nat} {K S S' : Nat → Int32} {must day : Int32} (c : WK h a f nb K must day (w0 S)) (hS : ∀ i, i < nb → S i = S' i) : WK h a f nb K must day (w0 S') := by
  obtain ⟨w1, w2, w3, w4, w5, w6, w7, w8⟩ := c
  exact ⟨w1, w2, w3, w4, w5, w6, w7, fun i hi => ⟨(w8 i hi).1.trans (hS i hi), (w8 i hi).2⟩⟩
theorem goesUp_eq {h : HP} {nb ns : Nat} {ln T : Nat → Nat} {U S : Nat → Int32} {d fl : Int32} (hU : ∀ i, i < 34 → h.1 143 i = U i) (hM : MU U nb ns ln) (hd : h.1 133 17 = d) (hd2 : d = -1 ∨ 0 ≤ d) (hfl : h.1 133 16 = fl) (hS : ∀ i, i < nb → (if nI i = fl then 0 else U (22 + i)) = S i) (hT : ∀ y, y < lsum ln ns → T y < 2 ^ nb ∧ ∀ x : HP, x.1 144 = h.1 144 → F_X9_tolds 133 (nI y) x = some (nI (T y))) :
    ∃ h', F_X9_goesUp 133 h = some h' ∧ MR h' nb (lsum ln ns) (uK U) (wrun nb (uK U) (uS U ln ns) (uP U ln ns) (U 2) (U 3) d T (w0 S) (lsum ln ns)) (wbore nb (uK U) (uS U ln ns) (uP U ln ns) (U 2) (U 3) d T (w0 S)) ∧ FrM h h' := by
  have hn := hM.2.2.1
  have h120 : lsum ln ns ≤ 120 := hM.2.2.2.2.2
  obtain ⟨h1, e1, e2, e3⟩ := startsUp_eq (h := h) nb hn
  replace e2 := e2.w0 (S' := S) (fun i hi => by rw [← hS i hi, hfl, hU (22 + i) (by omega)])
  unfold F_X9_goesUp F_X9_goesUp_L14
  simp only [Nat.reduceAdd]
  rw [e1, cl_some, yardsOf_eq (q := 143) (hM.of (fun i hi => by rw [e3.1 143 (by omega)]; exact hU i hi)) rfl, cl_some]
  generalize hW0 : w0 S = W0 at e2 ⊢
  generalize hR : wrun nb (uK U) (uS U ln ns) (uP U ln ns) (U 2) (U 3) d T W0 = R
  generalize hB : wbore nb (uK U) (uS U ln ns) (uP U ln ns) (U 2) (U 3) d T W0 = B
  -- the loop over the yards
  have main : ∀ h2 : HP, MW h2 nb W0 → (∀ j, j < 120 → h2.1 149 j = 0) → FrM h h2 → ∃ h', F_X9_goesUp_J33 133 (nI (lsum ln ns)) h2 = some h' ∧ MR h' nb (lsum ln ns) (uK U) (R (lsum ln ns)) B ∧ FrM h h' := by
    intro h2 g1 g2 g3
    have fin : ∀ x : HP, MW x nb (R (lsum ln ns)) → (∀ j, j < lsum ln ns → x.1 149 j = nI (B j)) → FrM h x → ∃ h', F_X9_goesUp_J157 133 x = some h' ∧ MR h' nb (lsum ln ns) (uK U) (R (lsum ln ns)) B ∧ FrM h h' := by
      intro x q1 q2 q3
      refine ⟨_, acr_eq, ⟨q1.1, q1.2.1, fun i hi => ?_, fun y hy => ?_⟩, fun z hz => ?_, fun j hj => ?_, q3.2.2⟩
      · obtain ⟨j1, j2, j3, j4, j5⟩ := q1.2.2 i hi
        refine ⟨j1, j2, j3, ?_, j5⟩
        rw [sa_r]
        have hx : x.1 143 (28 + i) = uK U i := by rw [q3.1 143 (by omega)]; exact hU (28 + i) (by omega)
        rw [hx, j2, j4]
        have h6 : i < 6 := by omega
        by_cases hb : (R (lsum ln ns)).2.2.2.2.1.testBit i = true
        · rw [if_pos hb] at j5
          simp [hb, j5, h6]
        · have : ¬ (0 : Int32) ≤ -1 := by decide
          simp only [Bool.not_eq_true] at hb
          simp only [hb, Bool.false_eq_true, if_false, this, h6, true_and]
      · rw [sa_n (by decide)]
        exact q2 y hy
      · rw [sa_n (by omega)]
        exact q3.1 z hz
      · rw [sa_n (by decide)]
        exact q3.2.1 j hj
    unfold F_X9_goesUp_J33 F_X9_goesUp_L35
    refine lp_inv (fun y x => x.1 = nI y ∧ MW x.2 nb (R y) ∧ (∀ j, j < y → x.2.1 149 j = nI (B j)) ∧ (∀ j, y ≤ j → j < 120 → x.2.1 149 j = 0) ∧ FrM h x.2) (B := lsum ln ns) (Q := fun r => ∃ h', r = some h' ∧ MR h' nb (lsum ln ns) (uK U) (R (lsum ln ns)) B ∧ FrM h h') ?_ ?_ sg_fuel 0 (0, h2) (Nat.zero_le _) (fu (by omega)) ⟨rfl, by rw [← hR]; exact g1, fun j hj => absurd hj (Nat.not_lt_zero j), fun j _ hj => g2 j hj, g3⟩
    · rintro y ⟨x1, x2⟩ hy ⟨rfl, i1, i2, i3, i4⟩
      dsimp only at i1 i2 i3 i4 ⊢
      by_cases h4 : (R y).2.2.2.2.2 = -4
      · left
        obtain ⟨x', g5, g6, g7, g8⟩ := goes1 (x := x2) (U := U) (d := d) (y := y) (T := T y) hn (fun i hi => by rw [i4.1 143 (by omega)]; exact hU i hi) hM (by rw [i4.2.1 17 (by decide)]; exact hd) hd2 i1 hy ((hT y hy).2 x2 (i4.1 144 (by omega))) (hT y hy).1 h4
        refine ⟨(nI (y + 1), x'), ⟨rfl, ?_, fun j hj => ?_, fun j hj1 hj2 => ?_, i4.trans g8⟩, fun rc => ?_⟩
        · rw [← hR] at g6 ⊢
          exact g6
        · dsimp only
          rw [g7]
          by_cases hjy : j = y
          · subst hjy
            rw [← hB]
            unfold wbore wbear
            rw [hR, if_pos h4]
            simp only [upd, if_pos]
            split
            · rfl
            · exact i3 j (Nat.le_refl _) (by omega)
          · simp only [upd, if_neg hjy]
            exact i2 j (by omega)
        · dsimp only
          rw [g7]
          simp only [upd, if_neg (show ¬ j = y by omega)]
          exact i3 j (by omega) hj2
        · rw [if_neg (nI_ge hy (by omega)), if_pos (i1.1.trans h4)]
          exact g5 rc
      · right
        have hend : R (lsum ln ns) = R y := by
          rw [← hR]
          have := wrun_stuck (y := y) (by rw [hR]; exact h4) (lsum ln ns - y)
          rw [show y + (lsum ln ns - y) = lsum ln ns by omega] at this
          exact this
        have hbo : ∀ j, y ≤ j → B j = 0 := by
          intro j hj
          rw [← hB]
          exact wbore_stuck (by rw [hR]; exact h4) hj
        obtain ⟨h', f1, f2, f3⟩ := fin x2 (by rw [hend]; exact i1) (fun j hj => by
          rcases Nat.lt_or_ge j y with q | q
          · exact i2 j q
          · rw [i3 j q (by omega), hbo j q]; rfl) i4
        refine ⟨some h', ⟨h', rfl, f2, f3⟩, fun rc => ?_⟩
        rw [if_neg (nI_ge hy (by omega)), if_neg (fun z => h4 (i1.1.symm.trans z))]
        exact f1
    · rintro ⟨x1, x2⟩ ⟨rfl, i1, i2, i3, i4⟩
      dsimp only at i1 i2 i3 i4 ⊢
      obtain ⟨h', f1, f2, f3⟩ := fin x2 i1 i2 i4
      refine ⟨some h', ⟨h', rfl, f2, f3⟩, fun rc => ?_⟩
      rw [if_pos (Int32.le_refl _)]
      exact f1
  obtain ⟨h', f1, f2, f3⟩ := main (sa h1 149 (fun i => if i < 120 then 0 else h1.1 149 i)) ⟨e2.1, e2.2.1, fun i hi => e2.2.2 i hi⟩ (fun j hj => by rw [sa_r, if_pos hj]) ⟨fun z hz => by rw [sa_n (by omega)]; exact e3.1 z hz, fun j hj => by rw [sa_n (by decide)]; exact e3.2.1 j hj, e3.2.2⟩
  refine ⟨h', ?_, f2, f3⟩
  refine lp_seq' (fun k => (nI k, sa h1 149 (fun i => if i < k then 0 else h1.1 149 i))) 120 (fu (by omega)) ?_ (fun k hk rc => ?_) (fun rc => ?_)
  · rw [sa_id (by funext i; simp)]
    rfl
  · dsimp only
    rw [if_neg (by have := nI_ge hk (by decide); exact this), gd_ok hk (by decide), nm_eq, st_sa (by omega), sa_sa, sa_r, nI_1]
    congr 3
    funext i
    by_cases hi : i = k
    · subst hi; simp [upd]
    · simp only [upd, if_neg hi, ltk hi]
  · dsimp only
    rw [if_pos (by decide)]
    exact f1
