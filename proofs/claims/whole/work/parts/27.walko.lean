theorem wstep_4 {nb : Nat} {K : Nat → Int32} {must : Int32} {m : Nat} {base worth y : Int32} {w : WS} (h : ¬ w.2.2.2.2.2 = -4) : wstep nb K must m base worth y w = w := by
  unfold wstep
  rw [if_neg h]
theorem wrun_stuck {nb : Nat} {K SL PR : Nat → Int32} {must wet day : Int32} {T : Nat → Nat} {w : WS} {y : Nat} (h : ¬ (wrun nb K SL PR must wet day T w y).2.2.2.2.2 = -4) : ∀ d, wrun nb K SL PR must wet day T w (y + d) = wrun nb K SL PR must wet day T w y
  | 0 => rfl
  | d + 1 => by
    rw [← Nat.add_assoc]
    show wstep nb K must (T (y + d)) (wbase SL wet day (y + d)) (60 * PR (y + d)) (nI (y + d)) (wrun nb K SL PR must wet day T w (y + d)) = _
    rw [wrun_stuck h d, wstep_4 h]
theorem wbore_stuck {nb : Nat} {K SL PR : Nat → Int32} {must wet day : Int32} {T : Nat → Nat} {w : WS} {y j : Nat} (h : ¬ (wrun nb K SL PR must wet day T w y).2.2.2.2.2 = -4) (hj : y ≤ j) : wbore nb K SL PR must wet day T w j = 0 := by
  obtain ⟨d, rfl⟩ : ∃ d, j = y + d := ⟨j - y, by omega⟩
  unfold wbore wbear
  rw [wrun_stuck h d, if_neg h]
/-- the model's walk -/
def MW (h : HP) (nb : Nat) (w : WS) : Prop :=
  h.1 133 23 = w.2.2.2.2.2 ∧ w.2.2.2.2.1 < 2 ^ nb ∧ ∀ i, i < nb → h.1 145 i = w.1 i ∧ h.1 147 i = (if w.2.2.2.2.1.testBit i = true then w.2.1 i else -1) ∧ h.1 148 i = w.2.2.1 i ∧ h.1 146 i = w.2.2.2.1 i ∧ (if w.2.2.2.2.1.testBit i = true then 0 ≤ w.2.1 i else w.2.1 i = -4)
def FrM (h h' : HP) : Prop := (∀ x, (x < 133 ∨ (133 < x ∧ x < 145) ∨ 149 < x) → h'.1 x = h.1 x) ∧ (∀ j, j ≠ 23 → h'.1 133 j = h.1 133 j) ∧ h'.2 = h.2
theorem FrM.trans {h1 h2 h3 : HP} (p : FrM h1 h2) (q : FrM h2 h3) : FrM h1 h3 := ⟨fun x hx => (q.1 x hx).trans (p.1 x hx), fun j hj => (q.2.1 j hj).trans (p.2.1 j hj), q.2.2.trans p.2.2⟩
theorem FrM.rfl' {h : HP} : FrM h h := ⟨fun _ _ => rfl, fun _ _ => rfl, rfl⟩
theorem startsUp_eq {h : HP} (nb : Nat) (hn : nb ≤ 6) : ∃ h', F_X9_startsUp 133 h = some h' ∧ MW h' nb (w0 (fun i => if nI i = h.1 133 16 then 0 else h.1 143 (22 + i))) ∧ FrM h h' := by
  unfold F_X9_startsUp F_X9_startsUp_L2
  simp only [Nat.reduceAdd]
  refine lp_inv (fun k x => x.1 = nI k ∧ (∀ i, i < k → x.2.1 145 i = (if nI i = h.1 133 16 then 0 else h.1 143 (22 + i)) ∧ x.2.1 147 i = -1 ∧ x.2.1 148 i = 0 ∧ x.2.1 146 i = 0) ∧ FrM h x.2) (B := 6) (Q := fun r => ∃ h', r = some h' ∧ MW h' nb (w0 (fun i => if nI i = h.1 133 16 then 0 else h.1 143 (22 + i))) ∧ FrM h h') ?_ ?_ sg_fuel 0 (0, h) (Nat.zero_le _) (fu (by omega)) ⟨rfl, fun i hi => absurd hi (Nat.not_lt_zero i), FrM.rfl'⟩
  · rintro k ⟨x1, x2⟩ hk ⟨rfl, i1, i2⟩
    dsimp only at i1 i2 ⊢
    have hJ : ∀ rc s, F_X9_startsUp_J34 133 rc (nI k) s (nI k) x2 = rc (nI (k + 1), sa (sa (sa (sa x2 145 (upd (x2.1 145) k s)) 146 (upd (x2.1 146) k 0)) 147 (upd (x2.1 147) k (-1))) 148 (upd (x2.1 148) k 0)) := by
      intro rc s
      unfold F_X9_startsUp_J34
      simp only [Nat.reduceAdd]
      rw [gd_ok hk (by decide), nm_eq, gd_ok hk (by decide), nm_eq, gd_ok hk (by decide), nm_eq, gd_ok hk (by decide), nm_eq, nI_1]
      simp only [st_sa (show k < 2 ^ 31 by omega)]
      rfl
    refine Or.inl ⟨(nI (k + 1), sa (sa (sa (sa x2 145 (upd (x2.1 145) k (if nI k = h.1 133 16 then 0 else h.1 143 (22 + k)))) 146 (upd (x2.1 146) k 0)) 147 (upd (x2.1 147) k (-1))) 148 (upd (x2.1 148) k 0)), ?_, fun rc => ?_⟩
    rotate_left
    · rw [if_neg (by have := nI_ge hk (by decide); exact this), lit_add 22 k, gd_ok (by omega) (by decide), hJ, hJ, ld_nI (by omega), i2.2.1 16 (by decide), i2.1 143 (by omega)]
      split <;> rfl
    · skip
      refine ⟨rfl, fun i hi => ?_, fun x hx => ?_, fun j hj => ?_, i2.2.2⟩
      · by_cases hik : i = k
        · subst hik
          simp [sa_g, upd]
        · have := i1 i (by omega)
          simpa [sa_g, upd, hik] using this
      · dsimp only
        rw [sa_n (by omega), sa_n (by omega), sa_n (by omega), sa_n (by omega)]
        exact i2.1 x hx
      · dsimp only
        rw [sa_n (by omega), sa_n (by omega), sa_n (by omega), sa_n (by omega)]
        exact i2.2.1 j hj
  · rintro ⟨x1, x2⟩ ⟨rfl, i1, i2⟩
    dsimp only at i1 i2 ⊢
    refine ⟨some (sa x2 133 (upd (x2.1 133) 23 (-4))), ⟨_, rfl, ⟨?_, ?_, fun i hi => ?_⟩, fun x hx => ?_, fun j hj => ?_, i2.2.2⟩, fun rc => rfl⟩
    · rw [sa_r]
      rfl
    · exact Nat.two_pow_pos nb
    · obtain ⟨j1, j2, j3, j4⟩ := i1 i (by omega)
      rw [sa_n (by decide), sa_n (by decide), sa_n (by decide), sa_n (by decide)]
      refine ⟨j1, ?_, j3, j4, ?_⟩
      · rw [j2]
        simp [w0]
      · simp [w0]
    · rw [sa_n (by omega)]
      exact i2.1 x hx
    · rw [sa_r]
      simp only [upd, if_neg hj]
      exact i2.2.1 j hj
theorem asItIs_eq {h : HP} : F_X9_asItIs 133 h = some (sa (sa (sa h 143 (fun i => if i < 34 then h.1 134 i else h.1 143 i)) 144 (fun i => if i < 31 then h.1 136 i else h.1 144 i)) 133 (upd (upd (h.1 133) 16 (-1)) 17 (-1))) := by
  unfold F_X9_asItIs F_X9_asItIs_L2
  simp only [Nat.reduceAdd]
  refine lp_seq' (fun k => (nI k, sa h 143 (fun i => if i < k then h.1 134 i else h.1 143 i))) 34 (fu (by omega)) ?_ (fun k hk rc => ?_) (fun rc => ?_)
  · rw [sa_id (by funext i; simp)]
    rfl
  · dsimp only
    rw [if_neg (by have := nI_ge hk (by decide); exact this), gd_ok hk (by decide), gd_ok hk (by decide), nm_eq, st_sa (by omega), sa_sa, sa_r, ld_nI (by omega), sa_n (by decide), nI_1]
    congr 3
    funext i
    by_cases hi : i = k
    · subst hi; simp [upd]
    · simp only [upd, if_neg hi, ltk hi]
  · dsimp only
    rw [if_pos (by decide)]
    unfold F_X9_asItIs_J26 F_X9_asItIs_L28
    simp only [Nat.reduceAdd]
    refine lp_seq' (fun k => (nI k, sa (sa h 143 (fun i => if i < 34 then h.1 134 i else h.1 143 i)) 144 (fun i => if i < k then h.1 136 i else h.1 144 i))) 31 (fu (by omega)) ?_ (fun k hk rc => ?_) (fun rc => ?_)
    · rw [sa_id (q := 144) (by funext i; simp [sa_g])]
      rfl
    · dsimp only
      rw [if_neg (by have := nI_ge hk (by decide); exact this), gd_ok hk (by decide), gd_ok hk (by decide), nm_eq, st_sa (by omega), sa_sa, sa_r, ld_nI (by omega), sa_n (by decide), sa_n (by decide), nI_1]
      congr 3
      funext i
      by_cases hi : i = k
      · subst hi; simp [upd]
      · simp only [upd, if_neg hi, ltk hi]
    · dsimp only
      rw [if_pos (by decide)]
      unfold F_X9_asItIs_J52
      simp only [nm_eq, ui_sa, sa_sa, sa_r]
      rw [sa_n (x := 133) (by decide), sa_n (x := 133) (by decide)]
