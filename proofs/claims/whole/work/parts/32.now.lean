theorem tmask_lt2 {wh fr to : Nat → Nat} {pr : Nat → Bool} {y nb : Nat} : ∀ {n : Nat}, (∀ k, k < n → wh k < nb) → tmask wh fr to pr y n < 2 ^ nb
  | 0, _ => Nat.two_pow_pos nb
  | n + 1, h => by
    unfold tmask
    refine Nat.or_lt_two_pow (tmask_lt2 (fun k hk => h k (by omega))) ?_
    split
    · exact Nat.pow_lt_pow_right (by decide) (h n (by omega))
    · exact Nat.two_pow_pos nb
/-- one's acres -/
def acr (K : Nat → Int32) (w : WS) (i : Nat) : Int32 := if w.2.2.2.2.1.testBit i = true ∨ K i = 2 then 0 else w.2.2.2.1 i
theorem acres_eq {h : HP} {a f nb i : Nat} {K : Nat → Int32} {must day : Int32} {w : WS} (hW : WK h a f nb K must day w) (hK : h.1 (f + 5) i = K i) (hn : nb ≤ 6) (hi : i < nb) : F_X7_acres a (nI i) h = some (acr K w i) := by
  obtain ⟨w1, w2, w3, w4, w5, w6, w7, w8⟩ := hW
  unfold F_X7_acres F_X7_hasStumbled acr
  rw [w1, gn_ok (by omega), nm_eq, Nat.add_sub_cancel, gd_ok (by omega) (by decide), ld_nI (by omega), hK, w5, mk_isIn _ w7 i (by omega), cl_some, cl_some, b01, gd_ok (by omega) (by decide), ld_nI (by omega), (w8 i hi).2.2.2]
  by_cases h2 : K i = 2
  · rw [if_pos h2, if_pos (Or.inr h2)]
  · rw [if_neg h2]
    by_cases h3 : w.2.2.2.2.1.testBit i = true
    · rw [if_pos h3, if_pos (Or.inl h3)]
    · rw [if_neg h3, if_neg (fun z => z.elim h3 h2)]
/-- what the model's walking calls leave as it was -/
def FM (h h' : HP) : Prop := (∀ x, (x < 133 ∨ (133 < x ∧ x < 143) ∨ 149 < x) → h'.1 x = h.1 x) ∧ (∀ j, j ≠ 16 → j ≠ 17 → j ≠ 23 → h'.1 133 j = h.1 133 j) ∧ h'.2 = h.2
theorem FM.rf {h : HP} : FM h h := ⟨fun _ _ => rfl, fun _ _ _ _ => rfl, rfl⟩
theorem FM.trans {h1 h2 h3 : HP} (p : FM h1 h2) (q : FM h2 h3) : FM h1 h3 := ⟨fun x hx => (q.1 x hx).trans (p.1 x hx), fun j a b c => (q.2.1 j a b c).trans (p.2.1 j a b c), q.2.2.trans p.2.2⟩
theorem FrM.fm {h h' : HP} (p : FrM h h') : FM h h' := ⟨fun x hx => p.1 x (by omega), fun j _ _ hj => p.2.1 j hj, p.2.2⟩
theorem FM.kp {h h' : HP} (p : FM h h') : Kp h h' := ⟨fun x hx => p.1 x (by unfold Pz at hx; omega), fun j hj => p.2.1 j (by omega) (by omega) (by omega), fun x hx => by rw [p.2.2]⟩
/-- the model's own copy is laid -/
theorem asItIs_ok (h : HP) : ∃ ha, F_X9_asItIs 133 h = some ha ∧ FM h ha ∧ (∀ i, i < 34 → ha.1 143 i = h.1 134 i) ∧ (∀ i, i < 31 → ha.1 144 i = h.1 136 i) ∧ ha.1 133 16 = -1 ∧ ha.1 133 17 = -1 := by
  refine ⟨_, asItIs_eq, ⟨fun x hx => ?_, fun j h1 h2 h3 => ?_, rfl⟩, fun i hi => ?_, fun i hi => ?_, ?_, ?_⟩
  · rw [sa_n (by omega), sa_n (by omega), sa_n (by omega)]
  · rw [sa_r, upd_n h2, upd_n h1]
  · rw [sa_n (by decide), sa_n (by decide), sa_r, if_pos hi]
  · rw [sa_n (by decide), sa_r, if_pos hi]
  · rw [sa_r, upd_n (by decide), upd_r]
  · rw [sa_r, upd_r]
theorem TM.of {B B' : Nat → Int32} {n : Nat} {wh fr to : Nat → Nat} (c : TM B n wh fr to) (h : ∀ i, i < 31 → B' i = B i) : TM B' n wh fr to := by
  obtain ⟨t1, t2, t3⟩ := c
  refine ⟨by rw [h 0 (by decide)]; exact t1, t2, fun k hk => ?_⟩
  rw [h (1 + k) (by omega), h (11 + k) (by omega), h (21 + k) (by omega)]
  exact t3 k hk
theorem tolds_all {h : HP} {nb n Y : Nat} {wh fr to : Nat → Nat} (hT : TM (h.1 144) n wh fr to) (hw : ∀ k, k < n → wh k < nb) (hY : Y ≤ 120) : ∀ y, y < Y → TA n wh fr to y < 2 ^ nb ∧ ∀ x : HP, x.1 144 = h.1 144 → F_X9_tolds 133 (nI y) x = some (nI (TA n wh fr to y)) := by
  intro y hy
  exact ⟨tmask_lt2 hw, fun x hx => tolds_eq (by rw [hx]; exact hT) (by omega)⟩
theorem nI_m1 {i : Nat} (h : i < 6) : ¬ nI i = -1 := by
  have : ∀ i, i < 6 → ¬ nI i = -1 := by decide
  exact this i h
/-- the model walks as it is -/
theorem asGo {h : HP} {nb ns n : Nat} {ln wh fr to : Nat → Nat} (c : Core h nb ns ln n wh fr to) : ∃ ha h2, F_X9_asItIs 133 h = some ha ∧ F_X9_goesUp 133 ha = some h2 ∧ MR h2 nb (lsum ln ns) (uK (h.1 134)) (WR (h.1 134) nb ns ln (-1) (TA n wh fr to) (uT (h.1 134)) (lsum ln ns)) (WB (h.1 134) nb ns ln (-1) (TA n wh fr to) (uT (h.1 134))) ∧ FM h ha ∧ FM h h2 ∧ (∀ i, i < 31 → ha.1 144 i = h.1 136 i) := by
  obtain ⟨ha, a1, a2, a3, a4, a5, a6⟩ := asItIs_ok h
  obtain ⟨c1, c2, c3, c4, c5, c6⟩ := c
  have hn := c1.1.2.2.1
  obtain ⟨h2, g1, g2, g3⟩ := goesUp_eq (h := ha) (S := uT (h.1 134)) (T := TA n wh fr to) a3 c1.1 a6 (Or.inl rfl) a5 (fun i hi => by rw [if_neg (nI_m1 (by omega))]; rfl) (tolds_all (c4.of a4) c5 c1.1.2.2.2.2.2)
  exact ⟨ha, h2, a1, g1, g2, a2, a2.trans g3.fm, a4⟩
theorem step_stands (h : HP) (hI : Inv h) : ∃ (r : Int32) (h2 : HP), F_X8_stands 0 h = some r ∧ F_X9_stands 133 h = some (r, h2) ∧ Inv h2 := by
  have hI0 := hI
  obtain ⟨nb, ns, ln, n, wh, fr, to, c, t, u, k, q⟩ := hI
  obtain ⟨ha, h2, a1, a2, a3, a4, a5, a6⟩ := asGo c
  refine ⟨_, h2, rfl, ?_, a5.kp.inv hI0⟩
  unfold F_X9_stands
  rw [a1, cl_some, a2, cl_some, a3.1]
  simp only [Nat.reduceAdd]
  rw [c.2.2.2.2.2.2.1.2.2.2.1]
theorem step_yard (h : HP) (hI : Inv h) (x1 x2 : Int32) : ∃ (r : Int32) (h2 : HP), F_X8_yard 0 x1 x2 h = some r ∧ F_X9_yard 133 x1 x2 h = some (r, h2) ∧ Inv h2 := by
  have hI0 := hI
  obtain ⟨nb, ns, ln, n, wh, fr, to, c, t, u, k, q⟩ := hI
  obtain ⟨ha, h2, a1, a2, a3, a4, a5, a6⟩ := asGo c
  obtain ⟨c1, c2, c3, c4, c5, c6, c7, c8⟩ := c
  have h120 : lsum ln ns ≤ 120 := c1.1.2.2.2.2.2
  unfold F_X8_yard F_X9_yard
  simp only [Nat.reduceAdd]
  rw [hasY c2.2.1, cl_some, b01, isY c1, cl_some, b01, inL (l := 0) (m := 4) (by decide) (by decide), cl_some, b01]
  by_cases hx : 0 ≤ x1 ∧ x1 < nI (lsum ln ns)
  · rw [if_pos hx, if_pos hx]
    obtain ⟨y, rfl, hy⟩ := nI_ex hx.1 hx.2 (by omega)
    obtain ⟨s1, s2, s3⟩ := so_spec hy
    have hns := c1.1.2.2.2.1
    have hF := c2.FU c1.1
    rw [stretchAt_eq c1.1 rfl s1 s2 s3, cl_some, a1, cl_some, (slope_eq hF hy).1, (slope_eq hF hy).2, tolds_eq (n := n) (wh := wh) (fr := fr) (to := to) (c4.of a6) (by omega), a2]
    simp only [cl_some]
    have hU : ha.1 134 = h.1 134 := a4.1 134 (by omega)
    rw [lit_add 10, lit_add 16, gd_ok (j := 10 + so ln y ns) (by omega) (by decide), gd_ok (j := 16 + so ln y ns) (by omega) (by decide), ld_nI (j := 10 + so ln y ns) (by omega), ld_nI (j := 16 + so ln y ns) (by omega), hU]
    simp only [gd_ok (show y < 120 by omega) (show 120 < 2 ^ 31 by decide), ld_nI (show y < 2 ^ 31 by omega), a3.2.2.2 y hy]
    rw [c2.2.2.2.2.2.2.2 y hy, c6 y hy, c8 y hy]
    by_cases h4 : 0 ≤ x2 ∧ x2 ≤ 4
    · rw [if_pos h4]
      obtain ⟨w, rfl, hw1, hw2⟩ := nI_ex2 (l := 0) (m := 4) h4.1 h4.2 (by decide) (by decide)
      have : w = 0 ∨ w = 1 ∨ w = 2 ∨ w = 3 ∨ w = 4 := by omega
      rcases this with rfl | rfl | rfl | rfl | rfl
      · exact ⟨_, ha, rfl, rfl, a4.kp.inv hI0⟩
      · exact ⟨_, ha, rfl, rfl, a4.kp.inv hI0⟩
      · exact ⟨_, ha, rfl, rfl, a4.kp.inv hI0⟩
      · exact ⟨_, ha, rfl, rfl, a4.kp.inv hI0⟩
      · exact ⟨_, h2, rfl, rfl, a5.kp.inv hI0⟩
    · rw [if_neg h4]
      refine ⟨_, h, ?_, rfl, hI0⟩
      rw [if_neg (fun e => h4 (by rw [e]; decide)), if_neg (fun e => h4 (by rw [e]; decide)), if_neg (fun e => h4 (by rw [e]; decide)), if_neg (fun e => h4 (by rw [e]; decide)), if_neg (fun e => h4 (by rw [e]; decide))]
  · rw [if_neg hx, if_neg hx]
    exact ⟨_, _, rfl, rfl, hI0⟩
theorem step_bearer (h : HP) (hI : Inv h) (x1 x2 : Int32) : ∃ (r : Int32) (h2 : HP), F_X8_bearer 0 x1 x2 h = some r ∧ F_X9_bearer 133 x1 x2 h = some (r, h2) ∧ Inv h2 := by
  have hI0 := hI
  obtain ⟨nb, ns, ln, n, wh, fr, to, c, t, u, k, q⟩ := hI
  obtain ⟨ha, h2, a1, a2, a3, a4, a5, a6⟩ := asGo c
  obtain ⟨c1, c2, c3, c4, c5, c6, c7, c8⟩ := c
  have hn : nb ≤ 6 := c1.1.2.2.1
  unfold F_X8_bearer F_X9_bearer
  simp only [Nat.reduceAdd]
  rw [hasB c2.2.2.1, cl_some, b01, isB c1.1.2.1 c1.2.1 hn, cl_some, b01, inL (l := 0) (m := 5) (by decide) (by decide), cl_some, b01, a1, cl_some, a2, cl_some]
  by_cases hx : 0 ≤ x1 ∧ x1 < nI nb
  · rw [if_pos hx, if_pos hx]
    obtain ⟨i, rfl, hi⟩ := nI_ex hx.1 hx.2 (by omega)
    obtain ⟨j1, j2, j3, j4, j5⟩ := a3.2.2.1 i hi
    obtain ⟨d1, d2⟩ := c2.2.2.2.2.2.2.1 i hi
    have hU : h2.1 134 = h.1 134 := a5.1 134 (by omega)
    rw [lit_add 22, lit_add 28, gd_ok (j := 22 + i) (by omega) (by decide), gd_ok (j := 28 + i) (by omega) (by decide), ld_nI (j := 22 + i) (by omega), ld_nI (j := 28 + i) (by omega), hU, acres_eq c7 d2 hn hi, cl_some]
    simp only [gd_ok (show i < 6 by omega) (show 6 < 2 ^ 31 by decide), ld_nI (show i < 2 ^ 31 by omega)]
    obtain ⟨w1, w2, w3, w4, w5, w6, w7, w8⟩ := c7
    obtain ⟨e1, e2, e3, e4⟩ := w8 i hi
    rw [j1, j2, j3, j4, e1, e2, e3, d1, d2]
    by_cases h4 : 0 ≤ x2 ∧ x2 ≤ 5
    · rw [if_pos h4]
      obtain ⟨w, rfl, hw1, hw2⟩ := nI_ex2 (l := 0) (m := 5) h4.1 h4.2 (by decide) (by decide)
      have : w = 0 ∨ w = 1 ∨ w = 2 ∨ w = 3 ∨ w = 4 ∨ w = 5 := by omega
      rcases this with rfl | rfl | rfl | rfl | rfl | rfl
      · exact ⟨_, h2, rfl, rfl, a5.kp.inv hI0⟩
      · exact ⟨_, h2, rfl, rfl, a5.kp.inv hI0⟩
      · exact ⟨_, h2, rfl, rfl, a5.kp.inv hI0⟩
      · exact ⟨_, h2, rfl, rfl, a5.kp.inv hI0⟩
      · refine ⟨_, h2, rfl, ?_, a5.kp.inv hI0⟩
        rw [if_neg (by decide), if_neg (by decide), if_neg (by decide), if_neg (by decide), if_pos (by decide)]
        by_cases hb : (WR (h.1 134) nb ns ln (-1) (TA n wh fr to) (uT (h.1 134)) (lsum ln ns)).2.2.2.2.1.testBit i = true
        · rw [if_pos hb] at j5 ⊢
          rw [if_pos j5]
        · rw [if_neg hb] at j5 ⊢
          rw [if_neg (by decide), j5]
      · exact ⟨_, h2, rfl, rfl, a5.kp.inv hI0⟩
    · rw [if_neg h4]
      refine ⟨_, h, ?_, rfl, hI0⟩
      rw [if_neg (fun e => h4 (by rw [e]; decide)), if_neg (fun e => h4 (by rw [e]; decide)), if_neg (fun e => h4 (by rw [e]; decide)), if_neg (fun e => h4 (by rw [e]; decide)), if_neg (fun e => h4 (by rw [e]; decide)), if_neg (fun e => h4 (by rw [e]; decide))]
  · rw [if_neg hx, if_neg hx]
    exact ⟨_, _, rfl, rfl, hI0⟩
