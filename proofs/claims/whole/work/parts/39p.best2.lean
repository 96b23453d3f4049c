/-- what a search of turns leaves as it was -/
def FZ (h h' : HP) : Prop := (∀ x, (x < 95 ∨ 117 < x) → h'.1 x = h.1 x) ∧ ∀ x, x ≠ 97 → x ≠ 104 → x ≠ 111 → h'.2 x = h.2 x
theorem FZ.rf {h : HP} : FZ h h := ⟨fun _ _ => rfl, fun _ _ _ _ => rfl⟩
theorem FZ.trans {h1 h2 h3 : HP} (p : FZ h1 h2) (q : FZ h2 h3) : FZ h1 h3 := ⟨fun x hx => (q.1 x hx).trans (p.1 x hx), fun x a b c => (q.2 x a b c).trans (p.2 x a b c)⟩
theorem FZ.kp {h h' : HP} (p : FZ h h') : Kp h h' := ⟨fun x hx => p.1 x (by unfold Pz at hx; omega), fun j hj => by rw [p.1 133 (by omega)], fun x hx => p.2 x (by omega) (by omega) (by omega)⟩
theorem FrB.fz {a : Nat} {h h' : HP} (p : FrB a h h') (ha : a = 97 ∨ a = 104 ∨ a = 111) : FZ h h' := ⟨fun x hx => p.1 x (by omega), fun x a b c => p.2 x (by omega)⟩
theorem fz_sa {h : HP} {q : Nat} {f : Nat → Int32} (hq : 95 ≤ q ∧ q ≤ 117) : FZ h (sa h q f) := ⟨fun x hx => sa_n (by omega), fun _ _ _ _ => rfl⟩
/-- one walk follows another -/
theorem follow_eq {h : HP} {a q f nb : Nat} {K : Nat → Int32} {must day : Int32} {w : WS} (hd : a + 7 ≤ q ∨ q + 7 ≤ a) (hn : nb ≤ 6) (hW : WK h q f nb K must day w) : ∃ h', F_X7_follow a q h = some h' ∧ WK h' a f nb K must day w ∧ FrB a h h' := by
  obtain ⟨w1, w2, w3, w4, w5, w6, w7, w8⟩ := hW
  unfold F_X7_follow
  rw [w1, gn_ok (by omega), nm_eq, Nat.add_sub_cancel]
  simp only [nm_eq, ui_sa, uc_sa]
  have e6 : (6 : Int32).toNatClampNeg = 6 := by decide
  have e0 : (0 : Int32).toNatClampNeg = 0 := by decide
  simp only [e6, e0, sa_sa, sa_r]
  simp (disch := omega) only [sa_n]
  simp only [ur_1]
  have cp : ∀ {f g : Nat → Int32} {i : Nat}, i < 6 → va_cpy f g 0 0 6 i = f i := fun {f g i} hi => by rw [pk_cpy_in (Nat.zero_le _) (by omega), Nat.zero_add, Nat.sub_zero]
  generalize hG : sa (sa (sa (sa (sa (ur h a 0 (f + 1)) a (upd (upd (upd (upd (upd (h.1 a) 1 (h.1 q 1)) 2 (h.1 q 2)) 3 (h.1 q 3)) 4 (h.1 q 4)) 5 (h.1 q 5))) (a + 1) (va_cpy (h.1 (q + 1)) (h.1 (a + 1)) 0 0 6)) (a + 2) (va_cpy (h.1 (q + 2)) (h.1 (a + 2)) 0 0 6)) (a + 3) (va_cpy (h.1 (q + 3)) (h.1 (a + 3)) 0 0 6)) (a + 4) (va_cpy (h.1 (q + 4)) (h.1 (a + 4)) 0 0 6) = G
  have g0 : G.1 a = upd (upd (upd (upd (upd (h.1 a) 1 (h.1 q 1)) 2 (h.1 q 2)) 3 (h.1 q 3)) 4 (h.1 q 4)) 5 (h.1 q 5) := by rw [← hG]; simp (disch := omega) only [sa_n, sa_r]
  refine ⟨G, rfl, ⟨?_, ?_, ?_, ?_, ?_, ?_, w7, fun i hi => ?_⟩, fun x hx => ?_, fun x hx => ?_⟩
  · rw [← hG]
    simp only [sa_2]
    rw [ur_2r]
  · rw [g0, upd_n (by decide), upd_n (by decide), upd_n (by decide), upd_n (by decide), upd_r]; exact w2
  · rw [g0, upd_n (by decide), upd_n (by decide), upd_n (by decide), upd_r]; exact w3
  · rw [g0, upd_n (by decide), upd_n (by decide), upd_r]; exact w4
  · rw [g0, upd_n (by decide), upd_r]; exact w5
  · rw [g0, upd_r]; exact w6
  · obtain ⟨v1, v2, v3, v4⟩ := w8 i hi
    rw [← hG]
    simp (disch := omega) only [sa_n, sa_r]
    rw [cp (by omega), cp (by omega), cp (by omega), cp (by omega)]
    exact ⟨v1, v2, v3, v4⟩
  · rw [← hG]
    simp (disch := omega) only [sa_n]
    rfl
  · rw [← hG]
    simp only [sa_2]
    rw [ur_2x hx]
theorem openC {h : HP} {a f nb i : Nat} {K : Nat → Int32} {must day : Int32} {w : WS} (hW : WK h a f nb K must day w) (h3 : h.1 95 3 = nI i) (hi : i < 6) : F_X5_isOpen 95 a h = some (if w.2.2.2.2.2 = -4 ∧ w.2.2.2.2.1.testBit i = false then 1 else 0) := by
  obtain ⟨w1, w2, w3, w4, w5, w6, w7, w8⟩ := hW
  unfold F_X5_isOpen F_X7_hasStumbled
  rw [w4, h3, w5, mk_isIn _ w7 i hi, cl_some, cl_some, b01]
  by_cases c1 : w.2.2.2.2.2 = -4
  · rw [if_pos c1]
    by_cases c2 : w.2.2.2.2.1.testBit i = true
    · rw [if_pos c2, if_neg (fun z => by rw [c2] at z; exact absurd z.2 (by decide))]
    · rw [if_neg c2, if_pos ⟨c1, by simpa using c2⟩]
  · rw [if_neg c1, if_neg (fun z => c1 z.1)]
/-- what the search knows: whose it is, the worth of his yards behind, his last yard -/
def BH (h x : HP) (i Y : Nat) (T pN : Nat → Nat) (last : Int32) : Prop := FZ h x ∧ x.1 95 3 = nI i ∧ x.1 95 4 = last ∧ ∀ y, y ≤ Y → x.1 96 y = nI (mbd T pN i Y (Y - y))
/-- what it has found -/
def BF (x : HP) (most : Nat) (F : Option Nat) : Prop := x.1 95 0 = nI most ∧ (F = none → x.1 95 5 = 0) ∧ ∀ c, F = some c → x.1 95 5 = 1 ∧ x.1 95 1 = nI (c / 200) ∧ x.1 95 2 = nI (c % 200)
theorem BF.of {x x' : HP} {most : Nat} {F : Option Nat} (b : BF x most F) (h : x'.1 95 = x.1 95) : BF x' most F := by
  unfold BF
  rw [h]
  exact b
theorem BH.of {h x x' : HP} {i Y : Nat} {T pN : Nat → Nat} {last : Int32} (b : BH h x i Y T pN last) (f : FZ x x') (h5 : x'.1 95 = x.1 95) (h6 : x'.1 96 = x.1 96) : BH h x' i Y T pN last := by
  obtain ⟨b1, b2, b3, b4⟩ := b
  refine ⟨b1.trans f, by rw [h5]; exact b2, by rw [h5]; exact b3, fun y hy => by rw [h6]; exact b4 y hy⟩
theorem nI_n4 {l : Nat} (h : l ≤ 130) : ¬ nI l = -4 := by
  have : ∀ b, b < 131 → ¬ nI b = -4 := by decide +kernel
  exact this l (by omega)
/-- his last yard, of those from lo on -/
def laP (T : Nat → Nat) (i Y : Nat) (v : Int32) (lo : Nat) : Prop := (v = -4 ∧ ∀ y, lo ≤ y → y < Y → (T y).testBit i = false) ∨ ∃ l, v = nI l ∧ lo ≤ l ∧ l < Y ∧ ∀ y, l < y → y < Y → (T y).testBit i = false
theorem lookC {h x : HP} {nb ns i : Nat} {ln T pN : Nat → Nat} {U : Nat → Int32} (hM : MU U nb ns ln) (hC : CF x 15 U nb ns ln) (hi : i < 6) (hT : ∀ y, y < lsum ln ns → x.1 79 y = nI (T y) ∧ T y < 64) (hP : ∀ y, y < lsum ln ns → uP U ln ns y = nI (pN y)) (h3 : x.1 95 3 = nI i) (hf : FZ h x) : ∃ x' last, F_X5_lookAhead 95 x = some x' ∧ BH h x' i (lsum ln ns) T pN last ∧ laP T i (lsum ln ns) last 0 ∧ (∀ j, j ≠ 4 → x'.1 95 j = x.1 95 j) ∧ FZ x x' := by
  have h120 : lsum ln ns ≤ 120 := hM.2.2.2.2.2
  generalize hY : lsum ln ns = Y at *
  unfold F_X5_lookAhead
  simp only [Nat.reduceAdd]
  have m1 : ∀ k : Nat, nI k + (-1) = (if k = 0 then -1 else nI (k - 1)) := fun k => by
    by_cases e : k = 0
    · subst e; rw [if_pos rfl]; rfl
    · rw [if_neg e]
      have := nI_m (k := k - 1)
      rw [show k - 1 + 1 = k by omega] at this
      exact this
  have m2 : nI Y - 1 = (if Y = 0 then -1 else nI (Y - 1)) := by
    by_cases e : Y = 0
    · subst e; rw [if_pos rfl]; rfl
    · rw [if_neg e]
      have := nI_pred (Y - 1)
      rw [show Y - 1 + 1 = Y by omega] at this
      exact this
  have c1 : x.1 15 1 = nI Y := by rw [← hY]; exact hC.2.1
  rw [nm_eq, ui_sa, sa_n (x := 15) (by decide), c1, gd_ok (by omega) (by decide), nm_eq, st_sa (by omega), nm_eq, sa_n (x := 15) (by decide), sa_n (x := 15) (by decide), c1, m2]
  unfold F_X5_lookAhead_L29
  generalize hg : sa (sa x 95 (upd (x.1 95) 4 (-4))) 96 (upd ((sa x 95 (upd (x.1 95) 4 (-4))).1 96) Y 0) = g
  have gf : FZ x g := by rw [← hg]; exact (fz_sa (by omega)).trans (fz_sa (by omega))
  have g95 : g.1 95 = upd (x.1 95) 4 (-4) := by rw [← hg, sa_n (by decide), sa_r]
  have g96 : g.1 96 Y = 0 := by rw [← hg, sa_r, upd_r]
  refine lp_inv' (fun d z => z.1 = (if d = Y then -1 else nI (Y - 1 - d)) ∧ FZ x z.2 ∧ (∀ y, Y - d ≤ y → y ≤ Y → z.2.1 96 y = nI (mbd T pN i Y (Y - y))) ∧ (∀ j, j ≠ 4 → z.2.1 95 j = x.1 95 j) ∧ laP T i Y (z.2.1 95 4) (Y - d)) (B := Y) (Q := fun r => ∃ x' last, r = some x' ∧ BH h x' i Y T pN last ∧ laP T i Y last 0 ∧ (∀ j, j ≠ 4 → x'.1 95 j = x.1 95 j) ∧ FZ x x') ?_ ?_ sg_fuel 0 (if Y = 0 then -1 else nI (Y - 1), g) (Nat.zero_le _) (fu (by omega)) ⟨?_, gf, fun y h1 h2 => ?_, fun j hj => by rw [g95, upd_n hj], Or.inl ⟨by rw [g95, upd_r], fun y h1 h2 => absurd h1 (by omega)⟩⟩
  · rintro d ⟨z1, z2⟩ rc hd ⟨i1, i2, i3, i4, i5⟩
    left
    dsimp only at i1 i2 i3 i4 i5 ⊢
    rw [if_neg (by omega)] at i1
    subst i1
    generalize hy : Y - 1 - d = y
    have hyY : y < Y := by omega
    have hYd : Y - d = y + 1 := by omega
    rw [hYd] at i3 i5
    obtain ⟨t1, t2⟩ := hT y hyY
    have hFz : FU z2 15 nb Y (uK U) (uS U ln ns) (uP U ln ns) (U 3) := by rw [← hY]; exact (hC.of (h' := z2) (fun q a b => i2.1 q (by omega))).FU hM
    rw [if_neg (nI_pos (by omega)), gd_ok (by omega) (by decide), i4 3 (by decide), h3, ld_nI (by omega), i2.1 79 (by omega), t1, mk_isIn _ t2 i hi, cl_some, nI_1, gd_ok (by omega) (by decide), b01, (slope_eq hFz hyY).2, cl_some, hP y hyY, ld_nI (by omega), i3 (y + 1) (by omega) (by omega)]
    have e60 : (60 : Int32) * nI (pN y) = nI (60 * pN y) := pk_mul 60 _
    have hmb : mbd T pN i Y (Y - y) = mbd T pN i Y (Y - (y + 1)) + (if (T y).testBit i = true then 60 * pN y else 0) := by
      rw [show Y - y = (Y - (y + 1)) + 1 by omega]
      show mbd T pN i Y (Y - (y + 1)) + (if (T (Y - (Y - (y + 1) + 1))).testBit i = true then 60 * pN (Y - (Y - (y + 1) + 1)) else 0) = _
      rw [show Y - (Y - (y + 1) + 1) = y by omega]
    have hz : (if y = 0 then (-1 : Int32) else nI (y - 1)) = (if d + 1 = Y then -1 else nI (Y - 1 - (d + 1))) := by
      by_cases e : y = 0
      · rw [if_pos e, if_pos (by omega)]
      · rw [if_neg e, if_neg (by omega), show y - 1 = Y - 1 - (d + 1) by omega]
    have hYd1 : Y - (d + 1) = y := by omega
    have hm96 : ∀ (w : HP) (v : Int32), v = nI (mbd T pN i Y (Y - y)) → w.1 96 = upd (z2.1 96) y v → ∀ q, y ≤ q → q ≤ Y → w.1 96 q = nI (mbd T pN i Y (Y - q)) := by
      intro w v hv hw q q1 q2
      rw [hw]
      by_cases e : q = y
      · subst e; rw [upd_r, hv]
      · rw [upd_n e]; exact i3 q (by omega) q2
    unfold F_X5_lookAhead_J79 F_X5_lookAhead_J99
    simp only [Nat.reduceAdd]
    rw [m1 y]
    by_cases hb : (T y).testBit i = true
    · rw [if_pos hb]
      rw [if_pos hb] at hmb
      rw [gd_ok (by omega) (by decide), nm_eq, st_sa (by omega), if_pos hb, if_neg (show ¬ (1 : Int32) = 0 by decide), e60, nI_add, ← hmb, sa_n (q := 96) (x := 95) (by decide), nm_eq, ui_sa, sa_n (q := 96) (x := 95) (by decide)]
      by_cases h4 : z2.1 95 4 = -4
      · rw [if_pos h4]
        have hno : ∀ q, y < q → q < Y → (T q).testBit i = false := by
          rcases i5 with ⟨_, i6⟩ | ⟨l, l1, l2, l3, _⟩
          · exact fun q q1 q2 => i6 q (by omega) q2
          · rw [h4] at l1
            exact absurd l1.symm (nI_n4 (by omega))
        refine ⟨_, ⟨hz, i2.trans ((fz_sa (by omega)).trans (fz_sa (by omega))), ?_, fun j hj => ?_, Or.inr ⟨y, ?_, by omega, hyY, hno⟩⟩, rfl⟩
        · rw [hYd1]
          exact hm96 _ _ rfl (by rw [sa_n (by decide), sa_r])
        · dsimp only
          rw [sa_r, upd_n hj]
          exact i4 j hj
        · dsimp only
          rw [sa_r, upd_r]
      · rw [if_neg h4]
        refine ⟨_, ⟨hz, i2.trans (fz_sa (by omega)), ?_, fun j hj => ?_, ?_⟩, rfl⟩
        · rw [hYd1]
          exact hm96 _ _ rfl (by rw [sa_r])
        · dsimp only
          rw [sa_n (by decide)]
          exact i4 j hj
        · dsimp only
          rw [sa_n (by decide)]
          rcases i5 with ⟨i6, _⟩ | ⟨l, l1, l2, l3, l4⟩
          · exact absurd i6 h4
          · exact Or.inr ⟨l, l1, by omega, l3, l4⟩
    · rw [if_neg hb]
      rw [if_neg hb] at hmb
      have hb' : (T y).testBit i = false := by simpa using hb
      rw [gd_ok (by omega) (by decide), nm_eq, st_sa (by omega), if_neg hb, if_pos rfl, Int32.add_zero]
      refine ⟨_, ⟨hz, i2.trans (fz_sa (by omega)), ?_, fun j hj => ?_, ?_⟩, rfl⟩
      · rw [hYd1]
        exact hm96 _ _ (by rw [hmb, Nat.add_zero]) (by rw [sa_r])
      · dsimp only
        rw [sa_n (by decide)]
        exact i4 j hj
      · dsimp only
        rw [sa_n (by decide)]
        rcases i5 with ⟨i6, i7⟩ | ⟨l, l1, l2, l3, l4⟩
        · refine Or.inl ⟨i6, fun q q1 q2 => ?_⟩
          by_cases e : q = y
          · subst e; exact hb'
          · exact i7 q (by omega) q2
        · exact Or.inr ⟨l, l1, by omega, l3, l4⟩
  · rintro ⟨z1, z2⟩ rc ⟨i1, i2, i3, i4, i5⟩
    dsimp only at i1 i2 i3 i4 i5 ⊢
    rw [if_pos rfl] at i1
    subst i1
    rw [if_pos (show (-1 : Int32) < 0 by decide)]
    rw [Nat.sub_self] at i3 i5
    exact ⟨z2, z2.1 95 4, rfl, ⟨hf.trans i2, by rw [i4 3 (by decide)]; exact h3, rfl, fun y hy => i3 y (Nat.zero_le _) hy⟩, i5, i4, i2⟩
  · by_cases e : Y = 0
    · rw [if_pos e, if_pos e.symm]
    · rw [if_neg e, if_neg (fun z => e z.symm), Nat.sub_zero]
  · have : y = Y := by omega
    subst this
    rw [g96, Nat.sub_self]
    rfl
