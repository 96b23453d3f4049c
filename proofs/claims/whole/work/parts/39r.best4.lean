theorem vld_ab {Y a b : Nat} (hab : a ≤ b) (hb : b < Y) (h2 : b < 200) : vld Y (200 * a + b) := by
  unfold vld
  rw [show (200 * a + b) / 200 = a by omega, show (200 * a + b) % 200 = b by omega]
  exact ⟨hab, hb⟩
theorem tY_low {T : Nat → Nat} {i a y : Nat} (h : y < a) : tY T i a y = T y := by
  unfold tY
  rw [if_neg (by omega), Nat.or_zero]
theorem tY_at {T : Nat → Nat} {i a y : Nat} (h : a ≤ y) : tY T i a y = T y ||| 2 ^ i := by
  unfold tY
  rw [if_pos h]
theorem fromC {h x : HP} {nb ns i a A0 most : Nat} {ln T : Nat → Nat} {U : Nat → Int32} {last : Int32} {F : Option Nat} (v : HV U nb ns ln) (hC : CF h 15 U nb ns ln) (hT : ∀ y, y < lsum ln ns → h.1 79 y = nI (T y) ∧ T y < 2 ^ nb) (hi : i < nb) (hA : A0 ≤ 64800) (hA0 : A0 = acN (uK U) (WR U nb ns ln (-1) T (uT U) (lsum ln ns)) i) (hH : BH h x i (lsum ln ns) T (pNu U ln ns) last) (hl : laP T i (lsum ln ns) last 0) (hW : WK x 97 15 nb (uK U) (U 2) (-1) (WR U nb ns ln (-1) T (uT U) a)) (ha : a < lsum ln ns) (hop : (WR U nb ns ln (-1) T (uT U) a).2.2.2.2.2 = -4 ∧ (WR U nb ns ln (-1) T (uT U) a).2.2.2.2.1.testBit i = false) (hF : BF x most F) (hS : BS (Wc U nb ns ln T i) (lsum ln ns) A0 (200 * a) most F) : ∃ x' most' F', F_X5_seekFrom 95 (nI a) x = some x' ∧ BH h x' i (lsum ln ns) T (pNu U ln ns) last ∧ BF x' most' F' ∧ BS (Wc U nb ns ln T i) (lsum ln ns) A0 (200 * a + lsum ln ns) most' F' ∧ WK x' 97 15 nb (uK U) (U 2) (-1) (WR U nb ns ln (-1) T (uT U) a) := by
  have hn := v.1.2.2.1
  have h120 : lsum ln ns ≤ 120 := v.1.2.2.2.2.2
  obtain ⟨x1, f1, f2, f3⟩ := follow_eq (a := 104) (q := 97) (by omega) hn hW
  have hlow : WR U nb ns ln (-1) T (uT U) a = WR U nb ns ln (-1) (tY T i a) (uT U) a := wrun_congr (fun z hz => (tY_low hz).symm)
  unfold F_X5_seekFrom
  simp only [Nat.reduceAdd]
  rw [f1, cl_some]
  unfold F_X5_seekFrom_L13
  simp only [Nat.reduceAdd]
  refine lp_inv' (fun d z => z.1 = nI (a + d) ∧ ∃ most F, BH h z.2 i (lsum ln ns) T (pNu U ln ns) last ∧ BF z.2 most F ∧ BS (Wc U nb ns ln T i) (lsum ln ns) A0 (200 * a + (a + d)) most F ∧ WK z.2 104 15 nb (uK U) (U 2) (-1) (WR U nb ns ln (-1) (tY T i a) (uT U) (a + d)) ∧ WK z.2 97 15 nb (uK U) (U 2) (-1) (WR U nb ns ln (-1) T (uT U) a)) (B := lsum ln ns - a) (Q := fun r => ∃ x' most' F', r = some x' ∧ BH h x' i (lsum ln ns) T (pNu U ln ns) last ∧ BF x' most' F' ∧ BS (Wc U nb ns ln T i) (lsum ln ns) A0 (200 * a + lsum ln ns) most' F' ∧ WK x' 97 15 nb (uK U) (U 2) (-1) (WR U nb ns ln (-1) T (uT U) a)) ?_ ?_ sg_fuel 0 (nI a, x1) (Nat.zero_le _) (fu (by omega)) ⟨rfl, most, F, hH.of (f3.fz (by omega)) (f3.1 95 (by omega)) (f3.1 96 (by omega)), hF.of (f3.1 95 (by omega)), hS.skip (by omega) (fun c q1 q2 q3 => ?_), ?_, hW.of (fun q q1 q2 => f3.1 q (by omega)) (by rw [f3.2 97 (by omega)])⟩
  · rintro d ⟨z1, z2⟩ rc hd ⟨i1, most, F, i2, i3, i4, i5, i6⟩
    dsimp only at i1 i2 i3 i4 i5 i6 ⊢
    subst i1
    generalize hy : a + d = y at *
    have hyY : y < lsum ln ns := by omega
    have e15 : z2.1 15 1 = nI (lsum ln ns) := by rw [i2.1.1 15 (by omega)]; exact hC.2.1
    rw [e15, if_neg (nI_ge hyY (by omega)), openC i5 i2.2.1 (by omega), cl_some, b01]
    by_cases c1 : (WR U nb ns ln (-1) (tY T i a) (uT U) y).2.2.2.2.2 = -4 ∧ (WR U nb ns ln (-1) (tY T i a) (uT U) y).2.2.2.2.1.testBit i = false
    · left
      rw [if_pos c1]
      have e79 : z2.1 79 y = nI (T y) := by rw [i2.1.1 79 (by omega)]; exact (hT y hyY).1
      have t64 : T y < 64 := Nat.lt_of_lt_of_le (hT y hyY).2 (two_le hn)
      have hF2 : FU z2 15 nb (lsum ln ns) (uK U) (uS U ln ns) (uP U ln ns) (U 3) := (hC.of (h' := z2) (fun q q1 q2 => by rw [i2.1.1 q (by omega)])).FU v.1
      obtain ⟨g, s1, s2, s3⟩ := step_eq (m := T y ||| 2 ^ i) (by omega) hF2 i5 hyY (or64 t64 (two64 (by omega)))
      have e79g : g.1 79 y = nI (T y) := by rw [s3.1 79 (by omega)]; exact e79
      have e95g : g.1 95 = z2.1 95 := s3.1 95 (by omega)
      rw [gd_ok (by omega) (by decide), ld_nI (by omega), e79, i2.2.1, mk_shl i (by omega), mk_or _ t64 _ (two64 (by omega)), s1, cl_some, gd_ok (by omega) (by decide), ld_nI (by omega), e79g, e95g, i2.2.1, mk_isIn _ t64 i (by omega), cl_some, b01]
      have hWg : WK g 104 15 nb (uK U) (U 2) (-1) (WR U nb ns ln (-1) (tY T i a) (uT U) (y + 1)) := by
        show WK g 104 15 nb (uK U) (U 2) (-1) (wstep nb (uK U) (U 2) (tY T i a y) (wbase (uS U ln ns) (U 3) (-1) y) (60 * uP U ln ns y) (nI y) (WR U nb ns ln (-1) (tY T i a) (uT U) y))
        rw [tY_at (by omega)]
        exact s2
      have hHg : BH h g i (lsum ln ns) T (pNu U ln ns) last := i2.of (s3.B.fz (by omega)) e95g (s3.1 96 (by omega))
      have hWg97 : WK g 97 15 nb (uK U) (U 2) (-1) (WR U nb ns ln (-1) T (uT U) a) := i6.of (fun q q1 q2 => s3.1 q (by omega)) (by rw [s3.2])
      have hFg : BF g most F := i3.of e95g
      unfold F_X5_seekFrom_J79
      rw [nI_1]
      by_cases c2 : (T y).testBit i = true
      · rw [if_pos c2]
        refine ⟨(nI (y + 1), g), ⟨by dsimp only; rw [← hy]; rfl, most, F, hHg, hFg, i4.skip (by omega) (fun c q1 q2 q3 => ?_), ?_, hWg97⟩, rfl⟩
        · have hc : c = 200 * a + y := by omega
          subst hc
          rw [Wc_ab (by omega)]
          by_cases c3 : y = a
          · subst c3
            rw [tX_aa c2, ← hA0]
            exact i4.2.1
          · rw [tX_b (by omega) c2, ← Wc_ab (by omega)]
            exact i4.1 _ (by omega) (vld_ab (by omega) (by omega) (by omega))
        · dsimp only
          rw [show a + (d + 1) = y + 1 by omega]
          exact hWg
      · rw [if_neg c2]
        obtain ⟨x', most', F', w1, w2, w3, w4, w5, w6⟩ := weighT v hC hT hi hA hHg hl hWg (by omega) hyY hFg i4
        rw [w1, cl_some]
        refine ⟨(nI (y + 1), x'), ⟨by dsimp only; rw [← hy]; rfl, most', F', w2, w3, ?_, ?_, ?_⟩, rfl⟩
        · rw [show 200 * a + (a + (d + 1)) = 200 * a + y + 1 by omega]
          exact w4
        · dsimp only
          rw [show a + (d + 1) = y + 1 by omega]
          exact hWg.of (fun q q1 q2 => w5 q (by omega) (by omega)) (by rw [w6 104 (by omega)])
        · exact hWg97.of (fun q q1 q2 => w5 q (by omega) (by omega)) (by rw [w6 97 (by omega)])
    · right
      rw [if_neg c1]
      refine ⟨z2, most, F, rfl, i2, i3, i4.skip (by omega) (fun c q1 q2 q3 => ?_), i6⟩
      by_cases c3 : d = 0
      · subst c3
        rw [Nat.add_zero] at hy
        subst hy
        rw [← hlow] at c1
        exact absurd hop c1
      · obtain ⟨b, hb, rfl⟩ : ∃ b, y ≤ b ∧ c = 200 * a + b := ⟨c - 200 * a, by omega, by omega⟩
        have hbY : b < lsum ln ns := by omega
        have e1 : WR U nb ns ln (-1) (tX T i a b) (uT U) y = WR U nb ns ln (-1) (tY T i a) (uT U) y := wrun_congr (fun z hz => tX_tY (by omega))
        have e2 : WR U nb ns ln (-1) (tX T i a (y - 1)) (uT U) y = WR U nb ns ln (-1) (tY T i a) (uT U) y := wrun_congr (fun z hz => tX_tY (by omega))
        have w1 : Wc U nb ns ln T i (200 * a + b) = Wc U nb ns ln T i (200 * a + (y - 1)) := by
          rw [Wc_ab (by omega), Wc_ab (by omega)]
          have p1 := acN_stop (nb := nb) (K := uK U) (SL := uS U ln ns) (PR := uP U ln ns) (must := U 2) (wet := U 3) (day := -1) (T := tX T i a b) (w := w0 (uT U)) (i := i) (y := y) (Y := lsum ln ns) (by omega) (by rw [← e1] at c1; exact c1)
          have p2 := acN_stop (nb := nb) (K := uK U) (SL := uS U ln ns) (PR := uP U ln ns) (must := U 2) (wet := U 3) (day := -1) (T := tX T i a (y - 1)) (w := w0 (uT U)) (i := i) (y := y) (Y := lsum ln ns) (by omega) (by rw [← e2] at c1; exact c1)
          exact (p1.trans (congrArg (fun w => acN (uK U) w i) e1)).trans (p2.trans (congrArg (fun w => acN (uK U) w i) e2)).symm
        rw [w1]
        exact i4.1 _ (by omega) (vld_ab (by omega) (by omega) (by omega))
  · rintro ⟨z1, z2⟩ rc ⟨i1, most, F, i2, i3, i4, i5, i6⟩
    dsimp only at i1 i2 i3 i4 i5 i6 ⊢
    subst i1
    have e15 : z2.1 15 1 = nI (lsum ln ns) := by rw [i2.1.1 15 (by omega)]; exact hC.2.1
    rw [show a + (lsum ln ns - a) = lsum ln ns by omega] at i4 ⊢
    rw [e15, if_pos (Int32.le_refl _)]
    exact ⟨z2, most, F, rfl, i2, i3, i4, i6⟩
  · exact absurd q3.1 (by omega)
  · dsimp only
    rw [Nat.add_zero, ← hlow]
    exact f2
theorem fz_ui {h : HP} {j : Nat} {v : Int32} : FZ h (ui h 95 j v) := by
  rw [ui_sa]
  exact fz_sa (by omega)
theorem seekT {h : HP} {nb ns i A0 : Nat} {ln T : Nat → Nat} {U : Nat → Int32} (v : HV U nb ns ln) (hC : CF h 15 U nb ns ln) (hT : ∀ y, y < lsum ln ns → h.1 79 y = nI (T y) ∧ T y < 2 ^ nb) (hi : i < nb) (hA0 : A0 = acN (uK U) (WR U nb ns ln (-1) T (uT U) (lsum ln ns)) i) : ∃ x most F, F_X5_seek 95 (nI i) (nI A0) h = some (x.1 95 5, x) ∧ BF x most F ∧ BS (Wc U nb ns ln T i) (lsum ln ns) A0 (200 * lsum ln ns) most F ∧ FZ h x := by
  have hn := v.1.2.2.1
  have h120 : lsum ln ns ≤ 120 := v.1.2.2.2.2.2
  have hA : A0 ≤ 64800 := by
    have := (acN_eq (K := uK U) (v.bd (d := -1) (T := T) (fun y hy => Nat.lt_of_lt_of_le (hT y hy).2 (two_le hn)) (Nat.le_refl _)) h120 hi).2
    omega
  unfold F_X5_seek
  simp only [Nat.reduceAdd, nm_eq]
  generalize hg0 : ui (ui (ui h 95 0 (nI A0)) 95 3 (nI i)) 95 5 0 = g0
  have g0f : FZ h g0 := by rw [← hg0]; exact (fz_ui.trans fz_ui).trans fz_ui
  have g00 : g0.1 95 0 = nI A0 := by rw [← hg0]; simp only [ui_sa, sa_r]; rw [upd_n (by decide), upd_n (by decide), upd_r]
  have g03 : g0.1 95 3 = nI i := by rw [← hg0]; simp only [ui_sa, sa_r]; rw [upd_n (by decide), upd_r]
  have g05 : g0.1 95 5 = 0 := by rw [← hg0]; simp only [ui_sa, sa_r]; rw [upd_r]
  have hCg : CF g0 15 U nb ns ln := hC.of (fun q q1 q2 => g0f.1 q (by omega))
  have hF0 : BF g0 A0 none := ⟨g00, fun _ => g05, fun c hc => by cases hc⟩
  rw [gd_ok (by omega) (by decide), ld_nI (by omega), (hCg.2.2.2.2.2.2.1 i hi).2]
  by_cases hk : U (28 + i) = 2
  · rw [if_pos hk]
    refine ⟨g0, A0, none, by rw [g05], hF0, ⟨fun c _ _ => ?_, Nat.le_refl _, fun _ => rfl, fun c hc => by cases hc⟩, g0f⟩
    unfold Wc acN acr
    rw [if_pos (Or.inr (show uK U i = 2 from hk))]
    exact Nat.zero_le _
  · rw [if_neg hk]
    obtain ⟨x1, last, k1, k2, k3, k4, k5⟩ := lookC (h := h) (x := g0) (pN := pNu U ln ns) v.1 hCg (show i < 6 by omega) (fun y hy => ⟨by rw [g0f.1 79 (by omega)]; exact (hT y hy).1, Nat.lt_of_lt_of_le (hT y hy).2 (two_le hn)⟩) (fun y hy => (pNu_eq v hy).1) g03 g0f
    rw [k1, cl_some]
    have hCx1 : CF x1 15 U nb ns ln := hC.of (fun q q1 q2 => k2.1.1 q (by omega))
    obtain ⟨x2, b1, b2, b3⟩ := beginC (a := 97) (by omega) hCx1 hn
    rw [b1, cl_some]
    have hH2 : BH h x2 i (lsum ln ns) T (pNu U ln ns) last := k2.of (b3.fz (by omega)) (b3.1 95 (by omega)) (b3.1 96 (by omega))
    have hF2 : BF x2 A0 none := by
      have e : x2.1 95 = x1.1 95 := b3.1 95 (by omega)
      exact ⟨by rw [e, k4 0 (by decide)]; exact g00, fun _ => by rw [e, k4 5 (by decide)]; exact g05, fun c hc => by cases hc⟩
    unfold F_X5_seek_L47
    simp only [Nat.reduceAdd]
    have fin : ∀ (x : HP) (most : Nat) (F : Option Nat), BF x most F → F_X5_seek_J117 95 x = some (x.1 95 5, x) := by
      intro x most F b
      unfold F_X5_seek_J117
      refine gb_ok ?_
      cases F with
      | none => exact Or.inl (b.2.1 rfl)
      | some c => exact Or.inr (b.2.2 c rfl).1
    refine lp_inv' (fun k z => z.1 = nI k ∧ ∃ most F, BH h z.2 i (lsum ln ns) T (pNu U ln ns) last ∧ BF z.2 most F ∧ BS (Wc U nb ns ln T i) (lsum ln ns) A0 (200 * k) most F ∧ WK z.2 97 15 nb (uK U) (U 2) (-1) (WR U nb ns ln (-1) T (uT U) k)) (B := lsum ln ns) (Q := fun r => ∃ x most F, r = some (x.1 95 5, x) ∧ BF x most F ∧ BS (Wc U nb ns ln T i) (lsum ln ns) A0 (200 * lsum ln ns) most F ∧ FZ h x) ?_ ?_ sg_fuel 0 (0, x2) (Nat.zero_le _) (fu (by omega)) ⟨rfl, A0, none, hH2, hF2, ⟨fun c hc => absurd hc (Nat.not_lt_zero c), Nat.le_refl _, fun _ => rfl, fun c hc => by cases hc⟩, b2⟩
    · rintro k ⟨z1, z2⟩ rc hkY ⟨i1, most, F, i2, i3, i4, i5⟩
      dsimp only at i1 i2 i3 i4 i5 ⊢
      subst i1
      have e15 : z2.1 15 1 = nI (lsum ln ns) := by rw [i2.1.1 15 (by omega)]; exact hC.2.1
      rw [e15, if_neg (nI_ge hkY (by omega)), openC i5 i2.2.1 (by omega), cl_some, b01]
      by_cases c1 : (WR U nb ns ln (-1) T (uT U) k).2.2.2.2.2 = -4 ∧ (WR U nb ns ln (-1) T (uT U) k).2.2.2.2.1.testBit i = false
      · left
        rw [if_pos c1]
        have t64 : ∀ y, y < lsum ln ns → T y < 64 := fun y hy => Nat.lt_of_lt_of_le (hT y hy).2 (two_le hn)
        have key : ∀ (g : HP) (most : Nat) (F : Option Nat), BH h g i (lsum ln ns) T (pNu U ln ns) last → BF g most F → BS (Wc U nb ns ln T i) (lsum ln ns) A0 (200 * (k + 1)) most F → WK g 97 15 nb (uK U) (U 2) (-1) (WR U nb ns ln (-1) T (uT U) k) → ∃ z' : Int32 × HP, (z'.1 = nI (k + 1) ∧ ∃ most F, BH h z'.2 i (lsum ln ns) T (pNu U ln ns) last ∧ BF z'.2 most F ∧ BS (Wc U nb ns ln T i) (lsum ln ns) A0 (200 * (k + 1)) most F ∧ WK z'.2 97 15 nb (uK U) (U 2) (-1) (WR U nb ns ln (-1) T (uT U) (k + 1))) ∧ F_X5_seek_J96 95 rc (nI k) g = rc z' := by
          intro g most F j1 j2 j3 j4
          have hFU : FU g 15 nb (lsum ln ns) (uK U) (uS U ln ns) (uP U ln ns) (U 3) := (hC.of (h' := g) (fun q q1 q2 => by rw [j1.1.1 q (by omega)])).FU v.1
          obtain ⟨g', s1, s2, s3⟩ := step_eq (m := T k) (by omega) hFU j4 hkY (t64 k hkY)
          have e79 : g.1 79 k = nI (T k) := by rw [j1.1.1 79 (by omega)]; exact (hT k hkY).1
          unfold F_X5_seek_J96
          simp only [Nat.reduceAdd]
          rw [gd_ok (by omega) (by decide), ld_nI (by omega), e79, s1, cl_some, nI_1]
          exact ⟨(nI (k + 1), g'), ⟨rfl, most, F, j1.of (s3.B.fz (by omega)) (s3.1 95 (by omega)) (s3.1 96 (by omega)), j2.of (s3.1 95 (by omega)), j3, s2⟩, rfl⟩
        have key2 : ∃ z' : Int32 × HP, (z'.1 = nI (k + 1) ∧ ∃ most F, BH h z'.2 i (lsum ln ns) T (pNu U ln ns) last ∧ BF z'.2 most F ∧ BS (Wc U nb ns ln T i) (lsum ln ns) A0 (200 * (k + 1)) most F ∧ WK z'.2 97 15 nb (uK U) (U 2) (-1) (WR U nb ns ln (-1) T (uT U) (k + 1))) ∧ F_X5_seek_J91 95 rc (nI k) z2 = rc z' := by
          obtain ⟨x', most', F', w1, w2, w3, w4, w5⟩ := fromC v hC hT hi hA hA0 i2 k3 i5 hkY c1 i3 i4
          unfold F_X5_seek_J91
          rw [w1, cl_some]
          exact key x' most' F' w2 w3 (w4.skip (by omega) (fun c q1 q2 q3 => absurd q3.2 (by omega))) w5
        by_cases c2 : k = 0
        · subst c2
          rw [if_pos nI_0]
          exact key2
        · rw [if_neg (nI_ne0 (by omega) (by omega))]
          have ek : nI k - 1 = nI (k - 1) := by
            have := nI_pred (k - 1)
            rw [show k - 1 + 1 = k by omega] at this
            exact this
          have e79 : z2.1 79 (k - 1) = nI (T (k - 1)) := by rw [i2.1.1 79 (by omega)]; exact (hT (k - 1) (by omega)).1
          rw [ek, gd_ok (by omega) (by decide), ld_nI (by omega), e79, i2.2.1, mk_isIn _ (t64 _ (by omega)) i (by omega), cl_some, b01]
          by_cases c3 : (T (k - 1)).testBit i = true
          · rw [if_pos c3]
            refine key z2 most F i2 i3 (i4.skip (by omega) (fun c q1 q2 q3 => ?_)) i5
            obtain ⟨b, hb, rfl⟩ : ∃ b, b < 200 ∧ c = 200 * k + b := ⟨c - 200 * k, by omega, by omega⟩
            have hkb : k ≤ b := by have := q3.1; omega
            have hbY : b < lsum ln ns := by have := q3.2; omega
            rw [Wc_ab (by omega)]
            rcases tX_a (b := b) (show 1 ≤ k by omega) c3 with e | e
            · rw [e, ← Wc_ab (by omega)]
              exact i4.1 _ (by omega) (vld_ab (by omega) (by omega) (by omega))
            · omega
          · rw [if_neg c3]
            exact key2
      · right
        rw [if_neg c1, fin z2 most F i3]
        refine ⟨z2, most, F, rfl, i3, i4.skip (by omega) (fun c q1 q2 q3 => ?_), i2.1⟩
        have e0 : WR U nb ns ln (-1) (tX T i (c / 200) (c % 200)) (uT U) k = WR U nb ns ln (-1) T (uT U) k := wrun_congr (fun z hz => tX_low (by omega))
        have p1 := acN_stop (nb := nb) (K := uK U) (SL := uS U ln ns) (PR := uP U ln ns) (must := U 2) (wet := U 3) (day := -1) (T := tX T i (c / 200) (c % 200)) (w := w0 (uT U)) (i := i) (y := k) (Y := lsum ln ns) (by omega) (by rw [← e0] at c1; exact c1)
        have p2 := acN_stop (nb := nb) (K := uK U) (SL := uS U ln ns) (PR := uP U ln ns) (must := U 2) (wet := U 3) (day := -1) (T := T) (w := w0 (uT U)) (i := i) (y := k) (Y := lsum ln ns) (by omega) c1
        have e3 : Wc U nb ns ln T i c = A0 := by
          rw [hA0]
          exact (p1.trans (congrArg (fun w => acN (uK U) w i) e0)).trans p2.symm
        rw [e3]
        exact i4.2.1
    · rintro ⟨z1, z2⟩ rc ⟨i1, most, F, i2, i3, i4, i5⟩
      dsimp only at i1 i2 i3 i4 i5 ⊢
      subst i1
      have e15 : z2.1 15 1 = nI (lsum ln ns) := by rw [i2.1.1 15 (by omega)]; exact hC.2.1
      rw [e15, if_pos (Int32.le_refl _), fin z2 most F i3]
      exact ⟨z2, most, F, rfl, i3, i4, i2.1⟩
