/-- where a walk isn't open any more for one, what he has stays -/
theorem acN_stop {nb : Nat} {K SL PR : Nat → Int32} {must wet day : Int32} {T : Nat → Nat} {w : WS} {i y Y : Nat} (hy : y ≤ Y) (h : ¬ ((wrun nb K SL PR must wet day T w y).2.2.2.2.2 = -4 ∧ (wrun nb K SL PR must wet day T w y).2.2.2.2.1.testBit i = false)) : acN K (wrun nb K SL PR must wet day T w Y) i = acN K (wrun nb K SL PR must wet day T w y) i := by
  obtain ⟨d, rfl⟩ : ∃ d, Y = y + d := ⟨Y - y, by omega⟩
  by_cases h1 : (wrun nb K SL PR must wet day T w y).2.2.2.2.2 = -4
  · have h2 : (wrun nb K SL PR must wet day T w y).2.2.2.2.1.testBit i = true := by
      cases hz : (wrun nb K SL PR must wet day T w y).2.2.2.2.1.testBit i
      · exact absurd ⟨h1, hz⟩ h
      · rfl
    rw [acN_fell h2, acN_fell (wrun_sm h2 d)]
  · rw [wrun_stuck h1 d]
/-- what he has by the turn of number c -/
def Wc (U : Nat → Int32) (nb ns : Nat) (ln T : Nat → Nat) (i c : Nat) : Nat := acN (uK U) (WR U nb ns ln (-1) (tX T i (c / 200) (c % 200)) (uT U) (lsum ln ns)) i
theorem Wc_ab {U : Nat → Int32} {nb ns : Nat} {ln T : Nat → Nat} {i a b : Nat} (hb : b < 200) : Wc U nb ns ln T i (200 * a + b) = acN (uK U) (WR U nb ns ln (-1) (tX T i a b) (uT U) (lsum ln ns)) i := by
  unfold Wc
  rw [show (200 * a + b) / 200 = a by omega, show (200 * a + b) % 200 = b by omega]
theorem Wc_le {U : Nat → Int32} {nb ns : Nat} {ln T : Nat → Nat} {i c : Nat} (v : HV U nb ns ln) (hT : ∀ y, y < lsum ln ns → T y < 2 ^ nb) (hi : i < nb) : Wc U nb ns ln T i c ≤ 64800 := by
  have hn := v.1.2.2.1
  have h120 : lsum ln ns ≤ 120 := v.1.2.2.2.2.2
  have b := v.bd (d := -1) (T := tX T i (c / 200) (c % 200)) (fun y hy => Nat.lt_of_lt_of_le (tX_lt (hT y hy) hi) (two_le hn)) (Nat.le_refl _)
  have := (acN_eq (K := uK U) b h120 hi).2
  unfold Wc
  omega
theorem BS.le {w : Nat → Nat} {Y A0 c0 most M : Nat} {F : Option Nat} (h : BS w Y A0 c0 most F) (hA : A0 ≤ M) (hw : ∀ c, w c ≤ M) : most ≤ M := by
  obtain ⟨h1, h2, h3, h4⟩ := h
  cases F with
  | none => rw [h3 rfl]; exact hA
  | some c => rw [← (h4 c rfl).2.2.1]; exact hw c
def pNu (U : Nat → Int32) (ln : Nat → Nat) (ns y : Nat) : Nat := (uP U ln ns y).toNatClampNeg
theorem pNu_eq {U : Nat → Int32} {nb ns : Nat} {ln : Nat → Nat} (v : HV U nb ns ln) {y : Nat} (hy : y < lsum ln ns) : uP U ln ns y = nI (pNu U ln ns y) ∧ pNu U ln ns y ≤ 9 := by
  obtain ⟨p, p1, p2⟩ := v.prices hy
  unfold pNu
  rw [p1, nI_clamp (by omega)]
  exact ⟨rfl, p2⟩
theorem n4lt {y : Nat} (h : y < 2 ^ 31) : (-4 : Int32) < nI y := Int32.lt_of_lt_of_le (by decide : (-4 : Int32) < 0) (nI_pos' h)
/-- the tail of a turn tried: to its end, or as far as it matters -/
theorem tailC {h x : HP} {nb ns i a b : Nat} {ln T : Nat → Nat} {U : Nat → Int32} {last : Int32} (v : HV U nb ns ln) (hC : CF h 15 U nb ns ln) (hT : ∀ y, y < lsum ln ns → h.1 79 y = nI (T y) ∧ T y < 2 ^ nb) (hi : i < nb) (hH : BH h x i (lsum ln ns) T (pNu U ln ns) last) (hl : laP T i (lsum ln ns) last 0) (hW : WK x 111 15 nb (uK U) (U 2) (-1) (WR U nb ns ln (-1) (tX T i a b) (uT U) (b + 1))) (hb : b < lsum ln ns) : ∃ g w, F_X5_weigh_L43 95 (nI a) (nI b) sg_fuel (nI (b + 1), x) = F_X5_weigh_J83 95 (nI a) (nI b) g ∧ WK g 111 15 nb (uK U) (U 2) (-1) w ∧ acr (uK U) w i = nI (Wc U nb ns ln T i (200 * a + b)) ∧ FrB 111 x g := by
  have hn := v.1.2.2.1
  have h120 : lsum ln ns ≤ 120 := v.1.2.2.2.2.2
  have hT64 : ∀ y, y < lsum ln ns → tX T i a b y < 64 := fun y hy => Nat.lt_of_lt_of_le (tX_lt (hT y hy).2 hi) (two_le hn)
  have hB : ∀ y, y ≤ lsum ln ns → acr (uK U) (WR U nb ns ln (-1) (tX T i a b) (uT U) y) i = nI (acN (uK U) (WR U nb ns ln (-1) (tX T i a b) (uT U) y) i) := fun y hy => (acN_eq (v.bd hT64 hy) (by omega) hi).1
  rw [Wc_ab (by omega)]
  unfold F_X5_weigh_L43
  simp only [Nat.reduceAdd]
  refine lp_inv' (fun d z => z.1 = nI (b + 1 + d) ∧ WK z.2 111 15 nb (uK U) (U 2) (-1) (WR U nb ns ln (-1) (tX T i a b) (uT U) (b + 1 + d)) ∧ FrB 111 x z.2) (B := lsum ln ns - (b + 1)) (Q := fun r => ∃ g w, r = F_X5_weigh_J83 95 (nI a) (nI b) g ∧ WK g 111 15 nb (uK U) (U 2) (-1) w ∧ acr (uK U) w i = nI (acN (uK U) (WR U nb ns ln (-1) (tX T i a b) (uT U) (lsum ln ns)) i) ∧ FrB 111 x g) ?_ ?_ sg_fuel 0 (nI (b + 1), x) (Nat.zero_le _) (fu (by omega)) ⟨rfl, hW, fun _ _ => rfl, fun _ _ => rfl⟩
  · rintro d ⟨z1, z2⟩ rc hd ⟨i1, i2, i3⟩
    dsimp only at i1 i2 i3 ⊢
    subst i1
    generalize hy : b + 1 + d = y at *
    have hyY : y < lsum ln ns := by omega
    have e95 : z2.1 95 = x.1 95 := i3.1 95 (by omega)
    rw [e95, hH.2.2.1]
    by_cases c1 : last < nI y
    · right
      rw [if_pos c1]
      refine ⟨z2, _, rfl, i2, ?_, i3⟩
      have hno : ∀ q, y ≤ q → q < lsum ln ns → (tX T i a b q).testBit i = false := fun q q1 q2 => by
        rw [tX_high (by omega)]
        rcases hl with ⟨_, l2⟩ | ⟨l, l1, l2, l3, l4⟩
        · exact l2 q (Nat.zero_le _) q2
        · rw [l1, nI_ltI (by omega) (by omega)] at c1
          exact l4 q (by omega) q2
      have := wrun_not (nb := nb) (K := uK U) (SL := uS U ln ns) (PR := uP U ln ns) (must := U 2) (wet := U 3) (day := -1) (T := tX T i a b) (w := w0 (uT U)) (i := i) (y := y) (lsum ln ns - y) (fun q q1 q2 => hno q q1 (by omega))
      rw [show y + (lsum ln ns - y) = lsum ln ns by omega] at this
      rw [← this]
      exact hB _ (Nat.le_refl _)
    · rw [if_neg c1, openC i2 (by rw [e95]; exact hH.2.1) (by omega), cl_some, b01]
      by_cases c2 : (WR U nb ns ln (-1) (tX T i a b) (uT U) y).2.2.2.2.2 = -4 ∧ (WR U nb ns ln (-1) (tX T i a b) (uT U) y).2.2.2.2.1.testBit i = false
      · left
        rw [if_pos c2]
        have e79 : z2.1 79 y = nI (T y) := by
          rw [i3.1 79 (by omega), hH.1.1 79 (by omega)]
          exact (hT y hyY).1
        have hF2 : FU z2 15 nb (lsum ln ns) (uK U) (uS U ln ns) (uP U ln ns) (U 3) := (hC.of (h' := z2) (fun q q1 q2 => by rw [i3.1 q (by omega), hH.1.1 q (by omega)])).FU v.1
        obtain ⟨h', s1, s2, s3⟩ := step_eq (m := T y) (by omega) hF2 i2 hyY (Nat.lt_of_lt_of_le (hT y hyY).2 (two_le hn))
        rw [gd_ok (by omega) (by decide), ld_nI (by omega), e79, s1, cl_some, nI_1]
        refine ⟨(nI (y + 1), h'), ⟨by dsimp only; rw [← hy]; rfl, ?_, i3.trans s3.B⟩, rfl⟩
        dsimp only
        rw [show b + 1 + (d + 1) = y + 1 by omega]
        show WK h' 111 15 nb (uK U) (U 2) (-1) (wstep nb (uK U) (U 2) (tX T i a b y) (wbase (uS U ln ns) (U 3) (-1) y) (60 * uP U ln ns y) (nI y) (WR U nb ns ln (-1) (tX T i a b) (uT U) y))
        rw [tX_high (by omega)]
        exact s2
      · right
        rw [if_neg c2]
        refine ⟨z2, _, rfl, i2, ?_, i3⟩
        rw [hB y (by omega)]
        exact congrArg nI (acN_stop (show y ≤ lsum ln ns by omega) c2).symm
  · rintro ⟨z1, z2⟩ rc ⟨i1, i2, i3⟩
    dsimp only at i1 i2 i3 ⊢
    subst i1
    rw [show b + 1 + (lsum ln ns - (b + 1)) = lsum ln ns by omega] at i2 ⊢
    have e95 : z2.1 95 = x.1 95 := i3.1 95 (by omega)
    rw [e95, hH.2.2.1]
    have c1 : last < nI (lsum ln ns) := by
      rcases hl with ⟨l1, _⟩ | ⟨l, l1, l2, l3, l4⟩
      · rw [l1]; exact n4lt (by omega)
      · rw [l1]; exact nI_lt l3 (by omega)
    rw [if_pos c1]
    exact ⟨z2, _, rfl, i2, hB _ (Nat.le_refl _), i3⟩
theorem weighT {h x : HP} {nb ns i a b A0 most : Nat} {ln T : Nat → Nat} {U : Nat → Int32} {last : Int32} {F : Option Nat} (v : HV U nb ns ln) (hC : CF h 15 U nb ns ln) (hT : ∀ y, y < lsum ln ns → h.1 79 y = nI (T y) ∧ T y < 2 ^ nb) (hi : i < nb) (hA : A0 ≤ 64800) (hH : BH h x i (lsum ln ns) T (pNu U ln ns) last) (hl : laP T i (lsum ln ns) last 0) (hW : WK x 104 15 nb (uK U) (U 2) (-1) (WR U nb ns ln (-1) (tY T i a) (uT U) (b + 1))) (hab : a ≤ b) (hb : b < lsum ln ns) (hF : BF x most F) (hS : BS (Wc U nb ns ln T i) (lsum ln ns) A0 (200 * a + b) most F) : ∃ x' most' F', F_X5_weigh 95 (nI a) (nI b) x = some x' ∧ BH h x' i (lsum ln ns) T (pNu U ln ns) last ∧ BF x' most' F' ∧ BS (Wc U nb ns ln T i) (lsum ln ns) A0 (200 * a + b + 1) most' F' ∧ (∀ y, y < 111 → y ≠ 95 → x'.1 y = x.1 y) ∧ (∀ y, y ≠ 111 → x'.2 y = x.2 y) := by
  have hn := v.1.2.2.1
  have h120 : lsum ln ns ≤ 120 := v.1.2.2.2.2.2
  have hm : most ≤ 64800 := hS.le hA (fun c => Wc_le v (fun y hy => (hT y hy).2) hi)
  have hT64 : ∀ y, y < lsum ln ns → tX T i a b y < 64 := fun y hy => Nat.lt_of_lt_of_le (tX_lt (hT y hy).2 hi) (two_le hn)
  have hWX : WR U nb ns ln (-1) (tY T i a) (uT U) (b + 1) = WR U nb ns ln (-1) (tX T i a b) (uT U) (b + 1) := wrun_congr (fun z hz => (tX_tY (by omega)).symm)
  rw [hWX] at hW
  obtain ⟨m1, m2⟩ := acN_eq (K := uK U) (v.bd hT64 (show b + 1 ≤ lsum ln ns by omega)) (by omega) hi
  have hCx : CF x 15 U nb ns ln := hC.of (fun q q1 q2 => hH.1.1 q (by omega))
  have hmb := mbd_le (T := T) (i := i) (Y := lsum ln ns) (fun y hy => (pNu_eq v hy).2) (lsum ln ns - (b + 1)) (by omega)
  unfold F_X5_weigh
  simp only [Nat.reduceAdd]
  rw [hH.2.1, acres_eq hW (hCx.2.2.2.2.2.2.1 i hi).2 hn hi, cl_some, nI_1, gd_ok (by omega) (by decide), ld_nI (by omega), hH.2.2.2 (b + 1) (by omega), m1, nI_add, hF.1]
  generalize hA1 : acN (uK U) (WR U nb ns ln (-1) (tX T i a b) (uT U) (b + 1)) i = A1 at *
  generalize hM1 : mbd T (pNu U ln ns) i (lsum ln ns) (lsum ln ns - (b + 1)) = M1 at *
  have hvl : vld (lsum ln ns) (200 * a + b) := ⟨by omega, by omega⟩
  by_cases c1 : nI most < nI (A1 + M1)
  · rw [if_pos c1]
    obtain ⟨x1, f1, f2, f3⟩ := follow_eq (a := 111) (q := 104) (by omega) hn hW
    have e95 : x1.1 95 = x.1 95 := f3.1 95 (by omega)
    have hH1 : BH h x1 i (lsum ln ns) T (pNu U ln ns) last := hH.of (f3.fz (by omega)) e95 (f3.1 96 (by omega))
    obtain ⟨g, w, t1, t2, t3, t4⟩ := tailC v hC hT hi hH1 hl f2 hb
    have e95g : g.1 95 = x.1 95 := (t4.1 95 (by omega)).trans e95
    have hCg : CF g 15 U nb ns ln := hCx.of (fun q q1 q2 => by rw [t4.1 q (by omega), f3.1 q (by omega)])
    rw [f1, cl_some, nm_eq, t1]
    unfold F_X5_weigh_J83
    simp only [Nat.reduceAdd]
    have e0 : g.1 95 0 = nI most := by rw [e95g]; exact hF.1
    have e3 : g.1 95 3 = nI i := by rw [e95g]; exact hH.2.1
    have hHg : BH h g i (lsum ln ns) T (pNu U ln ns) last := hH1.of (t4.fz (by omega)) (t4.1 95 (by omega)) (t4.1 96 (by omega))
    have hWl : Wc U nb ns ln T i (200 * a + b) ≤ 64800 := Wc_le v (fun y hy => (hT y hy).2) hi
    rw [e3, acres_eq t2 (hCg.2.2.2.2.2.2.1 i hi).2 hn hi, t3, cl_some, e0]
    by_cases c2 : nI (Wc U nb ns ln T i (200 * a + b)) ≤ nI most
    · rw [if_pos c2]
      rw [nI_leI (by omega) (by omega)] at c2
      refine ⟨g, most, F, rfl, hHg, hF.of e95g, hS.skip (by omega) (fun c q1 q2 _ => ?_), fun y y1 y2 => by rw [t4.1 y (by omega), f3.1 y (by omega)], fun y y1 => by rw [t4.2 y y1, f3.2 y y1]⟩
      have : c = 200 * a + b := by omega
      rw [this]; exact c2
    · rw [if_neg c2, cl_some]
      rw [nI_leI (by omega) (by omega)] at c2
      simp only [nm_eq, ui_sa, sa_sa, sa_r]
      generalize hR : upd (upd (upd (upd (g.1 95) 0 (nI (Wc U nb ns ln T i (200 * a + b)))) 1 (nI a)) 2 (nI b)) 5 1 = R
      have r0 : R 0 = nI (Wc U nb ns ln T i (200 * a + b)) := by rw [← hR, upd_n (by decide), upd_n (by decide), upd_n (by decide), upd_r]
      have r1 : R 1 = nI a := by rw [← hR, upd_n (by decide), upd_n (by decide), upd_r]
      have r2 : R 2 = nI b := by rw [← hR, upd_n (by decide), upd_r]
      have r3 : R 3 = g.1 95 3 := by rw [← hR, upd_n (by decide), upd_n (by decide), upd_n (by decide), upd_n (by decide)]
      have r4 : R 4 = g.1 95 4 := by rw [← hR, upd_n (by decide), upd_n (by decide), upd_n (by decide), upd_n (by decide)]
      have r5 : R 5 = 1 := by rw [← hR, upd_r]
      refine ⟨_, Wc U nb ns ln T i (200 * a + b), some (200 * a + b), rfl, ?_, ?_, hS.take hvl (by omega), fun y y1 y2 => by rw [sa_n y2, t4.1 y (by omega), f3.1 y (by omega)], fun y y1 => by rw [sa_2, t4.2 y y1, f3.2 y y1]⟩
      · obtain ⟨b1, b2, b3, b4⟩ := hHg
        refine ⟨b1.trans (fz_sa (by omega)), by rw [sa_r, r3]; exact b2, by rw [sa_r, r4]; exact b3, fun y hy => by rw [sa_n (by decide)]; exact b4 y hy⟩
      · refine ⟨by rw [sa_r, r0], fun z => (by cases z), fun c hc => ?_⟩
        cases hc
        rw [sa_r, r1, r2, r5]
        exact ⟨rfl, by rw [show (200 * a + b) / 200 = a by omega], by rw [show (200 * a + b) % 200 = b by omega]⟩
  · rw [if_neg c1]
    rw [nI_ltI (by omega) (by omega)] at c1
    refine ⟨x, most, F, rfl, hH, hF, hS.skip (by omega) (fun c q1 q2 _ => ?_), fun _ _ _ => rfl, fun _ _ => rfl⟩
    have : c = 200 * a + b := by omega
    rw [this, Wc_ab (by omega)]
    have hup := wrun_up (nb := nb) (S := fun i => (U (22 + i)).toNatClampNeg) (K := uK U) (SL := uS U ln ns) (PR := uP U ln ns) (ST := uT U) (must := U 2) (wet := U 3) (day := -1) (T := tX T i a b) (T' := T) (pN := pNu U ln ns) (i := i) (Y := lsum ln ns) (fun y hy => v.bd hT64 hy) h120 hn hi hT64 (fun y hy => pNu_eq v hy) (lsum ln ns - (b + 1)) (by omega) (fun z z1 z2 => by rw [tX_high (by omega)])
    rw [show lsum ln ns - (lsum ln ns - (b + 1)) = b + 1 by omega] at hup
    have e1 : acN (uK U) (wrun nb (uK U) (uS U ln ns) (uP U ln ns) (U 2) (U 3) (-1) (tX T i a b) (w0 (uT U)) (b + 1)) i = A1 := hA1
    rw [e1, hM1] at hup
    have : acN (uK U) (WR U nb ns ln (-1) (tX T i a b) (uT U) (lsum ln ns)) i ≤ A1 + M1 := hup
    omega
