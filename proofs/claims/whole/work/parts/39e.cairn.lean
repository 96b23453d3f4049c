theorem so_one {ln : Nat → Nat} {ns y s : Nat} (hs : s < ns) (h1 : lsum ln s ≤ y) (h2 : y < lsum ln (s + 1)) : so ln y ns = s := by
  obtain ⟨a, b, c⟩ := so_spec (ln := ln) (y := y) (n := ns) (Nat.lt_of_lt_of_le h2 (lsum_mono (by omega)))
  rcases Nat.lt_trichotomy (so ln y ns) s with q | q | q
  · have := lsum_mono (ln := ln) (i := so ln y ns + 1) (k := s) (by omega)
    omega
  · exact q
  · have := lsum_mono (ln := ln) (i := s + 1) (k := so ln y ns) (by omega)
    omega
theorem mark_eq {h : HP} {f ns : Nat} {ln : Nat → Nat} (hn : ns ≤ 6) (h0 : h.1 f 0 = nI ns) (h1 : ∀ i, i < ns → h.1 (f + 1) i = nI (ln i)) (hl : lsum ln ns ≤ 120) : ∃ R, F_X1_markYards f h = some (sa h (f + 6) R) ∧ ∀ y, y < lsum ln ns → R y = nI (so ln y ns) := by
  unfold F_X1_markYards F_X1_markYards_L4
  refine lp_inv' (fun n x => x.1 = nI (lsum ln n) ∧ x.2.1 = nI n ∧ ∃ R, x.2.2 = sa h (f + 6) R ∧ ∀ y, y < lsum ln n → R y = nI (so ln y ns)) (B := ns) (Q := fun r => ∃ R, r = some (sa h (f + 6) R) ∧ ∀ y, y < lsum ln ns → R y = nI (so ln y ns)) ?_ ?_ sg_fuel 0 (0, 0, h) (Nat.zero_le _) (fu (by omega)) ⟨rfl, rfl, h.1 (f + 6), sa_self.symm, fun y hy => absurd hy (Nat.not_lt_zero y)⟩
  · rintro n ⟨x1, x2, x3⟩ rc hn ⟨rfl, rfl, R, rfl, hR⟩
    left
    dsimp only
    rw [sa_n (show f ≠ f + 6 by omega), h0, if_neg (nI_ge hn (by omega))]
    have e1 : lsum ln (n + 1) = lsum ln n + ln n := rfl
    have e2 := lsum_mono (ln := ln) (i := n + 1) (k := ns) (by omega)
    unfold F_X1_markYards_L14
    refine lp_inv' (fun k x => x.1 = nI (lsum ln n + k) ∧ x.2.1 = nI k ∧ ∃ R, x.2.2 = sa h (f + 6) R ∧ ∀ y, y < lsum ln n + k → R y = nI (so ln y ns)) (B := ln n) (Q := fun r => ∃ x', (x'.1 = nI (lsum ln (n + 1)) ∧ x'.2.1 = nI (n + 1) ∧ ∃ R, x'.2.2 = sa h (f + 6) R ∧ ∀ y, y < lsum ln (n + 1) → R y = nI (so ln y ns)) ∧ r = rc x') ?_ ?_ sg_fuel 0 (nI (lsum ln n), 0, sa h (f + 6) R) (Nat.zero_le _) (fu (by omega)) ⟨rfl, rfl, R, rfl, hR⟩
    · rintro k ⟨y1, y2, y3⟩ rc2 hk ⟨rfl, rfl, R, rfl, hR⟩
      left
      dsimp only
      rw [gd_ok (by omega) (by decide), ld_nI (by omega), sa_n (show f + 1 ≠ f + 6 by omega), h1 n hn, if_neg (nI_ge hk (by omega)), if_neg (show ¬ 120 ≤ nI (lsum ln n + k) from nI_ge (b := 120) (by omega) (by decide)), gd_ok (by omega) (by decide), nm_eq, st_sa (by omega), sa_sa, sa_r, nI_1, nI_1]
      refine ⟨_, ⟨rfl, rfl, _, rfl, fun y hy => ?_⟩, rfl⟩
      by_cases e : y = lsum ln n + k
      · subst e
        rw [upd_r, so_one hn (by omega) (by omega)]
      · rw [upd_n e]
        exact hR y (by omega)
    · rintro ⟨y1, y2, y3⟩ rc2 ⟨rfl, rfl, R, rfl, hR⟩
      dsimp only
      rw [gd_ok (by omega) (by decide), ld_nI (by omega), sa_n (show f + 1 ≠ f + 6 by omega), h1 n hn, if_pos (Int32.le_refl _)]
      unfold F_X1_markYards_J46
      rw [nI_1]
      exact ⟨_, ⟨rfl, rfl, R, rfl, hR⟩, rfl⟩
  · rintro ⟨x1, x2, x3⟩ rc ⟨rfl, rfl, R, rfl, hR⟩
    dsimp only
    rw [sa_n (show f ≠ f + 6 by omega), h0, if_pos (Int32.le_refl _)]
    exact ⟨R, rfl, hR⟩
/-- a funeral is copied: what of it is told in rows -/
theorem fcopy_eq {h : HP} {a q nb ns : Nat} {ln : Nat → Nat} {U : Nat → Int32} (hd : a + 7 ≤ q ∨ q + 7 ≤ a) (hns : ns ≤ 6) (hnb : nb ≤ 6) (hl : lsum ln ns ≤ 120) (hU : ∀ i, i < ns → U (4 + i) = nI (ln i)) (c0 : h.1 q 0 = nI ns) (c1 : h.1 q 1 = nI (lsum ln ns)) (c2 : h.1 q 2 = nI nb) (c3 : h.1 q 3 = U 2) (c4 : h.1 q 4 = U 3) (c5 : ∀ i, i < ns → h.1 (q + 1) i = U (4 + i) ∧ h.1 (q + 2) i = U (10 + i) ∧ h.1 (q + 3) i = U (16 + i)) (c6 : ∀ i, i < nb → h.1 (q + 4) i = U (22 + i) ∧ h.1 (q + 5) i = U (28 + i)) : ∃ h', F_X1_copy a q h = some h' ∧ CF h' a U nb ns ln ∧ (∀ x, (x < a ∨ a + 7 ≤ x) → h'.1 x = h.1 x) ∧ h'.2 = h.2 := by
  unfold F_X1_copy
  simp only [nm_eq, ui_sa, uc_sa]
  have e6 : (6 : Int32).toNatClampNeg = 6 := by decide
  have e0 : (0 : Int32).toNatClampNeg = 0 := by decide
  simp only [e6, e0, sa_sa, sa_r]
  simp (disch := omega) only [sa_n]
  generalize hO : upd (upd (upd (upd (upd (h.1 a) 0 (h.1 q 0)) 1 (h.1 q 1)) 2 (h.1 q 2)) 3 (h.1 q 3)) 4 (h.1 q 4) = O
  have o0 : O 0 = nI ns := by rw [← hO, upd_n (by decide), upd_n (by decide), upd_n (by decide), upd_n (by decide), upd_r]; exact c0
  have o1 : O 1 = nI (lsum ln ns) := by rw [← hO, upd_n (by decide), upd_n (by decide), upd_n (by decide), upd_r]; exact c1
  have o2 : O 2 = nI nb := by rw [← hO, upd_n (by decide), upd_n (by decide), upd_r]; exact c2
  have o3 : O 3 = U 2 := by rw [← hO, upd_n (by decide), upd_r]; exact c3
  have o4 : O 4 = U 3 := by rw [← hO, upd_r]; exact c4
  have cp : ∀ {f g : Nat → Int32} {i : Nat}, i < 6 → va_cpy f g 0 0 6 i = f i := fun {f g i} hi => by rw [pk_cpy_in (Nat.zero_le _) (by omega), Nat.zero_add, Nat.sub_zero]
  generalize hG : sa (sa (sa (sa (sa (sa h a O) (a + 1) (va_cpy (h.1 (q + 1)) (h.1 (a + 1)) 0 0 6)) (a + 2) (va_cpy (h.1 (q + 2)) (h.1 (a + 2)) 0 0 6)) (a + 3) (va_cpy (h.1 (q + 3)) (h.1 (a + 3)) 0 0 6)) (a + 4) (va_cpy (h.1 (q + 4)) (h.1 (a + 4)) 0 0 6)) (a + 5) (va_cpy (h.1 (q + 5)) (h.1 (a + 5)) 0 0 6) = G
  have g0 : G.1 a = O := by rw [← hG]; simp (disch := omega) only [sa_n, sa_r]
  have g1 : ∀ i, i < 6 → G.1 (a + 1) i = h.1 (q + 1) i := fun i hi => by rw [← hG]; simp (disch := omega) only [sa_n, sa_r]; exact cp hi
  have g2 : ∀ i, i < 6 → G.1 (a + 2) i = h.1 (q + 2) i := fun i hi => by rw [← hG]; simp (disch := omega) only [sa_n, sa_r]; exact cp hi
  have g3 : ∀ i, i < 6 → G.1 (a + 3) i = h.1 (q + 3) i := fun i hi => by rw [← hG]; simp (disch := omega) only [sa_n, sa_r]; exact cp hi
  have g4 : ∀ i, i < 6 → G.1 (a + 4) i = h.1 (q + 4) i := fun i hi => by rw [← hG]; simp (disch := omega) only [sa_n, sa_r]; exact cp hi
  have g5 : ∀ i, i < 6 → G.1 (a + 5) i = h.1 (q + 5) i := fun i hi => by rw [← hG]; simp (disch := omega) only [sa_r]; exact cp hi
  have gx : ∀ x, (x < a ∨ a + 7 ≤ x) → G.1 x = h.1 x := fun x hx => by rw [← hG]; simp (disch := omega) only [sa_n]
  have gr : G.2 = h.2 := by rw [← hG]; rfl
  obtain ⟨R, r1, r2⟩ := mark_eq (h := G) (f := a) (ln := ln) hns (by rw [g0]; exact o0) (fun i hi => by rw [g1 i (by omega), (c5 i hi).1, hU i hi]) hl
  rw [r1, cl_some]
  refine ⟨_, rfl, ⟨?_, ?_, ?_, ?_, ?_, fun i hi => ?_, fun i hi => ?_, fun y hy => ?_⟩, fun x hx => by rw [sa_n (by omega)]; exact gx x hx, gr⟩
  · rw [sa_n (by omega), g0]; exact o0
  · rw [sa_n (by omega), g0]; exact o1
  · rw [sa_n (by omega), g0]; exact o2
  · rw [sa_n (by omega), g0]; exact o3
  · rw [sa_n (by omega), g0]; exact o4
  · rw [sa_n (by omega), sa_n (by omega), sa_n (by omega), g1 i (by omega), g2 i (by omega), g3 i (by omega)]
    exact c5 i hi
  · rw [sa_n (by omega), sa_n (by omega), g4 i (by omega), g5 i (by omega)]
    exact c6 i hi
  · rw [sa_r]
    exact r2 y hy
/-- numbers a little more, a little less -/
theorem mvp {a : Nat} {d : Int32} (ha : a ≤ 200) (h1 : -9 ≤ d) (h2 : d ≤ 9) : (¬ nI a + d < 1 ↔ 1 ≤ (a : Int) + d.toInt) ∧ (1 ≤ (a : Int) + d.toInt → nI a + d = nI ((a : Int) + d.toInt).toNat) := by
  rw [fa_le] at h1 h2
  have e1 : (-9 : Int32).toInt = -9 := rfl
  have e2 : (9 : Int32).toInt = 9 := rfl
  have e3 : (1 : Int32).toInt = 1 := rfl
  rw [e1] at h1
  rw [e2] at h2
  have ea : (nI a).toInt = a := nI_toInt (by omega)
  have es : (nI a + d).toInt = (a : Int) + d.toInt := by rw [fb_addI (by rw [ea]; omega) (by rw [ea]; omega), ea]
  refine ⟨?_, fun h => ?_⟩
  · rw [fa_lt, es, e3]
    omega
  · rw [fa_eq, es, nI_toInt (by omega)]
    omega
theorem mvm {a : Nat} {d : Int32} (ha : a ≤ 200) (h1 : -9 ≤ d) (h2 : d ≤ 9) : (1 ≤ nI a - d ↔ 1 ≤ (a : Int) - d.toInt) ∧ (1 ≤ (a : Int) - d.toInt → nI a - d = nI ((a : Int) - d.toInt).toNat) := by
  rw [fa_le] at h1 h2
  have e1 : (-9 : Int32).toInt = -9 := rfl
  have e2 : (9 : Int32).toInt = 9 := rfl
  have e3 : (1 : Int32).toInt = 1 := rfl
  rw [e1] at h1
  rw [e2] at h2
  have ea : (nI a).toInt = a := nI_toInt (by omega)
  have es : (nI a - d).toInt = (a : Int) - d.toInt := by rw [fb_subI (by rw [ea]; omega) (by rw [ea]; omega), ea]
  refine ⟨?_, fun h => ?_⟩
  · rw [fa_le, es, e3]
  · rw [fa_eq, es, nI_toInt (by omega)]
    omega
/-- the border behind stretch k moved -/
def mvN (ln : Nat → Nat) (k : Nat) (d : Int) : Nat → Nat := fun i => if i = k then ((ln k : Int) + d).toNat else if i = k + 1 then ((ln (k + 1) : Int) - d).toNat else ln i
theorem mvN_sum {ln : Nat → Nat} {k : Nat} {d : Int} (h1 : 1 ≤ (ln k : Int) + d) (h2 : 1 ≤ (ln (k + 1) : Int) - d) : ∀ j, (lsum (mvN ln k d) j : Int) = (lsum ln j : Int) + (if j = k + 1 then d else 0)
  | 0 => by simp [lsum]
  | j + 1 => by
    have ih := mvN_sum h1 h2 j
    have e : (lsum (mvN ln k d) (j + 1) : Int) = (lsum (mvN ln k d) j : Int) + (mvN ln k d j : Int) := by
      show ((lsum (mvN ln k d) j + mvN ln k d j : Nat) : Int) = _
      omega
    have e2 : (lsum ln (j + 1) : Int) = (lsum ln j : Int) + (ln j : Int) := by
      show ((lsum ln j + ln j : Nat) : Int) = _
      omega
    rw [e, e2, ih]
    unfold mvN
    by_cases c1 : j = k
    · subst c1
      rw [if_neg (by omega), if_pos rfl, if_pos rfl]
      omega
    · by_cases c2 : j = k + 1
      · subst c2
        rw [if_pos rfl, if_neg (by omega), if_pos rfl, if_neg (by omega)]
        omega
      · rw [if_neg c2, if_neg c1, if_neg c2, if_neg (by omega)]
        omega
def mvU (U : Nat → Int32) (ln : Nat → Nat) (k : Nat) (d : Int) : Nat → Int32 := upd (upd U (4 + k) (nI (mvN ln k d k))) (4 + k + 1) (nI (mvN ln k d (k + 1)))
theorem mvU_n {U : Nat → Int32} {ln : Nat → Nat} {k j : Nat} {d : Int} (h : j ≠ 4 + k) (h2 : j ≠ 4 + k + 1) : mvU U ln k d j = U j := by unfold mvU; rw [upd_n h2, upd_n h]
theorem mvU_ln {U : Nat → Int32} {ln : Nat → Nat} {k : Nat} {d : Int} {i : Nat} (h : U (4 + i) = nI (ln i)) : mvU U ln k d (4 + i) = nI (mvN ln k d i) := by
  by_cases e1 : i = k
  · subst e1
    unfold mvU
    rw [upd_n (by omega), upd_r]
  · by_cases e2 : i = k + 1
    · subst e2
      unfold mvU
      rw [show 4 + (k + 1) = 4 + k + 1 by omega, upd_r]
    · rw [mvU_n (by omega) (by omega), h]
      unfold mvN
      rw [if_neg e1, if_neg e2]
theorem mvU_MU {U : Nat → Int32} {nb ns : Nat} {ln : Nat → Nat} {k : Nat} {d : Int} (v : MU U nb ns ln) (hk : k + 1 < ns) (h1 : 1 ≤ (ln k : Int) + d) (h2 : 1 ≤ (ln (k + 1) : Int) - d) : MU (mvU U ln k d) nb ns (mvN ln k d) ∧ lsum (mvN ln k d) ns = lsum ln ns := by
  obtain ⟨m1, m2, m3, m4, m5, m6⟩ := v
  have hs := mvN_sum h1 h2 ns
  rw [if_neg (by omega)] at hs
  refine ⟨⟨by rw [mvU_n (by omega) (by omega)]; exact m1, by rw [mvU_n (by omega) (by omega)]; exact m2, m3, m4, fun i hi => mvU_ln (m5 i hi), by omega⟩, by omega⟩
