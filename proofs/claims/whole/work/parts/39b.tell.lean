theorem TB.congr {h : HP} {t : Nat} {B B' : Nat → Int32} {nb : Nat} (c : TB h t B nb) (hB : ∀ i, i < 31 → B' i = B i) : TB h t B' nb := by
  obtain ⟨n, wh, fr, to, c1, c2, c3⟩ := c
  exact ⟨n, wh, fr, to, c1, c2.of hB, c3⟩
theorem tell {g : HP} {nb ns n : Nat} {ln wh fr to : Nat → Nat} {U : Nat → Int32} (hv : HV U nb ns ln) (hC : CF g 15 U nb ns ln) (hT : TN g 29 n wh fr to) (hw : ∀ k, k < n → wh k < nb) : ∃ h3, F_X8_settle 0 g = some h3 ∧ (∀ x, (x < 79 ∨ x = 80 ∨ 87 < x) → h3.1 x = g.1 x) ∧ (∀ x, x ≠ 81 → h3.2 x = g.2 x) ∧ ∀ m : HP, (∀ x, x < 133 → m.1 x = h3.1 x) → m.2 = h3.2 → m.1 134 = U → TM (m.1 136) n wh fr to → Core m nb ns ln n wh fr to := by
  obtain ⟨h3, e1, e2, e3, e4, e5, e6⟩ := settle_eq hv hC hT
  refine ⟨h3, e1, e5, e6, fun m m1 m2 m3 m4 => ?_⟩
  subst m3
  exact ⟨hv, hC.of (fun x hx1 hx2 => by rw [m1 x (by omega), e5 x (by omega)]), hT.of (fun x hx1 hx2 => by rw [m1 x (by omega), e5 x (by omega)]), m4, hw, fun y hy => by rw [m1 79 (by omega)]; exact e2 y hy, e3.of (fun x hx1 hx2 => m1 x (by omega)) (by rw [m2]), fun y hy => by rw [m1 86 (by omega)]; exact e4 y hy⟩
theorem undPush {h : HP} {nb n : Nat} {wh fr to : Nat → Nat} (hU : Und h nb) (hT : TN h 29 n wh fr to) (hM : TM (h.1 136) n wh fr to) (hw : ∀ k, k < n → wh k < nb) : ∃ h1, F_X3_push 33 29 h = some h1 ∧ (∀ x, (x < 33 ∨ 66 < x) → h1.1 x = h.1 x) ∧ (∀ x, x ≠ 34 → h1.2 x = h.2 x) ∧ ∀ g : HP, (∀ x, 33 ≤ x → x ≤ 66 → g.1 x = h1.1 x) → g.2 34 = h1.2 34 → g.1 133 5 = h.1 133 5 → g.1 138 = h.1 138 → g.1 136 = h.1 136 → ∃ m, F_X9_remember 133 g = some m ∧ Und m nb ∧ (∀ x, x ≠ 133 → x ≠ 138 → m.1 x = g.1 x) ∧ (∀ j, j ≠ 5 → m.1 133 j = g.1 133 j) ∧ m.2 = g.2 := by
  obtain ⟨u, u1, u2, u3, u4, u5, u6⟩ := hU
  obtain ⟨h1, v, sh, e1, e2, e3, e4, e5, e6, e7, e8, e9, e10⟩ := pushU u1 u2 u4 u5 hT
  refine ⟨h1, e1, e9, e10, fun g g1 g2 g3 g4 g5 => ?_⟩
  obtain ⟨m, v', sh', r1, r2, r3, r4, r5, r6, r7, r8, r9⟩ := remember_eq (h := g) u1 (g3.trans u3)
  have ev : v' = v ∧ sh' = sh ∧ v < 8 ∧ (u < 8 → v = u) ∧ v + sh ≤ u := by
    by_cases hc : u < 8
    · have a1 := e2 hc
      have a2 := r2 hc
      omega
    · have a1 := e3 (by omega)
      have a2 := r3 (by omega)
      omega
  obtain ⟨ev1, ev2, ev3, ev4, ev5⟩ := ev
  subst ev1
  subst ev2
  have mrow : ∀ x, 33 ≤ x → x ≤ 66 → m.1 x = h1.1 x := fun x hx1 hx2 => by rw [r7 x (by omega) (by omega)]; exact g1 x hx1 hx2
  have mref : m.2 34 = h1.2 34 := by rw [r9]; exact g2
  refine ⟨m, r1, ⟨v' + 1, by omega, by rw [mrow 33 (by omega) (by omega)]; exact e4, r4, by rw [mref]; exact e5, by rw [mref]; exact e6, fun k hk => ?_⟩, r7, r8, r9⟩
  rw [mref]
  obtain ⟨s, s1, s2⟩ := e5 k (by omega)
  by_cases hkv : k = v'
  · subst hkv
    refine ⟨n, wh, fr, to, e7.of (fun x hx1 hx2 => mrow x (by omega) (by omega)), hM.of (fun i hi => ?_), hw⟩
    rw [r6 i hi, g5]
  · obtain ⟨a1, a2⟩ := e8 k (by omega)
    have b := u6 (k + sh') (by omega)
    rw [← a1] at b
    refine (b.of (fun x hx1 hx2 => ?_)).congr (fun i hi => ?_)
    · rw [mrow x (by omega) (by omega)]
      exact a2 x hx1 (by omega)
    · rw [r5 k i (by omega) hi, g4]
theorem full9 {h : HP} {n : Nat} (h1 : h.1 29 0 = nI n) (hn : n ≤ 9) : F_X6_isFull 29 h = some (if n < 9 then 0 else 1) := by
  unfold F_X6_isFull
  rw [h1]
  by_cases hc : n < 9
  · rw [if_pos (show nI n < 9 from nI_lt (b := 9) hc (by decide)), if_pos hc]
  · rw [if_neg (show ¬ nI n < 9 from nI_nlt (b := 9) (by omega) (by omega)), if_neg hc]
theorem add_eq {h : HP} {n i a b : Nat} {wh fr to : Nat → Nat} (hT : TN h 29 n wh fr to) (hn : n < 9) (hi : i < 6) (hab : a ≤ b) (hb : b < 120) : ∃ h', F_X6_add 29 (nI i) (nI a) (nI b) h = some (1, h') ∧ TN h' 29 (n + 1) (upN wh n i) (upN fr n a) (upN to n b) ∧ (∀ x, (x < 29 ∨ 32 < x) → h'.1 x = h.1 x) ∧ h'.2 = h.2 := by
  obtain ⟨t1, t2, t3⟩ := hT
  refine ⟨sa (sa (sa (sa h 30 (upd (h.1 30) n (nI i))) 31 (upd (h.1 31) n (nI a))) 32 (upd (h.1 32) n (nI b))) 29 (upd (h.1 29) 0 (nI (n + 1))), ?_, ⟨?_, by omega, fun k hk => ?_⟩, fun x hx => ?_, rfl⟩
  · unfold F_X6_add
    rw [full9 t1 (by omega), if_pos hn, cl_some, if_pos rfl, if_pos (nI_le hab (by omega))]
    simp (disch := omega) only [gd_ok, ld_nI, st_sa, nm_eq, cl_some, sa_sa, sa_r, sa_n, sa_2, nI_1, ui_sa, upd_r, upd_n, b01, Nat.reduceAdd, t1]
  · rw [sa_r, upd_r]
  · by_cases e : k = n
    · subst e
      rw [upN_r, upN_r, upN_r]
      refine ⟨?_, ?_, ?_, hi, hab, hb⟩
      · simp [sa_g, upd]
      · simp [sa_g, upd]
      · simp [sa_g, upd]
    · rw [upN_n e, upN_n e, upN_n e]
      have := t3 k (by omega)
      simpa [sa_g, upd, e] using this
  · rw [sa_n (by omega), sa_n (by omega), sa_n (by omega), sa_n (by omega)]
theorem Kep.keep {h h' : HP} {nb : Nat} (c : Kep h nb) (hk : ∀ x, (67 ≤ x ∧ x ≤ 76) ∨ x = 139 → h'.1 x = h.1 x) (k2 : h'.1 133 7 = h.1 133 7) (k4 : h'.2 68 = h.2 68) : Kep h' nb := c.of (fun x hx => hk x (by omega)) (by rw [hk 67 (by omega)]) k2 (hk 139 (by omega)) k4
theorem step_bear (h : HP) (hI : Inv h) (x1 x2 x3 : Int32) : ∃ (r : Int32) (h1 h2 : HP), F_X8_bear 0 x1 x2 x3 h = some (r, h1) ∧ F_X9_bear 133 x1 x2 x3 h1 = some (r, h2) ∧ Inv h2 := by
  have hI0 := hI
  obtain ⟨nb, ns, ln, n, wh, fr, to, c, t, u, k, q⟩ := hI
  have hn9 := c.2.2.1.2.1
  have hn := c.1.1.2.2.1
  have eB : ∀ {g : HP}, g.1 134 = h.1 134 → F_X9_isBearer 133 x1 g = some (if 0 ≤ x1 ∧ x1 < nI nb then 1 else 0) := fun e => isB (by rw [e]; exact c.1.1.2.1) c.1.2.1 hn
  unfold F_X8_bear F_X9_bear
  simp only [Nat.reduceAdd]
  rw [hasB c.2.1.2.2.1, within_eq, within_eq, full9 c.2.2.1.1 hn9]
  rw [inL (x := x2) (l := 0) (m := 119) (by decide) (by decide), inL (x := x3) (l := x2) (m := 119) rfl (by decide)]
  simp only [cl_some, b01]
  by_cases hx : 0 ≤ x1 ∧ x1 < nI nb
  · rw [if_pos hx]
    by_cases hx2 : 0 ≤ x2 ∧ x2 ≤ 119
    · simp only [if_pos hx2]
      by_cases hx3 : x2 ≤ x3 ∧ x3 ≤ 119
      · simp only [if_pos hx3]
        by_cases hf : n < 9
        · rw [if_pos hf, if_pos rfl]
          obtain ⟨i, rfl, hi⟩ := nI_ex hx.1 hx.2 (by omega)
          obtain ⟨a, rfl, ha1, ha2⟩ := nI_ex2 (l := 0) (m := 119) hx2.1 hx2.2 (by decide) (by decide)
          obtain ⟨b, rfl, hb1, hb2⟩ := nI_ex2 (l := a) (m := 119) hx3.1 hx3.2 (by omega) (by decide)
          obtain ⟨h1, p1, p2, p3, p4⟩ := undPush u c.2.2.1 c.2.2.2.1 c.2.2.2.2.1
          obtain ⟨h2, q1, q2, q3, q4⟩ := add_eq (i := i) (a := a) (b := b) (TN.of (h' := h1) c.2.2.1 (fun x hx1 hx2 => p2 x (by omega))) hf (by omega) hb1 (by omega)
          obtain ⟨h3, s1, s2, s3, s4⟩ := tell (g := h2) (U := h.1 134) (ln := ln) (ns := ns) (nb := nb) c.1 (c.2.1.of (fun x hx1 hx2 => by rw [q3 x (by omega), p2 x (by omega)])) q2 (fun k hk => by
            by_cases e : k = n
            · subst e; rw [upN_r]; exact hi
            · rw [upN_n e]; exact c.2.2.2.2.1 k (by omega))
          have hh : ∀ x, (x < 29 ∨ (66 < x ∧ x < 79) ∨ 87 < x) → h3.1 x = h.1 x := fun x hx => by rw [s2 x (by omega), q3 x (by omega), p2 x (by omega)]
          obtain ⟨m, m1, m2, m3, m4, m5⟩ := p4 h3 (fun x hx1 hx2 => by rw [s2 x (by omega), q3 x (by omega)]) (by rw [s3 34 (by omega), q4]) (by rw [hh 133 (by omega)]) (hh 138 (by omega)) (hh 136 (by omega))
          obtain ⟨B, b1, b2⟩ := adds_eq (h := m) (q := 136) (i := i) (a := a) (b := b) (n := n) (wh := wh) (fr := fr) (to := to) (by rw [m3 136 (by omega) (by omega), hh 136 (by omega)]; exact c.2.2.2.1) (by omega) rfl (by omega) hb1 (by omega)
          refine ⟨nI (n + 1), h3, sa m 136 B, ?_, ?_, ?_⟩
          · rw [p1, cl_some, q1, cl_some, s1, cl_some, s2 29 (by omega), q2.1]
          · have l : ld h3 136 0 = nI n := by
              show h3.1 136 0 = nI n
              rw [hh 136 (by omega)]
              exact c.2.2.2.1.1
            rw [eB (hh 134 (by omega)), cl_some, b01, if_pos hx, l, if_neg (fun z => by have := (nI_eq (a := n) (b := 9) (by omega) (by omega)).mp z; omega), m1, cl_some, b1, cl_some]
            have l2 : ld (sa m 136 B) 136 0 = nI (n + 1) := by
              show (sa m 136 B).1 136 0 = nI (n + 1)
              rw [sa_r]
              exact b2.1
            rw [l2]
          · have hm : ∀ x, x ≠ 133 → x ≠ 136 → x ≠ 138 → (sa m 136 B).1 x = h3.1 x := fun x a1 a2 a3 => by rw [sa_n a2, m3 x a1 a3]
            have hm3 : ∀ j, j ≠ 5 → (sa m 136 B).1 133 j = h.1 133 j := fun j hj => by rw [sa_n (by decide), m4 j hj, hh 133 (by omega)]
            have hr : ∀ x, x ≠ 34 → x ≠ 81 → (sa m 136 B).2 x = h.2 x := fun x a1 a2 => by rw [sa_2, m5, s3 x a2, q4, p3 x a1]
            have core := s4 (sa m 136 B) (fun x hx => hm x (by omega) (by omega) (by omega)) (by rw [sa_2, m5]) (by rw [hm 134 (by omega) (by omega) (by omega), hh 134 (by omega)]) (by rw [sa_r]; exact b2)
            refine ⟨nb, ns, ln, n + 1, _, _, _, core, t.of ?_ ?_ ?_ ?_, m2.of (fun x hx => sa_n (by omega)) (by rw [sa_n (by decide)]) (by rw [sa_n (by decide)]) (sa_n (by decide)) rfl, k.keep (fun x hx => by rw [hm x (by omega) (by omega) (by omega), hh x (by omega)]) (hm3 7 (by decide)) (hr 68 (by decide) (by decide)), q.of ?_ ?_ ?_ ?_ ?_⟩
            · rw [hm 0 (by omega) (by omega) (by omega), hh 0 (by omega)]
            · rw [hm 1 (by omega) (by omega) (by omega), hh 1 (by omega)]
            · exact hm3 9 (by decide)
            · rw [hm 140 (by omega) (by omega) (by omega), hh 140 (by omega)]
            · rw [hm 0 (by omega) (by omega) (by omega), hh 0 (by omega)]
            · rw [hm 77 (by omega) (by omega) (by omega), hh 77 (by omega)]
            · rw [hm 78 (by omega) (by omega) (by omega), hh 78 (by omega)]
            · exact hm3 11 (by decide)
            · rw [hm 141 (by omega) (by omega) (by omega), hh 141 (by omega)]
        · rw [if_neg hf, if_neg (by decide)]
          have e9 : n = 9 := by omega
          subst e9
          refine ⟨-3, h, h, rfl, ?_, hI0⟩
          have l : ld h 136 0 = nI 9 := c.2.2.2.1.1
          rw [eB rfl, cl_some, b01, if_pos hx, l, if_pos (by decide)]
      · simp only [if_neg hx3]
        refine ⟨-1, h, h, rfl, ?_, hI0⟩
        rw [eB rfl, cl_some, b01, if_pos hx]
    · simp only [if_neg hx2]
      refine ⟨-1, h, h, rfl, ?_, hI0⟩
      rw [eB rfl, cl_some, b01, if_pos hx]
  · rw [if_neg hx]
    refine ⟨-1, h, h, rfl, ?_, hI0⟩
    rw [eB rfl, cl_some, b01, if_neg hx]
