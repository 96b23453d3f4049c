theorem move_eq {h : HP} {nb ns k : Nat} {ln : Nat → Nat} {U : Nat → Int32} {d : Int32} (hM : MU U nb ns ln) (hl : ∀ i, i < ns → ln i ≤ 30) (hC : CF h 22 U nb ns ln) (hk : k + 1 < ns) (hd1 : -9 ≤ d) (hd2 : d ≤ 9) (h1 : 1 ≤ (ln k : Int) + d.toInt) (h2 : 1 ≤ (ln (k + 1) : Int) - d.toInt) : ∃ h', F_X1_moveBorder 22 (nI k) d h = some (1, h') ∧ CF h' 22 (mvU U ln k d.toInt) nb ns (mvN ln k d.toInt) ∧ (∀ x, (x < 22 ∨ 28 < x) → h'.1 x = h.1 x) ∧ h'.2 = h.2 := by
  obtain ⟨v1, v2⟩ := mvU_MU hM hk h1 h2
  obtain ⟨c0, c1, c2, c3, c4, c5, c6, c7⟩ := hC
  obtain ⟨m1, m2, m3, m4, m5, m6⟩ := id hM
  have lk : h.1 23 k = nI (ln k) := by rw [← m5 k (by omega)]; exact (c5 k (by omega)).1
  have lk1 : h.1 23 (k + 1) = nI (ln (k + 1)) := by rw [← m5 (k + 1) (by omega)]; exact (c5 (k + 1) (by omega)).1
  obtain ⟨p1, p2⟩ := mvp (a := ln k) (by have := hl k (by omega); omega) hd1 hd2
  obtain ⟨q1, q2⟩ := mvm (a := ln (k + 1)) (by have := hl (k + 1) (by omega); omega) hd1 hd2
  have e1 : nI (ln k) + d = nI (mvN ln k d.toInt k) := by rw [p2 h1]; unfold mvN; rw [if_pos rfl]
  have e2 : nI (ln (k + 1)) - d = nI (mvN ln k d.toInt (k + 1)) := by rw [q2 h2]; unfold mvN; rw [if_neg (by omega), if_pos rfl]
  have hlen : ∀ i, i < ns → upd (upd (h.1 23) k (nI (mvN ln k d.toInt k))) (k + 1) (nI (mvN ln k d.toInt (k + 1))) i = nI (mvN ln k d.toInt i) := by
    intro i hi
    by_cases a1 : i = k + 1
    · subst a1; rw [upd_r]
    · rw [upd_n a1]
      by_cases a2 : i = k
      · subst a2; rw [upd_r]
      · rw [upd_n a2]
        have : mvN ln k d.toInt i = ln i := by unfold mvN; rw [if_neg a2, if_neg a1]
        rw [this, ← m5 i hi]
        exact (c5 i hi).1
  obtain ⟨R, r1, r2⟩ := mark_eq (h := sa h 23 (upd (upd (h.1 23) k (nI (mvN ln k d.toInt k))) (k + 1) (nI (mvN ln k d.toInt (k + 1))))) (f := 22) (ln := mvN ln k d.toInt) m4 (by rw [sa_n (by decide)]; exact c0) (fun i hi => by rw [sa_r]; exact hlen i hi) (by omega)
  refine ⟨sa (sa h 23 (upd (upd (h.1 23) k (nI (mvN ln k d.toInt k))) (k + 1) (nI (mvN ln k d.toInt (k + 1))))) (22 + 6) R, ?_, ⟨?_, ?_, ?_, ?_, ?_, fun i hi => ?_, fun i hi => ?_, fun y hy => ?_⟩, fun x hx => ?_, rfl⟩
  rotate_left
  · rw [sa_n (by decide), sa_n (by decide)]; exact c0
  · rw [sa_n (by decide), sa_n (by decide), v2]; exact c1
  · rw [sa_n (by decide), sa_n (by decide)]; exact c2
  · rw [sa_n (by decide), sa_n (by decide), mvU_n (by omega) (by omega)]; exact c3
  · rw [sa_n (by decide), sa_n (by decide), mvU_n (by omega) (by omega)]; exact c4
  · rw [sa_n (show 22 + 1 ≠ 22 + 6 by decide), sa_n (show 22 + 2 ≠ 22 + 6 by decide), sa_n (show 22 + 3 ≠ 22 + 6 by decide), sa_n (show 22 + 2 ≠ 23 by decide), sa_n (show 22 + 3 ≠ 23 by decide), mvU_n (j := 10 + i) (by omega) (by omega), mvU_n (j := 16 + i) (by omega) (by omega), mvU_ln (m5 i hi)]
    refine ⟨?_, (c5 i hi).2⟩
    rw [sa_r]
    exact hlen i hi
  · rw [sa_n (show 22 + 4 ≠ 22 + 6 by decide), sa_n (show 22 + 5 ≠ 22 + 6 by decide), sa_n (show 22 + 4 ≠ 23 by decide), sa_n (show 22 + 5 ≠ 23 by decide), mvU_n (j := 22 + i) (by omega) (by omega), mvU_n (j := 28 + i) (by omega) (by omega)]
    exact c6 i hi
  · rw [sa_r]
    exact r2 y hy
  · rw [sa_n (by omega), sa_n (by omega)]
  · unfold F_X1_moveBorder
    simp only [Nat.reduceAdd]
    have l1 : ld h 23 (nI k) = nI (ln k) := by rw [ld_nI (by omega), lk]
    rw [if_neg (nI_pos (by omega)), c0, nI_1, if_neg (nI_ge (by omega) (by omega)), gd_ok (by omega) (by decide), l1, if_neg (p1.mpr h1), gd_ok (by omega) (by decide)]
    rw [show ld h 23 (nI (k + 1)) = nI (ln (k + 1)) by rw [ld_nI (by omega), lk1], if_pos (q1.mpr h2), gd_ok (by omega) (by decide), gd_ok (by omega) (by decide), nm_eq, gd_ok (by omega) (by decide), gd_ok (by omega) (by decide), nm_eq, e1, st_sa (by omega), st_sa (by omega), sa_sa, sa_r, ld_nI (by omega), sa_r, upd_n (by omega), lk1, e2, r1, cl_some]
theorem move_no {h : HP} {nb ns k : Nat} {ln : Nat → Nat} {U : Nat → Int32} {d : Int32} (hM : MU U nb ns ln) (hl : ∀ i, i < ns → ln i ≤ 30) (hC : CF h 22 U nb ns ln) (hks : k < ns) (hd1 : -9 ≤ d) (hd2 : d ≤ 9) (hno : ¬ (k + 1 < ns ∧ 1 ≤ (ln k : Int) + d.toInt ∧ 1 ≤ (ln (k + 1) : Int) - d.toInt)) : F_X1_moveBorder 22 (nI k) d h = some (0, h) := by
  obtain ⟨c0, c1, c2, c3, c4, c5, c6, c7⟩ := hC
  obtain ⟨m1, m2, m3, m4, m5, m6⟩ := id hM
  unfold F_X1_moveBorder
  simp only [Nat.reduceAdd]
  rw [if_neg (nI_pos (by omega)), c0, nI_1]
  by_cases a1 : k + 1 < ns
  · have lk : h.1 23 k = nI (ln k) := by rw [← m5 k (by omega)]; exact (c5 k (by omega)).1
    have lk1 : h.1 23 (k + 1) = nI (ln (k + 1)) := by rw [← m5 (k + 1) (by omega)]; exact (c5 (k + 1) (by omega)).1
    obtain ⟨p1, p2⟩ := mvp (a := ln k) (by have := hl k (by omega); omega) hd1 hd2
    obtain ⟨q1, q2⟩ := mvm (a := ln (k + 1)) (by have := hl (k + 1) (by omega); omega) hd1 hd2
    rw [if_neg (nI_ge (by omega) (by omega)), gd_ok (by omega) (by decide), ld_nI (by omega), lk]
    by_cases a2 : 1 ≤ (ln k : Int) + d.toInt
    · rw [if_neg (p1.mpr a2), gd_ok (by omega) (by decide), ld_nI (by omega), lk1, if_neg (fun z => hno ⟨a1, a2, q1.mp z⟩)]
    · rw [if_pos (Classical.byContradiction (fun z => a2 (p1.mp z)))]
  · rw [if_pos (nI_le (by omega) (by omega))]
theorem step_cairn (h : HP) (hI : Inv h) (x1 x2 x3 : Int32) : ∃ (r : Int32) (h1 h2 : HP), F_X8_cairn 0 x1 x2 x3 h = some (r, h1) ∧ F_X9_cairn 133 x1 x2 x3 h1 = some (r, h2) ∧ Inv h2 := by
  have hI0 := hI
  obtain ⟨nb, ns, ln, n, wh, fr, to, c, t, u, k, q⟩ := hI
  have hT := c.T64
  have c0 := c
  obtain ⟨c1, c2, c3, c4, c5, c6, c7, c8⟩ := c
  obtain ⟨m1, m2, m3, m4, m5, m6⟩ := id c1.1
  have hns1 := c1.2.2.1
  have hl : ∀ i, i < ns → ln i ≤ 30 := fun i hi => (c1.2.2.2.2.2.1 i hi).2.1
  have eB : ∀ {g : HP}, g.1 134 = h.1 134 → F_X9_isBearer 133 x1 g = some (if 0 ≤ x1 ∧ x1 < nI nb then 1 else 0) := fun e => isB (by rw [e]; exact m2) c1.2.1 m3
  have l0 : ∀ {g : HP}, g.1 134 = h.1 134 → ld g 134 0 = nI ns := fun {g} e => by
    show g.1 134 0 = nI ns
    rw [e]; exact m1
  have eS : ∀ {g : HP}, g.1 134 = h.1 134 → F_X9_in x2.toInt64 0 ((ld g 134 0) - 1).toInt64 = some (if 0 ≤ x2 ∧ x2 < nI ns then 1 else 0) := fun {g} e => by
    rw [l0 e, inL (l := 0) (m := nI ns - 1) (by decide) rfl]
    simp only [isB_iff hns1 (show ns < 2 ^ 31 by omega)]
  have eD : F_X9_in x3.toInt64 (-9) 9 = some (if -9 ≤ x3 ∧ x3 ≤ 9 then 1 else 0) := inL (l := -9) (m := 9) (by decide) (by decide)
  unfold F_X8_cairn F_X9_cairn
  simp only [Nat.reduceAdd]
  rw [hasB c2.2.2.1, hasS c2.1, within_eq, eD]
  simp only [cl_some, b01]
  by_cases hx : 0 ≤ x1 ∧ x1 < nI nb
  · rw [if_pos hx]
    by_cases hx2 : 0 ≤ x2 ∧ x2 < nI ns
    · rw [if_pos hx2]
      by_cases hx3 : -9 ≤ x3 ∧ x3 ≤ 9
      · simp only [if_pos hx3]
        by_cases h0 : x3 = 0
        · simp only [if_pos h0]
          refine ⟨-1, h, h, rfl, ?_, hI0⟩
          rw [eB rfl, cl_some, b01, if_pos hx, eS rfl, cl_some, b01, if_pos hx2]
        · simp only [if_neg h0]
          obtain ⟨i, rfl, hi⟩ := nI_ex hx.1 hx.2 (by omega)
          obtain ⟨s, rfl, hs⟩ := nI_ex hx2.1 hx2.2 (by omega)
          obtain ⟨d1, d2, d3, d4, d5⟩ := c2
          obtain ⟨h1, f1, f2, f3, f4⟩ := fcopy_eq (h := h) (a := 22) (q := 15) (U := h.1 134) (ln := ln) (by omega) m4 m3 m6 m5 d1 d2 d3 d4 d5.1 d5.2.1 d5.2.2.1
          have k1 : Kp h h1 := ⟨fun x hx => f3 x (by unfold Pz at hx; omega), fun j hj => by rw [f3 133 (by omega)], fun x hx => by rw [f4]⟩
          rw [f1, cl_some]
          have e5 : (4 : Int32) + nI s = nI (4 + s) := lit_add 4 s
          have ep : nI ns - 1 = nI (ns - 1) := by
            have := nI_pred (ns - 1)
            rw [show ns - 1 + 1 = ns by omega] at this
            exact this
          by_cases hok : s + 1 < ns ∧ 1 ≤ (ln s : Int) + x3.toInt ∧ 1 ≤ (ln (s + 1) : Int) - x3.toInt
          · obtain ⟨o1, o2, o3⟩ := hok
            obtain ⟨p1, p2⟩ := mvp (a := ln s) (by have := hl s (by omega); omega) hx3.1 hx3.2
            obtain ⟨q1, q2⟩ := mvm (a := ln (s + 1)) (by have := hl (s + 1) (by omega); omega) hx3.1 hx3.2
            obtain ⟨v1, v2⟩ := mvU_MU c1.1 o1 o2 o3
            obtain ⟨h2, g1, g2, g3, g4⟩ := move_eq c1.1 hl f2 o1 hx3.1 hx3.2 o2 o3
            obtain ⟨h3, b1, b2, b3⟩ := beginC (h := h2) (a := 88) (f := 22) (by omega) g2 m3
            have r15 : ∀ x, (x < 22 ∨ (28 < x ∧ x < 88) ∨ 94 < x) → h3.1 x = h.1 x := fun x hx => by rw [b3.1 x (by omega), g3 x (by omega), f3 x (by omega)]
            obtain ⟨h4, w1, w2, w3, w4, w5⟩ := goC (h := h3) (a := 88) (f := 22) (q := 79) (T := TA n wh fr to) (by omega) (by omega) rfl (CF.fr g2 b3 (by omega)) v1 b2 (fun y hy => ⟨by rw [r15 79 (by omega)]; exact c6 y (by omega), hT y (by omega)⟩)
            have rx : ∀ x, (x < 22 ∨ (28 < x ∧ x < 88) ∨ 94 < x) → h4.1 x = h.1 x := fun x hx => by rw [w4.1 x (by omega)]; exact r15 x hx
            have kx : Kp h h4 := ⟨fun x hx => rx x (by unfold Pz at hx; omega), fun j hj => by rw [rx 133 (by omega)], fun x hx => by rw [w5, b3.2 x (by omega), g4, f4]⟩
            have cx := kx.core c0
            have hU4 : h4.1 134 = h.1 134 := rx 134 (by omega)
            have cf4 := CF.fr (CF.fr g2 b3 (by omega)) w4 (by omega)
            have ac1 := acres_eq (h := h4) w2 (cf4.2.2.2.2.2.2.1 i hi).2 m3 hi
            have ac2 := acres_eq (h := h4) cx.2.2.2.2.2.2.1 (cx.2.1.2.2.2.2.2.2.1 i hi).2 m3 hi
            rw [hU4] at ac2
            -- the model
            obtain ⟨ha, hb, a1, a2, a3, a4, a5, a6⟩ := asGo cx
            rw [hU4] at a3
            obtain ⟨hc, y1, y2, y3, y4, y5, y6⟩ := asItIs_ok hb
            have hUb : hb.1 134 = h.1 134 := (a5.1 134 (by omega)).trans hU4
            have hU143 : ∀ j, j < 34 → upd (upd (hc.1 143) (4 + s) (nI (mvN ln s x3.toInt s))) (4 + s + 1) (nI (mvN ln s x3.toInt (s + 1))) j = mvU (h.1 134) ln s x3.toInt j := by
              intro j hj
              unfold mvU
              by_cases e1 : j = 4 + s + 1
              · subst e1; rw [upd_r, upd_r]
              · rw [upd_n e1, upd_n e1]
                by_cases e2 : j = 4 + s
                · subst e2; rw [upd_r, upd_r]
                · rw [upd_n e2, upd_n e2, y3 j hj, hUb]
            obtain ⟨hd, z1, z2, z3⟩ := goM (h := sa hc 143 (upd (upd (hc.1 143) (4 + s) (nI (mvN ln s x3.toInt s))) (4 + s + 1) (nI (mvN ln s x3.toInt (s + 1))))) (U := mvU (h.1 134) ln s x3.toInt) (ST := uT (mvU (h.1 134) ln s x3.toInt)) (T := TA n wh fr to) (d := -1) (fl := -1) (fun j hj => by rw [sa_r]; exact hU143 j hj) v1 (by rw [sa_n (by decide)]; exact y6) (Or.inl rfl) (by rw [sa_n (by decide)]; exact y5) (fun j hj => by rw [if_neg (nI_m1 (by omega))]; rfl) (tolds_all (by rw [sa_n (by decide)]; exact (by have := cx.2.2.2.1; rw [← a5.1 136 (by omega)] at this; exact this.of y4)) c5 (by omega))
            have fmz : FM h4 hd := a5.trans (y2.trans ((fm_st (by omega)).trans z3))
            have j4 := (a3.2.2.1 i hi).2.2.2.1
            have jz := (z2.2.2.1 i hi).2.2.2.1
            rw [g1, cl_some, if_neg (show ¬ (1 : Int32) = 0 by decide), b1, cl_some, w1, cl_some, ac1, cl_some, ac2, cl_some]
            refine ⟨_, h4, hd, rfl, ?_, fmz.kp.inv (kx.inv hI0)⟩
            · have hk1 : (4 : Int32) + nI s + 1 = nI (4 + s + 1) := by rw [e5, nI_1]
              have le1 : ld h4 134 (nI (4 + s)) = nI (ln s) := by rw [ld_nI (by omega), hU4, m5 s (by omega)]
              have le2 : ld h4 134 (nI (4 + s + 1)) = nI (ln (s + 1)) := by rw [ld_nI (by omega), hU4]; exact m5 (s + 1) (by omega)
              have lc1 : hc.1 143 (4 + s) = nI (ln s) := by rw [y3 _ (by omega), hUb, m5 s (by omega)]
              have lc2 : hc.1 143 (4 + s + 1) = nI (ln (s + 1)) := by rw [y3 _ (by omega), hUb]; exact m5 (s + 1) (by omega)
              have ev1 : nI (ln s) + x3 = nI (mvN ln s x3.toInt s) := by rw [p2 o2]; unfold mvN; rw [if_pos rfl]
              have ev2 : nI (ln (s + 1)) - x3 = nI (mvN ln s x3.toInt (s + 1)) := by rw [q2 o3]; unfold mvN; rw [if_neg (by omega), if_pos rfl]
              rw [eB hU4, cl_some, b01, if_pos hx, eS hU4, cl_some, b01, if_pos hx2, l0 hU4, ep, if_neg (fun z => by have := (nI_eq (by omega) (by omega)).mp z; omega), hk1, e5, gd_ok (by omega) (by decide), le1, if_neg (p1.mpr o2), gd_ok (by omega) (by decide), le2, if_pos (q1.mpr o3), a1, cl_some, a2, cl_some, gd_ok (by omega) (by decide), nm_eq, y1, cl_some, gd_ok (by omega) (by decide), gd_ok (by omega) (by decide), nm_eq, gd_ok (by omega) (by decide), gd_ok (by omega) (by decide), nm_eq]
              simp only [st_sa (show 4 + s < 2 ^ 31 by omega), st_sa (show 4 + s + 1 < 2 ^ 31 by omega), ld_nI (show 4 + s < 2 ^ 31 by omega), ld_nI (show 4 + s + 1 < 2 ^ 31 by omega), ld_nI (show i < 2 ^ 31 by omega), sa_sa, sa_r]
              rw [upd_n (by omega), lc1, lc2, ev1, ev2, z1, cl_some, gd_ok (by omega) (by decide), j4, jz]
              rfl
          · rw [move_no c1.1 hl f2 hs hx3.1 hx3.2 hok, cl_some]
            refine ⟨-2, h1, h1, rfl, ?_, k1.inv hI0⟩
            have hU1 : h1.1 134 = h.1 134 := f3 134 (by omega)
            have le1 : ld h1 134 (nI (4 + s)) = nI (ln s) := by rw [ld_nI (by omega), hU1, m5 s (by omega)]
            rw [eB hU1, cl_some, b01, if_pos hx, eS hU1, cl_some, b01, if_pos hx2, l0 hU1, ep, e5, nI_1]
            by_cases o1 : s + 1 < ns
            · obtain ⟨p1, p2⟩ := mvp (a := ln s) (by have := hl s (by omega); omega) hx3.1 hx3.2
              obtain ⟨q1, q2⟩ := mvm (a := ln (s + 1)) (by have := hl (s + 1) (by omega); omega) hx3.1 hx3.2
              have le2 : ld h1 134 (nI (4 + s + 1)) = nI (ln (s + 1)) := by rw [ld_nI (by omega), hU1]; exact m5 (s + 1) (by omega)
              rw [if_neg (fun z => by have := (nI_eq (by omega) (by omega)).mp z; omega), gd_ok (by omega) (by decide), le1]
              by_cases o2 : 1 ≤ (ln s : Int) + x3.toInt
              · rw [if_neg (p1.mpr o2), gd_ok (by omega) (by decide), le2, if_neg (fun z => hok ⟨o1, o2, q1.mp z⟩)]
              · rw [if_pos (Classical.byContradiction (fun z => o2 (p1.mp z)))]
            · rw [if_pos (by rw [show s = ns - 1 by omega])]
      · simp only [if_neg hx3]
        refine ⟨-1, h, h, rfl, ?_, hI0⟩
        rw [eB rfl, cl_some, b01, if_pos hx, eS rfl, cl_some, b01, if_pos hx2]
    · rw [if_neg hx2]
      refine ⟨-1, h, h, rfl, ?_, hI0⟩
      rw [eB rfl, cl_some, b01, if_pos hx, eS rfl, cl_some, b01, if_neg hx2]
  · rw [if_neg hx]
    refine ⟨-1, h, h, rfl, ?_, hI0⟩
    rw [eB rfl, cl_some, b01, if_neg hx]
