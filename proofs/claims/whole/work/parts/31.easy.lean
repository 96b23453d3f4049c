theorem upd_r {f : Nat → Int32} {i : Nat} {v : Int32} : upd f i v i = v := by simp [upd]
theorem upd_n {f : Nat → Int32} {i j : Nat} {v : Int32} (h : j ≠ i) : upd f i v j = f j := by simp [upd, h]
theorem inL {x l m : Int32} {z2 z4 : Int64} (h2 : z2 = l.toInt64) (h4 : z4 = m.toInt64) : F_X9_in x.toInt64 z2 z4 = some (if l ≤ x ∧ x ≤ m then 1 else 0) := by
  rw [h2, h4]
  exact inI_eq x l m
theorem hasB {h : HP} {f nb : Nat} {x : Int32} (hb : h.1 f 2 = nI nb) : F_X1_hasBearer f x h = some (if 0 ≤ x ∧ x < nI nb then 1 else 0) := by
  unfold F_X1_hasBearer
  rw [hb]
  exact has_eq x _
theorem hasS {h : HP} {f nb : Nat} {x : Int32} (hb : h.1 f 0 = nI nb) : F_X1_hasStretch f x h = some (if 0 ≤ x ∧ x < nI nb then 1 else 0) := by
  unfold F_X1_hasStretch
  rw [hb]
  exact has_eq x _
theorem hasY {h : HP} {f nb : Nat} {x : Int32} (hb : h.1 f 1 = nI nb) : F_X1_hasYard f x h = some (if 0 ≤ x ∧ x < nI nb then 1 else 0) := by
  unfold F_X1_hasYard
  rw [hb]
  exact has_eq x _
theorem hasT {h : HP} {f nb : Nat} {x : Int32} (hb : h.1 f 0 = nI nb) : F_X6_has f x h = some (if 0 ≤ x ∧ x < nI nb then 1 else 0) := by
  unfold F_X6_has
  rw [hb]
  exact has_eq x _
theorem isB {h : HP} {nb : Nat} {x : Int32} (hb : h.1 134 1 = nI nb) (h1 : 1 ≤ nb) (h2 : nb ≤ 6) : F_X9_isBearer 133 x h = some (if 0 ≤ x ∧ x < nI nb then 1 else 0) := by
  unfold F_X9_isBearer
  have l : ld h 134 1 = nI nb := by rw [← hb]; rfl
  simp only [Nat.reduceAdd]
  rw [l, inL (l := 0) (m := nI nb - 1) (by decide) rfl, cl_some]
  simp only [isB_iff h1 (show nb < 2 ^ 31 by omega)]
theorem isT {h : HP} {n : Nat} {x : Int32} (hb : h.1 136 0 = nI n) (h2 : n ≤ 10) : F_X9_isTurn 133 x h = some (if 0 ≤ x ∧ x < nI n then 1 else 0) := by
  unfold F_X9_isTurn
  have l : ld h 136 0 = nI n := by rw [← hb]; rfl
  simp only [Nat.reduceAdd]
  rw [l, inL (l := 0) (m := nI n - 1) (by decide) rfl, cl_some]
  by_cases h0 : n = 0
  · subst h0
    have e : nI 0 - 1 = -1 := by decide
    rw [e]
    rw [if_neg, if_neg]
    · rintro ⟨z1, z2⟩
      exact absurd (Int32.lt_of_lt_of_le z2 z1) (Int32.lt_irrefl)
    · rintro ⟨z1, z2⟩
      exact absurd (Int32.le_trans z1 z2) (by decide)
  · simp only [isB_iff (show 1 ≤ n by omega) (show n < 2 ^ 31 by omega)]
theorem lsum_pos {ln : Nat → Nat} {ns : Nat} (h1 : 1 ≤ ns) (h : ∀ i, i < ns → 1 ≤ ln i) : 1 ≤ lsum ln ns := by
  have := lsum_mono (ln := ln) (i := 1) (k := ns) h1
  have h2 := h 0 (by omega)
  have e : lsum ln 1 = 0 + ln 0 := rfl
  omega
theorem isY {h : HP} {nb ns : Nat} {ln : Nat → Nat} {x : Int32} (hv : HV (h.1 134) nb ns ln) : F_X9_isYard 133 x h = some (if 0 ≤ x ∧ x < nI (lsum ln ns) then 1 else 0) := by
  unfold F_X9_isYard
  simp only [Nat.reduceAdd]
  have h1 := lsum_pos hv.2.2.1 (fun i hi => (hv.2.2.2.2.2.1 i hi).1)
  have h2 := hv.1.2.2.2.2.2
  rw [yardsOf_eq hv.1 rfl, cl_some, inL (l := 0) (m := nI (lsum ln ns) - 1) (by decide) rfl, cl_some]
  simp only [isB_iff h1 (show lsum ln ns < 2 ^ 31 by omega)]
theorem nar_char : ∀ c, c < 127 → vp_nar .char (((nI c).toUInt32 % 65536).toInt32) = nI c := by decide +kernel
theorem nI_ex2 {x : Int32} {l m : Nat} (h0 : nI l ≤ x) (h1 : x ≤ nI m) (hl : l < 2 ^ 31) (hm : m + 1 < 2 ^ 31) : ∃ i, x = nI i ∧ l ≤ i ∧ i ≤ m := by
  obtain ⟨i, rfl, hi⟩ := nI_ex (x := x) (m := m + 1) (Int32.le_trans (nI_le (a := 0) (Nat.zero_le _) hl) h0) (Int32.lt_of_le_of_lt h1 (nI_lt (by omega) hm)) hm
  exact ⟨i, rfl, (nI_leI hl (by omega)).mp h0, by omega⟩
theorem step_write (h : HP) (hI : Inv h) (x1 : Int32) : ∃ (r : Int32) (h1 h2 : HP), F_X8_write 0 x1 h = some (r, h1) ∧ F_X9_write 133 x1 h1 = some (r, h2) ∧ Inv h2 := by
  have hI0 := hI
  obtain ⟨nb, ns, ln, n, wh, fr, to, c, t, u, k, q⟩ := hI
  obtain ⟨l, l1, l2, l3, l4⟩ := id t
  unfold F_X8_write F_X9_write
  simp only [Nat.reduceAdd]
  rw [within_eq, cl_some, b01, inL (l := 32) (m := 126) (by decide) (by decide), l2]
  by_cases hx : 32 ≤ x1 ∧ x1 ≤ 126
  · rw [if_pos hx]
    obtain ⟨c0, rfl, hc1, hc2⟩ := nI_ex2 (l := 32) (m := 126) hx.1 hx.2 (by decide) (by decide)
    rw [nar_char c0 (by omega)]
    by_cases hl : l < 200
    · refine ⟨nI (l + 1), sa (sa h 1 (upd (h.1 1) l (nI c0))) 0 (upd (h.1 0) 1 (nI (l + 1))), sa (sa (sa (sa h 1 (upd (h.1 1) l (nI c0))) 0 (upd (h.1 0) 1 (nI (l + 1)))) 140 (upd (h.1 140) l (nI c0))) 133 (upd (h.1 133) 9 (nI (l + 1))), ?_, ?_, ?_⟩
      · rw [if_pos (show nI l < 200 from nI_lt (b := 200) hl (by decide))]
        simp (disch := omega) only [gd_ok, ld_nI, st_sa, nm_eq, cl_some, sa_sa, sa_r, sa_n, sa_2, nI_1, ui_sa, upd_r, upd_n, b01, Nat.reduceAdd, l2]
      · rw [cl_some, b01, if_pos hx]
        simp (disch := omega) only [gd_ok, ld_nI, st_sa, nm_eq, cl_some, sa_sa, sa_r, sa_n, sa_2, nI_1, ui_sa, upd_r, upd_n, b01, Nat.reduceAdd, l3]
        rw [if_neg (fun z => by have := (nI_eq (a := l) (b := 200) (by omega) (by omega)).mp z; omega)]
      · refine ⟨nb, ns, ln, n, wh, fr, to, c.of (fun x hx => ?_) rfl, ⟨l + 1, by omega, ?_, ?_, fun i hi => ?_⟩, u.of (fun x hx => ?_) ?_ ?_ ?_ rfl, k.of (fun x hx => ?_) ?_ ?_ ?_ rfl, q.of ?_ ?_ ?_ ?_ ?_⟩
        · rw [sa_n (by omega), sa_n (by omega), sa_n (by omega), sa_n (by omega)]
        · simp [sa_g, upd]
        · simp [sa_g, upd]
        · by_cases hil : i = l
          · subst hil
            simp [sa_g, upd]
            exact ⟨c0, rfl, hc1, hc2⟩
          · simpa [sa_g, upd, hil] using l4 i (by omega)
        · rw [sa_n (by omega), sa_n (by omega), sa_n (by omega), sa_n (by omega)]
        · simp [sa_g, upd]
        · simp [sa_g, upd]
        · simp [sa_g, upd]
        · rw [sa_n (by omega), sa_n (by omega), sa_n (by omega), sa_n (by omega)]
        · simp [sa_g, upd]
        · simp [sa_g, upd]
        · simp [sa_g, upd]
        · simp [sa_g, upd]
        · simp [sa_g, upd]
        · simp [sa_g, upd]
        · simp [sa_g, upd]
        · simp [sa_g, upd]
    · have e : l = 200 := by omega
      subst e
      rw [if_neg (by decide)]
      refine ⟨-3, h, h, rfl, ?_, hI0⟩
      rw [cl_some, b01, if_pos hx, l3]
      rfl
  · rw [if_neg hx]
    refine ⟨-1, h, h, rfl, ?_, hI0⟩
    rw [cl_some, b01, if_neg hx]
theorem step_wipe (h : HP) (hI : Inv h) : ∃ (r : Int32) (h1 h2 : HP), F_X8_wipe 0 h = some (r, h1) ∧ F_X9_wipe 133 h1 = some (r, h2) ∧ Inv h2 := by
  obtain ⟨nb, ns, ln, n, wh, fr, to, c, t, u, k, q⟩ := hI
  obtain ⟨l, l1, l2, l3, l4⟩ := id t
  unfold F_X8_wipe F_X9_wipe
  simp only [nm_eq, ui_sa, l2]
  refine ⟨nI l, sa h 0 (upd (h.1 0) 1 0), sa (sa h 0 (upd (h.1 0) 1 0)) 133 (upd (h.1 133) 9 0), rfl, by rw [sa_n (x := 133) (by decide), l3], nb, ns, ln, n, wh, fr, to, c.of (fun x hx => ?_) rfl, ⟨0, by omega, ?_, ?_, fun i hi => absurd hi (Nat.not_lt_zero i)⟩, u.of (fun x hx => ?_) ?_ ?_ ?_ rfl, k.of (fun x hx => ?_) ?_ ?_ ?_ rfl, q.of ?_ ?_ ?_ ?_ ?_⟩
  · rw [sa_n (by omega), sa_n (by omega)]
  · simp [sa_g, upd]; rfl
  · simp [sa_g, upd]; rfl
  · rw [sa_n (by omega), sa_n (by omega)]
  · simp [sa_g, upd]
  · simp [sa_g, upd]
  · simp [sa_g, upd]
  · rw [sa_n (by omega), sa_n (by omega)]
  · simp [sa_g, upd]
  · simp [sa_g, upd]
  · simp [sa_g, upd]
  · simp [sa_g, upd]
  · simp [sa_g, upd]
  · simp [sa_g, upd]
  · simp [sa_g, upd]
  · simp [sa_g, upd]
theorem step_forget (h : HP) (hI : Inv h) : ∃ (r : Int32) (h1 h2 : HP), F_X8_forget 0 h = some (r, h1) ∧ F_X9_forget 133 h1 = some (r, h2) ∧ Inv h2 := by
  obtain ⟨nb, ns, ln, n, wh, fr, to, c, t, u, k, q⟩ := hI
  obtain ⟨l, l1, l2, l3, l4⟩ := id q
  unfold F_X8_forget F_X9_forget
  simp only [nm_eq, ui_sa, l2]
  refine ⟨nI l, sa h 0 (upd (h.1 0) 10 0), sa (sa h 0 (upd (h.1 0) 10 0)) 133 (upd (h.1 133) 11 0), rfl, by rw [sa_n (x := 133) (by decide), l3], nb, ns, ln, n, wh, fr, to, c.of (fun x hx => ?_) rfl, t.of ?_ ?_ ?_ ?_, u.of (fun x hx => ?_) ?_ ?_ ?_ rfl, k.of (fun x hx => ?_) ?_ ?_ ?_ rfl, ⟨0, by omega, ?_, ?_, fun i hi => absurd hi (Nat.not_lt_zero i)⟩⟩
  · rw [sa_n (by omega), sa_n (by omega)]
  · simp [sa_g, upd]
  · simp [sa_g, upd]
  · simp [sa_g, upd]
  · simp [sa_g, upd]
  · rw [sa_n (by omega), sa_n (by omega)]
  · simp [sa_g, upd]
  · simp [sa_g, upd]
  · simp [sa_g, upd]
  · rw [sa_n (by omega), sa_n (by omega)]
  · simp [sa_g, upd]
  · simp [sa_g, upd]
  · simp [sa_g, upd]
  · simp [sa_g, upd]; rfl
  · simp [sa_g, upd]; rfl
theorem step_print (h : HP) (hI : Inv h) (x1 x2 : Int32) : ∃ (r : Int32) (h1 h2 : HP), F_X8_print 0 x1 x2 h = some (r, h1) ∧ F_X9_print 133 x1 x2 h1 = some (r, h2) ∧ Inv h2 := by
  have hI0 := hI
  obtain ⟨nb, ns, ln, n, wh, fr, to, c, t, u, k, q⟩ := hI
  obtain ⟨l, l1, l2, l3, l4⟩ := id q
  have hv := c.1
  have h120 : lsum ln ns ≤ 120 := hv.1.2.2.2.2.2
  unfold F_X8_print F_X9_print
  simp only [Nat.reduceAdd]
  rw [hasY c.2.1.2.1, cl_some, b01, within_eq, cl_some, b01, l2]
  simp only [inL (x := x2) (l := 0) (m := 6) (show (0 : Int64) = (0 : Int32).toInt64 by decide) (show (6 : Int64) = (6 : Int32).toInt64 by decide), cl_some, b01]
  by_cases hx : 0 ≤ x1 ∧ x1 < nI (lsum ln ns)
  · rw [if_pos hx]
    by_cases hx2 : 0 ≤ x2 ∧ x2 ≤ 6
    · rw [if_pos hx2]
      by_cases hl : l < 8
      · obtain ⟨y, rfl, hy⟩ := nI_ex hx.1 hx.2 (by omega)
        obtain ⟨m, rfl, hm1, hm2⟩ := nI_ex2 (l := 0) (m := 6) hx2.1 hx2.2 (by decide) (by decide)
        have e2 : (2 : Int32) * nI l = nI (2 * l) := pk_mul 2 l
        refine ⟨nI (l + 1), sa (sa (sa h 77 (upd (h.1 77) l (nI y))) 78 (upd (h.1 78) l (nI m))) 0 (upd (h.1 0) 10 (nI (l + 1))), sa (sa (sa (sa (sa h 77 (upd (h.1 77) l (nI y))) 78 (upd (h.1 78) l (nI m))) 0 (upd (h.1 0) 10 (nI (l + 1)))) 141 (upd (upd (h.1 141) (2 * l) (nI y)) (2 * l + 1) (nI m))) 133 (upd (h.1 133) 11 (nI (l + 1))), ?_, ?_, ?_⟩
        · rw [if_pos (show nI l < 8 from nI_lt (b := 8) hl (by decide))]
          simp (disch := omega) only [gd_ok, ld_nI, st_sa, nm_eq, cl_some, sa_sa, sa_r, sa_n, sa_2, nI_1, ui_sa, upd_r, upd_n, b01, Nat.reduceAdd, l2]
        · rw [isY (nb := nb) (ns := ns) (ln := ln) (by rw [sa_n (by decide), sa_n (by decide), sa_n (by decide)]; exact hv), cl_some, b01, if_pos hx, if_pos hx2]
          simp (disch := omega) only [gd_ok, ld_nI, st_sa, nm_eq, cl_some, sa_sa, sa_r, sa_n, sa_2, nI_1, ui_sa, upd_r, upd_n, b01, Nat.reduceAdd, l3, e2]
          rw [if_neg (fun z => by have := (nI_eq (a := l) (b := 8) (by omega) (by omega)).mp z; omega)]
        · refine ⟨nb, ns, ln, n, wh, fr, to, c.of (fun x hx => ?_) rfl, t.of ?_ ?_ ?_ ?_, u.of (fun x hx => ?_) ?_ ?_ ?_ rfl, k.of (fun x hx => ?_) ?_ ?_ ?_ rfl, ⟨l + 1, by omega, ?_, ?_, fun i hi => ?_⟩⟩
          · rw [sa_n (by omega), sa_n (by omega), sa_n (by omega), sa_n (by omega), sa_n (by omega)]
          · simp [sa_g, upd]
          · simp [sa_g, upd]
          · simp [sa_g, upd]
          · simp [sa_g, upd]
          · rw [sa_n (by omega), sa_n (by omega), sa_n (by omega), sa_n (by omega), sa_n (by omega)]
          · simp [sa_g, upd]
          · simp [sa_g, upd]
          · simp [sa_g, upd]
          · rw [sa_n (by omega), sa_n (by omega), sa_n (by omega), sa_n (by omega), sa_n (by omega)]
          · simp [sa_g, upd]
          · simp [sa_g, upd]
          · simp [sa_g, upd]
          · simp [sa_g, upd]
          · simp [sa_g, upd]
          · by_cases hil : i = l
            · subst hil
              simp [sa_g, upd]
              exact ⟨⟨y, hy, rfl⟩, m, hm2, rfl⟩
            · have e1 : ¬ 2 * i = 2 * l + 1 := by omega
              have e2 : ¬ 2 * i = 2 * l := by omega
              have e3 : ¬ 2 * i + 1 = 2 * l := by omega
              simpa [sa_g, upd, hil, e1, e2, e3] using l4 i (by omega)
      · have e : l = 8 := by omega
        subst e
        rw [if_neg (by decide)]
        refine ⟨-3, h, h, rfl, ?_, hI0⟩
        rw [isY hv, cl_some, b01, if_pos hx, if_pos hx2, l3]
        rfl
    · rw [if_neg hx2]
      refine ⟨-1, h, h, rfl, ?_, hI0⟩
      rw [isY hv, cl_some, b01, if_pos hx, if_neg hx2]
  · rw [if_neg hx]
    refine ⟨-1, h, h, rfl, ?_, hI0⟩
    rw [isY hv, cl_some, b01, if_neg hx]
theorem step_count (h : HP) (hI : Inv h) (x1 : Int32) : ∃ (r : Int32), F_X8_count 0 x1 h = some r ∧ F_X9_count 133 x1 h = some r := by
  obtain ⟨nb, ns, ln, n, wh, fr, to, c, t, u, k, q⟩ := hI
  obtain ⟨l, l1, l2, l3, l4⟩ := t
  obtain ⟨p, p1, p2, p3, p4⟩ := q
  obtain ⟨u, u1, u2, u3, u4⟩ := u
  obtain ⟨k, k1, k2, k3, k4⟩ := k
  obtain ⟨c1, c2, c3, c4, c5⟩ := c
  have e0 : ld h 134 0 = h.1 15 0 := by rw [c2.1, ← c1.1.1]; rfl
  have e1 : ld h 134 1 = h.1 15 2 := by rw [c2.2.2.1, ← c1.1.2.1]; rfl
  have e2 : ld h 134 2 = h.1 15 3 := by rw [c2.2.2.2.1]; rfl
  have e3 : ld h 134 3 = h.1 15 4 := by rw [c2.2.2.2.2.1]; rfl
  have e5 : ld h 136 0 = h.1 29 0 := by rw [c3.1, ← c4.1]; rfl
  have hex : ∃ r, F_X8_count 0 x1 h = some r := by
    unfold F_X8_count
    repeat' split
    all_goals exact ⟨_, rfl⟩
  obtain ⟨r, hr⟩ := hex
  refine ⟨r, hr, ?_⟩
  rw [← hr]
  unfold F_X8_count F_X9_count
  simp only [Nat.reduceAdd]
  rw [yardsOf_eq c1.1 rfl, cl_some, e0, e1, e2, e3, e5, p3, u3, k3, l3, ← p2, ← u2, ← k2, ← l2, ← c2.2.1]
theorem step_turn (h : HP) (hI : Inv h) (x1 x2 : Int32) : ∃ (r : Int32), F_X8_turn 0 x1 x2 h = some r ∧ F_X9_turn 133 x1 x2 h = some r := by
  obtain ⟨nb, ns, ln, n, wh, fr, to, c, t, u, k, q⟩ := hI
  obtain ⟨c1, c2, c3, c4, c5⟩ := c
  have hn9 := c3.2.1
  unfold F_X8_turn F_X9_turn
  simp only [Nat.reduceAdd]
  rw [hasT c3.1, cl_some, b01, isT c4.1 c4.2.1, cl_some, b01, inL (l := 0) (m := 2) (by decide) (by decide), cl_some, b01]
  by_cases hx : 0 ≤ x1 ∧ x1 < nI n
  · rw [if_pos hx, if_pos hx]
    obtain ⟨j, rfl, hj⟩ := nI_ex hx.1 hx.2 (by omega)
    obtain ⟨a1, a2, a3, a4⟩ := c3.2.2 j hj
    obtain ⟨b1, b2, b3, b4⟩ := c4.2.2 j hj
    simp only [gd_ok (show j < 9 by omega) (show 9 < 2 ^ 31 by decide), ld_nI (show j < 2 ^ 31 by omega)]
    by_cases h2 : 0 ≤ x2 ∧ x2 ≤ 2
    · rw [if_pos h2]
      obtain ⟨w, rfl, hw1, hw2⟩ := nI_ex2 (l := 0) (m := 2) h2.1 h2.2 (by decide) (by decide)
      have : w = 0 ∨ w = 1 ∨ w = 2 := by omega
      rcases this with rfl | rfl | rfl
      · refine ⟨_, if_pos rfl, ?_⟩
        have e : (1 : Int32) + 10 * nI 0 + nI j = nI (1 + j) := nI_add 1 j
        rw [e, gd_ok (by omega) (by decide), ld_nI (by omega), b1, a1]
      · refine ⟨_, (if_neg (by decide)).trans (if_pos rfl), ?_⟩
        have e : (1 : Int32) + 10 * nI 1 + nI j = nI (11 + j) := nI_add 11 j
        rw [e, gd_ok (by omega) (by decide), ld_nI (by omega), b2, a2]
      · refine ⟨_, (if_neg (by decide)).trans ((if_neg (by decide)).trans (if_pos rfl)), ?_⟩
        have e : (1 : Int32) + 10 * nI 2 + nI j = nI (21 + j) := nI_add 21 j
        rw [e, gd_ok (by omega) (by decide), ld_nI (by omega), b3, a3]
    · rw [if_neg h2]
      refine ⟨_, ?_, rfl⟩
      rw [if_neg (fun e => h2 (by rw [e]; decide)), if_neg (fun e => h2 (by rw [e]; decide)), if_neg (fun e => h2 (by rw [e]; decide))]
  · rw [if_neg hx, if_neg hx]
    exact ⟨_, rfl, rfl⟩
