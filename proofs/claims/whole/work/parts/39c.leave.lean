def dpN (f : Nat → Nat) (k : Nat) : Nat → Nat := fun j => if j < k then f j else f (j + 1)
theorem drop_eq {h : HP} {n k : Nat} {wh fr to : Nat → Nat} (hT : TN h 29 n wh fr to) (hk : k < n) : ∃ h', F_X6_drop 29 (nI k) h = some h' ∧ TN h' 29 (n - 1) (dpN wh k) (dpN fr k) (dpN to k) ∧ (∀ x, (x < 29 ∨ 32 < x) → h'.1 x = h.1 x) ∧ h'.2 = h.2 := by
  obtain ⟨t1, t2, t3⟩ := hT
  unfold F_X6_drop F_X6_drop_L2
  refine lp_inv' (fun e x => x.1 = nI (k + e) ∧ x.2.1 29 = h.1 29 ∧ (∀ j, j < k + e → x.2.1 30 j = nI (dpN wh k j) ∧ x.2.1 31 j = nI (dpN fr k j) ∧ x.2.1 32 j = nI (dpN to k j)) ∧ (∀ j, k + e ≤ j → x.2.1 30 j = h.1 30 j ∧ x.2.1 31 j = h.1 31 j ∧ x.2.1 32 j = h.1 32 j) ∧ (∀ z, (z < 29 ∨ 32 < z) → x.2.1 z = h.1 z) ∧ x.2.2 = h.2) (B := n - 1 - k) (Q := fun r => ∃ h', r = some h' ∧ TN h' 29 (n - 1) (dpN wh k) (dpN fr k) (dpN to k) ∧ (∀ x, (x < 29 ∨ 32 < x) → h'.1 x = h.1 x) ∧ h'.2 = h.2) ?_ ?_ sg_fuel 0 (nI k, h) (Nat.zero_le _) (fu (by omega)) ⟨rfl, rfl, fun j hj => ?_, fun _ _ => ⟨rfl, rfl, rfl⟩, fun _ _ => rfl, rfl⟩
  · rintro e ⟨x1, x2⟩ rc he ⟨rfl, i1, i2, i3, i4, i5⟩
    left
    dsimp only at i1 i2 i3 i4 i5 ⊢
    obtain ⟨j1, j2, j3⟩ := i3 (k + e + 1) (by omega)
    obtain ⟨k1, k2, k3, k4⟩ := t3 (k + e + 1) (by omega)
    rw [nI_1, i1, t1, if_neg (nI_ge (by omega) (by omega))]
    simp (disch := omega) only [gd_ok, ld_nI, st_sa, nm_eq, cl_some, sa_sa, sa_r, sa_n, sa_2, nI_1, ui_sa, upd_r, upd_n, b01, Nat.reduceAdd, j1, j2, j3, k1, k2, k3]
    refine ⟨_, ⟨rfl, ?_, fun j hj => ?_, fun j hj => ?_, fun z hz => ?_, i5⟩, rfl⟩
    · dsimp only
      rw [sa_n (by decide), sa_n (by decide), sa_n (by decide)]
      exact i1
    · dsimp only
      have e1 : dpN wh k (k + e) = wh (k + e + 1) := if_neg (by omega)
      have e2 : dpN fr k (k + e) = fr (k + e + 1) := if_neg (by omega)
      have e3 : dpN to k (k + e) = to (k + e + 1) := if_neg (by omega)
      by_cases ej : j = k + e
      · subst ej
        rw [e1, e2, e3]
        simp [sa_g, upd]
      · have := i2 j (by omega)
        simpa [sa_g, upd, ej] using this
    · dsimp only
      have := i3 j (by omega)
      have ej : ¬ j = k + e := by omega
      simpa [sa_g, upd, ej] using this
    · dsimp only
      rw [sa_n (by omega), sa_n (by omega), sa_n (by omega)]
      exact i4 z hz
  · rintro ⟨x1, x2⟩ rc ⟨rfl, i1, i2, i3, i4, i5⟩
    dsimp only at i1 i2 i3 i4 i5 ⊢
    rw [nI_1, i1, t1, if_pos (nI_le (by omega) (by omega))]
    unfold F_X6_drop_J60
    rw [nm_eq, ui_sa, i1, t1]
    have e : nI n - 1 = nI (n - 1) := by
      have := nI_pred (n - 1)
      rw [show n - 1 + 1 = n by omega] at this
      exact this
    rw [e]
    refine ⟨_, rfl, ⟨by rw [sa_r, upd_r], by omega, fun j hj => ?_⟩, fun x hx => ?_, i5⟩
    · obtain ⟨j1, j2, j3⟩ := i2 j (by omega)
      have hd : wh (if j < k then j else j + 1) < 6 ∧ fr (if j < k then j else j + 1) ≤ to (if j < k then j else j + 1) ∧ to (if j < k then j else j + 1) < 120 := by
        have := t3 (if j < k then j else j + 1) (by split <;> omega)
        exact this.2.2.2
      rw [sa_n (by decide), sa_n (by decide), sa_n (by decide)]
      refine ⟨j1, j2, j3, ?_⟩
      unfold dpN
      by_cases hjk : j < k
      · simpa [hjk] using hd
      · simpa [hjk] using hd
    · rw [sa_n (by omega)]
      exact i4 x hx
  · obtain ⟨k1, k2, k3, k4⟩ := t3 j (by omega)
    have hj' : j < k := by omega
    simp only [dpN, if_pos hj']
    exact ⟨k1, k2, k3⟩
/-- the model leaves a turn out -/
theorem leaveM {h : HP} {n k : Nat} {wh fr to : Nat → Nat} (hT : TM (h.1 136) n wh fr to) (hn : n ≤ 9) (hk : k < n) : ∃ B, F_X9_leave_L16 133 sg_fuel (nI k, h) = some (nI (n - 1), sa h 136 B) ∧ TM B (n - 1) (dpN wh k) (dpN fr k) (dpN to k) := by
  obtain ⟨t1, t2, t3⟩ := hT
  have e : nI n - 1 = nI (n - 1) := by
    have := nI_pred (n - 1)
    rw [show n - 1 + 1 = n by omega] at this
    exact this
  unfold F_X9_leave_L16
  refine lp_inv' (fun i x => x.1 = nI (k + i) ∧ ∃ B, x.2 = sa h 136 B ∧ B 0 = nI n ∧ (∀ j, j < k + i → B (1 + j) = nI (dpN wh k j) ∧ B (11 + j) = nI (dpN fr k j) ∧ B (21 + j) = nI (dpN to k j)) ∧ ∀ j, k + i ≤ j → j < n → B (1 + j) = h.1 136 (1 + j) ∧ B (11 + j) = h.1 136 (11 + j) ∧ B (21 + j) = h.1 136 (21 + j)) (B := n - 1 - k) (Q := fun r => ∃ B, r = some (nI (n - 1), sa h 136 B) ∧ TM B (n - 1) (dpN wh k) (dpN fr k) (dpN to k)) ?_ ?_ sg_fuel 0 (nI k, h) (Nat.zero_le _) (fu (by omega)) ⟨rfl, h.1 136, sa_self.symm, t1, fun j hj => ?_, fun _ _ _ => ⟨rfl, rfl, rfl⟩⟩
  · rintro i ⟨x1, x2⟩ rc hi ⟨rfl, B, rfl, b0, b1, b2⟩
    left
    dsimp only
    simp only [Nat.reduceAdd]
    have l : ld (sa h 136 B) 136 0 = nI n := by
      show (sa h 136 B).1 136 0 = nI n
      rw [sa_r]; exact b0
    rw [l, e, if_neg (nI_ge (by omega) (by omega))]
    unfold F_X9_leave_L30
    have g10 : ∀ w, (1 : Int32) + 10 * nI w + nI (k + i) = nI (1 + 10 * w + (k + i)) := fun w => by
      have : (10 : Int32) * nI w = nI (10 * w) := pk_mul 10 w
      rw [this, lit_add 1, nI_add]
    obtain ⟨c1, c2, c3⟩ := b2 (k + i + 1) (by omega) (by omega)
    obtain ⟨k1, k2, k3, k4⟩ := t3 (k + i + 1) (by omega)
    refine ⟨(nI (k + (i + 1)), sa h 136 (upd (upd (upd B (1 + (k + i)) (nI (wh (k + i + 1)))) (11 + (k + i)) (nI (fr (k + i + 1)))) (21 + (k + i)) (nI (to (k + i + 1))))), ⟨rfl, _, rfl, ?_, fun j hj => ?_, fun j hj1 hj2 => ?_⟩, ?_⟩
    · rw [upd_n (by omega), upd_n (by omega), upd_n (by omega)]
      exact b0
    · by_cases ej : j = k + i
      · subst ej
        have e1 : dpN wh k (k + i) = wh (k + i + 1) := if_neg (by omega)
        have e2 : dpN fr k (k + i) = fr (k + i + 1) := if_neg (by omega)
        have e3 : dpN to k (k + i) = to (k + i + 1) := if_neg (by omega)
        rw [e1, e2, e3, upd_n (by omega), upd_n (by omega), upd_r, upd_n (by omega), upd_r, upd_r]
        exact ⟨rfl, rfl, rfl⟩
      · rw [upd_n (by omega), upd_n (by omega), upd_n (by omega), upd_n (by omega), upd_n (by omega), upd_n (by omega), upd_n (by omega), upd_n (by omega), upd_n (by omega)]
        exact b1 j (by omega)
    · rw [upd_n (by omega), upd_n (by omega), upd_n (by omega), upd_n (by omega), upd_n (by omega), upd_n (by omega), upd_n (by omega), upd_n (by omega), upd_n (by omega)]
      exact b2 j (by omega) hj2
    · have hs : ∀ (w : Nat) (C : Nat → Int32) (rc2 : (Int32 × HP) → Option (Int32 × HP)), w < 3 → (if 3 ≤ nI w then F_X9_leave_J69 133 rc (nI (k + i)) (sa h 136 C) else gd (1 + 10 * nI w + nI (k + i) + 1) 31 (gd (1 + 10 * nI w + nI (k + i)) 31 (nm (st (sa h 136 C) (133 + 3) (1 + 10 * nI w + nI (k + i)) (ld (sa h 136 C) (133 + 3) (1 + 10 * nI w + nI (k + i) + 1))) fun h62 => rc2 (nI w + 1, h62)))) = rc2 (nI (w + 1), sa h 136 (upd C (1 + 10 * w + (k + i)) (C (1 + 10 * w + (k + i) + 1)))) := by
        intro w C rc2 hw
        simp only [Nat.reduceAdd]
        rw [if_neg (show ¬ 3 ≤ nI w from nI_ge (b := 3) hw (by decide)), g10, nI_1, nI_1, gd_ok (by omega) (by decide), gd_ok (by omega) (by decide), nm_eq, st_sa (by omega), sa_sa, sa_r, ld_nI (by omega), sa_r]
      have hlp : ∀ (N : Nat) (w : Nat) (C : Nat → Int32), w < 3 → lp (fun rc30 (x : Int32 × HP) => if 3 ≤ x.1 then F_X9_leave_J69 133 rc (nI (k + i)) x.2 else gd (1 + 10 * x.1 + nI (k + i) + 1) 31 (gd (1 + 10 * x.1 + nI (k + i)) 31 (nm (st x.2 (133 + 3) (1 + 10 * x.1 + nI (k + i)) (ld x.2 (133 + 3) (1 + 10 * x.1 + nI (k + i) + 1))) fun h62 => rc30 (x.1 + 1, h62)))) (N + 1) (nI w, sa h 136 C) = lp (fun rc30 (x : Int32 × HP) => if 3 ≤ x.1 then F_X9_leave_J69 133 rc (nI (k + i)) x.2 else gd (1 + 10 * x.1 + nI (k + i) + 1) 31 (gd (1 + 10 * x.1 + nI (k + i)) 31 (nm (st x.2 (133 + 3) (1 + 10 * x.1 + nI (k + i)) (ld x.2 (133 + 3) (1 + 10 * x.1 + nI (k + i) + 1))) fun h62 => rc30 (x.1 + 1, h62)))) N (nI (w + 1), sa h 136 (upd C (1 + 10 * w + (k + i)) (C (1 + 10 * w + (k + i) + 1)))) := fun N w C hw => hs w C _ hw
      obtain ⟨M, hM⟩ : ∃ M, sg_fuel = M + 4 := ⟨59996, rfl⟩
      rw [hM]
      have z0 : ((0 : Int32), sa h 136 B) = (nI 0, sa h 136 B) := rfl
      rw [z0, hlp (M + 3) 0 B (by omega), hlp (M + 2) 1 _ (by omega), hlp (M + 1) 2 _ (by omega)]
      show F_X9_leave_J69 133 rc (nI (k + i)) _ = _
      unfold F_X9_leave_J69
      rw [nI_1]
      have a1 : B (1 + 10 * 0 + (k + i) + 1) = nI (wh (k + i + 1)) := by
        rw [show 1 + 10 * 0 + (k + i) + 1 = 1 + (k + i + 1) by omega, c1, k1]
      have a2 : B (1 + 10 * 1 + (k + i) + 1) = nI (fr (k + i + 1)) := by
        rw [show 1 + 10 * 1 + (k + i) + 1 = 11 + (k + i + 1) by omega, c2, k2]
      have a3 : B (1 + 10 * 2 + (k + i) + 1) = nI (to (k + i + 1)) := by
        rw [show 1 + 10 * 2 + (k + i) + 1 = 21 + (k + i + 1) by omega, c3, k3]
      rw [upd_n (show 1 + 10 * 2 + (k + i) + 1 ≠ 1 + 10 * (0 + 1) + (k + i) by omega), upd_n (show 1 + 10 * 2 + (k + i) + 1 ≠ 1 + 10 * 0 + (k + i) by omega), upd_n (show 1 + 10 * (0 + 1) + (k + i) + 1 ≠ 1 + 10 * 0 + (k + i) by omega), a1, a3]
      rw [show 1 + 10 * (0 + 1) + (k + i) = 1 + 10 * 1 + (k + i) by omega, a2]
      rfl
  · rintro ⟨x1, x2⟩ rc ⟨rfl, B, rfl, b0, b1, b2⟩
    dsimp only
    simp only [Nat.reduceAdd]
    have l : ld (sa h 136 B) 136 0 = nI n := by
      show (sa h 136 B).1 136 0 = nI n
      rw [sa_r]; exact b0
    have s0 : ∀ v, st (sa h 136 B) 136 0 v = sa (sa h 136 B) 136 (upd ((sa h 136 B).1 136) 0 v) := fun v => st_sa (j := 0) (by decide)
    rw [l, e, if_pos (nI_le (by omega) (by omega))]
    unfold F_X9_leave_J75
    simp only [Nat.reduceAdd]
    rw [nm_eq, l, e, s0, sa_sa, sa_r]
    refine ⟨upd B 0 (nI (n - 1)), ?_, by rw [upd_r], by omega, fun j hj => ?_⟩
    · have l2 : ld (sa h 136 (upd B 0 (nI (n - 1)))) 136 0 = nI (n - 1) := by
        show (sa h 136 (upd B 0 (nI (n - 1)))).1 136 0 = _
        rw [sa_r, upd_r]
      rw [l2]
    · obtain ⟨j1, j2, j3⟩ := b1 j (by omega)
      rw [upd_n (by omega), upd_n (by omega), upd_n (by omega)]
      have hd : wh (if j < k then j else j + 1) < 6 ∧ fr (if j < k then j else j + 1) ≤ to (if j < k then j else j + 1) ∧ to (if j < k then j else j + 1) < 120 := by
        have := t3 (if j < k then j else j + 1) (by split <;> omega)
        exact this.2.2.2
      refine ⟨j1, j2, j3, ?_⟩
      unfold dpN
      by_cases hjk : j < k
      · simpa [hjk] using hd
      · simpa [hjk] using hd
  · obtain ⟨k1, k2, k3, k4⟩ := t3 j (by omega)
    have hj' : j < k := by omega
    simp only [dpN, if_pos hj']
    exact ⟨k1, k2, k3⟩
/-- what is left of Inv when turns have been told -/
theorem Inv.told {h h3 m : HP} {nb ns : Nat} {ln : Nat → Nat} {n : Nat} {wh fr to : Nat → Nat} (core : Core m nb ns ln n wh fr to) (t : Txt h) (u : Und m nb) (k : Kep m nb) (q : Pri h (lsum ln ns)) (hm : ∀ x, (x = 0 ∨ x = 1 ∨ x = 77 ∨ x = 78 ∨ x = 140 ∨ x = 141) → m.1 x = h.1 x) (h9 : m.1 133 9 = h.1 133 9) (h11 : m.1 133 11 = h.1 133 11) : Inv m :=
  ⟨nb, ns, ln, n, wh, fr, to, core, t.of (by rw [hm 0 (by omega)]) (hm 1 (by omega)) h9 (hm 140 (by omega)), u, k, q.of (by rw [hm 0 (by omega)]) (hm 77 (by omega)) (hm 78 (by omega)) h11 (hm 141 (by omega))⟩
theorem step_leave (h : HP) (hI : Inv h) (x1 : Int32) : ∃ (r : Int32) (h1 h2 : HP), F_X8_leave 0 x1 h = some (r, h1) ∧ F_X9_leave 133 x1 h1 = some (r, h2) ∧ Inv h2 := by
  have hI0 := hI
  obtain ⟨nb, ns, ln, n, wh, fr, to, c, t, u, k, q⟩ := hI
  have hn9 := c.2.2.1.2.1
  have hn := c.1.1.2.2.1
  have eT : ∀ {g : HP}, g.1 136 = h.1 136 → F_X9_isTurn 133 x1 g = some (if 0 ≤ x1 ∧ x1 < nI n then 1 else 0) := fun e => isT (by rw [e]; exact c.2.2.2.1.1) (by omega)
  unfold F_X8_leave F_X9_leave
  simp only [Nat.reduceAdd]
  rw [hasT c.2.2.1.1, cl_some, b01]
  by_cases hx : 0 ≤ x1 ∧ x1 < nI n
  · rw [if_pos hx]
    obtain ⟨i, rfl, hi⟩ := nI_ex hx.1 hx.2 (by omega)
    obtain ⟨h1, p1, p2, p3, p4⟩ := undPush u c.2.2.1 c.2.2.2.1 c.2.2.2.2.1
    obtain ⟨h2, q1, q2, q3, q4⟩ := drop_eq (TN.of (h' := h1) c.2.2.1 (fun x hx1 hx2 => p2 x (by omega))) hi
    obtain ⟨h3, s1, s2, s3, s4⟩ := tell (g := h2) (U := h.1 134) (ln := ln) (ns := ns) (nb := nb) c.1 (c.2.1.of (fun x hx1 hx2 => by rw [q3 x (by omega), p2 x (by omega)])) q2 (fun j hj => by
      unfold dpN
      split
      · exact c.2.2.2.2.1 j (by omega)
      · exact c.2.2.2.2.1 (j + 1) (by omega))
    have hh : ∀ x, (x < 29 ∨ (66 < x ∧ x < 79) ∨ 87 < x) → h3.1 x = h.1 x := fun x hx => by rw [s2 x (by omega), q3 x (by omega), p2 x (by omega)]
    obtain ⟨m, m1, m2, m3, m4, m5⟩ := p4 h3 (fun x hx1 hx2 => by rw [s2 x (by omega), q3 x (by omega)]) (by rw [s3 34 (by omega), q4]) (by rw [hh 133 (by omega)]) (hh 138 (by omega)) (hh 136 (by omega))
    obtain ⟨B, b1, b2⟩ := leaveM (h := m) (by rw [m3 136 (by omega) (by omega), hh 136 (by omega)]; exact c.2.2.2.1) hn9 hi
    have hm : ∀ x, x ≠ 133 → x ≠ 136 → x ≠ 138 → (sa m 136 B).1 x = h3.1 x := fun x a1 a2 a3 => by rw [sa_n a2, m3 x a1 a3]
    have hm3 : ∀ j, j ≠ 5 → (sa m 136 B).1 133 j = h.1 133 j := fun j hj => by rw [sa_n (by decide), m4 j hj, hh 133 (by omega)]
    have hr : ∀ x, x ≠ 34 → x ≠ 81 → (sa m 136 B).2 x = h.2 x := fun x a1 a2 => by rw [sa_2, m5, s3 x a2, q4, p3 x a1]
    have core := s4 (sa m 136 B) (fun x hx => hm x (by omega) (by omega) (by omega)) (by rw [sa_2, m5]) (by rw [hm 134 (by omega) (by omega) (by omega), hh 134 (by omega)]) (by rw [sa_r]; exact b2)
    refine ⟨nI (n - 1), h3, sa m 136 B, ?_, ?_, ?_⟩
    · rw [p1, cl_some, q1, cl_some, s1, cl_some, s2 29 (by omega), q2.1]
    · rw [eT (hh 136 (by omega)), cl_some, b01, if_pos hx, m1, cl_some, b1]
    · exact Inv.told (h3 := h3) core t (m2.of (fun x hx => sa_n (by omega)) (by rw [sa_n (by decide)]) (by rw [sa_n (by decide)]) (sa_n (by decide)) rfl) (k.keep (fun x hx => by rw [hm x (by omega) (by omega) (by omega), hh x (by omega)]) (hm3 7 (by decide)) (hr 68 (by decide) (by decide))) q (fun x hx => by rw [hm x (by omega) (by omega) (by omega), hh x (by omega)]) (hm3 9 (by decide)) (hm3 11 (by decide))
  · rw [if_neg hx]
    refine ⟨-1, h, h, rfl, ?_, hI0⟩
    rw [eT rfl, cl_some, b01, if_neg hx]
