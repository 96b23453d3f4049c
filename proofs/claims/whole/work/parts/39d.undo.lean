/-- a pile that isn't empty gives its latest turns back -/
theorem popC {h : HP} {a u t n N : Nat} {wh fr to : Nat → Nat} (hN : sg_N (a + 1) = N) (hN8 : N ≤ 8) (hu : u + 1 ≤ N) (h1 : h.1 a 1 = nI (u + 1)) (hr : h.2 (a + 1) u = t + 1) (hd : 33 ≤ t) (ha : 33 ≤ a) (ht : t + 4 ≤ a ∨ a < t) (hT : TN h t n wh fr to) : ∃ h', F_X3_popInto a 29 h = some (1, h') ∧ h'.1 a 1 = nI u ∧ TN h' 29 n wh fr to ∧ (∀ x, x ≠ a → (x < 29 ∨ 32 < x) → h'.1 x = h.1 x) ∧ h'.2 = h.2 := by
  obtain ⟨h2, e1, e2, e3, e4⟩ := copy_eq (h := sa h a (upd (h.1 a) 1 (nI u))) (a := 29) (q := t) (by omega) (hT.of (fun x hx1 hx2 => sa_n (by omega)))
  have ep : nI (u + 1) - 1 = nI u := nI_pred u
  refine ⟨h2, ?_, by rw [e3 a (by omega), sa_r, upd_r], e2, fun x hx1 hx2 => by rw [e3 x (by omega), sa_n hx1], e4⟩
  unfold F_X3_popInto
  rw [h1, if_neg (nI_ne0 (by omega) (by omega)), nm_eq, ep, ui_sa, sa_r, upd_r, hN, gd_ok (by omega) (by omega), nI_clamp (by omega), sa_2, hr, gn_ok (by omega), nm_eq, Nat.add_sub_cancel, e1, cl_some]
/-- the model's row of turns, laid out of a pile -/
theorem copM {h : HP} {q u N n : Nat} {wh fr to : Nat → Nat} (hN : sg_N q = N) (hN3 : N ≤ 300) (hu : 31 * u + 31 ≤ N) (hq : q ≠ 136) (hT : TM (fun i => h.1 q (31 * u + i)) n wh fr to) : ∃ B, F_X9_copies q (nI (31 * u)) 136 0 h = some (sa h 136 B) ∧ TM B n wh fr to := by
  have n136 : sg_N 136 = 31 := rfl
  have ec := copies_eq (h := h) (q := q) (r := 136) (i := 31 * u) (j := 0) (by omega) (by omega) (by omega) (by omega) hq
  refine ⟨_, ec, hT.of (fun i hi => ?_)⟩
  rw [if_pos (by omega)]
  rfl
theorem step_undo (h : HP) (hI : Inv h) : ∃ (r : Int32) (h1 h2 : HP), F_X8_undo 0 h = some (r, h1) ∧ F_X9_undo 133 h1 = some (r, h2) ∧ Inv h2 := by
  have hI0 := hI
  obtain ⟨nb, ns, ln, n, wh, fr, to, c, t, u, k, q⟩ := hI
  obtain ⟨v, v1, v2, v3, v4, v5, v6⟩ := u
  unfold F_X8_undo F_X9_undo
  simp only [Nat.reduceAdd]
  by_cases h0 : v = 0
  · subst h0
    refine ⟨-2, h, h, ?_, ?_, hI0⟩
    · unfold F_X3_popInto
      rw [v2, if_pos nI_0, cl_some]
      rfl
    · rw [v3, if_pos nI_0]
  · obtain ⟨w, rfl⟩ : ∃ w, v = w + 1 := ⟨v - 1, by omega⟩
    obtain ⟨s, s1, s2⟩ := v4 w (by omega)
    obtain ⟨n', wh', fr', to', b1, b2, b3⟩ := v6 w (by omega)
    rw [s2, show 36 + 4 * s - 1 = 35 + 4 * s by omega] at b1
    obtain ⟨h2, q1, q2, q3, q4, q5⟩ := popC (h := h) (a := 33) (t := 35 + 4 * s) (N := 8) rfl (by omega) (by omega) v2 (by rw [s2]; omega) (by omega) (by omega) (by omega) b1
    obtain ⟨h3, t1, t2, t3, t4⟩ := tell (g := h2) (U := h.1 134) (ln := ln) (ns := ns) (nb := nb) c.1 (c.2.1.of (fun x hx1 hx2 => q4 x (by omega) (by omega))) q3 b3
    have hh : ∀ x, (x < 29 ∨ (33 < x ∧ x < 79) ∨ 87 < x) → h3.1 x = h.1 x := fun x hx => by rw [t2 x (by omega), q4 x (by omega) (by omega)]
    have ep : nI (w + 1) - 1 = nI w := nI_pred w
    have e31 : (31 : Int32) * nI w = nI (31 * w) := pk_mul 31 w
    obtain ⟨B, m1, m2⟩ := copM (h := sa h3 133 (upd (h3.1 133) 5 (nI w))) (q := 138) (u := w) (N := 248) rfl (by omega) (by omega) (by decide) (by rw [sa_n (by decide), hh 138 (by omega)]; exact b2)
    generalize hM : sa (sa h3 133 (upd (h3.1 133) 5 (nI w))) 136 B = m at m1
    have hm : ∀ x, x ≠ 133 → x ≠ 136 → m.1 x = h3.1 x := fun x a1 a2 => by rw [← hM, sa_n a2, sa_n a1]
    have hm3 : ∀ j, j ≠ 5 → m.1 133 j = h.1 133 j := fun j hj => by rw [← hM, sa_n (by decide), sa_r, upd_n hj, hh 133 (by omega)]
    have hm5 : m.1 133 5 = nI w := by rw [← hM, sa_n (by decide), sa_r, upd_r]
    have hr2 : m.2 = h3.2 := by rw [← hM]; rfl
    have hr : ∀ x, x ≠ 81 → m.2 x = h.2 x := fun x a2 => by rw [hr2, t3 x a2, q5]
    have core := t4 m (fun x hx => hm x (by omega) (by omega)) hr2 (by rw [hm 134 (by omega) (by omega), hh 134 (by omega)]) (by rw [← hM, sa_r]; exact m2)
    refine ⟨nI w, h3, m, ?_, ?_, ?_⟩
    · rw [q1, cl_some, if_neg (show ¬ (1 : Int32) = 0 by decide), t1, cl_some, t2 33 (by omega), q2]
    · rw [hh 133 (by omega), v3, if_neg (nI_ne0 (by omega) (by omega)), nm_eq, ep, ui_sa]
      rw [hh 133 (by omega)] at m1
      rw [hh 133 (by omega), sa_r, upd_r, e31, m1, cl_some, hm5]
    · refine Inv.told (h3 := h3) core t ⟨w, by omega, ?_, hm5, ?_, ?_, fun j hj => ?_⟩ (k.keep (fun x hx => by rw [hm x (by omega) (by omega), hh x (by omega)]) (hm3 7 (by decide)) (hr 68 (by decide))) q (fun x hx => by rw [hm x (by omega) (by omega), hh x (by omega)]) (hm3 9 (by decide)) (hm3 11 (by decide))
      · rw [hm 33 (by omega) (by omega), t2 33 (by omega)]; exact q2
      · rw [hr 34 (by decide)]; exact v4
      · rw [hr 34 (by decide)]; exact v5
      · rw [hr 34 (by decide), hm 138 (by omega) (by omega), hh 138 (by omega)]
        obtain ⟨s', s1', s2'⟩ := v4 j (by omega)
        exact (v6 j (by omega)).of (fun x hx1 hx2 => by rw [hm x (by omega) (by omega), hh x (by omega)])
theorem step_back (h : HP) (hI : Inv h) : ∃ (r : Int32) (h1 h2 : HP), F_X8_back 0 h = some (r, h1) ∧ F_X9_back 133 h1 = some (r, h2) ∧ Inv h2 := by
  have hI0 := hI
  obtain ⟨nb, ns, ln, n, wh, fr, to, c, t, u, k, q⟩ := hI
  obtain ⟨v, v1, v2, v3, v4, v5⟩ := k
  obtain ⟨z, z1, z2, z3, z4, z5, z6⟩ := u
  unfold F_X8_back F_X9_back
  simp only [Nat.reduceAdd]
  by_cases h0 : v = 0
  · subst h0
    refine ⟨-2, h, h, ?_, ?_, hI0⟩
    · unfold F_X3_popInto
      rw [v2, if_pos nI_0, cl_some]
      rfl
    · rw [v3, if_pos nI_0]
  · obtain ⟨w, rfl⟩ : ∃ w, v = w + 1 := ⟨v - 1, by omega⟩
    obtain ⟨n', wh', fr', to', b1, b2, b3⟩ := v5 w (by omega)
    obtain ⟨h2, q1, q2, q3, q4, q5⟩ := popC (h := h) (a := 67) (t := 69 + 4 * w) (N := 2) rfl (by omega) (by omega) v2 (by rw [v4 w (by omega)]; omega) (by omega) (by omega) (by omega) b1
    have f33 : ∀ x, x ≠ 33 → (ui h2 33 1 0).1 x = h2.1 x := fun x hx => by rw [ui_sa, sa_n hx]
    obtain ⟨h3, t1, t2, t3, t4⟩ := tell (g := ui h2 33 1 0) (U := h.1 134) (ln := ln) (ns := ns) (nb := nb) c.1 (c.2.1.of (fun x hx1 hx2 => by rw [f33 x (by omega), q4 x (by omega) (by omega)])) (q3.of (fun x hx1 hx2 => f33 x (by omega))) b3
    have hh : ∀ x, (x < 29 ∨ (33 < x ∧ x < 79 ∧ x ≠ 67) ∨ 87 < x) → h3.1 x = h.1 x := fun x hx => by rw [t2 x (by omega), f33 x (by omega), q4 x (by omega) (by omega)]
    have ep : nI (w + 1) - 1 = nI w := nI_pred w
    have e31 : (31 : Int32) * nI w = nI (31 * w) := pk_mul 31 w
    obtain ⟨B, m1, m2⟩ := copM (h := sa h3 133 (upd (h3.1 133) 7 (nI w))) (q := 139) (u := w) (N := 62) rfl (by omega) (by omega) (by decide) (by rw [sa_n (by decide), hh 139 (by omega)]; exact b2)
    generalize hM : sa (sa (sa h3 133 (upd (h3.1 133) 7 (nI w))) 136 B) 133 (upd (upd (h3.1 133) 7 (nI w)) 5 0) = m
    have hm : ∀ x, x ≠ 133 → x ≠ 136 → m.1 x = h3.1 x := fun x a1 a2 => by rw [← hM, sa_n a1, sa_n a2, sa_n a1]
    have hm3 : ∀ j, j ≠ 5 → j ≠ 7 → m.1 133 j = h.1 133 j := fun j hj hj2 => by rw [← hM, sa_r, upd_n hj, upd_n hj2, hh 133 (by omega)]
    have hm5 : m.1 133 5 = nI 0 := by rw [← hM, sa_r, upd_r]; rfl
    have hm7 : m.1 133 7 = nI w := by rw [← hM, sa_r, upd_n (by decide), upd_r]
    have hr2 : m.2 = h3.2 := by rw [← hM]; rfl
    have hr : ∀ x, x ≠ 81 → m.2 x = h.2 x := fun x a2 => by rw [hr2, t3 x a2]; show h2.2 x = h.2 x; rw [q5]
    have core := t4 m (fun x hx => hm x (by omega) (by omega)) hr2 (by rw [hm 134 (by omega) (by omega), hh 134 (by omega)]) (by rw [← hM, sa_n (by decide), sa_r]; exact m2)
    have h67 : h3.1 67 1 = nI w := by rw [t2 67 (by omega), f33 67 (by omega)]; exact q2
    refine ⟨nI w, h3, m, ?_, ?_, ?_⟩
    · rw [q1, cl_some, if_neg (show ¬ (1 : Int32) = 0 by decide), nm_eq, t1, cl_some, h67]
    · rw [hh 133 (by omega), v3, if_neg (nI_ne0 (by omega) (by omega)), nm_eq, ep, ui_sa]
      rw [hh 133 (by omega), sa_r, upd_r, e31]
      rw [hh 133 (by omega)] at m1 hM
      rw [m1, cl_some, nm_eq, ui_sa, sa_n (q := 136) (x := 133) (by decide), sa_r, sa_r, hM, upd_n (by decide), upd_r]
    · refine Inv.told (h3 := h3) core t ⟨0, by omega, ?_, hm5, ?_, ?_, fun j hj => absurd hj (Nat.not_lt_zero j)⟩ ⟨w, by omega, ?_, hm7, ?_, fun j hj => ?_⟩ q (fun x hx => by rw [hm x (by omega) (by omega), hh x (by omega)]) (hm3 9 (by decide) (by decide)) (hm3 11 (by decide) (by decide))
      · rw [hm 33 (by omega) (by omega), t2 33 (by omega), ui_sa, sa_r, upd_r]; rfl
      · rw [hr 34 (by decide)]; exact z4
      · rw [hr 34 (by decide)]; exact z5
      · rw [hm 67 (by omega) (by omega)]; exact h67
      · rw [hr 68 (by decide)]; exact v4
      · rw [hm 139 (by omega) (by omega), hh 139 (by omega)]
        exact (v5 j (by omega)).of (fun x hx1 hx2 => by rw [hm x (by omega) (by omega), hh x (by omega)])
theorem step_keep (h : HP) (hI : Inv h) : ∃ (r : Int32) (h1 h2 : HP), F_X8_keep 0 h = some (r, h1) ∧ F_X9_keep 133 h1 = some (r, h2) ∧ Inv h2 := by
  have hI0 := hI
  obtain ⟨nb, ns, ln, n, wh, fr, to, c, t, u, k, q⟩ := hI
  obtain ⟨v, v1, v2, v3, v4, v5⟩ := k
  unfold F_X8_keep F_X9_keep
  simp only [Nat.reduceAdd]
  rw [full_eq (N := 2) rfl (by omega) v1 v2, cl_some]
  by_cases h2 : v < 2
  · rw [if_pos h2, if_pos rfl]
    obtain ⟨h1, e1, e2, e3, e4, e5⟩ := push11 (h := h) (a := 67) (u := v) (t := 69 + 4 * v) (N := 2) rfl (by omega) h2 v2 (by rw [v4 v (by omega)]; omega) (by omega) (by omega) c.2.2.1
    have e1' : F_X3_push 67 29 h = some h1 := by
      unfold F_X3_push
      rw [full_eq (N := 2) rfl (by omega) v1 v2, cl_some, if_pos h2, if_pos rfl]
      exact e1
    have hh : ∀ x, (x < 67 ∨ 76 < x) → h1.1 x = h.1 x := fun x hx => e4 x (by omega) (by omega)
    have e31 : (31 : Int32) * nI v = nI (31 * v) := pk_mul 31 v
    have n136 : sg_N 136 = 31 := rfl
    have n139 : sg_N 139 = 62 := rfl
    have ec := copies_eq (h := h1) (q := 136) (r := 139) (i := 0) (j := 31 * v) (by omega) (by omega) (by omega) (by omega) (by decide)
    generalize hf : (fun k => if 31 * v ≤ k ∧ k < 31 * v + 31 then h1.1 136 (0 + (k - 31 * v)) else h1.1 139 k) = f at ec
    have ec' : F_X9_copies 136 0 139 (nI (31 * v)) h1 = some (sa h1 139 f) := ec
    generalize hM : sa (sa h1 139 f) 133 (upd (h1.1 133) 7 (nI (v + 1))) = m
    have hm : ∀ x, x ≠ 133 → x ≠ 139 → m.1 x = h1.1 x := fun x a1 a2 => by rw [← hM, sa_n a1, sa_n a2]
    have hm3 : ∀ j, j ≠ 7 → m.1 133 j = h.1 133 j := fun j hj => by rw [← hM, sa_r, upd_n hj, hh 133 (by omega)]
    have hm7 : m.1 133 7 = nI (v + 1) := by rw [← hM, sa_r, upd_r]
    have hr : m.2 = h.2 := by rw [← hM, ← e5]; rfl
    refine ⟨nI (v + 1), h1, m, ?_, ?_, ?_⟩
    · rw [e1', cl_some, e2]
    · rw [hh 133 (by omega), v3, if_neg (show ¬ nI v = 2 from fun z => by have := (nI_eq (a := v) (b := 2) (by omega) (by omega)).mp z; omega), e31, ec', cl_some, nm_eq, ui_sa, sa_n (q := 139) (x := 133) (by decide), hh 133 (by omega), v3, nI_1]
      rw [hh 133 (by omega)] at hM
      rw [hM, hm7]
    · refine Inv.told (h3 := h1) (c.of (fun x hx => by rw [hm x (by omega) (by omega), hh x (by omega)]) (by rw [hr])) t (u.of (fun x hx => by rw [hm x (by omega) (by omega), hh x (by omega)]) (by rw [hm 33 (by omega) (by omega), hh 33 (by omega)]) (hm3 5 (by decide)) (by rw [hm 138 (by omega) (by omega), hh 138 (by omega)]) (by rw [hr])) ⟨v + 1, by omega, ?_, hm7, by rw [hr]; exact v4, fun j hj => ?_⟩ q (fun x hx => by rw [hm x (by omega) (by omega), hh x (by omega)]) (hm3 9 (by decide)) (hm3 11 (by decide))
      · rw [hm 67 (by omega) (by omega)]; exact e2
      · have h139 : m.1 139 = f := by rw [← hM, sa_n (by decide), sa_r]
        rw [h139]
        by_cases e : j = v
        · subst e
          refine ⟨n, wh, fr, to, e3.of (fun x hx1 hx2 => hm x (by omega) (by omega)), c.2.2.2.1.of (fun i hi => ?_), c.2.2.2.2.1⟩
          rw [← hf]
          dsimp only
          rw [if_pos (by omega), hh 136 (by omega), show 0 + (31 * j + i - 31 * j) = i by omega]
        · refine ((v5 j (by omega)).of (fun x hx1 hx2 => ?_)).congr (fun i hi => ?_)
          · rw [hm x (by omega) (by omega), e4 x (by omega) (by omega)]
          · rw [← hf]
            dsimp only
            rw [if_neg (by omega), hh 139 (by omega)]
  · rw [if_neg h2, if_neg (by decide)]
    have e : v = 2 := by omega
    subst e
    refine ⟨-3, h, h, rfl, ?_, hI0⟩
    rw [v3, if_pos (by decide)]
