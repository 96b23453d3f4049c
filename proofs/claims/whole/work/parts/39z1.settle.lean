theorem gd_some {β : Type} {i : Int32} {n : Nat} {k : Option β} {r : β} (h : gd i n k = some r) : k = some r := by
  unfold gd at h
  split at h
  · cases h
  · exact h
theorem begin39 {a f : Nat} : ∀ (N : Nat) (x1 : Int32) (x2 r : HP), F_X7_begin_L39 a f N (x1, x2) = some r → r.2 = x2.2
  | 0, x1, x2, r, e => by
    unfold F_X7_begin_L39 at e
    cases e
  | N + 1, x1, x2, r, e => by
    have e' : (if 6 ≤ x1 then some x2 else gd x1 6 (gd x1 6 (gd x1 6 (gd x1 6 (gd x1 6 (F_X7_begin_L39 a f N ((x1 + 1), st (st (st (st x2 (a + 1) x1 (ld x2 (f + 4) x1)) (a + 2) x1 (-4)) (a + 3) x1 0) (a + 4) x1 0))))))) = some r := e
    by_cases c : 6 ≤ x1
    · rw [if_pos c] at e'
      cases e'
      rfl
    · rw [if_neg c] at e'
      have e2 := gd_some (gd_some (gd_some (gd_some (gd_some e'))))
      have e3 := begin39 N _ _ r e2
      rw [e3]
      rfl
theorem begin2 {a f : Nat} {h h' : HP} (e : F_X7_begin a f h = some h') : h'.2 = (ur h a 0 (f + 1)).2 := by
  unfold F_X7_begin at e
  rw [nm_eq, nm_eq, nm_eq, nm_eq, nm_eq] at e
  cases ht : F_X1_twins f (ui (ui (ui (ui (ur h a 0 (f + 1)) a 1 ((ur h a 0 (f + 1)).1 f 3)) a 2 (-1)) a 3 (-4)) a 4 0) with
  | none => rw [ht] at e; cases e
  | some p =>
    rw [ht, cl_some, nm_eq] at e
    have := begin39 _ _ _ _ e
    rw [this]
    rfl
theorem settle2 {h g : HP} {nb ns n : Nat} {ln wh fr to : Nat → Nat} {U : Nat → Int32} (hv : HV U nb ns ln) (hC : CF h 15 U nb ns ln) (hT : TN h 29 n wh fr to) (hg : F_X8_settle 0 h = some g) : g.2 = (ur h 81 0 16).2 := by
  have h120 : lsum ln ns ≤ 120 := hv.1.2.2.2.2.2
  have e0 := tellDuty_eq (h := h) (q := 79) (gone := 0) hT (by omega) rfl h120 (by decide)
  have et : ∀ y, tmask wh fr to (fun k => !(0 : Nat).testBit k) y n = TA n wh fr to y := fun y => tmask_congr (fun k _ => ⟨rfl, rfl, rfl, by simp⟩)
  simp only [et] at e0
  generalize hf : (fun y => if y < lsum ln ns then nI (TA n wh fr to y) else h.1 79 y) = f at e0
  have hf2 : ∀ y, y < lsum ln ns → f y = nI (TA n wh fr to y) := fun y hy => by rw [← hf]; exact if_pos hy
  obtain ⟨h1, e1, e2, e3⟩ := beginC (h := sa h 79 f) (a := 81) (f := 15) (U := U) (by omega) (hC.of (fun x hx1 hx2 => sa_n (by omega))) hv.1.2.2.1
  obtain ⟨h2, g1, g2, g3, g4, g5⟩ := goC (h := h1) (a := 81) (f := 15) (q := 79) (U := U) (T := TA n wh fr to) (by omega) (by omega) rfl (CF.fr (hC.of (fun x hx1 hx2 => sa_n (by omega))) e3 (by omega)) hv.1 e2 (fun y hy => ⟨by rw [e3.1 79 (by omega), sa_r]; exact hf2 y hy, tmask_lt (fun k hk => (hT.2.2 k hk).2.2.2.1)⟩)
  unfold F_X8_settle at hg
  simp only [Nat.reduceAdd] at hg
  have e0' : F_X6_tellDuty 29 0 (nI (lsum ln ns)) 79 h = some (sa h 79 f) := e0
  rw [hC.2.1, e0', cl_some, e1, cl_some, g1, cl_some] at hg
  cases hg
  rw [g5, begin2 e1]
  rfl
