theorem settle_eq {h : HP} {nb ns n : Nat} {ln wh fr to : Nat → Nat} {U : Nat → Int32} (hv : HV U nb ns ln) (hC : CF h 15 U nb ns ln) (hT : TN h 29 n wh fr to) : ∃ h', F_X8_settle 0 h = some h' ∧ (∀ y, y < lsum ln ns → h'.1 79 y = nI (TA n wh fr to y)) ∧ WK h' 81 15 nb (uK U) (U 2) (-1) (WR U nb ns ln (-1) (TA n wh fr to) (uT U) (lsum ln ns)) ∧ (∀ y, y < lsum ln ns → h'.1 86 y = nI (WB U nb ns ln (-1) (TA n wh fr to) (uT U) y)) ∧ (∀ x, (x < 79 ∨ x = 80 ∨ 87 < x) → h'.1 x = h.1 x) ∧ ∀ x, x ≠ 81 → h'.2 x = h.2 x := by
  have h120 : lsum ln ns ≤ 120 := hv.1.2.2.2.2.2
  have e0 := tellDuty_eq (h := h) (q := 79) (gone := 0) hT (by omega) rfl h120 (by decide)
  have et : ∀ y, tmask wh fr to (fun k => !(0 : Nat).testBit k) y n = TA n wh fr to y := fun y => tmask_congr (fun k _ => ⟨rfl, rfl, rfl, by simp⟩)
  simp only [et] at e0
  generalize hf : (fun y => if y < lsum ln ns then nI (TA n wh fr to y) else h.1 79 y) = f at e0
  have hf2 : ∀ y, y < lsum ln ns → f y = nI (TA n wh fr to y) := fun y hy => by rw [← hf]; exact if_pos hy
  obtain ⟨h1, e1, e2, e3⟩ := beginC (h := sa h 79 f) (a := 81) (f := 15) (U := U) (by omega) (hC.of (fun x hx1 hx2 => sa_n (by omega))) hv.1.2.2.1
  obtain ⟨h2, g1, g2, g3, g4, g5⟩ := goC (h := h1) (a := 81) (f := 15) (q := 79) (U := U) (T := TA n wh fr to) (by omega) (by omega) rfl (CF.fr (hC.of (fun x hx1 hx2 => sa_n (by omega))) e3 (by omega)) hv.1 e2 (fun y hy => ⟨by rw [e3.1 79 (by omega), sa_r]; exact hf2 y hy, tmask_lt (fun k hk => (hT.2.2 k hk).2.2.2.1)⟩)
  refine ⟨h2, ?_, fun y hy => ?_, g2, g3, fun x hx => ?_, fun x hx => ?_⟩
  · unfold F_X8_settle
    simp only [Nat.reduceAdd]
    have e0' : F_X6_tellDuty 29 0 (nI (lsum ln ns)) 79 h = some (sa h 79 f) := e0
    rw [hC.2.1, e0', cl_some, e1, cl_some, g1, cl_some]
  · rw [g4.1 79 (by omega), e3.1 79 (by omega), sa_r]
    exact hf2 y hy
  · rw [g4.1 x (by omega), e3.1 x (by omega), sa_n (by omega)]
  · rw [g4.2 x hx, e3.2 x hx]
    rfl
theorem copy_eq {h : HP} {a q n : Nat} {wh fr to : Nat → Nat} (hd : a + 4 ≤ q ∨ q + 4 ≤ a) (hT : TN h q n wh fr to) : ∃ h', F_X6_copy a q h = some h' ∧ TN h' a n wh fr to ∧ (∀ x, (x < a ∨ a + 4 ≤ x) → h'.1 x = h.1 x) ∧ h'.2 = h.2 := by
  unfold F_X6_copy
  simp only [nm_eq, ui_sa, uc_sa]
  obtain ⟨t1, t2, t3⟩ := hT
  have e9 : (9 : Int32).toNatClampNeg = 9 := by decide
  have e0 : (0 : Int32).toNatClampNeg = 0 := by decide
  simp only [e9, e0]
  refine ⟨_, rfl, ⟨?_, t2, fun k hk => ?_⟩, fun x hx => ?_, rfl⟩
  · rw [sa_n (by omega), sa_n (by omega), sa_n (by omega), sa_r, upd_r]
    exact t1
  · obtain ⟨k1, k2, k3, k4⟩ := t3 k hk
    refine ⟨?_, ?_, ?_, k4⟩
    · rw [sa_n (by omega), sa_n (by omega), sa_r, pk_cpy_in (Nat.zero_le _) (by omega), sa_n (by omega), Nat.zero_add, Nat.sub_zero]
      exact k1
    · rw [sa_n (by omega), sa_r, pk_cpy_in (Nat.zero_le _) (by omega), sa_n (by omega), sa_n (by omega), Nat.zero_add, Nat.sub_zero]
      exact k2
    · rw [sa_r, pk_cpy_in (Nat.zero_le _) (by omega), sa_n (by omega), sa_n (by omega), sa_n (by omega), Nat.zero_add, Nat.sub_zero]
      exact k3
  · rw [sa_n (by omega), sa_n (by omega), sa_n (by omega), sa_n (by omega)]
/-- a pile that isn't full takes the turns -/
theorem push11 {h : HP} {a u t n N : Nat} {wh fr to : Nat → Nat} (hN : sg_N (a + 1) = N) (hN8 : N ≤ 8) (hu : u < N) (h1 : h.1 a 1 = nI u) (hr : h.2 (a + 1) u = t + 1) (hd : t + 4 ≤ 29 ∨ 33 ≤ t) (hd2 : a < t) (hT : TN h 29 n wh fr to) : ∃ h', F_X3_push_J11 a 29 h = some h' ∧ h'.1 a 1 = nI (u + 1) ∧ TN h' t n wh fr to ∧ (∀ x, x ≠ a → (x < t ∨ t + 4 ≤ x) → h'.1 x = h.1 x) ∧ h'.2 = h.2 := by
  obtain ⟨h2, e1, e2, e3, e4⟩ := copy_eq (h := h) (a := t) (q := 29) (by omega) hT
  refine ⟨sa h2 a (upd (h2.1 a) 1 (nI (u + 1))), ?_, by rw [sa_r, upd_r], e2.of (fun x hx1 hx2 => sa_n (by omega)), fun x hx1 hx2 => by rw [sa_n hx1]; exact e3 x hx2, e4⟩
  unfold F_X3_push_J11
  rw [hN, h1, gd_ok hu (by omega), nI_clamp (by omega), hr, gn_ok (by omega), nm_eq, Nat.add_sub_cancel, e1, cl_some, nm_eq, ui_sa, e3 a (by omega), h1, nI_1]
theorem full_eq {h : HP} {a u N : Nat} (hN : sg_N (a + 1) = N) (hN8 : N ≤ 8) (hu : u ≤ N) (h1 : h.1 a 1 = nI u) : F_X3_isFull a h = some (if u < N then 0 else 1) := by
  unfold F_X3_isFull
  rw [hN, h1]
  have e : Int32.ofNat N = nI N := rfl
  rw [e]
  by_cases hc : u < N
  · rw [if_pos (nI_lt hc (by omega)), if_pos hc]
  · rw [if_neg (nI_nlt (by omega) (by omega)), if_neg hc]
theorem ur_1 {h : HP} {a k r : Nat} : (ur h a k r).1 = h.1 := rfl
theorem ur_2r {h : HP} {a k r : Nat} : (ur h a k r).2 a k = r := by simp [ur, va_up]
theorem ur_2n {h : HP} {a k r j : Nat} (hj : j ≠ k) : (ur h a k r).2 a j = h.2 a j := by simp [ur, va_up, hj]
theorem ur_2x {h : HP} {a k r x : Nat} (hx : x ≠ a) : (ur h a k r).2 x = h.2 x := by simp [ur, hx]
/-- the oldest row goes behind the others -/
theorem drop8 {h : HP} (h1 : h.1 33 1 = nI 8) (hr : ∀ k, k < 8 → ∃ s, s < 8 ∧ h.2 34 k = 36 + 4 * s) : ∃ h', F_X3_dropOldest 33 h = some h' ∧ h'.1 33 1 = nI 7 ∧ (∀ x, x ≠ 33 → h'.1 x = h.1 x) ∧ (∀ k, k < 7 → h'.2 34 k = h.2 34 (k + 1)) ∧ h'.2 34 7 = h.2 34 0 ∧ ∀ x, x ≠ 34 → h'.2 x = h.2 x := by
  have hN : sg_N (33 + 1) = 8 := rfl
  have hne : ∀ k, k < 8 → h.2 34 k ≠ 0 := fun k hk => by
    obtain ⟨s, s1, s2⟩ := hr k hk
    omega
  unfold F_X3_dropOldest F_X3_dropOldest_L9
  simp only [Nat.reduceAdd]
  have e0 : (0 : Int32).toNatClampNeg = 0 := by decide
  have e8 : Int32.ofNat 8 = nI 8 := rfl
  rw [show sg_N 34 = 8 from rfl, show gd (0 : Int32) 8 = gd (nI 0) 8 from rfl, gd_ok (by decide) (by decide), e0, gn_ok (hne 0 (by decide)), nm_eq, e8]
  refine lp_inv (fun k x => x.1 = nI k ∧ x.2.1 = h.1 ∧ (∀ j, j < k → x.2.2 34 j = h.2 34 (j + 1)) ∧ (∀ j, k ≤ j → x.2.2 34 j = h.2 34 j) ∧ ∀ z, z ≠ 34 → x.2.2 z = h.2 z) (B := 7) (Q := fun r => ∃ h' : HP, r = some h' ∧ h'.1 33 1 = nI 7 ∧ (∀ x, x ≠ 33 → h'.1 x = h.1 x) ∧ (∀ k, k < 7 → h'.2 34 k = h.2 34 (k + 1)) ∧ h'.2 34 7 = h.2 34 0 ∧ ∀ x, x ≠ 34 → h'.2 x = h.2 x) ?_ ?_ sg_fuel 0 (0, h) (Nat.zero_le _) (fu (by omega)) ⟨rfl, rfl, fun j hj => absurd hj (Nat.not_lt_zero j), fun _ _ => rfl, fun _ _ => rfl⟩
  · rintro k ⟨x1, x2⟩ hk ⟨rfl, i1, i2, i3, i4⟩
    dsimp only at i1 i2 i3 i4 ⊢
    have hk1 := hne (k + 1) (by omega)
    have er := i3 (k + 1) (by omega)
    refine Or.inl ⟨(nI (k + 1), ur x2 34 k (h.2 34 (k + 1))), ⟨rfl, i1, fun j hj => ?_, fun j hj => ?_, fun z hz => ?_⟩, fun rc => ?_⟩
    · dsimp only
      by_cases e : j = k
      · subst e; rw [ur_2r]
      · rw [ur_2n e]; exact i2 j (by omega)
    · dsimp only
      rw [ur_2n (by omega)]
      exact i3 j (by omega)
    · dsimp only
      rw [ur_2x hz]
      exact i4 z hz
    · rw [nI_1, if_neg (nI_ge (by omega) (by omega)), gd_ok (by omega) (by decide), nI_clamp (by omega), er, gn_ok hk1, nm_eq, gd_ok (by omega) (by decide), nm_eq, nI_clamp (by omega), Nat.sub_add_cancel (by omega)]
  · rintro ⟨x1, x2⟩ ⟨rfl, i1, i2, i3, i4⟩
    dsimp only at i1 i2 i3 i4 ⊢
    have e7 : nI 8 - 1 = nI 7 := nI_pred 7
    refine ⟨some (sa (ur x2 34 7 (h.2 34 0)) 33 (upd (h.1 33) 1 (nI 7))), ⟨_, rfl, by rw [sa_r, upd_r], fun x hx => by rw [sa_n hx, ur_1, i1], fun k hk => ?_, ?_, fun x hx => ?_⟩, fun rc => ?_⟩
    · rw [sa_2, ur_2n (by omega)]
      exact i2 k hk
    · rw [sa_2, ur_2r]
    · rw [sa_2, ur_2x hx]
      exact i4 x hx
    · rw [nI_1, if_pos (Int32.le_refl _)]
      unfold F_X3_dropOldest_J40
      simp only [Nat.reduceAdd]
      rw [show sg_N 34 = 8 from rfl, e8, e7, gd_ok (by omega) (by decide), nm_eq, nI_clamp (by omega), Nat.sub_add_cancel (by have := hne 0 (by decide); omega), nm_eq, ui_sa, ur_1, i1, h1, e7]
theorem pushU {h : HP} {u n : Nat} {wh fr to : Nat → Nat} (hu : u ≤ 8) (h1 : h.1 33 1 = nI u) (hr : ∀ k, k < 8 → ∃ s, s < 8 ∧ h.2 34 k = 36 + 4 * s) (hx : ∀ j k, j < k → k < 8 → h.2 34 j ≠ h.2 34 k) (hT : TN h 29 n wh fr to) : ∃ h' v sh, F_X3_push 33 29 h = some h' ∧ (u < 8 → v = u ∧ sh = 0) ∧ (u = 8 → v = 7 ∧ sh = 1) ∧ h'.1 33 1 = nI (v + 1) ∧ (∀ k, k < 8 → ∃ s, s < 8 ∧ h'.2 34 k = 36 + 4 * s) ∧ (∀ j k, j < k → k < 8 → h'.2 34 j ≠ h'.2 34 k) ∧ TN h' (h'.2 34 v - 1) n wh fr to ∧ (∀ k, k < v → h'.2 34 k = h.2 34 (k + sh) ∧ ∀ x, h'.2 34 k - 1 ≤ x → x < h'.2 34 k + 3 → h'.1 x = h.1 x) ∧ (∀ x, (x < 33 ∨ 66 < x) → h'.1 x = h.1 x) ∧ ∀ x, x ≠ 34 → h'.2 x = h.2 x := by
  unfold F_X3_push
  rw [full_eq (N := 8) rfl (by omega) hu h1, cl_some]
  by_cases hc : u < 8
  · rw [if_pos hc, if_pos rfl]
    obtain ⟨s, s1, s2⟩ := hr u hc
    obtain ⟨h', e1, e2, e3, e4, e5⟩ := push11 (h := h) (a := 33) (u := u) (t := 35 + 4 * s) (N := 8) rfl (by omega) hc h1 (by rw [s2]; omega) (by omega) (by omega) hT
    refine ⟨h', u, 0, e1, fun _ => ⟨rfl, rfl⟩, fun z => absurd z (by omega), e2, ?_, ?_, ?_, fun k hk => ?_, fun x hx => e4 x (by omega) (by omega), fun x _ => by rw [e5]⟩
    · rw [e5]; exact hr
    · rw [e5]; exact hx
    · rw [e5, s2, show 36 + 4 * s - 1 = 35 + 4 * s by omega]; exact e3
    · rw [e5]
      obtain ⟨r, r1, r2⟩ := hr k (by omega)
      have hne := hx k u hk hc
      refine ⟨rfl, fun x hx1 hx2 => e4 x (by omega) (by omega)⟩
  · have hu8 : u = 8 := by omega
    subst hu8
    rw [if_neg hc, if_neg (by decide)]
    obtain ⟨g, g1, g2, g3, g4, g5, g6⟩ := drop8 h1 hr
    obtain ⟨s, s1, s2⟩ := hr 0 (by omega)
    obtain ⟨h', e1, e2, e3, e4, e5⟩ := push11 (h := g) (a := 33) (u := 7) (t := 35 + 4 * s) (N := 8) rfl (by omega) (by omega) g2 (by rw [g5, s2]; omega) (by omega) (by omega) (hT.of (fun x hx1 hx2 => g3 x (by omega)))
    have hr' : ∀ k, k < 8 → ∃ s, s < 8 ∧ g.2 34 k = 36 + 4 * s := by
      intro k hk
      by_cases e : k = 7
      · subst e; rw [g5]; exact hr 0 (by omega)
      · rw [g4 k (by omega)]; exact hr (k + 1) (by omega)
    have hx' : ∀ j k, j < k → k < 8 → g.2 34 j ≠ g.2 34 k := by
      intro j k hj hk
      by_cases e : k = 7
      · subst e
        rw [g5, g4 j hj]
        exact (hx 0 (j + 1) (by omega) (by omega)).symm
      · rw [g4 k (by omega), g4 j (by omega)]
        exact hx (j + 1) (k + 1) (by omega) (by omega)
    rw [g1, cl_some]
    refine ⟨h', 7, 1, e1, fun z => absurd z (by omega), fun _ => ⟨rfl, rfl⟩, e2, ?_, ?_, ?_, fun k hk => ?_, fun x hx => ?_, fun x hx => ?_⟩
    · rw [e5]; exact hr'
    · rw [e5]; exact hx'
    · rw [e5, g5, s2, show 36 + 4 * s - 1 = 35 + 4 * s by omega]; exact e3
    · rw [e5]
      obtain ⟨r, r1, r2⟩ := hr' k (by omega)
      have hne := hx' k 7 hk (by omega)
      rw [g5] at hne
      refine ⟨g4 k hk, fun x hx1 hx2 => ?_⟩
      rw [e4 x (by omega) (by omega), g3 x (by omega)]
    · rw [e4 x (by omega) (by omega), g3 x (by omega)]
    · rw [e5, g6 x hx]
/-- what copies does -/
theorem copies_eq {h : HP} {q r i j : Nat} (hq : sg_N q ≤ 300) (hr : sg_N r ≤ 300) (hi : i + 31 ≤ sg_N q) (hj : j + 31 ≤ sg_N r) (hqr : q ≠ r) : F_X9_copies q (nI i) r (nI j) h = some (sa h r (fun k => if j ≤ k ∧ k < j + 31 then h.1 q (i + (k - j)) else h.1 r k)) := by
  unfold F_X9_copies F_X9_copies_L3
  refine lp_seq' (fun e => (nI e, sa h r (fun k => if j ≤ k ∧ k < j + e then h.1 q (i + (k - j)) else h.1 r k))) 31 (fu (by omega)) ?_ (fun e he rc => ?_) (fun rc => ?_)
  · rw [sa_id (by funext k; rw [if_neg (by omega)])]
    rfl
  · dsimp only
    rw [if_neg (show ¬ 31 ≤ nI e from nI_ge (b := 31) he (by decide)), nI_add, nI_add, gd_ok (by omega) (by omega), gd_ok (by omega) (by omega), nm_eq, st_sa (by omega), sa_sa, sa_r, ld_nI (by omega), sa_n hqr, nI_1]
    congr 3
    funext k
    by_cases hk : k = j + e
    · subst hk
      rw [upd_r, if_pos (by omega), show j + e - j = e by omega]
    · rw [upd_n hk]
      have : (j ≤ k ∧ k < j + e) ↔ (j ≤ k ∧ k < j + (e + 1)) := by omega
      simp only [this]
  · dsimp only
    rw [if_pos (by decide)]
theorem remember_eq {h : HP} {u : Nat} (hu : u ≤ 8) (h5 : h.1 133 5 = nI u) : ∃ h' v sh, F_X9_remember 133 h = some h' ∧ (u < 8 → v = u ∧ sh = 0) ∧ (u = 8 → v = 7 ∧ sh = 1) ∧ h'.1 133 5 = nI (v + 1) ∧ (∀ k i, k < v → i < 31 → h'.1 138 (31 * k + i) = h.1 138 (31 * (k + sh) + i)) ∧ (∀ i, i < 31 → h'.1 138 (31 * v + i) = h.1 136 i) ∧ (∀ x, x ≠ 133 → x ≠ 138 → h'.1 x = h.1 x) ∧ (∀ j, j ≠ 5 → h'.1 133 j = h.1 133 j) ∧ h'.2 = h.2 := by
  have key : ∀ (g : HP) (v : Nat), v < 8 → g.1 133 5 = nI v → ∃ h', F_X9_remember_J49 133 g = some h' ∧ h'.1 133 5 = nI (v + 1) ∧ (∀ k i, k < v → i < 31 → h'.1 138 (31 * k + i) = g.1 138 (31 * k + i)) ∧ (∀ i, i < 31 → h'.1 138 (31 * v + i) = g.1 136 i) ∧ (∀ x, x ≠ 133 → x ≠ 138 → h'.1 x = g.1 x) ∧ (∀ j, j ≠ 5 → h'.1 133 j = g.1 133 j) ∧ h'.2 = g.2 := by
    intro g v hv hg
    have e31 : (31 : Int32) * nI v = nI (31 * v) := pk_mul 31 v
    have n136 : sg_N 136 = 31 := rfl
    have n138 : sg_N 138 = 248 := rfl
    have ec := copies_eq (h := g) (q := 136) (r := 138) (i := 0) (j := 31 * v) (by omega) (by omega) (by omega) (by omega) (by decide)
    refine ⟨sa (sa g 138 (fun k => if 31 * v ≤ k ∧ k < 31 * v + 31 then g.1 136 (0 + (k - 31 * v)) else g.1 138 k)) 133 (upd (g.1 133) 5 (nI (v + 1))), ?_, by rw [sa_r, upd_r], fun k i hk hi => ?_, fun i hi => ?_, fun x hx1 hx2 => by rw [sa_n hx1, sa_n hx2], fun j hj => by rw [sa_r, upd_n hj], rfl⟩
    · unfold F_X9_remember_J49
      simp only [Nat.reduceAdd]
      have ec' : F_X9_copies 136 0 138 (nI (31 * v)) g = _ := ec
      rw [hg, e31, ec', cl_some, nm_eq, ui_sa, sa_n (x := 133) (by decide), hg, nI_1]
    · rw [sa_n (by decide), sa_r, if_neg (by omega)]
    · rw [sa_n (by decide), sa_r, if_pos (by omega), show 0 + (31 * v + i - 31 * v) = i by omega]
  unfold F_X9_remember
  by_cases hc : u = 8
  · subst hc
    rw [h5, if_pos (by decide)]
    unfold F_X9_remember_L11
    have e7 : nI 8 - 1 = nI 7 := nI_pred 7
    obtain ⟨h', k1, k2, k3, k4, k5, k6, k7⟩ := key (sa (sa h 138 (fun i => if i < 217 then h.1 138 (i + 31) else h.1 138 i)) 133 (upd (h.1 133) 5 (nI 7))) 7 (by omega) (by rw [sa_r, upd_r])
    refine ⟨h', 7, 1, ?_, fun z => absurd z (by omega), fun _ => ⟨rfl, rfl⟩, k2, fun k i hk hi => ?_, fun i hi => ?_, fun x hx1 hx2 => ?_, fun j hj => ?_, k7⟩
    · simp only [Nat.reduceAdd]
      refine lp_seq' (fun e => (nI e, sa h 138 (fun i => if i < e then h.1 138 (i + 31) else h.1 138 i))) 217 (fu (by omega)) ?_ (fun e he rc => ?_) (fun rc => ?_)
      · rw [sa_id (by funext k; simp)]
        rfl
      · dsimp only
        have e31 : nI e + 31 = nI (e + 31) := nI_add e 31
        have hF : upd (fun i => if i < e then h.1 138 (i + 31) else h.1 138 i) e (h.1 138 (e + 31)) = (fun i => if i < e + 1 then h.1 138 (i + 31) else h.1 138 i) := by
          funext k
          by_cases hk : k = e
          · subst hk
            rw [upd_r, if_pos (by omega)]
          · rw [upd_n hk]
            simp only [ltk hk]
        rw [if_neg (show ¬ 217 ≤ nI e from nI_ge (b := 217) he (by decide)), e31, gd_ok (by omega) (by omega), gd_ok (by omega) (by omega), nm_eq, st_sa (by omega), sa_sa, sa_r, ld_nI (by omega), sa_r, nI_1, if_neg (by omega), hF]
      · dsimp only
        rw [if_pos (by decide)]
        unfold F_X9_remember_J39
        rw [nm_eq, ui_sa, sa_n (x := 133) (by decide), h5, e7]
        exact k1
    · rw [k3 k i hk hi, sa_n (by decide), sa_r, if_pos (by omega), show 31 * k + i + 31 = 31 * (k + 1) + i by omega]
    · rw [k4 i hi, sa_n (by decide), sa_n (by decide)]
    · rw [k5 x hx1 hx2, sa_n hx1, sa_n hx2]
    · rw [k6 j hj, sa_r, upd_n hj]
  · rw [h5, if_neg (show ¬ nI u = 8 from fun z => hc ((nI_eq (a := u) (b := 8) (by omega) (by omega)).mp z))]
    obtain ⟨h', k1, k2, k3, k4, k5, k6, k7⟩ := key h u (by omega) h5
    exact ⟨h', u, 0, k1, fun _ => ⟨rfl, rfl⟩, fun z => absurd z hc, k2, k3, k4, k5, k6, k7⟩
