/-! the first object -/
def tx0 (i : Nat) : Nat := ([115, 49, 48, 44, 48, 59, 115, 56, 44, 51, 59, 115, 49, 50, 44, 49, 59, 98, 54, 44, 48, 59, 98, 51, 44, 49, 59, 98, 57, 44, 50, 59, 98, 52, 44, 51, 59, 98, 52, 44, 51, 59, 109, 49, 59, 116, 48, 44, 48, 44, 57, 59, 116, 49, 44, 52, 44, 49, 50, 59, 116, 50, 44, 49, 48, 44, 50, 48, 59, 116, 51, 44, 49, 56, 44, 50, 57, 59, 116, 52, 44, 49, 56, 44, 50, 57, 59, 120, 49, 44, 50, 59] : List Nat).getD i 0
theorem tx0_ch : ∀ i, i < 92 → vp_nar .char (sg_ch i) = nI (tx0 i) := by decide +kernel
theorem tx0_ok : TX tx0 92 := ⟨by decide, by decide +kernel⟩
theorem I_8t_eq (g : HP) : ∀ n, n ≤ 92 → I_8t g n = sa g 1 (fun i => if i < n then nI (tx0 i) else g.1 1 i)
  | 0, _ => by
    show g = _
    have : (fun i => if i < 0 then nI (tx0 i) else g.1 1 i) = g.1 1 := by
      funext i
      rw [if_neg (Nat.not_lt_zero i)]
    rw [this, sa_self]
  | n + 1, h => by
    show st (I_8t g n) 1 (nI n) (vp_nar .char (sg_ch n)) = _
    rw [I_8t_eq g n (by omega), st_sa (by omega), sa_sa, sa_r, tx0_ch n (by omega)]
    have : upd (fun i => if i < n then nI (tx0 i) else g.1 1 i) n (nI (tx0 n)) = (fun i => if i < n + 1 then nI (tx0 i) else g.1 1 i) := by
      funext i
      by_cases e : i = n
      · subst e
        rw [upd_r, if_pos (by omega)]
      · rw [upd_n e]
        by_cases e2 : i < n
        · rw [if_pos e2, if_pos (by omega)]
        · rw [if_neg e2, if_neg (by omega)]
    rw [this]
def ln0 : Nat → Nat := upN (upN (upN (fun _ => 0) 0 10) 1 8) 2 12
def sl0 : Nat → Nat := upN (upN (upN (fun _ => 0) 0 0) 1 3) 2 1
def pr0 : Nat → Nat := upN (fun _ => 1) 1 2
def st0 : Nat → Nat := upN (upN (upN (upN (upN (fun _ => 0) 0 60) 1 30) 2 90) 3 40) 4 40
def kd0 : Nat → Nat := upN (upN (upN (upN (upN (fun _ => 0) 0 0) 1 1) 2 2) 3 3) 4 3
def wh0 : Nat → Nat := upN (upN (upN (upN (upN (fun _ => 0) 0 0) 1 1) 2 2) 3 3) 4 4
def fr0 : Nat → Nat := upN (upN (upN (upN (upN (fun _ => 0) 0 0) 1 4) 2 10) 3 18) 4 18
def to0 : Nat → Nat := upN (upN (upN (upN (upN (fun _ => 0) 0 9) 1 12) 2 20) 3 29) 4 29
theorem first_r : (prs tx0 92 201 0 S00).1 = none ∧ (prs tx0 92 201 0 S00).2.1 = 3 ∧ (prs tx0 92 201 0 S00).2.2.1 = 5 ∧ (prs tx0 92 201 0 S00).2.2.2.1 = 1 ∧ (prs tx0 92 201 0 S00).2.2.2.2.1 = 0 ∧ (prs tx0 92 201 0 S00).2.2.2.2.2.1 = 5 := by decide +kernel
theorem first_f : ∀ i, i < 6 → (prs tx0 92 201 0 S00).2.2.2.2.2.2.1 i = ln0 i ∧ (prs tx0 92 201 0 S00).2.2.2.2.2.2.2.1 i = sl0 i ∧ (prs tx0 92 201 0 S00).2.2.2.2.2.2.2.2.1 i = pr0 i ∧ (prs tx0 92 201 0 S00).2.2.2.2.2.2.2.2.2.1 i = st0 i ∧ (prs tx0 92 201 0 S00).2.2.2.2.2.2.2.2.2.2.1 i = kd0 i ∧ (prs tx0 92 201 0 S00).2.2.2.2.2.2.2.2.2.2.2.1 i = wh0 i ∧ (prs tx0 92 201 0 S00).2.2.2.2.2.2.2.2.2.2.2.2.1 i = fr0 i ∧ (prs tx0 92 201 0 S00).2.2.2.2.2.2.2.2.2.2.2.2.2 i = to0 i := by decide +kernel
theorem RMd.first {y : HP} (r : RMd y (3, 5, 1, 0, 5, ln0, sl0, pr0, st0, kd0, wh0, fr0, to0)) {ns nb mu we n : Nat} {ln sl pr st kd wh fr to : Nat → Nat} (h1 : ns = 3) (h2 : nb = 5) (h3 : mu = 1) (h4 : we = 0) (h5 : n = 5) (hf : ∀ i, i < 6 → ln i = ln0 i ∧ sl i = sl0 i ∧ pr i = pr0 i ∧ st i = st0 i ∧ kd i = kd0 i ∧ wh i = wh0 i ∧ fr i = fr0 i ∧ to i = to0 i) : RMd y (ns, nb, mu, we, n, ln, sl, pr, st, kd, wh, fr, to) := by
  subst h1 h2 h3 h4 h5
  obtain ⟨r1, r2, r3, r4, r5, r6, r7, r8, r9⟩ := r
  refine ⟨r1, r2, r3, r4, fun i hi => ?_, fun i hi => ?_, fun i hi => ?_, r8, fun i hi => ?_⟩
  · obtain ⟨a1, a2, a3, a4, a5, a6, a7, a8⟩ := hf i (by omega)
    rw [a1, a2]; exact r5 i hi
  · obtain ⟨a1, a2, a3, a4, a5, a6, a7, a8⟩ := hf i (by omega)
    rw [a3]; exact r6 i hi
  · obtain ⟨a1, a2, a3, a4, a5, a6, a7, a8⟩ := hf i (by omega)
    rw [a4, a5]; exact r7 i hi
  · obtain ⟨a1, a2, a3, a4, a5, a6, a7, a8⟩ := hf i (by omega)
    rw [a6, a7, a8]; exact r9 i hi
/-- the model's first hill and turns -/
theorem initM (x : HP) : ∃ y m, RMd y (3, 5, 1, 0, 5, ln0, sl0, pr0, st0, kd0, wh0, fr0, to0) ∧ F_X9_init 133 x = some m ∧ F_X9_begins 133 y = some m ∧ FK x y := by
  obtain ⟨x1, c1, c2, c3, c4⟩ := cleanM x
  have hR : RMd x1 S00 := by
    refine ⟨?_, ?_, ?_, ?_, fun i hi => absurd hi (Nat.not_lt_zero i), fun i hi => ?_, fun i hi => absurd hi (Nat.not_lt_zero i), ?_, fun i hi => absurd hi (Nat.not_lt_zero i)⟩
    · rw [c3 0 (by decide)]; rfl
    · rw [c3 1 (by decide)]; rfl
    · rw [c3 2 (by decide)]; rfl
    · rw [c3 3 (by decide)]; rfl
    · rw [c3 (16 + i) (by omega), if_pos (by omega)]; rfl
    · rw [c4 0 (by decide)]; rfl
  have tr : ∀ {a b c : HP}, FK a b → FK b c → FK a c := fun p q => ⟨fun y y1 y2 => (q.1 y y1 y2).trans (p.1 y y1 y2), q.2.trans p.2⟩
  obtain ⟨s1, a1, a2, a3⟩ := strM (a := 10) (b := 0) (by decide) (by decide) hR
  obtain ⟨s2, b1, b2, b3⟩ := strM (a := 8) (b := 3) (by decide) (by decide) a2
  obtain ⟨s3, d1, d2, d3⟩ := strM (a := 12) (b := 1) (by decide) (by decide) b2
  obtain ⟨t1, e1, e2, e3⟩ := comM (a := 60) (b := 0) (by decide) (by decide) d2
  obtain ⟨t2, f1, f2, f3⟩ := comM (a := 30) (b := 1) (by decide) (by decide) e2
  obtain ⟨t3, g1, g2, g3⟩ := comM (a := 90) (b := 2) (by decide) (by decide) f2
  obtain ⟨t4, h1, h2, h3⟩ := comM (a := 40) (b := 3) (by decide) (by decide) g2
  obtain ⟨t5, i1, i2, i3⟩ := comM (a := 40) (b := 3) (by decide) (by decide) h2
  obtain ⟨u1, j1, j2, j3⟩ := turM (a := 0) (b := 0) (c := 9) (by decide) i2
  obtain ⟨u2, k1, k2, k3⟩ := turM (a := 1) (b := 4) (c := 12) (by decide) j2
  obtain ⟨u3, l1, l2, l3⟩ := turM (a := 2) (b := 10) (c := 20) (by decide) k2
  obtain ⟨u4, m1, m2, m3⟩ := turM (a := 3) (b := 18) (c := 29) (by decide) l2
  obtain ⟨u5, n1, n2, n3⟩ := turM (a := 4) (b := 18) (c := 29) (by decide) m2
  obtain ⟨m, q1, _⟩ := beginsM (sa u5 135 (upd (u5.1 135) 17 2))
  refine ⟨sa u5 135 (upd (u5.1 135) 17 2), m, ?_, ?_, q1, tr c2 (tr a3 (tr b3 (tr d3 (tr e3 (tr f3 (tr g3 (tr h3 (tr i3 (tr j3 (tr k3 (tr l3 (tr m3 (tr n3 (fk_sa (Or.inl rfl)))))))))))))))⟩
  · obtain ⟨r1, r2, r3, r4, r5, r6, r7, r8, r9⟩ := n2
    refine ⟨?_, ?_, ?_, ?_, fun i hi => ?_, fun i hi => ?_, fun i hi => ?_, ?_, ?_⟩
    · rw [sa_r, upd_n (by decide)]; exact r1
    · rw [sa_r, upd_n (by decide)]; exact r2
    · rw [sa_r, upd_n (by decide)]; exact r3
    · rw [sa_r, upd_n (by decide)]; exact r4
    · rw [sa_r, upd_n (by omega), upd_n (by omega)]; exact r5 i hi
    · rw [sa_r]
      unfold pr0
      by_cases e : i = 1
      · subst e
        rw [upN_r, upd_r]; rfl
      · rw [upN_n e, upd_n (by omega)]; exact r6 i hi
    · rw [sa_r, upd_n (by omega), upd_n (by omega)]; exact r7 i hi
    · rw [sa_n (by decide)]; exact r8
    · rw [sa_n (by decide)]; exact r9
  · unfold F_X9_init
    simp only [Nat.reduceAdd]
    rw [c1, cl_some]
    have a1' : F_X9_stretch 133 10 0 x1 = some s1 := a1
    have b1' : F_X9_stretch 133 8 3 s1 = some s2 := b1
    have d1' : F_X9_stretch 133 12 1 s2 = some s3 := d1
    have e1' : F_X9_comes 133 60 0 s3 = some t1 := e1
    have f1' : F_X9_comes 133 30 1 t1 = some t2 := f1
    have g1' : F_X9_comes 133 90 2 t2 = some t3 := g1
    have h1' : F_X9_comes 133 40 3 t3 = some t4 := h1
    have i1' : F_X9_comes 133 40 3 t4 = some t5 := i1
    have j1' : F_X9_takesTurn 133 0 0 9 t5 = some u1 := j1
    have k1' : F_X9_takesTurn 133 1 4 12 u1 = some u2 := k1
    have l1' : F_X9_takesTurn 133 2 10 20 u2 = some u3 := l1
    have m1' : F_X9_takesTurn 133 3 18 29 u3 = some u4 := m1
    have n1' : F_X9_takesTurn 133 4 18 29 u4 = some u5 := n1
    rw [a1', cl_some, b1', cl_some, d1', cl_some, e1', cl_some, f1', cl_some, g1', cl_some, h1', cl_some, i1', cl_some, j1', cl_some, k1', cl_some, l1', cl_some, m1', cl_some, n1', cl_some, nm_eq]
    have st17 : st u5 135 17 2 = sa u5 135 (upd (u5.1 135) 17 2) := rfl
    rw [st17, q1, cl_some]
theorem ur_1z {h : HP} {a k r : Nat} {x : Nat} : (ur h a k r).1 x = h.1 x := rfl
theorem I3k_hi {a k : Nat} : ∀ (N : Nat) {h : HP}, a + 2 + 4 * N ≤ k → (I_3k a N h).2 k = h.2 k
  | 0, h, _ => rfl
  | N + 1, h, hk => by
    show (ur (I_6 (a + 2 + 4 * N) (I_3k a N h)) (a + 1) N (a + 2 + 4 * N + 1)).2 k = _
    rw [ur_2x (by omega)]
    unfold I_6
    rw [ur_2x (by omega), ur_2x (by omega), ur_2x (by omega)]
    exact I3k_hi N (by omega)
theorem I8a_1 : (I_8a z0).1 = fun _ _ => 0 := rfl
theorem I8a_2 {k : Nat} (hk : 133 ≤ k) : (I_8a z0).2 k = fun _ => 0 := by
  unfold I_8a I_0 I_2 I_5 I_3 I_4
  unfold I_7 I_6 I_1
  simp (disch := omega) only [ur_2x, I3k_hi]
  rfl
def tyB (n : Nat) (r : Nat → Nat → Nat) (a : Nat) : Bool :=
  (List.range (sg_nF (sg_T a))).all (fun j => !(sg_isR (sg_T a) j) || (sg_T a == 7 && j == 0) || r a j == sg_F a j + 1) && (!(sg_T a == 7) || r a 0 == 0 || (decide (r a 0 - 1 < n) && sg_T (r a 0 - 1) == 1)) && (!(sg_T a == 12) || (List.range (sg_N a)).all (fun j => r a j == 0 || (decide (r a j - 1 < n) && sg_T (r a j - 1) == 6)))
theorem tyB_ok {n : Nat} {r : Nat → Nat → Nat} (h : (List.range n).all (tyB n r) = true) : sg_Ty n r := by
  intro a ha
  rw [List.all_eq_true] at h
  have h1 := h a (List.mem_range.mpr ha)
  unfold tyB at h1
  rw [Bool.and_eq_true, Bool.and_eq_true] at h1
  obtain ⟨⟨q1, q2⟩, q3⟩ := h1
  refine ⟨fun j hj hr hn => ?_, fun hT h0 => ?_, fun hT j hj h0 => ?_⟩
  · rw [List.all_eq_true] at q1
    have := q1 j (List.mem_range.mpr hj)
    rw [hr] at this
    by_cases e : sg_T a = 7 ∧ j = 0
    · exact absurd e hn
    · simp only [Bool.not_true, Bool.false_or, Bool.or_eq_true, Bool.and_eq_true, beq_iff_eq] at this
      rcases this with z | z
      · exact absurd z e
      · exact z
  · simp only [Bool.or_eq_true, Bool.and_eq_true, Bool.not_eq_true', beq_eq_false_iff_ne, beq_iff_eq, decide_eq_true_eq] at q2
    rcases q2 with (z | z) | z
    · exact absurd hT z
    · exact absurd z h0
    · exact z
  · simp only [Bool.or_eq_true, Bool.and_eq_true, Bool.not_eq_true', beq_eq_false_iff_ne, beq_iff_eq, decide_eq_true_eq, List.all_eq_true, List.mem_range] at q3
    rcases q3 with z | z
    · exact absurd hT z
    · rcases z j hj with y | y
      · exact absurd y h0
      · exact y
theorem I8a_ty : sg_Ty 133 (I_8a z0).2 := tyB_ok (by decide +kernel)
def z1 : HP := (fun _ _ => 0, (ur (I_8a z0) 81 0 16).2)
theorem I9a_ty : sg_Ty 154 (I_9a 133 z1).2 := tyB_ok (by decide +kernel)
theorem z1_34 : (∀ k, k < 8 → z1.2 34 k = 36 + 4 * k) ∧ ∀ k, k < 2 → z1.2 68 k = 70 + 4 * k := by decide +kernel
theorem I9a_x {h : HP} {x : Nat} (hx : x ≠ 133) : (I_9a 133 h).2 x = h.2 x := by
  unfold I_9a
  simp (disch := exact hx) only [ur_2x]
theorem ur_c {h h' : HP} {a k r : Nat} (e : h.2 = h'.2) : (ur h a k r).2 = (ur h' a k r).2 := by
  show (fun x => if x = a then va_up (h.2 a) k r else h.2 x) = (fun x => if x = a then va_up (h'.2 a) k r else h'.2 x)
  rw [e]
theorem I9a_c {h h' : HP} (e : h.2 = h'.2) : (I_9a 133 h).2 = (I_9a 133 h').2 := by
  unfold I_9a
  repeat' apply ur_c
  exact e
theorem I9a_1 {h : HP} : (I_9a 133 h).1 = h.1 := by
  unfold I_9a
  simp only [ur_1]
theorem z1_hi {k : Nat} (hk : 133 ≤ k) : z1.2 k = fun _ => 0 := by
  show (if k = 81 then va_up ((I_8a z0).2 81) 0 16 else (I_8a z0).2 k) = _
  rw [if_neg (by omega), I8a_2 hk]
/-- the model's object beside the class's -/
theorem init_w {g w : HP} {ns nb mu we n : Nat} {ln sl pr st kd wh fr to : Nat → Nat} (hV : PVl (ns, nb, mu, we, n, ln, sl, pr, st, kd, wh, fr, to)) (f2 : ns = 3) (f3 : nb = 5) (f4 : mu = 1) (f5 : we = 0) (f6 : n = 5) (ff : ∀ i, i < 6 → ln i = ln0 i ∧ sl i = sl0 i ∧ pr i = pr0 i ∧ st i = st0 i ∧ kd i = kd0 i ∧ wh i = wh0 i ∧ fr i = fr0 i ∧ to i = to0 i) (g2 : g.2 = z1.2) (l8 : g.1 0 10 = 0) (l9 : g.1 33 1 = 0) (la : g.1 67 1 = 0) (lc : ∀ m : HP, (∀ y, ((15 ≤ y ∧ y ≤ 21) ∨ (29 ≤ y ∧ y ≤ 32) ∨ y = 79 ∨ (81 ≤ y ∧ y ≤ 86)) → m.1 y = g.1 y) → m.2 81 = g.2 81 → RU (m.1 134) (ns, nb, mu, we, n, ln, sl, pr, st, kd, wh, fr, to) → TM (m.1 136) n wh fr to → Core m nb ns ln n wh fr to) (w1 : ∀ y, y ≠ 0 → w.1 y = g.1 y) (w0a : ∀ j, j ≠ 1 → w.1 0 j = g.1 0 j) (w0b : w.1 0 1 = 0) (w2 : w.2 = g.2) (wk : ∀ k, 133 ≤ k → w.1 k = fun _ => 0) : ∃ m, F_X9_init 133 (I_9a 133 w) = some m ∧ Inv m := by
  rw [g2] at w2
  obtain ⟨y, m, m1, m2, m3, m4⟩ := initM (I_9a 133 w)
  obtain ⟨m', b1, b2, b3, b4, b5, b6, b7, b8, b9⟩ := beginsM y
  rw [m3] at b1
  cases b1
  have hM := m1.first f2 f3 f4 f5 f6 ff
  have hU := hM.ru hV b2
  have hB := hM.tm hV b3
  have mw : ∀ z, z < 133 → m.1 z = w.1 z := fun z hz => by rw [b7 z (by omega) (by omega) (by omega), m4.1 z (by omega) (by omega), I9a_1]
  have mr : ∀ z, z ≠ 133 → m.2 z = z1.2 z := fun z hz => by rw [b9, m4.2, I9a_x hz, w2]
  have hc := lc m (fun z hz => by rw [mw z (by omega), w1 z (by omega)]) (by rw [mr 81 (by decide), g2]) hU hB
  refine ⟨m, m2, inv_new hc ⟨0, by omega, ?_, ?_, fun i hi => absurd hi (Nat.not_lt_zero i)⟩ ?_ ?_ ?_ b4 b5 b6 (fun k hk => ⟨k, hk, ?_⟩) (fun j k hj hk => ?_) (fun k hk => ?_)⟩
  · rw [mw 0 (by omega), w0b]; rfl
  · rw [b8 9 (by decide) (by decide) (by decide), m4.1 133 (by decide) (by decide), I9a_1, wk 133 (by omega)]; rfl
  · rw [mw 0 (by omega), w0a 10 (by decide)]; exact l8
  · rw [mw 33 (by omega), w1 33 (by decide)]; exact l9
  · rw [mw 67 (by omega), w1 67 (by decide)]; exact la
  · rw [mr 34 (by decide)]; exact z1_34.1 k hk
  · rw [mr 34 (by decide), z1_34.1 j (by omega), z1_34.1 k hk]; omega
  · rw [mr 68 (by decide)]; exact z1_34.2 k hk
theorem init_h {h : HP} (hh1 : ∀ i, i < 92 → h.1 1 i = nI (tx0 i)) (hh0 : h.1 0 1 = nI 92) (hhk : ∀ k, 133 ≤ k → h.1 k = fun _ => 0) (hh2 : h.2 = (I_8a z0).2) : ∃ (R1 : Int32 × HP) (R2 : HP), F_X8_layText 0 h = some R1 ∧ (∀ k, 133 ≤ k → (ui R1.2 0 1 0).1 k = (fun _ => 0) ∧ (ui R1.2 0 1 0).2 k = (fun _ => 0)) ∧ sg_Ty 154 (I_9a 133 (ui R1.2 0 1 0)).2 ∧ F_X9_init 133 (I_9a 133 (ui R1.2 0 1 0)) = some R2 ∧ Inv R2 := by
  obtain ⟨x, e1, e2, e3⟩ := faultC tx0_ok hh1
  obtain ⟨f1, f2, f3, f4, f5, f6⟩ := first_r
  have ff := first_f
  obtain ⟨hR, hV⟩ := e3 f1
  rw [f1] at e1
  obtain ⟨S, hS⟩ : ∃ S, (prs tx0 92 201 0 S00).2 = S := ⟨_, rfl⟩
  rw [hS] at hR hV f2 f3 f4 f5 f6 ff
  obtain ⟨ns, nb, mu, we, n, ln, sl, pr, st, kd, wh, fr, to⟩ := S
  dsimp only at f2 f3 f4 f5 f6 ff
  obtain ⟨a, b, g, l1, l2, l3, l4, l5, l6, l7, l8, l9, la, lb, ld', lc⟩ := laidC hV (by omega) (by omega) hR
  have hlay : F_X8_layText 0 h = some (nI (lsum ln ns), g) := by
    unfold F_X8_layText
    simp only [Nat.reduceAdd]
    rw [hh0, e1, cl_some]
    dsimp only
    rw [if_pos (show fV none = -4 from rfl), hR.1, hR.2.2.1, if_neg (show ¬ nI ns = 0 by rw [f2]; decide), if_neg (show ¬ nI nb = 0 by rw [f3]; decide), l1, cl_some, l2, cl_some, nm_eq, nm_eq, nm_eq, l3, cl_some, l4]
  have g2 : g.2 = z1.2 := by
    rw [ld']
    refine ur_c (h' := I_8a z0) ?_
    rw [e2.2, hh2]
  have w1 : ∀ y, y ≠ 0 → (ui g 0 1 0).1 y = g.1 y := fun y hy => by rw [ui_sa, sa_n hy]
  have wk : ∀ k, 133 ≤ k → (ui g 0 1 0).1 k = fun _ => 0 := fun k hk => by
    rw [w1 k (by omega), l5 k (by omega), e2.1 k (by omega), hhk k hk]
  obtain ⟨m, m1, m2⟩ := init_w (w := ui g 0 1 0) hV f2 f3 f4 f5 f6 ff g2 l8 l9 la lc w1 (fun j hj => by rw [ui_sa, sa_r, upd_n hj]) (by rw [ui_sa, sa_r, upd_r]) rfl wk
  refine ⟨(nI (lsum ln ns), g), m, hlay, fun k hk => ⟨wk k hk, ?_⟩, ?_, m1, m2⟩
  · show g.2 k = _
    rw [g2, z1_hi hk]
  · rw [I9a_c (h := ui g 0 1 0) (h' := z1) g2]
    exact I9a_ty
theorem init_ok : ∃ (R1 : Int32 × HP) (R2 : HP), sg_Ty 133 (I_8a z0).2 ∧ (∀ k, 133 ≤ k → (I_8a z0).1 k = (fun _ => 0) ∧ (I_8a z0).2 k = (fun _ => 0)) ∧ F_X8_layText 0 (ui (I_8t (I_8a z0) 92) 0 1 92) = some R1 ∧ (∀ k, 133 ≤ k → (ui R1.2 0 1 0).1 k = (fun _ => 0) ∧ (ui R1.2 0 1 0).2 k = (fun _ => 0)) ∧ sg_Ty 154 (I_9a 133 (ui R1.2 0 1 0)).2 ∧ F_X9_init 133 (I_9a 133 (ui R1.2 0 1 0)) = some R2 ∧ Inv R2 := by
  obtain ⟨R1, R2, r1, r2, r3, r4, r5⟩ := init_h (h := ui (I_8t (I_8a z0) 92) 0 1 92) (fun i hi => by
    rw [ui_sa, sa_n (by decide), I_8t_eq _ 92 (Nat.le_refl _), sa_r, if_pos hi]) (by rw [ui_sa, sa_r, upd_r]; rfl) (fun k hk => by
    rw [ui_sa, sa_n (by omega), I_8t_eq _ 92 (Nat.le_refl _), sa_n (by omega), I8a_1]) (by
    rw [ui_sa, sa_2, I_8t_eq _ 92 (Nat.le_refl _), sa_2])
  exact ⟨R1, R2, I8a_ty, fun k hk => ⟨by rw [I8a_1], I8a_2 hk⟩, r1, r2, r3, r4, r5⟩
