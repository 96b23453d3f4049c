/-- a hill row that holds what was read -/
def RU (U : Nat → Int32) : PSt → Prop
  | (ns, nb, mu, we, n, ln, sl, pr, st, kd, wh, fr, to) => U 0 = nI ns ∧ U 1 = nI nb ∧ U 2 = nI mu ∧ U 3 = nI we ∧ (∀ i, i < ns → U (4 + i) = nI (ln i) ∧ U (10 + i) = nI (sl i)) ∧ (∀ i, i < 6 → U (16 + i) = nI (pr i)) ∧ ∀ i, i < nb → U (22 + i) = nI (st i) ∧ U (28 + i) = nI (kd i)
theorem RU.hv {U : Nat → Int32} {ns nb mu we n : Nat} {ln sl pr st kd wh fr to : Nat → Nat} (r : RU U (ns, nb, mu, we, n, ln, sl, pr, st, kd, wh, fr, to)) (v : PVl (ns, nb, mu, we, n, ln, sl, pr, st, kd, wh, fr, to)) (h1 : 1 ≤ ns) (h2 : 1 ≤ nb) : HV U nb ns ln := by
  obtain ⟨p1, p2, p3, p4, p5, p6, p7, p8, p9, pa, pb, pc⟩ := v
  obtain ⟨r1, r2, r3, r4, r5, r6, r7⟩ := r
  refine ⟨⟨r1, r2, p2, p1, fun i hi => (r5 i hi).1, p7⟩, h2, h1, ⟨mu, r3, p3, p4⟩, ⟨we, r4, p5⟩, fun i hi => ?_, fun i hi => ?_⟩
  · obtain ⟨q1, q2, q3⟩ := p8 i hi
    exact ⟨q1, q2, ⟨sl i, (r5 i hi).2, q3⟩, pr i, r6 i (by omega), p9 i⟩
  · obtain ⟨q1, q2, q3⟩ := pb i hi
    exact ⟨⟨st i, (r7 i hi).1, q1, q2⟩, kd i, (r7 i hi).2, q3⟩
/-- there is one -/
def uS0 : PSt → Nat → Int32
  | (ns, nb, mu, we, n, ln, sl, pr, st, kd, wh, fr, to) => fun i => if i < 4 then (if i = 0 then nI ns else if i = 1 then nI nb else if i = 2 then nI mu else nI we) else if i < 10 then nI (ln (i - 4)) else if i < 16 then nI (sl (i - 10)) else if i < 22 then nI (pr (i - 16)) else if i < 28 then nI (st (i - 22)) else nI (kd (i - 28))
theorem uS0_ok {ns nb mu we n : Nat} {ln sl pr st kd wh fr to : Nat → Nat} (v : PVl (ns, nb, mu, we, n, ln, sl, pr, st, kd, wh, fr, to)) : RU (uS0 (ns, nb, mu, we, n, ln, sl, pr, st, kd, wh, fr, to)) (ns, nb, mu, we, n, ln, sl, pr, st, kd, wh, fr, to) := by
  obtain ⟨p1, p2, p3, p4, p5, p6, p7, p8, p9, pa, pb, pc⟩ := v
  refine ⟨rfl, rfl, rfl, rfl, fun i hi => ⟨?_, ?_⟩, fun i hi => ?_, fun i hi => ⟨?_, ?_⟩⟩
  · unfold uS0
    dsimp only
    rw [if_neg (by omega), if_pos (by omega), Nat.add_sub_cancel_left]
  · unfold uS0
    dsimp only
    rw [if_neg (by omega), if_neg (by omega), if_pos (by omega), Nat.add_sub_cancel_left]
  · unfold uS0
    dsimp only
    rw [if_neg (by omega), if_neg (by omega), if_neg (by omega), if_pos (by omega), Nat.add_sub_cancel_left]
  · unfold uS0
    dsimp only
    rw [if_neg (by omega), if_neg (by omega), if_neg (by omega), if_neg (by omega), if_pos (by omega), Nat.add_sub_cancel_left]
  · unfold uS0
    dsimp only
    rw [if_neg (by omega), if_neg (by omega), if_neg (by omega), if_neg (by omega), if_neg (by omega), Nat.add_sub_cancel_left]
/-- the class lays what it has read -/
theorem laidC {x : HP} {ns nb mu we n : Nat} {ln sl pr st kd wh fr to : Nat → Nat} (v : PVl (ns, nb, mu, we, n, ln, sl, pr, st, kd, wh, fr, to)) (h1 : 1 ≤ ns) (h2 : 1 ≤ nb) (hR : RCl x (ns, nb, mu, we, n, ln, sl, pr, st, kd, wh, fr, to)) : ∃ a b g, F_X1_copy 15 3 x = some a ∧ F_X6_copy 29 10 a = some b ∧ F_X8_settle 0 (ui (ui (ui b 0 10 0) 33 1 0) 67 1 0) = some g ∧ g.1 15 1 = nI (lsum ln ns) ∧ (∀ y, 87 < y → g.1 y = x.1 y) ∧ g.1 1 = x.1 1 ∧ (∀ j, j ≠ 10 → g.1 0 j = x.1 0 j) ∧ g.1 0 10 = 0 ∧ g.1 33 1 = 0 ∧ g.1 67 1 = 0 ∧ (∀ y, y ≠ 81 → g.2 y = x.2 y) ∧ g.2 = (ur x 81 0 16).2 ∧ ∀ m : HP, (∀ y, ((15 ≤ y ∧ y ≤ 21) ∨ (29 ≤ y ∧ y ≤ 32) ∨ y = 79 ∨ (81 ≤ y ∧ y ≤ 86)) → m.1 y = g.1 y) → m.2 81 = g.2 81 → RU (m.1 134) (ns, nb, mu, we, n, ln, sl, pr, st, kd, wh, fr, to) → TM (m.1 136) n wh fr to → Core m nb ns ln n wh fr to := by
  obtain ⟨p1, p2, p3, p4, p5, p6, p7, p8, p9, pa, pb, pc⟩ := id v
  obtain ⟨r1, r2, r3, r4, r5, r6, r7, r8, r9⟩ := hR
  have cp : ∀ U, RU U (ns, nb, mu, we, n, ln, sl, pr, st, kd, wh, fr, to) → ∃ h', F_X1_copy 15 3 x = some h' ∧ CF h' 15 U nb ns ln ∧ (∀ y, (y < 15 ∨ 15 + 7 ≤ y) → h'.1 y = x.1 y) ∧ h'.2 = x.2 := by
    intro U u
    obtain ⟨u1, u2, u3, u4, u5, u6, u7⟩ := u
    exact fcopy_eq (a := 15) (q := 3) (nb := nb) (ns := ns) (ln := ln) (U := U) (by omega) p1 p2 p7 (fun i hi => (u5 i hi).1) r1 r2 r3 (by rw [u3]; exact r4) (by rw [u4]; exact r5) (fun i hi => by
      rw [(u5 i hi).1, (u5 i hi).2, u6 i (by omega)]
      exact r6 i hi) (fun i hi => by
      rw [(u7 i hi).1, (u7 i hi).2]
      exact r7 i hi)
  obtain ⟨a, a1, a2, a3, a4⟩ := cp _ (uS0_ok v)
  have hCa : ∀ U, RU U (ns, nb, mu, we, n, ln, sl, pr, st, kd, wh, fr, to) → CF a 15 U nb ns ln := by
    intro U u
    obtain ⟨a', b1, b2, _, _⟩ := cp U u
    rw [a1] at b1
    cases b1
    exact b2
  have hTN : TN a 10 n wh fr to := by
    refine ⟨by rw [a3 10 (by omega)]; exact r8, p6, fun k hk => ?_⟩
    obtain ⟨q1, q2, q3⟩ := pc k hk
    obtain ⟨s1, s2, s3⟩ := r9 k hk
    refine ⟨?_, ?_, ?_, by omega, q2, q3⟩
    · rw [a3 (10 + 1) (by omega)]; exact s1
    · rw [a3 (10 + 2) (by omega)]; exact s2
    · rw [a3 (10 + 3) (by omega)]; exact s3
  obtain ⟨b, b1, b2, b3, b4⟩ := copy_eq (a := 29) (q := 10) (by omega) hTN
  have hw : ∀ k, k < n → wh k < nb := fun k hk => (pc k hk).1
  generalize hg : ui (ui (ui b 0 10 0) 33 1 0) 67 1 0 = g0
  have g0n : ∀ y, y ≠ 0 → y ≠ 33 → y ≠ 67 → g0.1 y = b.1 y := fun y y1 y2 y3 => by
    rw [← hg]
    simp only [ui_sa]
    rw [sa_n y3, sa_n y2, sa_n y1]
  have g02 : g0.2 = b.2 := by rw [← hg]; rfl
  have g00 : ∀ j, j ≠ 10 → g0.1 0 j = b.1 0 j := fun j hj => by
    rw [← hg]
    simp only [ui_sa]
    rw [sa_n (by decide), sa_n (by decide), sa_r, upd_n hj]
  have g0a : g0.1 0 10 = 0 := by
    rw [← hg]
    simp only [ui_sa]
    rw [sa_n (by decide), sa_n (by decide), sa_r, upd_r]
  have g0b : g0.1 33 1 = 0 := by
    rw [← hg]
    simp only [ui_sa]
    rw [sa_n (by decide), sa_r, upd_r]
  have g0c : g0.1 67 1 = 0 := by
    rw [← hg]
    simp only [ui_sa]
    rw [sa_r, upd_r]
  have hT0 : TN g0 29 n wh fr to := b2.of (fun y y1 y2 => g0n y (by omega) (by omega) (by omega))
  have hC0 : ∀ U, RU U (ns, nb, mu, we, n, ln, sl, pr, st, kd, wh, fr, to) → CF g0 15 U nb ns ln := fun U u => (hCa U u).of (fun y y1 y2 => by rw [g0n y (by omega) (by omega) (by omega), b3 y (by omega)])
  obtain ⟨g, t1, t2, t3, t4⟩ := tell ((uS0_ok v).hv v h1 h2) (hC0 _ (uS0_ok v)) hT0 hw
  refine ⟨a, b, g, a1, b1, by rw [hg]; exact t1, ?_, fun y hy => ?_, ?_, fun j hj => ?_, ?_, ?_, ?_, fun y hy => ?_, ?_, fun m m1 m2 m3 m4 => ?_⟩
  · rw [t2 15 (by omega)]; exact (hC0 _ (uS0_ok v)).2.1
  · rw [t2 y (by omega), g0n y (by omega) (by omega) (by omega), b3 y (by omega), a3 y (by omega)]
  · rw [t2 1 (by omega), g0n 1 (by omega) (by omega) (by omega), b3 1 (by omega), a3 1 (by omega)]
  · rw [t2 0 (by omega), g00 j hj, b3 0 (by omega), a3 0 (by omega)]
  · rw [t2 0 (by omega)]; exact g0a
  · rw [t2 33 (by omega)]; exact g0b
  · rw [t2 67 (by omega)]; exact g0c
  · rw [t3 y hy, g02, b4, a4]
  · rw [settle2 ((uS0_ok v).hv v h1 h2) (hC0 _ (uS0_ok v)) hT0 t1]
    show (fun y => if y = 81 then va_up (g0.2 81) 0 16 else g0.2 y) = (fun y => if y = 81 then va_up (x.2 81) 0 16 else x.2 y)
    rw [g02, b4, a4]
  · obtain ⟨g', u1, u2, u3, u4⟩ := tell (m3.hv v h1 h2) (hC0 _ m3) hT0 hw
    rw [t1] at u1
    cases u1
    have c := u4 (fun y => if y < 133 then g.1 y else m.1 y, g.2) (fun y hy => if_pos hy) rfl (show (if 134 < 133 then g.1 134 else m.1 134) = m.1 134 from if_neg (by decide)) (by
      show TM (if 136 < 133 then g.1 136 else m.1 136) n wh fr to
      rw [if_neg (by decide)]
      exact m4)
    refine c.of (fun y hy => ?_) m2
    dsimp only
    by_cases e : y < 133
    · rw [if_pos e]; exact m1 y (by omega)
    · rw [if_neg e]
theorem beginsM (x : HP) : ∃ x', F_X9_begins 133 x = some x' ∧ (∀ i, i < 34 → x'.1 134 i = x.1 135 i) ∧ (∀ i, i < 31 → x'.1 136 i = x.1 137 i) ∧ x'.1 133 5 = 0 ∧ x'.1 133 7 = 0 ∧ x'.1 133 11 = 0 ∧ (∀ y, y ≠ 133 → y ≠ 134 → y ≠ 136 → x'.1 y = x.1 y) ∧ (∀ j, j ≠ 5 → j ≠ 7 → j ≠ 11 → x'.1 133 j = x.1 133 j) ∧ x'.2 = x.2 := by
  have e1 : F_X9_begins 133 x = F_X9_begins_J26 133 (sa x 134 (fa_fill (x.1 135) (x.1 134) 34)) := by
    unfold F_X9_begins F_X9_begins_L2
    simp only [Nat.reduceAdd]
    refine lp_seq' (fun k => (nI k, sa x 134 (fa_fill (x.1 135) (x.1 134) k))) 34 (fu (by decide)) ?_ (fun k hk rc => ?_) (fun rc => ?_)
    · rw [fa_fill_0, sa_self]
      rfl
    · dsimp only
      rw [if_neg (show ¬ (34 : Int32) ≤ nI k from nI_ge (b := 34) hk (by decide)), gd_ok hk (by decide), gd_ok hk (by decide), nm_eq, ld_nI (by omega), sa_n (x := 135) (by decide), st_sa (by omega), sa_sa, sa_r, nI_1, fa_fill_succ (x.1 135)]
    · exact if_pos (show (34 : Int32) ≤ nI 34 by decide)
  have e2 : ∀ y : HP, F_X9_begins_J26 133 y = F_X9_begins_J52 133 (sa y 136 (fa_fill (y.1 137) (y.1 136) 31)) := by
    intro y
    unfold F_X9_begins_J26 F_X9_begins_L28
    simp only [Nat.reduceAdd]
    refine lp_seq' (fun k => (nI k, sa y 136 (fa_fill (y.1 137) (y.1 136) k))) 31 (fu (by decide)) ?_ (fun k hk rc => ?_) (fun rc => ?_)
    · rw [fa_fill_0, sa_self]
      rfl
    · dsimp only
      rw [if_neg (show ¬ (31 : Int32) ≤ nI k from nI_ge (b := 31) hk (by decide)), gd_ok hk (by decide), gd_ok hk (by decide), nm_eq, ld_nI (by omega), sa_n (x := 137) (by decide), st_sa (by omega), sa_sa, sa_r, nI_1, fa_fill_succ (y.1 137)]
    · exact if_pos (show (31 : Int32) ≤ nI 31 by decide)
  rw [e1, e2]
  unfold F_X9_begins_J52
  simp only [nm_eq, ui_sa, sa_sa, sa_r]
  refine ⟨_, rfl, fun i hi => ?_, fun i hi => ?_, ?_, ?_, ?_, fun y y1 y2 y3 => ?_, fun j j1 j2 j3 => ?_, rfl⟩
  · rw [sa_n (by decide), sa_n (by decide), sa_r, fa_fill_in hi]
  · rw [sa_n (by decide), sa_r, fa_fill_in hi, sa_n (by decide)]
  · rw [sa_r, upd_n (by decide), upd_r]
  · rw [sa_r, upd_r]
  · rw [sa_r, upd_n (by decide), upd_n (by decide), upd_r]
  · rw [sa_n y1, sa_n y3, sa_n y2]
  · rw [sa_r, upd_n j2, upd_n j1, upd_n j3, sa_n (by decide), sa_n (by decide)]
theorem RMd.ru {x : HP} {U : Nat → Int32} {S : PSt} (hV : PVl S) (r : RMd x S) (h : ∀ i, i < 34 → U i = x.1 135 i) : RU U S := by
  obtain ⟨ns, nb, mu, we, n, ln, sl, pr, st, kd, wh, fr, to⟩ := S
  obtain ⟨p1, p2, p3, p4, p5, p6, p7, p8, p9, pa, pb, pc⟩ := hV
  obtain ⟨r1, r2, r3, r4, r5, r6, r7, r8, r9⟩ := r
  refine ⟨by rw [h 0 (by omega)]; exact r1, by rw [h 1 (by omega)]; exact r2, by rw [h 2 (by omega)]; exact r3, by rw [h 3 (by omega)]; exact r4, fun i hi => ?_, fun i hi => ?_, fun i hi => ?_⟩
  · rw [h (4 + i) (by omega), h (10 + i) (by omega)]; exact r5 i hi
  · rw [h (16 + i) (by omega)]; exact r6 i hi
  · rw [h (22 + i) (by omega), h (28 + i) (by omega)]; exact r7 i hi
theorem RMd.tm {x : HP} {B : Nat → Int32} {ns nb mu we n : Nat} {ln sl pr st kd wh fr to : Nat → Nat} (hV : PVl (ns, nb, mu, we, n, ln, sl, pr, st, kd, wh, fr, to)) (r : RMd x (ns, nb, mu, we, n, ln, sl, pr, st, kd, wh, fr, to)) (h : ∀ i, i < 31 → B i = x.1 137 i) : TM B n wh fr to := by
  obtain ⟨p1, p2, p3, p4, p5, p6, p7, p8, p9, pa, pb, pc⟩ := hV
  obtain ⟨r1, r2, r3, r4, r5, r6, r7, r8, r9⟩ := r
  refine ⟨by rw [h 0 (by omega)]; exact r8, by omega, fun k hk => ?_⟩
  rw [h (1 + k) (by omega), h (11 + k) (by omega), h (21 + k) (by omega)]
  obtain ⟨q1, q2, q3⟩ := pc k hk
  obtain ⟨s1, s2, s3⟩ := r9 k hk
  exact ⟨s1, s2, s3, by omega, q2, q3⟩
/-- nothing done, nothing kept, no print -/
theorem inv_new {m : HP} {nb ns n : Nat} {ln wh fr to : Nat → Nat} (c : Core m nb ns ln n wh fr to) (t : Txt m) (h0 : m.1 0 10 = 0) (h33 : m.1 33 1 = 0) (h67 : m.1 67 1 = 0) (m5 : m.1 133 5 = 0) (m7 : m.1 133 7 = 0) (m11 : m.1 133 11 = 0) (u4 : ∀ k, k < 8 → ∃ s, s < 8 ∧ m.2 34 k = 36 + 4 * s) (u5 : ∀ j k, j < k → k < 8 → m.2 34 j ≠ m.2 34 k) (k4 : ∀ k, k < 2 → m.2 68 k = 70 + 4 * k) : Inv m :=
  ⟨nb, ns, ln, n, wh, fr, to, c, t, ⟨0, by omega, h33, m5, u4, u5, fun k hk => absurd hk (Nat.not_lt_zero k)⟩, ⟨0, by omega, h67, m7, k4, fun k hk => absurd hk (Nat.not_lt_zero k)⟩, 0, by omega, h0, m11, fun k hk => absurd hk (Nat.not_lt_zero k)⟩
theorem step_lay (h : HP) (hI : Inv h) : ∃ (r : Int32) (h1 h2 : HP), F_X8_lay 0 h = some (r, h1) ∧ F_X9_lay 133 h1 = some (r, h2) ∧ Inv h2 := by
  have hI0 := hI
  obtain ⟨nb0, ns0, ln0, n0, wh0, fr0, to0, c, t, u, k, q⟩ := hI
  obtain ⟨tx, l, t1, t2, t3, t4⟩ := t.tx
  obtain ⟨x, e1, e2, e3⟩ := faultC t1 t3
  unfold F_X8_lay F_X8_layText F_X9_lay
  simp only [Nat.reduceAdd]
  rw [t2, e1, cl_some]
  dsimp only
  have hmk : ∀ g : HP, (∀ y, 132 < y → g.1 y = h.1 y) → MT g tx l := fun g hg => ⟨by rw [hg 133 (by omega)]; exact t4.1, fun i hi => by rw [hg 140 (by omega)]; exact t4.2 i hi⟩
  obtain ⟨y, g1, g2, g3⟩ := faultM t1 (hmk x (fun z hz => e2.1 z (by omega)))
  have bad : Inv y := g2.kp.inv (e2.kp.inv hI0)
  cases e : (prs tx l 201 0 S00).1 with
  | some p =>
    rw [e] at g1
    have hp : ¬ fV (some p) = -4 := by
      rw [e] at e1
      have : p < 2 ^ 31 := by
        have key : ∀ (M a : Nat) (S : PSt) (p : Nat), a ≤ l → (prs tx l M a S).1 = some p → p < l := by
          intro M
          induction M with
          | zero => intro a S p _ hh; cases hh
          | succ M ih =>
            intro a S p ha hh
            unfold prs at hh
            split at hh
            · cases hh
            · next hn =>
              cases ez : pone tx l a S with
              | none => rw [ez] at hh; cases hh; omega
              | some w =>
                rw [ez] at hh
                obtain ⟨p', S'⟩ := w
                obtain ⟨qq, z1, z2, z3⟩ := pone_inv ez
                obtain ⟨w1, w2, w3⟩ := rdn_bd _ _ _ (by omega) (fun _ => Nat.zero_le _) z1
                exact ih p' S' p (by omega) hh
        have := key 201 0 S00 p (Nat.zero_le _) e
        have := t1.1
        omega
      exact nI_n4b this
    rw [if_neg hp, cl_some]
    refine ⟨-2, x, y, rfl, ?_, bad⟩
    rw [g1, cl_some]
    dsimp only
    rw [if_neg hp]
  | none =>
    rw [e] at g1
    obtain ⟨hR, hV⟩ := e3 e
    have hM := g3 e
    have h4 : fV none = -4 := rfl
    obtain ⟨S, hS⟩ : ∃ S, (prs tx l 201 0 S00).2 = S := ⟨_, rfl⟩
    rw [hS] at hR hV hM
    obtain ⟨ns, nb, mu, we, n, ln, sl, pr, st, kd, wh, fr, to⟩ := S
    obtain ⟨p1, p2, p3, p4, p5, p6, p7, p8, p9, pa, pb, pc⟩ := id hV
    rw [if_pos h4, hR.1, hR.2.2.1]
    have z0 : ∀ m : Nat, m ≤ 6 → (nI m = 0 ↔ m = 0) := fun m hm => nI_sm (b := 0) (by omega) (by omega)
    by_cases c1 : ns = 0
    · rw [if_pos ((z0 ns p1).mpr c1), cl_some]
      refine ⟨-2, x, y, rfl, ?_, bad⟩
      rw [g1, cl_some]
      dsimp only
      rw [if_pos h4, show ld y 135 0 = nI ns from hM.1, if_pos ((z0 ns p1).mpr c1)]
    · rw [if_neg (fun z => c1 ((z0 ns p1).mp z))]
      by_cases c2 : nb = 0
      · rw [if_pos ((z0 nb p2).mpr c2), cl_some]
        refine ⟨-2, x, y, rfl, ?_, bad⟩
        rw [g1, cl_some]
        dsimp only
        rw [if_pos h4, show ld y 135 0 = nI ns from hM.1, if_neg (fun z => c1 ((z0 ns p1).mp z)), show ld y 135 1 = nI nb from hM.2.1, if_pos ((z0 nb p2).mpr c2)]
      · rw [if_neg (fun z => c2 ((z0 nb p2).mp z))]
        obtain ⟨a, b, g, l1, l2, l3, l4, l5, l6, l7, l8, l9, la, lb, _, lc⟩ := laidC hV (by omega) (by omega) hR
        rw [l1, cl_some, l2, cl_some, nm_eq, nm_eq, nm_eq, l3, cl_some, cl_some, l4]
        have gx : ∀ z, 132 < z → g.1 z = h.1 z := fun z hz => by rw [l5 z (by omega), e2.1 z (by omega)]
        obtain ⟨y2, d1, d2, d3⟩ := faultM t1 (hmk g gx)
        have hM2 := d3 e
        rw [e] at d1
        rw [hS] at hM2
        obtain ⟨m, b1, b2, b3, b4, b5, b6, b7, b8, b9⟩ := beginsM y2
        have hU : RU (m.1 134) (ns, nb, mu, we, n, ln, sl, pr, st, kd, wh, fr, to) := hM2.ru hV b2
        have hB : TM (m.1 136) n wh fr to := hM2.tm hV b3
        have mg : ∀ z, z < 133 → m.1 z = g.1 z := fun z hz => by rw [b7 z (by omega) (by omega) (by omega), d2.1 z (by omega) (by omega) (by omega) (by omega)]
        have m2 : m.2 = g.2 := by rw [b9, d2.2.2]
        have hc := lc m (fun z hz => mg z (by omega)) (by rw [m2]) hU hB
        obtain ⟨_, _, _, _, u4, u5, _⟩ := u
        obtain ⟨_, _, _, _, k4, _⟩ := k
        have e34 : m.2 34 = h.2 34 := by rw [m2, lb 34 (by omega), e2.2]
        have e68 : m.2 68 = h.2 68 := by rw [m2, lb 68 (by omega), e2.2]
        refine ⟨_, g, m, rfl, ?_, inv_new hc (t.of ?_ ?_ ?_ ?_) ?_ ?_ ?_ b4 b5 b6 (by rw [e34]; exact u4) (by rw [e34]; exact u5) (by rw [e68]; exact k4)⟩
        · rw [d1, cl_some]
          dsimp only
          rw [if_pos h4, show ld y2 135 0 = nI ns from hM2.1, if_neg (fun z => c1 ((z0 ns p1).mp z)), show ld y2 135 1 = nI nb from hM2.2.1, if_neg (fun z => c2 ((z0 nb p2).mp z)), b1, cl_some, yardsOf_eq (hU.hv hV (by omega) (by omega)).1 rfl, cl_some]
        · rw [mg 0 (by omega), l7 1 (by decide), e2.1 0 (by omega)]
        · rw [mg 1 (by omega), l6, e2.1 1 (by omega)]
        · rw [b8 9 (by decide) (by decide) (by decide), d2.2.1 9 (by decide), gx 133 (by omega)]
        · rw [b7 140 (by decide) (by decide) (by decide), d2.1 140 (by decide) (by decide) (by decide) (by decide), gx 140 (by omega)]
        · rw [mg 0 (by omega)]; exact l8
        · rw [mg 33 (by omega)]; exact l9
        · rw [mg 67 (by omega)]; exact la
