def itG (c : Int32) (h17 : HP) : Option (Int32 × HP) :=
  (if c = 98 then
  cl (F_X9_takesBearer 133 h17) (fun p86 =>
  some (p86.1, p86.2))
  else
  (if c = 109 then
  cl (F_X9_takesOne 133 2 1 3 h17) (fun p94 =>
  some (p94.1, p94.2))
  else
  (if c = 114 then
  cl (F_X9_takesOne 133 3 0 3 h17) (fun p102 =>
  some (p102.1, p102.2))
  else
  (if c = 115 then
  cl (F_X9_takesStretch 133 h17) (fun p81 =>
  some (p81.1, p81.2))
  else
  (if c = 116 then
  cl (F_X9_takesTurns 133 h17) (fun p107 =>
  some (p107.1, p107.2))
  else
  (if c = 120 then
  cl (F_X9_takesPrice 133 h17) (fun p112 =>
  some (p112.1, p112.2))
  else
  some (0, h17)))))))
theorem c_iff {c : Nat} (hc : c ≤ 1000) : (nI c = 98 ↔ c = 98) ∧ (nI c = 109 ↔ c = 109) ∧ (nI c = 114 ↔ c = 114) ∧ (nI c = 115 ↔ c = 115) ∧ (nI c = 116 ↔ c = 116) ∧ (nI c = 120 ↔ c = 120) := ⟨nI_sm (b := 98) hc (by omega), nI_sm (b := 109) hc (by omega), nI_sm (b := 114) hc (by omega), nI_sm (b := 115) hc (by omega), nI_sm (b := 116) hc (by omega), nI_sm (b := 120) hc (by omega)⟩
theorem itG_no {x x2 : HP} {c : Nat} (hc : c ≤ 1000) (hw : 1 ≤ wof c) (ht : F_X9_takes 133 (nI (wof c)) x = some (0, x2)) : itG (nI c) x = some (0, x2) := by
  obtain ⟨k1, k2, k3, k4, k5, k6⟩ := c_iff hc
  unfold itG
  simp only [k1, k2, k3, k4, k5, k6]
  by_cases c1 : c = 98
  · subst c1
    have t : F_X9_takes 133 2 x = some (0, x2) := ht
    rw [if_pos rfl]
    unfold F_X9_takesBearer
    rw [t, cl_some, if_pos rfl, cl_some]
  rw [if_neg c1]
  by_cases c2 : c = 109
  · subst c2
    have t : F_X9_takes 133 1 x = some (0, x2) := ht
    rw [if_pos rfl]
    unfold F_X9_takesOne
    rw [t, cl_some, if_pos rfl, cl_some]
  rw [if_neg c2]
  by_cases c3 : c = 114
  · subst c3
    have t : F_X9_takes 133 1 x = some (0, x2) := ht
    rw [if_pos rfl]
    unfold F_X9_takesOne
    rw [t, cl_some, if_pos rfl, cl_some]
  rw [if_neg c3]
  by_cases c4 : c = 115
  · subst c4
    have t : F_X9_takes 133 2 x = some (0, x2) := ht
    rw [if_pos rfl]
    unfold F_X9_takesStretch
    rw [t, cl_some, if_pos rfl, cl_some]
  rw [if_neg c4]
  by_cases c5 : c = 116
  · subst c5
    have t : F_X9_takes 133 3 x = some (0, x2) := ht
    rw [if_pos rfl]
    unfold F_X9_takesTurns
    rw [t, cl_some, if_pos rfl, cl_some]
  rw [if_neg c5]
  by_cases c6 : c = 120
  · subst c6
    have t : F_X9_takes 133 2 x = some (0, x2) := ht
    rw [if_pos rfl]
    unfold F_X9_takesPrice
    rw [t, cl_some, if_pos rfl, cl_some]
  unfold wof at hw
  rw [if_neg c1, if_neg c2, if_neg c3, if_neg c4, if_neg c5, if_neg c6] at hw
  omega
theorem itG_yes {x x2 : HP} {c : Nat} {v : Nat → Nat} {S : PSt} (hc : c ≤ 1000) (hw : 1 ≤ wof c) (hV : PVl S) (hR : RMd x2 S) (hv : ∀ j, v j ≤ 99) (ht : F_X9_takes 133 (nI (wof c)) x = some (1, x2)) (hx : ∀ j, j < wof c → x2.1 142 j = nI (v j)) : ∃ x', FK x2 x' ∧ (pit c v S = none → itG (nI c) x = some (0, x')) ∧ ∀ S', pit c v S = some S' → itG (nI c) x = some (1, x') ∧ RMd x' S' := by
  obtain ⟨k1, k2, k3, k4, k5, k6⟩ := c_iff hc
  obtain ⟨ns, nb, mu, we, n, ln, sl, pr, st, kd, wh, fr, to⟩ := S
  obtain ⟨p1, p2, p3, p4, p5, p6, p7, p8, p9, pa, pb, pc⟩ := id hV
  unfold itG pit
  simp only [k1, k2, k3, k4, k5, k6]
  by_cases c1 : c = 98
  · rw [if_pos c1, if_pos c1]
    subst c1
    obtain ⟨x', e1, e2, e3⟩ := takB ht (hx 0 (by decide)) (hx 1 (by decide)) (hv 0) (hv 1) p2 p1 hR
    rw [e1, cl_some]
    refine ⟨x', e3, fun h => ?_, fun S' h => ?_⟩
    · split at h
      · cases h
      · next hn => rw [if_neg hn]
    · split at h
      · next hn => cases h; rw [if_pos hn]; exact ⟨rfl, e2 hn⟩
      · cases h
  rw [if_neg c1, if_neg c1]
  by_cases c2 : c = 109
  · rw [if_pos c2, if_pos c2]
    subst c2
    have e1 : F_X9_takesOne 133 2 1 3 x = _ := takO (r := 2) (l := 1) (m := 3) ht (hx 0 (by decide)) (hv 0) (by omega) (by omega) (by omega)
    rw [e1, cl_some]
    obtain ⟨r1, r2, r3, r4, r5, r6, r7, r8, r9⟩ := hR
    by_cases hn : 1 ≤ v 0 ∧ v 0 ≤ 3
    · rw [if_pos hn, if_pos hn, if_pos hn]
      refine ⟨sa x2 135 (upd (x2.1 135) 2 (nI (v 0))), fk_sa (Or.inl rfl), fun h => (by cases h), fun S' h => ?_⟩
      cases h
      refine ⟨rfl, ?_, ?_, ?_, ?_, fun i hi => ?_, fun i hi => ?_, fun i hi => ?_, ?_, ?_⟩
      · simp (disch := omega) only [gd_ok, ld_nI, st_sa, nm_eq, cl_some, sa_sa, sa_r, sa_n, sa_2, nI_1, ui_sa, upd_r, upd_n, b01, Nat.reduceAdd, r1]
      · simp (disch := omega) only [gd_ok, ld_nI, st_sa, nm_eq, cl_some, sa_sa, sa_r, sa_n, sa_2, nI_1, ui_sa, upd_r, upd_n, b01, Nat.reduceAdd, r2]
      · simp (disch := omega) only [gd_ok, ld_nI, st_sa, nm_eq, cl_some, sa_sa, sa_r, sa_n, sa_2, nI_1, ui_sa, upd_r, upd_n, b01, Nat.reduceAdd, r3]
      · simp (disch := omega) only [gd_ok, ld_nI, st_sa, nm_eq, cl_some, sa_sa, sa_r, sa_n, sa_2, nI_1, ui_sa, upd_r, upd_n, b01, Nat.reduceAdd, r4]
      · simp (disch := omega) only [gd_ok, ld_nI, st_sa, nm_eq, cl_some, sa_sa, sa_r, sa_n, sa_2, nI_1, ui_sa, upd_r, upd_n, b01, Nat.reduceAdd]
        exact r5 i hi
      · simp (disch := omega) only [gd_ok, ld_nI, st_sa, nm_eq, cl_some, sa_sa, sa_r, sa_n, sa_2, nI_1, ui_sa, upd_r, upd_n, b01, Nat.reduceAdd]
        exact r6 i hi
      · simp (disch := omega) only [gd_ok, ld_nI, st_sa, nm_eq, cl_some, sa_sa, sa_r, sa_n, sa_2, nI_1, ui_sa, upd_r, upd_n, b01, Nat.reduceAdd]
        exact r7 i hi
      · simp (disch := omega) only [gd_ok, ld_nI, st_sa, nm_eq, cl_some, sa_sa, sa_r, sa_n, sa_2, nI_1, ui_sa, upd_r, upd_n, b01, Nat.reduceAdd, r8]
      · simp (disch := omega) only [gd_ok, ld_nI, st_sa, nm_eq, cl_some, sa_sa, sa_r, sa_n, sa_2, nI_1, ui_sa, upd_r, upd_n, b01, Nat.reduceAdd]
        exact r9
    · rw [if_neg hn, if_neg hn, if_neg hn]
      exact ⟨x2, FK.rf, fun _ => rfl, fun S' h => by cases h⟩
  rw [if_neg c2, if_neg c2]
  by_cases c3 : c = 114
  · rw [if_pos c3, if_pos c3]
    subst c3
    have e1 : F_X9_takesOne 133 3 0 3 x = _ := takO (r := 3) (l := 0) (m := 3) ht (hx 0 (by decide)) (hv 0) (by omega) (by omega) (by omega)
    rw [e1, cl_some]
    obtain ⟨r1, r2, r3, r4, r5, r6, r7, r8, r9⟩ := hR
    by_cases hn : v 0 ≤ 3
    · have hn2 : 0 ≤ v 0 ∧ v 0 ≤ 3 := ⟨Nat.zero_le _, hn⟩
      rw [if_pos hn2, if_pos hn2, if_pos hn]
      refine ⟨sa x2 135 (upd (x2.1 135) 3 (nI (v 0))), fk_sa (Or.inl rfl), fun h => (by cases h), fun S' h => ?_⟩
      cases h
      refine ⟨rfl, ?_, ?_, ?_, ?_, fun i hi => ?_, fun i hi => ?_, fun i hi => ?_, ?_, ?_⟩
      · simp (disch := omega) only [gd_ok, ld_nI, st_sa, nm_eq, cl_some, sa_sa, sa_r, sa_n, sa_2, nI_1, ui_sa, upd_r, upd_n, b01, Nat.reduceAdd, r1]
      · simp (disch := omega) only [gd_ok, ld_nI, st_sa, nm_eq, cl_some, sa_sa, sa_r, sa_n, sa_2, nI_1, ui_sa, upd_r, upd_n, b01, Nat.reduceAdd, r2]
      · simp (disch := omega) only [gd_ok, ld_nI, st_sa, nm_eq, cl_some, sa_sa, sa_r, sa_n, sa_2, nI_1, ui_sa, upd_r, upd_n, b01, Nat.reduceAdd, r3]
      · simp (disch := omega) only [gd_ok, ld_nI, st_sa, nm_eq, cl_some, sa_sa, sa_r, sa_n, sa_2, nI_1, ui_sa, upd_r, upd_n, b01, Nat.reduceAdd, r4]
      · simp (disch := omega) only [gd_ok, ld_nI, st_sa, nm_eq, cl_some, sa_sa, sa_r, sa_n, sa_2, nI_1, ui_sa, upd_r, upd_n, b01, Nat.reduceAdd]
        exact r5 i hi
      · simp (disch := omega) only [gd_ok, ld_nI, st_sa, nm_eq, cl_some, sa_sa, sa_r, sa_n, sa_2, nI_1, ui_sa, upd_r, upd_n, b01, Nat.reduceAdd]
        exact r6 i hi
      · simp (disch := omega) only [gd_ok, ld_nI, st_sa, nm_eq, cl_some, sa_sa, sa_r, sa_n, sa_2, nI_1, ui_sa, upd_r, upd_n, b01, Nat.reduceAdd]
        exact r7 i hi
      · simp (disch := omega) only [gd_ok, ld_nI, st_sa, nm_eq, cl_some, sa_sa, sa_r, sa_n, sa_2, nI_1, ui_sa, upd_r, upd_n, b01, Nat.reduceAdd, r8]
      · simp (disch := omega) only [gd_ok, ld_nI, st_sa, nm_eq, cl_some, sa_sa, sa_r, sa_n, sa_2, nI_1, ui_sa, upd_r, upd_n, b01, Nat.reduceAdd]
        exact r9
    · have hn2 : ¬ (0 ≤ v 0 ∧ v 0 ≤ 3) := fun z => hn z.2
      rw [if_neg hn2, if_neg hn2, if_neg hn]
      exact ⟨x2, FK.rf, fun _ => rfl, fun S' h => by cases h⟩
  rw [if_neg c3, if_neg c3]
  by_cases c4 : c = 115
  · rw [if_pos c4, if_pos c4]
    subst c4
    obtain ⟨x', e1, e2, e3⟩ := takS ht (hx 0 (by decide)) (hx 1 (by decide)) (hv 0) (hv 1) p2 p1 p7 hR
    rw [e1, cl_some]
    refine ⟨x', e3, fun h => ?_, fun S' h => ?_⟩
    · split at h
      · cases h
      · next hn => rw [if_neg hn]
    · split at h
      · next hn => cases h; rw [if_pos hn]; exact ⟨rfl, e2 hn⟩
      · cases h
  rw [if_neg c4, if_neg c4]
  by_cases c5 : c = 116
  · rw [if_pos c5, if_pos c5]
    subst c5
    obtain ⟨x', e1, e2, e3⟩ := takT ht (hx 0 (by decide)) (hx 1 (by decide)) (hx 2 (by decide)) (hv 0) (hv 1) (hv 2) p2 p6 hR
    rw [e1, cl_some]
    refine ⟨x', e3, fun h => ?_, fun S' h => ?_⟩
    · split at h
      · cases h
      · next hn => rw [if_neg hn]
    · split at h
      · next hn => cases h; rw [if_pos hn]; exact ⟨rfl, e2 hn⟩
      · cases h
  rw [if_neg c5, if_neg c5]
  by_cases c6 : c = 120
  · rw [if_pos c6, if_pos c6]
    subst c6
    obtain ⟨x', e1, e2, e3⟩ := takP ht (hx 0 (by decide)) (hx 1 (by decide)) (hv 0) (hv 1) p1 p2 hR
    rw [e1, cl_some]
    refine ⟨x', e3, fun h => ?_, fun S' h => ?_⟩
    · split at h
      · cases h
      · next hn => rw [if_neg hn]
    · split at h
      · next hn => cases h; rw [if_pos hn]; exact ⟨rfl, e2 hn⟩
      · cases h
  unfold wof at hw
  rw [if_neg c1, if_neg c2, if_neg c3, if_neg c4, if_neg c5, if_neg c6] at hw
  omega
def FH (x x' : HP) : Prop := (∀ y, y ≠ 133 → y ≠ 135 → y ≠ 137 → y ≠ 142 → x'.1 y = x.1 y) ∧ (∀ j, j ≠ 12 → x'.1 133 j = x.1 133 j) ∧ x'.2 = x.2
theorem FH.rf {h : HP} : FH h h := ⟨fun _ _ _ _ _ => rfl, fun _ _ => rfl, rfl⟩
theorem FH.trans {h1 h2 h3 : HP} (p : FH h1 h2) (q : FH h2 h3) : FH h1 h3 := ⟨fun x a b c d => (q.1 x a b c d).trans (p.1 x a b c d), fun j hj => (q.2.1 j hj).trans (p.2.1 j hj), q.2.2.trans p.2.2⟩
theorem FG.fh {h h' : HP} (p : FG h h') : FH h h' := ⟨fun x a b c d => p.1 x a d, p.2.1, p.2.2⟩
theorem FK.fh {h h' : HP} (p : FK h h') : FH h h' := ⟨fun x a b c d => p.1 x b c, fun j hj => by rw [p.1 133 (by decide) (by decide)], p.2⟩
theorem FH.kp {h h' : HP} (p : FH h h') : Kp h h' := ⟨fun x hx => p.1 x (by unfold Pz at hx; omega) (by unfold Pz at hx; omega) (by unfold Pz at hx; omega) (by unfold Pz at hx; omega), fun j hj => p.2.1 j (by omega), fun x hx => by rw [p.2.2]⟩
theorem FL.kp {h h' : HP} (p : FL h h') : Kp h h' := ⟨fun x hx => p.1 x (by unfold Pz at hx; omega), fun j hj => by rw [p.1 133 (by omega)], fun x hx => by rw [p.2]⟩
theorem MT.fh {x x' : HP} {tx : Nat → Nat} {l : Nat} (m : MT x tx l) (f : FH x x') : MT x' tx l := ⟨by rw [f.2.1 9 (by decide)]; exact m.1, fun i hi => by rw [f.1 140 (by decide) (by decide) (by decide) (by decide)]; exact m.2 i hi⟩
theorem itemM {x : HP} {tx : Nat → Nat} {l p : Nat} {S : PSt} (ht : TX tx l) (hm : MT x tx l) (ha : x.1 133 12 = nI p) (hp : p < l) (hV : PVl S) (hR : RMd x S) : ∃ x', FH x x' ∧ (pone tx l p S = none → F_X9_takesItem 133 x = some (0, x')) ∧ ∀ p' S', pone tx l p S = some (p', S') → F_X9_takesItem 133 x = some (1, x') ∧ x'.1 133 12 = nI p' ∧ RMd x' S' ∧ PVl S' ∧ p < p' ∧ p' ≤ l := by
  have hl := ht.1
  have t := ht.2 p hp
  have e0 : F_X9_takesItem 133 x = itG (nI (tx p)) (ui x 133 12 (nI (p + 1))) := by
    unfold F_X9_takesItem
    simp only [Nat.reduceAdd]
    rw [ha, gd_ok (by omega) (by decide), nm_eq, nm_eq, ld_nI (by omega), hm.2 p hp, nI_1]
    rfl
  rw [e0]
  have f1 : FG x (ui x 133 12 (nI (p + 1))) := fg_ui
  have a1 : (ui x 133 12 (nI (p + 1))).1 133 12 = nI (p + 1) := by rw [ui_sa, sa_r, upd_r]
  generalize ui x 133 12 (nI (p + 1)) = x1 at *
  have hR1 : RMd x1 S := hR.of (f1.1 135 (by decide) (by decide)) (f1.1 137 (by decide) (by decide))
  by_cases hw0 : wof (tx p) = 0
  · have e1 : pone tx l p S = none := by
      refine pone_no (q := (p + 1, v00)) ?_ (pit_0 hw0)
      rw [hw0]
      rfl
    refine ⟨x1, f1.fh, fun _ => ?_, fun p' S' h => ?_⟩
    · obtain ⟨k1, k2, k3, k4, k5, k6⟩ := c_iff (c := tx p) (by omega)
      have c1 : ¬ tx p = 98 := fun z => by rw [z] at hw0; exact absurd hw0 (by decide)
      have c2 : ¬ tx p = 109 := fun z => by rw [z] at hw0; exact absurd hw0 (by decide)
      have c3 : ¬ tx p = 114 := fun z => by rw [z] at hw0; exact absurd hw0 (by decide)
      have c4 : ¬ tx p = 115 := fun z => by rw [z] at hw0; exact absurd hw0 (by decide)
      have c5 : ¬ tx p = 116 := fun z => by rw [z] at hw0; exact absurd hw0 (by decide)
      have c6 : ¬ tx p = 120 := fun z => by rw [z] at hw0; exact absurd hw0 (by decide)
      unfold itG
      simp only [k1, k2, k3, k4, k5, k6, c1, c2, c3, c4, c5, c6, if_false]
    · rw [e1] at h
      cases h
  · obtain ⟨x2, f2, r1, r2⟩ := numsM ht (wof_le (c := tx p)) (by omega) (wof (tx p)) (p + 1) v00 x1 sg_fuel (Nat.le_refl _) (by have := wof_le (c := tx p); exact fu (by omega)) (by omega) (hm.of f1) a1 (fun j hj => absurd hj (by omega))
    rw [Nat.sub_self] at r1 r2
    have hR2 : RMd x2 S := hR1.of (f2.1 135 (by decide) (by decide)) (f2.1 137 (by decide) (by decide))
    cases e : rdn tx l (wof (tx p)) (wof (tx p)) (p + 1) v00 with
    | none =>
      refine ⟨x2, (f1.trans f2).fh, fun _ => itG_no (by omega) (by omega) (r1 e), fun p' S' h => ?_⟩
      rw [pone_none e] at h
      cases h
    | some q =>
      obtain ⟨r3, r4, r5⟩ := r2 q e
      obtain ⟨q1, q2, q3⟩ := rdn_bd _ _ _ (by omega) (fun _ => Nat.zero_le _) e
      obtain ⟨x', t1, t2, t3⟩ := itG_yes (c := tx p) (v := q.2) (by omega) (by omega) hV hR2 q3 r3 r5
      refine ⟨x', (f1.trans f2).fh.trans t1.fh, fun h => ?_, fun p' S' h => ?_⟩
      · cases e2 : pit (tx p) q.2 S with
        | none => exact t2 e2
        | some S' => rw [pone_yes e e2] at h; cases h
      · obtain ⟨q', g1, g2, g3⟩ := pone_inv h
        rw [e] at g1
        cases g1
        obtain ⟨t4, t5⟩ := t3 S' g2
        refine ⟨t4, ?_, t5, pit_ok hV q3 g2, by omega, by omega⟩
        rw [t1.1 133 (by decide) (by decide), r4, g3]
theorem readM {h : HP} {tx : Nat → Nat} {l : Nat} (ht : TX tx l) (hm : MT h tx l) : ∀ (d p N M : Nat) (S : PSt) (x : HP), p + d = l → d < N → d < M → PVl S → RMd x S → x.1 133 12 = nI p → FH h x → ∃ x', F_X9_fault_L9 133 N x = some (fV (prs tx l M p S).1, x') ∧ FH h x' ∧ ((prs tx l M p S).1 = none → RMd x' (prs tx l M p S).2) := by
  intro d
  induction d using Nat.strongRecOn with
  | ind d ih =>
    intro p N M S x hd hN hM hV hR ha hf
    have hl := ht.1
    obtain ⟨N, rfl⟩ : ∃ K, N = K + 1 := ⟨N - 1, by omega⟩
    obtain ⟨M, rfl⟩ : ∃ K, M = K + 1 := ⟨M - 1, by omega⟩
    have hmx := hm.fh hf
    unfold prs
    by_cases c0 : l ≤ p
    · rw [if_pos c0]
      refine ⟨x, ?_, hf, fun _ => hR⟩
      unfold F_X9_fault_L9
      rw [lp_u]
      rw [hmx.1, ha, if_pos (nI_le c0 (by omega))]
      rfl
    · rw [if_neg c0]
      have hs : F_X9_fault_L9 133 (N + 1) x = cl (F_X9_takesItem 133 x) (fun p26 => (if p26.1 = 0 then some (nI p, p26.2) else F_X9_fault_L9 133 N p26.2)) := by
        unfold F_X9_fault_L9
        rw [lp_u]
        rw [hmx.1, ha, if_neg (nI_ge (by omega) (by omega)), nm_eq]
      rw [hs]
      obtain ⟨x1, g1, g2, g3⟩ := itemM ht hmx ha (by omega) hV hR
      cases e : pone tx l p S with
      | none =>
        rw [g2 e, cl_some, if_pos rfl]
        exact ⟨x1, rfl, hf.trans g1, fun z => by cases z⟩
      | some q =>
        obtain ⟨p', S'⟩ := q
        obtain ⟨g4, g5, g6, g7, g8, g9⟩ := g3 p' S' e
        rw [g4, cl_some, if_neg (show ¬ (1 : Int32) = 0 by decide)]
        exact ih (l - p') (by omega) p' N M S' x1 (by omega) (by omega) (by omega) g7 g6 g5 (hf.trans g1)
