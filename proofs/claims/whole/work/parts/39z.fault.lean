def S00 : PSt := (0, 0, 1, 0, 0, fun _ => 0, fun _ => 0, fun _ => 1, fun _ => 0, fun _ => 0, fun _ => 0, fun _ => 0, fun _ => 0)
theorem S00_ok : PVl S00 := ⟨by decide, by decide, by decide, by decide, by decide, by decide, by decide, fun i hi => absurd hi (Nat.not_lt_zero i), fun i => ⟨Nat.le_refl _, show (1 : Nat) ≤ 9 by decide⟩, fun _ _ => rfl, fun i hi => absurd hi (Nat.not_lt_zero i), fun i hi => absurd hi (Nat.not_lt_zero i)⟩
theorem cleanM1 (x : HP) : F_X9_clean 133 x = F_X9_clean_J21 133 (sa x 135 (fa_fill (fun _ => 0) (x.1 135) 34)) := by
  unfold F_X9_clean F_X9_clean_L2
  simp only [Nat.reduceAdd]
  refine lp_seq' (fun k => (nI k, sa x 135 (fa_fill (fun _ => 0) (x.1 135) k))) 34 (fu (by decide)) ?_ (fun k hk rc => ?_) (fun rc => ?_)
  · rw [fa_fill_0, sa_self]
    rfl
  · dsimp only
    rw [if_neg (show ¬ (34 : Int32) ≤ nI k from nI_ge (b := 34) hk (by decide)), gd_ok hk (by decide), nm_eq, st_sa (by omega), sa_sa, sa_r, nI_1, fa_fill_succ (fun _ => (0 : Int32))]
  · exact if_pos (show (34 : Int32) ≤ nI 34 by decide)
theorem cleanM2 (y : HP) : F_X9_clean_J21 133 y = F_X9_clean_J42 133 (sa y 137 (fa_fill (fun _ => 0) (y.1 137) 31)) := by
  unfold F_X9_clean_J21 F_X9_clean_L23
  simp only [Nat.reduceAdd]
  refine lp_seq' (fun k => (nI k, sa y 137 (fa_fill (fun _ => 0) (y.1 137) k))) 31 (fu (by decide)) ?_ (fun k hk rc => ?_) (fun rc => ?_)
  · rw [fa_fill_0, sa_self]
    rfl
  · dsimp only
    rw [if_neg (show ¬ (31 : Int32) ≤ nI k from nI_ge (b := 31) hk (by decide)), gd_ok hk (by decide), nm_eq, st_sa (by omega), sa_sa, sa_r, nI_1, fa_fill_succ (fun _ => (0 : Int32))]
  · exact if_pos (show (31 : Int32) ≤ nI 31 by decide)
theorem cleanM3 (y : HP) : F_X9_clean_J42 133 y = some (sa y 135 (fun i => if 16 ≤ i ∧ i < 16 + 6 then 1 else upd (y.1 135) 2 1 i)) := by
  unfold F_X9_clean_J42 F_X9_clean_L51
  simp only [Nat.reduceAdd]
  rw [nm_eq, show st y 135 2 1 = sa y 135 (upd (y.1 135) 2 1) from rfl]
  refine lp_seq' (fun k => (nI k, sa y 135 (fun i => if 16 ≤ i ∧ i < 16 + k then 1 else upd (y.1 135) 2 1 i))) 6 (fu (by decide)) ?_ (fun k hk rc => ?_) (fun rc => ?_)
  · have h0 : (fun i => if 16 ≤ i ∧ i < 16 + 0 then (1 : Int32) else upd (y.1 135) 2 1 i) = upd (y.1 135) 2 1 := by
      funext i
      rw [if_neg (by omega)]
    rw [h0]
    rfl
  · have hrow : upd (fun i => if 16 ≤ i ∧ i < 16 + k then (1 : Int32) else upd (y.1 135) 2 1 i) (16 + k) 1 = (fun i => if 16 ≤ i ∧ i < 16 + (k + 1) then 1 else upd (y.1 135) 2 1 i) := by
      funext i
      by_cases e : i = 16 + k
      · subst e
        rw [upd_r, if_pos (by omega)]
      · rw [upd_n e]
        by_cases e2 : 16 ≤ i ∧ i < 16 + k
        · rw [if_pos e2, if_pos (by omega)]
        · rw [if_neg e2, if_neg (by omega)]
    dsimp only
    rw [if_neg (show ¬ (6 : Int32) ≤ nI k from nI_ge (b := 6) hk (by decide)), lad.2.2.2.2.1, gd_ok (by omega) (by decide), nm_eq, st_sa (by omega), sa_sa, sa_r, nI_1, hrow]
  · exact if_pos (show (6 : Int32) ≤ nI 6 by decide)
theorem cleanM (x : HP) : ∃ x', F_X9_clean 133 x = some x' ∧ FK x x' ∧ (∀ i, i < 34 → x'.1 135 i = if i = 2 ∨ (16 ≤ i ∧ i < 22) then 1 else 0) ∧ ∀ i, i < 31 → x'.1 137 i = 0 := by
  rw [cleanM1, cleanM2, cleanM3]
  refine ⟨_, rfl, ⟨fun y y1 y2 => ?_, rfl⟩, fun i hi => ?_, fun i hi => ?_⟩
  · rw [sa_n y1, sa_n y2, sa_n y1]
  · rw [sa_r, sa_n (by decide), sa_r]
    by_cases c1 : 16 ≤ i ∧ i < 16 + 6
    · rw [if_pos c1, if_pos (Or.inr (by omega))]
    · rw [if_neg c1]
      by_cases c2 : i = 2
      · subst c2
        rw [upd_r, if_pos (Or.inl rfl)]
      · rw [upd_n c2, fa_fill_in hi, if_neg (by omega)]
  · rw [sa_n (by decide), sa_r, fa_fill_in hi]
theorem faultC {h : HP} {tx : Nat → Nat} {l : Nat} (ht : TX tx l) (hh : ∀ i, i < l → h.1 1 i = nI (tx i)) : ∃ x', F_X4_firstFault 2 1 (nI l) h = some (fV (prs tx l 201 0 S00).1, x') ∧ FL h x' ∧ ((prs tx l 201 0 S00).1 = none → RCl x' (prs tx l 201 0 S00).2 ∧ PVl (prs tx l 201 0 S00).2) := by
  have hl := ht.1
  unfold F_X4_firstFault F_X1_clear
  simp only [Nat.reduceAdd, nm_eq, cl_some, ui_sa, sa_sa, sa_r]
  generalize hg : sa (sa h 3 (upd (upd (upd (upd (upd (h.1 3) 0 0) 1 0) 2 0) 3 1) 4 0)) 10 (upd ((sa h 3 (upd (upd (upd (upd (upd (h.1 3) 0 0) 1 0) 2 0) 3 1) 4 0)).1 10) 0 0) = g
  have f : FL h g := by rw [← hg]; exact (fl_sa (by omega)).trans (fl_sa (by omega))
  have g3 : g.1 3 = upd (upd (upd (upd (upd (h.1 3) 0 0) 1 0) 2 0) 3 1) 4 0 := by rw [← hg, sa_n (by decide), sa_r]
  have hR : RCl g S00 := by
    refine ⟨?_, ?_, ?_, ?_, ?_, fun i hi => absurd hi (Nat.not_lt_zero i), fun i hi => absurd hi (Nat.not_lt_zero i), ?_, fun i hi => absurd hi (Nat.not_lt_zero i)⟩
    · rw [g3, upd_n (by decide), upd_n (by decide), upd_n (by decide), upd_n (by decide), upd_r]; rfl
    · rw [g3, upd_n (by decide), upd_n (by decide), upd_n (by decide), upd_r]; rfl
    · rw [g3, upd_n (by decide), upd_n (by decide), upd_r]; rfl
    · rw [g3, upd_n (by decide), upd_r]; rfl
    · rw [g3, upd_r]; rfl
    · rw [← hg, sa_r, upd_r]; rfl
  obtain ⟨x', e1, e2, e3⟩ := readC ht hh l 0 sg_fuel 201 S00 g (by omega) (fu (by omega)) (by omega) S00_ok hR f
  refine ⟨x', ?_, e2, e3⟩
  have e0 : F_X4_firstFault_L17 2 1 (nI l) sg_fuel (0, g) = _ := e1
  rw [e0]
  cases (prs tx l 201 0 S00).1 <;> rfl
theorem faultM {h : HP} {tx : Nat → Nat} {l : Nat} (ht : TX tx l) (hm : MT h tx l) : ∃ x', F_X9_fault 133 h = some (fV (prs tx l 201 0 S00).1, x') ∧ FH h x' ∧ ((prs tx l 201 0 S00).1 = none → RMd x' (prs tx l 201 0 S00).2) := by
  have hl := ht.1
  obtain ⟨x1, c1, c2, c3, c4⟩ := cleanM h
  unfold F_X9_fault
  rw [c1, cl_some, nm_eq]
  have f : FG x1 (ui x1 133 12 0) := fg_ui
  have a1 : (ui x1 133 12 0).1 133 12 = nI 0 := by rw [ui_sa, sa_r, upd_r]; rfl
  generalize ui x1 133 12 0 = g at *
  have hR : RMd g S00 := by
    have e5 : g.1 135 = x1.1 135 := f.1 135 (by decide) (by decide)
    have e7 : g.1 137 = x1.1 137 := f.1 137 (by decide) (by decide)
    refine ⟨?_, ?_, ?_, ?_, fun i hi => absurd hi (Nat.not_lt_zero i), fun i hi => ?_, fun i hi => absurd hi (Nat.not_lt_zero i), ?_, fun i hi => absurd hi (Nat.not_lt_zero i)⟩
    · rw [e5, c3 0 (by decide)]; rfl
    · rw [e5, c3 1 (by decide)]; rfl
    · rw [e5, c3 2 (by decide)]; rfl
    · rw [e5, c3 3 (by decide)]; rfl
    · rw [e5, c3 (16 + i) (by omega), if_pos (by omega)]; rfl
    · rw [e7, c4 0 (by decide)]; rfl
  exact readM ht hm l 0 sg_fuel 201 S00 g (by omega) (fu (by omega)) (by omega) S00_ok hR a1 (c2.fh.trans f.fh)
theorem Txt.tx {h : HP} (t : Txt h) : ∃ tx l, TX tx l ∧ h.1 0 1 = nI l ∧ (∀ i, i < l → h.1 1 i = nI (tx i)) ∧ MT h tx l := by
  obtain ⟨l, l1, l2, l3, l4⟩ := t
  have key : ∀ i, i < l → h.1 140 i = nI (h.1 140 i).toNatClampNeg ∧ 32 ≤ (h.1 140 i).toNatClampNeg ∧ (h.1 140 i).toNatClampNeg ≤ 126 := fun i hi => by
    obtain ⟨_, c, c1, c2, c3⟩ := l4 i hi
    rw [c1, nI_clamp (by omega)]
    exact ⟨rfl, c2, c3⟩
  exact ⟨fun i => (h.1 140 i).toNatClampNeg, l, ⟨l1, fun i hi => (key i hi).2⟩, l2, fun i hi => (l4 i hi).1.trans (key i hi).1, l3, fun i hi => (key i hi).1⟩
theorem step_fault (h : HP) (hI : Inv h) : ∃ (r : Int32) (h1 h2 : HP), F_X8_fault 0 h = some (r, h1) ∧ F_X9_fault 133 h1 = some (r, h2) ∧ Inv h2 := by
  have hI0 := hI
  obtain ⟨nb, ns, ln, n, wh, fr, to, c, t, u, k, q⟩ := hI
  obtain ⟨tx, l, t1, t2, t3, t4⟩ := t.tx
  obtain ⟨h1, e1, e2, _⟩ := faultC t1 t3
  have hm1 : MT h1 tx l := ⟨by rw [e2.1 133 (by omega)]; exact t4.1, fun i hi => by rw [e2.1 140 (by omega)]; exact t4.2 i hi⟩
  obtain ⟨h2, g1, g2, _⟩ := faultM t1 hm1
  refine ⟨_, h1, h2, ?_, g1, g2.kp.inv (e2.kp.inv hI0)⟩
  unfold F_X8_fault
  simp only [Nat.reduceAdd]
  rw [t2, e1, cl_some]
