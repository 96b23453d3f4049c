/-- what the model's orders leave as it was -/
def FO (h h' : HP) : Prop := (∀ x, x ≠ 150 → x ≠ 151 → h'.1 x = h.1 x) ∧ h'.2 = h.2
theorem FO.rf {h : HP} : FO h h := ⟨fun _ _ _ => rfl, rfl⟩
theorem FO.trans {h1 h2 h3 : HP} (p : FO h1 h2) (q : FO h2 h3) : FO h1 h3 := ⟨fun x a b => (q.1 x a b).trans (p.1 x a b), q.2.trans p.2⟩
theorem FO.kp {h h' : HP} (p : FO h h') : Kp h h' := ⟨fun x hx => p.1 x (by unfold Pz at hx; omega) (by unfold Pz at hx; omega), fun j hj => by rw [p.1 133 (by omega) (by omega)], fun x hx => by rw [p.2]⟩
/-- the model's best so far -/
def RM (most : Int32) (x : HP) (n : Nat) (V : Nat → Nat) (c : Nat) : Prop := (fo n V c = none → most = -1) ∧ ∀ v b, fo n V c = some (v, b) → most = nI v ∧ ∀ k, k < n → x.1 151 k = nI (dg n b k)
theorem RM.eq {most : Int32} {x : HP} {n : Nat} {V : Nat → Nat} {c c' : Nat} (r : RM most x n V c) (e : fo n V c' = fo n V c) : RM most x n V c' := by
  unfold RM
  rw [e]
  exact r
theorem RM.of {most : Int32} {x x' : HP} {n : Nat} {V : Nat → Nat} {c : Nat} (r : RM most x n V c) (h2 : x'.1 151 = x.1 151) : RM most x' n V c := by
  unfold RM
  rw [h2]
  exact r
theorem m1_nle {y : Nat} (h : y ≤ 200) : ¬ nI y ≤ -1 := fun z => absurd (Int32.le_trans (nI_pos' (n := y) (by omega)) z) (by decide)
/-- the loop that notes an order -/
theorem noteM {x : HP} {rc35 : (Int32 × Int32 × HP) → Option (Int32 × HP)} {x1 x2 x3 x4 x5 x6 : Int32} : ∃ x', F_X9_layFarthest_L66 133 rc35 x1 x2 x3 x4 x5 x6 sg_fuel (0, x) = rc35 (if x6 ≤ x3 then x3 else x6, x5 + 1, x') ∧ FO x x' ∧ (x6 ≤ x3 → x' = x) ∧ (¬ x6 ≤ x3 → ∀ k, k < 6 → x'.1 151 k = x.1 150 k) := by
  have hJ : ∀ z : HP, F_X9_layFarthest_J99 133 rc35 x1 x2 x3 x4 x5 x6 z = rc35 (if x6 ≤ x3 then x3 else x6, x5 + 1, z) := by
    intro z
    unfold F_X9_layFarthest_J99 F_X9_layFarthest_J111
    split <;> rfl
  unfold F_X9_layFarthest_L66
  simp only [Nat.reduceAdd]
  by_cases hc : x6 ≤ x3
  · refine ⟨x, ?_, FO.rf, fun _ => rfl, fun z => absurd hc z⟩
    refine lp_seq' (fun _ => ((0 : Int32), x)) 0 (fu (by omega)) rfl (fun k hk => absurd hk (Nat.not_lt_zero k)) (fun rc => ?_)
    dsimp only
    rw [if_neg (by decide), if_pos hc, hJ]
  · refine ⟨sa x 151 (fun k => if k < 6 then x.1 150 k else x.1 151 k), ?_, ⟨fun y a b => sa_n b, rfl⟩, fun z => absurd z hc, fun _ k hk => by rw [sa_r, if_pos hk]⟩
    refine lp_seq' (fun k => (nI k, sa x 151 (fun i => if i < k then x.1 150 i else x.1 151 i))) 6 (fu (by omega)) ?_ (fun k hk rc => ?_) (fun rc => ?_)
    · rw [sa_id (by funext i; simp)]
      rfl
    · dsimp only
      have hF : upd (fun i => if i < k then x.1 150 i else x.1 151 i) k (x.1 150 k) = (fun i => if i < k + 1 then x.1 150 i else x.1 151 i) := by
        funext i
        by_cases hi : i = k
        · subst hi
          rw [upd_r, if_pos (by omega)]
        · rw [upd_n hi]
          simp only [ltk hi]
      rw [if_neg (show ¬ 6 ≤ nI k from nI_ge (b := 6) hk (by decide)), if_neg hc, gd_ok hk (by decide), gd_ok hk (by decide), nm_eq, st_sa (by omega), sa_sa, sa_r, ld_nI (by omega), sa_n (by decide), nI_1, hF]
    · dsimp only
      rw [if_pos (by decide), hJ]
theorem farM {h : HP} {nb ns mo : Nat} {ln : Nat → Nat} {st : Int32} (v : HV (h.1 134) nb ns ln) (hm : mo ≤ 99) : ∃ most h', F_X9_layFarthest 133 st (nI mo) h = some (most, h') ∧ RM most h' nb (Vf (goA (h.1 134) ln ns st mo) nb) (6 ^ nb) ∧ FO h h' := by
  have hn := v.1.2.2.1
  have h120 : lsum ln ns ≤ 120 := v.1.2.2.2.2.2
  have hV2 : ∀ b, Vf (goA (h.1 134) ln ns st mo) nb b ≤ lsum ln ns := fun b => Vf_le nb b
  have h6 : 6 ^ nb ≤ 46656 := Nat.pow_le_pow_right (n := 6) (by decide) hn
  have l : ld h 134 1 = nI nb := v.1.2.1
  unfold F_X9_layFarthest F_X9_layFarthest_L8
  simp only [Nat.reduceAdd]
  refine lp_inv' (fun k x => x.1 = nI (6 ^ k) ∧ x.2 = nI k) (B := nb) (Q := fun r => ∃ most h', r = some (most, h') ∧ RM most h' nb (Vf (goA (h.1 134) ln ns st mo) nb) (6 ^ nb) ∧ FO h h') ?_ ?_ sg_fuel 0 (1, 0) (Nat.zero_le _) (fu (by omega)) ⟨rfl, rfl⟩
  · rintro k ⟨x1, x2⟩ rc hk ⟨rfl, rfl⟩
    left
    dsimp only
    have e6 : nI (6 ^ k) * 6 = nI (6 ^ k * 6) := pk_mul _ 6
    rw [l, if_neg (nI_ge hk (by omega)), nm_eq, e6, nI_1]
    exact ⟨_, ⟨rfl, rfl⟩, rfl⟩
  · rintro ⟨x1, x2⟩ rc ⟨rfl, rfl⟩
    dsimp only
    rw [l, if_pos (Int32.le_refl _)]
    unfold F_X9_layFarthest_J32 F_X9_layFarthest_L35
    refine lp_inv' (fun c z => z.2.1 = nI c ∧ RM z.1 z.2.2 nb (Vf (goA (h.1 134) ln ns st mo) nb) c ∧ FO h z.2.2) (B := 6 ^ nb) (Q := fun r => ∃ most h', r = some (most, h') ∧ RM most h' nb (Vf (goA (h.1 134) ln ns st mo) nb) (6 ^ nb) ∧ FO h h') ?_ ?_ sg_fuel 0 (-1, 0, h) (Nat.zero_le _) (fu (by omega)) ⟨rfl, ⟨fun _ => rfl, fun v b z => by cases z⟩, FO.rf⟩
    · rintro c ⟨z1, z2, z3⟩ rc2 hc ⟨rfl, i1, i2⟩
      left
      dsimp only at i1 i2 ⊢
      have h134 : z3.1 134 = h.1 134 := i2.1 134 (by decide) (by decide)
      obtain ⟨Q, q1, q2⟩ := layOrderM (h := z3) (n := nb) (c := c) (by rw [h134]; exact v.1.2.1) hn v.2.1 (by omega)
      have f1 : FO h (sa z3 150 Q) := i2.trans ⟨fun y a b => sa_n a, rfl⟩
      have r1 : RM z1 (sa z3 150 Q) nb (Vf (goA (h.1 134) ln ns st mo) nb) c := i1.of (sa_n (by decide))
      rw [if_neg (nI_ge hc (by omega)), q1, cl_some, b01]
      have hs : fo nb (Vf (goA (h.1 134) ln ns st mo) nb) (c + 1) = (match fo nb (Vf (goA (h.1 134) ln ns st mo) nb) c with
        | none => if okc nb c = true then some (Vf (goA (h.1 134) ln ns st mo) nb c, c) else none
        | some q => if okc nb c = true ∧ q.1 < Vf (goA (h.1 134) ln ns st mo) nb c then some (Vf (goA (h.1 134) ln ns st mo) nb c, c) else some q) := rfl
      unfold F_X9_layFarthest_J61
      by_cases hok : okc nb c = true
      · rw [if_pos hok]
        have hcm := comesM (h := sa z3 150 Q) (nb := nb) (ns := ns) (ln := ln) (st := st) (mo := mo) (c := c) (by rw [sa_n (by decide), h134]; exact v) hok hm (fun k hk => by rw [sa_r]; exact q2 k hk) hc
        rw [sa_n (q := 150) (x := 134) (by decide), h134] at hcm
        dsimp only
        rw [hcm, cl_some]
        obtain ⟨x', w1, w2, w3, w4⟩ := noteM (x := sa z3 150 Q) (rc35 := rc2) (x1 := st) (x2 := nI mo) (x3 := z1) (x4 := nI (6 ^ nb)) (x5 := nI c) (x6 := nI (Vf (goA (h.1 134) ln ns st mo) nb c))
        rw [w1, nI_1]
        have hVc := hV2 c
        -- taken
        have take : ¬ nI (Vf (goA (h.1 134) ln ns st mo) nb c) ≤ z1 → fo nb (Vf (goA (h.1 134) ln ns st mo) nb) (c + 1) = some (Vf (goA (h.1 134) ln ns st mo) nb c, c) → RM (if nI (Vf (goA (h.1 134) ln ns st mo) nb c) ≤ z1 then z1 else nI (Vf (goA (h.1 134) ln ns st mo) nb c)) x' nb (Vf (goA (h.1 134) ln ns st mo) nb) (c + 1) := by
          intro hz hfo
          rw [if_neg hz]
          refine ⟨fun z => ?_, fun v b z => ?_⟩
          · rw [hfo] at z; cases z
          · rw [hfo] at z
            cases z
            exact ⟨rfl, fun k hk => by rw [w4 hz k (by omega), sa_r]; exact q2 k hk⟩
        cases hfo : fo nb (Vf (goA (h.1 134) ln ns st mo) nb) c with
        | none =>
          rw [hfo] at hs
          dsimp only at hs
          rw [if_pos hok] at hs
          have hz : ¬ nI (Vf (goA (h.1 134) ln ns st mo) nb c) ≤ z1 := by rw [r1.1 hfo]; exact m1_nle (by omega)
          exact ⟨_, ⟨rfl, take hz hs, f1.trans w2⟩, rfl⟩
        | some q =>
          obtain ⟨w, b⟩ := q
          rw [hfo] at hs
          dsimp only at hs
          obtain ⟨t1, t2⟩ := r1.2 w b hfo
          have hw : w ≤ lsum ln ns := by
            have := (fo_lt hfo).1
            have := hV2 b
            omega
          by_cases hcc : Vf (goA (h.1 134) ln ns st mo) nb c ≤ w
          · have hz : nI (Vf (goA (h.1 134) ln ns st mo) nb c) ≤ z1 := by rw [t1]; exact nI_le hcc (by omega)
            rw [if_neg (by omega)] at hs
            refine ⟨_, ⟨rfl, ?_, f1.trans w2⟩, rfl⟩
            dsimp only
            rw [if_pos hz, w3 hz]
            exact r1.eq (by rw [hs, hfo])
          · have hz : ¬ nI (Vf (goA (h.1 134) ln ns st mo) nb c) ≤ z1 := by rw [t1]; exact nI_ge (by omega) (by omega)
            rw [if_pos ⟨hok, by omega⟩] at hs
            exact ⟨_, ⟨rfl, take hz hs, f1.trans w2⟩, rfl⟩
      · rw [if_neg hok]
        obtain ⟨x', w1, w2, w3, w4⟩ := noteM (x := sa z3 150 Q) (rc35 := rc2) (x1 := st) (x2 := nI mo) (x3 := z1) (x4 := nI (6 ^ nb)) (x5 := nI c) (x6 := -1)
        dsimp only
        rw [w1, nI_1]
        have hz : (-1 : Int32) ≤ z1 := by
          cases hfo : fo nb (Vf (goA (h.1 134) ln ns st mo) nb) c with
          | none => rw [r1.1 hfo]; exact Int32.le_refl _
          | some q =>
            obtain ⟨w, b⟩ := q
            have hw : w ≤ lsum ln ns := by
              have := (fo_lt hfo).1
              have := hV2 b
              omega
            rw [(r1.2 w b hfo).1]
            exact Int32.le_trans (show (-1 : Int32) ≤ 0 by decide) (nI_pos' (by omega))
        refine ⟨_, ⟨rfl, ?_, f1.trans w2⟩, rfl⟩
        dsimp only
        rw [if_pos hz, w3 hz]
        refine r1.eq ?_
        rw [hs]
        cases fo nb (Vf (goA (h.1 134) ln ns st mo) nb) c with
        | none => simp [hok]
        | some q => simp [hok]
    · rintro ⟨z1, z2, z3⟩ rc2 ⟨rfl, i1, i2⟩
      dsimp only at i1 i2 ⊢
      rw [if_pos (Int32.le_refl _)]
      exact ⟨z1, z3, rfl, i1, i2⟩
theorem step_far (h : HP) (hI : Inv h) (x1 : Int32) : ∃ (r : Int32) (h1 h2 : HP), F_X8_far 0 x1 h = some (r, h1) ∧ F_X9_far 133 x1 h1 = some (r, h2) ∧ Inv h2 := by
  have hI0 := hI
  obtain ⟨nb, ns, ln, n, wh, fr, to, c, t, u, k, q⟩ := hI
  have hn := c.1.1.2.2.1
  have hn1 := c.1.2.1
  have l : ∀ {g : HP}, g.1 134 = h.1 134 → ld g 134 1 = nI nb := fun {g} e => by
    show g.1 134 1 = nI nb
    rw [e]; exact c.1.1.2.1
  have ep : nI nb - 1 = nI (nb - 1) := by
    have := nI_pred (nb - 1)
    rw [show nb - 1 + 1 = nb by omega] at this
    exact this
  have eI : ∀ {g : HP}, g.1 134 = h.1 134 → F_X9_in x1.toInt64 (-1) ((ld g 134 1) - 1).toInt64 = some (if x1 = -1 ∨ (0 ≤ x1 ∧ x1 < nI nb) then 1 else 0) := fun {g} e => by
    rw [l e, inL (l := -1) (m := nI nb - 1) (by decide) rfl]
    congr 1
    have : (-1 ≤ x1 ∧ x1 ≤ nI nb - 1) ↔ (x1 = -1 ∨ (0 ≤ x1 ∧ x1 < nI nb)) := by
      constructor
      · rintro ⟨z1, z2⟩
        by_cases h0 : 0 ≤ x1
        · exact Or.inr ((isB_iff hn1 (by omega)).mp ⟨h0, z2⟩)
        · left
          rw [fa_le] at z1
          rw [fa_le] at h0
          rw [fa_eq]
          have e1 : (-1 : Int32).toInt = -1 := rfl
          have e0 : (0 : Int32).toInt = 0 := rfl
          rw [e1] at z1 ⊢
          rw [e0] at h0
          omega
      · rintro (z | z)
        · subst z
          refine ⟨Int32.le_refl _, ?_⟩
          rw [ep]
          exact Int32.le_trans (show (-1 : Int32) ≤ 0 by decide) (nI_pos' (by omega))
        · exact ⟨Int32.le_trans (by decide) z.1, ((isB_iff hn1 (by omega)).mpr z).2⟩
    simp only [this]
  obtain ⟨h1, e1, e2, e3, e4⟩ := seekC (st := -1) (mo := 0) c.1 c.2.1 (by omega)
  have k1 : Kp h h1 := ⟨fun x hx => e3 x (by unfold Pz at hx; omega), fun j hj => by rw [e3 133 (by omega)], fun x hx => by rw [e4]⟩
  have hU1 : h1.1 134 = h.1 134 := e3 134 (by omega)
  obtain ⟨most, h2, m1, m2, m3⟩ := farM (h := h1) (st := -1) (mo := 0) (ln := ln) (ns := ns) (nb := nb) (by rw [hU1]; exact c.1) (by omega)
  rw [hU1] at m2
  have hinv := m3.kp.inv (k1.inv hI0)
  obtain ⟨⟨w, b⟩, hfo⟩ := fo_ne (n := nb) (V := Vf (goA (h.1 134) ln ns (-1) 0) nb) hn hn1
  obtain ⟨r1, r2⟩ := e2.2 w b hfo
  obtain ⟨p1, p2⟩ := m2.2 w b hfo
  have e1' : F_X2_seek 118 (-1) 0 h = some h1 := e1
  have m1' : F_X9_layFarthest 133 (-1) 0 h1 = some (most, h2) := m1
  unfold F_X8_far F_X9_far F_X8_far_J18
  simp only [Nat.reduceAdd]
  rw [hasB c.2.1.2.2.1, cl_some, b01, e1', cl_some]
  by_cases hm : x1 = -1
  · rw [if_pos hm, if_pos hm, r1]
    refine ⟨_, h1, h2, rfl, ?_, hinv⟩
    rw [eI hU1, cl_some, b01, if_pos (Or.inl hm), m1', cl_some, if_neg (by rw [hm]; decide), p1]
  · rw [if_neg hm, if_neg hm]
    by_cases hx : 0 ≤ x1 ∧ x1 < nI nb
    · rw [if_pos hx]
      obtain ⟨i, rfl, hi⟩ := nI_ex hx.1 hx.2 (by omega)
      rw [gd_ok (by omega) (by decide), ld_nI (by omega), r2 i hi]
      refine ⟨_, h1, h2, rfl, ?_, hinv⟩
      rw [eI hU1, cl_some, b01, if_pos (Or.inr hx), m1', cl_some, if_pos hx.1, gd_ok (by omega) (by decide), ld_nI (by omega), p2 i hi]
    · rw [if_neg hx]
      refine ⟨-1, h, h, rfl, ?_, hI0⟩
      rw [eI rfl, cl_some, b01, if_neg (fun z => z.elim hm hx)]
theorem step_son (h : HP) (hI : Inv h) (x1 x2 : Int32) : ∃ (r : Int32) (h1 h2 : HP), F_X8_son 0 x1 x2 h = some (r, h1) ∧ F_X9_son 133 x1 x2 h1 = some (r, h2) ∧ Inv h2 := by
  have hI0 := hI
  obtain ⟨nb, ns, ln, n, wh, fr, to, c, t, u, k, q⟩ := hI
  have hn := c.1.1.2.2.1
  have hn1 := c.1.2.1
  have eB : ∀ {g : HP}, g.1 134 = h.1 134 → F_X9_isBearer 133 x1 g = some (if 0 ≤ x1 ∧ x1 < nI nb then 1 else 0) := fun e => isB (by rw [e]; exact c.1.1.2.1) hn1 hn
  unfold F_X8_son F_X9_son
  simp only [Nat.reduceAdd]
  rw [hasB c.2.1.2.2.1, within_eq, inL (l := 0) (m := 99) (by decide) (by decide)]
  simp only [cl_some, b01]
  by_cases hx : 0 ≤ x1 ∧ x1 < nI nb
  · rw [if_pos hx]
    by_cases hx2 : 0 ≤ x2 ∧ x2 ≤ 99
    · simp only [if_pos hx2]
      obtain ⟨mo, rfl, hm1, hm2⟩ := nI_ex2 (l := 0) (m := 99) hx2.1 hx2.2 (by decide) (by decide)
      obtain ⟨h1, e1, e2, e3, e4⟩ := seekC (st := -1) (mo := 0) c.1 c.2.1 (by omega)
      have e1' : F_X2_seek 118 (-1) 0 h = some h1 := e1
      have hU1 : h1.1 134 = h.1 134 := e3 134 (by omega)
      obtain ⟨g1, d1, d2, d3, d4⟩ := seekC (h := h1) (st := x1) (mo := mo) c.1 (c.2.1.of (fun x a b => e3 x (by omega))) (by omega)
      have k1 : Kp h g1 := ⟨fun x hx => by rw [d3 x (by unfold Pz at hx; omega), e3 x (by unfold Pz at hx; omega)], fun j hj => by rw [d3 133 (by omega), e3 133 (by omega)], fun x hx => by rw [d4, e4]⟩
      have hUg : g1.1 134 = h.1 134 := (d3 134 (by omega)).trans hU1
      obtain ⟨m1, f1, p1, p2, p3⟩ := farM (h := g1) (st := x1) (mo := mo) (ln := ln) (ns := ns) (nb := nb) (by rw [hUg]; exact c.1) (by omega)
      have hUf : f1.1 134 = h.1 134 := (p3.1 134 (by decide) (by decide)).trans hUg
      obtain ⟨m2, f2, q1, q2, q3⟩ := farM (h := f1) (st := -1) (mo := 0) (ln := ln) (ns := ns) (nb := nb) (by rw [hUf]; exact c.1) (by omega)
      have q1' : F_X9_layFarthest 133 (-1) 0 f1 = some (m2, f2) := q1
      rw [hUg] at p2
      rw [hUf] at q2
      obtain ⟨⟨w, b⟩, hfo⟩ := fo_ne (n := nb) (V := Vf (goA (h.1 134) ln ns (-1) 0) nb) hn hn1
      obtain ⟨⟨w', b'⟩, hfo'⟩ := fo_ne (n := nb) (V := Vf (goA (h.1 134) ln ns x1 mo) nb) hn hn1
      rw [e1', cl_some, nm_eq, d1, cl_some, (e2.2 w b hfo).1, (d2.2 w' b' hfo').1]
      refine ⟨_, g1, f2, rfl, ?_, (p3.trans q3).kp.inv (k1.inv hI0)⟩
      rw [eB hUg, cl_some, b01, if_pos hx, p1, cl_some, q1', cl_some, (p2.2 w' b' hfo').1, (q2.2 w b hfo).1]
    · simp only [if_neg hx2]
      refine ⟨-1, h, h, rfl, ?_, hI0⟩
      rw [eB rfl, cl_some, b01, if_pos hx]
  · rw [if_neg hx]
    refine ⟨-1, h, h, rfl, ?_, hI0⟩
    rw [eB rfl, cl_some, b01, if_neg hx]
