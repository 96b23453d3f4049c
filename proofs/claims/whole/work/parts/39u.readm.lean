/-! the model's numbers -/
def FG (x x' : HP) : Prop := (∀ y, y ≠ 133 → y ≠ 142 → x'.1 y = x.1 y) ∧ (∀ j, j ≠ 12 → x'.1 133 j = x.1 133 j) ∧ x'.2 = x.2
theorem FG.rf {h : HP} : FG h h := ⟨fun _ _ _ => rfl, fun _ _ => rfl, rfl⟩
theorem FG.trans {h1 h2 h3 : HP} (p : FG h1 h2) (q : FG h2 h3) : FG h1 h3 := ⟨fun x a b => (q.1 x a b).trans (p.1 x a b), fun j hj => (q.2.1 j hj).trans (p.2.1 j hj), q.2.2.trans p.2.2⟩
def MT (x : HP) (tx : Nat → Nat) (l : Nat) : Prop := x.1 133 9 = nI l ∧ ∀ i, i < l → x.1 140 i = nI (tx i)
theorem MT.of {x x' : HP} {tx : Nat → Nat} {l : Nat} (m : MT x tx l) (f : FG x x') : MT x' tx l := ⟨by rw [f.2.1 9 (by decide)]; exact m.1, fun i hi => by rw [f.1 140 (by decide) (by decide)]; exact m.2 i hi⟩
theorem fg_ui {h : HP} {v : Int32} : FG h (ui h 133 12 v) := by
  rw [ui_sa]
  exact ⟨fun x a b => sa_n a, fun j hj => by rw [sa_r, upd_n hj], rfl⟩
theorem fg_sa {h : HP} {f : Nat → Int32} : FG h (sa h 142 f) := ⟨fun x a b => sa_n b, fun j hj => by rw [sa_n (by decide)], rfl⟩
theorem endM {y : HP} {tx : Nat → Nat} {l m k w v f : Nat} {rc : (Int32 × HP) → Option (Int32 × HP)} (ht : TX tx l) (hy : MT y tx l) (ha : y.1 133 12 = nI m) (hm : m ≤ l) (hk : k < 3) (hw : w ≤ 3) (hw1 : 1 ≤ w) (hf : f ≤ 1000) : F_X9_takes_J89 133 rc (nI w) (nI k) (nI v) (nI f) y = if (1 ≤ f ∧ f ≤ 2) ∧ m < l ∧ tx m = ek k w then rc (nI (k + 1), ui (sa y 142 (upd (y.1 142) k (nI v))) 133 12 (nI (m + 1))) else some (0, y) := by
  have hl := ht.1
  have eI : F_X9_in (nI f).toInt64 1 2 = some (if 1 ≤ f ∧ f ≤ 2 then 1 else 0) := by
    rw [inL (l := 1) (m := 2) (by decide) (by decide)]
    have : ((1 : Int32) ≤ nI f ∧ nI f ≤ 2) ↔ (1 ≤ f ∧ f ≤ 2) := by
      rw [show (1 : Int32) = nI 1 from rfl, show (2 : Int32) = nI 2 from rfl, nI_leI (by decide) (by omega), nI_leI (by omega) (by decide)]
    simp only [this]
  have k0 : F_X9_takes_J131 133 rc (nI w) (nI k) (nI v) (nI f) 0 y = some (0, y) := by
    unfold F_X9_takes_J131
    rw [eI, cl_some, b01]
    split
    · rw [if_pos rfl]
    · rfl
  have k1 : F_X9_takes_J131 133 rc (nI w) (nI k) (nI v) (nI f) 1 y = if 1 ≤ f ∧ f ≤ 2 then rc (nI (k + 1), ui (sa y 142 (upd (y.1 142) k (nI v))) 133 12 (nI (m + 1))) else some (0, y) := by
    unfold F_X9_takes_J131
    simp only [Nat.reduceAdd]
    rw [eI, cl_some, b01, if_neg (show ¬ (1 : Int32) = 0 by decide), gd_ok hk (by decide), nm_eq, nm_eq, st_sa (by omega), nI_1]
    have : (sa y 142 (upd (y.1 142) k (nI v))).1 133 12 + 1 = nI (m + 1) := by rw [sa_n (by decide), ha, nI_1]
    rw [this]
  unfold F_X9_takes_J89
  simp only [Nat.reduceAdd]
  rw [hy.1, ha]
  by_cases c1 : m < l
  · have t := ht.2 m c1
    rw [if_neg (nI_ge c1 (by omega)), gd_ok (by omega) (by decide), ld_nI (by omega), hy.2 m c1]
    have ew : nI w - 1 = nI (w - 1) := by
      have := nI_pred (w - 1)
      rw [show w - 1 + 1 = w by omega] at this
      exact this
    rw [ew]
    have key : ∀ e, e ≤ 1000 → F_X9_takes_J123 133 rc (nI w) (nI k) (nI v) (nI f) (nI e) (nI (tx m)) y = if (1 ≤ f ∧ f ≤ 2) ∧ m < l ∧ tx m = e then rc (nI (k + 1), ui (sa y 142 (upd (y.1 142) k (nI v))) 133 12 (nI (m + 1))) else some (0, y) := by
      intro e he
      unfold F_X9_takes_J123 F_X9_takes_J130
      rw [k0, k1]
      by_cases c2 : tx m = e
      · rw [if_pos (by rw [c2])]
        by_cases c3 : 1 ≤ f ∧ f ≤ 2
        · rw [if_pos c3, if_pos ⟨c3, c1, c2⟩]
        · rw [if_neg c3, if_neg (fun z => c3 z.1)]
      · rw [if_neg (fun z => c2 ((nI_sm (by omega) he).mp z)), if_neg (fun z => c2 z.2.2)]
    unfold ek
    by_cases c : k + 1 < w
    · rw [if_neg (nI_ge (by omega) (by omega)), if_pos c]
      exact key 44 (by omega)
    · rw [if_pos (nI_le (by omega) (by omega)), if_neg c]
      exact key 59 (by omega)
  · rw [if_pos (nI_le (by omega) (by omega)), if_neg (fun z => c1 z.2.1)]
    unfold F_X9_takes_J130
    exact k0
theorem stepM {y : HP} {tx : Nat → Nat} {l m k w v f N : Nat} {rc : (Int32 × HP) → Option (Int32 × HP)} (ht : TX tx l) (hy : MT y tx l) (ha : y.1 133 12 = nI m) (hm : m ≤ l) (hf : f ≤ 1000) : F_X9_takes_L12 133 rc (nI w) (nI k) (N + 1) (nI v, nI f, y) = if m < l ∧ isD (tx m) = true then F_X9_takes_L12 133 rc (nI w) (nI k) N (nI (if 2 ≤ f then v else 10 * v + (tx m - 48)), nI (f + 1), ui y 133 12 (nI (m + 1))) else F_X9_takes_J89 133 rc (nI w) (nI k) (nI v) (nI f) y := by
  have hl := ht.1
  unfold F_X9_takes_L12
  rw [lp_u]
  dsimp only
  simp only [Nat.reduceAdd]
  rw [hy.1, ha]
  by_cases c1 : m < l
  · have t := ht.2 m c1
    rw [if_neg (nI_ge c1 (by omega)), gd_ok (by omega) (by decide), ld_nI (by omega), hy.2 m c1, inL (l := 48) (m := 57) (by decide) (by decide), cl_some, b01]
    by_cases c2 : isD (tx m) = true
    · have d := isD_iff.mp c2
      rw [if_pos ⟨nI_le (a := 48) d.1 (by omega), nI_le (b := 57) d.2 (by decide)⟩, if_pos (show m < l ∧ isD (tx m) = true from ⟨c1, c2⟩)]
      unfold F_X9_takes_J72
      simp only [nm_eq]
      rw [ha, nI_1, nI_1]
      by_cases c3 : 2 ≤ f
      · rw [if_pos (show (2 : Int32) ≤ nI f from nI_le (a := 2) c3 (by omega)), if_pos c3]
      · rw [if_neg (show ¬ (2 : Int32) ≤ nI f from nI_ge (b := 2) (by omega) (by decide)), if_neg c3, gd_ok (by omega) (by decide), dgv d.1]
    · rw [if_neg (fun z => c2 (isD_iff.mpr ⟨(nI_leI (a := 48) (by decide) (by omega)).mp z.1, (nI_leI (b := 57) (by omega) (by decide)).mp z.2⟩)), if_neg (fun z => c2 z.2)]
  · rw [if_pos (nI_le (by omega) (by omega)), if_neg (fun z => c1 z.1)]
theorem manyM {tx : Nat → Nat} {l k w v : Nat} {rc : (Int32 × HP) → Option (Int32 × HP)} (ht : TX tx l) (hk : k < 3) (hw : w ≤ 3) (hw1 : 1 ≤ w) : ∀ (d m f N : Nat) (y : HP), m + d = l → d < N → 3 ≤ f → f + d ≤ 1000 → MT y tx l → y.1 133 12 = nI m → ∃ x', F_X9_takes_L12 133 rc (nI w) (nI k) N (nI v, nI f, y) = some (0, x') ∧ FG y x'
  | 0, m, f, N, y, hd, hN, hf, hf2, hy, ha => by
    obtain ⟨N, rfl⟩ : ∃ M, N = M + 1 := ⟨N - 1, by omega⟩
    rw [stepM ht hy ha (by omega) (by omega), if_neg (by omega), endM ht hy ha (by omega) hk hw hw1 (by omega), if_neg (by omega)]
    exact ⟨y, rfl, FG.rf⟩
  | d + 1, m, f, N, y, hd, hN, hf, hf2, hy, ha => by
    obtain ⟨N, rfl⟩ : ∃ M, N = M + 1 := ⟨N - 1, by omega⟩
    rw [stepM ht hy ha (by omega) (by omega)]
    by_cases c : m < l ∧ isD (tx m) = true
    · rw [if_pos c, if_pos (show 2 ≤ f by omega)]
      obtain ⟨x', e1, e2⟩ := manyM ht hk hw hw1 d (m + 1) (f + 1) N (ui y 133 12 (nI (m + 1))) (by omega) (by omega) (by omega) (by omega) (hy.of fg_ui) (by rw [ui_sa, sa_r, upd_r])
      exact ⟨x', e1, fg_ui.trans e2⟩
    · rw [if_neg c, endM ht hy ha (by omega) hk hw hw1 (by omega), if_neg (by omega)]
      exact ⟨y, rfl, FG.rf⟩
theorem fg_put {y : HP} {k v m : Nat} : FG y (ui (sa y 142 (upd (y.1 142) k (nI v))) 133 12 (nI m)) := fg_sa.trans fg_ui
theorem numM {x : HP} {tx : Nat → Nat} {l p k w : Nat} {rc : (Int32 × HP) → Option (Int32 × HP)} (ht : TX tx l) (hx : MT x tx l) (ha : x.1 133 12 = nI p) (hp : p ≤ l) (hk : k < 3) (hw : w ≤ 3) (hw1 : 1 ≤ w) : ∃ x', FG x x' ∧ (rd1 tx l p (ek k w) = none → F_X9_takes_L12 133 rc (nI w) (nI k) sg_fuel (0, 0, x) = some (0, x')) ∧ ∀ q, rd1 tx l p (ek k w) = some q → F_X9_takes_L12 133 rc (nI w) (nI k) sg_fuel (0, 0, x) = rc (nI (k + 1), x') ∧ x'.1 133 12 = nI q.2 ∧ x'.1 142 k = nI q.1 ∧ ∀ j, j ≠ k → x'.1 142 j = x.1 142 j := by
  have hl := ht.1
  have fin : ∀ (y : HP) (v m : Nat), (ui (sa y 142 (upd (y.1 142) k (nI v))) 133 12 (nI m)).1 133 12 = nI m ∧ (ui (sa y 142 (upd (y.1 142) k (nI v))) 133 12 (nI m)).1 142 k = nI v ∧ ∀ j, j ≠ k → (ui (sa y 142 (upd (y.1 142) k (nI v))) 133 12 (nI m)).1 142 j = y.1 142 j := by
    intro y v m
    rw [ui_sa]
    refine ⟨by rw [sa_r, upd_r], by rw [sa_n (by decide), sa_r, upd_r], fun j hj => by rw [sa_n (by decide), sa_r, upd_n hj]⟩
  rw [show sg_fuel = 59997 + 1 + 1 + 1 from rfl]
  have s0 := stepM (rc := rc) (w := w) (k := k) (v := 0) (f := 0) (N := 59997 + 1 + 1) ht hx ha hp (by omega)
  rw [show (nI 0) = 0 from nI_0] at s0
  rw [s0]
  unfold rd1
  by_cases c0 : p < l ∧ isD (tx p) = true
  · rw [if_pos c0, if_pos c0, if_neg (show ¬ 2 ≤ 0 by omega), stepM ht (hx.of fg_ui) (m := p + 1) (by rw [ui_sa, sa_r, upd_r]) (by omega) (by omega)]
    have f1 : FG x (ui x 133 12 (nI (p + 1))) := fg_ui
    have a1 : (ui x 133 12 (nI (p + 1))).1 133 12 = nI (p + 1) := by rw [ui_sa, sa_r, upd_r]
    have b1 : ∀ j, (ui x 133 12 (nI (p + 1))).1 142 j = x.1 142 j := fun j => by rw [ui_sa, sa_n (by decide)]
    generalize ui x 133 12 (nI (p + 1)) = x1 at *
    by_cases c1 : p + 1 < l ∧ isD (tx (p + 1)) = true
    · rw [if_pos c1, if_pos c1, if_neg (show ¬ 2 ≤ 0 + 1 by omega)]
      have f2 : FG x (ui x1 133 12 (nI (p + 1 + 1))) := f1.trans fg_ui
      have a2 : (ui x1 133 12 (nI (p + 1 + 1))).1 133 12 = nI (p + 1 + 1) := by rw [ui_sa, sa_r, upd_r]
      have b2 : ∀ j, (ui x1 133 12 (nI (p + 1 + 1))).1 142 j = x.1 142 j := fun j => by rw [ui_sa, sa_n (by decide)]; exact b1 j
      generalize ui x1 133 12 (nI (p + 1 + 1)) = x2 at *
      rw [stepM ht (hx.of f2) a2 (by omega) (by omega)]
      by_cases c2 : p + 1 + 1 < l ∧ isD (tx (p + 1 + 1)) = true
      · rw [if_pos c2, if_pos (show 2 ≤ 0 + 1 + 1 by omega)]
        obtain ⟨x', e1, e2⟩ := manyM (rc := rc) (v := 10 * (10 * 0 + (tx p - 48)) + (tx (p + 1) - 48)) (k := k) (w := w) ht hk hw hw1 (l - (p + 1 + 1 + 1)) (p + 1 + 1 + 1) (0 + 1 + 1 + 1) 59997 (ui x2 133 12 (nI (p + 1 + 1 + 1))) (by omega) (by omega) (by omega) (by omega) (hx.of (f2.trans fg_ui)) (by rw [ui_sa, sa_r, upd_r])
        refine ⟨x', (f2.trans fg_ui).trans e2, fun _ => e1, fun q h => ?_⟩
        rw [if_neg (fun z => by
          have := c2.2
          rw [z.2, ek_no] at this
          exact absurd this (by decide))] at h
        cases h
      · rw [if_neg c2, endM ht (hx.of f2) a2 (by omega) hk hw hw1 (by omega)]
        by_cases c3 : p + 2 < l ∧ tx (p + 2) = ek k w
        · rw [if_pos c3, if_pos ⟨by omega, c3⟩]
          obtain ⟨g1, g2, g3⟩ := fin x2 (10 * (10 * 0 + (tx p - 48)) + (tx (p + 1) - 48)) (p + 1 + 1 + 1)
          refine ⟨_, f2.trans (fg_put (k := k) (v := 10 * (10 * 0 + (tx p - 48)) + (tx (p + 1) - 48)) (m := p + 1 + 1 + 1)), fun h => (by cases h), fun q h => ?_⟩
          cases h
          refine ⟨rfl, g1, ?_, fun j hj => (g3 j hj).trans (b2 j)⟩
          rw [g2]
          congr 1
          omega
        · rw [if_neg c3, if_neg (fun z => c3 z.2)]
          exact ⟨x2, f2, fun _ => rfl, fun q h => by cases h⟩
    · rw [if_neg c1, if_neg c1, endM ht (hx.of f1) a1 (by omega) hk hw hw1 (by omega)]
      by_cases c3 : p + 1 < l ∧ tx (p + 1) = ek k w
      · rw [if_pos c3, if_pos ⟨by omega, c3⟩]
        obtain ⟨g1, g2, g3⟩ := fin x1 (10 * 0 + (tx p - 48)) (p + 1 + 1)
        refine ⟨_, f1.trans (fg_put (k := k) (v := 10 * 0 + (tx p - 48)) (m := p + 1 + 1)), fun h => (by cases h), fun q h => ?_⟩
        cases h
        refine ⟨rfl, g1, ?_, fun j hj => (g3 j hj).trans (b1 j)⟩
        rw [g2]
        congr 1
        omega
      · rw [if_neg c3, if_neg (fun z => c3 z.2)]
        exact ⟨x1, f1, fun _ => rfl, fun q h => by cases h⟩
  · rw [if_neg c0, if_neg c0]
    have e := endM (rc := rc) (v := 0) (f := 0) ht hx ha hp hk hw hw1 (by omega)
    rw [show (nI 0) = 0 from nI_0] at e
    rw [e, if_neg (by omega)]
    exact ⟨x, FG.rf, fun _ => rfl, fun q h => by cases h⟩
theorem numsM {tx : Nat → Nat} {l w : Nat} (ht : TX tx l) (hw : w ≤ 3) (hw1 : 1 ≤ w) : ∀ (d p : Nat) (v : Nat → Nat) (x : HP) (N : Nat), d ≤ w → d < N → p ≤ l → MT x tx l → x.1 133 12 = nI p → (∀ j, j < w - d → x.1 142 j = nI (v j)) → ∃ x', FG x x' ∧ (rdn tx l w d p v = none → F_X9_takes_L2 133 (nI w) N (nI (w - d), x) = some (0, x')) ∧ ∀ q, rdn tx l w d p v = some q → F_X9_takes_L2 133 (nI w) N (nI (w - d), x) = some (1, x') ∧ x'.1 133 12 = nI q.1 ∧ ∀ j, j < w → x'.1 142 j = nI (q.2 j)
  | 0, p, v, x, N, hd, hN, hp, hx, ha, hv => by
    obtain ⟨N, rfl⟩ : ∃ M, N = M + 1 := ⟨N - 1, by omega⟩
    refine ⟨x, FG.rf, fun h => (by cases h), fun q h => ?_⟩
    cases h
    refine ⟨?_, ha, fun j hj => hv j (by omega)⟩
    unfold F_X9_takes_L2
    rw [lp_u]
    dsimp only
    rw [Nat.sub_zero, if_pos (Int32.le_refl _)]
  | d + 1, p, v, x, N, hd, hN, hp, hx, ha, hv => by
    obtain ⟨N, rfl⟩ : ∃ M, N = M + 1 := ⟨N - 1, by omega⟩
    have hk : w - (d + 1) < 3 := by omega
    generalize hke : w - (d + 1) = k at *
    have e2 : F_X9_takes_L2 133 (nI w) (N + 1) (nI k, x) = F_X9_takes_L12 133 (F_X9_takes_L2 133 (nI w) N) (nI w) (nI k) sg_fuel (0, 0, x) := by
      have : (if nI w ≤ nI k then some ((1 : Int32), x) else F_X9_takes_L12 133 (F_X9_takes_L2 133 (nI w) N) (nI w) (nI k) sg_fuel (0, 0, x)) = F_X9_takes_L12 133 (F_X9_takes_L2 133 (nI w) N) (nI w) (nI k) sg_fuel (0, 0, x) := if_neg (nI_ge (by omega) (by omega))
      exact this
    rw [e2]
    obtain ⟨x1, f1, r1, r2⟩ := numM (rc := F_X9_takes_L2 133 (nI w) N) ht hx ha hp hk hw hw1
    cases e : rd1 tx l p (ek k w) with
    | none =>
      refine ⟨x1, f1, fun _ => r1 e, fun q h => ?_⟩
      rw [rdn_none (by rw [hke]; exact e)] at h
      cases h
    | some q =>
      obtain ⟨r3, r4, r5, r6⟩ := r2 q e
      obtain ⟨b1, b2, b3⟩ := rd1_bd e
      rw [rdn_some (by rw [hke]; exact e), r3, hke]
      obtain ⟨x', f2, s1, s2⟩ := numsM ht hw hw1 d q.2 (upN v k q.1) x1 N (by omega) (by omega) b3 (hx.of f1) r4 (fun j hj => by
        by_cases ej : j = k
        · rw [ej, upN_r]; exact r5
        · rw [upN_n ej, r6 j ej]
          exact hv j (by omega))
      rw [show w - d = k + 1 by omega] at s1 s2
      exact ⟨x', f1.trans f2, s1, s2⟩
