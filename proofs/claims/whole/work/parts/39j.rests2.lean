theorem isRestC {h : HP} {ns a b : Nat} {F O : Nat → Nat → Int32} (hn : ns ≤ 6) (h0 : h.1 15 0 = nI ns) (ha : a < ns) (hb : b < ns) (hF : ∀ k l, k < ns → l < ns → (if k = l then h.1 123 k else h.1 122 k) = F k l ∧ (if k = l then h.1 125 l else h.1 124 l) = O k l) : F_X0_isRest 121 (nI a) (nI b) h = some (if rsB F O a b ns = true then 1 else 0) := by
  have f1 : ∀ k l, k < ns → l < ns → F_X0_ofFirst 121 (nI k) (nI l) h = some (F k l) := by
    intro k l hk hl
    unfold F_X0_ofFirst
    simp only [Nat.reduceAdd]
    rw [gd_ok (by omega) (by decide), gd_ok (by omega) (by decide), ld_nI (by omega), ld_nI (by omega), ← (hF k l hk hl).1]
    by_cases e : k = l
    · subst e; rw [if_pos rfl, if_pos rfl]
    · rw [if_neg (fun z => e ((nI_eq (by omega) (by omega)).mp z)), if_neg e]
  have f2 : ∀ k l, k < ns → l < ns → F_X0_ofOther 121 (nI k) (nI l) h = some (O k l) := by
    intro k l hk hl
    unfold F_X0_ofOther
    simp only [Nat.reduceAdd]
    rw [gd_ok (by omega) (by decide), gd_ok (by omega) (by decide), ld_nI (by omega), ld_nI (by omega), ← (hF k l hk hl).2]
    by_cases e : k = l
    · subst e; rw [if_pos rfl, if_pos rfl]
    · rw [if_neg (fun z => e ((nI_eq (by omega) (by omega)).mp z)), if_neg e]
  unfold F_X0_isRest F_X0_isRest_L2
  refine lp_inv' (fun k x => x = nI k ∧ rsB F O a b k = true) (B := ns) (Q := fun r => r = some (if rsB F O a b ns = true then 1 else 0)) ?_ ?_ sg_fuel 0 0 (Nat.zero_le _) (fu (by omega)) ⟨rfl, rfl⟩
  · rintro k x rc hk ⟨rfl, i1⟩
    rw [h0, if_neg (nI_ge hk (by omega)), f1 k b hk hb, cl_some, f1 a b ha hb, cl_some, f2 a k ha hk, cl_some, f2 a b ha hb, cl_some, nI_1]
    have hs : rsB F O a b (k + 1) = (decide (F k b ≤ F a b) && decide (O a k ≤ O a b)) := by
      show (rsB F O a b k && _) = _
      rw [i1, Bool.true_and]
    have hno : rsB F O a b (k + 1) = false → some (0 : Int32) = some (if rsB F O a b ns = true then 1 else 0) := by
      intro z
      have := rsB_false z (ns - (k + 1))
      rw [show k + 1 + (ns - (k + 1)) = ns by omega] at this
      rw [this]
      rfl
    by_cases c1 : F k b ≤ F a b
    · rw [if_neg (Int32.not_lt.mpr c1)]
      by_cases c2 : O a k ≤ O a b
      · rw [if_pos c2]
        exact Or.inl ⟨_, ⟨rfl, by rw [hs]; simp [c1, c2]⟩, rfl⟩
      · rw [if_neg c2]
        exact Or.inr (hno (by rw [hs]; simp [c2]))
    · rw [if_pos (Int32.not_le.mp c1)]
      exact Or.inr (hno (by rw [hs]; simp [c1]))
  · rintro x rc ⟨rfl, i1⟩
    rw [h0, if_pos (Int32.le_refl _), if_pos i1]
theorem ct_le64 {p : Nat → Bool} {c : Nat} (h : c ≤ 64) : fb_ct p c ≤ 64 := Nat.le_trans (fb_ct_le p c) h
theorem weighC {h : HP} {nb ns n i j : Nat} {ln wh fr to : Nat → Nat} (c : Core h nb ns ln n wh fr to) (hi : i < nb) (hj : j < nb) : ∃ h' F, F_X0_weigh 121 (nI i) (nI j) h = some h' ∧ h'.1 121 0 = nI (fb_ct (rsP (oF (h.1 134) nb ln i j) (oO (h.1 134) nb ln i j) ns) (8 * ns)) ∧ h'.1 121 1 = F ∧ lst (rsP (oF (h.1 134) nb ln i j) (oO (h.1 134) nb ln i j) ns) 0 (8 * ns) F ∧ FY h h' := by
  have hM := c.1.1
  obtain ⟨m1, m2, m3, m4, m5, m6⟩ := id hM
  obtain ⟨g, e1, e2, e3⟩ := fillC c.2.1 hM hi hj
  generalize hp : rsP (oF (h.1 134) nb ln i j) (oO (h.1 134) nb ln i j) ns = p
  unfold F_X0_weigh
  rw [e1, cl_some, nm_eq, nm_eq]
  generalize hg2 : ui (ui g 121 0 0) 121 1 (-4) = g2
  have y2 : FY h g2 := by rw [← hg2]; simp only [ui_sa]; exact e3.trans ((fy_sa (by omega)).trans (fy_sa (by omega)))
  have q0 : g2.1 121 0 = 0 := by rw [← hg2]; simp only [ui_sa]; rw [sa_r, upd_n (by decide), sa_r, upd_r]
  have q1 : g2.1 121 1 = -4 := by rw [← hg2]; simp only [ui_sa]; rw [sa_r, upd_r]
  have qr : ∀ x, 121 < x → x < 126 → g2.1 x = g.1 x := fun x h1 h2 => by rw [← hg2]; simp only [ui_sa]; rw [sa_n (by omega), sa_n (by omega)]
  have hFO : ∀ (z : HP), (∀ x, 121 < x → x < 126 → z.1 x = g.1 x) → ∀ k l, k < ns → l < ns → (if k = l then z.1 123 k else z.1 122 k) = oF (h.1 134) nb ln i j k l ∧ (if k = l then z.1 125 l else z.1 124 l) = oO (h.1 134) nb ln i j k l := by
    intro z hz k l hk hl
    rw [hz 122 (by omega) (by omega), hz 123 (by omega) (by omega), hz 124 (by omega) (by omega), hz 125 (by omega) (by omega)]
    unfold oF oO
    rw [(e2 k hk).1, (e2 k hk).2.2.1, (e2 l hl).2.1, (e2 l hl).2.2.2]
    exact ⟨rfl, rfl⟩
  unfold F_X0_weigh_L19
  refine lp_inv' (fun a x => x.1 = nI a ∧ x.2.1 121 0 = nI (fb_ct p (8 * a)) ∧ (∃ F, x.2.1 121 1 = F ∧ lst p 0 (8 * a) F) ∧ (∀ y, 121 < y → y < 126 → x.2.1 y = g.1 y) ∧ FY h x.2) (B := ns) (Q := fun r => ∃ h' F, r = some h' ∧ h'.1 121 0 = nI (fb_ct p (8 * ns)) ∧ h'.1 121 1 = F ∧ lst p 0 (8 * ns) F ∧ FY h h') ?_ ?_ sg_fuel 0 (0, g2) (Nat.zero_le _) (fu (by omega)) ⟨rfl, q0, ⟨-4, q1, Or.inl ⟨rfl, fun c _ h2 => absurd h2 (by omega)⟩⟩, qr, y2⟩
  · rintro a ⟨x1, x2⟩ rc ha ⟨rfl, i1, ⟨F, i2, i3⟩, i4, i5⟩
    left
    dsimp only at i1 i2 i4 i5 ⊢
    have r15 : x2.1 15 0 = nI ns := by rw [i5.1 15 (by omega)]; exact c.2.1.1
    rw [r15, if_neg (nI_ge ha (by omega))]
    unfold F_X0_weigh_L33
    refine lp_inv' (fun b x => x.1 = nI b ∧ x.2.1 121 0 = nI (fb_ct p (8 * a + b)) ∧ (∃ F, x.2.1 121 1 = F ∧ lst p 0 (8 * a + b) F) ∧ (∀ y, 121 < y → y < 126 → x.2.1 y = g.1 y) ∧ FY h x.2) (B := ns) (Q := fun r => ∃ x', (x'.1 = nI (a + 1) ∧ x'.2.1 121 0 = nI (fb_ct p (8 * (a + 1))) ∧ (∃ F, x'.2.1 121 1 = F ∧ lst p 0 (8 * (a + 1)) F) ∧ (∀ y, 121 < y → y < 126 → x'.2.1 y = g.1 y) ∧ FY h x'.2) ∧ r = rc x') ?_ ?_ sg_fuel 0 (0, x2) (Nat.zero_le _) (fu (by omega)) ⟨rfl, i1, ⟨F, i2, i3⟩, i4, i5⟩
    · rintro b ⟨z1, z2⟩ rc2 hb ⟨rfl, i1, ⟨F, i2, i3⟩, i4, i5⟩
      left
      dsimp only at i1 i2 i4 i5 ⊢
      have r15 : z2.1 15 0 = nI ns := by rw [i5.1 15 (by omega)]; exact c.2.1.1
      rw [r15, if_neg (nI_ge hb (by omega)), isRestC m4 r15 ha hb (hFO z2 i4), cl_some, b01]
      have hpc : p (8 * a + b) = rsB (oF (h.1 134) nb ln i j) (oO (h.1 134) nb ln i j) a b ns := by rw [← hp]; exact rsP_at m4 ha hb
      have hcs : fb_ct p (8 * a + (b + 1)) = fb_ct p (8 * a + b) + (if p (8 * a + b) then 1 else 0) := by
        rw [← Nat.add_assoc, fb_ct_succ]
      have hl := lst_up i3 (show 8 * a + b < 64 by omega)
      rw [← hpc]
      unfold F_X0_weigh_J89 F_X0_weigh_J92
      rw [nI_1]
      by_cases hc : p (8 * a + b) = true
      · rw [if_pos hc]
        rw [if_pos hc] at hl hcs
        have e8 : (8 : Int32) * nI a + nI b = nI (8 * a + b) := by
          have : (8 : Int32) * nI a = nI (8 * a) := pk_mul 8 a
          rw [this, nI_add]
        simp only [nm_eq, ui_sa, sa_r, upd_n (show 1 ≠ 0 by decide), sa_sa]
        rw [e8, i1, nI_1, i2]
        have hJ : (if F = -4 then rc2 (nI (b + 1), sa z2 121 (upd (upd (z2.1 121) 0 (nI (fb_ct p (8 * a + b) + 1))) 1 (nI (8 * a + b)))) else rc2 (nI (b + 1), sa z2 121 (upd (upd (z2.1 121) 0 (nI (fb_ct p (8 * a + b) + 1))) 1 F))) = rc2 (nI (b + 1), sa z2 121 (upd (upd (z2.1 121) 0 (nI (fb_ct p (8 * a + b) + 1))) 1 (if F = -4 then nI (8 * a + b) else F))) := by
          split <;> rfl
        rw [hJ]
        refine ⟨_, ⟨rfl, ?_, ⟨_, ?_, hl⟩, fun y h1 h2 => ?_, ?_⟩, rfl⟩
        · dsimp only
          rw [sa_r, upd_n (by decide), upd_r, hcs]
        · dsimp only
          rw [sa_r, upd_r]
        · dsimp only
          rw [sa_n (by omega)]
          exact i4 y h1 h2
        · exact i5.trans (fy_sa (by omega))
      · rw [if_neg hc]
        rw [if_neg hc] at hl hcs
        exact ⟨_, ⟨rfl, by rw [hcs]; exact i1, ⟨F, i2, hl⟩, i4, i5⟩, rfl⟩
    · rintro ⟨z1, z2⟩ rc2 ⟨rfl, i1, ⟨F, i2, i3⟩, i4, i5⟩
      dsimp only at i1 i2 i4 i5 ⊢
      have r15 : z2.1 15 0 = nI ns := by rw [i5.1 15 (by omega)]; exact c.2.1.1
      rw [r15, if_pos (Int32.le_refl _)]
      unfold F_X0_weigh_J98
      rw [nI_1]
      have hgap : ∀ c, 8 * a + ns ≤ c → c < 8 * (a + 1) → p c = false := fun c h1 h2 => by
        rw [← hp]
        exact rsP_gap (Or.inl (by omega))
      have hct : fb_ct p (8 * (a + 1)) = fb_ct p (8 * a + ns) := by
        have := ct_gap (p := p) (m := 8 * a + ns) (d := 8 - ns) (fun c h1 h2 => hgap c h1 (by omega))
        rw [show 8 * a + ns + (8 - ns) = 8 * (a + 1) by omega] at this
        exact this
      exact ⟨_, ⟨rfl, by rw [hct]; exact i1, ⟨F, i2, lst_gap i3 (by omega) hgap⟩, i4, i5⟩, rfl⟩
  · rintro ⟨x1, x2⟩ rc ⟨rfl, i1, ⟨F, i2, i3⟩, i4, i5⟩
    dsimp only at i1 i2 i4 i5 ⊢
    have r15 : x2.1 15 0 = nI ns := by rw [i5.1 15 (by omega)]; exact c.2.1.1
    rw [r15, if_pos (Int32.le_refl _)]
    exact ⟨x2, F, rfl, i1, i2, i3, i5⟩
theorem nI_m {k : Nat} : nI (k + 1) + (-1) = nI k := pk_m1 k
/-- the model counts its rests, from the last one on -/
theorem countM {h : HP} {ns : Nat} {x3 : Int32} {F O : Nat → Nat → Int32} (hn : ns ≤ 6) (hn1 : 1 ≤ ns) (hF : ∀ a b, a < ns → b < ns → h.1 152 (6 * a + b) = F a b ∧ h.1 153 (6 * a + b) = O a b) : ∃ G, lst (rsP F O ns) 0 (8 * ns) G ∧ F_X9_rests_J80 133 x3 (nI ns) h = some (if x3 = 0 then nI (fb_ct (rsP F O ns) (8 * ns)) else G, h) := by
  generalize hp : rsP F O ns = p
  have ep : ∀ k, 1 ≤ k → nI k - 1 = nI (k - 1) := fun k hk => by
    have := nI_pred (k - 1)
    rw [show k - 1 + 1 = k by omega] at this
    exact this
  have hneg : ∀ k : Nat, k < 64 → ¬ nI k < 0 := fun k hk => nI_pos (by omega)
  have e6 : ∀ a b : Nat, (6 : Int32) * nI a + nI b = nI (6 * a + b) := fun a b => by
    have : (6 : Int32) * nI a = nI (6 * a) := pk_mul 6 a
    rw [this, nI_add]
  have e8 : ∀ a b : Nat, (8 : Int32) * nI a + nI b = nI (8 * a + b) := fun a b => by
    have : (8 : Int32) * nI a = nI (8 * a) := pk_mul 8 a
    rw [this, nI_add]
  -- a step down
  have m1 : ∀ k : Nat, nI k + (-1) = (if k = 0 then -1 else nI (k - 1)) := fun k => by
    by_cases e : k = 0
    · subst e; rw [if_pos rfl]; rfl
    · rw [if_neg e]
      have := nI_m (k := k - 1)
      rw [show k - 1 + 1 = k by omega] at this
      exact this
  unfold F_X9_rests_J80 F_X9_rests_L93
  rw [nm_eq, ep ns hn1]
  -- counted from the top: t of the rows are done
  refine lp_inv' (fun t x => x.2.2 = (if t = ns then -1 else nI (ns - 1 - t)) ∧ (∃ m, x.1 = nI m ∧ m + fb_ct p (8 * (ns - t)) = fb_ct p (8 * ns)) ∧ lst p (8 * (ns - t)) (8 * ns) x.2.1) (B := ns) (Q := fun r => ∃ G, lst p 0 (8 * ns) G ∧ r = some (if x3 = 0 then nI (fb_ct p (8 * ns)) else G, h)) ?_ ?_ sg_fuel 0 (0, -4, nI (ns - 1)) (Nat.zero_le _) (fu (by omega)) ⟨by rw [if_neg (by omega)]; rfl, ⟨0, rfl, by rw [Nat.sub_zero, Nat.zero_add]⟩, Or.inl ⟨rfl, fun c h1 h2 => absurd h1 (by omega)⟩⟩
  · rintro t ⟨x1, x2, x4⟩ rc ht ⟨i1, ⟨m, i2, i3⟩, i4⟩
    left
    dsimp only at i1 i2 i4 ⊢
    rw [if_neg (by omega)] at i1
    subst i1
    subst i2
    generalize ha : ns - 1 - t = a
    have hna : ns - t = a + 1 := by omega
    rw [hna] at i3 i4
    rw [if_neg (hneg a (by omega)), nm_eq]
    unfold F_X9_rests_L104
    have hgap : ∀ c, 8 * a + ns ≤ c → c < 8 * (a + 1) → p c = false := fun c h1 h2 => by
      rw [← hp]
      exact rsP_gap (Or.inl (by omega))
    have hct : fb_ct p (8 * (a + 1)) = fb_ct p (8 * a + ns) := by
      have := ct_gap (p := p) (m := 8 * a + ns) (d := 8 - ns) (fun c h1 h2 => hgap c h1 (by omega))
      rw [show 8 * a + ns + (8 - ns) = 8 * (a + 1) by omega] at this
      exact this
    refine lp_inv' (fun u x => x.2.2 = (if u = ns then -1 else nI (ns - 1 - u)) ∧ (∃ m, x.1 = nI m ∧ m + fb_ct p (8 * a + (ns - u)) = fb_ct p (8 * ns)) ∧ lst p (8 * a + (ns - u)) (8 * ns) x.2.1) (B := ns) (Q := fun r => ∃ x', (x'.2.2 = (if t + 1 = ns then -1 else nI (ns - 1 - (t + 1))) ∧ (∃ m, x'.1 = nI m ∧ m + fb_ct p (8 * (ns - (t + 1))) = fb_ct p (8 * ns)) ∧ lst p (8 * (ns - (t + 1))) (8 * ns) x'.2.1) ∧ r = rc x') ?_ ?_ sg_fuel 0 (nI m, x2, nI (ns - 1)) (Nat.zero_le _) (fu (by omega)) ⟨by rw [if_neg (by omega)]; rfl, ⟨m, rfl, by rw [Nat.sub_zero, ← hct]; exact i3⟩, lst_gapd i4 (by omega) (fun c h1 h2 => hgap c (by omega) h2)⟩
    · rintro u ⟨z1, z2, z4⟩ rc2 hu ⟨j1, ⟨m, j2, j3⟩, j4⟩
      left
      dsimp only at j1 j2 j4 ⊢
      rw [if_neg (by omega)] at j1
      subst j1
      subst j2
      generalize hb : ns - 1 - u = b
      have hnb : ns - u = b + 1 := by omega
      rw [hnb] at j3 j4
      rw [if_neg (hneg b (by omega))]
      have ha' : a < ns := by omega
      have hb' : b < ns := by omega
      have hpc : p (8 * a + b) = rsB F O a b ns := by rw [← hp]; exact rsP_at hn ha' hb'
      have hcs : fb_ct p (8 * a + (b + 1)) = fb_ct p (8 * a + b) + (if p (8 * a + b) then 1 else 0) := by
        rw [← Nat.add_assoc, fb_ct_succ]
      have hl := lst_down (show lst p (8 * a + b + 1) (8 * ns) z2 by rw [Nat.add_assoc]; exact j4) (by omega)
      -- is it one
      have hin : F_X9_rests_L115 133 rc rc2 x3 (nI ns) (nI m) z2 (nI a) (nI b) h sg_fuel (1, 0) = F_X9_rests_J198 133 rc rc2 x3 (nI ns) (nI m) z2 (nI a) (nI b) (if rsB F O a b ns = true then 1 else 0) h := by
        unfold F_X9_rests_L115
        refine lp_seq' (fun k => ((if rsB F O a b k = true then 1 else 0), nI k)) ns (fu (by omega)) rfl (fun k hk rc3 => ?_) (fun rc3 => ?_)
        · dsimp only
          simp only [Nat.reduceAdd]
          unfold F_X9_rests_J189 F_X9_rests_J190
          rw [if_neg (nI_ge hk (by omega)), e6, e6, e6, nI_1, b01]
          rw [gd_ok (show 6 * k + b < 36 by omega) (by decide), gd_ok (show 6 * a + b < 36 by omega) (by decide), gd_ok (show 6 * a + k < 36 by omega) (by decide), gd_ok (show 6 * a + b < 36 by omega) (by decide), ld_nI (show 6 * k + b < 2 ^ 31 by omega), ld_nI (show 6 * a + b < 2 ^ 31 by omega), ld_nI (show 6 * a + k < 2 ^ 31 by omega), ld_nI (show 6 * a + b < 2 ^ 31 by omega), (hF k b hk hb').1, (hF a b ha' hb').1, (hF a k ha' hk).2, (hF a b ha' hb').2]
          show _ = rc3 ((if (rsB F O a b k && (decide (F k b ≤ F a b) && decide (O a k ≤ O a b))) = true then 1 else 0), nI (k + 1))
          by_cases c0 : rsB F O a b k = true
          · rw [if_pos c0, c0]
            by_cases c1 : F k b ≤ F a b
            · rw [if_neg (Int32.not_lt.mpr c1)]
              by_cases c2 : O a k ≤ O a b
              · rw [if_neg (Int32.not_lt.mpr c2)]
                simp [c1, c2]
              · rw [if_pos (Int32.not_le.mp c2)]
                simp [c2]
            · rw [if_pos (Int32.not_le.mp c1)]
              simp [c1]
          · rw [if_neg c0]
            simp [c0]
        · dsimp only
          rw [if_pos (Int32.le_refl _)]
      rw [hin, ← hpc]
      unfold F_X9_rests_J198 F_X9_rests_J210 F_X9_rests_J231
      rw [b01, e8, m1 b]
      simp only [nm_eq]
      have hz3 : (if b = 0 then (-1 : Int32) else nI (b - 1)) = (if u + 1 = ns then -1 else nI (ns - 1 - (u + 1))) := by
        by_cases e : b = 0
        · rw [if_pos e, if_pos (by omega)]
        · rw [if_neg e, if_neg (by omega), show b - 1 = ns - 1 - (u + 1) by omega]
      have hnu : ns - (u + 1) = b := by omega
      by_cases hc : p (8 * a + b) = true
      · rw [if_pos hc, if_pos hc, if_neg (show ¬ (1 : Int32) = 0 by decide), nI_1]
        rw [if_pos hc] at hl hcs
        exact ⟨_, ⟨hz3, ⟨m + 1, rfl, by rw [hnu]; omega⟩, by rw [hnu]; exact hl⟩, rfl⟩
      · rw [if_neg hc, if_neg hc, if_pos rfl, Int32.add_zero]
        rw [if_neg hc] at hl hcs
        exact ⟨_, ⟨hz3, ⟨m, rfl, by rw [hnu]; omega⟩, by rw [hnu]; exact hl⟩, rfl⟩
    · rintro ⟨z1, z2, z4⟩ rc2 ⟨j1, ⟨m, j2, j3⟩, j4⟩
      dsimp only at j1 j2 j4 ⊢
      rw [if_pos rfl] at j1
      subst j1
      rw [if_pos (show (-1 : Int32) < 0 by decide)]
      unfold F_X9_rests_J239
      rw [m1 a]
      have hz3 : (if a = 0 then (-1 : Int32) else nI (a - 1)) = (if t + 1 = ns then -1 else nI (ns - 1 - (t + 1))) := by
        by_cases e : a = 0
        · rw [if_pos e, if_pos (by omega)]
        · rw [if_neg e, if_neg (by omega), show a - 1 = ns - 1 - (t + 1) by omega]
      rw [Nat.sub_self, Nat.add_zero] at j3 j4
      have hnt : ns - (t + 1) = a := by omega
      exact ⟨_, ⟨hz3, ⟨m, j2, by rw [hnt]; exact j3⟩, by rw [hnt]; exact j4⟩, rfl⟩
  · rintro ⟨x1, x2, x4⟩ rc ⟨i1, ⟨m, i2, i3⟩, i4⟩
    dsimp only at i1 i2 i4 ⊢
    rw [if_pos rfl] at i1
    subst i1
    rw [if_pos (show (-1 : Int32) < 0 by decide)]
    unfold F_X9_rests_J245
    rw [Nat.sub_self, Nat.mul_zero] at i3 i4
    have e0 : fb_ct p 0 = 0 := rfl
    refine ⟨x2, i4, ?_⟩
    rw [i2, show m = fb_ct p (8 * ns) by omega]
    split <;> rfl
theorem restsM {h : HP} {nb ns n i j : Nat} {x3 : Int32} {ln wh fr to : Nat → Nat} (c : Core h nb ns ln n wh fr to) (hi : i < nb) (hj : j < nb) (hij : i ≠ j) : ∃ h' G, lst (rsP (oF (h.1 134) nb ln i j) (oO (h.1 134) nb ln i j) ns) 0 (8 * ns) G ∧ F_X9_rests_L41 133 (nI i) (nI j) x3 (nI ns) sg_fuel (0, h) = some (if x3 = 0 then nI (fb_ct (rsP (oF (h.1 134) nb ln i j) (oO (h.1 134) nb ln i j) ns) (8 * ns)) else G, h') ∧ FN h h' := by
  have hM := c.1.1
  obtain ⟨m1, m2, m3, m4, m5, m6⟩ := id hM
  generalize hF : oF (h.1 134) nb ln i j = F
  generalize hO : oO (h.1 134) nb ln i j = O
  unfold F_X9_rests_L41
  refine lp_inv' (fun a x => x.1 = nI a ∧ (∀ a' b, a' < a → b < ns → x.2.1 152 (6 * a' + b) = F a' b ∧ x.2.1 153 (6 * a' + b) = O a' b) ∧ FN h x.2) (B := ns) (Q := fun r => ∃ h' G, lst (rsP F O ns) 0 (8 * ns) G ∧ r = some (if x3 = 0 then nI (fb_ct (rsP F O ns) (8 * ns)) else G, h') ∧ FN h h') ?_ ?_ sg_fuel 0 (0, h) (Nat.zero_le _) (fu (by omega)) ⟨rfl, fun a' b h1 _ => absurd h1 (Nat.not_lt_zero a'), FN.rf⟩
  · rintro a ⟨x1, x2⟩ rc ha ⟨rfl, i1, i2⟩
    left
    dsimp only at i1 i2 ⊢
    rw [if_neg (nI_ge ha (by omega))]
    unfold F_X9_rests_L51
    refine lp_inv' (fun b x => x.1 = nI b ∧ (∀ a' b', (a' < a ∧ b' < ns) ∨ (a' = a ∧ b' < b) → x.2.1 152 (6 * a' + b') = F a' b' ∧ x.2.1 153 (6 * a' + b') = O a' b') ∧ FN h x.2) (B := ns) (Q := fun r => ∃ x', (x'.1 = nI (a + 1) ∧ (∀ a' b, a' < a + 1 → b < ns → x'.2.1 152 (6 * a' + b) = F a' b ∧ x'.2.1 153 (6 * a' + b) = O a' b) ∧ FN h x'.2) ∧ r = rc x') ?_ ?_ sg_fuel 0 (0, x2) (Nat.zero_le _) (fu (by omega)) ⟨rfl, fun a' b' h1 => i1 a' b' (by omega) (by omega), i2⟩
    · rintro b ⟨z1, z2⟩ rc2 hb ⟨rfl, j1, j2⟩
      left
      dsimp only at j1 j2 ⊢
      obtain ⟨h', e1, e2, e3, e4⟩ := choiceM (j2.kp.core c) hi hj hij ha hb
      rw [j2.1 134 (by omega), hF] at e2
      rw [j2.1 134 (by omega), hO] at e3
      rw [if_neg (nI_ge hb (by omega)), e1, cl_some, nI_1]
      refine ⟨_, ⟨rfl, fun a' b' h1 => ?_, j2.trans e4⟩, rfl⟩
      dsimp only
      rw [e2, e3]
      by_cases e : a' = a ∧ b' = b
      · obtain ⟨rfl, rfl⟩ := e
        rw [upd_r, upd_r]
        exact ⟨rfl, rfl⟩
      · have hne : 6 * a' + b' ≠ 6 * a + b := by omega
        rw [upd_n hne, upd_n hne]
        exact j1 a' b' (by omega)
    · rintro ⟨z1, z2⟩ rc2 ⟨rfl, j1, j2⟩
      dsimp only at j1 j2 ⊢
      rw [if_pos (Int32.le_refl _)]
      unfold F_X9_rests_J74
      rw [nI_1]
      exact ⟨_, ⟨rfl, fun a' b h1 h2 => j1 a' b (by omega), j2⟩, rfl⟩
  · rintro ⟨x1, x2⟩ rc ⟨rfl, i1, i2⟩
    dsimp only at i1 i2 ⊢
    rw [if_pos (Int32.le_refl _)]
    obtain ⟨G, g1, g2⟩ := countM (x3 := x3) m4 c.1.2.2.1 (fun a b ha hb => i1 a b ha hb)
    exact ⟨x2, G, g1, g2, i2⟩
theorem step_rests (h : HP) (hI : Inv h) (x1 x2 x3 : Int32) : ∃ (r : Int32) (h1 h2 : HP), F_X8_rests 0 x1 x2 x3 h = some (r, h1) ∧ F_X9_rests 133 x1 x2 x3 h1 = some (r, h2) ∧ Inv h2 := by
  have hI0 := hI
  obtain ⟨nb, ns, ln, n, wh, fr, to, c, t, u, k, q⟩ := hI
  have hn := c.1.1.2.2.1
  have eB : ∀ {g : HP} {x : Int32}, g.1 134 = h.1 134 → F_X9_isBearer 133 x g = some (if 0 ≤ x ∧ x < nI nb then 1 else 0) := fun e => isB (by rw [e]; exact c.1.1.2.1) c.1.2.1 hn
  unfold F_X8_rests F_X9_rests F_X9_isTwo
  simp only [Nat.reduceAdd]
  rw [hasB c.2.1.2.2.1, hasB c.2.1.2.2.1, within_eq, inL (l := 0) (m := 1) (by decide) (by decide)]
  simp only [cl_some, b01]
  by_cases hx : 0 ≤ x1 ∧ x1 < nI nb
  · rw [if_pos hx]
    by_cases hx2 : 0 ≤ x2 ∧ x2 < nI nb
    · rw [if_pos hx2]
      by_cases he : x1 = x2
      · simp only [if_pos he]
        refine ⟨-1, h, h, rfl, ?_, hI0⟩
        rw [eB rfl, eB rfl, cl_some, b01, if_pos hx, cl_some, b01, if_pos hx2]
      · simp only [if_neg he]
        by_cases hx3 : 0 ≤ x3 ∧ x3 ≤ 1
        · simp only [if_pos hx3]
          obtain ⟨i, rfl, hi⟩ := nI_ex hx.1 hx.2 (by omega)
          obtain ⟨j, rfl, hj⟩ := nI_ex hx2.1 hx2.2 (by omega)
          have hij : i ≠ j := fun e => he (by rw [e])
          obtain ⟨h1, F, e1, e2, e3, e4, e5⟩ := weighC c hi hj
          obtain ⟨h2, G, g1, g2, g3⟩ := restsM (x3 := x3) (e5.kp.core c) hi hj hij
          have hU := e5.1 134 (by omega)
          rw [hU] at g1 g2
          have hFG := lst_one e4 g1
          have l : ld h1 134 0 = nI ns := by
            show h1.1 134 0 = nI ns
            rw [hU]; exact c.1.1.1
          rw [e1, cl_some, e2, e3]
          by_cases h0 : x3 = 0
          · rw [if_pos h0] at g2 ⊢
            refine ⟨_, h1, h2, rfl, ?_, g3.kp.inv (e5.kp.inv hI0)⟩
            rw [eB hU, eB hU, cl_some, b01, if_pos hx, cl_some, b01, if_pos hx2, nm_eq, l, g2]
          · rw [if_neg h0] at g2 ⊢
            refine ⟨_, h1, h2, rfl, ?_, g3.kp.inv (e5.kp.inv hI0)⟩
            rw [eB hU, eB hU, cl_some, b01, if_pos hx, cl_some, b01, if_pos hx2, nm_eq, l, g2, hFG]
        · simp only [if_neg hx3]
          refine ⟨-1, h, h, rfl, ?_, hI0⟩
          rw [eB rfl, eB rfl, cl_some, b01, if_pos hx, cl_some, b01, if_pos hx2]
    · rw [if_neg hx2]
      refine ⟨-1, h, h, rfl, ?_, hI0⟩
      rw [eB rfl, eB rfl, cl_some, b01, if_pos hx, cl_some, b01, if_neg hx2]
  · rw [if_neg hx]
    refine ⟨-1, h, h, rfl, ?_, hI0⟩
    rw [eB rfl, cl_some, b01, if_neg hx]
