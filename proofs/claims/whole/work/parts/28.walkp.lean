def uK (U : Nat → Int32) : Nat → Int32 := fun i => U (28 + i)
def uS (U : Nat → Int32) (ln : Nat → Nat) (ns : Nat) : Nat → Int32 := fun y => U (10 + so ln y ns)
def uP (U : Nat → Int32) (ln : Nat → Nat) (ns : Nat) : Nat → Int32 := fun y => U (16 + so ln y ns)
theorem acr_eq {h : HP} : F_X9_goesUp_J157 133 h = some (sa h 146 (fun i => if i < 6 ∧ (0 ≤ h.1 147 i ∨ h.1 143 (28 + i) = 2) then 0 else h.1 146 i)) := by
  unfold F_X9_goesUp_J157 F_X9_goesUp_L159
  simp only [Nat.reduceAdd]
  refine lp_seq' (fun k => (nI k, sa h 146 (fun i => if i < k ∧ (0 ≤ h.1 147 i ∨ h.1 143 (28 + i) = 2) then 0 else h.1 146 i))) 6 (fu (by omega)) ?_ (fun k hk rc => ?_) (fun rc => ?_)
  · rw [sa_id (by funext i; simp)]
    rfl
  · dsimp only
    unfold F_X9_goesUp_J192 F_X9_goesUp_J202
    simp only [Nat.reduceAdd]
    rw [if_neg (by have := nI_ge hk (by decide); exact this), lit_add 28 k]
    simp only [gd_ok hk (show 6 < 2 ^ 31 by decide), gd_ok (show 28 + k < 34 by omega) (show 34 < 2 ^ 31 by decide), nm_eq, nI_1, st_sa (show k < 2 ^ 31 by omega), ld_nI (show k < 2 ^ 31 by omega), ld_nI (show 28 + k < 2 ^ 31 by omega), sa_sa, sa_r]
    rw [sa_n (x := 147) (by decide), sa_n (x := 143) (by decide)]
    have e : ∀ v, v = (if (0 ≤ h.1 147 k ∨ h.1 143 (28 + k) = 2) then 0 else h.1 146 k) → upd (fun i => if i < k ∧ (0 ≤ h.1 147 i ∨ h.1 143 (28 + i) = 2) then 0 else h.1 146 i) k v = (fun i => if i < k + 1 ∧ (0 ≤ h.1 147 i ∨ h.1 143 (28 + i) = 2) then 0 else h.1 146 i) := by
      intro v hv
      subst hv
      funext i
      by_cases hi : i = k
      · subst hi
        simp [upd]
      · simp only [upd, if_neg hi, ltk hi]
    by_cases h1 : 0 ≤ h.1 147 k
    · rw [if_pos h1, e 0 (by simp [h1])]
    · rw [if_neg h1]
      by_cases h2 : h.1 143 (28 + k) = 2
      · rw [if_pos h2, e 0 (by simp [h2])]
      · rw [if_neg h2, e _ (by simp [h1, h2])]
  · dsimp only
    rw [if_pos (by decide)]
theorem unf_nd {x : HP} {nb m : Nat} {w : WS} (hW : MW x nb w) (hn : nb ≤ 6) (hm : m < 2 ^ nb) : mk (fun i => m.testBit i && decide (¬ 0 ≤ x.1 147 i)) nb = nd m w.2.2.2.2.1 := by
  obtain ⟨w1, w2, w3⟩ := hW
  have hm6 : m < 64 := Nat.lt_of_lt_of_le hm (two_le hn)
  have hs6 : w.2.2.2.2.1 < 64 := Nat.lt_of_lt_of_le w2 (two_le hn)
  refine mk_ext _ (mk_lt hn) _ (nd_lt hm6) (fun i hi => ?_)
  rw [mk_bit, nd_bit _ hm6 _ hs6 i hi]
  by_cases h1 : i < nb
  · obtain ⟨j1, j2, j3, j4, j5⟩ := w3 i h1
    rw [j2]
    by_cases hb : w.2.2.2.2.1.testBit i = true
    · rw [if_pos hb] at j5 ⊢
      simp [h1, hb, j5]
    · rw [if_neg hb]
      simp only [Bool.not_eq_true] at hb
      have : ¬ (0 : Int32) ≤ -1 := by decide
      simp only [h1, hb, this, decide_true, not_false_iff, Bool.not_false]
      simp
  · rw [bits_out hm (by omega)]
    simp
theorem wfm_congr {nb : Nat} {K L L' : Nat → Int32} {tb : Nat} {b : Int32} (hL : ∀ i, i < nb → L i = L' i) : wfm nb K L tb b = wfm nb K L' tb b := mk_congr (fun i hi => by rw [hL i hi])
theorem wbm_congr {nb : Nat} {K L L' : Nat → Int32} {tb : Nat} {b : Int32} (hL : ∀ i, i < nb → L i = L' i) : wbm nb K L tb b = wbm nb K L' tb b := by
  unfold wbm
  rw [wfm_congr hL]
theorem nd_lt2 {m s nb : Nat} (hm : m < 2 ^ nb) : nd m s < 2 ^ nb := Nat.lt_of_le_of_lt Nat.and_le_left hm
theorem nd_sub {m s i : Nat} (h : (nd m s).testBit i = true) : m.testBit i = true := by
  unfold nd at h
  rw [Nat.testBit_and, Bool.and_eq_true] at h
  exact h.1
theorem wfm_sub {nb : Nat} {K L : Nat → Int32} {tb : Nat} {b : Int32} {i : Nat} (h : (wfm nb K L tb b).testBit i = true) : i < nb ∧ tb.testBit i = true ∧ ¬ cV nb K tb b i ≤ L i := by
  rw [wfm, mk_bit] at h
  simp at h
  exact ⟨h.1, h.2.1, Int32.not_le.mpr h.2.2⟩
theorem MU.of {U U' : Nat → Int32} {nb ns : Nat} {ln : Nat → Nat} (c : MU U nb ns ln) (h : ∀ i, i < 34 → U' i = U i) : MU U' nb ns ln := by
  obtain ⟨m1, m2, m3, m4, m5, m6⟩ := c
  exact ⟨by rw [h 0 (by decide)]; exact m1, by rw [h 1 (by decide)]; exact m2, m3, m4, fun i hi => by rw [h (4 + i) (by omega)]; exact m5 i hi, m6⟩
/-- one yard of the model's walk -/
theorem goes1 {x : HP} {nb ns y T : Nat} {ln : Nat → Nat} {w : WS} {U : Nat → Int32} {d : Int32} (hn : nb ≤ 6) (hU : ∀ i, i < 34 → x.1 143 i = U i) (hM : MU U nb ns ln) (hd : x.1 133 17 = d) (hd2 : d = -1 ∨ 0 ≤ d) (hW : MW x nb w) (hy : y < lsum ln ns) (hT : F_X9_tolds 133 (nI y) x = some (nI T)) (hT2 : T < 2 ^ nb) (h4 : w.2.2.2.2.2 = -4) :
    ∃ x', (∀ rc, (cl (F_X9_stretchAt (133 + 10) (nI y) x) (fun p54 => gd (10 + p54) 34 ( cl (F_X9_rainAt 133 (nI y) x) (fun p71 => nm ((1 + (ld x (133 + 10) (10 + p54))) + p71) (fun v75 => cl (F_X9_tolds 133 (nI y) x) (fun p80 => cl (F_X9_unfallen 133 p80 x) (fun p83 => cl (F_X9_bears 133 (nI y) p83 v75 x) (fun p94 => cl (F_X9_bits p94.1) (fun p101 => (if (ld p94.2 (133 + 10) 2) ≤ p101 then gd (nI y) 120 ( nm (st p94.2 (133 + 16) (nI y) p94.1) (fun h128 => gd (16 + p54) 34 ( cl (F_X9_pays 133 p94.1 p83 v75 (60 * (ld h128 (133 + 10) (16 + p54))) h128) (fun p148 => F_X9_goesUp_J151 133 rc (nI (lsum ln ns)) (nI y) p148)))) else nm (ui p94.2 133 23 (nI y)) (fun h115 => F_X9_goesUp_J151 133 rc (nI (lsum ln ns)) (nI y) h115)))))))))) : Option HP) = rc (nI (y + 1), x')) ∧ MW x' nb (wstep nb (uK U) (U 2) T (wbase (uS U ln ns) (U 3) d y) (60 * uP U ln ns y) (nI y) w) ∧ x'.1 149 = upd (x.1 149) y (if U 2 ≤ nI (pc (wbm nb (uK U) w.1 (nd T w.2.2.2.2.1) (wbase (uS U ln ns) (U 3) d y))) then nI (wbm nb (uK U) w.1 (nd T w.2.2.2.2.1) (wbase (uS U ln ns) (U 3) d y)) else x.1 149 y) ∧ FrM x x' := by
  have hm := id hM
  obtain ⟨m1, m2, m3, m4, m5, m6⟩ := hM
  obtain ⟨s1, s2, s3⟩ := so_spec hy
  generalize hs : so ln y ns = s at s1 s2 s3
  have hT6 : T < 64 := Nat.lt_of_lt_of_le hT2 (two_le hn)
  have hrain : ∃ r, F_X9_rainAt 133 (nI y) x = some r ∧ 1 + U (10 + s) + r = wbase (uS U ln ns) (U 3) d y := by
    unfold F_X9_rainAt wbase uS
    rw [hs]
    simp only [Nat.reduceAdd]
    have l3 : ld x 143 3 = U 3 := hU 3 (by decide)
    rw [hd, l3]
    rcases hd2 with e | e
    · subst e
      refine ⟨_, if_neg (by decide), ?_⟩
      simp [drV]
    · have e1 : ¬ d = -1 := fun z => by rw [z] at e; exact absurd e (by decide)
      rw [if_pos e, nm_eq]
      refine ⟨_, rfl, ?_⟩
      unfold drV
      rw [if_neg e1]
      simp only [Int32.add_assoc]
  obtain ⟨r, hr1, hr2⟩ := hrain
  generalize hbase : wbase (uS U ln ns) (U 3) d y = base at hr2 ⊢
  have hMx : MU (x.1 143) nb ns ln := hm.of hU
  have hset := unf_nd hW hn hT2
  obtain ⟨w1, w2, w3⟩ := id hW
  generalize hsm : w.2.2.2.2.1 = sm at w2 w3 hset ⊢
  generalize htb : nd T sm = tb at hset ⊢
  have htb2 : tb < 2 ^ nb := by rw [← htb]; exact nd_lt2 hT2
  have htb6 : tb < 64 := Nat.lt_of_lt_of_le htb2 (two_le hn)
  have hKx : ∀ j, j < nb → x.1 143 (28 + j) = uK U j := fun j hj => hU (28 + j) (by omega)
  have hwb : wbm nb (uK U) (x.1 145) tb base = wbm nb (uK U) w.1 tb base := wbm_congr (fun i hi => (w3 i hi).1)
  have hwf : wfm nb (uK U) (x.1 145) tb base = wfm nb (uK U) w.1 tb base := wfm_congr (fun i hi => (w3 i hi).1)
  have hbears : F_X9_bears 133 (nI y) (nI tb) base x = some (nI (wbm nb (uK U) w.1 tb base), sa x 147 (fun i => if (wfm nb (uK U) w.1 tb base).testBit i = true then nI y else x.1 147 i)) := by
    rw [bears_eq (nb := nb) hKx (by rw [hU 1 (by decide)]; exact m2) hn htb2, hwb, hwf]
  generalize hbm : wbm nb (uK U) w.1 tb base = bm at hbears ⊢
  generalize hfm : wfm nb (uK U) w.1 tb base = fm at hbears ⊢
  have hfs : ∀ i, fm.testBit i = true → i < nb ∧ tb.testBit i = true := by
    intro i hi
    rw [← hfm] at hi
    exact ⟨(wfm_sub hi).1, (wfm_sub hi).2.1⟩
  have hf2 : fm < 2 ^ nb := by rw [← hfm]; exact mk_lt2 (Nat.le_refl _)
  have hb2 : bm < 2 ^ nb := by rw [← hbm]; exact nd_lt2 htb2
  have hb6 : bm < 64 := Nat.lt_of_lt_of_le hb2 (two_le hn)
  have hbs : ∀ i, bm.testBit i = true → tb.testBit i = true := by
    intro i hi
    rw [← hbm] at hi
    exact nd_sub hi
  have hys : nI y = nI y := rfl
  have h0y : (0 : Int32) ≤ nI y := nI_le (a := 0) (Nat.zero_le _) (by omega)
  -- the fallen
  have hfell : ∀ i, i < nb → (if fm.testBit i = true then nI y else x.1 147 i) = (if (sm ||| fm).testBit i = true then (if fm.testBit i = true then nI y else w.2.1 i) else -1) ∧ (if (sm ||| fm).testBit i = true then (0 : Int32) ≤ (if fm.testBit i = true then nI y else w.2.1 i) else (if fm.testBit i = true then nI y else w.2.1 i) = -4) := by
    intro i hi
    obtain ⟨j1, j2, j3, j4, j5⟩ := w3 i hi
    rw [Nat.testBit_or]
    by_cases hf : fm.testBit i = true
    · simp [hf, h0y]
    · simp only [Bool.not_eq_true] at hf
      simp only [hf, Bool.or_false, Bool.false_eq_true, if_false]
      exact ⟨j2, j5⟩
  refine ⟨if U 2 ≤ nI (pc bm) then sa (sa (sa (sa (sa x 147 (fun i => if fm.testBit i = true then nI y else x.1 147 i)) 149 (upd (x.1 149) y (nI bm))) 145 (fun i => if bm.testBit i = true then x.1 145 i - cV nb (uK U) tb base i else x.1 145 i)) 146 (fun i => if bm.testBit i = true then x.1 146 i + wpart bm (60 * uP U ln ns y) else x.1 146 i)) 148 (fun i => if bm.testBit i = true then x.1 148 i + 1 else x.1 148 i) else sa (sa x 147 (fun i => if fm.testBit i = true then nI y else x.1 147 i)) 133 (upd (x.1 133) 23 (nI y)), fun rc => ?_, ?_, ?_, ?_⟩
  · simp only [Nat.reduceAdd]
    rw [stretchAt_eq (q := 143) hMx rfl s1 s2 s3, cl_some, lit_add 10 s, gd_ok (by omega) (by decide), hr1, cl_some, nm_eq, hT, cl_some, ld_nI (by omega), hU (10 + s) (by omega), hr2, unfallen_eq (nb := nb) (by rw [hU 1 (by decide)]; exact m2) hn hT6, cl_some, hset, hbears, cl_some]
    rw [mk_bits _ hb6, cl_some]
    have l2 : ∀ f, ld (sa x 147 f) 143 2 = U 2 := fun f => hU 2 (by decide)
    rw [l2]
    unfold F_X9_goesUp_J151
    rw [nI_1]
    by_cases hc : U 2 ≤ nI (pc bm)
    · rw [if_pos hc, if_pos hc, gd_ok (by omega) (by decide), nm_eq, lit_add 16 s, gd_ok (by omega) (by decide), st_sa (by omega), ld_nI (by omega), pays_eq (nb := nb) (K := uK U) (fun j hj => by rw [sa_n (by decide), sa_n (by decide)]; exact hKx j hj) (by rw [sa_n (by decide), sa_n (by decide), hU 1 (by decide)]; exact m2) hn hb2 htb6 hbs, cl_some]
      have e1 : (sa (sa x 147 fun i => if fm.testBit i = true then nI y else x.1 147 i) 149 (upd ((sa x 147 fun i => if fm.testBit i = true then nI y else x.1 147 i).1 149) y (nI bm))).1 143 (16 + s) = uP U ln ns y := by
        rw [sa_n (by decide), sa_n (by decide), hU (16 + s) (by omega)]
        unfold uP
        rw [hs]
      rw [e1]
      rfl
    · rw [if_neg hc, if_neg hc, nm_eq, ui_sa, sa_n (x := 133) (by decide)]
  · unfold wstep
    rw [if_pos h4, hsm, htb, hbm, hfm]
    by_cases hc : U 2 ≤ nI (pc bm)
    · rw [if_pos hc, if_pos hc]
      refine ⟨?_, Nat.or_lt_two_pow w2 hf2, fun i hi => ?_⟩
      · rw [sa_n (by decide), sa_n (by decide), sa_n (by decide), sa_n (by decide), sa_n (by decide), w1, h4]
      · obtain ⟨j1, j2, j3, j4, j5⟩ := w3 i hi
        refine ⟨?_, ?_, ?_, ?_, (hfell i hi).2⟩
        · simp [sa_g, j1]
        · simpa [sa_g] using (hfell i hi).1
        · simp [sa_g, j3]
        · simp [sa_g, j4]
    · rw [if_neg hc, if_neg hc]
      refine ⟨?_, Nat.or_lt_two_pow w2 hf2, fun i hi => ?_⟩
      · simp [sa_g, upd]
      · obtain ⟨j1, j2, j3, j4, j5⟩ := w3 i hi
        refine ⟨?_, ?_, ?_, ?_, (hfell i hi).2⟩
        · simp [sa_g, j1]
        · simpa [sa_g] using (hfell i hi).1
        · simp [sa_g, j3]
        · simp [sa_g, j4]
  · by_cases hc : U 2 ≤ nI (pc bm)
    · rw [if_pos hc, if_pos hc]
      simp [sa_g]
    · rw [if_neg hc, if_neg hc]
      rw [fa_upd_same rfl]
      simp [sa_g]
  · by_cases hc : U 2 ≤ nI (pc bm)
    · rw [if_pos hc]
      refine ⟨fun z hz => ?_, fun j hj => ?_, rfl⟩
      · rw [sa_n (by omega), sa_n (by omega), sa_n (by omega), sa_n (by omega), sa_n (by omega)]
      · rw [sa_n (by omega), sa_n (by omega), sa_n (by omega), sa_n (by omega), sa_n (by omega)]
    · rw [if_neg hc]
      refine ⟨fun z hz => ?_, fun j hj => ?_, rfl⟩
      · rw [sa_n (by omega), sa_n (by omega)]
      · rw [sa_r]
        simp [upd, hj]
