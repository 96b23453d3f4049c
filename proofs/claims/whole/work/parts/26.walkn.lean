def anyb (p : Nat → Bool) : Nat → Bool
  | 0 => false
  | n + 1 => anyb p n || p n
theorem anyb_iff {p : Nat → Bool} : ∀ {n : Nat}, anyb p n = true ↔ ∃ j, j < n ∧ p j = true
  | 0 => by simp [anyb]
  | n + 1 => by
    unfold anyb
    rw [Bool.or_eq_true, anyb_iff]
    constructor
    · rintro (⟨j, h1, h2⟩ | h)
      · exact ⟨j, by omega, h2⟩
      · exact ⟨n, by omega, h⟩
    · rintro ⟨j, h1, h2⟩
      by_cases hj : j = n
      · subst hj; exact Or.inr h2
      · exact Or.inl ⟨j, by omega, h2⟩
theorem nI_inj6 : ∀ i, i < 6 → ∀ j, j < 6 → (nI i = nI j ↔ i = j) := by decide +kernel
theorem isTwin_eq {h : HP} {q nb tb i : Nat} (hb : h.1 q 1 = nI nb) (hn : nb ≤ 6) (htb : tb < 64) (hN : sg_N q = 34) (hi : i < 6) : F_X9_isTwin q (nI tb) (nI i) h = some (if anyb (fun j => !decide (j = i) && (tb.testBit j && decide (h.1 q (28 + j) = 3))) nb = true then 1 else 0) := by
  unfold F_X9_isTwin F_X9_isTwin_L5
  rw [hN]
  have l0 : ld h q 1 = nI nb := by rw [← hb]; rfl
  refine lp_seq' (fun k => ((if anyb (fun j => !decide (j = i) && (tb.testBit j && decide (h.1 q (28 + j) = 3))) k = true then 1 else 0), nI k)) nb (fu (by omega)) rfl (fun k hk rc => ?_) (fun rc => ?_)
  · dsimp only
    rw [show gd (1 : Int32) 34 = gd (nI 1) 34 from rfl, gd_ok (by decide) (by decide), l0, if_neg (nI_ge hk (by omega))]
    unfold F_X9_isTwin_J43 F_X9_isTwin_J47 F_X9_isTwin_J48
    rw [nI_1, b01]
    by_cases ha : anyb (fun j => !decide (j = i) && (tb.testBit j && decide (h.1 q (28 + j) = 3))) k = true
    · rw [if_pos ha]
      simp [anyb, ha]
    · rw [if_neg ha, mk_has _ htb k (by omega), cl_some, b01, lit_add 28 k, gd_ok (by omega) (by decide), ld_nI (by omega)]
      by_cases hki : k = i
      · subst hki
        rw [if_pos rfl]
        simp [anyb, ha]
      · rw [if_neg (fun z => hki ((nI_inj6 k (by omega) i hi).mp z))]
        by_cases hbit : tb.testBit k = true
        · rw [if_pos hbit]
          by_cases h3 : h.1 q (28 + k) = 3
          · rw [if_pos h3]
            simp [anyb, hki, hbit, h3]
          · rw [if_neg h3]
            simp [anyb, ha, h3]
        · rw [if_neg hbit]
          simp [anyb, ha, hbit]
  · dsimp only
    rw [show gd (1 : Int32) 34 = gd (nI 1) 34 from rfl, gd_ok (by decide) (by decide), l0, if_pos (Int32.le_refl _), gb_ok (by split <;> simp)]
theorem pc_one : ∀ t, t < 64 → ∀ i, i < 6 → t.testBit i = true → (pc t ≤ 1 ↔ ∀ j, j < 6 → j ≠ i → t.testBit j = false) := by
  have h : ∀ t, t < 64 → ∀ i, i < 6 → t.testBit i = true → (pc t ≤ 1 ↔ ∀ j, j < 6 → (j = i ∨ t.testBit j = false)) := by decide +kernel
  intro t ht i hi hb
  rw [h t ht i hi hb]
  exact ⟨fun z j hj hji => (z j hj).resolve_left hji, fun z j hj => if e : j = i then Or.inl e else Or.inr (z j hj e)⟩
theorem pc_pos : ∀ t, t < 64 → ∀ i, i < 6 → t.testBit i = true → 1 ≤ pc t := by decide +kernel
theorem tollC_eq {w : Int32} {n : Nat} (h1 : 1 ≤ n) (h2 : n ≤ 6) : tollC w (nI n) = if 1 ≤ w / nI n then w / nI n else 1 := by
  unfold tollC
  by_cases h : n = 1
  · subst h
    have : w / nI 1 = w := by
      rw [fa_eq]
      rw [show nI 1 = 1 from rfl]
      simp [Int32.toInt_div]
    rw [this]
    have e : (if nI 1 ≤ 1 then w else w) = w := by split <;> rfl
    rw [e]
  · have e : ¬ nI n ≤ 1 := fun z => by have := (nI_leI (a := n) (b := 1) (by omega) (by omega)).mp z; omega
    rw [if_neg e]
theorem twm_bit {nb : Nat} {K : Nat → Int32} {j : Nat} : (twm nb K).testBit j = (decide (j < nb) && decide (K j = 3)) := mk_bit
theorem cost_eq0 {h : HP} {q nb tb i : Nat} {plain : Int32} (hb : h.1 q 1 = nI nb) (hn : nb ≤ 6) (htb : tb < 64) (hN : sg_N q = 34) (hi : i < nb) (hbit : tb.testBit i = true) : F_X9_cost q (nI i) (nI tb) plain h = some (cV nb (fun i => h.1 q (28 + i)) tb plain i) := by
  have hp1 := pc_pos tb htb i (by omega) hbit
  have hp2 := pc_le tb htb
  have hJ : ∀ s, F_X9_cost_J42 q (nI tb) s h = some (tollC s (nI (pc tb))) := by
    intro s
    unfold F_X9_cost_J42
    rw [mk_bits _ htb, cl_some, gz_ok (nI_ne0 (by omega) (by omega)), nm_eq, tollC_eq hp1 hp2]
    split <;> rfl
  unfold F_X9_cost F_X9_cost_J41 cV tollV
  rw [hN, lit_add 28 i, gd_ok (by omega) (by decide), nm_eq, ld_nI (by omega), isTwin_eq hb hn htb hN (by omega), cl_some, b01]
  simp only [hJ]
  by_cases h1 : h.1 q (28 + i) = 1
  · rw [if_pos h1, if_pos h1]
  · rw [if_neg h1, if_neg h1]
    by_cases h3 : h.1 q (28 + i) = 3
    · rw [if_pos h3, if_pos h3]
      have htw : (tb &&& twm nb (fun i => h.1 q (28 + i))).testBit i = true := by
        rw [Nat.testBit_and, twm_bit, hbit]
        simp [hi, h3]
      have key := pc_one _ (and64 htb (s := twm nb (fun i => h.1 q (28 + i)))) i (by omega) htw
      have hle := pc_le _ (and64 htb (s := twm nb (fun i => h.1 q (28 + i))))
      by_cases ha : anyb (fun j => !decide (j = i) && (tb.testBit j && decide (h.1 q (28 + j) = 3))) nb = true
      · rw [if_pos ha, if_neg]
        obtain ⟨j, j1, j2⟩ := anyb_iff.mp ha
        simp at j2
        intro z
        have := key.mp (by have := (nI_leI (a := pc (tb &&& twm nb (fun i => h.1 q (28 + i)))) (b := 1) (by omega) (by omega)).mp z; exact this) j (by omega) j2.1
        rw [Nat.testBit_and, twm_bit, j2.2.1] at this
        simp [j1, j2.2.2] at this
      · rw [if_neg ha, if_pos]
        refine nI_le (b := 1) (key.mpr (fun j hj hji => ?_)) (by omega)
        rw [Nat.testBit_and, twm_bit]
        by_cases hjn : j < nb
        · by_cases hc : tb.testBit j = true ∧ h.1 q (28 + j) = 3
          · exact absurd (anyb_iff.mpr ⟨j, hjn, by simp [hji, hc.1, hc.2]⟩) ha
          · by_cases h5 : tb.testBit j = true
            · have h6 : ¬ h.1 q (28 + j) = 3 := fun z => hc ⟨h5, z⟩
              simp [h6]
            · simp at h5
              simp [h5]
        · simp [hjn]
    · rw [if_neg h3, if_neg h3]
theorem cV_congr {nb : Nat} {K K' : Nat → Int32} {tb : Nat} {b : Int32} {i : Nat} (hK : ∀ j, j < nb → K j = K' j) (hi : i < nb) : cV nb K tb b i = cV nb K' tb b i := by
  unfold cV
  have : twm nb K = twm nb K' := mk_congr (fun j hj => by rw [hK j hj])
  rw [this, hK i hi]
theorem cost_eq {h : HP} {q nb tb i : Nat} {plain : Int32} {K : Nat → Int32} (hK : ∀ j, j < nb → h.1 q (28 + j) = K j) (hb : h.1 q 1 = nI nb) (hn : nb ≤ 6) (htb : tb < 64) (hN : sg_N q = 34) (hi : i < nb) (hbit : tb.testBit i = true) : F_X9_cost q (nI i) (nI tb) plain h = some (cV nb K tb plain i) := by
  rw [cost_eq0 hb hn htb hN hi hbit, cV_congr hK hi]
theorem bits_out {m nb i : Nat} (h : m < 2 ^ nb) (hi : nb ≤ i) : m.testBit i = false := Nat.testBit_lt_two_pow (Nat.lt_of_lt_of_le h (Nat.pow_le_pow_right (by decide) hi))
theorem two_le {nb : Nat} (h : nb ≤ 6) : 2 ^ nb ≤ 64 := Nat.pow_le_pow_right (n := 2) (by decide) h
theorem mk_lt2 {p : Nat → Bool} {n nb : Nat} (h : n ≤ nb) : mk p n < 2 ^ nb := by
  induction n with
  | zero => exact Nat.two_pow_pos nb
  | succ n ih =>
    unfold mk
    refine Nat.or_lt_two_pow (ih (by omega)) ?_
    split
    · exact Nat.pow_lt_pow_right (by decide) (by omega)
    · exact Nat.two_pow_pos nb
theorem bears_eq {h : HP} {nb tb : Nat} {y plain : Int32} {K : Nat → Int32} (hK : ∀ j, j < nb → h.1 143 (28 + j) = K j) (hb : h.1 143 1 = nI nb) (hn : nb ≤ 6) (htb : tb < 2 ^ nb) : F_X9_bears 133 y (nI tb) plain h = some (nI (wbm nb K (h.1 145) tb plain), sa h 147 (fun i => if (wfm nb K (h.1 145) tb plain).testBit i = true then y else h.1 147 i)) := by
  have htb6 : tb < 64 := Nat.lt_of_lt_of_le htb (two_le hn)
  unfold F_X9_bears F_X9_bears_L6
  simp only [Nat.reduceAdd]
  have l0 : ∀ {f : Nat → Int32}, ld (sa h 147 f) 143 1 = nI nb := by intro f; rw [← hb]; rfl
  refine lp_seq' (fun k => (nI (mk (fun i => tb.testBit i && decide (cV nb K tb plain i ≤ h.1 145 i)) k), nI k, sa h 147 (fun i => if i < k ∧ (tb.testBit i && decide (¬ cV nb K tb plain i ≤ h.1 145 i)) = true then y else h.1 147 i))) nb (fu (by omega)) ?_ (fun k hk rc => ?_) (fun rc => ?_)
  · rw [sa_id (by funext i; simp)]
    rfl
  · dsimp only
    have hlt : mk (fun i => tb.testBit i && decide (cV nb K tb plain i ≤ h.1 145 i)) k < 64 := mk_lt (by omega)
    rw [l0, if_neg (nI_ge hk (by omega)), mk_has _ htb6 k (by omega), cl_some, b01]
    unfold F_X9_bears_J52 F_X9_bears_J69 F_X9_bears_J94 F_X9_bears_J95
    simp only [nI_1, Nat.reduceAdd]
    by_cases hbit : tb.testBit k = true
    · rw [if_pos hbit, gd_ok (by omega) (by decide), cost_eq (nb := nb) (K := K) (fun j hj => by rw [sa_n (by decide)]; exact hK j hj) (by rw [sa_n (by decide)]; exact hb) hn htb6 rfl hk hbit, cl_some, ld_nI (by omega), sa_n (x := 145) (by decide)]
      by_cases hc : cV nb K tb plain k ≤ h.1 145 k
      · rw [if_neg (Int32.not_lt.mpr hc), if_neg (by decide), nm_eq, if_neg (by decide), gd_ok (by omega) (by decide), gd_ok (by omega) (by decide), nm_eq, ld_nI (by omega), st_sa (by omega), sa_sa, mk_shl k (by omega), mk_or _ hlt _ (two64 (by omega)), sa_r]
        congr 3
        · simp [mk, hbit, hc]
        · congr 2
          funext i
          by_cases hi : i = k
          · subst hi
            simp [upd, hc]
          · simp only [upd, if_neg hi, ltk hi]
      · rw [if_pos (Int32.not_le.mp hc), if_pos trivial, nm_eq, if_pos trivial, gd_ok (by omega) (by decide), nm_eq, st_sa (by omega), sa_sa, mk_or0 _ hlt, sa_r]
        congr 3
        · simp [mk, hc]
        · congr 2
          funext i
          by_cases hi : i = k
          · subst hi
            simp [upd, hbit, hc]
          · simp only [upd, if_neg hi, ltk hi]
    · rw [if_neg hbit]
      congr 3
      · simp [mk, hbit]
      · congr 2
        funext i
        by_cases hi : i = k
        · subst hi
          simp [hbit]
        · simp only [ltk hi]
  · dsimp only
    rw [l0, if_pos (Int32.le_refl _)]
    congr 2
    · congr 1
      unfold wbm
      refine mk_ext _ (mk_lt hn) _ (nd_lt htb6) (fun i hi => ?_)
      rw [wfm, nd_bit _ htb6 _ (mk_lt hn) i hi, mk_bit, mk_bit]
      by_cases h1 : i < nb
      · by_cases h2 : tb.testBit i = true
        · simp only [h1, h2, decide_true, Bool.true_and, decide_not, Bool.not_not]
        · simp [h2]
      · rw [bits_out htb (by omega)]
        simp
    · congr 1
      funext i
      have : (i < nb ∧ (tb.testBit i && decide (¬ cV nb K tb plain i ≤ h.1 145 i)) = true) ↔ (wfm nb K (h.1 145) tb plain).testBit i = true := by
        rw [wfm, mk_bit]
        simp
      simp only [this]
theorem pays_eq {h : HP} {nb bm tb : Nat} {plain worth : Int32} {K : Nat → Int32} (hK : ∀ j, j < nb → h.1 143 (28 + j) = K j) (hb : h.1 143 1 = nI nb) (hn : nb ≤ 6) (hbm : bm < 2 ^ nb) (htb : tb < 64) (hsub : ∀ i, bm.testBit i = true → tb.testBit i = true) :
    F_X9_pays 133 (nI bm) (nI tb) plain worth h = some (sa (sa (sa h 145 (fun i => if bm.testBit i = true then h.1 145 i - cV nb K tb plain i else h.1 145 i)) 146 (fun i => if bm.testBit i = true then h.1 146 i + wpart bm worth else h.1 146 i)) 148 (fun i => if bm.testBit i = true then h.1 148 i + 1 else h.1 148 i)) := by
  have hbm6 : bm < 64 := Nat.lt_of_lt_of_le hbm (two_le hn)
  unfold F_X9_pays F_X9_pays_L3
  simp only [Nat.reduceAdd]
  refine lp_seq' (fun k => (nI k, sa (sa (sa h 145 (fun i => if i < k ∧ bm.testBit i = true then h.1 145 i - cV nb K tb plain i else h.1 145 i)) 146 (fun i => if i < k ∧ bm.testBit i = true then h.1 146 i + wpart bm worth else h.1 146 i)) 148 (fun i => if i < k ∧ bm.testBit i = true then h.1 148 i + 1 else h.1 148 i))) nb (fu (by omega)) ?_ (fun k hk rc => ?_) (fun rc => ?_)
  · rw [sa_id (q := 145) (by funext i; simp), sa_id (q := 146) (by funext i; simp), sa_id (q := 148) (by funext i; simp)]
    rfl
  · dsimp only
    have l0 : ∀ {f g e : Nat → Int32}, ld (sa (sa (sa h 145 f) 146 g) 148 e) 143 1 = nI nb := by intro f g e; rw [← hb]; rfl
    rw [l0, if_neg (nI_ge hk (by omega)), mk_has _ hbm6 k (by omega), cl_some, b01]
    unfold F_X9_pays_J72
    rw [nI_1]
    by_cases hbit : bm.testBit k = true
    · have hp1 := pc_pos bm hbm6 k (by omega) hbit
      have hp2 := pc_le bm hbm6
      rw [if_pos hbit, gd_ok (by omega) (by decide), cost_eq (nb := nb) (K := K) (fun j hj => by rw [sa_n (by decide), sa_n (by decide), sa_n (by decide)]; exact hK j hj) (by rw [sa_n (by decide), sa_n (by decide), sa_n (by decide)]; exact hb) hn htb rfl hk (hsub k hbit), cl_some, gd_ok (by omega) (by decide), nm_eq, gd_ok (by omega) (by decide), mk_bits _ hbm6, cl_some, gz_ok (nI_ne0 (by omega) (by omega)), gd_ok (by omega) (by decide), nm_eq, gd_ok (by omega) (by decide), gd_ok (by omega) (by decide), nm_eq]
      simp only [ld_nI (show k < 2 ^ 31 by omega), st_sa (show k < 2 ^ 31 by omega)]
      have hw : wpart bm worth = worth / nI (pc bm) := by unfold wpart; rw [if_neg (by omega)]
      congr 2
      refine Prod.ext ?_ rfl
      funext x i
      by_cases x1 : x = 145
      · subst x1
        by_cases hi : i = k
        · subst hi
          simp [sa_g, upd, hbit]
        · simp [sa_g, upd, hi, ltk hi]
      · by_cases x3 : x = 146
        · subst x3
          by_cases hi : i = k
          · subst hi
            simp [sa_g, upd, hbit, hw]
          · simp [sa_g, upd, hi, ltk hi]
        · by_cases x4 : x = 148
          · subst x4
            by_cases hi : i = k
            · subst hi
              simp [sa_g, upd, hbit]
            · simp [sa_g, upd, hi, ltk hi]
          · simp [sa_g, x1, x3, x4]
    · rw [if_neg hbit]
      rw [ifk_no (p := bm.testBit) (X := fun i => h.1 145 i - cV nb K tb plain i) hbit, ifk_no (p := bm.testBit) (X := fun i => h.1 146 i + wpart bm worth) hbit, ifk_no (p := bm.testBit) (X := fun i => h.1 148 i + 1) hbit]
  · dsimp only
    have l0 : ∀ {f g e : Nat → Int32}, ld (sa (sa (sa h 145 f) 146 g) 148 e) 143 1 = nI nb := by intro f g e; rw [← hb]; rfl
    rw [l0, if_pos (Int32.le_refl _)]
    have e1 : ∀ i, (i < nb ∧ bm.testBit i = true) ↔ bm.testBit i = true := fun i => ⟨fun z => z.2, fun z => ⟨by
      rcases Nat.lt_or_ge i nb with q | q
      · exact q
      · rw [bits_out hbm q] at z; exact absurd z (by decide), z⟩⟩
    simp only [e1]
