def tollC (w x2 : Int32) : Int32 := if 1 ≤ (if x2 ≤ 1 then w else w / x2) then (if x2 ≤ 1 then w else w / x2) else 1
def tollV (x0 x1 x2 x3 : Int32) : Int32 := tollC (if x1 = 1 then 2 * x0 else if x1 = 3 then (if x3 ≤ 1 then x0 else x0 - 1) else x0) x2
theorem toll31 (x2 x4 : Int32) : F_X8_toll_J31 x2 x4 = some (tollC x4 x2) := by
  unfold F_X8_toll_J31 F_X8_toll_J45 tollC
  by_cases h : x2 ≤ 1
  · simp only [if_pos h]
    split <;> rfl
  · simp only [if_neg h]
    rw [gz_ok (fun e => h (by rw [e]; decide))]
    split <;> rfl
theorem toll_eq (x0 x1 x2 x3 : Int32) : F_X8_toll x0 x1 x2 x3 = some (tollV x0 x1 x2 x3) := by
  unfold F_X8_toll tollV
  simp only [toll31, nm_eq]
  split
  · rfl
  · split
    · split <;> rfl
    · rfl
theorem twins_eq {h : HP} {f nb : Nat} (hb : h.1 f 2 = nI nb) (hn : nb ≤ 6) : F_X1_twins f h = some (nI (mk (fun i => decide (h.1 (f + 5) i = 3)) nb)) := by
  unfold F_X1_twins F_X1_twins_L4
  refine lp_seq (fun i => (nI (mk (fun i => decide (h.1 (f + 5) i = 3)) i), nI i)) nb (fun i hi rc => ?_) (fun rc => ?_) sg_fuel (by rw [sg_fuel_eq]; omega)
  · dsimp only
    rw [hb, if_neg (nI_ge hi (by omega)), gd_ok (by omega) (by decide), ld_nI (by omega)]
    unfold F_X1_twins_J28
    rw [nI_1]
    have hlt : mk (fun i => decide (h.1 (f + 5) i = 3)) i < 64 := mk_lt (by omega)
    by_cases h3 : h.1 (f + 5) i = 3
    · rw [if_pos h3, nm_eq, mk_shl i (by omega), mk_or _ hlt _ (two64 (by omega))]
      simp [mk, h3]
    · rw [if_neg h3]
      simp [mk, h3]
  · dsimp only
    rw [hb, if_pos (Int32.le_refl _)]
theorem fu {n : Nat} (h : n ≤ 50000) : n < sg_fuel := by rw [sg_fuel_eq]; omega
theorem setCosts_eq {h : HP} {a f nb tb tw : Nat} {base : Int32} (hd : a + 7 ≤ f ∨ f + 7 ≤ a) (hr : h.2 a 0 = f + 1) (hb : h.1 f 2 = nI nb) (hn : nb ≤ 6) (htb : tb < 64) (htw : tw < 64) (ht : h.1 a 5 = nI tw) :
    F_X7_setCosts a (nI tb) base h = some (sa h (a + 6) (fun i => if i < nb ∧ tb.testBit i = true then tollV base (h.1 (f + 5) i) (nI (pc tb)) (nI (pc (tb &&& tw))) else h.1 (a + 6) i)) := by
  unfold F_X7_setCosts F_X7_setCosts_L19
  rw [mk_bitCount tb htb, cl_some, ht, mk_and _ htb _ htw, mk_bitCount _ (and64 htb), cl_some]
  refine lp_seq' (fun k => (nI k, sa h (a + 6) (fun i => if i < k ∧ tb.testBit i = true then tollV base (h.1 (f + 5) i) (nI (pc tb)) (nI (pc (tb &&& tw))) else h.1 (a + 6) i))) nb (fu (by omega)) ?_ (fun k hk rc => ?_) (fun rc => ?_)
  · rw [sa_id (by funext i; simp)]
    rfl
  · dsimp only
    rw [sa_2, hr, gn_ok (by omega), nm_eq, Nat.add_sub_cancel, sa_n (by omega), hb, if_neg (nI_ge hk (by omega)), mk_isIn tb htb k (by omega), cl_some]
    unfold F_X7_setCosts_J64
    rw [nI_1]
    by_cases hbit : tb.testBit k = true
    · rw [if_pos hbit, if_neg (by decide), gn_ok (by omega), nm_eq, gd_ok (by omega) (by decide), toll_eq, cl_some, gd_ok (by omega) (by decide), nm_eq, st_sa (by omega), sa_sa, ld_nI (by omega), sa_n (x := f + 5) (by omega), sa_r]
      congr 3
      funext i
      by_cases hi : i = k
      · subst hi
        simp [upd, hbit]
      · simp only [upd, if_neg hi, ltk hi]
    · rw [if_neg hbit, if_pos rfl]
      congr 3
      funext i
      by_cases hi : i = k
      · subst hi
        simp [hbit]
      · simp only [ltk hi]
  · dsimp only
    rw [sa_2, hr, gn_ok (by omega), nm_eq, Nat.add_sub_cancel, sa_n (by omega), hb, if_pos (Int32.le_refl _)]
theorem stumbling_eq {h : HP} {a f nb tb sm : Nat} {y : Int32} (hd : a + 7 ≤ f ∨ f + 7 ≤ a) (hr : h.2 a 0 = f + 1) (hb : h.1 f 2 = nI nb) (hn : nb ≤ 6) (htb : tb < 64) (hsm : sm < 64) (hs : h.1 a 4 = nI sm) :
    F_X7_stumbling a (nI tb) y h = some (nI (mk (fun i => tb.testBit i && decide (¬ h.1 (a + 6) i ≤ h.1 (a + 1) i)) nb), sa (sa h (a + 2) (fun i => if i < nb ∧ (tb.testBit i && decide (¬ h.1 (a + 6) i ≤ h.1 (a + 1) i)) = true then y else h.1 (a + 2) i)) a (upd (h.1 a) 4 (nI (sm ||| mk (fun i => tb.testBit i && decide (¬ h.1 (a + 6) i ≤ h.1 (a + 1) i)) nb)))) := by
  unfold F_X7_stumbling F_X7_stumbling_L5
  generalize hp : (fun i => tb.testBit i && decide (¬ h.1 (a + 6) i ≤ h.1 (a + 1) i)) = fp
  have hpi : ∀ i, fp i = (tb.testBit i && decide (¬ h.1 (a + 6) i ≤ h.1 (a + 1) i)) := fun i => by rw [← hp]
  refine lp_seq' (fun k => (nI (mk fp k), nI k, sa h (a + 2) (fun i => if i < k ∧ fp i = true then y else h.1 (a + 2) i))) nb (fu (by omega)) ?_ (fun k hk rc => ?_) (fun rc => ?_)
  · rw [sa_id (by funext i; simp)]
    rfl
  · dsimp only
    have hmk : mk fp k < 64 := mk_lt (by omega)
    rw [sa_2, hr, gn_ok (by omega), nm_eq, Nat.add_sub_cancel, sa_n (x := f) (by omega), hb, if_neg (nI_ge hk (by omega)), mk_isIn tb htb k (by omega), cl_some]
    unfold F_X7_stumbling_J58
    rw [nI_1]
    by_cases hbit : tb.testBit k = true
    · rw [if_pos hbit, if_neg (by decide), gd_ok (by omega) (by decide), gd_ok (by omega) (by decide), ld_nI (by omega), ld_nI (by omega), sa_n (x := a + 6) (by omega), sa_n (x := a + 1) (by omega)]
      by_cases hc : h.1 (a + 6) k ≤ h.1 (a + 1) k
      · have hpk : fp k = false := by rw [hpi, hbit]; simp [hc]
        rw [if_pos hc]
        congr 3
        · simp [mk, hpk]
        · congr 2
          funext i
          by_cases hi : i = k
          · subst hi
            simp [hpk]
          · simp only [ltk hi]
      · have hpk : fp k = true := by rw [hpi, hbit]; simp [hc]
        rw [if_neg hc, nm_eq, gd_ok (by omega) (by decide), nm_eq, st_sa (by omega), sa_sa, sa_r, mk_shl k (by omega), mk_or _ hmk _ (two64 (by omega))]
        congr 3
        · simp [mk, hpk]
        · congr 2
          funext i
          by_cases hi : i = k
          · subst hi
            simp [upd, hpk]
          · simp only [upd, if_neg hi, ltk hi]
    · have hpk : fp k = false := by rw [hpi]; simp [hbit]
      rw [if_neg hbit, if_pos rfl]
      congr 3
      · simp [mk, hpk]
      · congr 2
        funext i
        by_cases hi : i = k
        · subst hi
          simp [hpk]
        · simp only [ltk hi]
  · dsimp only
    have hmk : mk fp nb < 64 := mk_lt (by omega)
    rw [sa_2, hr, gn_ok (by omega), nm_eq, Nat.add_sub_cancel, sa_n (x := f) (by omega), hb, if_pos (Int32.le_refl _)]
    unfold F_X7_stumbling_J64
    rw [nm_eq, ui_sa, sa_n (x := a) (by omega), hs, mk_or _ hsm _ hmk]
    simp only [hpi]
theorem bringUp_eq {h : HP} {a f nb bm : Nat} {worth : Int32} (hd : a + 7 ≤ f ∨ f + 7 ≤ a) (hr : h.2 a 0 = f + 1) (hb : h.1 f 2 = nI nb) (hn : nb ≤ 6) (hbm : bm < 64) :
    F_X7_bringUp a (nI bm) worth h = some (sa (sa (sa h (a + 1) (fun i => if i < nb ∧ bm.testBit i = true then h.1 (a + 1) i - h.1 (a + 6) i else h.1 (a + 1) i)) (a + 3) (fun i => if i < nb ∧ bm.testBit i = true then h.1 (a + 3) i + 1 else h.1 (a + 3) i)) (a + 4) (fun i => if i < nb ∧ bm.testBit i = true then h.1 (a + 4) i + (if pc bm = 0 then 0 else worth / nI (pc bm)) else h.1 (a + 4) i)) := by
  unfold F_X7_bringUp
  rw [mk_bitCount _ hbm, cl_some]
  have hpc := pc_le bm hbm
  have hgo : ∀ part : Int32, F_X7_bringUp_J16 a (nI bm) part h = some (sa (sa (sa h (a + 1) (fun i => if i < nb ∧ bm.testBit i = true then h.1 (a + 1) i - h.1 (a + 6) i else h.1 (a + 1) i)) (a + 3) (fun i => if i < nb ∧ bm.testBit i = true then h.1 (a + 3) i + 1 else h.1 (a + 3) i)) (a + 4) (fun i => if i < nb ∧ bm.testBit i = true then h.1 (a + 4) i + part else h.1 (a + 4) i)) := by
    intro part
    unfold F_X7_bringUp_J16 F_X7_bringUp_L21
    refine lp_seq' (fun k => (nI k, (sa (sa (sa h (a + 1) (fun i => if i < k ∧ bm.testBit i = true then h.1 (a + 1) i - h.1 (a + 6) i else h.1 (a + 1) i)) (a + 3) (fun i => if i < k ∧ bm.testBit i = true then h.1 (a + 3) i + 1 else h.1 (a + 3) i)) (a + 4) (fun i => if i < k ∧ bm.testBit i = true then h.1 (a + 4) i + part else h.1 (a + 4) i)))) nb (fu (by omega)) ?_ (fun k hk rc => ?_) (fun rc => ?_)
    · have e1 : (sa h (a + 1) (fun i => if i < 0 ∧ bm.testBit i = true then h.1 (a + 1) i - h.1 (a + 6) i else h.1 (a + 1) i)) = h := sa_id (by funext i; simp)
      have e2 : (sa h (a + 3) (fun i => if i < 0 ∧ bm.testBit i = true then h.1 (a + 3) i + 1 else h.1 (a + 3) i)) = h := sa_id (by funext i; simp)
      have e3 : (sa h (a + 4) (fun i => if i < 0 ∧ bm.testBit i = true then h.1 (a + 4) i + part else h.1 (a + 4) i)) = h := sa_id (by funext i; simp)
      rw [e1, e2, e3]
      rfl
    · dsimp only
      rw [sa_2, sa_2, sa_2, hr, gn_ok (by omega), nm_eq, Nat.add_sub_cancel, sa_n (x := f) (by omega), sa_n (x := f) (by omega), sa_n (x := f) (by omega), hb, if_neg (nI_ge hk (by omega)), mk_isIn bm hbm k (by omega), cl_some]
      unfold F_X7_bringUp_J82
      rw [nI_1]
      by_cases hbit : bm.testBit k = true
      · have e1 : ∀ {b : Nat} {x y : Int32} , (fun i => if i = k then (if k < k ∧ bm.testBit k = true then x else y) else (0 : Int32)) = (fun i => if i = k then y else 0) := by intros; funext i; simp
        rw [if_pos hbit, if_neg (by decide), gd_ok (by omega) (by decide), gd_ok (by omega) (by decide), gd_ok (by omega) (by decide), nm_eq, gd_ok (by omega) (by decide), gd_ok (by omega) (by decide), nm_eq, gd_ok (by omega) (by decide), gd_ok (by omega) (by decide), nm_eq]
        simp only [ld_nI (show k < 2 ^ 31 by omega), st_sa (show k < 2 ^ 31 by omega)]
        congr 2
        refine Prod.ext ?_ rfl
        funext x i
        by_cases x1 : x = a + 1
        · subst x1
          by_cases hi : i = k
          · subst hi
            simp [sa_g, upd, hbit]
          · simp [sa_g, upd, hi, ltk hi]
        · by_cases x3 : x = a + 3
          · subst x3
            by_cases hi : i = k
            · subst hi
              simp [sa_g, upd, hbit]
            · simp [sa_g, upd, hi, ltk hi]
          · by_cases x4 : x = a + 4
            · subst x4
              by_cases hi : i = k
              · subst hi
                simp [sa_g, upd, hbit]
              · simp [sa_g, upd, hi, ltk hi]
            · simp [sa_g, x1, x3, x4]
      · rw [if_neg hbit, if_pos rfl]
        rw [ifk_no (p := bm.testBit) (X := fun i => h.1 (a + 1) i - h.1 (a + 6) i) hbit, ifk_no (p := bm.testBit) (X := fun i => h.1 (a + 3) i + 1) hbit, ifk_no (p := bm.testBit) (X := fun i => h.1 (a + 4) i + part) hbit]
    · dsimp only
      rw [sa_2, sa_2, sa_2, hr, gn_ok (by omega), nm_eq, Nat.add_sub_cancel, sa_n (x := f) (by omega), sa_n (x := f) (by omega), sa_n (x := f) (by omega), hb, if_pos (Int32.le_refl _)]
  by_cases h0 : pc bm = 0
  · rw [h0, if_pos (by decide), hgo]
    simp
  · rw [if_neg (nI_nle (by omega) (by omega)), gz_ok (nI_ne0 (by omega) (by omega)), hgo]
    simp [h0]
