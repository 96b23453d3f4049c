def w0 (ST : Nat → Int32) : WS := (ST, fun _ => -4, fun _ => 0, fun _ => 0, 0, -4)
/-- outside the walk's rows nothing changes, nor of other cells' references -/
def FrB (a : Nat) (h h' : HP) : Prop := (∀ x, (x < a ∨ a + 7 ≤ x) → h'.1 x = h.1 x) ∧ ∀ x, x ≠ a → h'.2 x = h.2 x
theorem FrB.trans {a : Nat} {h1 h2 h3 : HP} (p : FrB a h1 h2) (q : FrB a h2 h3) : FrB a h1 h3 := ⟨fun x hx => (q.1 x hx).trans (p.1 x hx), fun x hx => (q.2 x hx).trans (p.2 x hx)⟩
theorem FrW.B {a : Nat} {h h' : HP} (p : FrW a h h') : FrB a h h' := ⟨fun x hx => p.1 x (by omega), fun x _ => by rw [p.2]⟩
theorem begin_eq {h : HP} {a f nb : Nat} {K : Nat → Int32} (hd : a + 7 ≤ f ∨ f + 7 ≤ a) (hb : h.1 f 2 = nI nb) (hn : nb ≤ 6) (hK : ∀ i, i < nb → h.1 (f + 5) i = K i) :
    ∃ h', F_X7_begin a f h = some h' ∧ WK h' a f nb K (h.1 f 3) (-1) (w0 (h.1 (f + 4))) ∧ FrB a h h' := by
  unfold F_X7_begin F_X7_begin_L39
  simp only [nm_eq, ui_sa]
  have htw : F_X1_twins f (sa (sa (sa (sa (ur h a 0 (f + 1)) a (upd ((ur h a 0 (f + 1)).1 a) 1 ((ur h a 0 (f + 1)).1 f 3))) a (upd ((sa (ur h a 0 (f + 1)) a (upd ((ur h a 0 (f + 1)).1 a) 1 ((ur h a 0 (f + 1)).1 f 3))).1 a) 2 (-1))) a (upd ((sa (sa (ur h a 0 (f + 1)) a (upd ((ur h a 0 (f + 1)).1 a) 1 ((ur h a 0 (f + 1)).1 f 3))) a (upd ((sa (ur h a 0 (f + 1)) a (upd ((ur h a 0 (f + 1)).1 a) 1 ((ur h a 0 (f + 1)).1 f 3))).1 a) 2 (-1))).1 a) 3 (-4))) a (upd ((sa (sa (sa (ur h a 0 (f + 1)) a (upd ((ur h a 0 (f + 1)).1 a) 1 ((ur h a 0 (f + 1)).1 f 3))) a (upd ((sa (ur h a 0 (f + 1)) a (upd ((ur h a 0 (f + 1)).1 a) 1 ((ur h a 0 (f + 1)).1 f 3))).1 a) 2 (-1))) a (upd ((sa (sa (ur h a 0 (f + 1)) a (upd ((ur h a 0 (f + 1)).1 a) 1 ((ur h a 0 (f + 1)).1 f 3))) a (upd ((sa (ur h a 0 (f + 1)) a (upd ((ur h a 0 (f + 1)).1 a) 1 ((ur h a 0 (f + 1)).1 f 3))).1 a) 2 (-1))).1 a) 3 (-4))).1 a) 4 0)) = some (nI (twm nb K)) := by
    rw [twins_eq (nb := nb) (by simp only [sa_sa]; rw [sa_n (by omega)]; exact hb) hn]
    congr 2
    refine mk_congr (fun i hi => ?_)
    simp only [sa_sa]
    rw [sa_n (by omega)]
    show decide (h.1 (f + 5) i = 3) = _
    rw [hK i hi]
  rw [htw, cl_some]
  simp only [sa_sa, sa_r]
  generalize hO : upd (upd (upd (upd (upd ((ur h a 0 (f + 1)).1 a) 1 ((ur h a 0 (f + 1)).1 f 3)) 2 (-1)) 3 (-4)) 4 0) 5 (nI (twm nb K)) = O
  have hOj : O 1 = h.1 f 3 ∧ O 2 = -1 ∧ O 3 = -4 ∧ O 4 = 0 ∧ O 5 = nI (twm nb K) := by
    rw [← hO]
    refine ⟨?_, ?_, ?_, ?_, ?_⟩ <;> simp [upd, ur]
  have hfin : lp (fun rc39 (x : Int32 × HP) => if 6 ≤ x.1 then some x.2 else gd x.1 6 (gd x.1 6 (nm (st x.2 (a + 1) x.1 (ld x.2 (f + 4) x.1)) (fun h56 => gd x.1 6 (nm (st h56 (a + 2) x.1 (-4)) (fun h64 => gd x.1 6 (nm (st h64 (a + 3) x.1 0) (fun h71 => gd x.1 6 (nm (st h71 (a + 4) x.1 0) (fun h78 => rc39 ((x.1 + 1), h78))))))))))) sg_fuel (0, sa (ur h a 0 (f + 1)) a O) = some (sa (sa (sa (sa (sa (ur h a 0 (f + 1)) a O) (a + 1) (fun i => if i < 6 then h.1 (f + 4) i else h.1 (a + 1) i)) (a + 2) (fun i => if i < 6 then -4 else h.1 (a + 2) i)) (a + 3) (fun i => if i < 6 then 0 else h.1 (a + 3) i)) (a + 4) (fun i => if i < 6 then 0 else h.1 (a + 4) i)) := by
    refine lp_seq' (fun k => (nI k, sa (sa (sa (sa (sa (ur h a 0 (f + 1)) a O) (a + 1) (fun i => if i < k then h.1 (f + 4) i else h.1 (a + 1) i)) (a + 2) (fun i => if i < k then -4 else h.1 (a + 2) i)) (a + 3) (fun i => if i < k then 0 else h.1 (a + 3) i)) (a + 4) (fun i => if i < k then 0 else h.1 (a + 4) i))) 6 (fu (by decide)) ?_ (fun k hk rc => ?_) (fun rc => ?_)
    · refine Prod.ext rfl (Prod.ext ?_ rfl)
      funext x i
      simp only [sa_g, Nat.not_lt_zero, if_false, ur]
      by_cases x1 : x = a + 4
      · subst x1; simp
      · by_cases x2 : x = a + 3
        · subst x2; simp
        · by_cases x3 : x = a + 2
          · subst x3; simp
          · by_cases x4 : x = a + 1
            · subst x4; simp
            · simp [x1, x2, x3, x4]
    · dsimp only
      rw [if_neg (by have := nI_ge hk (by decide); exact this), gd_ok hk (by decide), gd_ok hk (by decide), nm_eq, gd_ok hk (by decide), nm_eq, gd_ok hk (by decide), nm_eq, gd_ok hk (by decide), nm_eq, nI_1]
      simp only [ld_nI (show k < 2 ^ 31 by omega), st_sa (show k < 2 ^ 31 by omega)]
      congr 2
      refine Prod.ext ?_ rfl
      funext x i
      by_cases hi : i = k
      · subst hi
        by_cases x1 : x = a + 4
        · subst x1; simp [sa_g, upd]
        · by_cases x2 : x = a + 3
          · subst x2; simp [sa_g, upd]
          · by_cases x3 : x = a + 2
            · subst x3; simp [sa_g, upd]
            · by_cases x4 : x = a + 1
              · subst x4
                have e1 : ¬ f + 4 = a + 4 := by omega
                have e2 : ¬ f + 4 = a + 3 := by omega
                have e3 : ¬ f + 4 = a + 2 := by omega
                have e4 : ¬ f + 4 = a + 1 := by omega
                have e5 : ¬ f + 4 = a := by omega
                have e6 : ¬ f = a := by omega
                simp [sa_g, upd, ur, e1, e2, e3, e4, e5, e6]
              · simp [sa_g, x1, x2, x3, x4]
      · by_cases x1 : x = a + 4
        · subst x1; simp [sa_g, upd, hi, ltk hi]
        · by_cases x2 : x = a + 3
          · subst x2; simp [sa_g, upd, hi, ltk hi]
          · by_cases x3 : x = a + 2
            · subst x3; simp [sa_g, upd, hi, ltk hi]
            · by_cases x4 : x = a + 1
              · subst x4; simp [sa_g, upd, hi, ltk hi]
              · simp [sa_g, x1, x2, x3, x4]
    · rfl
  refine ⟨_, hfin, ⟨?_, ?_, ?_, ?_, ?_, ?_, Nat.zero_lt_succ _, fun i hi => ?_⟩, fun x hx => ?_, fun x hx => ?_⟩
  · simp [sa, ur, va_up]
  · simp [sa_g, hOj.1]
  · simp [sa_g, hOj.2.1]
  · simp [sa_g, hOj.2.2.1, w0]
  · simp [sa_g, hOj.2.2.2.1, w0]
    rfl
  · simp [sa_g, hOj.2.2.2.2]
  · have h6 : i < 6 := by omega
    simp [sa_g, h6, w0]
  · simp only [sa_g]
    rw [if_neg (by omega), if_neg (by omega), if_neg (by omega), if_neg (by omega), if_neg (by omega)]
    rfl
  · simp [sa, ur, hx]
def wbase (SL : Nat → Int32) (wet day : Int32) (y : Nat) : Int32 := 1 + SL y + wet + drV day (nI y)
/-- the walk as far as yard y -/
def wrun (nb : Nat) (K SL PR : Nat → Int32) (must wet day : Int32) (T : Nat → Nat) (w : WS) : Nat → WS
  | 0 => w
  | y + 1 => wstep nb K must (T y) (wbase SL wet day y) (60 * PR y) (nI y) (wrun nb K SL PR must wet day T w y)
def wbore (nb : Nat) (K SL PR : Nat → Int32) (must wet day : Int32) (T : Nat → Nat) (w : WS) (y : Nat) : Nat := wbear nb K must (T y) (wbase SL wet day y) (wrun nb K SL PR must wet day T w y)
theorem WK.of {h h' : HP} {a f nb : Nat} {K : Nat → Int32} {must day : Int32} {w : WS} (hW : WK h a f nb K must day w) (hk : ∀ x, a ≤ x → x < a + 5 → h'.1 x = h.1 x) (h2 : h'.2 a 0 = h.2 a 0) : WK h' a f nb K must day w := by
  obtain ⟨w1, w2, w3, w4, w5, w6, w7, w8⟩ := hW
  have e := hk a (by omega) (by omega)
  refine ⟨by rw [h2]; exact w1, by rw [e]; exact w2, by rw [e]; exact w3, by rw [e]; exact w4, by rw [e]; exact w5, by rw [e]; exact w6, w7, fun i hi => ?_⟩
  rw [hk (a + 1) (by omega) (by omega), hk (a + 2) (by omega) (by omega), hk (a + 3) (by omega) (by omega), hk (a + 4) (by omega) (by omega)]
  exact w8 i hi
theorem go_eq {h : HP} {a f q nb yards : Nat} {K SL PR : Nat → Int32} {wet must day : Int32} {w : WS} {T : Nat → Nat} (hd : a + 7 ≤ f ∨ f + 7 ≤ a) (hq : q < a ∨ a + 7 ≤ q) (hN : sg_N q = 120) (hF : FU h f nb yards K SL PR wet) (hW : WK h a f nb K must day w) (hT : ∀ y, y < yards → h.1 q y = nI (T y) ∧ T y < 64) :
    ∃ h', F_X7_go a q h = some h' ∧ WK h' a f nb K must day (wrun nb K SL PR must wet day T w yards) ∧ (∀ y, y < yards → h'.1 (a + 5) y = nI (wbore nb K SL PR must wet day T w y)) ∧ FrB a h h' ∧ h'.2 = h.2 := by
  unfold F_X7_go F_X7_go_L2
  have h120 := hF.2.2.2.2.2.1
  refine lp_inv (fun y x => x.1 = nI y ∧ WK x.2 a f nb K must day (wrun nb K SL PR must wet day T w y) ∧ (∀ j, j < y → x.2.1 (a + 5) j = nI (wbore nb K SL PR must wet day T w j)) ∧ (∀ z, (z < a ∨ a + 7 ≤ z) → x.2.1 z = h.1 z) ∧ x.2.2 = h.2) (B := yards) (Q := fun r => ∃ h', r = some h' ∧ WK h' a f nb K must day (wrun nb K SL PR must wet day T w yards) ∧ (∀ y, y < yards → h'.1 (a + 5) y = nI (wbore nb K SL PR must wet day T w y)) ∧ FrB a h h' ∧ h'.2 = h.2) ?_ ?_ sg_fuel 0 (0, h) (Nat.zero_le _) (fu (by omega)) ⟨rfl, hW, fun j hj => absurd hj (Nat.not_lt_zero j), fun _ _ => rfl, rfl⟩
  · rintro y ⟨x1, x2⟩ hy ⟨rfl, i1, i2, i3, i4⟩
    dsimp only at i1 i2 i3 i4 ⊢
    have hF2 : FU x2 f nb yards K SL PR wet := hF.of (fun x hx1 hx2 => i3 x (by omega))
    obtain ⟨h', e1, e2, e3⟩ := step_eq (m := T y) hd hF2 i1 hy (hT y hy).2
    refine Or.inl ⟨(nI (y + 1), sa h' (a + 5) (upd (h'.1 (a + 5)) y (nI (wbore nb K SL PR must wet day T w y)))), ⟨rfl, ?_, fun j hj => ?_, fun z hz => ?_, ?_⟩, fun rc => ?_⟩
    · exact WK.of e2 (fun x hx1 hx2 => by rw [sa_n (by omega)]) rfl
    · dsimp only
      rw [sa_r]
      by_cases hjy : j = y
      · subst hjy
        simp [upd]
      · simp only [upd, if_neg hjy]
        rw [e3.1 (a + 5) (by omega)]
        exact i2 j (by omega)
    · dsimp only
      rw [sa_n (by omega), e3.1 z (by omega)]
      exact i3 z hz
    · dsimp only
      rw [sa_2, e3.2]
      exact i4
    · rw [i1.1, gn_ok (by omega), nm_eq, Nat.add_sub_cancel, hF2.1, if_neg (nI_ge hy (by omega)), hN, gd_ok (by omega) (by decide), ld_nI (by omega), i3 q (by omega), (hT y hy).1, e1, cl_some, gd_ok (by omega) (by decide), nm_eq, st_sa (by omega), nI_1]
      rfl
  · rintro ⟨x1, x2⟩ ⟨rfl, i1, i2, i3, i4⟩
    dsimp only at i1 i2 i3 i4 ⊢
    refine ⟨some x2, ⟨x2, rfl, i1, i2, ⟨i3, fun x _ => by rw [i4]⟩, i4⟩, fun rc => ?_⟩
    have hF2 : FU x2 f nb yards K SL PR wet := hF.of (fun x hx1 hx2 => i3 x (by omega))
    rw [i1.1, gn_ok (by omega), nm_eq, Nat.add_sub_cancel, hF2.1, if_pos (Int32.le_refl _)]
