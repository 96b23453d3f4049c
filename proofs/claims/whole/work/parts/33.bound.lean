theorem nI_ex1 {x : Int32} {l : Nat} (h0 : 1 ≤ x) (h1 : x ≤ nI l) (hl : l + 1 < 2 ^ 31) : ∃ c, x = nI c ∧ 1 ≤ c ∧ c ≤ l := nI_ex2 (l := 1) h0 h1 (by decide) hl
theorem tollC_ge (w x : Int32) : 1 ≤ tollC w x := by
  unfold tollC
  by_cases h : 1 ≤ (if x ≤ 1 then w else w / x)
  · rw [if_pos h]; exact h
  · rw [if_neg h]; exact Int32.le_refl _
theorem cV_ge (nb : Nat) (K : Nat → Int32) (tb : Nat) (b : Int32) (i : Nat) : 1 ≤ cV nb K tb b i := tollC_ge _ _
theorem wbm_sub {nb : Nat} {K L : Nat → Int32} {tb : Nat} {b : Int32} {i : Nat} (htb : tb < 64) (hn : nb ≤ 6) (hi : i < nb) (h : (wbm nb K L tb b).testBit i = true) : tb.testBit i = true ∧ cV nb K tb b i ≤ L i := by
  unfold wbm at h
  have hf : wfm nb K L tb b < 64 := mk_lt hn
  rw [nd_bit _ htb _ hf i (by omega), wfm, mk_bit] at h
  by_cases h1 : tb.testBit i = true
  · refine ⟨h1, ?_⟩
    by_cases h2 : cV nb K tb b i ≤ L i
    · exact h2
    · rw [h1] at h
      simp only [hi, h2, decide_true, not_false_iff] at h
      simp at h
  · rw [Bool.not_eq_true] at h1
    rw [h1] at h
    simp at h
/-- bounds of a walk -/
def Bd (nb : Nat) (S : Nat → Nat) (y : Nat) (w : WS) : Prop :=
  ∀ i, i < nb → (∃ l, w.1 i = nI l ∧ l ≤ S i) ∧ (∃ b, w.2.2.1 i = nI b ∧ b ≤ y) ∧ ∃ g, w.2.2.2.1 i = nI g ∧ g ≤ 540 * y
theorem wpart_eq {bm p : Nat} (hb : bm < 64) (hp : p ≤ 9) : ∃ g, wpart bm (60 * nI p) = nI g ∧ g ≤ 540 := by
  unfold wpart
  have e : (60 : Int32) * nI p = nI (60 * p) := pk_mul 60 p
  have hp6 := pc_le bm hb
  rw [e]
  by_cases h : pc bm = 0
  · rw [if_pos h]
    exact ⟨0, rfl, by omega⟩
  · rw [if_neg h, pk_div (by omega) (by omega) (by omega)]
    exact ⟨_, rfl, Nat.le_trans (Nat.div_le_self _ _) (by omega)⟩
theorem Bd.step {nb : Nat} {S : Nat → Nat} {y : Nat} {w : WS} {K : Nat → Int32} {must : Int32} {m p : Nat} {base Y : Int32} (b : Bd nb S y w) (hS : ∀ i, i < nb → S i < 2 ^ 30) (hy : y ≤ 200) (hn : nb ≤ 6) (hm : m < 64) (hp : p ≤ 9) : Bd nb S (y + 1) (wstep nb K must m base (60 * nI p) Y w) := by
  unfold wstep
  have hb64 : wbm nb K w.1 (nd m w.2.2.2.2.1) base < 64 := nd_lt (nd_lt hm)
  obtain ⟨g0, g1, g2⟩ := wpart_eq hb64 hp
  have keep : Bd nb S (y + 1) w := fun i hi => by
    obtain ⟨⟨l, l1, l2⟩, ⟨c, c1, c2⟩, g, g1, g2⟩ := b i hi
    exact ⟨⟨l, l1, l2⟩, ⟨c, c1, by omega⟩, g, g1, by omega⟩
  by_cases h4 : w.2.2.2.2.2 = -4
  · rw [if_pos h4]
    by_cases hc : must ≤ nI (pc (wbm nb K w.1 (nd m w.2.2.2.2.1) base))
    · rw [if_pos hc]
      intro i hi
      obtain ⟨⟨l, l1, l2⟩, ⟨c, c1, c2⟩, g, g3, g4⟩ := b i hi
      dsimp only
      by_cases hb : (wbm nb K w.1 (nd m w.2.2.2.2.1) base).testBit i = true
      · rw [if_pos hb, if_pos hb, if_pos hb]
        obtain ⟨_, hle⟩ := wbm_sub (nd_lt hm) hn hi hb
        have hS1 := hS i hi
        obtain ⟨d, d1, d2, d3⟩ := nI_ex1 (cV_ge nb K (nd m w.2.2.2.2.1) base i) (by rw [← l1]; exact hle) (by omega)
        refine ⟨⟨l - d, ?_, by omega⟩, ⟨c + 1, ?_, by omega⟩, g + g0, ?_, by omega⟩
        · rw [l1, d1, pk_sub d3]
        · rw [c1, nI_1]
        · rw [g3, g1, nI_add]
      · rw [if_neg hb, if_neg hb, if_neg hb]
        exact ⟨⟨l, l1, l2⟩, ⟨c, c1, by omega⟩, g, g3, by omega⟩
    · rw [if_neg hc]
      exact keep
  · rw [if_neg h4]
    exact keep
theorem Bd.run {nb : Nat} {S : Nat → Nat} {K SL PR ST : Nat → Int32} {must wet day : Int32} {T : Nat → Nat} {Y : Nat} (hS : ∀ i, i < nb → ST i = nI (S i) ∧ S i < 2 ^ 30) (hY : Y ≤ 120) (hn : nb ≤ 6) (hT : ∀ y, y < Y → T y < 64) (hP : ∀ y, y < Y → ∃ p, PR y = nI p ∧ p ≤ 9) : ∀ y, y ≤ Y → Bd nb S y (wrun nb K SL PR must wet day T (w0 ST) y)
  | 0, _ => fun i hi => ⟨⟨S i, (hS i hi).1, Nat.le_refl _⟩, ⟨0, rfl, Nat.le_refl _⟩, 0, rfl, Nat.le_refl _⟩
  | y + 1, h => by
    obtain ⟨p, p1, p2⟩ := hP y (by omega)
    show Bd nb S (y + 1) (wstep nb K must (T y) (wbase SL wet day y) (60 * PR y) (nI y) (wrun nb K SL PR must wet day T (w0 ST) y))
    rw [p1]
    exact (Bd.run hS hY hn hT hP y (by omega)).step (fun i hi => (hS i hi).2) (by omega) hn (hT y (by omega)) p2
theorem Bd.acres {nb : Nat} {S : Nat → Nat} {y : Nat} {w : WS} {K : Nat → Int32} {i : Nat} (b : Bd nb S y w) (hi : i < nb) : ∃ g, acr K w i = nI g ∧ g ≤ 540 * y := by
  unfold acr
  split
  · exact ⟨0, rfl, Nat.zero_le _⟩
  · exact (b i hi).2.2
theorem HV.prices {U : Nat → Int32} {nb ns : Nat} {ln : Nat → Nat} (v : HV U nb ns ln) {y : Nat} (hy : y < lsum ln ns) : ∃ p, uP U ln ns y = nI p ∧ p ≤ 9 := by
  obtain ⟨s1, s2, s3⟩ := so_spec hy
  obtain ⟨_, _, _, p, p1, p2, p3⟩ := v.2.2.2.2.2.1 _ s1
  exact ⟨p, p1, p3⟩
theorem HV.bd {U : Nat → Int32} {nb ns : Nat} {ln : Nat → Nat} (v : HV U nb ns ln) {d : Int32} {T : Nat → Nat} (hT : ∀ y, y < lsum ln ns → T y < 64) {y : Nat} (hy : y ≤ lsum ln ns) : Bd nb (fun i => (U (22 + i)).toNatClampNeg) y (WR U nb ns ln d T (uT U) y) := by
  refine Bd.run (Y := lsum ln ns) (fun i hi => ?_) v.1.2.2.2.2.2 v.1.2.2.1 hT (fun y hy => v.prices hy) y hy
  obtain ⟨⟨s, s1, s2, s3⟩, _⟩ := v.2.2.2.2.2.2 i hi
  unfold uT
  rw [s1, nI_clamp (by omega)]
  exact ⟨rfl, by omega⟩
def am (v : Nat → Int32) : Nat → Nat
  | 0 => 0
  | k + 1 => if v k ≤ v (am v k) then am v k else k
theorem am_lt {v : Nat → Int32} : ∀ {k : Nat}, 1 ≤ k → am v k < k
  | k + 1, _ => by
    unfold am
    split
    · rcases Nat.eq_zero_or_pos k with q | q
      · subst q; exact Nat.zero_lt_succ _
      · exact Nat.lt_succ_of_lt (am_lt q)
    · exact Nat.lt_succ_self k
theorem first_eq {h : HP} {a f nb : Nat} {law : Int32} {v : Nat → Int32} (hr : h.2 a 0 = f + 1) (hb : h.1 f 2 = nI nb) (hn : nb ≤ 6) (hn1 : 1 ≤ nb) (hm : ∀ i, i < nb → F_X7_merit a (nI i) law h = some (v i)) : F_X7_first a law h = some (nI (am v nb)) := by
  unfold F_X7_first F_X7_first_L4
  refine lp_seq' (fun k => (nI (am v (1 + k)), nI (1 + k))) (nb - 1) (fu (by omega)) ?_ (fun k hk rc => ?_) (fun rc => ?_)
  · have : am v 1 = 0 := by unfold am am; split <;> rfl
    show _ = (nI (am v 1), nI 1)
    rw [this]
    rfl
  · dsimp only
    have := am_lt (v := v) (k := 1 + k) (by omega)
    rw [hr, gn_ok (by omega), nm_eq, Nat.add_sub_cancel, hb, if_neg (nI_ge (by omega) (by omega)), hm _ (by omega), cl_some, hm _ (by omega), cl_some]
    unfold F_X7_first_J32
    rw [nI_1]
    have e : 1 + (k + 1) = (1 + k) + 1 := by omega
    rw [e]
    show _ = rc (nI (if v (1 + k) ≤ v (am v (1 + k)) then am v (1 + k) else 1 + k), _)
    split <;> rfl
  · dsimp only
    rw [hr, gn_ok (by omega), nm_eq, Nat.add_sub_cancel, hb, if_pos (nI_le (by omega) (by omega))]
    rw [show 1 + (nb - 1) = nb by omega]
theorem heirBy_eq {h : HP} {nb : Nat} {law : Int32} {v : Nat → Int32} (hb : h.1 134 1 = nI nb) (hn : nb ≤ 6) (hv : ∀ i, i < nb → (if law = 0 then h.1 146 i else if law = 1 then h.1 148 i else h.1 134 (22 + i) - h.1 145 i) = v i) (h0 : ∀ i, i < nb → 0 ≤ v i) : F_X9_heirBy 133 law h = some (nI (am v nb)) := by
  unfold F_X9_heirBy F_X9_heirBy_L7
  simp only [Nat.reduceAdd]
  have l0 : ld h 134 1 = nI nb := by rw [← hb]; rfl
  refine lp_seq' (fun k => (nI (am v k), (if k = 0 then -1 else v (am v k)), nI k)) nb (fu (by omega)) rfl (fun k hk rc => ?_) (fun rc => ?_)
  · dsimp only
    have hJ : F_X9_heirBy_J65 133 rc law (nI (am v k)) (if k = 0 then -1 else v (am v k)) (nI k) (v k) h = rc (nI (am v (k + 1)), (if k + 1 = 0 then -1 else v (am v (k + 1))), nI (k + 1)) := by
      unfold F_X9_heirBy_J65 F_X9_heirBy_J79 F_X9_heirBy_J92
      rw [nI_1, if_neg (show ¬ k + 1 = 0 by omega)]
      by_cases hk0 : k = 0
      · subst hk0
        rw [if_pos rfl]
        have h1 : ¬ v 0 ≤ -1 := fun z => absurd (Int32.le_trans (h0 0 hk) z) (by decide)
        rw [if_neg h1, if_neg h1]
        have : am v (0 + 1) = 0 := by unfold am am; split <;> rfl
        rw [this]
      · rw [if_neg hk0]
        show _ = rc (nI (if v k ≤ v (am v k) then am v k else k), v (if v k ≤ v (am v k) then am v k else k), _)
        by_cases hc : v k ≤ v (am v k)
        · rw [if_pos hc, if_pos hc, if_pos hc]
        · rw [if_neg hc, if_neg hc, if_neg hc]
    have e := hv k hk
    rw [l0, if_neg (nI_ge hk (by omega)), lit_add 22 k]
    rw [gd_ok (show 22 + k < 34 by omega) (by decide), ld_nI (show 22 + k < 2 ^ 31 by omega)]
    simp only [gd_ok (show k < 6 by omega) (show 6 < 2 ^ 31 by decide), ld_nI (show k < 2 ^ 31 by omega)]
    rw [← hJ]
    by_cases h1 : law = 0
    · rw [if_pos h1] at e ⊢
      rw [e]
    · rw [if_neg h1] at e ⊢
      by_cases h2 : law = 1
      · rw [if_pos h2] at e ⊢
        rw [e]
      · rw [if_neg h2] at e ⊢
        rw [e]
  · dsimp only
    rw [l0, if_pos (Int32.le_refl _)]
/-- what a law counts -/
def mer (K ST : Nat → Int32) (w : WS) (law : Int32) (i : Nat) : Int32 := if law = 0 then acr K w i else if law = 1 then w.2.2.1 i else ST i - w.1 i
theorem merit_eq {h : HP} {a f nb i : Nat} {K ST : Nat → Int32} {must day law : Int32} {w : WS} (hW : WK h a f nb K must day w) (hK : h.1 (f + 5) i = K i) (hS : h.1 (f + 4) i = ST i) (hn : nb ≤ 6) (hi : i < nb) : F_X7_merit a (nI i) law h = some (mer K ST w law i) := by
  unfold F_X7_merit mer
  rw [acres_eq hW hK hn hi, cl_some]
  obtain ⟨w1, w2, w3, w4, w5, w6, w7, w8⟩ := hW
  obtain ⟨e1, e2, e3, e4⟩ := w8 i hi
  rw [w1, gn_ok (by omega), nm_eq, Nat.add_sub_cancel]
  simp only [gd_ok (show i < 6 by omega) (show 6 < 2 ^ 31 by decide), ld_nI (show i < 2 ^ 31 by omega)]
  rw [e1, e3, hS]
  split
  · rfl
  · split <;> rfl
theorem mer_pos {nb : Nat} {S : Nat → Nat} {y : Nat} {w : WS} {K ST : Nat → Int32} {law : Int32} (b : Bd nb S y w) (hS : ∀ i, i < nb → ST i = nI (S i) ∧ S i < 2 ^ 30) (hy : y ≤ 120) {i : Nat} (hi : i < nb) : 0 ≤ mer K ST w law i := by
  unfold mer
  obtain ⟨⟨l, l1, l2⟩, ⟨c, c1, c2⟩, _⟩ := b i hi
  obtain ⟨g, g1, g2⟩ := b.acres (K := K) hi
  obtain ⟨s1, s2⟩ := hS i hi
  split
  · rw [g1]; exact nI_pos' (by omega)
  · split
    · rw [c1]; exact nI_pos' (by omega)
    · rw [l1, s1, pk_sub l2]; exact nI_pos' (by omega)
theorem HV.st {U : Nat → Int32} {nb ns : Nat} {ln : Nat → Nat} (v : HV U nb ns ln) : ∀ i, i < nb → uT U i = nI ((fun i => (U (22 + i)).toNatClampNeg) i) ∧ (fun i => (U (22 + i)).toNatClampNeg) i < 2 ^ 30 := by
  intro i hi
  obtain ⟨⟨s, s1, s2, s3⟩, _⟩ := v.2.2.2.2.2.2 i hi
  unfold uT
  dsimp only
  rw [s1, nI_clamp (by omega)]
  exact ⟨rfl, by omega⟩
theorem Core.T64 {h : HP} {nb ns n : Nat} {ln wh fr to : Nat → Nat} (c : Core h nb ns ln n wh fr to) : ∀ y, y < lsum ln ns → TA n wh fr to y < 64 := fun y _ => tmask_lt (fun k hk => (c.2.2.1.2.2 k hk).2.2.2.1)
/-- the model's heir of a walk that it made -/
theorem heirMR {h : HP} {nb ns : Nat} {ln T : Nat → Nat} {U : Nat → Int32} {law d : Int32} {B : Nat → Nat} (hv : HV U nb ns ln) (hU : h.1 134 = U) (hT : ∀ y, y < lsum ln ns → T y < 64) (hM : MR h nb (lsum ln ns) (uK U) (WR U nb ns ln d T (uT U) (lsum ln ns)) B) : F_X9_heirBy 133 law h = some (nI (am (mer (uK U) (uT U) (WR U nb ns ln d T (uT U) (lsum ln ns)) law) nb)) := by
  have hb := hv.bd (d := d) hT (Nat.le_refl _)
  refine heirBy_eq (by rw [hU]; exact hv.1.2.1) hv.1.2.2.1 (fun i hi => ?_) (fun i hi => mer_pos hb hv.st hv.1.2.2.2.2.2 hi)
  obtain ⟨j1, j2, j3, j4, j5⟩ := hM.2.2.1 i hi
  unfold mer acr
  rw [j1, j3, j4, hU]
  rfl
theorem step_heir (h : HP) (hI : Inv h) (x1 : Int32) : ∃ (r : Int32) (h2 : HP), F_X8_heir 0 x1 h = some r ∧ F_X9_heir 133 x1 h = some (r, h2) ∧ Inv h2 := by
  have hI0 := hI
  obtain ⟨nb, ns, ln, n, wh, fr, to, c, t, u, k, q⟩ := hI
  obtain ⟨ha, h2, a1, a2, a3, a4, a5, a6⟩ := asGo c
  have hT := c.T64
  obtain ⟨c1, c2, c3, c4, c5, c6, c7, c8⟩ := c
  have hn : nb ≤ 6 := c1.1.2.2.1
  unfold F_X8_heir F_X9_heir
  simp only [Nat.reduceAdd]
  rw [within_eq, cl_some, b01, inL (l := 0) (m := 2) (by decide) (by decide), cl_some, b01]
  by_cases hx : 0 ≤ x1 ∧ x1 ≤ 2
  · rw [if_pos hx, if_pos hx, a1, cl_some, a2, cl_some, first_eq c7.1 c2.2.2.1 hn c1.2.1 (fun i hi => merit_eq (ST := uT (h.1 134)) c7 (c2.2.2.2.2.2.2.1 i hi).2 (c2.2.2.2.2.2.2.1 i hi).1 hn hi), cl_some, heirMR c1 (a5.1 134 (by omega)) hT a3, cl_some]
    exact ⟨_, _, rfl, rfl, a5.kp.inv hI0⟩
  · rw [if_neg hx, if_neg hx]
    exact ⟨_, _, rfl, rfl, hI0⟩
