theorem lp_inv' {α β : Type} {body : (α → Option β) → α → Option β} (I : Nat → α → Prop) {B : Nat} {Q : Option β → Prop} (hs : ∀ i x rc, i < B → I i x → (∃ x', I (i + 1) x' ∧ body rc x = rc x') ∨ Q (body rc x)) (he : ∀ x rc, I B x → Q (body rc x)) : ∀ N i x, i ≤ B → B - i < N → I i x → Q (lp body N x) := by
  intro N
  induction N with
  | zero => intro i x _ h; exact absurd h (Nat.not_lt_zero _)
  | succ N ih =>
    intro i x hi hN hI
    show Q (body (lp body N) x)
    rcases Nat.lt_or_ge i B with hl | hl
    · rcases hs i x (lp body N) hl hI with ⟨x', h1, h2⟩ | h
      · rw [h2]
        exact ih (i + 1) x' (by omega) (by omega) h1
      · exact h
    · obtain rfl : i = B := by omega
      exact he x _ hI
def upN (f : Nat → Nat) (n v : Nat) : Nat → Nat := fun k => if k = n then v else f k
theorem upN_r {f : Nat → Nat} {n v : Nat} : upN f n v n = v := by simp [upN]
theorem upN_n {f : Nat → Nat} {n v k : Nat} (h : k ≠ n) : upN f n v k = f k := by simp [upN, h]
theorem tmask_congr {wh fr to wh' fr' to' : Nat → Nat} {pr pr' : Nat → Bool} {y : Nat} : ∀ {n : Nat}, (∀ k, k < n → wh k = wh' k ∧ fr k = fr' k ∧ to k = to' k ∧ pr k = pr' k) → tmask wh fr to pr y n = tmask wh' fr' to' pr' y n
  | 0, _ => rfl
  | n + 1, h => by
    unfold tmask
    obtain ⟨h1, h2, h3, h4⟩ := h n (by omega)
    rw [tmask_congr (fun k hk => h k (by omega)), h1, h2, h3, h4]
theorem tmask_up {wh fr to : Nat → Nat} {pr : Nat → Bool} {y n i a b : Nat} : tmask (upN wh n i) (upN fr n a) (upN to n b) pr y (n + 1) = tmask wh fr to pr y n ||| (if pr n = true ∧ a ≤ y ∧ y ≤ b then 2 ^ i else 0) := by
  show tmask (upN wh n i) (upN fr n a) (upN to n b) pr y n ||| _ = _
  rw [tmask_congr (wh' := wh) (fr' := fr) (to' := to) (pr' := pr) (fun k hk => ⟨upN_n (by omega), upN_n (by omega), upN_n (by omega), rfl⟩), upN_r, upN_r, upN_r]
theorem adds_eq {h : HP} {q n i a b : Nat} {wh fr to : Nat → Nat} (hT : TM (h.1 q) n wh fr to) (hn : n < 10) (hN : sg_N q = 31) (hi : i < 6) (hab : a ≤ b) (hb : b < 120) : ∃ B, F_X9_adds q (nI i) (nI a) (nI b) h = some (sa h q B) ∧ TM B (n + 1) (upN wh n i) (upN fr n a) (upN to n b) := by
  obtain ⟨t1, t2, t3⟩ := hT
  refine ⟨upd (upd (upd (upd (h.1 q) (1 + n) (nI i)) (11 + n) (nI a)) (21 + n) (nI b)) 0 (nI (n + 1)), ?_, ?_, by omega, fun k hk => ?_⟩
  · unfold F_X9_adds
    rw [hN]
    have l : ∀ x : HP, ld x q 0 = x.1 q 0 := fun _ => rfl
    have e0 : ∀ {β : Type} {k : Option β}, gd (0 : Int32) 31 k = k := fun {β k} => gd_ok (j := 0) (by decide) (by decide)
    have s0 : ∀ (x : HP) (v : Int32), st x q 0 v = sa x q (upd (x.1 q) 0 v) := fun x v => st_sa (j := 0) (by decide)
    rw [e0, nm_eq, l, t1, lit_add 1, lit_add 11, lit_add 21, gd_ok (by omega) (by decide), nm_eq, gd_ok (by omega) (by decide), nm_eq, gd_ok (by omega) (by decide), nm_eq, e0, e0, nm_eq, s0, l]
    simp only [st_sa (show 1 + n < 2 ^ 31 by omega), st_sa (show 11 + n < 2 ^ 31 by omega), st_sa (show 21 + n < 2 ^ 31 by omega), sa_sa, sa_r]
    rw [upd_n (by omega), upd_n (by omega), upd_n (by omega), t1, nI_1]
  · rw [upd_r]
  · by_cases e : k = n
    · subst e
      rw [upN_r, upN_r, upN_r, upd_n (by omega), upd_n (by omega), upd_n (by omega), upd_r, upd_n (by omega), upd_n (by omega), upd_r, upd_n (by omega), upd_r]
      exact ⟨rfl, rfl, rfl, hi, hab, hb⟩
    · rw [upN_n e, upN_n e, upN_n e, upd_n (by omega), upd_n (by omega), upd_n (by omega), upd_n (by omega), upd_n (by omega), upd_n (by omega), upd_n (by omega), upd_n (by omega), upd_n (by omega), upd_n (by omega), upd_n (by omega), upd_n (by omega)]
      exact t3 k (by omega)
theorem mk_shl9 : ∀ i, i < 9 → (1 : Int32) <<< (nI i &&& 31) = nI (2 ^ i) := by decide +kernel
theorem mk_all {m nb : Nat} (h : m < 2 ^ nb) (hn : nb ≤ 6) : mk m.testBit nb = m := by
  refine mk_ext _ (mk_lt hn) _ (Nat.lt_of_lt_of_le h (two_le hn)) (fun i hi => ?_)
  rw [mk_bit]
  by_cases h1 : i < nb
  · simp [h1]
  · rw [bits_out h (by omega)]
    simp
def bst (p : Nat → Bool) : Nat → Option Nat
  | 0 => none
  | k + 1 => match bst p k with
    | none => if p k = true then some k else none
    | some b => if p k = true ∧ pc k < pc b then some k else some b
def bv : Option Nat → Int32
  | none => -4
  | some b => nI b
def bz : Option Nat → Int32
  | none => 7
  | some b => nI (pc b)
theorem bst_lt {p : Nat → Bool} : ∀ {k b : Nat}, bst p k = some b → b < k
  | 0, b, h => by cases h
  | k + 1, b, h => by
    unfold bst at h
    cases hk : bst p k with
    | none =>
      rw [hk] at h
      dsimp only at h
      split at h
      · cases h; omega
      · cases h
    | some c =>
      rw [hk] at h
      dsimp only at h
      have := bst_lt hk
      split at h
      · cases h; omega
      · cases h; omega
/-- what the class's trials leave as it was -/
def FC (h h' : HP) : Prop := (∀ x, (x < 80 ∨ (80 < x ∧ x < 88) ∨ 94 < x) → h'.1 x = h.1 x) ∧ ∀ x, x ≠ 88 → h'.2 x = h.2 x
theorem FC.rf {h : HP} : FC h h := ⟨fun _ _ => rfl, fun _ _ => rfl⟩
theorem FC.trans {h1 h2 h3 : HP} (p : FC h1 h2) (q : FC h2 h3) : FC h1 h3 := ⟨fun x hx => (q.1 x hx).trans (p.1 x hx), fun x hx => (q.2 x hx).trans (p.2 x hx)⟩
theorem FrB.fc {h h' : HP} (p : FrB 88 h h') : FC h h' := ⟨fun x hx => p.1 x (by omega), p.2⟩
theorem FC.kp {h h' : HP} (p : FC h h') : Kp h h' := ⟨fun x hx => p.1 x (by unfold Pz at hx; omega), fun j hj => by rw [p.1 133 (by omega)], fun x hx => p.2 x (by omega)⟩
theorem fc_sa {h : HP} {f : Nat → Int32} : FC h (sa h 80 f) := ⟨fun x hx => sa_n (by omega), fun _ _ => rfl⟩
/-- a trial of the class over its other duties -/
theorem trial80 {h : HP} {nb ns : Nat} {ln T : Nat → Nat} {U : Nat → Int32} (hC : CF h 15 U nb ns ln) (hM : MU U nb ns ln) (hT : ∀ y, y < lsum ln ns → h.1 80 y = nI (T y) ∧ T y < 64) : ∃ h1 h', F_X7_begin 88 15 h = some h1 ∧ F_X7_go 88 80 h1 = some h' ∧ h'.1 88 3 = (WR U nb ns ln (-1) T (uT U) (lsum ln ns)).2.2.2.2.2 ∧ FC h h' := by
  obtain ⟨h1, e1, e2, e3⟩ := beginC (a := 88) (by omega) hC hM.2.2.1
  obtain ⟨h2, g1, g2, g3, g4, g5⟩ := goC (a := 88) (f := 15) (q := 80) (T := T) (by omega) (by omega) rfl (hC.fr e3 (by omega)) hM e2 (fun y hy => by rw [e3.1 80 (by omega)]; exact hT y hy)
  exact ⟨h1, h2, e1, g1, g2.2.2.2.1, (e3.trans g4).fc⟩
def neP (U : Nat → Int32) (nb ns : Nat) (ln : Nat → Nat) (set : Nat) : Bool := decide ((WR U nb ns ln (-1) (fun _ => set) (uT U) (lsum ln ns)).2.2.2.2.2 = -4)
theorem aloneC {h : HP} {nb ns set : Nat} {ln : Nat → Nat} {U : Nat → Int32} (hC : CF h 15 U nb ns ln) (hM : MU U nb ns ln) (hs : set < 64) : ∃ h', F_X8_bearUpAlone 0 (nI set) h = some (if neP U nb ns ln set = true then 1 else 0, h') ∧ FC h h' := by
  have h120 : lsum ln ns ≤ 120 := hM.2.2.2.2.2
  have f1 : FC h (sa h 80 (fun y => if y < lsum ln ns then nI set else h.1 80 y)) := fc_sa
  obtain ⟨h1, h2, e1, e2, e3, e4⟩ := trial80 (h := sa h 80 (fun y => if y < lsum ln ns then nI set else h.1 80 y)) (T := fun _ => set) (hC.of (fun x _ _ => f1.1 x (by omega))) hM (fun y hy => ⟨by rw [sa_r, if_pos hy], hs⟩)
  refine ⟨h2, ?_, f1.trans e4⟩
  unfold F_X8_bearUpAlone F_X8_bearUpAlone_L2
  simp only [Nat.reduceAdd]
  refine lp_seq' (fun k => (nI k, sa h 80 (fun y => if y < k then nI set else h.1 80 y))) (lsum ln ns) (fu (by omega)) ?_ (fun k hk rc => ?_) (fun rc => ?_)
  · rw [sa_id (by funext i; simp)]
    rfl
  · dsimp only
    rw [sa_n (x := 15) (by decide), hC.2.1, if_neg (nI_ge hk (by omega)), gd_ok (by omega) (by decide), nm_eq, st_sa (by omega), sa_sa, sa_r, nI_1]
    congr 3
    funext i
    by_cases hi : i = k
    · subst hi; simp [upd]
    · simp only [upd, if_neg hi, ltk hi]
  · dsimp only
    rw [sa_n (x := 15) (by decide), hC.2.1, if_pos (Int32.le_refl _)]
    unfold F_X8_bearUpAlone_J26
    simp only [Nat.reduceAdd]
    rw [e1, cl_some, e2, cl_some, e3]
    unfold neP
    by_cases hc : (WR U nb ns ln (-1) (fun _ => set) (uT U) (lsum ln ns)).2.2.2.2.2 = -4
    · rw [if_pos hc]; simp [hc]
    · rw [if_neg hc]; simp [hc]
theorem neP_0 {U : Nat → Int32} {nb ns : Nat} {ln : Nat → Nat} (hv : HV U nb ns ln) : neP U nb ns ln 0 = false := by
  have h1 := lsum_pos hv.2.2.1 (fun i hi => (hv.2.2.2.2.2.1 i hi).1)
  obtain ⟨m, m1, m2, m3⟩ := hv.2.2.2.1
  have e : (WR U nb ns ln (-1) (fun _ => 0) (uT U) 1).2.2.2.2.2 = 0 := by
    show (wstep nb (uK U) (U 2) 0 _ _ (nI 0) (w0 (uT U))).2.2.2.2.2 = 0
    unfold wstep
    rw [if_pos (show (w0 (uT U)).2.2.2.2.2 = -4 from rfl)]
    have : wbm nb (uK U) (w0 (uT U)).1 (nd 0 (w0 (uT U)).2.2.2.2.1) (wbase (uS U ln ns) (U 3) (-1) 0) = 0 := by
      unfold wbm nd
      rw [Nat.zero_and, Nat.zero_and]
    rw [this, m1, if_neg (show ¬ nI m ≤ nI (pc 0) from nI_ge (by show 0 < m; omega) (by omega))]
    rfl
  have hs := wrun_stuck (y := 1) (T := fun _ => 0) (nb := nb) (K := uK U) (SL := uS U ln ns) (PR := uP U ln ns) (must := U 2) (wet := U 3) (day := -1) (w := w0 (uT U)) (by rw [e]; decide) (lsum ln ns - 1)
  rw [show 1 + (lsum ln ns - 1) = lsum ln ns by omega] at hs
  unfold neP
  rw [show WR U nb ns ln (-1) (fun _ => 0) (uT U) (lsum ln ns) = WR U nb ns ln (-1) (fun _ => 0) (uT U) 1 from hs, e]
  decide
theorem neC {h : HP} {nb ns n : Nat} {ln wh fr to : Nat → Nat} (c : Core h nb ns ln n wh fr to) : ∃ h', F_X8_needed 0 h = some (bv (bst (neP (h.1 134) nb ns ln) (2 ^ nb)), h') ∧ FC h h' := by
  have hn := c.1.1.2.2.1
  have hp64 := two_le hn
  generalize hp : neP (h.1 134) nb ns ln = p
  have hp0 : p 0 = false := by rw [← hp]; exact neP_0 c.1
  unfold F_X8_needed F_X8_needed_L8
  have h1 : 1 ≤ 2 ^ nb := Nat.two_pow_pos nb
  refine lp_inv' (fun k x => x.1 = bv (bst p (1 + k)) ∧ x.2.1 = bz (bst p (1 + k)) ∧ x.2.2.1 = nI (1 + k) ∧ FC h x.2.2.2) (B := 2 ^ nb - 1) (Q := fun r => ∃ h', r = some (bv (bst p (2 ^ nb)), h') ∧ FC h h') ?_ ?_ sg_fuel 0 (-4, 7, 1, h) (Nat.zero_le _) (fu (by omega)) ⟨?_, ?_, rfl, FC.rf⟩
  · rintro k ⟨x1, x2, x3, x4⟩ rc hk ⟨rfl, rfl, rfl, i⟩
    left
    dsimp only at i ⊢
    have cx := i.kp.core c
    have hU : x4.1 134 = h.1 134 := i.1 134 (by omega)
    have hkk : 1 + k < 64 := by omega
    have hpk := pc_le _ hkk
    obtain ⟨h', e1, e2⟩ := aloneC cx.2.1 cx.1.1 hkk
    rw [hU, hp] at e1
    have e : 1 + (k + 1) = (1 + k) + 1 := by omega
    simp only [Nat.reduceAdd]
    rw [cx.2.1.2.2.1, mk_shl9 nb (by omega), if_neg (nI_ge (by omega) (by omega)), mk_bitCount _ hkk, cl_some, e1, cl_some, cl_some, b01]
    unfold F_X8_needed_J44
    rw [nI_1]
    have hb : bst p (1 + (k + 1)) = (match bst p (1 + k) with
      | none => if p (1 + k) = true then some (1 + k) else none
      | some b => if p (1 + k) = true ∧ pc (1 + k) < pc b then some (1 + k) else some b) := by
      rw [e]; rfl
    cases hbk : bst p (1 + k) with
    | none =>
      rw [hbk] at hb
      dsimp only at hb
      have z : ¬ bz none ≤ nI (pc (1 + k)) := nI_ge (b := 7) (by omega) (by decide)
      rw [if_neg z]
      by_cases hc : p (1 + k) = true
      · rw [if_pos hc] at hb
        rw [if_pos hc]
        exact ⟨(nI (1 + k), nI (pc (1 + k)), nI (1 + k + 1), h'), ⟨by rw [hb]; rfl, by rw [hb]; rfl, by rw [e], i.trans e2⟩, rfl⟩
      · rw [if_neg hc] at hb
        rw [if_neg hc]
        exact ⟨(-4, 7, nI (1 + k + 1), h'), ⟨by rw [hb]; rfl, by rw [hb]; rfl, by rw [e], i.trans e2⟩, rfl⟩
    | some b =>
      rw [hbk] at hb
      dsimp only at hb
      have hlt := bst_lt hbk
      have hpb := pc_le b (by omega)
      by_cases hz : pc b ≤ pc (1 + k)
      · have z : bz (some b) ≤ nI (pc (1 + k)) := nI_le hz (by omega)
        rw [if_pos z]
        rw [if_neg (by omega)] at hb
        exact ⟨(nI b, nI (pc b), nI (1 + k + 1), x4), ⟨by rw [hb]; rfl, by rw [hb]; rfl, by rw [e], i⟩, rfl⟩
      · have z : ¬ bz (some b) ≤ nI (pc (1 + k)) := nI_ge (by omega) (by omega)
        rw [if_neg z]
        by_cases hc : p (1 + k) = true
        · rw [if_pos ⟨hc, by omega⟩] at hb
          rw [if_pos hc]
          exact ⟨(nI (1 + k), nI (pc (1 + k)), nI (1 + k + 1), h'), ⟨by rw [hb]; rfl, by rw [hb]; rfl, by rw [e], i.trans e2⟩, rfl⟩
        · rw [if_neg (fun z => hc z.1)] at hb
          rw [if_neg hc]
          exact ⟨(nI b, nI (pc b), nI (1 + k + 1), h'), ⟨by rw [hb]; rfl, by rw [hb]; rfl, by rw [e], i.trans e2⟩, rfl⟩
  · rintro ⟨x1, x2, x3, x4⟩ rc ⟨rfl, rfl, rfl, i⟩
    dsimp only at i ⊢
    have cx := i.kp.core c
    have e : 1 + (2 ^ nb - 1) = 2 ^ nb := by omega
    simp only [Nat.reduceAdd]
    rw [cx.2.1.2.2.1, mk_shl9 nb (by omega), e, if_pos (Int32.le_refl _)]
    exact ⟨x4, rfl, i⟩
  · show (-4 : Int32) = bv (match bst p 0 with
      | none => if p 0 = true then some 0 else none
      | some b => if p 0 = true ∧ pc 0 < pc b then some 0 else some b)
    rw [hp0]
    rfl
  · show (7 : Int32) = bz (match bst p 0 with
      | none => if p 0 = true then some 0 else none
      | some b => if p 0 = true ∧ pc 0 < pc b then some 0 else some b)
    rw [hp0]
    rfl
/-- a walk of the model whose turns lie in its own row -/
theorem goB {h ha : HP} {nb ns : Nat} {ln T : Nat → Nat} {B : Nat → Int32} {m : Nat} {wh fr to : Nat → Nat} (hv : HV (h.1 134) nb ns ln) (a3 : ∀ i, i < 34 → ha.1 143 i = h.1 134 i) (a5 : ha.1 133 16 = -1) (a6 : ha.1 133 17 = -1) (hB : TM B m wh fr to) (hw : ∀ k, k < m → wh k < nb) (hT : ∀ y, y < lsum ln ns → TA m wh fr to y = T y) : ∃ h2, F_X9_goesUp 133 (sa ha 144 B) = some h2 ∧ MR h2 nb (lsum ln ns) (uK (h.1 134)) (WR (h.1 134) nb ns ln (-1) T (uT (h.1 134)) (lsum ln ns)) (WB (h.1 134) nb ns ln (-1) T (uT (h.1 134))) ∧ FM ha h2 := by
  have hn := hv.1.2.2.1
  obtain ⟨h2, g1, g2, g3⟩ := goM (h := sa ha 144 B) (U := h.1 134) (ST := uT (h.1 134)) (T := T) (fun j hj => by rw [sa_n (by decide)]; exact a3 j hj) hv.1 (d := -1) (by rw [sa_n (by decide)]; exact a6) (Or.inl rfl) (fl := -1) (by rw [sa_n (by decide)]; exact a5) (fun i hi => by rw [if_neg (nI_m1 (by omega))]; rfl) (fun y hy => by
    have := tolds_all (h := sa ha 144 B) (nb := nb) (Y := lsum ln ns) (by rw [sa_r]; exact hB) hw hv.1.2.2.2.2.2 y hy
    rw [hT y hy] at this
    exact this)
  exact ⟨h2, g1, g2, (fm_st (by omega)).trans g3⟩
theorem neM {h : HP} {nb ns n : Nat} {ln wh fr to : Nat → Nat} (c : Core h nb ns ln n wh fr to) : ∃ h', F_X9_needed 133 h = some (bv (bst (neP (h.1 134) nb ns ln) (2 ^ nb)), h') ∧ FM h h' := by
  have hn := c.1.1.2.2.1
  have hp64 := two_le hn
  have h120 : lsum ln ns ≤ 120 := c.1.1.2.2.2.2.2
  generalize hp : neP (h.1 134) nb ns ln = p
  unfold F_X9_needed F_X9_needed_L5
  refine lp_inv' (fun k x => x.1 = bv (bst p k) ∧ x.2.1 = nI k ∧ FM h x.2.2) (B := 2 ^ nb) (Q := fun r => ∃ h', r = some (bv (bst p (2 ^ nb)), h') ∧ FM h h') ?_ ?_ sg_fuel 0 (-4, 0, h) (Nat.zero_le _) (fu (by omega)) ⟨rfl, rfl, FM.rf⟩
  · rintro k ⟨x1, x2, x3⟩ rc hk ⟨rfl, rfl, i⟩
    left
    dsimp only at i ⊢
    have cx := i.kp.core c
    have hU : x3.1 134 = h.1 134 := i.1 134 (by omega)
    have hk64 : k < 64 := by omega
    have hpk := pc_le _ hk64
    have l : ld x3 134 1 = nI nb := cx.1.1.2.1
    obtain ⟨ha, a1, a2, a3, a4, a5, a6⟩ := asItIs_ok x3
    simp only [Nat.reduceAdd]
    rw [l, mk_shl9 nb (by omega), if_neg (nI_ge (by omega) (by omega)), a1, cl_some, nm_eq]
    have s0 : st ha 144 0 0 = sa ha 144 (upd (ha.1 144) 0 0) := st_sa (j := 0) (by decide)
    rw [s0]
    unfold F_X9_needed_L30
    refine lp_inv' (fun e z => z.1 = nI e ∧ ∃ B m wh' fr' to', z.2 = sa ha 144 B ∧ TM B m wh' fr' to' ∧ m ≤ e ∧ (∀ j, j < m → wh' j < nb) ∧ ∀ y, y < 120 → TA m wh' fr' to' y = mk k.testBit e) (B := nb) (Q := fun r => ∃ x', (x'.1 = bv (bst p (k + 1)) ∧ x'.2.1 = nI (k + 1) ∧ FM h x'.2.2) ∧ r = rc x') ?_ ?_ sg_fuel 0 (0, sa ha 144 (upd (ha.1 144) 0 0)) (Nat.zero_le _) (fu (by omega)) ⟨rfl, _, 0, wh, fr, to, rfl, ⟨by rw [upd_r]; rfl, by omega, fun j hj => absurd hj (Nat.not_lt_zero j)⟩, Nat.le_refl _, fun j hj => absurd hj (Nat.not_lt_zero j), fun y hy => rfl⟩
    · rintro e ⟨z1, z2⟩ rc2 he ⟨rfl, B, m, wh', fr', to', rfl, b1, b2, b3, b4⟩
      left
      dsimp only
      have l2 : ld (sa ha 144 B) 134 1 = nI nb := by
        have : (sa ha 144 B).1 134 = x3.1 134 := by rw [sa_n (by decide)]; exact a2.1 134 (by omega)
        show (sa ha 144 B).1 134 1 = nI nb
        rw [this]
        exact l
      simp only [Nat.reduceAdd]
      rw [l2, if_neg (nI_ge he (by omega)), mk_has _ hk64 e (by omega), cl_some, b01]
      unfold F_X9_needed_J59
      rw [nI_1]
      by_cases hb : k.testBit e = true
      · obtain ⟨B', g1, g2⟩ := adds_eq (h := sa ha 144 B) (q := 144) (i := e) (a := 0) (b := 119) (by rw [sa_r]; exact b1) (by omega) rfl (by omega) (by omega) (by omega)
        have g1' : F_X9_adds 144 (nI e) 0 119 (sa ha 144 B) = some (sa (sa ha 144 B) 144 B') := g1
        rw [if_pos hb, g1', cl_some, sa_sa]
        refine ⟨_, ⟨rfl, B', m + 1, _, _, _, rfl, g2, by omega, fun j hj => ?_, fun y hy => ?_⟩, rfl⟩
        · by_cases hj2 : j = m
          · subst hj2; rw [upN_r]; exact he
          · rw [upN_n hj2]; exact b3 j (by omega)
        · show tmask _ _ _ _ y (m + 1) = mk k.testBit (e + 1)
          rw [tmask_up, if_pos ⟨rfl, Nat.zero_le _, by omega⟩]
          show TA m wh' fr' to' y ||| 2 ^ e = mk k.testBit e ||| (if k.testBit e then 2 ^ e else 0)
          rw [b4 y hy, hb]
          rfl
      · rw [if_neg hb]
        refine ⟨_, ⟨rfl, B, m, wh', fr', to', rfl, b1, by omega, b3, fun y hy => ?_⟩, rfl⟩
        show TA m wh' fr' to' y = mk k.testBit e ||| (if k.testBit e then 2 ^ e else 0)
        rw [b4 y hy]
        simp [hb]
    · rintro ⟨z1, z2⟩ rc2 ⟨rfl, B, m, wh', fr', to', rfl, b1, b2, b3, b4⟩
      dsimp only
      have l2 : ld (sa ha 144 B) 134 1 = nI nb := by
        have : (sa ha 144 B).1 134 = x3.1 134 := by rw [sa_n (by decide)]; exact a2.1 134 (by omega)
        show (sa ha 144 B).1 134 1 = nI nb
        rw [this]
        exact l
      simp only [Nat.reduceAdd]
      rw [l2, if_pos (Int32.le_refl _)]
      obtain ⟨h2, g1, g2, g3⟩ := goB (h := x3) (T := fun _ => k) cx.1 a3 a5 a6 b1 b3 (fun y hy => by rw [b4 y (by omega), mk_all hk hn])
      unfold F_X9_needed_J65 F_X9_needed_J86
      rw [g1, cl_some]
      have hst : h2.1 133 23 = -4 ↔ p k = true := by
        rw [g2.1, ← hp, hU]
        unfold neP
        rw [decide_eq_true_iff]
      have hJ : ∀ s0 : Int32, F_X9_needed_J91 133 rc (bv (bst p k)) (nI k) s0 h2 = rc (if p k = true ∧ ¬ s0 = 0 then nI k else bv (bst p k), nI (k + 1), h2) := by
        intro s0
        unfold F_X9_needed_J91 F_X9_needed_J109 F_X9_needed_J110
        rw [nI_1]
        by_cases hc : p k = true
        · rw [if_pos (hst.mpr hc)]
          by_cases hz : s0 = 0
          · rw [if_pos hz, if_neg (fun z => z.2 hz)]
          · rw [if_neg hz, if_pos ⟨hc, hz⟩]
        · rw [if_neg (fun z => hc (hst.mp z)), if_neg (fun z => hc z.1)]
      simp only [hJ]
      have fm := i.trans (a2.trans g3)
      have hb : bst p (k + 1) = (match bst p k with
        | none => if p k = true then some k else none
        | some b => if p k = true ∧ pc k < pc b then some k else some b) := rfl
      cases hbk : bst p k with
      | none =>
        rw [hbk] at hb
        dsimp only at hb
        rw [if_pos (show bv none = -4 from rfl)]
        refine ⟨_, ⟨?_, rfl, fm⟩, rfl⟩
        dsimp only
        rw [hb]
        by_cases hc : p k = true
        · rw [if_pos hc, if_pos ⟨hc, by decide⟩]; rfl
        · rw [if_neg hc, if_neg (fun z => hc z.1)]
      | some b =>
        rw [hbk] at hb
        dsimp only at hb
        have hlt := bst_lt hbk
        have hpb := pc_le b (by omega)
        have hne : ¬ bv (some b) = -4 := by
          have : ∀ b, b < 64 → ¬ nI b = -4 := by decide +kernel
          exact this b (by omega)
        rw [if_neg hne, mk_bits _ hk64, cl_some, show bv (some b) = nI b from rfl, mk_bits _ (by omega), cl_some]
        by_cases hz : pc b ≤ pc k
        · rw [if_pos (nI_le hz (by omega))]
          rw [if_neg (by omega)] at hb
          refine ⟨_, ⟨?_, rfl, fm⟩, rfl⟩
          dsimp only
          rw [hb, if_neg (fun z => z.2 trivial)]
          rfl
        · rw [if_neg (nI_ge (by omega) (by omega))]
          refine ⟨_, ⟨?_, rfl, fm⟩, rfl⟩
          dsimp only
          rw [hb]
          by_cases hc : p k = true
          · rw [if_pos ⟨hc, by decide⟩, if_pos ⟨hc, by omega⟩]; rfl
          · rw [if_neg (fun z => hc z.1), if_neg (fun z => hc z.1)]; rfl
  · rintro ⟨x1, x2, x3⟩ rc ⟨rfl, rfl, i⟩
    dsimp only at i ⊢
    have cx := i.kp.core c
    have l : ld x3 134 1 = nI nb := cx.1.1.2.1
    simp only [Nat.reduceAdd]
    rw [l, mk_shl9 nb (by omega), if_pos (Int32.le_refl _)]
    exact ⟨x3, rfl, i⟩
theorem step_needed (h : HP) (hI : Inv h) : ∃ (r : Int32) (h1 h2 : HP), F_X8_needed 0 h = some (r, h1) ∧ F_X9_needed 133 h1 = some (r, h2) ∧ Inv h2 := by
  have hI0 := hI
  obtain ⟨nb, ns, ln, n, wh, fr, to, c, t, u, k, q⟩ := hI
  obtain ⟨h1, e1, e2⟩ := neC c
  obtain ⟨h2, e3, e4⟩ := neM (e2.kp.core c)
  rw [e2.1 134 (by omega)] at e3
  exact ⟨_, h1, h2, e1, e3, e4.kp.inv (e2.kp.inv hI0)⟩
