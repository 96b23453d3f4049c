def oF (U : Nat → Int32) (nb : Nat) (ln : Nat → Nat) (i j a b : Nat) : Int32 := if a = b then r1 U nb ln (2 ^ i ||| 2 ^ j) i a else r1 U nb ln (2 ^ i) i a
def oO (U : Nat → Int32) (nb : Nat) (ln : Nat → Nat) (i j a b : Nat) : Int32 := if a = b then r1 U nb ln (2 ^ i ||| 2 ^ j) j b else r1 U nb ln (2 ^ j) j b
/-- what the model's choices leave as it was -/
def FN (h h' : HP) : Prop := (∀ x, (x < 133 ∨ (133 < x ∧ x < 143) ∨ (149 < x ∧ x < 152) ∨ 153 < x) → h'.1 x = h.1 x) ∧ (∀ j, j ≠ 16 → j ≠ 17 → j ≠ 23 → h'.1 133 j = h.1 133 j) ∧ h'.2 = h.2
theorem FN.rf {h : HP} : FN h h := ⟨fun _ _ => rfl, fun _ _ _ _ => rfl, rfl⟩
theorem FN.trans {h1 h2 h3 : HP} (p : FN h1 h2) (q : FN h2 h3) : FN h1 h3 := ⟨fun x hx => (q.1 x hx).trans (p.1 x hx), fun j a b c => (q.2.1 j a b c).trans (p.2.1 j a b c), q.2.2.trans p.2.2⟩
theorem FM.fn {h h' : HP} (p : FM h h') : FN h h' := ⟨fun x hx => p.1 x (by omega), p.2.1, p.2.2⟩
theorem FN.kp {h h' : HP} (p : FN h h') : Kp h h' := ⟨fun x hx => p.1 x (by unfold Pz at hx; omega), fun j hj => p.2.1 j (by omega) (by omega) (by omega), fun x hx => by rw [p.2.2]⟩
theorem or_self2 : ∀ i, i < 6 → ∀ j, j < 6 → (2 ^ i ||| 2 ^ j) &&& (2 ^ i ||| 2 ^ j) = (2 ^ i ||| 2 ^ j) ∧ 2 ^ i &&& (2 ^ i ||| 2 ^ j) = 2 ^ i ∧ 2 ^ j &&& (2 ^ i ||| 2 ^ j) = 2 ^ j := by decide +kernel
theorem choiceM {h : HP} {nb ns n i j a b : Nat} {ln wh fr to : Nat → Nat} (c : Core h nb ns ln n wh fr to) (hi : i < nb) (hj : j < nb) (hij : i ≠ j) (ha : a < ns) (hb : b < ns) : ∃ h', F_X9_layChoice 133 (nI i) (nI j) (nI a) (nI b) h = some h' ∧ h'.1 152 = upd (h.1 152) (6 * a + b) (oF (h.1 134) nb ln i j a b) ∧ h'.1 153 = upd (h.1 153) (6 * a + b) (oO (h.1 134) nb ln i j a b) ∧ FN h h' := by
  have hM := c.1.1
  obtain ⟨m1, m2, m3, m4, m5, m6⟩ := id hM
  obtain ⟨g, a1, a2, a3, a4, a5, a6⟩ := asItIs_ok h
  obtain ⟨x0, b1, b2, b3⟩ := startsUp_eq (h := g) nb m3
  have hU0 : ∀ e, e < 34 → x0.1 143 e = h.1 134 e := fun e he => by rw [b3.1 143 (by omega)]; exact a3 e he
  have s0 : MS x0 nb (uT (h.1 134), 0) := by
    refine ⟨Nat.two_pow_pos nb, fun y hy => ?_⟩
    obtain ⟨k1, k2, k3, k4, k5⟩ := b2.2.2 y hy
    refine ⟨?_, fun z => absurd z (by simp), fun _ => ?_⟩
    · rw [k1]
      show (if nI y = g.1 133 16 then 0 else g.1 143 (22 + y)) = uT (h.1 134) y
      rw [a5, if_neg (nI_m1 (by omega)), a3 _ (by omega)]
      rfl
    · rw [k2]
      simp [w0]
  have f0 : FM h x0 := a2.trans b3.fm
  have pi2 : 2 ^ i < 2 ^ nb := Nat.pow_lt_pow_right (by decide) hi
  have pj2 : 2 ^ j < 2 ^ nb := Nat.pow_lt_pow_right (by decide) hj
  have p64i : 2 ^ i < 64 := two64 (by omega)
  have p64j : 2 ^ j < 64 := two64 (by omega)
  obtain ⟨o1, o2, o3⟩ := or_self2 i (by omega) j (by omega)
  have e6 : (6 : Int32) * nI a + nI b = nI (6 * a + b) := by
    have : (6 : Int32) * nI a = nI (6 * a) := pk_mul 6 a
    rw [this, nI_add]
  -- the end
  have hend : ∀ (x : HP) (u v : Int32), FM h x → ∃ h', F_X9_layChoice_J226 133 (nI a) (nI b) u v x = some h' ∧ h'.1 152 = upd (h.1 152) (6 * a + b) u ∧ h'.1 153 = upd (h.1 153) (6 * a + b) v ∧ FN h h' := by
    intro x u v hx
    refine ⟨sa (sa x 152 (upd (x.1 152) (6 * a + b) u)) 153 (upd (x.1 153) (6 * a + b) v), ?_, ?_, ?_, ?_⟩
    · unfold F_X9_layChoice_J226
      simp only [Nat.reduceAdd]
      rw [e6, gd_ok (by omega) (by decide), nm_eq, gd_ok (by omega) (by decide), nm_eq, st_sa (by omega), st_sa (by omega), sa_n (q := 152) (x := 153) (by decide)]
    · rw [sa_n (by decide), sa_r, hx.1 152 (by omega)]
    · rw [sa_r, hx.1 153 (by omega)]
    · exact hx.fn.trans ⟨fun y hy => by rw [sa_n (by omega), sa_n (by omega)], fun y _ _ _ => by rw [sa_n (by decide), sa_n (by decide)], rfl⟩
  -- one turn
  have turn : ∀ (rc17 : (Int32 × Int32 × Int32 × HP) → Option HP) (x : HP) (s : (Nat → Int32) × Nat) (u v x7 : Int32) (k D : Nat), k < ns → D < 2 ^ nb → D &&& (2 ^ i ||| 2 ^ j) = D → MS x nb s → FM h x → x.1 143 = x0.1 143 → ∃ x', F_X9_layChoice_J76 133 rc17 (nI i) (nI j) (nI a) (nI b) u v x7 (nI k) (nI D) x = rc17 (u + chG nb (uK (h.1 134)) (bsN (h.1 134) k) D s i (ln k), v + chG nb (uK (h.1 134)) (bsN (h.1 134) k) D s j (ln k), x7 + 1, x') ∧ MS x' nb (csG nb (uK (h.1 134)) (bsN (h.1 134) k) D s (ln k)) ∧ FM h x' ∧ x'.1 143 = x0.1 143 := by
    intro rc17 x s u v x7 k D hk hD hD2 hS hx h143
    have hU : ∀ e, e < 34 → x.1 143 e = h.1 134 e := fun e he => by rw [h143]; exact hU0 e he
    obtain ⟨x', q1, q2, q3, q4⟩ := layM (x := x) (rc17 := rc17) (x3 := nI a) (x4 := nI b) (x7 := x7) (o1 := u) (o2 := v) hU hM hk hi hj hD hD2 hS
    refine ⟨x', ?_, q2, hx.trans q3, q4.trans h143⟩
    unfold F_X9_layChoice_J76
    simp only [Nat.reduceAdd]
    have l3 : ld x 143 3 = h.1 134 3 := hU 3 (by decide)
    rw [lit_add 10, gd_ok (by omega) (by decide), nm_eq, ld_nI (by omega), hU (10 + k) (by omega), l3]
    exact q1
  unfold F_X9_layChoice
  rw [a1, cl_some, b1, cl_some]
  obtain ⟨N, hN⟩ : ∃ N, sg_fuel = N + 3 := ⟨59997, rfl⟩
  unfold F_X9_layChoice_L17
  rw [hN]
  generalize hbody : (fun (rc17 : (Int32 × Int32 × Int32 × HP) → Option HP) (x : Int32 × Int32 × Int32 × HP) => if nI a = nI b then F_X9_layChoice_J30 133 rc17 (nI i) (nI j) (nI a) (nI b) x.1 x.2.1 x.2.2.1 1 x.2.2.1 x.2.2.2 else F_X9_layChoice_J30 133 rc17 (nI i) (nI j) (nI a) (nI b) x.1 x.2.1 x.2.2.1 2 x.2.2.1 x.2.2.2) = body
  have hstep : ∀ M x, lp body (M + 1) x = (if nI a = nI b then F_X9_layChoice_J30 133 (lp body M) (nI i) (nI j) (nI a) (nI b) x.1 x.2.1 x.2.2.1 1 x.2.2.1 x.2.2.2 else F_X9_layChoice_J30 133 (lp body M) (nI i) (nI j) (nI a) (nI b) x.1 x.2.1 x.2.2.1 2 x.2.2.1 x.2.2.2) := fun M x => by
    show body (lp body M) x = _
    rw [← hbody]
  by_cases hab : a = b
  · subst hab
    rw [hstep, if_pos rfl]
    unfold F_X9_layChoice_J30 F_X9_layChoice_J44
    dsimp only
    rw [if_neg (by decide), if_pos rfl, if_pos rfl, mk_shl i (by omega), mk_shl j (by omega), mk_or _ p64i _ p64j]
    obtain ⟨x', q1, q2, q3, q4⟩ := turn (lp body (N + 2)) x0 (uT (h.1 134), 0) 0 0 0 a (2 ^ i ||| 2 ^ j) ha (Nat.or_lt_two_pow pi2 pj2) o1 s0 f0 rfl
    rw [q1, hstep, if_pos rfl]
    unfold F_X9_layChoice_J30
    dsimp only
    rw [if_pos (by decide), Int32.zero_add, Int32.zero_add]
    obtain ⟨h', w1, w2, w3, w4⟩ := hend x' (chG nb (uK (h.1 134)) (bsN (h.1 134) a) (2 ^ i ||| 2 ^ j) (uT (h.1 134), 0) i (ln a)) (chG nb (uK (h.1 134)) (bsN (h.1 134) a) (2 ^ i ||| 2 ^ j) (uT (h.1 134), 0) j (ln a)) q3
    refine ⟨h', w1, ?_, ?_, w4⟩
    · rw [w2]; unfold oF r1; rw [if_pos rfl]
    · rw [w3]; unfold oO r1; rw [if_pos rfl]
  · have hne : ¬ nI a = nI b := fun z => hab ((nI_eq (by omega) (by omega)).mp z)
    rw [hstep, if_neg hne]
    unfold F_X9_layChoice_J30 F_X9_layChoice_J44
    dsimp only
    rw [if_neg (by decide), if_pos rfl, if_neg hne, if_pos rfl, mk_shl i (by omega)]
    obtain ⟨x', q1, q2, q3, q4⟩ := turn (lp body (N + 2)) x0 (uT (h.1 134), 0) 0 0 0 a (2 ^ i) ha pi2 o2 s0 f0 rfl
    rw [q1, hstep, if_neg hne]
    have bij : (2 ^ i).testBit j = false := by rw [Nat.testBit_two_pow]; simp; exact hij
    have bji : (2 ^ j).testBit i = false := by rw [Nat.testBit_two_pow]; simp; exact fun z => hij z.symm
    unfold F_X9_layChoice_J30 F_X9_layChoice_J44
    dsimp only
    rw [if_neg (by decide), if_neg (by decide), if_neg hne, if_neg (by decide), mk_shl j (by omega)]
    obtain ⟨x2, t1, t2, t3, t4⟩ := turn (lp body (N + 1)) x' (csG nb (uK (h.1 134)) (bsN (h.1 134) a) (2 ^ i) (uT (h.1 134), 0) (ln a)) (0 + chG nb (uK (h.1 134)) (bsN (h.1 134) a) (2 ^ i) (uT (h.1 134), 0) i (ln a)) (0 + chG nb (uK (h.1 134)) (bsN (h.1 134) a) (2 ^ i) (uT (h.1 134), 0) j (ln a)) (0 + 1) b (2 ^ j) hb pj2 o3 q2 q3 q4
    rw [t1, hstep, if_neg hne]
    unfold F_X9_layChoice_J30
    dsimp only
    rw [if_pos (by decide), ch0 bij, ch0 bji, Int32.zero_add, Int32.add_zero, Int32.zero_add, Int32.zero_add]
    obtain ⟨k1, k2⟩ := cs_keep (nb := nb) (K := uK (h.1 134)) (base := bsN (h.1 134) a) (s := (uT (h.1 134), 0)) bij (ln a)
    have k3 := (cs_one (nb := nb) (K := uK (h.1 134)) (base := bsN (h.1 134) b) (s := csG nb (uK (h.1 134)) (bsN (h.1 134) a) (2 ^ i) (uT (h.1 134), 0) (ln a)) (s' := (uT (h.1 134), 0)) m3 hj q2.1 (Nat.two_pow_pos nb) k1 k2 (ln b)).2.2
    rw [k3]
    obtain ⟨h', w1, w2, w3, w4⟩ := hend x2 (chG nb (uK (h.1 134)) (bsN (h.1 134) a) (2 ^ i) (uT (h.1 134), 0) i (ln a)) (chG nb (uK (h.1 134)) (bsN (h.1 134) b) (2 ^ j) (uT (h.1 134), 0) j (ln b)) t3
    refine ⟨h', w1, ?_, ?_, w4⟩
    · rw [w2]; unfold oF r1; rw [if_neg hab]
    · rw [w3]; unfold oO r1; rw [if_neg hab]
/-- neither would have more by another stretch -/
def rsB (F O : Nat → Nat → Int32) (a b : Nat) : Nat → Bool
  | 0 => true
  | k + 1 => rsB F O a b k && (decide (F k b ≤ F a b) && decide (O a k ≤ O a b))
theorem rsB_false {F O : Nat → Nat → Int32} {a b k : Nat} (h : rsB F O a b k = false) : ∀ d, rsB F O a b (k + d) = false
  | 0 => h
  | d + 1 => by
    show (rsB F O a b (k + d) && _) = false
    rw [rsB_false h d, Bool.false_and]
/-- choices by their number -/
def rsP (F O : Nat → Nat → Int32) (ns : Nat) (c : Nat) : Bool := decide (c / 8 < ns) && (decide (c % 8 < ns) && rsB F O (c / 8) (c % 8) ns)
theorem rsP_at {F O : Nat → Nat → Int32} {ns a b : Nat} (hn : ns ≤ 6) (ha : a < ns) (hb : b < ns) : rsP F O ns (8 * a + b) = rsB F O a b ns := by
  unfold rsP
  rw [show (8 * a + b) / 8 = a by omega, show (8 * a + b) % 8 = b by omega]
  simp [ha, hb]
theorem rsP_gap {F O : Nat → Nat → Int32} {ns c : Nat} (h : ns ≤ c % 8 ∨ ns ≤ c / 8) : rsP F O ns c = false := by
  unfold rsP
  rcases h with h | h
  · have : ¬ c % 8 < ns := by omega
    simp [this]
  · have : ¬ c / 8 < ns := by omega
    simp [this]
theorem ct_gap {p : Nat → Bool} {m : Nat} : ∀ {d : Nat}, (∀ c, m ≤ c → c < m + d → p c = false) → fb_ct p (m + d) = fb_ct p m
  | 0, _ => rfl
  | d + 1, h => by
    rw [← Nat.add_assoc, fb_ct_succ, ct_gap (fun c h1 h2 => h c h1 (by omega)), h (m + d) (by omega) (by omega)]
    rfl
/-- the least of those in lo .. hi -/
def lst (p : Nat → Bool) (lo hi : Nat) (F : Int32) : Prop := (F = -4 ∧ ∀ c, lo ≤ c → c < hi → p c = false) ∨ ∃ c, lo ≤ c ∧ c < hi ∧ p c = true ∧ F = nI c ∧ ∀ c', lo ≤ c' → c' < c → p c' = false
theorem lst_one {p : Nat → Bool} {lo hi : Nat} {F G : Int32} (hF : lst p lo hi F) (hG : lst p lo hi G) : F = G := by
  rcases hF with ⟨f1, f2⟩ | ⟨c, c1, c2, c3, c4, c5⟩
  · rcases hG with ⟨g1, g2⟩ | ⟨d, d1, d2, d3, d4, d5⟩
    · rw [f1, g1]
    · rw [f2 d d1 d2] at d3; exact absurd d3 (by decide)
  · rcases hG with ⟨g1, g2⟩ | ⟨d, d1, d2, d3, d4, d5⟩
    · rw [g2 c c1 c2] at c3; exact absurd c3 (by decide)
    · have : c = d := by
        rcases Nat.lt_trichotomy c d with q | q | q
        · rw [d5 c c1 q] at c3; exact absurd c3 (by decide)
        · exact q
        · rw [c5 d d1 q] at d3; exact absurd d3 (by decide)
      rw [c4, d4, this]
theorem lst_up {p : Nat → Bool} {hi : Nat} {F : Int32} (h : lst p 0 hi F) (hh : hi < 64) : lst p 0 (hi + 1) (if p hi = true then (if F = -4 then nI hi else F) else F) := by
  rcases h with ⟨f1, f2⟩ | ⟨c, c1, c2, c3, c4, c5⟩
  · by_cases hp : p hi = true
    · rw [if_pos hp, if_pos f1]
      exact Or.inr ⟨hi, by omega, by omega, hp, rfl, fun c' _ h => f2 c' (by omega) h⟩
    · rw [if_neg hp]
      refine Or.inl ⟨f1, fun c _ h2 => ?_⟩
      by_cases e : c = hi
      · subst e; simpa using hp
      · exact f2 c (by omega) (by omega)
  · have hne : ¬ F = -4 := by
      rw [c4]
      have : ∀ b, b < 64 → ¬ nI b = -4 := by decide +kernel
      exact this c (by omega)
    have : (if p hi = true then (if F = -4 then nI hi else F) else F) = F := by
      rw [if_neg hne]
      split <;> rfl
    rw [this]
    exact Or.inr ⟨c, c1, by omega, c3, c4, c5⟩
theorem lst_gap {p : Nat → Bool} {lo hi hi' : Nat} {F : Int32} (h : lst p lo hi F) (hh : hi ≤ hi') (hg : ∀ c, hi ≤ c → c < hi' → p c = false) : lst p lo hi' F := by
  rcases h with ⟨f1, f2⟩ | ⟨c, c1, c2, c3, c4, c5⟩
  · refine Or.inl ⟨f1, fun c h1 h2 => ?_⟩
    rcases Nat.lt_or_ge c hi with q | q
    · exact f2 c h1 q
    · exact hg c q h2
  · exact Or.inr ⟨c, c1, by omega, c3, c4, c5⟩
theorem lst_down {p : Nat → Bool} {lo hi : Nat} {F : Int32} (h : lst p (lo + 1) hi F) (hh : lo < hi) : lst p lo hi (if p lo = true then nI lo else F) := by
  by_cases hp : p lo = true
  · rw [if_pos hp]
    exact Or.inr ⟨lo, Nat.le_refl _, hh, hp, rfl, fun c' h1 h2 => absurd h2 (by omega)⟩
  · rw [if_neg hp]
    have hp' : p lo = false := by simpa using hp
    rcases h with ⟨f1, f2⟩ | ⟨c, c1, c2, c3, c4, c5⟩
    · refine Or.inl ⟨f1, fun c h1 h2 => ?_⟩
      by_cases e : c = lo
      · subst e; exact hp'
      · exact f2 c (by omega) h2
    · refine Or.inr ⟨c, by omega, c2, c3, c4, fun c' h1 h2 => ?_⟩
      by_cases e : c' = lo
      · subst e; exact hp'
      · exact c5 c' (by omega) h2
theorem lst_gapd {p : Nat → Bool} {lo lo' hi : Nat} {F : Int32} (h : lst p lo hi F) (hh : lo' ≤ lo) (hg : ∀ c, lo' ≤ c → c < lo → p c = false) : lst p lo' hi F := by
  rcases h with ⟨f1, f2⟩ | ⟨c, c1, c2, c3, c4, c5⟩
  · refine Or.inl ⟨f1, fun c h1 h2 => ?_⟩
    rcases Nat.lt_or_ge c lo with q | q
    · exact hg c h1 q
    · exact f2 c q h2
  · refine Or.inr ⟨c, by omega, c2, c3, c4, fun c' h1 h2 => ?_⟩
    rcases Nat.lt_or_ge c' lo with q | q
    · exact hg c' h1 q
    · exact c5 c' q h2
