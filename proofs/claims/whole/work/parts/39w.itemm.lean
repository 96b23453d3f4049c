/-- the model holds it -/
def RMd (x : HP) : PSt → Prop
  | (ns, nb, mu, we, n, ln, sl, pr, st, kd, wh, fr, to) => x.1 135 0 = nI ns ∧ x.1 135 1 = nI nb ∧ x.1 135 2 = nI mu ∧ x.1 135 3 = nI we ∧ (∀ i, i < ns → x.1 135 (4 + i) = nI (ln i) ∧ x.1 135 (10 + i) = nI (sl i)) ∧ (∀ i, i < 6 → x.1 135 (16 + i) = nI (pr i)) ∧ (∀ i, i < nb → x.1 135 (22 + i) = nI (st i) ∧ x.1 135 (28 + i) = nI (kd i)) ∧ x.1 137 0 = nI n ∧ ∀ k, k < n → x.1 137 (1 + k) = nI (wh k) ∧ x.1 137 (11 + k) = nI (fr k) ∧ x.1 137 (21 + k) = nI (to k)
theorem RMd.of {x x' : HP} {S : PSt} (r : RMd x S) (h1 : x'.1 135 = x.1 135) (h2 : x'.1 137 = x.1 137) : RMd x' S := by
  obtain ⟨ns, nb, mu, we, n, ln, sl, pr, st, kd, wh, fr, to⟩ := S
  unfold RMd at r ⊢
  rw [h1, h2]
  exact r
def FK (x x' : HP) : Prop := (∀ y, y ≠ 135 → y ≠ 137 → x'.1 y = x.1 y) ∧ x'.2 = x.2
theorem FK.rf {h : HP} : FK h h := ⟨fun _ _ _ => rfl, rfl⟩
theorem fk_sa {h : HP} {q : Nat} {f : Nat → Int32} (hq : q = 135 ∨ q = 137) : FK h (sa h q f) := ⟨fun x a b => sa_n (by omega), rfl⟩
theorem isM {x : HP} {k a l m : Nat} (hk : k < 3) (h : x.1 142 k = nI a) (ha : a ≤ 1000) (hl : l ≤ 1000) (hm : m ≤ 1000) : F_X9_is 133 (nI k) (nI l) (nI m) x = some (if l ≤ a ∧ a ≤ m then 1 else 0) := by
  unfold F_X9_is
  simp only [Nat.reduceAdd]
  rw [gd_ok hk (by decide), ld_nI (by omega), h, inI_eq, cl_some]
  have : (nI l ≤ nI a ∧ nI a ≤ nI m) ↔ (l ≤ a ∧ a ≤ m) := by rw [nI_leI (by omega) (by omega), nI_leI (by omega) (by omega)]
  simp only [this]
theorem isM1 {x : HP} {a n : Nat} (h : x.1 142 0 = nI a) (ha : a ≤ 1000) (hn : n ≤ 1000) : F_X9_is 133 0 0 (nI n - 1) x = some (if a < n then 1 else 0) := by
  unfold F_X9_is
  simp only [Nat.reduceAdd]
  rw [show ∀ k : Option Int32, gd (0 : Int32) 3 k = k from fun k => gd_ok (j := 0) (by decide) (by decide), ld_0, h, inI_eq, cl_some]
  have : ((0 : Int32) ≤ nI a ∧ nI a ≤ nI n - 1) ↔ a < n := by
    by_cases h0 : n = 0
    · subst h0
      constructor
      · rintro ⟨z1, z2⟩
        exact absurd (Int32.le_trans z1 z2) (by decide)
      · intro z; omega
    · rw [isB_iff (by omega) (by omega), nI_ltI (by omega) (by omega)]
      exact ⟨fun z => z.2, fun z => ⟨nI_pos' (by omega), z⟩⟩
  simp only [this]
theorem lad {k : Nat} : (1 : Int32) + nI k = nI (1 + k) ∧ (4 : Int32) + nI k = nI (4 + k) ∧ (10 : Int32) + nI k = nI (10 + k) ∧ (11 : Int32) + nI k = nI (11 + k) ∧ (16 : Int32) + nI k = nI (16 + k) ∧ (21 : Int32) + nI k = nI (21 + k) ∧ (22 : Int32) + nI k = nI (22 + k) ∧ (28 : Int32) + nI k = nI (28 + k) := ⟨nI_add 1 k, nI_add 4 k, nI_add 10 k, nI_add 11 k, nI_add 16 k, nI_add 21 k, nI_add 22 k, nI_add 28 k⟩
theorem st_0 {h : HP} {q : Nat} {v : Int32} : st h q 0 v = sa h q (upd (h.1 q) 0 v) := rfl
theorem st_1 {h : HP} {q : Nat} {v : Int32} : st h q 1 v = sa h q (upd (h.1 q) 1 v) := rfl
/-- a row of the model's with a stretch, a bearer, a turn more -/
theorem comM {x : HP} {ns nb mu we n a b : Nat} {ln sl pr st kd wh fr to : Nat → Nat} (hn : nb < 6) (hs : ns ≤ 6) (hR : RMd x (ns, nb, mu, we, n, ln, sl, pr, st, kd, wh, fr, to)) : ∃ x', F_X9_comes 133 (nI a) (nI b) x = some x' ∧ RMd x' (ns, nb + 1, mu, we, n, ln, sl, pr, upN st nb a, upN kd nb b, wh, fr, to) ∧ FK x x' := by
  obtain ⟨r1, r2, r3, r4, r5, r6, r7, r8, r9⟩ := hR
  refine ⟨sa x 135 (upd (upd (upd (x.1 135) (22 + nb) (nI a)) (28 + nb) (nI b)) 1 (nI (nb + 1))), ?_, ?_, fk_sa (by omega)⟩
  · unfold F_X9_comes
    simp only [Nat.reduceAdd, nm_eq, ld_1, r2, lad.2.2.2.2.2.2.1, lad.2.2.2.2.2.2.2]
    simp (disch := omega) only [gd_ok, ld_nI, st_sa, nm_eq, cl_some, sa_sa, sa_r, sa_n, sa_2, nI_1, ui_sa, upd_r, upd_n, b01, Nat.reduceAdd, st_1]
    simp (disch := omega) only [upd_n, r2, nI_1]
  · refine ⟨?_, ?_, ?_, ?_, fun i hi => ?_, fun i hi => ?_, fun i hi => ?_, ?_, ?_⟩
    · simp (disch := omega) only [gd_ok, ld_nI, st_sa, nm_eq, cl_some, sa_sa, sa_r, sa_n, sa_2, nI_1, ui_sa, upd_r, upd_n, b01, Nat.reduceAdd, r1]
    · simp (disch := omega) only [gd_ok, ld_nI, st_sa, nm_eq, cl_some, sa_sa, sa_r, sa_n, sa_2, nI_1, ui_sa, upd_r, upd_n, b01, Nat.reduceAdd, r1]
    · simp (disch := omega) only [gd_ok, ld_nI, st_sa, nm_eq, cl_some, sa_sa, sa_r, sa_n, sa_2, nI_1, ui_sa, upd_r, upd_n, b01, Nat.reduceAdd, r3]
    · simp (disch := omega) only [gd_ok, ld_nI, st_sa, nm_eq, cl_some, sa_sa, sa_r, sa_n, sa_2, nI_1, ui_sa, upd_r, upd_n, b01, Nat.reduceAdd, r4]
    · simp (disch := omega) only [gd_ok, ld_nI, st_sa, nm_eq, cl_some, sa_sa, sa_r, sa_n, sa_2, nI_1, ui_sa, upd_r, upd_n, b01, Nat.reduceAdd]
      exact r5 i hi
    · simp (disch := omega) only [gd_ok, ld_nI, st_sa, nm_eq, cl_some, sa_sa, sa_r, sa_n, sa_2, nI_1, ui_sa, upd_r, upd_n, b01, Nat.reduceAdd]
      exact r6 i hi
    · simp (disch := omega) only [sa_r, upd_n]
      by_cases e : i = nb
      · subst e
        rw [upN_r, upN_r]
        simp (disch := omega) only [upd_n, upd_r, and_self]
      · rw [upN_n e, upN_n e]
        simp (disch := omega) only [upd_n]
        exact r7 i (by omega)
    · simp (disch := omega) only [gd_ok, ld_nI, st_sa, nm_eq, cl_some, sa_sa, sa_r, sa_n, sa_2, nI_1, ui_sa, upd_r, upd_n, b01, Nat.reduceAdd, r8]
    · simp (disch := omega) only [gd_ok, ld_nI, st_sa, nm_eq, cl_some, sa_sa, sa_r, sa_n, sa_2, nI_1, ui_sa, upd_r, upd_n, b01, Nat.reduceAdd]
      exact r9
theorem strM {x : HP} {ns nb mu we n a b : Nat} {ln sl pr st kd wh fr to : Nat → Nat} (hn : ns < 6) (hb : nb ≤ 6) (hR : RMd x (ns, nb, mu, we, n, ln, sl, pr, st, kd, wh, fr, to)) : ∃ x', F_X9_stretch 133 (nI a) (nI b) x = some x' ∧ RMd x' (ns + 1, nb, mu, we, n, upN ln ns a, upN sl ns b, pr, st, kd, wh, fr, to) ∧ FK x x' := by
  obtain ⟨r1, r2, r3, r4, r5, r6, r7, r8, r9⟩ := hR
  refine ⟨sa x 135 (upd (upd (upd (x.1 135) (4 + ns) (nI a)) (10 + ns) (nI b)) 0 (nI (ns + 1))), ?_, ?_, fk_sa (by omega)⟩
  · unfold F_X9_stretch
    simp only [Nat.reduceAdd, nm_eq, ld_0, r1, lad.2.1, lad.2.2.1]
    simp (disch := omega) only [gd_ok, ld_nI, st_sa, nm_eq, cl_some, sa_sa, sa_r, sa_n, sa_2, nI_1, ui_sa, upd_r, upd_n, b01, Nat.reduceAdd, st_0]
    simp (disch := omega) only [upd_n, r1, nI_1]
  · refine ⟨?_, ?_, ?_, ?_, fun i hi => ?_, fun i hi => ?_, fun i hi => ?_, ?_, ?_⟩
    · simp (disch := omega) only [gd_ok, ld_nI, st_sa, nm_eq, cl_some, sa_sa, sa_r, sa_n, sa_2, nI_1, ui_sa, upd_r, upd_n, b01, Nat.reduceAdd, r1]
    · simp (disch := omega) only [gd_ok, ld_nI, st_sa, nm_eq, cl_some, sa_sa, sa_r, sa_n, sa_2, nI_1, ui_sa, upd_r, upd_n, b01, Nat.reduceAdd, r2]
    · simp (disch := omega) only [gd_ok, ld_nI, st_sa, nm_eq, cl_some, sa_sa, sa_r, sa_n, sa_2, nI_1, ui_sa, upd_r, upd_n, b01, Nat.reduceAdd, r3]
    · simp (disch := omega) only [gd_ok, ld_nI, st_sa, nm_eq, cl_some, sa_sa, sa_r, sa_n, sa_2, nI_1, ui_sa, upd_r, upd_n, b01, Nat.reduceAdd, r4]
    · simp (disch := omega) only [sa_r, upd_n]
      by_cases e : i = ns
      · subst e
        rw [upN_r, upN_r]
        simp (disch := omega) only [upd_n, upd_r, and_self]
      · rw [upN_n e, upN_n e]
        simp (disch := omega) only [upd_n]
        exact r5 i (by omega)
    · simp (disch := omega) only [gd_ok, ld_nI, st_sa, nm_eq, cl_some, sa_sa, sa_r, sa_n, sa_2, nI_1, ui_sa, upd_r, upd_n, b01, Nat.reduceAdd]
      exact r6 i hi
    · simp (disch := omega) only [gd_ok, ld_nI, st_sa, nm_eq, cl_some, sa_sa, sa_r, sa_n, sa_2, nI_1, ui_sa, upd_r, upd_n, b01, Nat.reduceAdd]
      exact r7 i hi
    · simp (disch := omega) only [gd_ok, ld_nI, st_sa, nm_eq, cl_some, sa_sa, sa_r, sa_n, sa_2, nI_1, ui_sa, upd_r, upd_n, b01, Nat.reduceAdd, r8]
    · simp (disch := omega) only [gd_ok, ld_nI, st_sa, nm_eq, cl_some, sa_sa, sa_r, sa_n, sa_2, nI_1, ui_sa, upd_r, upd_n, b01, Nat.reduceAdd]
      exact r9
theorem turM {x : HP} {ns nb mu we n a b c : Nat} {ln sl pr st kd wh fr to : Nat → Nat} (hn : n < 9) (hR : RMd x (ns, nb, mu, we, n, ln, sl, pr, st, kd, wh, fr, to)) : ∃ x', F_X9_takesTurn 133 (nI a) (nI b) (nI c) x = some x' ∧ RMd x' (ns, nb, mu, we, n + 1, ln, sl, pr, st, kd, upN wh n a, upN fr n b, upN to n c) ∧ FK x x' := by
  obtain ⟨r1, r2, r3, r4, r5, r6, r7, r8, r9⟩ := hR
  refine ⟨sa x 137 (upd (upd (upd (upd (x.1 137) (1 + n) (nI a)) (11 + n) (nI b)) (21 + n) (nI c)) 0 (nI (n + 1))), ?_, ?_, fk_sa (by omega)⟩
  · unfold F_X9_takesTurn
    simp only [Nat.reduceAdd, nm_eq, ld_0, r8, lad.1, lad.2.2.2.1, lad.2.2.2.2.2.1]
    simp (disch := omega) only [gd_ok, ld_nI, st_sa, nm_eq, cl_some, sa_sa, sa_r, sa_n, sa_2, nI_1, ui_sa, upd_r, upd_n, b01, Nat.reduceAdd, st_0]
    simp (disch := omega) only [upd_n, r8, nI_1]
  · refine ⟨?_, ?_, ?_, ?_, fun i hi => ?_, fun i hi => ?_, fun i hi => ?_, ?_, fun k hk => ?_⟩
    · simp (disch := omega) only [gd_ok, ld_nI, st_sa, nm_eq, cl_some, sa_sa, sa_r, sa_n, sa_2, nI_1, ui_sa, upd_r, upd_n, b01, Nat.reduceAdd, r1]
    · simp (disch := omega) only [gd_ok, ld_nI, st_sa, nm_eq, cl_some, sa_sa, sa_r, sa_n, sa_2, nI_1, ui_sa, upd_r, upd_n, b01, Nat.reduceAdd, r2]
    · simp (disch := omega) only [gd_ok, ld_nI, st_sa, nm_eq, cl_some, sa_sa, sa_r, sa_n, sa_2, nI_1, ui_sa, upd_r, upd_n, b01, Nat.reduceAdd, r3]
    · simp (disch := omega) only [gd_ok, ld_nI, st_sa, nm_eq, cl_some, sa_sa, sa_r, sa_n, sa_2, nI_1, ui_sa, upd_r, upd_n, b01, Nat.reduceAdd, r4]
    · simp (disch := omega) only [gd_ok, ld_nI, st_sa, nm_eq, cl_some, sa_sa, sa_r, sa_n, sa_2, nI_1, ui_sa, upd_r, upd_n, b01, Nat.reduceAdd]
      exact r5 i hi
    · simp (disch := omega) only [gd_ok, ld_nI, st_sa, nm_eq, cl_some, sa_sa, sa_r, sa_n, sa_2, nI_1, ui_sa, upd_r, upd_n, b01, Nat.reduceAdd]
      exact r6 i hi
    · simp (disch := omega) only [gd_ok, ld_nI, st_sa, nm_eq, cl_some, sa_sa, sa_r, sa_n, sa_2, nI_1, ui_sa, upd_r, upd_n, b01, Nat.reduceAdd]
      exact r7 i hi
    · simp (disch := omega) only [gd_ok, ld_nI, st_sa, nm_eq, cl_some, sa_sa, sa_r, sa_n, sa_2, nI_1, ui_sa, upd_r, upd_n, b01, Nat.reduceAdd, r8]
    · simp (disch := omega) only [sa_r, upd_n]
      by_cases e : k = n
      · subst e
        rw [upN_r, upN_r, upN_r, upd_r]
        simp (disch := omega) only [upd_n, upd_r, and_self]
      · rw [upN_n e, upN_n e, upN_n e]
        simp (disch := omega) only [upd_n]
        exact r9 k (by omega)
theorem takB {x x2 : HP} {ns nb mu we n a b : Nat} {ln sl pr st kd wh fr to : Nat → Nat} (ht : F_X9_takes 133 2 x = some (1, x2)) (h0 : x2.1 142 0 = nI a) (h1 : x2.1 142 1 = nI b) (ha : a ≤ 99) (hb : b ≤ 99) (hn : nb ≤ 6) (hs : ns ≤ 6) (hR : RMd x2 (ns, nb, mu, we, n, ln, sl, pr, st, kd, wh, fr, to)) : ∃ x', F_X9_takesBearer 133 x = some (if 1 ≤ a ∧ a ≤ 60 ∧ b ≤ 3 ∧ nb < 6 then 1 else 0, x') ∧ (1 ≤ a ∧ a ≤ 60 ∧ b ≤ 3 ∧ nb < 6 → RMd x' (ns, nb + 1, mu, we, n, ln, sl, pr, upN st nb (10 * a), upN kd nb b, wh, fr, to)) ∧ FK x2 x' := by
  unfold F_X9_takesBearer
  simp only [Nat.reduceAdd]
  rw [ht, cl_some, if_neg (show ¬ (1 : Int32) = 0 by decide), show F_X9_is 133 0 1 60 x2 = _ from isM (k := 0) (l := 1) (m := 60) (by decide) h0 (by omega) (by omega) (by omega), cl_some, b01, show F_X9_is 133 1 0 3 x2 = _ from isM (k := 1) (l := 0) (m := 3) (by decide) h1 (by omega) (by omega) (by omega), cl_some, b01, ld_1, ld_0, ld_1, h0, h1, hR.2.1]
  by_cases c2 : 1 ≤ a ∧ a ≤ 60
  · rw [if_pos c2]
    by_cases c3 : 0 ≤ b ∧ b ≤ 3
    · rw [if_pos c3]
      by_cases c1 : nb < 6
      · rw [if_neg (show ¬ nI nb = 6 from fun z => by have := (nI_sm (b := 6) (by omega) (by omega)).mp z; omega), if_pos (show 1 ≤ a ∧ a ≤ 60 ∧ b ≤ 3 ∧ nb < 6 from ⟨c2.1, c2.2, c3.2, c1⟩), show (10 : Int32) * nI a = nI (10 * a) from pk_mul 10 a]
        obtain ⟨x', e1, e2, e3⟩ := comM (a := 10 * a) (b := b) c1 hs hR
        rw [e1, cl_some]
        exact ⟨x', rfl, fun _ => e2, e3⟩
      · rw [if_pos (show nI nb = 6 by rw [show nb = 6 by omega]; rfl), if_neg (show ¬ (1 ≤ a ∧ a ≤ 60 ∧ b ≤ 3 ∧ nb < 6) from fun z => c1 z.2.2.2)]
        exact ⟨x2, rfl, fun z => absurd z.2.2.2 c1, FK.rf⟩
    · rw [if_neg c3, if_neg (show ¬ (1 ≤ a ∧ a ≤ 60 ∧ b ≤ 3 ∧ nb < 6) from fun z => c3 ⟨Nat.zero_le _, z.2.2.1⟩)]
      exact ⟨x2, rfl, fun z => absurd ⟨Nat.zero_le _, z.2.2.1⟩ c3, FK.rf⟩
  · rw [if_neg c2, if_neg (show ¬ (1 ≤ a ∧ a ≤ 60 ∧ b ≤ 3 ∧ nb < 6) from fun z => c2 ⟨z.1, z.2.1⟩)]
    exact ⟨x2, rfl, fun z => absurd ⟨z.1, z.2.1⟩ c2, FK.rf⟩
theorem takS {x x2 : HP} {ns nb mu we n a b : Nat} {ln sl pr st kd wh fr to : Nat → Nat} (ht : F_X9_takes 133 2 x = some (1, x2)) (h0 : x2.1 142 0 = nI a) (h1 : x2.1 142 1 = nI b) (ha : a ≤ 99) (hb : b ≤ 99) (hn : nb ≤ 6) (hs : ns ≤ 6) (hl : lsum ln ns ≤ 120) (hR : RMd x2 (ns, nb, mu, we, n, ln, sl, pr, st, kd, wh, fr, to)) : ∃ x', F_X9_takesStretch 133 x = some (if 1 ≤ a ∧ a ≤ 30 ∧ b ≤ 5 ∧ ns < 6 ∧ lsum ln ns + a ≤ 120 then 1 else 0, x') ∧ (1 ≤ a ∧ a ≤ 30 ∧ b ≤ 5 ∧ ns < 6 ∧ lsum ln ns + a ≤ 120 → RMd x' (ns + 1, nb, mu, we, n, upN ln ns a, upN sl ns b, pr, st, kd, wh, fr, to)) ∧ FK x2 x' := by
  unfold F_X9_takesStretch
  simp only [Nat.reduceAdd]
  have hy : F_X9_yardsOf 135 x2 = some (nI (lsum ln ns)) := yardsOf_eq (nb := nb) ⟨hR.1, hR.2.1, hn, hs, fun i hi => (hR.2.2.2.2.1 i hi).1, hl⟩ rfl
  rw [ht, cl_some, if_neg (show ¬ (1 : Int32) = 0 by decide), show F_X9_is 133 0 1 30 x2 = _ from isM (k := 0) (l := 1) (m := 30) (by decide) h0 (by omega) (by omega) (by omega), cl_some, b01, show F_X9_is 133 1 0 5 x2 = _ from isM (k := 1) (l := 0) (m := 5) (by decide) h1 (by omega) (by omega) (by omega), cl_some, b01, ld_0, ld_0, ld_1, h0, h1, hR.1, hy, cl_some, nI_add]
  by_cases c2 : 1 ≤ a ∧ a ≤ 30
  · rw [if_pos c2]
    by_cases c3 : 0 ≤ b ∧ b ≤ 5
    · rw [if_pos c3]
      by_cases c1 : ns < 6
      · rw [if_neg (show ¬ nI ns = 6 from fun z => by have := (nI_sm (b := 6) (by omega) (by omega)).mp z; omega)]
        by_cases c4 : lsum ln ns + a ≤ 120
        · rw [if_pos (show nI (lsum ln ns + a) ≤ 120 from nI_le (b := 120) c4 (by decide)), if_pos (show 1 ≤ a ∧ a ≤ 30 ∧ b ≤ 5 ∧ ns < 6 ∧ lsum ln ns + a ≤ 120 from ⟨c2.1, c2.2, c3.2, c1, c4⟩)]
          obtain ⟨x', e1, e2, e3⟩ := strM (a := a) (b := b) c1 hn hR
          rw [e1, cl_some]
          exact ⟨x', rfl, fun _ => e2, e3⟩
        · rw [if_neg (show ¬ nI (lsum ln ns + a) ≤ 120 from nI_ge (a := 120) (by omega) (by omega)), if_neg (show ¬ (1 ≤ a ∧ a ≤ 30 ∧ b ≤ 5 ∧ ns < 6 ∧ lsum ln ns + a ≤ 120) from fun z => c4 z.2.2.2.2)]
          exact ⟨x2, rfl, fun z => absurd z.2.2.2.2 c4, FK.rf⟩
      · rw [if_pos (show nI ns = 6 by rw [show ns = 6 by omega]; rfl), if_neg (show ¬ (1 ≤ a ∧ a ≤ 30 ∧ b ≤ 5 ∧ ns < 6 ∧ lsum ln ns + a ≤ 120) from fun z => c1 z.2.2.2.1)]
        exact ⟨x2, rfl, fun z => absurd z.2.2.2.1 c1, FK.rf⟩
    · rw [if_neg c3, if_neg (show ¬ (1 ≤ a ∧ a ≤ 30 ∧ b ≤ 5 ∧ ns < 6 ∧ lsum ln ns + a ≤ 120) from fun z => c3 ⟨Nat.zero_le _, z.2.2.1⟩)]
      exact ⟨x2, rfl, fun z => absurd ⟨Nat.zero_le _, z.2.2.1⟩ c3, FK.rf⟩
  · rw [if_neg c2, if_neg (show ¬ (1 ≤ a ∧ a ≤ 30 ∧ b ≤ 5 ∧ ns < 6 ∧ lsum ln ns + a ≤ 120) from fun z => c2 ⟨z.1, z.2.1⟩)]
    exact ⟨x2, rfl, fun z => absurd ⟨z.1, z.2.1⟩ c2, FK.rf⟩
theorem takT {x x2 : HP} {ns nb mu we n a b c : Nat} {ln sl pr st kd wh fr to : Nat → Nat} (ht : F_X9_takes 133 3 x = some (1, x2)) (h0 : x2.1 142 0 = nI a) (h1 : x2.1 142 1 = nI b) (h2 : x2.1 142 2 = nI c) (ha : a ≤ 99) (hb : b ≤ 99) (hc : c ≤ 99) (hn : nb ≤ 6) (hs : n ≤ 9) (hR : RMd x2 (ns, nb, mu, we, n, ln, sl, pr, st, kd, wh, fr, to)) : ∃ x', F_X9_takesTurns 133 x = some (if a < nb ∧ b ≤ c ∧ n < 9 then 1 else 0, x') ∧ (a < nb ∧ b ≤ c ∧ n < 9 → RMd x' (ns, nb, mu, we, n + 1, ln, sl, pr, st, kd, upN wh n a, upN fr n b, upN to n c)) ∧ FK x2 x' := by
  unfold F_X9_takesTurns
  simp only [Nat.reduceAdd]
  have r8 : x2.1 137 0 = nI n := hR.2.2.2.2.2.2.2.1
  rw [ht, cl_some, if_neg (show ¬ (1 : Int32) = 0 by decide)]
  dsimp only
  rw [show ld x2 135 1 = nI nb from hR.2.1, isM1 h0 (by omega) (by omega), cl_some, b01, show ld x2 142 0 = nI a from h0, show ld x2 142 1 = nI b from h1, show ld x2 142 2 = nI c from h2, show ld x2 137 0 = nI n from r8]
  by_cases c2 : a < nb
  · rw [if_pos c2]
    by_cases c3 : b ≤ c
    · rw [if_neg (nI_nlt c3 (by omega))]
      by_cases c1 : n < 9
      · rw [if_neg (show ¬ nI n = 9 from fun z => by have := (nI_sm (b := 9) (by omega) (by omega)).mp z; omega), if_pos (show a < nb ∧ b ≤ c ∧ n < 9 from ⟨c2, c3, c1⟩)]
        obtain ⟨x', e1, e2, e3⟩ := turM (a := a) (b := b) (c := c) c1 hR
        rw [e1, cl_some]
        exact ⟨x', rfl, fun _ => e2, e3⟩
      · rw [if_pos (show nI n = 9 by rw [show n = 9 by omega]; rfl), if_neg (show ¬ (a < nb ∧ b ≤ c ∧ n < 9) from fun z => c1 z.2.2)]
        exact ⟨x2, rfl, fun z => absurd z.2.2 c1, FK.rf⟩
    · rw [if_pos (nI_lt (by omega) (by omega)), if_neg (show ¬ (a < nb ∧ b ≤ c ∧ n < 9) from fun z => c3 z.2.1)]
      exact ⟨x2, rfl, fun z => absurd z.2.1 c3, FK.rf⟩
  · rw [if_neg c2, if_neg (show ¬ (a < nb ∧ b ≤ c ∧ n < 9) from fun z => c2 z.1)]
    exact ⟨x2, rfl, fun z => absurd z.1 c2, FK.rf⟩
theorem takP {x x2 : HP} {ns nb mu we n a b : Nat} {ln sl pr st kd wh fr to : Nat → Nat} (ht : F_X9_takes 133 2 x = some (1, x2)) (h0 : x2.1 142 0 = nI a) (h1 : x2.1 142 1 = nI b) (ha : a ≤ 99) (hb : b ≤ 99) (hn : ns ≤ 6) (hnb : nb ≤ 6) (hR : RMd x2 (ns, nb, mu, we, n, ln, sl, pr, st, kd, wh, fr, to)) : ∃ x', F_X9_takesPrice 133 x = some (if a < ns ∧ 1 ≤ b ∧ b ≤ 9 then 1 else 0, x') ∧ (a < ns ∧ 1 ≤ b ∧ b ≤ 9 → RMd x' (ns, nb, mu, we, n, ln, sl, upN pr a b, st, kd, wh, fr, to)) ∧ FK x2 x' := by
  unfold F_X9_takesPrice
  simp only [Nat.reduceAdd]
  rw [ht, cl_some, if_neg (show ¬ (1 : Int32) = 0 by decide)]
  dsimp only
  rw [show ld x2 135 0 = nI ns from hR.1, isM1 h0 (by omega) (by omega), cl_some, b01, show F_X9_is 133 1 1 9 x2 = _ from isM (k := 1) (l := 1) (m := 9) (by decide) h1 (by omega) (by omega) (by omega), cl_some, b01, show ld x2 142 0 = nI a from h0, show ld x2 142 1 = nI b from h1, lad.2.2.2.2.1]
  by_cases c1 : a < ns
  · rw [if_pos c1]
    by_cases c2 : 1 ≤ b ∧ b ≤ 9
    · rw [if_pos c2, if_pos (show a < ns ∧ 1 ≤ b ∧ b ≤ 9 from ⟨c1, c2.1, c2.2⟩)]
      obtain ⟨r1, r2, r3, r4, r5, r6, r7, r8, r9⟩ := hR
      refine ⟨sa x2 135 (upd (x2.1 135) (16 + a) (nI b)), ?_, fun _ => ?_, fk_sa (by omega)⟩
      · simp (disch := omega) only [gd_ok, ld_nI, st_sa, nm_eq, cl_some, sa_sa, sa_r, sa_n, sa_2, nI_1, ui_sa, upd_r, upd_n, b01, Nat.reduceAdd]
      · refine ⟨?_, ?_, ?_, ?_, fun i hi => ?_, fun i hi => ?_, fun i hi => ?_, ?_, ?_⟩
        · simp (disch := omega) only [gd_ok, ld_nI, st_sa, nm_eq, cl_some, sa_sa, sa_r, sa_n, sa_2, nI_1, ui_sa, upd_r, upd_n, b01, Nat.reduceAdd, r1]
        · simp (disch := omega) only [gd_ok, ld_nI, st_sa, nm_eq, cl_some, sa_sa, sa_r, sa_n, sa_2, nI_1, ui_sa, upd_r, upd_n, b01, Nat.reduceAdd, r2]
        · simp (disch := omega) only [gd_ok, ld_nI, st_sa, nm_eq, cl_some, sa_sa, sa_r, sa_n, sa_2, nI_1, ui_sa, upd_r, upd_n, b01, Nat.reduceAdd, r3]
        · simp (disch := omega) only [gd_ok, ld_nI, st_sa, nm_eq, cl_some, sa_sa, sa_r, sa_n, sa_2, nI_1, ui_sa, upd_r, upd_n, b01, Nat.reduceAdd, r4]
        · simp (disch := omega) only [gd_ok, ld_nI, st_sa, nm_eq, cl_some, sa_sa, sa_r, sa_n, sa_2, nI_1, ui_sa, upd_r, upd_n, b01, Nat.reduceAdd]
          exact r5 i hi
        · rw [sa_r]
          by_cases e : i = a
          · subst e
            rw [upN_r, upd_r]
          · rw [upN_n e, upd_n (by omega)]
            exact r6 i hi
        · simp (disch := omega) only [gd_ok, ld_nI, st_sa, nm_eq, cl_some, sa_sa, sa_r, sa_n, sa_2, nI_1, ui_sa, upd_r, upd_n, b01, Nat.reduceAdd]
          exact r7 i hi
        · simp (disch := omega) only [gd_ok, ld_nI, st_sa, nm_eq, cl_some, sa_sa, sa_r, sa_n, sa_2, nI_1, ui_sa, upd_r, upd_n, b01, Nat.reduceAdd, r8]
        · simp (disch := omega) only [gd_ok, ld_nI, st_sa, nm_eq, cl_some, sa_sa, sa_r, sa_n, sa_2, nI_1, ui_sa, upd_r, upd_n, b01, Nat.reduceAdd]
          exact r9
    · rw [if_neg c2, if_neg (show ¬ (a < ns ∧ 1 ≤ b ∧ b ≤ 9) from fun z => c2 z.2)]
      exact ⟨x2, rfl, fun z => absurd z.2 c2, FK.rf⟩
  · rw [if_neg c1, if_neg (show ¬ (a < ns ∧ 1 ≤ b ∧ b ≤ 9) from fun z => c1 z.1)]
    exact ⟨x2, rfl, fun z => absurd z.1 c1, FK.rf⟩
theorem takO {x x2 : HP} {r a l m : Nat} (ht : F_X9_takes 133 1 x = some (1, x2)) (h0 : x2.1 142 0 = nI a) (ha : a ≤ 99) (hl : l ≤ 1000) (hm : m ≤ 1000) (hr : r < 34) : F_X9_takesOne 133 (nI r) (nI l) (nI m) x = some (if l ≤ a ∧ a ≤ m then 1 else 0, if l ≤ a ∧ a ≤ m then sa x2 135 (upd (x2.1 135) r (nI a)) else x2) := by
  unfold F_X9_takesOne
  simp only [Nat.reduceAdd]
  rw [ht, cl_some, if_neg (show ¬ (1 : Int32) = 0 by decide)]
  dsimp only
  rw [show F_X9_is 133 0 (nI l) (nI m) x2 = _ from isM (k := 0) (by decide) h0 (by omega) hl hm, cl_some, b01, show ld x2 142 0 = nI a from h0, gd_ok hr (by decide), nm_eq, st_sa (by omega)]
  by_cases c : l ≤ a ∧ a ≤ m
  · rw [if_pos c, if_pos c, if_pos c]
  · rw [if_neg c, if_neg c, if_neg c]
