/-! what is read: stretches, bearers, must, wet, turns; lengths, slopes, prices, strengths, kinds; who, from, to -/
abbrev PSt : Type := Nat × Nat × Nat × Nat × Nat × (Nat → Nat) × (Nat → Nat) × (Nat → Nat) × (Nat → Nat) × (Nat → Nat) × (Nat → Nat) × (Nat → Nat) × (Nat → Nat)
/-- an item taken -/
def pit (c : Nat) (v : Nat → Nat) : PSt → Option PSt
  | (ns, nb, mu, we, n, ln, sl, pr, st, kd, wh, fr, to) =>
    if c = 98 then (if 1 ≤ v 0 ∧ v 0 ≤ 60 ∧ v 1 ≤ 3 ∧ nb < 6 then some (ns, nb + 1, mu, we, n, ln, sl, pr, upN st nb (10 * v 0), upN kd nb (v 1), wh, fr, to) else none)
    else if c = 109 then (if 1 ≤ v 0 ∧ v 0 ≤ 3 then some (ns, nb, v 0, we, n, ln, sl, pr, st, kd, wh, fr, to) else none)
    else if c = 114 then (if v 0 ≤ 3 then some (ns, nb, mu, v 0, n, ln, sl, pr, st, kd, wh, fr, to) else none)
    else if c = 115 then (if 1 ≤ v 0 ∧ v 0 ≤ 30 ∧ v 1 ≤ 5 ∧ ns < 6 ∧ lsum ln ns + v 0 ≤ 120 then some (ns + 1, nb, mu, we, n, upN ln ns (v 0), upN sl ns (v 1), pr, st, kd, wh, fr, to) else none)
    else if c = 116 then (if v 0 < nb ∧ v 1 ≤ v 2 ∧ n < 9 then some (ns, nb, mu, we, n + 1, ln, sl, pr, st, kd, upN wh n (v 0), upN fr n (v 1), upN to n (v 2)) else none)
    else if c = 120 then (if v 0 < ns ∧ 1 ≤ v 1 ∧ v 1 ≤ 9 then some (ns, nb, mu, we, n, ln, sl, upN pr (v 0) (v 1), st, kd, wh, fr, to) else none)
    else none
def wof (c : Nat) : Nat := if c = 98 then 2 else if c = 109 then 1 else if c = 114 then 1 else if c = 115 then 2 else if c = 116 then 3 else if c = 120 then 2 else 0
/-- bounds of what is read -/
def PVl : PSt → Prop
  | (ns, nb, mu, we, n, ln, sl, pr, st, kd, wh, fr, to) => ns ≤ 6 ∧ nb ≤ 6 ∧ 1 ≤ mu ∧ mu ≤ 3 ∧ we ≤ 3 ∧ n ≤ 9 ∧ lsum ln ns ≤ 120 ∧ (∀ i, i < ns → 1 ≤ ln i ∧ ln i ≤ 30 ∧ sl i ≤ 5) ∧ (∀ i, 1 ≤ pr i ∧ pr i ≤ 9) ∧ (∀ i, ns ≤ i → pr i = 1) ∧ (∀ i, i < nb → 10 ≤ st i ∧ st i ≤ 600 ∧ kd i ≤ 3) ∧ ∀ k, k < n → wh k < nb ∧ fr k ≤ to k ∧ to k < 120
theorem lsum_upN {ln : Nat → Nat} {m v : Nat} : ∀ {k : Nat}, k ≤ m → lsum (upN ln m v) k = lsum ln k
  | 0, _ => rfl
  | k + 1, h => by
    show lsum (upN ln m v) k + upN ln m v k = lsum ln k + ln k
    rw [lsum_upN (by omega), upN_n (by omega)]
theorem lsum_up1 {ln : Nat → Nat} {m v : Nat} : lsum (upN ln m v) (m + 1) = lsum ln m + v := by
  show lsum (upN ln m v) m + upN ln m v m = _
  rw [lsum_upN (Nat.le_refl _), upN_r]
theorem upN_cases {f : Nat → Nat} {m v k : Nat} {P : Nat → Nat → Prop} (h1 : k = m → P k v) (h2 : k ≠ m → P k (f k)) : P k (upN f m v k) := by
  by_cases e : k = m
  · subst e; rw [upN_r]; exact h1 rfl
  · rw [upN_n e]; exact h2 e
theorem pit_ok {c : Nat} {v : Nat → Nat} {S S' : PSt} (hV : PVl S) (hv : ∀ j, v j ≤ 99) (h : pit c v S = some S') : PVl S' := by
  obtain ⟨ns, nb, mu, we, n, ln, sl, pr, st, kd, wh, fr, to⟩ := S
  obtain ⟨p1, p2, p3, p4, p5, p6, p7, p8, p9, pa, pb, pc⟩ := hV
  unfold pit at h
  dsimp only at h
  split at h
  · split at h
    · next hc =>
      cases h
      refine ⟨p1, by omega, p3, p4, p5, p6, p7, p8, p9, pa, fun i hi => ?_, fun k hk => ?_⟩
      · by_cases e : i = nb
        · subst e; rw [upN_r, upN_r]; omega
        · rw [upN_n e, upN_n e]; exact pb i (by omega)
      · have := pc k hk
        omega
    · cases h
  · split at h
    · split at h
      · next hc =>
        cases h
        exact ⟨p1, p2, hc.1, hc.2, p5, p6, p7, p8, p9, pa, pb, pc⟩
      · cases h
    · split at h
      · split at h
        · next hc =>
          cases h
          exact ⟨p1, p2, p3, p4, hc, p6, p7, p8, p9, pa, pb, pc⟩
        · cases h
      · split at h
        · split at h
          · next hc =>
            cases h
            refine ⟨by omega, p2, p3, p4, p5, p6, by rw [lsum_up1]; omega, fun i hi => ?_, p9, fun i hi => pa i (by omega), pb, pc⟩
            by_cases e : i = ns
            · subst e; rw [upN_r, upN_r]; omega
            · rw [upN_n e, upN_n e]; exact p8 i (by omega)
          · cases h
        · split at h
          · split at h
            · next hc =>
              cases h
              refine ⟨p1, p2, p3, p4, p5, by omega, p7, p8, p9, pa, pb, fun k hk => ?_⟩
              by_cases e : k = n
              · subst e
                rw [upN_r, upN_r, upN_r]
                have := hv 2
                omega
              · rw [upN_n e, upN_n e, upN_n e]; exact pc k (by omega)
            · cases h
          · split at h
            · split at h
              · next hc =>
                cases h
                refine ⟨p1, p2, p3, p4, p5, p6, p7, p8, fun i => ?_, fun i hi => ?_, pb, pc⟩
                · by_cases e : i = v 0
                  · subst e; rw [upN_r]; omega
                  · rw [upN_n e]; exact p9 i
                · rw [upN_n (by omega)]; exact pa i hi
              · cases h
            · cases h
/-- the class holds it -/
def RCl (x : HP) : PSt → Prop
  | (ns, nb, mu, we, n, ln, sl, pr, st, kd, wh, fr, to) => x.1 3 0 = nI ns ∧ x.1 3 1 = nI (lsum ln ns) ∧ x.1 3 2 = nI nb ∧ x.1 3 3 = nI mu ∧ x.1 3 4 = nI we ∧ (∀ i, i < ns → x.1 4 i = nI (ln i) ∧ x.1 5 i = nI (sl i) ∧ x.1 6 i = nI (pr i)) ∧ (∀ i, i < nb → x.1 7 i = nI (st i) ∧ x.1 8 i = nI (kd i)) ∧ x.1 10 0 = nI n ∧ ∀ k, k < n → x.1 11 k = nI (wh k) ∧ x.1 12 k = nI (fr k) ∧ x.1 13 k = nI (to k)
theorem RCl.of {x x' : HP} {S : PSt} (r : RCl x S) (h : ∀ y, 3 ≤ y → y ≤ 13 → x'.1 y = x.1 y) : RCl x' S := by
  obtain ⟨ns, nb, mu, we, n, ln, sl, pr, st, kd, wh, fr, to⟩ := S
  unfold RCl at r ⊢
  rw [h 3 (by omega) (by omega), h 4 (by omega) (by omega), h 5 (by omega) (by omega), h 6 (by omega) (by omega), h 7 (by omega) (by omega), h 8 (by omega) (by omega), h 10 (by omega) (by omega), h 11 (by omega) (by omega), h 12 (by omega) (by omega), h 13 (by omega) (by omega)]
  exact r
def FL (x x' : HP) : Prop := (∀ y, (y < 3 ∨ 14 < y) → x'.1 y = x.1 y) ∧ x'.2 = x.2
theorem FL.rf {h : HP} : FL h h := ⟨fun _ _ => rfl, rfl⟩
theorem FL.trans {h1 h2 h3 : HP} (p : FL h1 h2) (q : FL h2 h3) : FL h1 h3 := ⟨fun x a => (q.1 x a).trans (p.1 x a), q.2.trans p.2⟩
theorem fl_sa {h : HP} {q : Nat} {f : Nat → Int32} (hq : 3 ≤ q ∧ q ≤ 14) : FL h (sa h q f) := ⟨fun x hx => sa_n (by omega), rfl⟩
theorem wnI {a l m : Nat} (ha : a ≤ 1000) (hl : l ≤ 1000) (hm : m ≤ 1000) : F_X8_within (nI a) (nI l) (nI m) = some (if l ≤ a ∧ a ≤ m then 1 else 0) := by
  rw [within_eq]
  have : (nI l ≤ nI a ∧ nI a ≤ nI m) ↔ (l ≤ a ∧ a ≤ m) := by rw [nI_leI (by omega) (by omega), nI_leI (by omega) (by omega)]
  simp only [this]
theorem ld_0 {h : HP} {q : Nat} : ld h q 0 = h.1 q 0 := rfl
theorem ld_1 {h : HP} {q : Nat} : ld h q 1 = h.1 q 1 := rfl
theorem ld_2 {h : HP} {q : Nat} : ld h q 2 = h.1 q 2 := rfl
theorem beaC {x : HP} {ns nb mu we n a b : Nat} {ln sl pr st kd wh fr to : Nat → Nat} (hn : nb ≤ 6) (hR : RCl x (ns, nb, mu, we, n, ln, sl, pr, st, kd, wh, fr, to)) (ha : a ≤ 99) (hb : b ≤ 99) : ∃ x', F_X1_addBearer 3 (nI a) (nI b) x = some (if 1 ≤ a ∧ a ≤ 60 ∧ b ≤ 3 ∧ nb < 6 then 1 else 0, x') ∧ (1 ≤ a ∧ a ≤ 60 ∧ b ≤ 3 ∧ nb < 6 → RCl x' (ns, nb + 1, mu, we, n, ln, sl, pr, upN st nb (10 * a), upN kd nb b, wh, fr, to)) ∧ FL x x' := by
  obtain ⟨r1, r2, r3, r4, r5, r6, r7, r8, r9⟩ := hR
  unfold F_X1_addBearer
  simp only [Nat.reduceAdd]
  rw [r3, show F_X8_within (nI a) 1 60 = _ from wnI (l := 1) (m := 60) (by omega) (by omega) (by omega), cl_some, b01, show F_X8_within (nI b) 0 3 = _ from wnI (l := 0) (m := 3) (by omega) (by omega) (by omega), cl_some, b01]
  by_cases c1 : nb < 6
  · rw [if_neg (show ¬ (6 : Int32) ≤ nI nb from nI_ge (b := 6) c1 (by decide))]
    by_cases c2 : 1 ≤ a ∧ a ≤ 60
    · rw [if_pos c2]
      by_cases c3 : 0 ≤ b ∧ b ≤ 3
      · rw [if_pos c3, if_pos (show 1 ≤ a ∧ a ≤ 60 ∧ b ≤ 3 ∧ nb < 6 from ⟨c2.1, c2.2, c3.2, c1⟩)]
        refine ⟨sa (sa (sa x 7 (upd (x.1 7) nb (nI (10 * a)))) 8 (upd (x.1 8) nb (nI b))) 3 (upd (x.1 3) 2 (nI (nb + 1))), ?_, fun _ => ?_, (fl_sa (by omega)).trans ((fl_sa (by omega)).trans (fl_sa (by omega)))⟩
        · rw [show (10 : Int32) * nI a = nI (10 * a) from pk_mul 10 a]
          simp (disch := omega) only [gd_ok, ld_nI, st_sa, nm_eq, cl_some, sa_sa, sa_r, sa_n, sa_2, nI_1, ui_sa, upd_r, upd_n, b01, Nat.reduceAdd, r3]
        · refine ⟨?_, ?_, ?_, ?_, ?_, ?_, fun i hi => ?_, ?_, ?_⟩
          · simp (disch := omega) only [gd_ok, ld_nI, st_sa, nm_eq, cl_some, sa_sa, sa_r, sa_n, sa_2, nI_1, ui_sa, upd_r, upd_n, b01, Nat.reduceAdd, r1]
          · simp (disch := omega) only [gd_ok, ld_nI, st_sa, nm_eq, cl_some, sa_sa, sa_r, sa_n, sa_2, nI_1, ui_sa, upd_r, upd_n, b01, Nat.reduceAdd, r2]
          · simp (disch := omega) only [gd_ok, ld_nI, st_sa, nm_eq, cl_some, sa_sa, sa_r, sa_n, sa_2, nI_1, ui_sa, upd_r, upd_n, b01, Nat.reduceAdd, r3]
          · simp (disch := omega) only [gd_ok, ld_nI, st_sa, nm_eq, cl_some, sa_sa, sa_r, sa_n, sa_2, nI_1, ui_sa, upd_r, upd_n, b01, Nat.reduceAdd, r4]
          · simp (disch := omega) only [gd_ok, ld_nI, st_sa, nm_eq, cl_some, sa_sa, sa_r, sa_n, sa_2, nI_1, ui_sa, upd_r, upd_n, b01, Nat.reduceAdd, r5]
          · simp (disch := omega) only [gd_ok, ld_nI, st_sa, nm_eq, cl_some, sa_sa, sa_r, sa_n, sa_2, nI_1, ui_sa, upd_r, upd_n, b01, Nat.reduceAdd]
            exact r6
          · simp (disch := omega) only [gd_ok, ld_nI, st_sa, nm_eq, cl_some, sa_sa, sa_r, sa_n, sa_2, nI_1, ui_sa, upd_r, upd_n, b01, Nat.reduceAdd]
            by_cases e : i = nb
            · subst e
              rw [upN_r, upN_r, upd_r, upd_r]
              exact ⟨rfl, rfl⟩
            · rw [upN_n e, upN_n e, upd_n e, upd_n e]
              exact r7 i (by omega)
          · simp (disch := omega) only [gd_ok, ld_nI, st_sa, nm_eq, cl_some, sa_sa, sa_r, sa_n, sa_2, nI_1, ui_sa, upd_r, upd_n, b01, Nat.reduceAdd, r8]
          · simp (disch := omega) only [gd_ok, ld_nI, st_sa, nm_eq, cl_some, sa_sa, sa_r, sa_n, sa_2, nI_1, ui_sa, upd_r, upd_n, b01, Nat.reduceAdd]
            exact r9
      · rw [if_neg c3, if_neg (show ¬ (1 ≤ a ∧ a ≤ 60 ∧ b ≤ 3 ∧ nb < 6) from fun z => c3 ⟨Nat.zero_le _, z.2.2.1⟩)]
        exact ⟨x, rfl, fun z => absurd ⟨Nat.zero_le _, z.2.2.1⟩ c3, FL.rf⟩
    · rw [if_neg c2, if_neg (show ¬ (1 ≤ a ∧ a ≤ 60 ∧ b ≤ 3 ∧ nb < 6) from fun z => c2 ⟨z.1, z.2.1⟩)]
      exact ⟨x, rfl, fun z => absurd ⟨z.1, z.2.1⟩ c2, FL.rf⟩
  · rw [if_pos (show (6 : Int32) ≤ nI nb from nI_le (a := 6) (by omega) (by omega)), if_neg (show ¬ (1 ≤ a ∧ a ≤ 60 ∧ b ≤ 3 ∧ nb < 6) from fun z => c1 z.2.2.2)]
    exact ⟨x, rfl, fun z => absurd z.2.2.2 c1, FL.rf⟩
theorem strC {x : HP} {ns nb mu we n a b : Nat} {ln sl pr st kd wh fr to : Nat → Nat} (hn : ns ≤ 6) (hl : lsum ln ns ≤ 120) (hp : pr ns = 1) (hR : RCl x (ns, nb, mu, we, n, ln, sl, pr, st, kd, wh, fr, to)) (ha : a ≤ 99) (hb : b ≤ 99) : ∃ x', F_X1_addStretch 3 (nI a) (nI b) x = some (if 1 ≤ a ∧ a ≤ 30 ∧ b ≤ 5 ∧ ns < 6 ∧ lsum ln ns + a ≤ 120 then 1 else 0, x') ∧ (1 ≤ a ∧ a ≤ 30 ∧ b ≤ 5 ∧ ns < 6 ∧ lsum ln ns + a ≤ 120 → RCl x' (ns + 1, nb, mu, we, n, upN ln ns a, upN sl ns b, pr, st, kd, wh, fr, to)) ∧ FL x x' := by
  obtain ⟨r1, r2, r3, r4, r5, r6, r7, r8, r9⟩ := hR
  unfold F_X1_addStretch
  simp only [Nat.reduceAdd]
  rw [r1, r2, nI_add, show F_X8_within (nI a) 1 30 = _ from wnI (l := 1) (m := 30) (by omega) (by omega) (by omega), cl_some, b01, show F_X8_within (nI b) 0 5 = _ from wnI (l := 0) (m := 5) (by omega) (by omega) (by omega), cl_some, b01]
  by_cases c1 : ns < 6
  · rw [if_neg (show ¬ (6 : Int32) ≤ nI ns from nI_ge (b := 6) c1 (by decide))]
    by_cases c2 : 1 ≤ a ∧ a ≤ 30
    · rw [if_pos c2]
      by_cases c4 : lsum ln ns + a ≤ 120
      · rw [if_neg (show ¬ (120 : Int32) < nI (lsum ln ns + a) from nI_nlt (a := 120) c4 (by decide))]
        by_cases c3 : 0 ≤ b ∧ b ≤ 5
        · rw [if_pos c3, if_pos (show 1 ≤ a ∧ a ≤ 30 ∧ b ≤ 5 ∧ ns < 6 ∧ lsum ln ns + a ≤ 120 from ⟨c2.1, c2.2, c3.2, c1, c4⟩)]
          refine ⟨sa (sa (sa (sa x 4 (upd (x.1 4) ns (nI a))) 5 (upd (x.1 5) ns (nI b))) 6 (upd (x.1 6) ns 1)) 3 (upd (upd (x.1 3) 0 (nI (ns + 1))) 1 (nI (lsum ln ns + a))), ?_, fun _ => ?_, (fl_sa (by omega)).trans ((fl_sa (by omega)).trans ((fl_sa (by omega)).trans (fl_sa (by omega))))⟩
          · simp (disch := omega) only [gd_ok, ld_nI, st_sa, nm_eq, cl_some, sa_sa, sa_r, sa_n, sa_2, nI_1, ui_sa, upd_r, upd_n, b01, Nat.reduceAdd, r1, r2, nI_add]
          · refine ⟨?_, ?_, ?_, ?_, ?_, fun i hi => ?_, ?_, ?_, ?_⟩
            · simp (disch := omega) only [gd_ok, ld_nI, st_sa, nm_eq, cl_some, sa_sa, sa_r, sa_n, sa_2, nI_1, ui_sa, upd_r, upd_n, b01, Nat.reduceAdd, r1]
            · rw [lsum_up1]
              simp (disch := omega) only [gd_ok, ld_nI, st_sa, nm_eq, cl_some, sa_sa, sa_r, sa_n, sa_2, nI_1, ui_sa, upd_r, upd_n, b01, Nat.reduceAdd, r1]
            · simp (disch := omega) only [gd_ok, ld_nI, st_sa, nm_eq, cl_some, sa_sa, sa_r, sa_n, sa_2, nI_1, ui_sa, upd_r, upd_n, b01, Nat.reduceAdd, r3]
            · simp (disch := omega) only [gd_ok, ld_nI, st_sa, nm_eq, cl_some, sa_sa, sa_r, sa_n, sa_2, nI_1, ui_sa, upd_r, upd_n, b01, Nat.reduceAdd, r4]
            · simp (disch := omega) only [gd_ok, ld_nI, st_sa, nm_eq, cl_some, sa_sa, sa_r, sa_n, sa_2, nI_1, ui_sa, upd_r, upd_n, b01, Nat.reduceAdd, r5]
            · simp (disch := omega) only [gd_ok, ld_nI, st_sa, nm_eq, cl_some, sa_sa, sa_r, sa_n, sa_2, nI_1, ui_sa, upd_r, upd_n, b01, Nat.reduceAdd]
              by_cases e : i = ns
              · subst e
                rw [upN_r, upN_r, upd_r, upd_r, upd_r, hp]
                exact ⟨rfl, rfl, rfl⟩
              · rw [upN_n e, upN_n e, upd_n e, upd_n e, upd_n e]
                exact r6 i (by omega)
            · simp (disch := omega) only [gd_ok, ld_nI, st_sa, nm_eq, cl_some, sa_sa, sa_r, sa_n, sa_2, nI_1, ui_sa, upd_r, upd_n, b01, Nat.reduceAdd]
              exact r7
            · simp (disch := omega) only [gd_ok, ld_nI, st_sa, nm_eq, cl_some, sa_sa, sa_r, sa_n, sa_2, nI_1, ui_sa, upd_r, upd_n, b01, Nat.reduceAdd, r8]
            · simp (disch := omega) only [gd_ok, ld_nI, st_sa, nm_eq, cl_some, sa_sa, sa_r, sa_n, sa_2, nI_1, ui_sa, upd_r, upd_n, b01, Nat.reduceAdd]
              exact r9
        · rw [if_neg c3, if_neg (show ¬ (1 ≤ a ∧ a ≤ 30 ∧ b ≤ 5 ∧ ns < 6 ∧ lsum ln ns + a ≤ 120) from fun z => c3 ⟨Nat.zero_le _, z.2.2.1⟩)]
          exact ⟨x, rfl, fun z => absurd ⟨Nat.zero_le _, z.2.2.1⟩ c3, FL.rf⟩
      · rw [if_pos (show (120 : Int32) < nI (lsum ln ns + a) from nI_lt (a := 120) (by omega) (by omega)), if_neg (show ¬ (1 ≤ a ∧ a ≤ 30 ∧ b ≤ 5 ∧ ns < 6 ∧ lsum ln ns + a ≤ 120) from fun z => c4 z.2.2.2.2)]
        exact ⟨x, rfl, fun z => absurd z.2.2.2.2 c4, FL.rf⟩
    · rw [if_neg c2, if_neg (show ¬ (1 ≤ a ∧ a ≤ 30 ∧ b ≤ 5 ∧ ns < 6 ∧ lsum ln ns + a ≤ 120) from fun z => c2 ⟨z.1, z.2.1⟩)]
      exact ⟨x, rfl, fun z => absurd ⟨z.1, z.2.1⟩ c2, FL.rf⟩
  · rw [if_pos (show (6 : Int32) ≤ nI ns from nI_le (a := 6) (by omega) (by omega)), if_neg (show ¬ (1 ≤ a ∧ a ≤ 30 ∧ b ≤ 5 ∧ ns < 6 ∧ lsum ln ns + a ≤ 120) from fun z => c1 z.2.2.2.1)]
    exact ⟨x, rfl, fun z => absurd z.2.2.2.1 c1, FL.rf⟩
theorem turC {x : HP} {ns nb mu we n a b c : Nat} {ln sl pr st kd wh fr to : Nat → Nat} (hn : n ≤ 9) (hR : RCl x (ns, nb, mu, we, n, ln, sl, pr, st, kd, wh, fr, to)) (hb : b ≤ 99) (hc : c ≤ 99) : ∃ x', F_X6_add 10 (nI a) (nI b) (nI c) x = some (if b ≤ c ∧ n < 9 then 1 else 0, x') ∧ (b ≤ c ∧ n < 9 → RCl x' (ns, nb, mu, we, n + 1, ln, sl, pr, st, kd, upN wh n a, upN fr n b, upN to n c)) ∧ FL x x' := by
  obtain ⟨r1, r2, r3, r4, r5, r6, r7, r8, r9⟩ := hR
  unfold F_X6_add F_X6_isFull
  simp only [Nat.reduceAdd]
  rw [r8]
  by_cases c1 : n < 9
  · rw [if_pos (show nI n < 9 from nI_lt (b := 9) c1 (by decide)), cl_some, if_pos rfl]
    by_cases c2 : b ≤ c
    · rw [if_pos (nI_le c2 (by omega)), if_pos (show b ≤ c ∧ n < 9 from ⟨c2, c1⟩)]
      refine ⟨sa (sa (sa (sa x 11 (upd (x.1 11) n (nI a))) 12 (upd (x.1 12) n (nI b))) 13 (upd (x.1 13) n (nI c))) 10 (upd (x.1 10) 0 (nI (n + 1))), ?_, fun _ => ?_, (fl_sa (by omega)).trans ((fl_sa (by omega)).trans ((fl_sa (by omega)).trans (fl_sa (by omega))))⟩
      · simp (disch := omega) only [gd_ok, ld_nI, st_sa, nm_eq, cl_some, sa_sa, sa_r, sa_n, sa_2, nI_1, ui_sa, upd_r, upd_n, b01, Nat.reduceAdd, r8]
      · refine ⟨?_, ?_, ?_, ?_, ?_, ?_, ?_, ?_, fun k hk => ?_⟩
        · simp (disch := omega) only [gd_ok, ld_nI, st_sa, nm_eq, cl_some, sa_sa, sa_r, sa_n, sa_2, nI_1, ui_sa, upd_r, upd_n, b01, Nat.reduceAdd, r1]
        · simp (disch := omega) only [gd_ok, ld_nI, st_sa, nm_eq, cl_some, sa_sa, sa_r, sa_n, sa_2, nI_1, ui_sa, upd_r, upd_n, b01, Nat.reduceAdd, r2]
        · simp (disch := omega) only [gd_ok, ld_nI, st_sa, nm_eq, cl_some, sa_sa, sa_r, sa_n, sa_2, nI_1, ui_sa, upd_r, upd_n, b01, Nat.reduceAdd, r3]
        · simp (disch := omega) only [gd_ok, ld_nI, st_sa, nm_eq, cl_some, sa_sa, sa_r, sa_n, sa_2, nI_1, ui_sa, upd_r, upd_n, b01, Nat.reduceAdd, r4]
        · simp (disch := omega) only [gd_ok, ld_nI, st_sa, nm_eq, cl_some, sa_sa, sa_r, sa_n, sa_2, nI_1, ui_sa, upd_r, upd_n, b01, Nat.reduceAdd, r5]
        · simp (disch := omega) only [gd_ok, ld_nI, st_sa, nm_eq, cl_some, sa_sa, sa_r, sa_n, sa_2, nI_1, ui_sa, upd_r, upd_n, b01, Nat.reduceAdd]
          exact r6
        · simp (disch := omega) only [gd_ok, ld_nI, st_sa, nm_eq, cl_some, sa_sa, sa_r, sa_n, sa_2, nI_1, ui_sa, upd_r, upd_n, b01, Nat.reduceAdd]
          exact r7
        · simp (disch := omega) only [gd_ok, ld_nI, st_sa, nm_eq, cl_some, sa_sa, sa_r, sa_n, sa_2, nI_1, ui_sa, upd_r, upd_n, b01, Nat.reduceAdd, r8]
        · simp (disch := omega) only [gd_ok, ld_nI, st_sa, nm_eq, cl_some, sa_sa, sa_r, sa_n, sa_2, nI_1, ui_sa, upd_r, upd_n, b01, Nat.reduceAdd]
          by_cases e : k = n
          · subst e
            rw [upN_r, upN_r, upN_r, upd_r, upd_r, upd_r]
            exact ⟨rfl, rfl, rfl⟩
          · rw [upN_n e, upN_n e, upN_n e, upd_n e, upd_n e, upd_n e]
            exact r9 k (by omega)
    · rw [if_neg (nI_ge (by omega) (by omega)), if_neg (show ¬ (b ≤ c ∧ n < 9) from fun z => c2 z.1)]
      exact ⟨x, rfl, fun z => absurd z.1 c2, FL.rf⟩
  · rw [if_neg (show ¬ nI n < 9 from nI_nlt (b := 9) (by omega) (by omega)), cl_some, if_neg (show ¬ (1 : Int32) = 0 by decide), if_neg (show ¬ (b ≤ c ∧ n < 9) from fun z => c1 z.2)]
    exact ⟨x, rfl, fun z => absurd z.2 c1, FL.rf⟩
theorem prC {x : HP} {ns nb mu we n a b : Nat} {ln sl pr st kd wh fr to : Nat → Nat} (hn : ns ≤ 6) (hR : RCl x (ns, nb, mu, we, n, ln, sl, pr, st, kd, wh, fr, to)) (ha : a ≤ 99) (hb : b ≤ 99) : ∃ x', F_X1_setPrice 3 (nI a) (nI b) x = some (if a < ns ∧ 1 ≤ b ∧ b ≤ 9 then 1 else 0, x') ∧ (a < ns ∧ 1 ≤ b ∧ b ≤ 9 → RCl x' (ns, nb, mu, we, n, ln, sl, upN pr a b, st, kd, wh, fr, to)) ∧ FL x x' := by
  obtain ⟨r1, r2, r3, r4, r5, r6, r7, r8, r9⟩ := hR
  unfold F_X1_setPrice
  simp only [Nat.reduceAdd]
  rw [hasS r1, cl_some, b01, show F_X8_within (nI b) 1 9 = _ from wnI (l := 1) (m := 9) (by omega) (by omega) (by omega), cl_some, b01]
  by_cases c1 : a < ns
  · rw [if_pos ⟨nI_pos' (by omega), nI_lt c1 (by omega)⟩]
    by_cases c2 : 1 ≤ b ∧ b ≤ 9
    · rw [if_pos c2, if_pos (show a < ns ∧ 1 ≤ b ∧ b ≤ 9 from ⟨c1, c2.1, c2.2⟩)]
      refine ⟨sa x 6 (upd (x.1 6) a (nI b)), ?_, fun _ => ?_, fl_sa (by omega)⟩
      · simp (disch := omega) only [gd_ok, ld_nI, st_sa, nm_eq, cl_some, sa_sa, sa_r, sa_n, sa_2, nI_1, ui_sa, upd_r, upd_n, b01, Nat.reduceAdd]
      · refine ⟨?_, ?_, ?_, ?_, ?_, fun i hi => ?_, ?_, ?_, ?_⟩
        · simp (disch := omega) only [gd_ok, ld_nI, st_sa, nm_eq, cl_some, sa_sa, sa_r, sa_n, sa_2, nI_1, ui_sa, upd_r, upd_n, b01, Nat.reduceAdd, r1]
        · simp (disch := omega) only [gd_ok, ld_nI, st_sa, nm_eq, cl_some, sa_sa, sa_r, sa_n, sa_2, nI_1, ui_sa, upd_r, upd_n, b01, Nat.reduceAdd, r2]
        · simp (disch := omega) only [gd_ok, ld_nI, st_sa, nm_eq, cl_some, sa_sa, sa_r, sa_n, sa_2, nI_1, ui_sa, upd_r, upd_n, b01, Nat.reduceAdd, r3]
        · simp (disch := omega) only [gd_ok, ld_nI, st_sa, nm_eq, cl_some, sa_sa, sa_r, sa_n, sa_2, nI_1, ui_sa, upd_r, upd_n, b01, Nat.reduceAdd, r4]
        · simp (disch := omega) only [gd_ok, ld_nI, st_sa, nm_eq, cl_some, sa_sa, sa_r, sa_n, sa_2, nI_1, ui_sa, upd_r, upd_n, b01, Nat.reduceAdd, r5]
        · simp (disch := omega) only [gd_ok, ld_nI, st_sa, nm_eq, cl_some, sa_sa, sa_r, sa_n, sa_2, nI_1, ui_sa, upd_r, upd_n, b01, Nat.reduceAdd]
          by_cases e : i = a
          · subst e
            rw [upN_r, upd_r]
            exact ⟨(r6 i hi).1, (r6 i hi).2.1, rfl⟩
          · rw [upN_n e, upd_n e]
            exact r6 i hi
        · simp (disch := omega) only [gd_ok, ld_nI, st_sa, nm_eq, cl_some, sa_sa, sa_r, sa_n, sa_2, nI_1, ui_sa, upd_r, upd_n, b01, Nat.reduceAdd]
          exact r7
        · simp (disch := omega) only [gd_ok, ld_nI, st_sa, nm_eq, cl_some, sa_sa, sa_r, sa_n, sa_2, nI_1, ui_sa, upd_r, upd_n, b01, Nat.reduceAdd, r8]
        · simp (disch := omega) only [gd_ok, ld_nI, st_sa, nm_eq, cl_some, sa_sa, sa_r, sa_n, sa_2, nI_1, ui_sa, upd_r, upd_n, b01, Nat.reduceAdd]
          exact r9
    · rw [if_neg c2, if_neg (show ¬ (a < ns ∧ 1 ≤ b ∧ b ≤ 9) from fun z => c2 z.2)]
      exact ⟨x, rfl, fun z => absurd z.2 c2, FL.rf⟩
  · rw [if_neg (fun z => c1 ((nI_ltI (by omega) (by omega)).mp z.2)), if_neg (show ¬ (a < ns ∧ 1 ≤ b ∧ b ≤ 9) from fun z => c1 z.1)]
    exact ⟨x, rfl, fun z => absurd z.1 c1, FL.rf⟩
theorem mustC {x : HP} {ns nb mu we n a : Nat} {ln sl pr st kd wh fr to : Nat → Nat} (hR : RCl x (ns, nb, mu, we, n, ln, sl, pr, st, kd, wh, fr, to)) (ha : a ≤ 99) : ∃ x', F_X1_setMust 3 (nI a) x = some (if 1 ≤ a ∧ a ≤ 3 then 1 else 0, x') ∧ (1 ≤ a ∧ a ≤ 3 → RCl x' (ns, nb, a, we, n, ln, sl, pr, st, kd, wh, fr, to)) ∧ FL x x' := by
  obtain ⟨r1, r2, r3, r4, r5, r6, r7, r8, r9⟩ := hR
  unfold F_X1_setMust
  rw [show F_X8_within (nI a) 1 3 = _ from wnI (l := 1) (m := 3) (by omega) (by omega) (by omega), cl_some, b01]
  by_cases c2 : 1 ≤ a ∧ a ≤ 3
  · rw [if_pos c2, if_pos c2]
    refine ⟨sa x 3 (upd (x.1 3) 3 (nI a)), ?_, fun _ => ?_, fl_sa (by omega)⟩
    · simp (disch := omega) only [gd_ok, ld_nI, st_sa, nm_eq, cl_some, sa_sa, sa_r, sa_n, sa_2, nI_1, ui_sa, upd_r, upd_n, b01, Nat.reduceAdd]
    · refine ⟨?_, ?_, ?_, ?_, ?_, ?_, ?_, ?_, ?_⟩
      · simp (disch := omega) only [gd_ok, ld_nI, st_sa, nm_eq, cl_some, sa_sa, sa_r, sa_n, sa_2, nI_1, ui_sa, upd_r, upd_n, b01, Nat.reduceAdd, r1]
      · simp (disch := omega) only [gd_ok, ld_nI, st_sa, nm_eq, cl_some, sa_sa, sa_r, sa_n, sa_2, nI_1, ui_sa, upd_r, upd_n, b01, Nat.reduceAdd, r2]
      · simp (disch := omega) only [gd_ok, ld_nI, st_sa, nm_eq, cl_some, sa_sa, sa_r, sa_n, sa_2, nI_1, ui_sa, upd_r, upd_n, b01, Nat.reduceAdd, r3]
      · simp (disch := omega) only [gd_ok, ld_nI, st_sa, nm_eq, cl_some, sa_sa, sa_r, sa_n, sa_2, nI_1, ui_sa, upd_r, upd_n, b01, Nat.reduceAdd, r4]
      · simp (disch := omega) only [gd_ok, ld_nI, st_sa, nm_eq, cl_some, sa_sa, sa_r, sa_n, sa_2, nI_1, ui_sa, upd_r, upd_n, b01, Nat.reduceAdd, r5]
      · simp (disch := omega) only [gd_ok, ld_nI, st_sa, nm_eq, cl_some, sa_sa, sa_r, sa_n, sa_2, nI_1, ui_sa, upd_r, upd_n, b01, Nat.reduceAdd]
        exact r6
      · simp (disch := omega) only [gd_ok, ld_nI, st_sa, nm_eq, cl_some, sa_sa, sa_r, sa_n, sa_2, nI_1, ui_sa, upd_r, upd_n, b01, Nat.reduceAdd]
        exact r7
      · simp (disch := omega) only [gd_ok, ld_nI, st_sa, nm_eq, cl_some, sa_sa, sa_r, sa_n, sa_2, nI_1, ui_sa, upd_r, upd_n, b01, Nat.reduceAdd, r8]
      · simp (disch := omega) only [gd_ok, ld_nI, st_sa, nm_eq, cl_some, sa_sa, sa_r, sa_n, sa_2, nI_1, ui_sa, upd_r, upd_n, b01, Nat.reduceAdd]
        exact r9
  · rw [if_neg c2, if_neg c2]
    exact ⟨x, rfl, fun z => absurd z c2, FL.rf⟩
theorem wetC {x : HP} {ns nb mu we n a : Nat} {ln sl pr st kd wh fr to : Nat → Nat} (hR : RCl x (ns, nb, mu, we, n, ln, sl, pr, st, kd, wh, fr, to)) (ha : a ≤ 99) : ∃ x', F_X1_setWet 3 (nI a) x = some (if a ≤ 3 then 1 else 0, x') ∧ (a ≤ 3 → RCl x' (ns, nb, mu, a, n, ln, sl, pr, st, kd, wh, fr, to)) ∧ FL x x' := by
  obtain ⟨r1, r2, r3, r4, r5, r6, r7, r8, r9⟩ := hR
  unfold F_X1_setWet
  rw [show F_X8_within (nI a) 0 3 = _ from wnI (l := 0) (m := 3) (by omega) (by omega) (by omega), cl_some, b01]
  by_cases c2 : a ≤ 3
  · rw [if_pos (show 0 ≤ a ∧ a ≤ 3 from ⟨Nat.zero_le _, c2⟩), if_pos c2]
    refine ⟨sa x 3 (upd (x.1 3) 4 (nI a)), ?_, fun _ => ?_, fl_sa (by omega)⟩
    · simp (disch := omega) only [gd_ok, ld_nI, st_sa, nm_eq, cl_some, sa_sa, sa_r, sa_n, sa_2, nI_1, ui_sa, upd_r, upd_n, b01, Nat.reduceAdd]
    · refine ⟨?_, ?_, ?_, ?_, ?_, ?_, ?_, ?_, ?_⟩
      · simp (disch := omega) only [gd_ok, ld_nI, st_sa, nm_eq, cl_some, sa_sa, sa_r, sa_n, sa_2, nI_1, ui_sa, upd_r, upd_n, b01, Nat.reduceAdd, r1]
      · simp (disch := omega) only [gd_ok, ld_nI, st_sa, nm_eq, cl_some, sa_sa, sa_r, sa_n, sa_2, nI_1, ui_sa, upd_r, upd_n, b01, Nat.reduceAdd, r2]
      · simp (disch := omega) only [gd_ok, ld_nI, st_sa, nm_eq, cl_some, sa_sa, sa_r, sa_n, sa_2, nI_1, ui_sa, upd_r, upd_n, b01, Nat.reduceAdd, r3]
      · simp (disch := omega) only [gd_ok, ld_nI, st_sa, nm_eq, cl_some, sa_sa, sa_r, sa_n, sa_2, nI_1, ui_sa, upd_r, upd_n, b01, Nat.reduceAdd, r4]
      · simp (disch := omega) only [gd_ok, ld_nI, st_sa, nm_eq, cl_some, sa_sa, sa_r, sa_n, sa_2, nI_1, ui_sa, upd_r, upd_n, b01, Nat.reduceAdd, r5]
      · simp (disch := omega) only [gd_ok, ld_nI, st_sa, nm_eq, cl_some, sa_sa, sa_r, sa_n, sa_2, nI_1, ui_sa, upd_r, upd_n, b01, Nat.reduceAdd]
        exact r6
      · simp (disch := omega) only [gd_ok, ld_nI, st_sa, nm_eq, cl_some, sa_sa, sa_r, sa_n, sa_2, nI_1, ui_sa, upd_r, upd_n, b01, Nat.reduceAdd]
        exact r7
      · simp (disch := omega) only [gd_ok, ld_nI, st_sa, nm_eq, cl_some, sa_sa, sa_r, sa_n, sa_2, nI_1, ui_sa, upd_r, upd_n, b01, Nat.reduceAdd, r8]
      · simp (disch := omega) only [gd_ok, ld_nI, st_sa, nm_eq, cl_some, sa_sa, sa_r, sa_n, sa_2, nI_1, ui_sa, upd_r, upd_n, b01, Nat.reduceAdd]
        exact r9
  · rw [if_neg (show ¬ (0 ≤ a ∧ a ≤ 3) from fun z => c2 z.2), if_neg c2]
    exact ⟨x, rfl, fun z => absurd z c2, FL.rf⟩
