def v00 : Nat → Nat := fun _ => 0
/-- an item read and taken -/
def pone (tx : Nat → Nat) (l p : Nat) (S : PSt) : Option (Nat × PSt) :=
  match rdn tx l (wof (tx p)) (wof (tx p)) (p + 1) v00 with
  | none => none
  | some q => match pit (tx p) q.2 S with
    | none => none
    | some S' => some (q.1, S')
theorem pone_none {tx : Nat → Nat} {l p : Nat} {S : PSt} (h : rdn tx l (wof (tx p)) (wof (tx p)) (p + 1) v00 = none) : pone tx l p S = none := by
  unfold pone
  rw [h]
theorem pone_no {tx : Nat → Nat} {l p : Nat} {S : PSt} {q : Nat × (Nat → Nat)} (h : rdn tx l (wof (tx p)) (wof (tx p)) (p + 1) v00 = some q) (h2 : pit (tx p) q.2 S = none) : pone tx l p S = none := by
  unfold pone
  rw [h]
  dsimp only
  rw [h2]
theorem pone_yes {tx : Nat → Nat} {l p : Nat} {S S' : PSt} {q : Nat × (Nat → Nat)} (h : rdn tx l (wof (tx p)) (wof (tx p)) (p + 1) v00 = some q) (h2 : pit (tx p) q.2 S = some S') : pone tx l p S = some (q.1, S') := by
  unfold pone
  rw [h]
  dsimp only
  rw [h2]
theorem pone_inv {tx : Nat → Nat} {l p p' : Nat} {S S' : PSt} (h : pone tx l p S = some (p', S')) : ∃ q, rdn tx l (wof (tx p)) (wof (tx p)) (p + 1) v00 = some q ∧ pit (tx p) q.2 S = some S' ∧ p' = q.1 := by
  cases e : rdn tx l (wof (tx p)) (wof (tx p)) (p + 1) v00 with
  | none => rw [pone_none e] at h; cases h
  | some q =>
    cases e2 : pit (tx p) q.2 S with
    | none => rw [pone_no e e2] at h; cases h
    | some T =>
      rw [pone_yes e e2] at h
      cases h
      exact ⟨q, rfl, e2, rfl⟩
/-- the whole text: the first fault, what was read -/
def prs (tx : Nat → Nat) (l : Nat) : Nat → Nat → PSt → Option Nat × PSt
  | 0, _, S => (none, S)
  | N + 1, p, S => if l ≤ p then (none, S) else match pone tx l p S with
    | none => (some p, S)
    | some q => prs tx l N q.1 q.2
theorem wof_le {c : Nat} : wof c ≤ 3 := by
  unfold wof
  repeat' split
  all_goals omega
theorem numbersOf_eq {c : Nat} (hc : c ≤ 1000) : F_X4_numbersOf (nI c) = some (nI (wof c)) := by
  have k : ∀ e, e ≤ 1000 → (nI c = nI e ↔ c = e) := fun e he => nI_sm hc he
  unfold F_X4_numbersOf wof
  have k1 : (nI c = 98 ↔ c = 98) := k 98 (by omega)
  have k2 : (nI c = 109 ↔ c = 109) := k 109 (by omega)
  have k3 : (nI c = 114 ↔ c = 114) := k 114 (by omega)
  have k4 : (nI c = 115 ↔ c = 115) := k 115 (by omega)
  have k5 : (nI c = 116 ↔ c = 116) := k 116 (by omega)
  have k6 : (nI c = 120 ↔ c = 120) := k 120 (by omega)
  simp only [k1, k2, k3, k4, k5, k6]
  repeat' split
  all_goals rfl
/-- the class takes an item -/
theorem takeC {x : HP} {c : Nat} {v : Nat → Nat} {S : PSt} (hc : c ≤ 1000) (hV : PVl S) (hR : RCl x S) (hv : ∀ j, v j ≤ 99) (hx : ∀ j, j < wof c → x.1 14 j = nI (v j)) : ∃ x', FL x x' ∧ (pit c v S = none → F_X4_take 2 (nI c) x = some (0, x')) ∧ ∀ S', pit c v S = some S' → F_X4_take 2 (nI c) x = some (1, x') ∧ RCl x' S' := by
  have k : ∀ e, e ≤ 1000 → (nI c = nI e ↔ c = e) := fun e he => nI_sm hc he
  have k1 : (nI c = 98 ↔ c = 98) := k 98 (by omega)
  have k2 : (nI c = 109 ↔ c = 109) := k 109 (by omega)
  have k3 : (nI c = 114 ↔ c = 114) := k 114 (by omega)
  have k4 : (nI c = 115 ↔ c = 115) := k 115 (by omega)
  have k5 : (nI c = 116 ↔ c = 116) := k 116 (by omega)
  have k6 : (nI c = 120 ↔ c = 120) := k 120 (by omega)
  obtain ⟨ns, nb, mu, we, n, ln, sl, pr, st, kd, wh, fr, to⟩ := S
  obtain ⟨p1, p2, p3, p4, p5, p6, p7, p8, p9, pa, pb, pc⟩ := id hV
  unfold F_X4_take pit
  simp only [Nat.reduceAdd, k1, k2, k3, k4, k5, k6]
  by_cases c1 : c = 98
  · rw [if_pos c1, if_pos c1]
    subst c1
    rw [show ld x 14 0 = nI (v 0) from hx 0 (by decide), show ld x 14 1 = nI (v 1) from hx 1 (by decide)]
    obtain ⟨x', e1, e2, e3⟩ := beaC p2 hR (hv 0) (hv 1)
    rw [e1, cl_some]
    refine ⟨x', e3, fun h => ?_, fun S' h => ?_⟩
    · split at h
      · cases h
      · next hn => rw [if_neg hn]
    · split at h
      · next hn => cases h; rw [if_pos hn]; exact ⟨rfl, e2 hn⟩
      · cases h
  rw [if_neg c1, if_neg c1]
  by_cases c2 : c = 109
  · rw [if_pos c2, if_pos c2]
    subst c2
    rw [show ld x 14 0 = nI (v 0) from hx 0 (by decide)]
    obtain ⟨x', e1, e2, e3⟩ := mustC hR (hv 0)
    rw [e1, cl_some]
    refine ⟨x', e3, fun h => ?_, fun S' h => ?_⟩
    · split at h
      · cases h
      · next hn => rw [if_neg hn]
    · split at h
      · next hn => cases h; rw [if_pos hn]; exact ⟨rfl, e2 hn⟩
      · cases h
  rw [if_neg c2, if_neg c2]
  by_cases c3 : c = 114
  · rw [if_pos c3, if_pos c3]
    subst c3
    rw [show ld x 14 0 = nI (v 0) from hx 0 (by decide)]
    obtain ⟨x', e1, e2, e3⟩ := wetC hR (hv 0)
    rw [e1, cl_some]
    refine ⟨x', e3, fun h => ?_, fun S' h => ?_⟩
    · split at h
      · cases h
      · next hn => rw [if_neg hn]
    · split at h
      · next hn => cases h; rw [if_pos hn]; exact ⟨rfl, e2 hn⟩
      · cases h
  rw [if_neg c3, if_neg c3]
  by_cases c4 : c = 115
  · rw [if_pos c4, if_pos c4]
    subst c4
    rw [show ld x 14 0 = nI (v 0) from hx 0 (by decide), show ld x 14 1 = nI (v 1) from hx 1 (by decide)]
    obtain ⟨x', e1, e2, e3⟩ := strC p1 p7 (pa ns (Nat.le_refl _)) hR (hv 0) (hv 1)
    rw [e1, cl_some]
    refine ⟨x', e3, fun h => ?_, fun S' h => ?_⟩
    · split at h
      · cases h
      · next hn => rw [if_neg hn]
    · split at h
      · next hn => cases h; rw [if_pos hn]; exact ⟨rfl, e2 hn⟩
      · cases h
  rw [if_neg c4, if_neg c4]
  by_cases c5 : c = 116
  · rw [if_pos c5, if_pos c5]
    subst c5
    rw [show ld x 14 0 = nI (v 0) from hx 0 (by decide), show ld x 14 1 = nI (v 1) from hx 1 (by decide), show ld x 14 2 = nI (v 2) from hx 2 (by decide), hasB hR.2.2.1, cl_some, b01]
    have hv0 := hv 0
    by_cases h0 : v 0 < nb
    · rw [if_pos (show 0 ≤ nI (v 0) ∧ nI (v 0) < nI nb from ⟨nI_pos' (by omega), nI_lt h0 (by omega)⟩)]
      obtain ⟨x', e1, e2, e3⟩ := turC (a := v 0) p6 hR (hv 1) (hv 2)
      rw [e1, cl_some]
      dsimp only
      rw [b01]
      refine ⟨x', e3, fun h => ?_, fun S' h => ?_⟩
      · split at h
        · cases h
        · next hn => rw [if_neg (fun z => hn ⟨h0, z.1, z.2⟩)]
      · split at h
        · next hn => cases h; rw [if_pos ⟨hn.2.1, hn.2.2⟩]; exact ⟨rfl, e2 ⟨hn.2.1, hn.2.2⟩⟩
        · cases h
    · rw [if_neg (show ¬ (0 ≤ nI (v 0) ∧ nI (v 0) < nI nb) from fun z => h0 ((nI_ltI (by omega) (by omega)).mp z.2))]
      refine ⟨x, FL.rf, fun _ => rfl, fun S' h => ?_⟩
      rw [if_neg (fun z => h0 z.1)] at h
      cases h
  rw [if_neg c5, if_neg c5]
  by_cases c6 : c = 120
  · rw [if_pos c6, if_pos c6]
    subst c6
    rw [show ld x 14 0 = nI (v 0) from hx 0 (by decide), show ld x 14 1 = nI (v 1) from hx 1 (by decide)]
    obtain ⟨x', e1, e2, e3⟩ := prC p1 hR (hv 0) (hv 1)
    rw [e1, cl_some]
    refine ⟨x', e3, fun h => ?_, fun S' h => ?_⟩
    · split at h
      · cases h
      · next hn => rw [if_neg hn]
    · split at h
      · next hn => cases h; rw [if_pos hn]; exact ⟨rfl, e2 hn⟩
      · cases h
  rw [if_neg c6, if_neg c6]
  exact ⟨x, FL.rf, fun _ => rfl, fun S' h => by cases h⟩
theorem pit_0 {c : Nat} {v : Nat → Nat} {S : PSt} (h : wof c = 0) : pit c v S = none := by
  obtain ⟨ns, nb, mu, we, n, ln, sl, pr, st, kd, wh, fr, to⟩ := S
  unfold wof at h
  unfold pit
  dsimp only
  split at h
  · omega
  · next h1 =>
    split at h
    · omega
    · next h2 =>
      split at h
      · omega
      · next h3 =>
        split at h
        · omega
        · next h4 =>
          split at h
          · omega
          · next h5 =>
            split at h
            · omega
            · next h6 => rw [if_neg h1, if_neg h2, if_neg h3, if_neg h4, if_neg h5, if_neg h6]
theorem n4le {p : Nat} (h : p < 2 ^ 31) : (-4 : Int32) ≤ nI p := Int32.le_of_lt (n4lt h)
/-- the class reads the text from p on -/
theorem readC {h : HP} {tx : Nat → Nat} {l : Nat} (ht : TX tx l) (hh : ∀ i, i < l → h.1 1 i = nI (tx i)) : ∀ (d p N M : Nat) (S : PSt) (x : HP), p + d = l → d < N → d < M → PVl S → RCl x S → FL h x → ∃ x', F_X4_firstFault_L17 2 1 (nI l) N (nI p, x) = some (match (prs tx l M p S).1 with | none => -4 | some q => nI q, x') ∧ FL h x' ∧ ((prs tx l M p S).1 = none → RCl x' (prs tx l M p S).2 ∧ PVl (prs tx l M p S).2) := by
  intro d
  induction d using Nat.strongRecOn with
  | ind d ih =>
    intro p N M S x hd hN hM hV hR hf
    have hl := ht.1
    obtain ⟨N, rfl⟩ : ∃ K, N = K + 1 := ⟨N - 1, by omega⟩
    obtain ⟨M, rfl⟩ : ∃ K, M = K + 1 := ⟨M - 1, by omega⟩
    unfold prs
    by_cases c0 : l ≤ p
    · rw [if_pos c0]
      refine ⟨x, ?_, hf, fun _ => ⟨hR, hV⟩⟩
      unfold F_X4_firstFault_L17
      rw [lp_u]
      dsimp only
      rw [if_pos (nI_le c0 (by omega))]
    · rw [if_neg c0]
      have hpl : p < l := by omega
      have t := ht.2 p hpl
      have hx1 : ∀ i, i < l → x.1 1 i = nI (tx i) := fun i hi => by rw [hf.1 1 (by omega)]; exact hh i hi
      have hs : F_X4_firstFault_L17 2 1 (nI l) (N + 1) (nI p, x) = cl (F_X4_readNumbers 2 1 (nI (p + 1)) (nI l) (nI (wof (tx p))) x) (fun p38 => (if p38.1 ≤ nI p then some (nI p, p38.2) else cl (F_X4_take 2 (nI (tx p)) p38.2) (fun p52 => (if p52.1 = 0 then some (nI p, p52.2) else F_X4_firstFault_L17 2 1 (nI l) N (p38.1, p52.2))))) := by
        unfold F_X4_firstFault_L17
        rw [lp_u]
        dsimp only
        rw [if_neg (nI_ge hpl (by omega)), show sg_N 1 = 200 from rfl, gd_ok (by omega) (by decide), nm_eq, ld_nI (by omega), hx1 p hpl, numbersOf_eq (by omega), cl_some, nI_1]
      rw [hs]
      by_cases hw0 : wof (tx p) = 0
      · have e0 : F_X4_readNumbers 2 1 (nI (p + 1)) (nI l) (nI (wof (tx p))) x = some (-4, x) := by
          rw [hw0]
          unfold F_X4_readNumbers F_X4_readNumbers_L6
          rw [show sg_fuel = 59999 + 1 from rfl, lp_u]
          dsimp only
          rw [if_pos (show nI 0 ≤ 0 by rw [nI_0]; exact Int32.le_refl _)]
          unfold F_X4_readNumbers_J137
          rw [if_pos (show nI 0 ≤ 0 by rw [nI_0]; exact Int32.le_refl _)]
        have e1 : pone tx l p S = none := by
          refine pone_no (q := (p + 1, v00)) ?_ (pit_0 hw0)
          rw [hw0]
          rfl
        rw [e0, cl_some, if_pos (n4le (by omega)), e1]
        exact ⟨x, rfl, hf, fun z => by cases z⟩
      · obtain ⟨R, r1, r2⟩ := numsC ht (wof_le (c := tx p)) (by omega) (wof (tx p)) (p + 1) v00 x sg_fuel (Nat.le_refl _) (by have := wof_le (c := tx p); exact fu (by omega)) (by omega) hx1 (fun j hj => absurd hj (by omega))
        rw [Nat.sub_self] at r1 r2
        have f1 : FL h (sa x 14 R) := hf.trans (fl_sa (by omega))
        cases e : rdn tx l (wof (tx p)) (wof (tx p)) (p + 1) v00 with
        | none =>
          have e0 : F_X4_readNumbers 2 1 (nI (p + 1)) (nI l) (nI (wof (tx p))) x = some (-4, sa x 14 R) := r1 e
          rw [e0, cl_some, if_pos (n4le (by omega)), pone_none e]
          exact ⟨_, rfl, f1, fun z => by cases z⟩
        | some q =>
          obtain ⟨r3, r4⟩ := r2 q e
          have e0 : F_X4_readNumbers 2 1 (nI (p + 1)) (nI l) (nI (wof (tx p))) x = some (nI q.1, sa x 14 R) := r3
          obtain ⟨q1, q2, q3⟩ := rdn_bd _ _ _ (by omega) (fun _ => Nat.zero_le _) e
          rw [e0, cl_some]
          dsimp only
          rw [if_neg (nI_ge (by omega) (by omega))]
          have hR2 : RCl (sa x 14 R) S := hR.of (fun y y1 y2 => sa_n (by omega))
          obtain ⟨x2, t1, t2, t3⟩ := takeC (c := tx p) (v := q.2) (by omega) hV hR2 q3 (fun j hj => by rw [sa_r]; exact r4 j hj)
          cases e2 : pit (tx p) q.2 S with
          | none =>
            rw [t2 e2, cl_some, if_pos rfl, pone_no e e2]
            exact ⟨_, rfl, f1.trans t1, fun z => by cases z⟩
          | some S' =>
            obtain ⟨t4, t5⟩ := t3 S' e2
            rw [t4, cl_some, if_neg (show ¬ (1 : Int32) = 0 by decide), pone_yes e e2]
            exact ih (l - q.1) (by omega) q.1 N M S' x2 (by omega) (by omega) (by omega) (pit_ok hV q3 e2) t5 (f1.trans t1)
