/-- who is told for a yard, by the first k turns, those of them that are there -/
def tmask (wh fr to : Nat → Nat) (pr : Nat → Bool) (y : Nat) : Nat → Nat
  | 0 => 0
  | k + 1 => tmask wh fr to pr y k ||| (if pr k = true ∧ fr k ≤ y ∧ y ≤ to k then 2 ^ wh k else 0)
def TN (h : HP) (t n : Nat) (wh fr to : Nat → Nat) : Prop :=
  h.1 t 0 = nI n ∧ n ≤ 9 ∧ ∀ k, k < n → h.1 (t + 1) k = nI (wh k) ∧ h.1 (t + 2) k = nI (fr k) ∧ h.1 (t + 3) k = nI (to k) ∧ wh k < 6 ∧ fr k ≤ to k ∧ to k < 120
theorem TN.of {h h' : HP} {t n : Nat} {wh fr to : Nat → Nat} (hT : TN h t n wh fr to) (hk : ∀ x, t ≤ x → x < t + 4 → h'.1 x = h.1 x) : TN h' t n wh fr to := by
  obtain ⟨h1, h2, h3⟩ := hT
  refine ⟨by rw [hk t (by omega) (by omega)]; exact h1, h2, fun k hk' => ?_⟩
  rw [hk (t + 1) (by omega) (by omega), hk (t + 2) (by omega) (by omega), hk (t + 3) (by omega) (by omega)]
  exact h3 k hk'
theorem tmask_lt {wh fr to : Nat → Nat} {pr : Nat → Bool} {y : Nat} : ∀ {n : Nat}, (∀ k, k < n → wh k < 6) → tmask wh fr to pr y n < 64
  | 0, _ => Nat.zero_lt_succ _
  | n + 1, h => by
    unfold tmask
    refine or64 (tmask_lt (fun k hk => h k (by omega))) ?_
    split
    · exact two64 (h n (by omega))
    · decide
theorem mk_isIn9 : ∀ m, m < 64 → ∀ i, i < 9 → F_X8_isIn (nI i) (nI m) = some (if m.testBit i then 1 else 0) := by decide +kernel
theorem duty50 {h : HP} {t q n gone yards k : Nat} {wh fr to : Nat → Nat} {D : Nat → Int32} {M : Nat → Nat} {rc : (Int32 × HP) → Option HP} (hT : TN h t n wh fr to) (hq : q < t ∨ t + 4 ≤ q) (hN : sg_N q = 120) (hy : yards ≤ 120) (hk : k < n) (hD : ∀ y, y < yards → D y = nI (M y) ∧ M y < 64) :
    F_X6_tellDuty_L50 t q rc (nI gone) (nI yards) (nI k) sg_fuel (nI (fr k), sa h q D) = rc (nI (k + 1), sa h q (fun y => if y < yards ∧ fr k ≤ y ∧ y ≤ to k then nI (M y ||| 2 ^ wh k) else D y)) := by
  obtain ⟨t1, t2, t3⟩ := hT
  obtain ⟨k1, k2, k3, k4, k5, k6⟩ := t3 k hk
  unfold F_X6_tellDuty_L50
  have hE : ∀ i, (∀ y, y < yards ∧ fr k ≤ y ∧ y < fr k + i ↔ y < yards ∧ fr k ≤ y ∧ y ≤ to k) → (fun y => if y < yards ∧ fr k ≤ y ∧ y < fr k + i then nI (M y ||| 2 ^ wh k) else D y) = (fun y => if y < yards ∧ fr k ≤ y ∧ y ≤ to k then nI (M y ||| 2 ^ wh k) else D y) := by
    intro i hi
    funext y
    simp only [hi y]
  have rd : ∀ {f : Nat → Int32} {x : Nat}, (x = t + 1 ∨ x = t + 3) → (sa h q f).1 x = h.1 x := fun hx => sa_n (by omega)
  refine lp_seq' (fun i => (nI (fr k + i), sa h q (fun y => if y < yards ∧ fr k ≤ y ∧ y < fr k + i then nI (M y ||| 2 ^ wh k) else D y))) (min (to k + 1) yards - fr k) (fu (by omega)) ?_ (fun i hi rc2 => ?_) (fun rc2 => ?_)
  · refine Prod.ext rfl ?_
    show sa h q D = _
    congr 1
    funext y
    rw [if_neg (by omega)]
  · dsimp only
    have hlt : fr k + i < yards := by omega
    have hle : fr k + i ≤ to k := by omega
    rw [gd_ok (by omega) (by decide), ld_nI (by omega), rd (Or.inr rfl), k3, if_neg (nI_nlt hle (by omega)), if_neg (nI_ge hlt (by omega)), hN, gd_ok (by omega) (by decide), gd_ok (by omega) (by decide), gd_ok (by omega) (by decide), nm_eq, st_sa (by omega), sa_sa, sa_r, ld_nI (by omega), sa_r, ld_nI (by omega), rd (Or.inl rfl), k1, mk_shl _ k4, if_neg (by omega), (hD _ hlt).1, mk_or _ (hD _ hlt).2 _ (two64 k4), nI_1]
    congr 3
    funext y
    by_cases hyi : y = fr k + i
    · subst hyi
      simp [upd, hlt]
    · simp only [upd, if_neg hyi]
      have : (y < yards ∧ fr k ≤ y ∧ y < fr k + i) = (y < yards ∧ fr k ≤ y ∧ y < fr k + (i + 1)) := by
        apply propext
        omega
      simp only [this]
  · dsimp only
    rw [gd_ok (by omega) (by decide), ld_nI (by omega), rd (Or.inr rfl), k3]
    unfold F_X6_tellDuty_J90
    rw [nI_1]
    by_cases hc : to k < fr k + (min (to k + 1) yards - fr k)
    · rw [if_pos (nI_lt hc (by omega)), hE _ (fun y => by omega)]
    · rw [if_neg (nI_nlt (by omega) (by omega)), if_pos (nI_le (by omega) (by omega)), hE _ (fun y => by omega)]
theorem tellDuty_eq {h : HP} {t q n gone yards : Nat} {wh fr to : Nat → Nat} (hT : TN h t n wh fr to) (hq : q < t ∨ t + 4 ≤ q) (hN : sg_N q = 120) (hy : yards ≤ 120) (hg : gone < 64) :
    F_X6_tellDuty t (nI gone) (nI yards) q h = some (sa h q (fun y => if y < yards then nI (tmask wh fr to (fun k => !gone.testBit k) y n) else h.1 q y)) := by
  obtain ⟨t1, t2, t3⟩ := id hT
  unfold F_X6_tellDuty F_X6_tellDuty_L3
  have h20 : F_X6_tellDuty_J20 t q (nI gone) (nI yards) (sa h q (fun y => if y < yards then 0 else h.1 q y)) = some (sa h q (fun y => if y < yards then nI (tmask wh fr to (fun k => !gone.testBit k) y n) else h.1 q y)) := by
    unfold F_X6_tellDuty_J20 F_X6_tellDuty_L23
    refine lp_seq' (fun k => (nI k, sa h q (fun y => if y < yards then nI (tmask wh fr to (fun k => !gone.testBit k) y k) else h.1 q y))) n (fu (by omega)) rfl (fun k hk rc => ?_) (fun rc => ?_)
    · dsimp only
      rw [sa_n (by omega), t1, if_neg (nI_ge hk (by omega)), mk_isIn9 _ hg k (by omega), cl_some]
      obtain ⟨k1, k2, k3, k4, k5, k6⟩ := t3 k hk
      by_cases hgk : gone.testBit k = true
      · rw [if_pos hgk, if_neg (by decide)]
        unfold F_X6_tellDuty_J90
        rw [nI_1]
        congr 3
        funext y
        simp [tmask, hgk]
      · rw [if_neg hgk, if_pos rfl, gd_ok (by omega) (by decide), nm_eq, ld_nI (by omega), sa_n (by omega), k2, duty50 (M := fun y => tmask wh fr to (fun k => !gone.testBit k) y k) hT hq hN hy hk (fun y hy' => ⟨by rw [if_pos hy'], tmask_lt (fun j hj => (t3 j (by omega)).2.2.2.1)⟩)]
        congr 3
        funext y
        by_cases hyy : y < yards
        · by_cases hin : fr k ≤ y ∧ y ≤ to k
          · simp [tmask, hyy, hin, hgk]
          · simp [tmask, hyy, hin, hgk]
        · simp [hyy]
    · dsimp only
      rw [sa_n (by omega), t1, if_pos (Int32.le_refl _)]
  refine lp_seq' (fun i => (nI i, sa h q (fun y => if y < i then 0 else h.1 q y))) yards (fu (by omega)) ?_ (fun i hi rc => ?_) (fun rc => ?_)
  · rw [sa_id (by funext y; simp)]
    rfl
  · dsimp only
    rw [if_neg (nI_ge hi (by omega)), hN, gd_ok (by omega) (by decide), nm_eq, st_sa (by omega), sa_sa, sa_r, nI_1]
    congr 3
    funext y
    by_cases hyi : y = i
    · subst hyi; simp [upd]
    · simp only [upd, if_neg hyi, ltk hyi]
  · dsimp only
    rw [if_pos (Int32.le_refl _)]
    exact h20
