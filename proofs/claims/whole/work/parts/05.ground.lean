def sg_Tl : List Nat := [8, 10, 4, 1, 11, 11, 11, 11, 11, 11, 6, 11, 11, 11, 11, 1, 11, 11, 11, 11, 11, 11, 1, 11, 11, 11, 11, 11, 11, 6, 11, 11, 11, 3, 12, 6, 11, 11, 11, 6, 11, 11, 11, 6, 11, 11, 11, 6, 11, 11, 11, 6, 11, 11, 11, 6, 11, 11, 11, 6, 11, 11, 11, 6, 11, 11, 11, 3, 12, 6, 11, 11, 11, 6, 11, 11, 11, 11, 11, 11, 11, 7, 11, 11, 11, 11, 11, 11, 7, 11, 11, 11, 11, 11, 11, 5, 11, 7, 11, 11, 11, 11, 11, 11, 7, 11, 11, 11, 11, 11, 11, 7, 11, 11, 11, 11, 11, 11, 2, 11, 11, 0, 11, 11, 11, 11, 7, 11, 11, 11, 11, 11, 11, 9, 11, 11, 11, 11, 11, 11, 11, 11, 11, 11, 11, 11, 11, 11, 11, 11, 11, 11, 11, 11]
def sg_Nl : List Nat := [0, 200, 0, 0, 6, 6, 6, 6, 6, 120, 0, 9, 9, 9, 3, 0, 6, 6, 6, 6, 6, 120, 0, 6, 6, 6, 6, 6, 120, 0, 9, 9, 9, 0, 8, 0, 9, 9, 9, 0, 9, 9, 9, 0, 9, 9, 9, 0, 9, 9, 9, 0, 9, 9, 9, 0, 9, 9, 9, 0, 9, 9, 9, 0, 9, 9, 9, 0, 2, 0, 9, 9, 9, 0, 9, 9, 9, 8, 8, 120, 120, 0, 6, 6, 6, 6, 120, 6, 0, 6, 6, 6, 6, 120, 6, 0, 121, 0, 6, 6, 6, 6, 120, 6, 0, 6, 6, 6, 6, 120, 6, 0, 6, 6, 6, 6, 120, 6, 0, 6, 6, 0, 6, 6, 6, 6, 0, 6, 6, 6, 6, 120, 6, 0, 34, 34, 31, 31, 248, 62, 200, 16, 3, 34, 31, 6, 6, 6, 6, 120, 6, 6, 36, 36]
def sg_Fn : List Nat := [10, 11, 6, 2, 3, 12, 4, 12, 18, 28]
def sg_Rl : List (List Bool) := [[false, false, true, true, true, true, true, true, false, false], [false, false, false, false, false, true, true, true, true, true, true], [false, true, true, true, false, false], [true, false], [true, true, true], [false, false, false, false, false, false, true, true, true, true, true, true], [false, true, true, true], [true, false, false, false, false, false, true, true, true, true, true, true], [true, false, true, true, true, true, true, true, true, true, false, true, true, true, true, true, true, true], [true, true, true, true, true, false, true, false, true, false, true, false, false, true, true, true, false, false, true, true, true, true, true, false, true, true, true, true]]
def sg_Rel : List (List Bool) := [[false, false, false, true, true, true, true, true, false, false], [false, false, false, false, false, true, true, true, true, true, true], [false, true, true, false, false, false], [true, false], [true, true, true], [false, false, false, false, false, false, false, false, true, true, true, true], [false, true, true, true], [false, false, false, false, false, false, true, true, true, true, true, true], [true, false, true, true, true, true, true, true, true, true, false, true, true, true, true, true, true, true], [true, true, true, true, true, false, true, false, true, false, true, false, false, true, true, true, false, false, true, true, true, true, true, false, true, true, true, true]]
def sg_Off : List (List Nat) := [[0, 0, 15, 5, 1, 2, 3, 4, 0, 0], [0, 0, 0, 0, 0, 1, 2, 3, 4, 5, 6], [0, 1, 2, 15, 0, 0], [1, 0], [1, 8, 12], [0, 0, 0, 0, 0, 0, 15, 79, 2, 9, 16, 1], [0, 1, 2, 3], [0, 0, 0, 0, 0, 0, 1, 2, 3, 4, 5, 6], [1, 0, 2, 15, 22, 29, 33, 67, 77, 78, 0, 79, 80, 81, 88, 95, 118, 121], [1, 2, 3, 4, 5, 0, 6, 0, 7, 0, 8, 0, 0, 9, 10, 11, 0, 0, 12, 13, 14, 15, 16, 0, 17, 18, 19, 20]]
abbrev HP : Type := (Nat → Nat → Int32) × (Nat → Nat → Nat)
def sg_T (k : Nat) : Nat := sg_Tl.getD k 99
def sg_N (k : Nat) : Nat := sg_Nl.getD k 0
def sg_nF (c : Nat) : Nat := sg_Fn.getD c 0
def sg_isR (c j : Nat) : Bool := (sg_Rl.getD c []).getD j false
def sg_F (a j : Nat) : Nat := (if (sg_Rel.getD (sg_T a) []).getD j false = true then a else 0) + (sg_Off.getD (sg_T a) []).getD j 0
def sg_okN (n : Nat) : Prop := n = 133 ∨ n = 154
theorem sg_okN_lt {n a : Nat} (hn : sg_okN n) (ha : a < n) : a < 154 := by rcases hn with rfl | rfl <;> omega
theorem sg_okN_in {n a q : Nat} (hn : sg_okN n) (ha : a < n) (h3 : q < 154) (h4 : a < 133 → q < 133) : q < n := by
  rcases hn with rfl | rfl
  · exact h4 ha
  · exact h3
def ui (h : HP) (a k : Nat) (v : Int32) : HP := (fun x => if x = a then upd (h.1 a) k v else h.1 x, h.2)
def ur (h : HP) (a k : Nat) (r : Nat) : HP := (h.1, fun x => if x = a then va_up (h.2 a) k r else h.2 x)
def uc (h : HP) (q a : Nat) (sp dp n : Nat) : HP := (fun x => if x = a then va_cpy (h.1 q) (h.1 a) sp dp n else h.1 x, h.2)
def ld (h : HP) (q : Nat) (i : Int32) : Int32 := h.1 q i.toNatClampNeg
def st (h : HP) (q : Nat) (i v : Int32) : HP := ui h q i.toNatClampNeg v
def sg_rf (b r : Nat) : Option Nat := if r = 0 then none else some (b + (r - 1))
def sg_sv (b : Nat) (h : HP) (c a j : Nat) : Value := if sg_isR c j = true then va_rf (sg_rf b (h.2 a j)) else .int (h.1 a j)
def sg_sl (b : Nat) (h : HP) (c a : Nat) : List Value := (List.range (sg_nF c)).map (sg_sv b h c a)
def sg_ce (b : Nat) (cA : Nat → ClassId) (h : HP) (k : Nat) : va_E :=
  if sg_T k < 10 then .inr (sg_T k, sg_sl b h (sg_T k) k)
  else if sg_T k = 12 then .inl (cA 12, sg_N k, .inr (.inr (.inr (.inr (fun j => sg_rf b (h.2 k j))))))
  else .inl (cA (sg_T k), sg_N k, .inl (h.1 k))
def sg_ws (b : Nat) (cA : Nat → ClassId) (h : HP) (n : Nat) : va_W := (List.range n).map (fun k => (b + k, sg_ce b cA h k))
def sg_ty (cA : Nat → ClassId) : List (ClassId × FieldType) := [(cA 10, .char), (cA 11, .int), (cA 12, .object RX6)]
def sg_Ty (n : Nat) (r : Nat → Nat → Nat) : Prop := ∀ a, a < n → (∀ j, j < sg_nF (sg_T a) → sg_isR (sg_T a) j = true → ¬ (sg_T a = 7 ∧ j = 0) → r a j = sg_F a j + 1) ∧ (sg_T a = 7 → r a 0 ≠ 0 → r a 0 - 1 < n ∧ sg_T (r a 0 - 1) = 1) ∧ (sg_T a = 12 → ∀ j, j < sg_N a → r a j ≠ 0 → r a j - 1 < n ∧ sg_T (r a j - 1) = 6)
def sg_A (b : Nat) : Nat → Prop := fun q => b ≤ q
def sg_Nw (U : State) : Prop := ∀ q ∈ sg_nl, va_Nw (.methodLinkNest q.1 q.2.1 q.2.2.1 q.2.2.2) U
theorem sg_Nw.warm {s U : State} (hW : s.WarmedH U.vm) (h : sg_Nw s) : sg_Nw U := fun q hq => va_Nw.warmM hW (h q hq)
theorem sg_Nw.same {u U : State} (e : u.vm = U.vm) (h : sg_Nw u) : sg_Nw U := fun q hq => va_Nw.same rfl e (h q hq)
def sg_Cx (p : Program) (s : State) (m : MethodId) (args : Array Value) (c : Code) (cc : ByteArray) (own : String) (D : va_G) (cA : Nat → ClassId) : Prop :=
  p.tables.exec = Jvm.exec ∧ c.code = cc ∧ s.vm.findClass own = some m.cls ∧ (∀ w ∈ sg_tbl, w.before args s = true) ∧ va_K D vwCl (sg_ty cA) s ∧ sg_Nw s
def sg_Wo (D : va_G) (b : Nat) (cA : Nat → ClassId) (n : Nat) (H0 : Heap) (h : HP) (H : Heap) (locs : List Loc) : Prop :=
  va_P D vwCl (sg_ws b cA h n) H ∧ sg_Ty n h.2 ∧ va_S (sg_A b) H0 H locs
/-- the world at a method's start and end -/
def sg_Wd (D : va_G) (b : Nat) (cA : Nat → ClassId) (n : Nat) (h : HP) (U : State) : Prop :=
  va_P D vwCl (sg_ws b cA h n) U.heap ∧ va_K D vwCl (sg_ty cA) U ∧ U.heap.size = b + n ∧ sg_Ty n h.2 ∧ sg_Nw U
def sg_Fi (ci k : Nat) (C : String) (T : u_T) (N : Nat) : Prop := vwCl[ci]? = some (C, T, N) ∧ (∀ w ∈ u_ws C T N, w ∈ sg_tbl) ∧ k < N ∧ (k < sg_nF ci ∧ ci < 10) ∧ sg_isR ci k = false
def sg_Fr (ci k : Nat) (C : String) (T : u_T) (N : Nat) : Prop := vwCl[ci]? = some (C, T, N) ∧ (∀ w ∈ u_ws C T N, w ∈ sg_tbl) ∧ k < N ∧ (k < sg_nF ci ∧ ci < 10) ∧ sg_isR ci k = true
def sg_Fp (ci k : Nat) (C : String) (T : u_T) (N : Nat) (ty0 : Nat → FieldType) (ty : FieldType) : Prop := sg_Fi ci k C T N ∧ (∀ k, k < N → parseFieldDescriptor (T k).2.2.1 = some (ty0 k)) ∧ (∀ a, a < N → ∀ b, b < N → a ≠ b → (T a).2.1 ≠ (T b).2.1) ∧ (T k).2.2.2 = false ∧ parseFieldDescriptor (T k).2.2.1 = some ty
/-- guards and names of the functions -/
def gd {β : Type} (i : Int32) (n : Nat) (k : Option β) : Option β := if i < 0 ∨ n ≤ i.toNatClampNeg then none else k
def gn {β : Type} (r : Nat) (k : Option β) : Option β := if r = 0 then none else k
def gz {β : Type} (y : Int32) (k : Option β) : Option β := if y = 0 then none else k
def gzl {β : Type} (y : Int64) (k : Option β) : Option β := if y = 0 then none else k
def gb {β : Type} (y : Int32) (k : Option β) : Option β := if y = 0 ∨ y = 1 then k else none
def nm {α β : Type} (v : α) (k : α → β) : β := k v
def cl {α β : Type} (x : Option α) (k : α → Option β) : Option β := match x with
  | none => none
  | some v => k v
def lp {α β : Type} (body : (α → Option β) → α → Option β) : Nat → α → Option β
  | 0, _ => none
  | n + 1, x => body (lp body n) x
def sg_fuel : Nat := 60000
theorem gd_of {β : Type} {i : Int32} {n : Nat} {k : Option β} {R : β} (h : gd i n k = some R) : vp_in i n ∧ k = some R := by
  unfold gd at h
  split at h
  · cases h
  · exact ⟨by assumption, h⟩
theorem gn_of {β : Type} {r : Nat} {k : Option β} {R : β} (h : gn r k = some R) : r ≠ 0 ∧ k = some R := by
  unfold gn at h
  split at h
  · cases h
  · exact ⟨by assumption, h⟩
theorem gz_of {β : Type} {y : Int32} {k : Option β} {R : β} (h : gz y k = some R) : ¬ y = 0 ∧ k = some R := by
  unfold gz at h
  split at h
  · cases h
  · exact ⟨by assumption, h⟩
theorem gzl_of {β : Type} {y : Int64} {k : Option β} {R : β} (h : gzl y k = some R) : ¬ y = 0 ∧ k = some R := by
  unfold gzl at h
  split at h
  · cases h
  · exact ⟨by assumption, h⟩
theorem gb_of {β : Type} {y : Int32} {k : Option β} {R : β} (h : gb y k = some R) : narrow .boolean (.int y) = .int y ∧ k = some R := by
  unfold gb at h
  split at h
  · rename_i hy
    refine ⟨?_, h⟩
    rcases hy with rfl | rfl <;> rfl
  · cases h
theorem nm_of {α β : Type} {v y : α} {k : α → Option β} {R : β} (e : y = v) (h : nm v k = some R) : k y = some R := by
  subst e
  exact h
theorem cl_of {α β : Type} {x : Option α} {k : α → Option β} {R : β} (h : cl x k = some R) : ∃ v, x = some v ∧ k v = some R := by
  cases x with
  | none => cases h
  | some v => exact ⟨v, rfl, h⟩
theorem if_of {β : Type} {c : Prop} [Decidable c] {A B : Option β} {R : β} (hc : c) (h : (if c then A else B) = some R) : A = some R := by
  rwa [if_pos hc] at h
theorem if_no {β : Type} {c : Prop} [Decidable c] {A B : Option β} {R : β} (hc : ¬ c) (h : (if c then A else B) = some R) : B = some R := by
  rwa [if_neg hc] at h
theorem lp_walk {α β : Type} {body : (α → Option β) → α → Option β} {R : β} {P : α → Prop} (hs : ∀ rec : α → Option β, (∀ x, rec x = some R → P x) → ∀ x, body rec x = some R → P x) : ∀ n x, lp body n x = some R → P x := by
  intro n
  induction n with
  | zero => intro x h; cases h
  | succ n ih => intro x h; exact hs (lp body n) ih x h
section GROUND
variable {b n : Nat} {cA : Nat → ClassId} {h : HP}
theorem sg_sl_get {c a j : Nat} (hj : j < sg_nF c) : (sg_sl b h c a)[j]? = some (sg_sv b h c a j) := by
  simp [sg_sl, List.getElem?_map, List.getElem?_range hj]
theorem sg_sl_len {c a : Nat} : (sg_sl b h c a).length = sg_nF c := by simp [sg_sl]
theorem sg_ws_get {k : Nat} (hk : k < n) : (sg_ws b cA h n)[k]? = some (b + k, sg_ce b cA h k) := by
  simp [sg_ws, List.getElem?_map, List.getElem?_range hk]
theorem sg_ws_out {k : Nat} (hk : n ≤ k) : (sg_ws b cA h n)[k]? = none := by
  simp [sg_ws, hk]
theorem sg_ws_in {k : Nat} {q : Nat × va_E} (hq : (sg_ws b cA h n)[k]? = some q) : k < n ∧ q = (b + k, sg_ce b cA h k) := by
  rcases Nat.lt_or_ge k n with hk | hk
  · rw [sg_ws_get hk] at hq
    exact ⟨hk, (Option.some.inj hq).symm⟩
  · rw [sg_ws_out hk] at hq
    cases hq
theorem sg_ws_D : va_D (sg_A b) (sg_ws b cA h n) := by
  refine ⟨fun i j x y hi hj e => ?_, fun k q hq => ?_⟩
  · obtain ⟨-, rfl⟩ := sg_ws_in hi
    obtain ⟨-, rfl⟩ := sg_ws_in hj
    dsimp only at e
    omega
  · obtain ⟨-, rfl⟩ := sg_ws_in hq
    exact Nat.le_add_right b k
theorem sg_ws_set {h' : HP} {a : Nat} {e : va_E} (ha : a < n) (h1 : ∀ k, k ≠ a → sg_ce b cA h' k = sg_ce b cA h k) (h2 : sg_ce b cA h' a = e) : (sg_ws b cA h n).set a (b + a, e) = sg_ws b cA h' n := by
  apply List.ext_getElem?
  intro k
  rw [List.getElem?_set]
  by_cases hk : a = k
  · subst hk
    rw [if_pos rfl, if_pos (by simp [sg_ws, ha]), sg_ws_get ha, h2]
  · rw [if_neg hk]
    rcases Nat.lt_or_ge k n with hl | hl
    · rw [sg_ws_get hl, sg_ws_get hl, h1 k (fun q => hk q.symm)]
    · rw [sg_ws_out hl, sg_ws_out hl]
theorem sg_ce_obj {a ci : Nat} (hT : sg_T a = ci) (hc : ci < 10) : sg_ce b cA h a = .inr (ci, sg_sl b h ci a) := by
  subst hT
  exact if_pos hc
theorem sg_ce_int {a : Nat} (hT : sg_T a = 11) : sg_ce b cA h a = .inl (cA 11, sg_N a, .inl (h.1 a)) := by
  unfold sg_ce
  rw [if_neg (by rw [hT]; decide), if_neg (by rw [hT]; decide), hT]
theorem sg_ce_chr {a : Nat} (hT : sg_T a = 10) : sg_ce b cA h a = .inl (cA 10, sg_N a, .inl (h.1 a)) := by
  unfold sg_ce
  rw [if_neg (by rw [hT]; decide), if_neg (by rw [hT]; decide), hT]
theorem sg_ce_ref {a : Nat} (hT : sg_T a = 12) : sg_ce b cA h a = .inl (cA 12, sg_N a, .inr (.inr (.inr (.inr (fun j => sg_rf b (h.2 a j)))))) := by
  unfold sg_ce
  rw [if_neg (by rw [hT]; decide), if_pos hT]
theorem sg_ce_ui {a j k : Nat} {v : Int32} (hk : k ≠ a) : sg_ce b cA (ui h a j v) k = sg_ce b cA h k := by
  have e1 : (ui h a j v).1 k = h.1 k := by simp [ui, hk]
  have e2 : (ui h a j v).2 k = h.2 k := by simp [ui, hk]
  have e3 : ∀ c, sg_sv b (ui h a j v) c k = sg_sv b h c k := fun c => by funext x; simp only [sg_sv, e1, e2]
  simp only [sg_ce, sg_sl, e1, e2, e3]
theorem sg_ce_ur {a j k r : Nat} (hk : k ≠ a) : sg_ce b cA (ur h a j r) k = sg_ce b cA h k := by
  have e1 : (ur h a j r).1 k = h.1 k := by simp [ur, hk]
  have e2 : (ur h a j r).2 k = h.2 k := by simp [ur, hk]
  have e3 : ∀ c, sg_sv b (ur h a j r) c k = sg_sv b h c k := fun c => by funext x; simp only [sg_sv, e1, e2]
  simp only [sg_ce, sg_sl, e1, e2, e3]
theorem sg_ce_uc {q a sp dp z k : Nat} (hk : k ≠ a) : sg_ce b cA (uc h q a sp dp z) k = sg_ce b cA h k := by
  have e1 : (uc h q a sp dp z).1 k = h.1 k := by simp [uc, hk]
  have e2 : (uc h q a sp dp z).2 k = h.2 k := by simp [uc, hk]
  have e3 : ∀ c, sg_sv b (uc h q a sp dp z) c k = sg_sv b h c k := fun c => by funext x; simp only [sg_sv, e1, e2]
  simp only [sg_ce, sg_sl, e1, e2, e3]
theorem sg_sl_ui {a ci k : Nat} {v : Int32} (hk : k < sg_nF ci) (hR : sg_isR ci k = false) : sg_sl b (ui h a k v) ci a = (sg_sl b h ci a).set k (.int v) := by
  apply List.ext_getElem?
  intro j
  rw [List.getElem?_set]
  by_cases e : k = j
  · subst e
    rw [if_pos rfl, if_pos (by rw [sg_sl_len]; exact hk), sg_sl_get hk]
    simp [sg_sv, hR, ui, upd]
  · rw [if_neg e]
    rcases Nat.lt_or_ge j (sg_nF ci) with hl | hl
    · rw [sg_sl_get hl, sg_sl_get hl]
      have e' : ¬ j = k := fun q => e q.symm
      simp [sg_sv, ui, upd, e']
    · rw [List.getElem?_eq_none (by rw [sg_sl_len]; exact hl), List.getElem?_eq_none (by rw [sg_sl_len]; exact hl)]
theorem sg_sl_ur {a ci k r : Nat} (hk : k < sg_nF ci) (hR : sg_isR ci k = true) : sg_sl b (ur h a k r) ci a = (sg_sl b h ci a).set k (va_rf (sg_rf b r)) := by
  apply List.ext_getElem?
  intro j
  rw [List.getElem?_set]
  by_cases e : k = j
  · subst e
    rw [if_pos rfl, if_pos (by rw [sg_sl_len]; exact hk), sg_sl_get hk]
    simp [sg_sv, hR, ur, va_up]
  · rw [if_neg e]
    rcases Nat.lt_or_ge j (sg_nF ci) with hl | hl
    · rw [sg_sl_get hl, sg_sl_get hl]
      have e' : ¬ j = k := fun q => e q.symm
      simp [sg_sv, ur, va_up, e']
    · rw [List.getElem?_eq_none (by rw [sg_sl_len]; exact hl), List.getElem?_eq_none (by rw [sg_sl_len]; exact hl)]
end GROUND
section ROWS
variable {p : Program} {l : Launch} {e : Env} {R : Room} {s : State} {m : MethodId} {args : Array Value} {below : List Frame} {meth : Method} {c : Code} {H : Heap} {locs : List Loc} {cells slots : Nat} {Q : State → Prop}
variable {cc : ByteArray} {pc : Nat} {ls : Array Slot} {rest : List Value} {D : va_G} {cA : Nat → ClassId} {b n : Nat} {H0 : Heap} {h : HP} {own : String}
/-- a field that holds an int -/
theorem sg_geti (hc : sg_Cx p s m args c cc own D cA) (hw : sg_Wo D b cA n H0 h H locs) {a ci k N index : Nat} {C : String} {T : u_T} (ha : a < n) (hT : sg_T a = ci) (hf : sg_Fi ci k C T N) (hlink : Cond.fieldLink own index (T k).1 (T k).2.1 (T k).2.2.1 ∈ sg_tbl) (hdg : decode cc pc = .ok (.getfield index, 3))
    (kk : W p l e R s m args below meth c H locs cells slots Q (F0 m (pc + 3) ls (.int (h.1 a k) :: rest))) : W p l e R s m args below meth c H locs cells slots Q (F0 m pc ls (.ref (b + a) :: rest)) := by
  obtain ⟨hx, hb, hown, hts, hK, -⟩ := hc
  obtain ⟨h1, h2, h3, h4, h5⟩ := hf
  refine va_get hx hb hts h2 hown hK hw.1 a ((sg_ws_get ha).trans (by rw [sg_ce_obj hT h4.2])) h1 k h3 (hts _ hlink) (fun _ h9 => h9) ?_ hdg kk
  rw [sg_sl_get h4.1]
  simp [sg_sv, h5]
/-- a field that holds a cell -/
theorem sg_getr (hc : sg_Cx p s m args c cc own D cA) (hw : sg_Wo D b cA n H0 h H locs) {a ci k N index : Nat} {C : String} {T : u_T} (ha : a < n) (hT : sg_T a = ci) (hf : sg_Fr ci k C T N) (hlink : Cond.fieldLink own index (T k).1 (T k).2.1 (T k).2.2.1 ∈ sg_tbl) (hdg : decode cc pc = .ok (.getfield index, 3)) {q : Nat} (hq : h.2 a k = q + 1)
    (kk : W p l e R s m args below meth c H locs cells slots Q (F0 m (pc + 3) ls (.ref (b + q) :: rest))) : W p l e R s m args below meth c H locs cells slots Q (F0 m pc ls (.ref (b + a) :: rest)) := by
  obtain ⟨hx, hb, hown, hts, hK, -⟩ := hc
  obtain ⟨h1, h2, h3, h4, h5⟩ := hf
  refine va_get hx hb hts h2 hown hK hw.1 a ((sg_ws_get ha).trans (by rw [sg_ce_obj hT h4.2])) h1 k h3 (hts _ hlink) (fun _ h9 => h9) ?_ hdg kk
  rw [sg_sl_get h4.1]
  simp [sg_sv, h5, sg_rf, hq, va_rf]
/-- a final field that holds a cell -/
theorem sg_getf (hc : sg_Cx p s m args c cc own D cA) (hw : sg_Wo D b cA n H0 h H locs) {a ci k N index : Nat} {C : String} {T : u_T} (ha : a < n) (hT : sg_T a = ci) (hf : sg_Fr ci k C T N) (h70 : ¬ (ci = 7 ∧ k = 0)) (hlink : Cond.fieldLink own index (T k).1 (T k).2.1 (T k).2.2.1 ∈ sg_tbl) (hdg : decode cc pc = .ok (.getfield index, 3)) {q : Nat} (hq : sg_F a k = q)
    (kk : W p l e R s m args below meth c H locs cells slots Q (F0 m (pc + 3) ls (.ref (b + q) :: rest))) : W p l e R s m args below meth c H locs cells slots Q (F0 m pc ls (.ref (b + a) :: rest)) := by
  subst hT
  refine sg_getr hc hw ha rfl hf hlink hdg ?_ kk
  rw [← hq]
  exact (hw.2.1 a ha).1 k hf.2.2.2.1.1 hf.2.2.2.2 h70
theorem sg_size {g : JFrame} (k : H.size ≤ s.heap.size + cells → W p l e R s m args below meth c H locs cells slots Q g) : W p l e R s m args below meth c H locs cells slots Q g := fun T hT X => k (by rw [← hT]; exact X.same.2.2.1) T hT X
theorem sg_lo (hw : sg_Wo D b cA n H0 h H locs) (hn : 0 < n) : b + n ≤ H.size := by
  have h1 := (hw.1 (n - 1) _ (sg_ws_get (by omega))).lt
  dsimp only at h1
  omega
theorem sg_puti (hc : sg_Cx p s m args c cc own D cA) (hw : sg_Wo D b cA n H0 h H locs) {a ci k N index : Nat} {C : String} {T : u_T} {ty0 : Nat → FieldType} {ty : FieldType} {v : Int32} (ha : a < n) (hT : sg_T a = ci) (hf : sg_Fp ci k C T N ty0 ty) (hn : narrow ty (.int v) = .int v) (hfit : fits ty (.int v) = true) (hlink : Cond.fieldLink own index (T k).1 (T k).2.1 (T k).2.2.1 ∈ sg_tbl) (hdg : decode cc pc = .ok (.putfield index, 3))
    (kk : ∀ (H : Heap) (locs : List Loc), sg_Wo D b cA n H0 (ui h a k v) H locs → W p l e R s m args below meth c H locs cells slots Q (F0 m (pc + 3) ls rest)) : W p l e R s m args below meth c H locs cells slots Q (F0 m pc ls (.int v :: .ref (b + a) :: rest)) := by
  obtain ⟨hx, hb, hown, hts, hK, -⟩ := hc
  obtain ⟨⟨h1, h2, h3, h4, h5⟩, g1, g2, g3, g4⟩ := hf
  have he : (sg_ws b cA h n)[a]? = some (b + a, .inr (ci, sg_sl b h ci a)) := (sg_ws_get ha).trans (by rw [sg_ce_obj hT h4.2])
  refine va_put hx hb hts h2 ty0 g1 g2 hown hK hw.1 sg_ws_D hw.2.2 a he h1 k h3 (hts _ hlink) (fun _ h9 => h9) g3 g4 hn hfit (by rw [sg_sl_len]; exact h4.1) hdg (fun H1 locs1 hP hD hS => ?_)
  rw [sg_ws_set (h' := ui h a k v) ha (fun k hk => sg_ce_ui hk) (by rw [sg_ce_obj hT h4.2, sg_sl_ui h4.1 h5])] at hP
  exact kk H1 locs1 ⟨hP, hw.2.1, hS⟩
/-- Walk.funeral, the one field of a cell that isn't final -/
theorem sg_putr (hc : sg_Cx p s m args c cc own D cA) (hw : sg_Wo D b cA n H0 h H locs) {a q index : Nat} (ha : a < n) (hT : sg_T a = 7) (hq : q < n) (hTq : sg_T q = 1) (hlink : Cond.fieldLink own index (TX7 0).1 (TX7 0).2.1 (TX7 0).2.2.1 ∈ sg_tbl) (hin : ∀ w ∈ u_ws RX7 TX7 12, w ∈ sg_tbl) (hdg : decode cc pc = .ok (.putfield index, 3))
    (kk : ∀ (H : Heap) (locs : List Loc), sg_Wo D b cA n H0 (ur h a 0 (q + 1)) H locs → W p l e R s m args below meth c H locs cells slots Q (F0 m (pc + 3) ls rest)) : W p l e R s m args below meth c H locs cells slots Q (F0 m pc ls (.ref (b + q) :: .ref (b + a) :: rest)) := by
  obtain ⟨hx, hb, hown, hts, hK, -⟩ := hc
  have he : (sg_ws b cA h n)[a]? = some (b + a, .inr (7, sg_sl b h 7 a)) := (sg_ws_get ha).trans (by rw [sg_ce_obj hT (by decide)])
  refine va_put (T := TX7) (C := RX7) (N := 12) (ty := .object "ShoulderHeirs$Funeral") hx hb hts hin tyX7 tyX7_ok nmX7 hown hK hw.1 sg_ws_D hw.2.2 a he rfl 0 (by decide) (hts _ hlink) (fun _ h9 => h9) rfl (by decide +kernel) rfl rfl (by rw [sg_sl_len]; decide) hdg (fun H1 locs1 hP hD hS => ?_)
  rw [sg_ws_set (h' := ur h a 0 (q + 1)) ha (fun k hk => sg_ce_ur hk) (by rw [sg_ce_obj hT (by decide), sg_sl_ur (by decide) rfl]; rfl)] at hP
  refine kk H1 locs1 ⟨hP, fun x hx => ?_, hS⟩
  have h9 := hw.2.1 x hx
  by_cases hxa : x = a
  · subst hxa
    have e0 : ∀ j, (ur h x 0 (q + 1)).2 x j = if j = 0 then q + 1 else h.2 x j := fun j => by simp [ur, va_up]
    refine ⟨fun j hj hR hne => ?_, fun _ _ => ?_, fun h12 => ?_⟩
    · rw [e0, if_neg (fun z => hne ⟨hT, z⟩)]
      exact h9.1 j hj hR hne
    · rw [e0, if_pos rfl]
      exact ⟨hq, hTq⟩
    · rw [hT] at h12
      cases h12
  · have e0 : (ur h a 0 (q + 1)).2 x = h.2 x := by simp [ur, hxa]
    rw [e0]
    exact h9
theorem sg_ild (hc : sg_Cx p s m args c cc own D cA) (hw : sg_Wo D b cA n H0 h H locs) {a N : Nat} {i : Int32} (ha : a < n) (hT : sg_T a = 11) (hN : sg_N a = N) (hin : vp_in i N) (hdg : decode cc pc = .ok (.iaload, 1))
    (kk : W p l e R s m args below meth c H locs cells slots Q (F0 m (pc + 1) ls (.int (ld h a i) :: rest))) : W p l e R s m args below meth c H locs cells slots Q (F0 m pc ls (.int i :: .ref (b + a) :: rest)) := by
  subst hN
  obtain ⟨hx, hb, hown, hts, hK, -⟩ := hc
  exact va_iald hx hb hK hw.1 a 1 ((sg_ws_get ha).trans (by rw [sg_ce_int hT])) rfl hin hdg kk
theorem sg_cld (hc : sg_Cx p s m args c cc own D cA) (hw : sg_Wo D b cA n H0 h H locs) {a N : Nat} {i : Int32} (ha : a < n) (hT : sg_T a = 10) (hN : sg_N a = N) (hin : vp_in i N) (hdg : decode cc pc = .ok (.caload, 1))
    (kk : W p l e R s m args below meth c H locs cells slots Q (F0 m (pc + 1) ls (.int (ld h a i) :: rest))) : W p l e R s m args below meth c H locs cells slots Q (F0 m pc ls (.int i :: .ref (b + a) :: rest)) := by
  subst hN
  obtain ⟨hx, hb, hown, hts, hK, -⟩ := hc
  exact va_cald hx hb hK hw.1 a 0 ((sg_ws_get ha).trans (by rw [sg_ce_chr hT])) rfl hin hdg kk
theorem sg_ist (hc : sg_Cx p s m args c cc own D cA) (hw : sg_Wo D b cA n H0 h H locs) {a N : Nat} {i x : Int32} (ha : a < n) (hT : sg_T a = 11) (hN : sg_N a = N) (hin : vp_in i N) (hdg : decode cc pc = .ok (.iastore, 1))
    (kk : ∀ (H : Heap) (locs : List Loc), sg_Wo D b cA n H0 (st h a i x) H locs → W p l e R s m args below meth c H locs cells slots Q (F0 m (pc + 1) ls rest)) : W p l e R s m args below meth c H locs cells slots Q (F0 m pc ls (.int x :: .int i :: .ref (b + a) :: rest)) := by
  subst hN
  obtain ⟨hx, hb, hown, hts, hK, -⟩ := hc
  refine va_iast hx hb hK hw.1 sg_ws_D hw.2.2 a 1 ((sg_ws_get ha).trans (by rw [sg_ce_int hT])) rfl hin hdg (fun H1 locs1 hP hD hS => ?_)
  rw [sg_ws_set (h' := st h a i x) ha (fun k hk => sg_ce_ui hk) (by rw [sg_ce_int hT]; simp [st, ui])] at hP
  exact kk H1 locs1 ⟨hP, hw.2.1, hS⟩
theorem sg_cst (hc : sg_Cx p s m args c cc own D cA) (hw : sg_Wo D b cA n H0 h H locs) {a N : Nat} {i x : Int32} (ha : a < n) (hT : sg_T a = 10) (hN : sg_N a = N) (hin : vp_in i N) (hdg : decode cc pc = .ok (.castore, 1))
    (kk : ∀ (H : Heap) (locs : List Loc), sg_Wo D b cA n H0 (st h a i (vp_nar .char x)) H locs → W p l e R s m args below meth c H locs cells slots Q (F0 m (pc + 1) ls rest)) : W p l e R s m args below meth c H locs cells slots Q (F0 m pc ls (.int x :: .int i :: .ref (b + a) :: rest)) := by
  subst hN
  obtain ⟨hx, hb, hown, hts, hK, -⟩ := hc
  refine va_cast hx hb hK hw.1 sg_ws_D hw.2.2 a 0 ((sg_ws_get ha).trans (by rw [sg_ce_chr hT])) rfl hin hdg (fun H1 locs1 hP hD hS => ?_)
  rw [sg_ws_set (h' := st h a i (vp_nar .char x)) ha (fun k hk => sg_ce_ui hk) (by rw [sg_ce_chr hT]; simp [st, ui])] at hP
  exact kk H1 locs1 ⟨hP, hw.2.1, hS⟩
theorem sg_ald (hc : sg_Cx p s m args c cc own D cA) (hw : sg_Wo D b cA n H0 h H locs) {a q N : Nat} {i : Int32} (ha : a < n) (hT : sg_T a = 12) (hN : sg_N a = N) (hin : vp_in i N) (hq : h.2 a i.toNatClampNeg = q + 1) (hdg : decode cc pc = .ok (.aaload, 1))
    (kk : W p l e R s m args below meth c H locs cells slots Q (F0 m (pc + 1) ls (.ref (b + q) :: rest))) : W p l e R s m args below meth c H locs cells slots Q (F0 m pc ls (.int i :: .ref (b + a) :: rest)) := by
  subst hN
  obtain ⟨hx, hb, hown, hts, hK, -⟩ := hc
  refine va_aldq (C := RX6) hx hb hK hw.1 a 2 ((sg_ws_get ha).trans (by rw [sg_ce_ref hT])) rfl hin hdg ?_
  rw [hq, show sg_rf b (q + 1) = some (b + q) by simp [sg_rf]]
  exact kk
theorem sg_ast (hc : sg_Cx p s m args c cc own D cA) (hw : sg_Wo D b cA n H0 h H locs) {a q N : Nat} {i : Int32} (ha : a < n) (hT : sg_T a = 12) (hN : sg_N a = N) (hin : vp_in i N) (hqn : q < n) (hTq : sg_T q = 6) (hdg : decode cc pc = .ok (.aastore, 1))
    (kk : ∀ (H : Heap) (locs : List Loc), sg_Wo D b cA n H0 (ur h a i.toNatClampNeg (q + 1)) H locs → W p l e R s m args below meth c H locs cells slots Q (F0 m (pc + 1) ls rest)) : W p l e R s m args below meth c H locs cells slots Q (F0 m pc ls (.ref (b + q) :: .int i :: .ref (b + a) :: rest)) := by
  subst hN
  obtain ⟨hx, hb, hown, hts, hK, -⟩ := hc
  refine va_astq (r := (RX6, TX6, 4)) hx hb hK hw.1 sg_ws_D hw.2.2 a 2 q 6 ((sg_ws_get ha).trans (by rw [sg_ce_ref hT])) rfl ((sg_ws_get hqn).trans (by rw [sg_ce_obj hTq (by decide)])) rfl hin hdg (fun H1 locs1 hP hD hS => ?_)
  rw [sg_ws_set (h' := ur h a i.toNatClampNeg (q + 1)) ha (fun k hk => sg_ce_ur hk) (by
    rw [sg_ce_ref hT]
    have e9 : (fun j => sg_rf b ((ur h a i.toNatClampNeg (q + 1)).2 a j)) = va_up (fun j => sg_rf b (h.2 a j)) i.toNatClampNeg (some (b + q)) := by
      funext j
      by_cases hj : j = i.toNatClampNeg
      · simp [ur, va_up, hj, sg_rf]
      · simp [ur, va_up, hj]
    rw [e9])] at hP
  refine kk H1 locs1 ⟨hP, fun x hx => ?_, hS⟩
  have h9 := hw.2.1 x hx
  by_cases hxa : x = a
  · subst hxa
    refine ⟨fun j hj hR hne => ?_, fun h7 => ?_, fun h12 j hj hne => ?_⟩
    · rw [hT] at hj
      exact absurd hj (Nat.not_lt_zero j)
    · rw [hT] at h7
      cases h7
    · have e0 : (ur h x i.toNatClampNeg (q + 1)).2 x j = if j = i.toNatClampNeg then q + 1 else h.2 x j := by simp [ur, va_up]
      rw [e0] at hne ⊢
      by_cases hj2 : j = i.toNatClampNeg
      · rw [if_pos hj2]
        exact ⟨hqn, hTq⟩
      · rw [if_neg hj2] at hne ⊢
        exact h9.2.2 h12 j hj hne
  · have e0 : (ur h a i.toNatClampNeg (q + 1)).2 x = h.2 x := by simp [ur, hxa]
    rw [e0]
    exact h9
theorem sg_alen (hc : sg_Cx p s m args c cc own D cA) (hw : sg_Wo D b cA n H0 h H locs) {a N : Nat} {v : Int32} (ha : a < n) (hT : sg_T a = 12) (hN : sg_N a = N) (hv : Int32.ofNat N = v) (hdg : decode cc pc = .ok (.arraylength, 1))
    (kk : W p l e R s m args below meth c H locs cells slots Q (F0 m (pc + 1) ls (.int v :: rest))) : W p l e R s m args below meth c H locs cells slots Q (F0 m pc ls (.ref (b + a) :: rest)) := by
  subst hN
  obtain ⟨hx, hb, hown, hts, hK, -⟩ := hc
  exact va_alen hx hb hK hw.1 a 2 ((sg_ws_get ha).trans (by rw [sg_ce_ref hT])) rfl hv hdg kk
theorem sg_copy (hc : sg_Cx p s m args c cc own D cA) (hw : sg_Wo D b cA n H0 h H locs) {nL : Nat} (hml : c.maxLocals = nL) {lv : List (Nat × Value)} (hl : lv_has ls nL lv) {q a index N0 N1 : Nat} {sp dp z : Int32} (hlink : Cond.methodLink own index arraycopyName ∈ sg_tbl) (hnat : Cond.native arraycopyName ∈ sg_tbl) (hstat : Cond.static arraycopyName ∈ sg_tbl) (hini : Cond.initialized "java/lang/System" ∈ sg_tbl)
    (hqn : q < n) (hTq : sg_T q = 11) (hNq : sg_N q = N0) (ha : a < n) (hT : sg_T a = 11) (hN : sg_N a = N1) (h1 : ¬ sp < 0) (h2 : ¬ dp < 0) (h3 : ¬ z < 0) (h4 : sp.toNatClampNeg + z.toNatClampNeg ≤ N0) (h5 : dp.toNatClampNeg + z.toNatClampNeg ≤ N1) (hfr : 1 ≤ R.frames) (hlo : (rest.map fun v => v.category).sum + (nativeFrameWords "java/lang/System" "arraycopy" 5 + 11) ≤ R.locals) (hdg : decode cc pc = .ok (.invokestatic index, 3))
    (kk : ∀ (H : Heap) (locs : List Loc), sg_Wo D b cA n H0 (uc h q a sp.toNatClampNeg dp.toNatClampNeg z.toNatClampNeg) H locs → W p l e R s m args below meth c H locs cells slots Q (F0 m (pc + 3) ls rest)) : W p l e R s m args below meth c H locs cells slots Q (F0 m pc ls (.int z :: .int dp :: .ref (b + a) :: .int sp :: .ref (b + q) :: rest)) := by
  subst hN
  subst hNq
  obtain ⟨hx, hb, hown, hts, hK, -⟩ := hc
  refine va_copyi (ty := .int) hx hb (by rw [hml]; exact hl.1.symm) hown (hts _ hlink) (hts _ hnat) (hts _ hstat) (hts _ hini) hK hw.1 sg_ws_D hw.2.2 q a 1 1 ((sg_ws_get hqn).trans (by rw [sg_ce_int hTq])) ((sg_ws_get ha).trans (by rw [sg_ce_int hT])) rfl rfl rfl h1 h2 h3 h4 h5 (fun _ _ => rfl) hfr hlo hdg (fun H1 locs1 hP hD hS => ?_)
  rw [sg_ws_set (h' := uc h q a sp.toNatClampNeg dp.toNatClampNeg z.toNatClampNeg) ha (fun k hk => sg_ce_uc hk) (by rw [sg_ce_int hT]; simp [uc])] at hP
  exact kk H1 locs1 ⟨hP, hw.2.1, hS⟩
end ROWS

theorem sg_in0 : ∀ w ∈ u_ws RX0 TX0 10, w ∈ sg_tbl := by decide +kernel
theorem sg_in1 : ∀ w ∈ u_ws RX1 TX1 11, w ∈ sg_tbl := by decide +kernel
theorem sg_in2 : ∀ w ∈ u_ws RX2 TX2 6, w ∈ sg_tbl := by decide +kernel
theorem sg_in3 : ∀ w ∈ u_ws RX3 TX3 2, w ∈ sg_tbl := by decide +kernel
theorem sg_in4 : ∀ w ∈ u_ws RX4 TX4 3, w ∈ sg_tbl := by decide +kernel
theorem sg_in5 : ∀ w ∈ u_ws RX5 TX5 12, w ∈ sg_tbl := by decide +kernel
theorem sg_in6 : ∀ w ∈ u_ws RX6 TX6 4, w ∈ sg_tbl := by decide +kernel
theorem sg_in7 : ∀ w ∈ u_ws RX7 TX7 12, w ∈ sg_tbl := by decide +kernel
theorem sg_in8 : ∀ w ∈ u_ws RX8 TX8 18, w ∈ sg_tbl := by decide +kernel
theorem sg_in9 : ∀ w ∈ u_ws RX9 TX9 28, w ∈ sg_tbl := by decide +kernel
theorem fi_0_0 : sg_Fi 0 0 RX0 TX0 10 := ⟨rfl, sg_in0, by decide, by decide, rfl⟩
theorem fp_0_0 : sg_Fp 0 0 RX0 TX0 10 tyX0 .int := ⟨fi_0_0, tyX0_ok, nmX0, rfl, by decide +kernel⟩
theorem fi_0_1 : sg_Fi 0 1 RX0 TX0 10 := ⟨rfl, sg_in0, by decide, by decide, rfl⟩
theorem fp_0_1 : sg_Fp 0 1 RX0 TX0 10 tyX0 .int := ⟨fi_0_1, tyX0_ok, nmX0, rfl, by decide +kernel⟩
theorem fr_0_2 : sg_Fr 0 2 RX0 TX0 10 := ⟨rfl, sg_in0, by decide, by decide, rfl⟩
theorem ft_0_2_a : ∀ a, a < 154 → sg_T a = 0 → sg_F a 2 = 15 ∧ sg_T (15) = 1 ∧ (15 < 154 ∧ (a < 133 → 15 < 133)) := by decide +kernel
theorem ft_0_2 {n a : Nat} (hn : sg_okN n) (ha : a < n) (hT : sg_T a = 0) : sg_F a 2 = 15 ∧ sg_T (15) = 1 ∧ 15 < n := by
  obtain ⟨h1, h2, ⟨h3, h4⟩⟩ := ft_0_2_a a (sg_okN_lt hn ha) hT
  exact ⟨h1, h2, sg_okN_in hn ha h3 h4⟩
theorem fr_0_3 : sg_Fr 0 3 RX0 TX0 10 := ⟨rfl, sg_in0, by decide, by decide, rfl⟩
theorem ft_0_3_a : ∀ a, a < 154 → sg_T a = 0 → sg_F a 3 = a + 5 ∧ sg_T (a + 5) = 7 ∧ (a + 5 < 154 ∧ (a < 133 → a + 5 < 133)) := by decide +kernel
theorem ft_0_3 {n a : Nat} (hn : sg_okN n) (ha : a < n) (hT : sg_T a = 0) : sg_F a 3 = a + 5 ∧ sg_T (a + 5) = 7 ∧ a + 5 < n := by
  obtain ⟨h1, h2, ⟨h3, h4⟩⟩ := ft_0_3_a a (sg_okN_lt hn ha) hT
  exact ⟨h1, h2, sg_okN_in hn ha h3 h4⟩
theorem fr_0_4 : sg_Fr 0 4 RX0 TX0 10 := ⟨rfl, sg_in0, by decide, by decide, rfl⟩
theorem ft_0_4_a : ∀ a, a < 154 → sg_T a = 0 → sg_F a 4 = a + 1 ∧ sg_T (a + 1) = 11 ∧ (a + 1 < 154 ∧ (a < 133 → a + 1 < 133)) ∧ sg_N (a + 1) = 6 := by decide +kernel
theorem ft_0_4 {n a : Nat} (hn : sg_okN n) (ha : a < n) (hT : sg_T a = 0) : sg_F a 4 = a + 1 ∧ sg_T (a + 1) = 11 ∧ a + 1 < n ∧ sg_N (a + 1) = 6 := by
  obtain ⟨h1, h2, ⟨h3, h4⟩, h5⟩ := ft_0_4_a a (sg_okN_lt hn ha) hT
  exact ⟨h1, h2, sg_okN_in hn ha h3 h4, h5⟩
theorem fr_0_5 : sg_Fr 0 5 RX0 TX0 10 := ⟨rfl, sg_in0, by decide, by decide, rfl⟩
theorem ft_0_5_a : ∀ a, a < 154 → sg_T a = 0 → sg_F a 5 = a + 2 ∧ sg_T (a + 2) = 11 ∧ (a + 2 < 154 ∧ (a < 133 → a + 2 < 133)) ∧ sg_N (a + 2) = 6 := by decide +kernel
theorem ft_0_5 {n a : Nat} (hn : sg_okN n) (ha : a < n) (hT : sg_T a = 0) : sg_F a 5 = a + 2 ∧ sg_T (a + 2) = 11 ∧ a + 2 < n ∧ sg_N (a + 2) = 6 := by
  obtain ⟨h1, h2, ⟨h3, h4⟩, h5⟩ := ft_0_5_a a (sg_okN_lt hn ha) hT
  exact ⟨h1, h2, sg_okN_in hn ha h3 h4, h5⟩
theorem fr_0_6 : sg_Fr 0 6 RX0 TX0 10 := ⟨rfl, sg_in0, by decide, by decide, rfl⟩
theorem ft_0_6_a : ∀ a, a < 154 → sg_T a = 0 → sg_F a 6 = a + 3 ∧ sg_T (a + 3) = 11 ∧ (a + 3 < 154 ∧ (a < 133 → a + 3 < 133)) ∧ sg_N (a + 3) = 6 := by decide +kernel
theorem ft_0_6 {n a : Nat} (hn : sg_okN n) (ha : a < n) (hT : sg_T a = 0) : sg_F a 6 = a + 3 ∧ sg_T (a + 3) = 11 ∧ a + 3 < n ∧ sg_N (a + 3) = 6 := by
  obtain ⟨h1, h2, ⟨h3, h4⟩, h5⟩ := ft_0_6_a a (sg_okN_lt hn ha) hT
  exact ⟨h1, h2, sg_okN_in hn ha h3 h4, h5⟩
theorem fr_0_7 : sg_Fr 0 7 RX0 TX0 10 := ⟨rfl, sg_in0, by decide, by decide, rfl⟩
theorem ft_0_7_a : ∀ a, a < 154 → sg_T a = 0 → sg_F a 7 = a + 4 ∧ sg_T (a + 4) = 11 ∧ (a + 4 < 154 ∧ (a < 133 → a + 4 < 133)) ∧ sg_N (a + 4) = 6 := by decide +kernel
theorem ft_0_7 {n a : Nat} (hn : sg_okN n) (ha : a < n) (hT : sg_T a = 0) : sg_F a 7 = a + 4 ∧ sg_T (a + 4) = 11 ∧ a + 4 < n ∧ sg_N (a + 4) = 6 := by
  obtain ⟨h1, h2, ⟨h3, h4⟩, h5⟩ := ft_0_7_a a (sg_okN_lt hn ha) hT
  exact ⟨h1, h2, sg_okN_in hn ha h3 h4, h5⟩
theorem fi_0_8 : sg_Fi 0 8 RX0 TX0 10 := ⟨rfl, sg_in0, by decide, by decide, rfl⟩
theorem fp_0_8 : sg_Fp 0 8 RX0 TX0 10 tyX0 .int := ⟨fi_0_8, tyX0_ok, nmX0, rfl, by decide +kernel⟩
theorem fi_0_9 : sg_Fi 0 9 RX0 TX0 10 := ⟨rfl, sg_in0, by decide, by decide, rfl⟩
theorem fp_0_9 : sg_Fp 0 9 RX0 TX0 10 tyX0 .int := ⟨fi_0_9, tyX0_ok, nmX0, rfl, by decide +kernel⟩
theorem fi_1_0 : sg_Fi 1 0 RX1 TX1 11 := ⟨rfl, sg_in1, by decide, by decide, rfl⟩
theorem fp_1_0 : sg_Fp 1 0 RX1 TX1 11 tyX1 .int := ⟨fi_1_0, tyX1_ok, nmX1, rfl, by decide +kernel⟩
theorem fi_1_1 : sg_Fi 1 1 RX1 TX1 11 := ⟨rfl, sg_in1, by decide, by decide, rfl⟩
theorem fp_1_1 : sg_Fp 1 1 RX1 TX1 11 tyX1 .int := ⟨fi_1_1, tyX1_ok, nmX1, rfl, by decide +kernel⟩
theorem fi_1_2 : sg_Fi 1 2 RX1 TX1 11 := ⟨rfl, sg_in1, by decide, by decide, rfl⟩
theorem fp_1_2 : sg_Fp 1 2 RX1 TX1 11 tyX1 .int := ⟨fi_1_2, tyX1_ok, nmX1, rfl, by decide +kernel⟩
theorem fi_1_3 : sg_Fi 1 3 RX1 TX1 11 := ⟨rfl, sg_in1, by decide, by decide, rfl⟩
theorem fp_1_3 : sg_Fp 1 3 RX1 TX1 11 tyX1 .int := ⟨fi_1_3, tyX1_ok, nmX1, rfl, by decide +kernel⟩
theorem fi_1_4 : sg_Fi 1 4 RX1 TX1 11 := ⟨rfl, sg_in1, by decide, by decide, rfl⟩
theorem fp_1_4 : sg_Fp 1 4 RX1 TX1 11 tyX1 .int := ⟨fi_1_4, tyX1_ok, nmX1, rfl, by decide +kernel⟩
theorem fr_1_5 : sg_Fr 1 5 RX1 TX1 11 := ⟨rfl, sg_in1, by decide, by decide, rfl⟩
theorem ft_1_5_a : ∀ a, a < 154 → sg_T a = 1 → sg_F a 5 = a + 1 ∧ sg_T (a + 1) = 11 ∧ (a + 1 < 154 ∧ (a < 133 → a + 1 < 133)) ∧ sg_N (a + 1) = 6 := by decide +kernel
theorem ft_1_5 {n a : Nat} (hn : sg_okN n) (ha : a < n) (hT : sg_T a = 1) : sg_F a 5 = a + 1 ∧ sg_T (a + 1) = 11 ∧ a + 1 < n ∧ sg_N (a + 1) = 6 := by
  obtain ⟨h1, h2, ⟨h3, h4⟩, h5⟩ := ft_1_5_a a (sg_okN_lt hn ha) hT
  exact ⟨h1, h2, sg_okN_in hn ha h3 h4, h5⟩
theorem fr_1_6 : sg_Fr 1 6 RX1 TX1 11 := ⟨rfl, sg_in1, by decide, by decide, rfl⟩
theorem ft_1_6_a : ∀ a, a < 154 → sg_T a = 1 → sg_F a 6 = a + 2 ∧ sg_T (a + 2) = 11 ∧ (a + 2 < 154 ∧ (a < 133 → a + 2 < 133)) ∧ sg_N (a + 2) = 6 := by decide +kernel
theorem ft_1_6 {n a : Nat} (hn : sg_okN n) (ha : a < n) (hT : sg_T a = 1) : sg_F a 6 = a + 2 ∧ sg_T (a + 2) = 11 ∧ a + 2 < n ∧ sg_N (a + 2) = 6 := by
  obtain ⟨h1, h2, ⟨h3, h4⟩, h5⟩ := ft_1_6_a a (sg_okN_lt hn ha) hT
  exact ⟨h1, h2, sg_okN_in hn ha h3 h4, h5⟩
theorem fr_1_7 : sg_Fr 1 7 RX1 TX1 11 := ⟨rfl, sg_in1, by decide, by decide, rfl⟩
theorem ft_1_7_a : ∀ a, a < 154 → sg_T a = 1 → sg_F a 7 = a + 3 ∧ sg_T (a + 3) = 11 ∧ (a + 3 < 154 ∧ (a < 133 → a + 3 < 133)) ∧ sg_N (a + 3) = 6 := by decide +kernel
theorem ft_1_7 {n a : Nat} (hn : sg_okN n) (ha : a < n) (hT : sg_T a = 1) : sg_F a 7 = a + 3 ∧ sg_T (a + 3) = 11 ∧ a + 3 < n ∧ sg_N (a + 3) = 6 := by
  obtain ⟨h1, h2, ⟨h3, h4⟩, h5⟩ := ft_1_7_a a (sg_okN_lt hn ha) hT
  exact ⟨h1, h2, sg_okN_in hn ha h3 h4, h5⟩
theorem fr_1_8 : sg_Fr 1 8 RX1 TX1 11 := ⟨rfl, sg_in1, by decide, by decide, rfl⟩
theorem ft_1_8_a : ∀ a, a < 154 → sg_T a = 1 → sg_F a 8 = a + 4 ∧ sg_T (a + 4) = 11 ∧ (a + 4 < 154 ∧ (a < 133 → a + 4 < 133)) ∧ sg_N (a + 4) = 6 := by decide +kernel
theorem ft_1_8 {n a : Nat} (hn : sg_okN n) (ha : a < n) (hT : sg_T a = 1) : sg_F a 8 = a + 4 ∧ sg_T (a + 4) = 11 ∧ a + 4 < n ∧ sg_N (a + 4) = 6 := by
  obtain ⟨h1, h2, ⟨h3, h4⟩, h5⟩ := ft_1_8_a a (sg_okN_lt hn ha) hT
  exact ⟨h1, h2, sg_okN_in hn ha h3 h4, h5⟩
theorem fr_1_9 : sg_Fr 1 9 RX1 TX1 11 := ⟨rfl, sg_in1, by decide, by decide, rfl⟩
theorem ft_1_9_a : ∀ a, a < 154 → sg_T a = 1 → sg_F a 9 = a + 5 ∧ sg_T (a + 5) = 11 ∧ (a + 5 < 154 ∧ (a < 133 → a + 5 < 133)) ∧ sg_N (a + 5) = 6 := by decide +kernel
theorem ft_1_9 {n a : Nat} (hn : sg_okN n) (ha : a < n) (hT : sg_T a = 1) : sg_F a 9 = a + 5 ∧ sg_T (a + 5) = 11 ∧ a + 5 < n ∧ sg_N (a + 5) = 6 := by
  obtain ⟨h1, h2, ⟨h3, h4⟩, h5⟩ := ft_1_9_a a (sg_okN_lt hn ha) hT
  exact ⟨h1, h2, sg_okN_in hn ha h3 h4, h5⟩
theorem fr_1_10 : sg_Fr 1 10 RX1 TX1 11 := ⟨rfl, sg_in1, by decide, by decide, rfl⟩
theorem ft_1_10_a : ∀ a, a < 154 → sg_T a = 1 → sg_F a 10 = a + 6 ∧ sg_T (a + 6) = 11 ∧ (a + 6 < 154 ∧ (a < 133 → a + 6 < 133)) ∧ sg_N (a + 6) = 120 := by decide +kernel
theorem ft_1_10 {n a : Nat} (hn : sg_okN n) (ha : a < n) (hT : sg_T a = 1) : sg_F a 10 = a + 6 ∧ sg_T (a + 6) = 11 ∧ a + 6 < n ∧ sg_N (a + 6) = 120 := by
  obtain ⟨h1, h2, ⟨h3, h4⟩, h5⟩ := ft_1_10_a a (sg_okN_lt hn ha) hT
  exact ⟨h1, h2, sg_okN_in hn ha h3 h4, h5⟩
theorem fi_2_0 : sg_Fi 2 0 RX2 TX2 6 := ⟨rfl, sg_in2, by decide, by decide, rfl⟩
theorem fp_2_0 : sg_Fp 2 0 RX2 TX2 6 tyX2 .int := ⟨fi_2_0, tyX2_ok, nmX2, rfl, by decide +kernel⟩
theorem fr_2_1 : sg_Fr 2 1 RX2 TX2 6 := ⟨rfl, sg_in2, by decide, by decide, rfl⟩
theorem ft_2_1_a : ∀ a, a < 154 → sg_T a = 2 → sg_F a 1 = a + 1 ∧ sg_T (a + 1) = 11 ∧ (a + 1 < 154 ∧ (a < 133 → a + 1 < 133)) ∧ sg_N (a + 1) = 6 := by decide +kernel
theorem ft_2_1 {n a : Nat} (hn : sg_okN n) (ha : a < n) (hT : sg_T a = 2) : sg_F a 1 = a + 1 ∧ sg_T (a + 1) = 11 ∧ a + 1 < n ∧ sg_N (a + 1) = 6 := by
  obtain ⟨h1, h2, ⟨h3, h4⟩, h5⟩ := ft_2_1_a a (sg_okN_lt hn ha) hT
  exact ⟨h1, h2, sg_okN_in hn ha h3 h4, h5⟩
theorem fr_2_2 : sg_Fr 2 2 RX2 TX2 6 := ⟨rfl, sg_in2, by decide, by decide, rfl⟩
theorem ft_2_2_a : ∀ a, a < 154 → sg_T a = 2 → sg_F a 2 = a + 2 ∧ sg_T (a + 2) = 11 ∧ (a + 2 < 154 ∧ (a < 133 → a + 2 < 133)) ∧ sg_N (a + 2) = 6 := by decide +kernel
theorem ft_2_2 {n a : Nat} (hn : sg_okN n) (ha : a < n) (hT : sg_T a = 2) : sg_F a 2 = a + 2 ∧ sg_T (a + 2) = 11 ∧ a + 2 < n ∧ sg_N (a + 2) = 6 := by
  obtain ⟨h1, h2, ⟨h3, h4⟩, h5⟩ := ft_2_2_a a (sg_okN_lt hn ha) hT
  exact ⟨h1, h2, sg_okN_in hn ha h3 h4, h5⟩
theorem fr_2_3 : sg_Fr 2 3 RX2 TX2 6 := ⟨rfl, sg_in2, by decide, by decide, rfl⟩
theorem ft_2_3_a : ∀ a, a < 154 → sg_T a = 2 → sg_F a 3 = 15 ∧ sg_T (15) = 1 ∧ (15 < 154 ∧ (a < 133 → 15 < 133)) := by decide +kernel
theorem ft_2_3 {n a : Nat} (hn : sg_okN n) (ha : a < n) (hT : sg_T a = 2) : sg_F a 3 = 15 ∧ sg_T (15) = 1 ∧ 15 < n := by
  obtain ⟨h1, h2, ⟨h3, h4⟩⟩ := ft_2_3_a a (sg_okN_lt hn ha) hT
  exact ⟨h1, h2, sg_okN_in hn ha h3 h4⟩
theorem fi_2_4 : sg_Fi 2 4 RX2 TX2 6 := ⟨rfl, sg_in2, by decide, by decide, rfl⟩
theorem fp_2_4 : sg_Fp 2 4 RX2 TX2 6 tyX2 .int := ⟨fi_2_4, tyX2_ok, nmX2, rfl, by decide +kernel⟩
theorem fi_2_5 : sg_Fi 2 5 RX2 TX2 6 := ⟨rfl, sg_in2, by decide, by decide, rfl⟩
theorem fp_2_5 : sg_Fp 2 5 RX2 TX2 6 tyX2 .int := ⟨fi_2_5, tyX2_ok, nmX2, rfl, by decide +kernel⟩
theorem fr_3_0 : sg_Fr 3 0 RX3 TX3 2 := ⟨rfl, sg_in3, by decide, by decide, rfl⟩
theorem ft_3_0_a : ∀ a, a < 154 → sg_T a = 3 → sg_F a 0 = a + 1 ∧ sg_T (a + 1) = 12 ∧ (a + 1 < 154 ∧ (a < 133 → a + 1 < 133)) := by decide +kernel
theorem ft_3_0 {n a : Nat} (hn : sg_okN n) (ha : a < n) (hT : sg_T a = 3) : sg_F a 0 = a + 1 ∧ sg_T (a + 1) = 12 ∧ a + 1 < n := by
  obtain ⟨h1, h2, ⟨h3, h4⟩⟩ := ft_3_0_a a (sg_okN_lt hn ha) hT
  exact ⟨h1, h2, sg_okN_in hn ha h3 h4⟩
theorem fi_3_1 : sg_Fi 3 1 RX3 TX3 2 := ⟨rfl, sg_in3, by decide, by decide, rfl⟩
theorem fp_3_1 : sg_Fp 3 1 RX3 TX3 2 tyX3 .int := ⟨fi_3_1, tyX3_ok, nmX3, rfl, by decide +kernel⟩
theorem fr_4_0 : sg_Fr 4 0 RX4 TX4 3 := ⟨rfl, sg_in4, by decide, by decide, rfl⟩
theorem ft_4_0_a : ∀ a, a < 154 → sg_T a = 4 → sg_F a 0 = a + 1 ∧ sg_T (a + 1) = 1 ∧ (a + 1 < 154 ∧ (a < 133 → a + 1 < 133)) := by decide +kernel
theorem ft_4_0 {n a : Nat} (hn : sg_okN n) (ha : a < n) (hT : sg_T a = 4) : sg_F a 0 = a + 1 ∧ sg_T (a + 1) = 1 ∧ a + 1 < n := by
  obtain ⟨h1, h2, ⟨h3, h4⟩⟩ := ft_4_0_a a (sg_okN_lt hn ha) hT
  exact ⟨h1, h2, sg_okN_in hn ha h3 h4⟩
theorem fr_4_1 : sg_Fr 4 1 RX4 TX4 3 := ⟨rfl, sg_in4, by decide, by decide, rfl⟩
theorem ft_4_1_a : ∀ a, a < 154 → sg_T a = 4 → sg_F a 1 = a + 8 ∧ sg_T (a + 8) = 6 ∧ (a + 8 < 154 ∧ (a < 133 → a + 8 < 133)) := by decide +kernel
theorem ft_4_1 {n a : Nat} (hn : sg_okN n) (ha : a < n) (hT : sg_T a = 4) : sg_F a 1 = a + 8 ∧ sg_T (a + 8) = 6 ∧ a + 8 < n := by
  obtain ⟨h1, h2, ⟨h3, h4⟩⟩ := ft_4_1_a a (sg_okN_lt hn ha) hT
  exact ⟨h1, h2, sg_okN_in hn ha h3 h4⟩
theorem fr_4_2 : sg_Fr 4 2 RX4 TX4 3 := ⟨rfl, sg_in4, by decide, by decide, rfl⟩
theorem ft_4_2_a : ∀ a, a < 154 → sg_T a = 4 → sg_F a 2 = a + 12 ∧ sg_T (a + 12) = 11 ∧ (a + 12 < 154 ∧ (a < 133 → a + 12 < 133)) ∧ sg_N (a + 12) = 3 := by decide +kernel
theorem ft_4_2 {n a : Nat} (hn : sg_okN n) (ha : a < n) (hT : sg_T a = 4) : sg_F a 2 = a + 12 ∧ sg_T (a + 12) = 11 ∧ a + 12 < n ∧ sg_N (a + 12) = 3 := by
  obtain ⟨h1, h2, ⟨h3, h4⟩, h5⟩ := ft_4_2_a a (sg_okN_lt hn ha) hT
  exact ⟨h1, h2, sg_okN_in hn ha h3 h4, h5⟩
theorem fi_5_0 : sg_Fi 5 0 RX5 TX5 12 := ⟨rfl, sg_in5, by decide, by decide, rfl⟩
theorem fp_5_0 : sg_Fp 5 0 RX5 TX5 12 tyX5 .int := ⟨fi_5_0, tyX5_ok, nmX5, rfl, by decide +kernel⟩
theorem fi_5_1 : sg_Fi 5 1 RX5 TX5 12 := ⟨rfl, sg_in5, by decide, by decide, rfl⟩
theorem fp_5_1 : sg_Fp 5 1 RX5 TX5 12 tyX5 .int := ⟨fi_5_1, tyX5_ok, nmX5, rfl, by decide +kernel⟩
theorem fi_5_2 : sg_Fi 5 2 RX5 TX5 12 := ⟨rfl, sg_in5, by decide, by decide, rfl⟩
theorem fp_5_2 : sg_Fp 5 2 RX5 TX5 12 tyX5 .int := ⟨fi_5_2, tyX5_ok, nmX5, rfl, by decide +kernel⟩
theorem fi_5_3 : sg_Fi 5 3 RX5 TX5 12 := ⟨rfl, sg_in5, by decide, by decide, rfl⟩
theorem fp_5_3 : sg_Fp 5 3 RX5 TX5 12 tyX5 .int := ⟨fi_5_3, tyX5_ok, nmX5, rfl, by decide +kernel⟩
theorem fi_5_4 : sg_Fi 5 4 RX5 TX5 12 := ⟨rfl, sg_in5, by decide, by decide, rfl⟩
theorem fp_5_4 : sg_Fp 5 4 RX5 TX5 12 tyX5 .int := ⟨fi_5_4, tyX5_ok, nmX5, rfl, by decide +kernel⟩
theorem fi_5_5 : sg_Fi 5 5 RX5 TX5 12 := ⟨rfl, sg_in5, by decide, by decide, rfl⟩
theorem fp_5_5 : sg_Fp 5 5 RX5 TX5 12 tyX5 .boolean := ⟨fi_5_5, tyX5_ok, nmX5, rfl, by decide +kernel⟩
theorem fr_5_6 : sg_Fr 5 6 RX5 TX5 12 := ⟨rfl, sg_in5, by decide, by decide, rfl⟩
theorem ft_5_6_a : ∀ a, a < 154 → sg_T a = 5 → sg_F a 6 = 15 ∧ sg_T (15) = 1 ∧ (15 < 154 ∧ (a < 133 → 15 < 133)) := by decide +kernel
theorem ft_5_6 {n a : Nat} (hn : sg_okN n) (ha : a < n) (hT : sg_T a = 5) : sg_F a 6 = 15 ∧ sg_T (15) = 1 ∧ 15 < n := by
  obtain ⟨h1, h2, ⟨h3, h4⟩⟩ := ft_5_6_a a (sg_okN_lt hn ha) hT
  exact ⟨h1, h2, sg_okN_in hn ha h3 h4⟩
theorem fr_5_7 : sg_Fr 5 7 RX5 TX5 12 := ⟨rfl, sg_in5, by decide, by decide, rfl⟩
theorem ft_5_7_a : ∀ a, a < 154 → sg_T a = 5 → sg_F a 7 = 79 ∧ sg_T (79) = 11 ∧ (79 < 154 ∧ (a < 133 → 79 < 133)) ∧ sg_N (79) = 120 := by decide +kernel
theorem ft_5_7 {n a : Nat} (hn : sg_okN n) (ha : a < n) (hT : sg_T a = 5) : sg_F a 7 = 79 ∧ sg_T (79) = 11 ∧ 79 < n ∧ sg_N (79) = 120 := by
  obtain ⟨h1, h2, ⟨h3, h4⟩, h5⟩ := ft_5_7_a a (sg_okN_lt hn ha) hT
  exact ⟨h1, h2, sg_okN_in hn ha h3 h4, h5⟩
theorem fr_5_8 : sg_Fr 5 8 RX5 TX5 12 := ⟨rfl, sg_in5, by decide, by decide, rfl⟩
theorem ft_5_8_a : ∀ a, a < 154 → sg_T a = 5 → sg_F a 8 = a + 2 ∧ sg_T (a + 2) = 7 ∧ (a + 2 < 154 ∧ (a < 133 → a + 2 < 133)) := by decide +kernel
theorem ft_5_8 {n a : Nat} (hn : sg_okN n) (ha : a < n) (hT : sg_T a = 5) : sg_F a 8 = a + 2 ∧ sg_T (a + 2) = 7 ∧ a + 2 < n := by
  obtain ⟨h1, h2, ⟨h3, h4⟩⟩ := ft_5_8_a a (sg_okN_lt hn ha) hT
  exact ⟨h1, h2, sg_okN_in hn ha h3 h4⟩
theorem fr_5_9 : sg_Fr 5 9 RX5 TX5 12 := ⟨rfl, sg_in5, by decide, by decide, rfl⟩
theorem ft_5_9_a : ∀ a, a < 154 → sg_T a = 5 → sg_F a 9 = a + 9 ∧ sg_T (a + 9) = 7 ∧ (a + 9 < 154 ∧ (a < 133 → a + 9 < 133)) := by decide +kernel
theorem ft_5_9 {n a : Nat} (hn : sg_okN n) (ha : a < n) (hT : sg_T a = 5) : sg_F a 9 = a + 9 ∧ sg_T (a + 9) = 7 ∧ a + 9 < n := by
  obtain ⟨h1, h2, ⟨h3, h4⟩⟩ := ft_5_9_a a (sg_okN_lt hn ha) hT
  exact ⟨h1, h2, sg_okN_in hn ha h3 h4⟩
theorem fr_5_10 : sg_Fr 5 10 RX5 TX5 12 := ⟨rfl, sg_in5, by decide, by decide, rfl⟩
theorem ft_5_10_a : ∀ a, a < 154 → sg_T a = 5 → sg_F a 10 = a + 16 ∧ sg_T (a + 16) = 7 ∧ (a + 16 < 154 ∧ (a < 133 → a + 16 < 133)) := by decide +kernel
theorem ft_5_10 {n a : Nat} (hn : sg_okN n) (ha : a < n) (hT : sg_T a = 5) : sg_F a 10 = a + 16 ∧ sg_T (a + 16) = 7 ∧ a + 16 < n := by
  obtain ⟨h1, h2, ⟨h3, h4⟩⟩ := ft_5_10_a a (sg_okN_lt hn ha) hT
  exact ⟨h1, h2, sg_okN_in hn ha h3 h4⟩
theorem fr_5_11 : sg_Fr 5 11 RX5 TX5 12 := ⟨rfl, sg_in5, by decide, by decide, rfl⟩
theorem ft_5_11_a : ∀ a, a < 154 → sg_T a = 5 → sg_F a 11 = a + 1 ∧ sg_T (a + 1) = 11 ∧ (a + 1 < 154 ∧ (a < 133 → a + 1 < 133)) ∧ sg_N (a + 1) = 121 := by decide +kernel
theorem ft_5_11 {n a : Nat} (hn : sg_okN n) (ha : a < n) (hT : sg_T a = 5) : sg_F a 11 = a + 1 ∧ sg_T (a + 1) = 11 ∧ a + 1 < n ∧ sg_N (a + 1) = 121 := by
  obtain ⟨h1, h2, ⟨h3, h4⟩, h5⟩ := ft_5_11_a a (sg_okN_lt hn ha) hT
  exact ⟨h1, h2, sg_okN_in hn ha h3 h4, h5⟩
theorem fi_6_0 : sg_Fi 6 0 RX6 TX6 4 := ⟨rfl, sg_in6, by decide, by decide, rfl⟩
theorem fp_6_0 : sg_Fp 6 0 RX6 TX6 4 tyX6 .int := ⟨fi_6_0, tyX6_ok, nmX6, rfl, by decide +kernel⟩
theorem fr_6_1 : sg_Fr 6 1 RX6 TX6 4 := ⟨rfl, sg_in6, by decide, by decide, rfl⟩
theorem ft_6_1_a : ∀ a, a < 154 → sg_T a = 6 → sg_F a 1 = a + 1 ∧ sg_T (a + 1) = 11 ∧ (a + 1 < 154 ∧ (a < 133 → a + 1 < 133)) ∧ sg_N (a + 1) = 9 := by decide +kernel
theorem ft_6_1 {n a : Nat} (hn : sg_okN n) (ha : a < n) (hT : sg_T a = 6) : sg_F a 1 = a + 1 ∧ sg_T (a + 1) = 11 ∧ a + 1 < n ∧ sg_N (a + 1) = 9 := by
  obtain ⟨h1, h2, ⟨h3, h4⟩, h5⟩ := ft_6_1_a a (sg_okN_lt hn ha) hT
  exact ⟨h1, h2, sg_okN_in hn ha h3 h4, h5⟩
theorem fr_6_2 : sg_Fr 6 2 RX6 TX6 4 := ⟨rfl, sg_in6, by decide, by decide, rfl⟩
theorem ft_6_2_a : ∀ a, a < 154 → sg_T a = 6 → sg_F a 2 = a + 2 ∧ sg_T (a + 2) = 11 ∧ (a + 2 < 154 ∧ (a < 133 → a + 2 < 133)) ∧ sg_N (a + 2) = 9 := by decide +kernel
theorem ft_6_2 {n a : Nat} (hn : sg_okN n) (ha : a < n) (hT : sg_T a = 6) : sg_F a 2 = a + 2 ∧ sg_T (a + 2) = 11 ∧ a + 2 < n ∧ sg_N (a + 2) = 9 := by
  obtain ⟨h1, h2, ⟨h3, h4⟩, h5⟩ := ft_6_2_a a (sg_okN_lt hn ha) hT
  exact ⟨h1, h2, sg_okN_in hn ha h3 h4, h5⟩
theorem fr_6_3 : sg_Fr 6 3 RX6 TX6 4 := ⟨rfl, sg_in6, by decide, by decide, rfl⟩
theorem ft_6_3_a : ∀ a, a < 154 → sg_T a = 6 → sg_F a 3 = a + 3 ∧ sg_T (a + 3) = 11 ∧ (a + 3 < 154 ∧ (a < 133 → a + 3 < 133)) ∧ sg_N (a + 3) = 9 := by decide +kernel
theorem ft_6_3 {n a : Nat} (hn : sg_okN n) (ha : a < n) (hT : sg_T a = 6) : sg_F a 3 = a + 3 ∧ sg_T (a + 3) = 11 ∧ a + 3 < n ∧ sg_N (a + 3) = 9 := by
  obtain ⟨h1, h2, ⟨h3, h4⟩, h5⟩ := ft_6_3_a a (sg_okN_lt hn ha) hT
  exact ⟨h1, h2, sg_okN_in hn ha h3 h4, h5⟩
theorem fr_7_0 : sg_Fr 7 0 RX7 TX7 12 := ⟨rfl, sg_in7, by decide, by decide, rfl⟩
theorem fi_7_1 : sg_Fi 7 1 RX7 TX7 12 := ⟨rfl, sg_in7, by decide, by decide, rfl⟩
theorem fp_7_1 : sg_Fp 7 1 RX7 TX7 12 tyX7 .int := ⟨fi_7_1, tyX7_ok, nmX7, rfl, by decide +kernel⟩
theorem fi_7_2 : sg_Fi 7 2 RX7 TX7 12 := ⟨rfl, sg_in7, by decide, by decide, rfl⟩
theorem fp_7_2 : sg_Fp 7 2 RX7 TX7 12 tyX7 .int := ⟨fi_7_2, tyX7_ok, nmX7, rfl, by decide +kernel⟩
theorem fi_7_3 : sg_Fi 7 3 RX7 TX7 12 := ⟨rfl, sg_in7, by decide, by decide, rfl⟩
theorem fp_7_3 : sg_Fp 7 3 RX7 TX7 12 tyX7 .int := ⟨fi_7_3, tyX7_ok, nmX7, rfl, by decide +kernel⟩
theorem fi_7_4 : sg_Fi 7 4 RX7 TX7 12 := ⟨rfl, sg_in7, by decide, by decide, rfl⟩
theorem fp_7_4 : sg_Fp 7 4 RX7 TX7 12 tyX7 .int := ⟨fi_7_4, tyX7_ok, nmX7, rfl, by decide +kernel⟩
theorem fi_7_5 : sg_Fi 7 5 RX7 TX7 12 := ⟨rfl, sg_in7, by decide, by decide, rfl⟩
theorem fp_7_5 : sg_Fp 7 5 RX7 TX7 12 tyX7 .int := ⟨fi_7_5, tyX7_ok, nmX7, rfl, by decide +kernel⟩
theorem fr_7_6 : sg_Fr 7 6 RX7 TX7 12 := ⟨rfl, sg_in7, by decide, by decide, rfl⟩
theorem ft_7_6_a : ∀ a, a < 154 → sg_T a = 7 → sg_F a 6 = a + 1 ∧ sg_T (a + 1) = 11 ∧ (a + 1 < 154 ∧ (a < 133 → a + 1 < 133)) ∧ sg_N (a + 1) = 6 := by decide +kernel
theorem ft_7_6 {n a : Nat} (hn : sg_okN n) (ha : a < n) (hT : sg_T a = 7) : sg_F a 6 = a + 1 ∧ sg_T (a + 1) = 11 ∧ a + 1 < n ∧ sg_N (a + 1) = 6 := by
  obtain ⟨h1, h2, ⟨h3, h4⟩, h5⟩ := ft_7_6_a a (sg_okN_lt hn ha) hT
  exact ⟨h1, h2, sg_okN_in hn ha h3 h4, h5⟩
theorem fr_7_7 : sg_Fr 7 7 RX7 TX7 12 := ⟨rfl, sg_in7, by decide, by decide, rfl⟩
theorem ft_7_7_a : ∀ a, a < 154 → sg_T a = 7 → sg_F a 7 = a + 2 ∧ sg_T (a + 2) = 11 ∧ (a + 2 < 154 ∧ (a < 133 → a + 2 < 133)) ∧ sg_N (a + 2) = 6 := by decide +kernel
theorem ft_7_7 {n a : Nat} (hn : sg_okN n) (ha : a < n) (hT : sg_T a = 7) : sg_F a 7 = a + 2 ∧ sg_T (a + 2) = 11 ∧ a + 2 < n ∧ sg_N (a + 2) = 6 := by
  obtain ⟨h1, h2, ⟨h3, h4⟩, h5⟩ := ft_7_7_a a (sg_okN_lt hn ha) hT
  exact ⟨h1, h2, sg_okN_in hn ha h3 h4, h5⟩
theorem fr_7_8 : sg_Fr 7 8 RX7 TX7 12 := ⟨rfl, sg_in7, by decide, by decide, rfl⟩
theorem ft_7_8_a : ∀ a, a < 154 → sg_T a = 7 → sg_F a 8 = a + 3 ∧ sg_T (a + 3) = 11 ∧ (a + 3 < 154 ∧ (a < 133 → a + 3 < 133)) ∧ sg_N (a + 3) = 6 := by decide +kernel
theorem ft_7_8 {n a : Nat} (hn : sg_okN n) (ha : a < n) (hT : sg_T a = 7) : sg_F a 8 = a + 3 ∧ sg_T (a + 3) = 11 ∧ a + 3 < n ∧ sg_N (a + 3) = 6 := by
  obtain ⟨h1, h2, ⟨h3, h4⟩, h5⟩ := ft_7_8_a a (sg_okN_lt hn ha) hT
  exact ⟨h1, h2, sg_okN_in hn ha h3 h4, h5⟩
theorem fr_7_9 : sg_Fr 7 9 RX7 TX7 12 := ⟨rfl, sg_in7, by decide, by decide, rfl⟩
theorem ft_7_9_a : ∀ a, a < 154 → sg_T a = 7 → sg_F a 9 = a + 4 ∧ sg_T (a + 4) = 11 ∧ (a + 4 < 154 ∧ (a < 133 → a + 4 < 133)) ∧ sg_N (a + 4) = 6 := by decide +kernel
theorem ft_7_9 {n a : Nat} (hn : sg_okN n) (ha : a < n) (hT : sg_T a = 7) : sg_F a 9 = a + 4 ∧ sg_T (a + 4) = 11 ∧ a + 4 < n ∧ sg_N (a + 4) = 6 := by
  obtain ⟨h1, h2, ⟨h3, h4⟩, h5⟩ := ft_7_9_a a (sg_okN_lt hn ha) hT
  exact ⟨h1, h2, sg_okN_in hn ha h3 h4, h5⟩
theorem fr_7_10 : sg_Fr 7 10 RX7 TX7 12 := ⟨rfl, sg_in7, by decide, by decide, rfl⟩
theorem ft_7_10_a : ∀ a, a < 154 → sg_T a = 7 → sg_F a 10 = a + 5 ∧ sg_T (a + 5) = 11 ∧ (a + 5 < 154 ∧ (a < 133 → a + 5 < 133)) ∧ sg_N (a + 5) = 120 := by decide +kernel
theorem ft_7_10 {n a : Nat} (hn : sg_okN n) (ha : a < n) (hT : sg_T a = 7) : sg_F a 10 = a + 5 ∧ sg_T (a + 5) = 11 ∧ a + 5 < n ∧ sg_N (a + 5) = 120 := by
  obtain ⟨h1, h2, ⟨h3, h4⟩, h5⟩ := ft_7_10_a a (sg_okN_lt hn ha) hT
  exact ⟨h1, h2, sg_okN_in hn ha h3 h4, h5⟩
theorem fr_7_11 : sg_Fr 7 11 RX7 TX7 12 := ⟨rfl, sg_in7, by decide, by decide, rfl⟩
theorem ft_7_11_a : ∀ a, a < 154 → sg_T a = 7 → sg_F a 11 = a + 6 ∧ sg_T (a + 6) = 11 ∧ (a + 6 < 154 ∧ (a < 133 → a + 6 < 133)) ∧ sg_N (a + 6) = 6 := by decide +kernel
theorem ft_7_11 {n a : Nat} (hn : sg_okN n) (ha : a < n) (hT : sg_T a = 7) : sg_F a 11 = a + 6 ∧ sg_T (a + 6) = 11 ∧ a + 6 < n ∧ sg_N (a + 6) = 6 := by
  obtain ⟨h1, h2, ⟨h3, h4⟩, h5⟩ := ft_7_11_a a (sg_okN_lt hn ha) hT
  exact ⟨h1, h2, sg_okN_in hn ha h3 h4, h5⟩
theorem fr_8_0 : sg_Fr 8 0 RX8 TX8 18 := ⟨rfl, sg_in8, by decide, by decide, rfl⟩
theorem ft_8_0_a : ∀ a, a < 154 → sg_T a = 8 → sg_F a 0 = a + 1 ∧ sg_T (a + 1) = 10 ∧ (a + 1 < 154 ∧ (a < 133 → a + 1 < 133)) ∧ sg_N (a + 1) = 200 := by decide +kernel
theorem ft_8_0 {n a : Nat} (hn : sg_okN n) (ha : a < n) (hT : sg_T a = 8) : sg_F a 0 = a + 1 ∧ sg_T (a + 1) = 10 ∧ a + 1 < n ∧ sg_N (a + 1) = 200 := by
  obtain ⟨h1, h2, ⟨h3, h4⟩, h5⟩ := ft_8_0_a a (sg_okN_lt hn ha) hT
  exact ⟨h1, h2, sg_okN_in hn ha h3 h4, h5⟩
theorem fi_8_1 : sg_Fi 8 1 RX8 TX8 18 := ⟨rfl, sg_in8, by decide, by decide, rfl⟩
theorem fp_8_1 : sg_Fp 8 1 RX8 TX8 18 tyX8 .int := ⟨fi_8_1, tyX8_ok, nmX8, rfl, by decide +kernel⟩
theorem fr_8_2 : sg_Fr 8 2 RX8 TX8 18 := ⟨rfl, sg_in8, by decide, by decide, rfl⟩
theorem ft_8_2_a : ∀ a, a < 154 → sg_T a = 8 → sg_F a 2 = a + 2 ∧ sg_T (a + 2) = 4 ∧ (a + 2 < 154 ∧ (a < 133 → a + 2 < 133)) := by decide +kernel
theorem ft_8_2 {n a : Nat} (hn : sg_okN n) (ha : a < n) (hT : sg_T a = 8) : sg_F a 2 = a + 2 ∧ sg_T (a + 2) = 4 ∧ a + 2 < n := by
  obtain ⟨h1, h2, ⟨h3, h4⟩⟩ := ft_8_2_a a (sg_okN_lt hn ha) hT
  exact ⟨h1, h2, sg_okN_in hn ha h3 h4⟩
theorem fr_8_3 : sg_Fr 8 3 RX8 TX8 18 := ⟨rfl, sg_in8, by decide, by decide, rfl⟩
theorem ft_8_3_a : ∀ a, a < 154 → sg_T a = 8 → sg_F a 3 = a + 15 ∧ sg_T (a + 15) = 1 ∧ (a + 15 < 154 ∧ (a < 133 → a + 15 < 133)) := by decide +kernel
theorem ft_8_3 {n a : Nat} (hn : sg_okN n) (ha : a < n) (hT : sg_T a = 8) : sg_F a 3 = a + 15 ∧ sg_T (a + 15) = 1 ∧ a + 15 < n := by
  obtain ⟨h1, h2, ⟨h3, h4⟩⟩ := ft_8_3_a a (sg_okN_lt hn ha) hT
  exact ⟨h1, h2, sg_okN_in hn ha h3 h4⟩
theorem fr_8_4 : sg_Fr 8 4 RX8 TX8 18 := ⟨rfl, sg_in8, by decide, by decide, rfl⟩
theorem ft_8_4_a : ∀ a, a < 154 → sg_T a = 8 → sg_F a 4 = a + 22 ∧ sg_T (a + 22) = 1 ∧ (a + 22 < 154 ∧ (a < 133 → a + 22 < 133)) := by decide +kernel
theorem ft_8_4 {n a : Nat} (hn : sg_okN n) (ha : a < n) (hT : sg_T a = 8) : sg_F a 4 = a + 22 ∧ sg_T (a + 22) = 1 ∧ a + 22 < n := by
  obtain ⟨h1, h2, ⟨h3, h4⟩⟩ := ft_8_4_a a (sg_okN_lt hn ha) hT
  exact ⟨h1, h2, sg_okN_in hn ha h3 h4⟩
theorem fr_8_5 : sg_Fr 8 5 RX8 TX8 18 := ⟨rfl, sg_in8, by decide, by decide, rfl⟩
theorem ft_8_5_a : ∀ a, a < 154 → sg_T a = 8 → sg_F a 5 = a + 29 ∧ sg_T (a + 29) = 6 ∧ (a + 29 < 154 ∧ (a < 133 → a + 29 < 133)) := by decide +kernel
theorem ft_8_5 {n a : Nat} (hn : sg_okN n) (ha : a < n) (hT : sg_T a = 8) : sg_F a 5 = a + 29 ∧ sg_T (a + 29) = 6 ∧ a + 29 < n := by
  obtain ⟨h1, h2, ⟨h3, h4⟩⟩ := ft_8_5_a a (sg_okN_lt hn ha) hT
  exact ⟨h1, h2, sg_okN_in hn ha h3 h4⟩
theorem fr_8_6 : sg_Fr 8 6 RX8 TX8 18 := ⟨rfl, sg_in8, by decide, by decide, rfl⟩
theorem ft_8_6_a : ∀ a, a < 154 → sg_T a = 8 → sg_F a 6 = a + 33 ∧ sg_T (a + 33) = 3 ∧ (a + 33 < 154 ∧ (a < 133 → a + 33 < 133)) := by decide +kernel
theorem ft_8_6 {n a : Nat} (hn : sg_okN n) (ha : a < n) (hT : sg_T a = 8) : sg_F a 6 = a + 33 ∧ sg_T (a + 33) = 3 ∧ a + 33 < n := by
  obtain ⟨h1, h2, ⟨h3, h4⟩⟩ := ft_8_6_a a (sg_okN_lt hn ha) hT
  exact ⟨h1, h2, sg_okN_in hn ha h3 h4⟩
theorem fr_8_7 : sg_Fr 8 7 RX8 TX8 18 := ⟨rfl, sg_in8, by decide, by decide, rfl⟩
theorem ft_8_7_a : ∀ a, a < 154 → sg_T a = 8 → sg_F a 7 = a + 67 ∧ sg_T (a + 67) = 3 ∧ (a + 67 < 154 ∧ (a < 133 → a + 67 < 133)) := by decide +kernel
theorem ft_8_7 {n a : Nat} (hn : sg_okN n) (ha : a < n) (hT : sg_T a = 8) : sg_F a 7 = a + 67 ∧ sg_T (a + 67) = 3 ∧ a + 67 < n := by
  obtain ⟨h1, h2, ⟨h3, h4⟩⟩ := ft_8_7_a a (sg_okN_lt hn ha) hT
  exact ⟨h1, h2, sg_okN_in hn ha h3 h4⟩
theorem fr_8_8 : sg_Fr 8 8 RX8 TX8 18 := ⟨rfl, sg_in8, by decide, by decide, rfl⟩
theorem ft_8_8_a : ∀ a, a < 154 → sg_T a = 8 → sg_F a 8 = a + 77 ∧ sg_T (a + 77) = 11 ∧ (a + 77 < 154 ∧ (a < 133 → a + 77 < 133)) ∧ sg_N (a + 77) = 8 := by decide +kernel
theorem ft_8_8 {n a : Nat} (hn : sg_okN n) (ha : a < n) (hT : sg_T a = 8) : sg_F a 8 = a + 77 ∧ sg_T (a + 77) = 11 ∧ a + 77 < n ∧ sg_N (a + 77) = 8 := by
  obtain ⟨h1, h2, ⟨h3, h4⟩, h5⟩ := ft_8_8_a a (sg_okN_lt hn ha) hT
  exact ⟨h1, h2, sg_okN_in hn ha h3 h4, h5⟩
theorem fr_8_9 : sg_Fr 8 9 RX8 TX8 18 := ⟨rfl, sg_in8, by decide, by decide, rfl⟩
theorem ft_8_9_a : ∀ a, a < 154 → sg_T a = 8 → sg_F a 9 = a + 78 ∧ sg_T (a + 78) = 11 ∧ (a + 78 < 154 ∧ (a < 133 → a + 78 < 133)) ∧ sg_N (a + 78) = 8 := by decide +kernel
theorem ft_8_9 {n a : Nat} (hn : sg_okN n) (ha : a < n) (hT : sg_T a = 8) : sg_F a 9 = a + 78 ∧ sg_T (a + 78) = 11 ∧ a + 78 < n ∧ sg_N (a + 78) = 8 := by
  obtain ⟨h1, h2, ⟨h3, h4⟩, h5⟩ := ft_8_9_a a (sg_okN_lt hn ha) hT
  exact ⟨h1, h2, sg_okN_in hn ha h3 h4, h5⟩
theorem fi_8_10 : sg_Fi 8 10 RX8 TX8 18 := ⟨rfl, sg_in8, by decide, by decide, rfl⟩
theorem fp_8_10 : sg_Fp 8 10 RX8 TX8 18 tyX8 .int := ⟨fi_8_10, tyX8_ok, nmX8, rfl, by decide +kernel⟩
theorem fr_8_11 : sg_Fr 8 11 RX8 TX8 18 := ⟨rfl, sg_in8, by decide, by decide, rfl⟩
theorem ft_8_11_a : ∀ a, a < 154 → sg_T a = 8 → sg_F a 11 = a + 79 ∧ sg_T (a + 79) = 11 ∧ (a + 79 < 154 ∧ (a < 133 → a + 79 < 133)) ∧ sg_N (a + 79) = 120 := by decide +kernel
theorem ft_8_11 {n a : Nat} (hn : sg_okN n) (ha : a < n) (hT : sg_T a = 8) : sg_F a 11 = a + 79 ∧ sg_T (a + 79) = 11 ∧ a + 79 < n ∧ sg_N (a + 79) = 120 := by
  obtain ⟨h1, h2, ⟨h3, h4⟩, h5⟩ := ft_8_11_a a (sg_okN_lt hn ha) hT
  exact ⟨h1, h2, sg_okN_in hn ha h3 h4, h5⟩
theorem fr_8_12 : sg_Fr 8 12 RX8 TX8 18 := ⟨rfl, sg_in8, by decide, by decide, rfl⟩
theorem ft_8_12_a : ∀ a, a < 154 → sg_T a = 8 → sg_F a 12 = a + 80 ∧ sg_T (a + 80) = 11 ∧ (a + 80 < 154 ∧ (a < 133 → a + 80 < 133)) ∧ sg_N (a + 80) = 120 := by decide +kernel
theorem ft_8_12 {n a : Nat} (hn : sg_okN n) (ha : a < n) (hT : sg_T a = 8) : sg_F a 12 = a + 80 ∧ sg_T (a + 80) = 11 ∧ a + 80 < n ∧ sg_N (a + 80) = 120 := by
  obtain ⟨h1, h2, ⟨h3, h4⟩, h5⟩ := ft_8_12_a a (sg_okN_lt hn ha) hT
  exact ⟨h1, h2, sg_okN_in hn ha h3 h4, h5⟩
theorem fr_8_13 : sg_Fr 8 13 RX8 TX8 18 := ⟨rfl, sg_in8, by decide, by decide, rfl⟩
theorem ft_8_13_a : ∀ a, a < 154 → sg_T a = 8 → sg_F a 13 = a + 81 ∧ sg_T (a + 81) = 7 ∧ (a + 81 < 154 ∧ (a < 133 → a + 81 < 133)) := by decide +kernel
theorem ft_8_13 {n a : Nat} (hn : sg_okN n) (ha : a < n) (hT : sg_T a = 8) : sg_F a 13 = a + 81 ∧ sg_T (a + 81) = 7 ∧ a + 81 < n := by
  obtain ⟨h1, h2, ⟨h3, h4⟩⟩ := ft_8_13_a a (sg_okN_lt hn ha) hT
  exact ⟨h1, h2, sg_okN_in hn ha h3 h4⟩
theorem fr_8_14 : sg_Fr 8 14 RX8 TX8 18 := ⟨rfl, sg_in8, by decide, by decide, rfl⟩
theorem ft_8_14_a : ∀ a, a < 154 → sg_T a = 8 → sg_F a 14 = a + 88 ∧ sg_T (a + 88) = 7 ∧ (a + 88 < 154 ∧ (a < 133 → a + 88 < 133)) := by decide +kernel
theorem ft_8_14 {n a : Nat} (hn : sg_okN n) (ha : a < n) (hT : sg_T a = 8) : sg_F a 14 = a + 88 ∧ sg_T (a + 88) = 7 ∧ a + 88 < n := by
  obtain ⟨h1, h2, ⟨h3, h4⟩⟩ := ft_8_14_a a (sg_okN_lt hn ha) hT
  exact ⟨h1, h2, sg_okN_in hn ha h3 h4⟩
theorem fr_8_15 : sg_Fr 8 15 RX8 TX8 18 := ⟨rfl, sg_in8, by decide, by decide, rfl⟩
theorem ft_8_15_a : ∀ a, a < 154 → sg_T a = 8 → sg_F a 15 = a + 95 ∧ sg_T (a + 95) = 5 ∧ (a + 95 < 154 ∧ (a < 133 → a + 95 < 133)) := by decide +kernel
theorem ft_8_15 {n a : Nat} (hn : sg_okN n) (ha : a < n) (hT : sg_T a = 8) : sg_F a 15 = a + 95 ∧ sg_T (a + 95) = 5 ∧ a + 95 < n := by
  obtain ⟨h1, h2, ⟨h3, h4⟩⟩ := ft_8_15_a a (sg_okN_lt hn ha) hT
  exact ⟨h1, h2, sg_okN_in hn ha h3 h4⟩
theorem fr_8_16 : sg_Fr 8 16 RX8 TX8 18 := ⟨rfl, sg_in8, by decide, by decide, rfl⟩
theorem ft_8_16_a : ∀ a, a < 154 → sg_T a = 8 → sg_F a 16 = a + 118 ∧ sg_T (a + 118) = 2 ∧ (a + 118 < 154 ∧ (a < 133 → a + 118 < 133)) := by decide +kernel
theorem ft_8_16 {n a : Nat} (hn : sg_okN n) (ha : a < n) (hT : sg_T a = 8) : sg_F a 16 = a + 118 ∧ sg_T (a + 118) = 2 ∧ a + 118 < n := by
  obtain ⟨h1, h2, ⟨h3, h4⟩⟩ := ft_8_16_a a (sg_okN_lt hn ha) hT
  exact ⟨h1, h2, sg_okN_in hn ha h3 h4⟩
theorem fr_8_17 : sg_Fr 8 17 RX8 TX8 18 := ⟨rfl, sg_in8, by decide, by decide, rfl⟩
theorem ft_8_17_a : ∀ a, a < 154 → sg_T a = 8 → sg_F a 17 = a + 121 ∧ sg_T (a + 121) = 0 ∧ (a + 121 < 154 ∧ (a < 133 → a + 121 < 133)) := by decide +kernel
theorem ft_8_17 {n a : Nat} (hn : sg_okN n) (ha : a < n) (hT : sg_T a = 8) : sg_F a 17 = a + 121 ∧ sg_T (a + 121) = 0 ∧ a + 121 < n := by
  obtain ⟨h1, h2, ⟨h3, h4⟩⟩ := ft_8_17_a a (sg_okN_lt hn ha) hT
  exact ⟨h1, h2, sg_okN_in hn ha h3 h4⟩
theorem fr_9_0 : sg_Fr 9 0 RX9 TX9 28 := ⟨rfl, sg_in9, by decide, by decide, rfl⟩
theorem ft_9_0_a : ∀ a, a < 154 → sg_T a = 9 → sg_F a 0 = a + 1 ∧ sg_T (a + 1) = 11 ∧ (a + 1 < 154 ∧ (a < 133 → a + 1 < 133)) ∧ sg_N (a + 1) = 34 := by decide +kernel
theorem ft_9_0 {n a : Nat} (hn : sg_okN n) (ha : a < n) (hT : sg_T a = 9) : sg_F a 0 = a + 1 ∧ sg_T (a + 1) = 11 ∧ a + 1 < n ∧ sg_N (a + 1) = 34 := by
  obtain ⟨h1, h2, ⟨h3, h4⟩, h5⟩ := ft_9_0_a a (sg_okN_lt hn ha) hT
  exact ⟨h1, h2, sg_okN_in hn ha h3 h4, h5⟩
theorem fr_9_1 : sg_Fr 9 1 RX9 TX9 28 := ⟨rfl, sg_in9, by decide, by decide, rfl⟩
theorem ft_9_1_a : ∀ a, a < 154 → sg_T a = 9 → sg_F a 1 = a + 2 ∧ sg_T (a + 2) = 11 ∧ (a + 2 < 154 ∧ (a < 133 → a + 2 < 133)) ∧ sg_N (a + 2) = 34 := by decide +kernel
theorem ft_9_1 {n a : Nat} (hn : sg_okN n) (ha : a < n) (hT : sg_T a = 9) : sg_F a 1 = a + 2 ∧ sg_T (a + 2) = 11 ∧ a + 2 < n ∧ sg_N (a + 2) = 34 := by
  obtain ⟨h1, h2, ⟨h3, h4⟩, h5⟩ := ft_9_1_a a (sg_okN_lt hn ha) hT
  exact ⟨h1, h2, sg_okN_in hn ha h3 h4, h5⟩
theorem fr_9_2 : sg_Fr 9 2 RX9 TX9 28 := ⟨rfl, sg_in9, by decide, by decide, rfl⟩
theorem ft_9_2_a : ∀ a, a < 154 → sg_T a = 9 → sg_F a 2 = a + 3 ∧ sg_T (a + 3) = 11 ∧ (a + 3 < 154 ∧ (a < 133 → a + 3 < 133)) ∧ sg_N (a + 3) = 31 := by decide +kernel
theorem ft_9_2 {n a : Nat} (hn : sg_okN n) (ha : a < n) (hT : sg_T a = 9) : sg_F a 2 = a + 3 ∧ sg_T (a + 3) = 11 ∧ a + 3 < n ∧ sg_N (a + 3) = 31 := by
  obtain ⟨h1, h2, ⟨h3, h4⟩, h5⟩ := ft_9_2_a a (sg_okN_lt hn ha) hT
  exact ⟨h1, h2, sg_okN_in hn ha h3 h4, h5⟩
theorem fr_9_3 : sg_Fr 9 3 RX9 TX9 28 := ⟨rfl, sg_in9, by decide, by decide, rfl⟩
theorem ft_9_3_a : ∀ a, a < 154 → sg_T a = 9 → sg_F a 3 = a + 4 ∧ sg_T (a + 4) = 11 ∧ (a + 4 < 154 ∧ (a < 133 → a + 4 < 133)) ∧ sg_N (a + 4) = 31 := by decide +kernel
theorem ft_9_3 {n a : Nat} (hn : sg_okN n) (ha : a < n) (hT : sg_T a = 9) : sg_F a 3 = a + 4 ∧ sg_T (a + 4) = 11 ∧ a + 4 < n ∧ sg_N (a + 4) = 31 := by
  obtain ⟨h1, h2, ⟨h3, h4⟩, h5⟩ := ft_9_3_a a (sg_okN_lt hn ha) hT
  exact ⟨h1, h2, sg_okN_in hn ha h3 h4, h5⟩
theorem fr_9_4 : sg_Fr 9 4 RX9 TX9 28 := ⟨rfl, sg_in9, by decide, by decide, rfl⟩
theorem ft_9_4_a : ∀ a, a < 154 → sg_T a = 9 → sg_F a 4 = a + 5 ∧ sg_T (a + 5) = 11 ∧ (a + 5 < 154 ∧ (a < 133 → a + 5 < 133)) ∧ sg_N (a + 5) = 248 := by decide +kernel
theorem ft_9_4 {n a : Nat} (hn : sg_okN n) (ha : a < n) (hT : sg_T a = 9) : sg_F a 4 = a + 5 ∧ sg_T (a + 5) = 11 ∧ a + 5 < n ∧ sg_N (a + 5) = 248 := by
  obtain ⟨h1, h2, ⟨h3, h4⟩, h5⟩ := ft_9_4_a a (sg_okN_lt hn ha) hT
  exact ⟨h1, h2, sg_okN_in hn ha h3 h4, h5⟩
theorem fi_9_5 : sg_Fi 9 5 RX9 TX9 28 := ⟨rfl, sg_in9, by decide, by decide, rfl⟩
theorem fp_9_5 : sg_Fp 9 5 RX9 TX9 28 tyX9 .int := ⟨fi_9_5, tyX9_ok, nmX9, rfl, by decide +kernel⟩
theorem fr_9_6 : sg_Fr 9 6 RX9 TX9 28 := ⟨rfl, sg_in9, by decide, by decide, rfl⟩
theorem ft_9_6_a : ∀ a, a < 154 → sg_T a = 9 → sg_F a 6 = a + 6 ∧ sg_T (a + 6) = 11 ∧ (a + 6 < 154 ∧ (a < 133 → a + 6 < 133)) ∧ sg_N (a + 6) = 62 := by decide +kernel
theorem ft_9_6 {n a : Nat} (hn : sg_okN n) (ha : a < n) (hT : sg_T a = 9) : sg_F a 6 = a + 6 ∧ sg_T (a + 6) = 11 ∧ a + 6 < n ∧ sg_N (a + 6) = 62 := by
  obtain ⟨h1, h2, ⟨h3, h4⟩, h5⟩ := ft_9_6_a a (sg_okN_lt hn ha) hT
  exact ⟨h1, h2, sg_okN_in hn ha h3 h4, h5⟩
theorem fi_9_7 : sg_Fi 9 7 RX9 TX9 28 := ⟨rfl, sg_in9, by decide, by decide, rfl⟩
theorem fp_9_7 : sg_Fp 9 7 RX9 TX9 28 tyX9 .int := ⟨fi_9_7, tyX9_ok, nmX9, rfl, by decide +kernel⟩
theorem fr_9_8 : sg_Fr 9 8 RX9 TX9 28 := ⟨rfl, sg_in9, by decide, by decide, rfl⟩
theorem ft_9_8_a : ∀ a, a < 154 → sg_T a = 9 → sg_F a 8 = a + 7 ∧ sg_T (a + 7) = 11 ∧ (a + 7 < 154 ∧ (a < 133 → a + 7 < 133)) ∧ sg_N (a + 7) = 200 := by decide +kernel
theorem ft_9_8 {n a : Nat} (hn : sg_okN n) (ha : a < n) (hT : sg_T a = 9) : sg_F a 8 = a + 7 ∧ sg_T (a + 7) = 11 ∧ a + 7 < n ∧ sg_N (a + 7) = 200 := by
  obtain ⟨h1, h2, ⟨h3, h4⟩, h5⟩ := ft_9_8_a a (sg_okN_lt hn ha) hT
  exact ⟨h1, h2, sg_okN_in hn ha h3 h4, h5⟩
theorem fi_9_9 : sg_Fi 9 9 RX9 TX9 28 := ⟨rfl, sg_in9, by decide, by decide, rfl⟩
theorem fp_9_9 : sg_Fp 9 9 RX9 TX9 28 tyX9 .int := ⟨fi_9_9, tyX9_ok, nmX9, rfl, by decide +kernel⟩
theorem fr_9_10 : sg_Fr 9 10 RX9 TX9 28 := ⟨rfl, sg_in9, by decide, by decide, rfl⟩
theorem ft_9_10_a : ∀ a, a < 154 → sg_T a = 9 → sg_F a 10 = a + 8 ∧ sg_T (a + 8) = 11 ∧ (a + 8 < 154 ∧ (a < 133 → a + 8 < 133)) ∧ sg_N (a + 8) = 16 := by decide +kernel
theorem ft_9_10 {n a : Nat} (hn : sg_okN n) (ha : a < n) (hT : sg_T a = 9) : sg_F a 10 = a + 8 ∧ sg_T (a + 8) = 11 ∧ a + 8 < n ∧ sg_N (a + 8) = 16 := by
  obtain ⟨h1, h2, ⟨h3, h4⟩, h5⟩ := ft_9_10_a a (sg_okN_lt hn ha) hT
  exact ⟨h1, h2, sg_okN_in hn ha h3 h4, h5⟩
theorem fi_9_11 : sg_Fi 9 11 RX9 TX9 28 := ⟨rfl, sg_in9, by decide, by decide, rfl⟩
theorem fp_9_11 : sg_Fp 9 11 RX9 TX9 28 tyX9 .int := ⟨fi_9_11, tyX9_ok, nmX9, rfl, by decide +kernel⟩
theorem fi_9_12 : sg_Fi 9 12 RX9 TX9 28 := ⟨rfl, sg_in9, by decide, by decide, rfl⟩
theorem fp_9_12 : sg_Fp 9 12 RX9 TX9 28 tyX9 .int := ⟨fi_9_12, tyX9_ok, nmX9, rfl, by decide +kernel⟩
theorem fr_9_13 : sg_Fr 9 13 RX9 TX9 28 := ⟨rfl, sg_in9, by decide, by decide, rfl⟩
theorem ft_9_13_a : ∀ a, a < 154 → sg_T a = 9 → sg_F a 13 = a + 9 ∧ sg_T (a + 9) = 11 ∧ (a + 9 < 154 ∧ (a < 133 → a + 9 < 133)) ∧ sg_N (a + 9) = 3 := by decide +kernel
theorem ft_9_13 {n a : Nat} (hn : sg_okN n) (ha : a < n) (hT : sg_T a = 9) : sg_F a 13 = a + 9 ∧ sg_T (a + 9) = 11 ∧ a + 9 < n ∧ sg_N (a + 9) = 3 := by
  obtain ⟨h1, h2, ⟨h3, h4⟩, h5⟩ := ft_9_13_a a (sg_okN_lt hn ha) hT
  exact ⟨h1, h2, sg_okN_in hn ha h3 h4, h5⟩
theorem fr_9_14 : sg_Fr 9 14 RX9 TX9 28 := ⟨rfl, sg_in9, by decide, by decide, rfl⟩
theorem ft_9_14_a : ∀ a, a < 154 → sg_T a = 9 → sg_F a 14 = a + 10 ∧ sg_T (a + 10) = 11 ∧ (a + 10 < 154 ∧ (a < 133 → a + 10 < 133)) ∧ sg_N (a + 10) = 34 := by decide +kernel
theorem ft_9_14 {n a : Nat} (hn : sg_okN n) (ha : a < n) (hT : sg_T a = 9) : sg_F a 14 = a + 10 ∧ sg_T (a + 10) = 11 ∧ a + 10 < n ∧ sg_N (a + 10) = 34 := by
  obtain ⟨h1, h2, ⟨h3, h4⟩, h5⟩ := ft_9_14_a a (sg_okN_lt hn ha) hT
  exact ⟨h1, h2, sg_okN_in hn ha h3 h4, h5⟩
theorem fr_9_15 : sg_Fr 9 15 RX9 TX9 28 := ⟨rfl, sg_in9, by decide, by decide, rfl⟩
theorem ft_9_15_a : ∀ a, a < 154 → sg_T a = 9 → sg_F a 15 = a + 11 ∧ sg_T (a + 11) = 11 ∧ (a + 11 < 154 ∧ (a < 133 → a + 11 < 133)) ∧ sg_N (a + 11) = 31 := by decide +kernel
theorem ft_9_15 {n a : Nat} (hn : sg_okN n) (ha : a < n) (hT : sg_T a = 9) : sg_F a 15 = a + 11 ∧ sg_T (a + 11) = 11 ∧ a + 11 < n ∧ sg_N (a + 11) = 31 := by
  obtain ⟨h1, h2, ⟨h3, h4⟩, h5⟩ := ft_9_15_a a (sg_okN_lt hn ha) hT
  exact ⟨h1, h2, sg_okN_in hn ha h3 h4, h5⟩
theorem fi_9_16 : sg_Fi 9 16 RX9 TX9 28 := ⟨rfl, sg_in9, by decide, by decide, rfl⟩
theorem fp_9_16 : sg_Fp 9 16 RX9 TX9 28 tyX9 .int := ⟨fi_9_16, tyX9_ok, nmX9, rfl, by decide +kernel⟩
theorem fi_9_17 : sg_Fi 9 17 RX9 TX9 28 := ⟨rfl, sg_in9, by decide, by decide, rfl⟩
theorem fp_9_17 : sg_Fp 9 17 RX9 TX9 28 tyX9 .int := ⟨fi_9_17, tyX9_ok, nmX9, rfl, by decide +kernel⟩
theorem fr_9_18 : sg_Fr 9 18 RX9 TX9 28 := ⟨rfl, sg_in9, by decide, by decide, rfl⟩
theorem ft_9_18_a : ∀ a, a < 154 → sg_T a = 9 → sg_F a 18 = a + 12 ∧ sg_T (a + 12) = 11 ∧ (a + 12 < 154 ∧ (a < 133 → a + 12 < 133)) ∧ sg_N (a + 12) = 6 := by decide +kernel
theorem ft_9_18 {n a : Nat} (hn : sg_okN n) (ha : a < n) (hT : sg_T a = 9) : sg_F a 18 = a + 12 ∧ sg_T (a + 12) = 11 ∧ a + 12 < n ∧ sg_N (a + 12) = 6 := by
  obtain ⟨h1, h2, ⟨h3, h4⟩, h5⟩ := ft_9_18_a a (sg_okN_lt hn ha) hT
  exact ⟨h1, h2, sg_okN_in hn ha h3 h4, h5⟩
theorem fr_9_19 : sg_Fr 9 19 RX9 TX9 28 := ⟨rfl, sg_in9, by decide, by decide, rfl⟩
theorem ft_9_19_a : ∀ a, a < 154 → sg_T a = 9 → sg_F a 19 = a + 13 ∧ sg_T (a + 13) = 11 ∧ (a + 13 < 154 ∧ (a < 133 → a + 13 < 133)) ∧ sg_N (a + 13) = 6 := by decide +kernel
theorem ft_9_19 {n a : Nat} (hn : sg_okN n) (ha : a < n) (hT : sg_T a = 9) : sg_F a 19 = a + 13 ∧ sg_T (a + 13) = 11 ∧ a + 13 < n ∧ sg_N (a + 13) = 6 := by
  obtain ⟨h1, h2, ⟨h3, h4⟩, h5⟩ := ft_9_19_a a (sg_okN_lt hn ha) hT
  exact ⟨h1, h2, sg_okN_in hn ha h3 h4, h5⟩
theorem fr_9_20 : sg_Fr 9 20 RX9 TX9 28 := ⟨rfl, sg_in9, by decide, by decide, rfl⟩
theorem ft_9_20_a : ∀ a, a < 154 → sg_T a = 9 → sg_F a 20 = a + 14 ∧ sg_T (a + 14) = 11 ∧ (a + 14 < 154 ∧ (a < 133 → a + 14 < 133)) ∧ sg_N (a + 14) = 6 := by decide +kernel
theorem ft_9_20 {n a : Nat} (hn : sg_okN n) (ha : a < n) (hT : sg_T a = 9) : sg_F a 20 = a + 14 ∧ sg_T (a + 14) = 11 ∧ a + 14 < n ∧ sg_N (a + 14) = 6 := by
  obtain ⟨h1, h2, ⟨h3, h4⟩, h5⟩ := ft_9_20_a a (sg_okN_lt hn ha) hT
  exact ⟨h1, h2, sg_okN_in hn ha h3 h4, h5⟩
theorem fr_9_21 : sg_Fr 9 21 RX9 TX9 28 := ⟨rfl, sg_in9, by decide, by decide, rfl⟩
theorem ft_9_21_a : ∀ a, a < 154 → sg_T a = 9 → sg_F a 21 = a + 15 ∧ sg_T (a + 15) = 11 ∧ (a + 15 < 154 ∧ (a < 133 → a + 15 < 133)) ∧ sg_N (a + 15) = 6 := by decide +kernel
theorem ft_9_21 {n a : Nat} (hn : sg_okN n) (ha : a < n) (hT : sg_T a = 9) : sg_F a 21 = a + 15 ∧ sg_T (a + 15) = 11 ∧ a + 15 < n ∧ sg_N (a + 15) = 6 := by
  obtain ⟨h1, h2, ⟨h3, h4⟩, h5⟩ := ft_9_21_a a (sg_okN_lt hn ha) hT
  exact ⟨h1, h2, sg_okN_in hn ha h3 h4, h5⟩
theorem fr_9_22 : sg_Fr 9 22 RX9 TX9 28 := ⟨rfl, sg_in9, by decide, by decide, rfl⟩
theorem ft_9_22_a : ∀ a, a < 154 → sg_T a = 9 → sg_F a 22 = a + 16 ∧ sg_T (a + 16) = 11 ∧ (a + 16 < 154 ∧ (a < 133 → a + 16 < 133)) ∧ sg_N (a + 16) = 120 := by decide +kernel
theorem ft_9_22 {n a : Nat} (hn : sg_okN n) (ha : a < n) (hT : sg_T a = 9) : sg_F a 22 = a + 16 ∧ sg_T (a + 16) = 11 ∧ a + 16 < n ∧ sg_N (a + 16) = 120 := by
  obtain ⟨h1, h2, ⟨h3, h4⟩, h5⟩ := ft_9_22_a a (sg_okN_lt hn ha) hT
  exact ⟨h1, h2, sg_okN_in hn ha h3 h4, h5⟩
theorem fi_9_23 : sg_Fi 9 23 RX9 TX9 28 := ⟨rfl, sg_in9, by decide, by decide, rfl⟩
theorem fp_9_23 : sg_Fp 9 23 RX9 TX9 28 tyX9 .int := ⟨fi_9_23, tyX9_ok, nmX9, rfl, by decide +kernel⟩
theorem fr_9_24 : sg_Fr 9 24 RX9 TX9 28 := ⟨rfl, sg_in9, by decide, by decide, rfl⟩
theorem ft_9_24_a : ∀ a, a < 154 → sg_T a = 9 → sg_F a 24 = a + 17 ∧ sg_T (a + 17) = 11 ∧ (a + 17 < 154 ∧ (a < 133 → a + 17 < 133)) ∧ sg_N (a + 17) = 6 := by decide +kernel
theorem ft_9_24 {n a : Nat} (hn : sg_okN n) (ha : a < n) (hT : sg_T a = 9) : sg_F a 24 = a + 17 ∧ sg_T (a + 17) = 11 ∧ a + 17 < n ∧ sg_N (a + 17) = 6 := by
  obtain ⟨h1, h2, ⟨h3, h4⟩, h5⟩ := ft_9_24_a a (sg_okN_lt hn ha) hT
  exact ⟨h1, h2, sg_okN_in hn ha h3 h4, h5⟩
theorem fr_9_25 : sg_Fr 9 25 RX9 TX9 28 := ⟨rfl, sg_in9, by decide, by decide, rfl⟩
theorem ft_9_25_a : ∀ a, a < 154 → sg_T a = 9 → sg_F a 25 = a + 18 ∧ sg_T (a + 18) = 11 ∧ (a + 18 < 154 ∧ (a < 133 → a + 18 < 133)) ∧ sg_N (a + 18) = 6 := by decide +kernel
theorem ft_9_25 {n a : Nat} (hn : sg_okN n) (ha : a < n) (hT : sg_T a = 9) : sg_F a 25 = a + 18 ∧ sg_T (a + 18) = 11 ∧ a + 18 < n ∧ sg_N (a + 18) = 6 := by
  obtain ⟨h1, h2, ⟨h3, h4⟩, h5⟩ := ft_9_25_a a (sg_okN_lt hn ha) hT
  exact ⟨h1, h2, sg_okN_in hn ha h3 h4, h5⟩
theorem fr_9_26 : sg_Fr 9 26 RX9 TX9 28 := ⟨rfl, sg_in9, by decide, by decide, rfl⟩
theorem ft_9_26_a : ∀ a, a < 154 → sg_T a = 9 → sg_F a 26 = a + 19 ∧ sg_T (a + 19) = 11 ∧ (a + 19 < 154 ∧ (a < 133 → a + 19 < 133)) ∧ sg_N (a + 19) = 36 := by decide +kernel
theorem ft_9_26 {n a : Nat} (hn : sg_okN n) (ha : a < n) (hT : sg_T a = 9) : sg_F a 26 = a + 19 ∧ sg_T (a + 19) = 11 ∧ a + 19 < n ∧ sg_N (a + 19) = 36 := by
  obtain ⟨h1, h2, ⟨h3, h4⟩, h5⟩ := ft_9_26_a a (sg_okN_lt hn ha) hT
  exact ⟨h1, h2, sg_okN_in hn ha h3 h4, h5⟩
theorem fr_9_27 : sg_Fr 9 27 RX9 TX9 28 := ⟨rfl, sg_in9, by decide, by decide, rfl⟩
theorem ft_9_27_a : ∀ a, a < 154 → sg_T a = 9 → sg_F a 27 = a + 20 ∧ sg_T (a + 20) = 11 ∧ (a + 20 < 154 ∧ (a < 133 → a + 20 < 133)) ∧ sg_N (a + 20) = 36 := by decide +kernel
theorem ft_9_27 {n a : Nat} (hn : sg_okN n) (ha : a < n) (hT : sg_T a = 9) : sg_F a 27 = a + 20 ∧ sg_T (a + 20) = 11 ∧ a + 20 < n ∧ sg_N (a + 20) = 36 := by
  obtain ⟨h1, h2, ⟨h3, h4⟩, h5⟩ := ft_9_27_a a (sg_okN_lt hn ha) hT
  exact ⟨h1, h2, sg_okN_in hn ha h3 h4, h5⟩
