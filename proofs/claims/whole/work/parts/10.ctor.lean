/-- the world while objects are being made: the cells so far, those to come hold nothing -/
def sg_Wc (D : va_G) (b : Nat) (cA : Nat → ClassId) (n : Nat) (H0 : Heap) (h : HP) (H : Heap) (locs : List Loc) : Prop :=
  va_P D vwCl (sg_ws b cA h n) H ∧ va_S (sg_A b) H0 H locs ∧ ∀ k, n ≤ k → h.1 k = (fun _ => 0) ∧ h.2 k = (fun _ => 0)
def sg_Wk (D : va_G) (b : Nat) (cA : Nat → ClassId) (n : Nat) (h : HP) (U : State) : Prop :=
  va_P D vwCl (sg_ws b cA h n) U.heap ∧ va_K D vwCl (sg_ty cA) U ∧ U.heap.size = b + n ∧ (∀ k, n ≤ k → h.1 k = (fun _ => 0) ∧ h.2 k = (fun _ => 0)) ∧ sg_Nw U ∧ va_AO RX6 U
/-- a class's own: what a new object of it holds -/
def sg_Nn (ci : Nat) (C : String) (T : u_T) (N : Nat) (ty : Nat → FieldType) : Prop :=
  vwCl[ci]? = some (C, T, N) ∧ (∀ w ∈ u_ws C T N, w ∈ sg_tbl) ∧ (∀ k, k < N → parseFieldDescriptor (T k).2.2.1 = some (ty k)) ∧ (∀ a, a < N → ∀ b, b < N → a ≠ b → (T a).2.1 ≠ (T b).2.1) ∧ sg_nF ci = N ∧ ci < 10 ∧ (∀ j, j < N → defaultValue (ty j) = if sg_isR ci j = true then .null else .int 0)
section CTOR
variable {p : Program} {l : Launch} {e : Env} {R : Room} {s : State} {m : MethodId} {args : Array Value} {below : List Frame} {meth : Method} {c : Code} {H : Heap} {locs : List Loc} {cells slots : Nat} {Q : State → Prop}
variable {cc : ByteArray} {pc : Nat} {ls : Array Slot} {rest st0 : List Value} {D : va_G} {cA : Nat → ClassId} {b n : Nat} {h : HP} {own : String} {H0 : Heap}
theorem sg_clo (hw : sg_Wc D b cA n H0 h H locs) (hn : 0 < n) : b + n ≤ H.size := by
  have h1 := (hw.1 (n - 1) _ (sg_ws_get (by omega))).lt
  dsimp only at h1
  omega
theorem sg_grow (hw : sg_Wc D b cA n H0 h H locs) (hsz : H.size = b + n) {H' : Heap} (z1 : H'.size = b + n + 1) (o1 : ∀ q, q < b + n → H'[q]? = H[q]?) (hat : va_at D vwCl (b + n, sg_ce b cA h n) H') : sg_Wc D b cA (n + 1) H0 h H' locs := by
  refine ⟨fun k q hq => ?_, ⟨Nat.le_trans hw.2.1.1 (by omega), fun q h1 h2 => (o1 q (by have := hw.2.1.1; omega)).trans (hw.2.1.2.1 q h1 h2), hw.2.1.2.2⟩, fun k hk => hw.2.2 k (by omega)⟩
  obtain ⟨hk, rfl⟩ := sg_ws_in hq
  rcases Nat.lt_or_ge k n with hl | hl
  · exact (hw.1 k _ (sg_ws_get hl)).kept (o1 _ (by show b + k < b + n; omega))
  · have : k = n := by omega
    subst this
    exact hat
theorem sg_cnewi (hc : sg_Cx p s m args c cc own D cA) (hw : sg_Wc D b cA n H0 h H locs) (hz : s.heap.size + cells = b + n) (hn0 : 0 < n) (harr : Cond.arrayClass .int ∈ sg_tbl) {x : Int32} {N : Nat} (hT : sg_T n = 11) (hN : sg_N n = N) (hx0 : ¬ x < 0) (hxN : x.toNatClampNeg = N) (hby : N * 4 ≤ 536870912) (hcells : cells + 1 ≤ R.cells) (hslots : slots + N ≤ R.slots) (hdg : decode cc pc = .ok (.newarray .int, 2))
    (kk : ∀ (H : Heap), sg_Wc D b cA (n + 1) H0 h H locs → W p l e R s m args below meth c H locs (cells + 1) (slots + N) Q (F0 m (pc + 2) ls (.ref (b + n) :: rest))) : W p l e R s m args below meth c H locs cells slots Q (F0 m pc ls (.int x :: rest)) := by
  subst hN
  refine sg_size (fun hup => ?_)
  have hsz : H.size = b + n := by have := sg_clo hw hn0; omega
  obtain ⟨hx, hb, hown, hts, hK, -⟩ := hc
  refine va_newaK (atype := .int) hx hb (hts _ harr) rfl hdg rfl hx0 hxN hby hcells hslots hsz (fun H' cA' e1 z1 o1 hAr hNm => ?_)
  have hcA : cA' = cA 11 := Option.some.inj (hNm.symm.trans (hK.2 1 _ rfl).2)
  subst hcA
  refine kk H' (sg_grow hw hsz z1 o1 ?_)
  rw [sg_ce_int hT, (hw.2.2 n (Nat.le_refl n)).1]
  show H'[b + n]? = some (vp_cell _ _)
  rw [vp_cell_i]
  exact e1
theorem sg_cnewc (hc : sg_Cx p s m args c cc own D cA) (hw : sg_Wc D b cA n H0 h H locs) (hz : s.heap.size + cells = b + n) (hn0 : 0 < n) (harr : Cond.arrayClass .char ∈ sg_tbl) {x : Int32} {N : Nat} (hT : sg_T n = 10) (hN : sg_N n = N) (hx0 : ¬ x < 0) (hxN : x.toNatClampNeg = N) (hby : N * 2 ≤ 536870912) (hcells : cells + 1 ≤ R.cells) (hslots : slots + N ≤ R.slots) (hdg : decode cc pc = .ok (.newarray .char, 2))
    (kk : ∀ (H : Heap), sg_Wc D b cA (n + 1) H0 h H locs → W p l e R s m args below meth c H locs (cells + 1) (slots + N) Q (F0 m (pc + 2) ls (.ref (b + n) :: rest))) : W p l e R s m args below meth c H locs cells slots Q (F0 m pc ls (.int x :: rest)) := by
  subst hN
  refine sg_size (fun hup => ?_)
  have hsz : H.size = b + n := by have := sg_clo hw hn0; omega
  obtain ⟨hx, hb, hown, hts, hK, -⟩ := hc
  refine va_newaK (atype := .char) hx hb (hts _ harr) rfl hdg rfl hx0 hxN hby hcells hslots hsz (fun H' cA' e1 z1 o1 hAr hNm => ?_)
  have hcA : cA' = cA 10 := Option.some.inj (hNm.symm.trans (hK.2 0 _ rfl).2)
  subst hcA
  refine kk H' (sg_grow hw hsz z1 o1 ?_)
  rw [sg_ce_chr hT, (hw.2.2 n (Nat.le_refl n)).1]
  show H'[b + n]? = some (vp_cell _ _)
  rw [vp_cell_i]
  exact e1
theorem sg_cnewq (hc : sg_Cx p s m args c cc own D cA) (hw : sg_Wc D b cA n H0 h H locs) (hz : s.heap.size + cells = b + n) (hn0 : 0 < n) (hov : va_AO RX6 s) {index : Nat} (hcl : Cond.classLink own index RX6 ∈ sg_tbl) {x : Int32} {N : Nat} (hT : sg_T n = 12) (hN : sg_N n = N) (hx0 : ¬ x < 0) (hxN : x.toNatClampNeg = N) (hby : N * 4 ≤ 536870912) (hcells : cells + 1 ≤ R.cells) (hslots : slots + N ≤ R.slots) (hdg : decode cc pc = .ok (.anewarray index, 3))
    (kk : ∀ (H : Heap), sg_Wc D b cA (n + 1) H0 h H locs → W p l e R s m args below meth c H locs (cells + 1) (slots + N) Q (F0 m (pc + 3) ls (.ref (b + n) :: rest))) : W p l e R s m args below meth c H locs cells slots Q (F0 m pc ls (.int x :: rest)) := by
  subst hN
  refine sg_size (fun hup => ?_)
  have hsz : H.size = b + n := by have := sg_clo hw hn0; omega
  obtain ⟨hx, hb, hown, hts, hK, -⟩ := hc
  refine W.anew (C := RX6) hx hb hown (hts _ hcl) (va_AO.use hov) rfl hdg rfl hx0 (by rw [hxN]; exact hby) hcells (by rw [hxN]; exact hslots) (fun cA' kA comp f1 f2 f3 f4 => ?_)
  obtain ⟨kA2, comp2, g1, g2, g3, g4⟩ := (hK.2 2 _ rfl).2
  have hcA : cA' = cA 12 := Option.some.inj (f1.symm.trans g4)
  subst hcA
  rw [hxN, hsz]
  refine kk _ (sg_grow hw hsz (by rw [Array.size_push, hsz]) (fun q hq => by rw [Array.getElem?_push, if_neg (by omega)]) ?_)
  rw [sg_ce_ref hT, (hw.2.2 n (Nat.le_refl n)).2]
  show (H.push _)[b + n]? = some (vp_cell _ _)
  rw [vp_cell_q, Array.getElem?_push, if_pos hsz.symm]
  rw [← arrV_new]
  rfl
theorem sg_cnew (hc : sg_Cx p s m args c cc own D cA) (hw : sg_Wc D b cA n H0 h H locs) (hz : s.heap.size + cells = b + n) (hn0 : n = 0 → H.size = b) {ci N index : Nat} {C : String} {T : u_T} {ty : Nat → FieldType} (hT : sg_T n = ci) (hN : sg_Nn ci C T N ty) (hcl : Cond.classLink own index C ∈ sg_tbl) (hinst : Cond.instantiable C N ∈ sg_tbl) (hini : Cond.initialized C ∈ sg_tbl) (hcells : cells + 1 ≤ R.cells) (hslots : slots + N ≤ R.slots) (hdg : decode cc pc = .ok (.new index, 3))
    (kk : ∀ (H : Heap), sg_Wc D b cA (n + 1) H0 h H locs → W p l e R s m args below meth c H locs (cells + 1) (slots + N) Q (F0 m (pc + 3) ls (.ref (b + n) :: rest))) : W p l e R s m args below meth c H locs cells slots Q (F0 m pc ls rest) := by
  refine sg_size (fun hup => ?_)
  have hsz : H.size = b + n := by
    rcases Nat.eq_zero_or_pos n with q | q
    · have := hn0 q; omega
    · have := sg_clo hw q; omega
  obtain ⟨hx, hb, hown, hts, hK, -⟩ := hc
  obtain ⟨n1, n2, n3, n4, n5, n6, n7⟩ := hN
  have hKn := hK.1 ci _ n1
  refine W.newcK hx hb hown (hts _ hcl) (hts _ hinst) (hts _ hini) rfl hdg hcells hslots hKn.2.1 hsz (fun H1 kC hkC e1 z1 o1 => ?_)
  refine kk H1 (sg_grow hw hsz z1 o1 ?_)
  rw [sg_ce_obj hT n6]
  refine ⟨_, n1, (u_born ty hts n2 hKn hkC e1 n3).to (fun j hj => ?_)⟩
  rw [n7 j hj]
  have hz2 := hw.2.2 n (Nat.le_refl n)
  show _ = (sg_sl b h ci n).getD j .null
  rw [List.getD_eq_getElem?_getD, sg_sl_get (by rw [n5]; exact hj)]
  simp only [sg_sv, hz2.1, hz2.2, Option.getD_some, sg_rf, if_true]
  split <;> rfl
theorem sg_cput {a q k ci N : Nat} (hw : sg_Wc D b cA n H0 h H locs) (ha : a < n) (hT : sg_T a = ci) {C : String} {T : u_T} (hF : sg_Fr ci k C T N) {H1 : Heap} {locs1 : List Loc} (hP : va_P D vwCl ((sg_ws b cA h n).set a (b + a, .inr (ci, (sg_sl b h ci a).set k (.ref (b + q))))) H1) (hS : va_S (sg_A b) H0 H1 locs1) : sg_Wc D b cA n H0 (ur h a k (q + 1)) H1 locs1 := by
  obtain ⟨h1, h2, h3, h4, h5⟩ := hF
  rw [sg_ws_set (h' := ur h a k (q + 1)) ha (fun k hk => sg_ce_ur hk) (by rw [sg_ce_obj hT h4.2, sg_sl_ur h4.1 h5]; rfl)] at hP
  refine ⟨hP, hS, fun x hx => ⟨(hw.2.2 x hx).1, ?_⟩⟩
  show (if x = a then _ else h.2 x) = _
  rw [if_neg (by omega)]
  exact (hw.2.2 x hx).2
/-- a final field of a cell, in its constructor -/
theorem sg_cputF (hc : sg_Cx p s m args c cc own D cA) (hw : sg_Wc D b cA n H0 h H locs) {a q ci k N index : Nat} {T : u_T} {ty0 : Nat → FieldType} {ty : FieldType} (ha : a < n) (hT : sg_T a = ci) (hF : sg_Fr ci k own T N) (hty : ∀ k, k < N → parseFieldDescriptor (T k).2.2.1 = some (ty0 k)) (hnm : ∀ a, a < N → ∀ b, b < N → a ≠ b → (T a).2.1 ≠ (T b).2.1) (hfin : (T k).2.2.2 = true) (hin2 : meth.name = "<init>") (hdecl : (T k).1 = own) (hd : parseFieldDescriptor (T k).2.2.1 = some ty) (hnar : narrow ty (.ref (b + q)) = .ref (b + q)) (hfit : fits ty (.ref (b + q)) = true) (hlink : Cond.fieldLink own index (T k).1 (T k).2.1 (T k).2.2.1 ∈ sg_tbl) (hdg : decode cc pc = .ok (.putfield index, 3))
    (kk : ∀ (H : Heap) (locs : List Loc), sg_Wc D b cA n H0 (ur h a k (q + 1)) H locs → W p l e R s m args below meth c H locs cells slots Q (F0 m (pc + 3) ls rest)) : W p l e R s m args below meth c H locs cells slots Q (F0 m pc ls (.ref (b + q) :: .ref (b + a) :: rest)) := by
  obtain ⟨hx, hb, hown, hts, hK, -⟩ := hc
  obtain ⟨h1, h2, h3, h4, h5⟩ := id hF
  have he : (sg_ws b cA h n)[a]? = some (b + a, .inr (ci, sg_sl b h ci a)) := (sg_ws_get ha).trans (by rw [sg_ce_obj hT h4.2])
  exact va_putF hx hb hts h2 ty0 hty hnm hown hK hw.1 sg_ws_D hw.2.1 a he h1 k h3 (hts _ hlink) (fun _ h9 => h9) hfin hin2 hdecl hd hnar hfit (by rw [sg_sl_len]; exact h4.1) hdg (fun H1 locs1 hP hD hS => kk H1 locs1 (sg_cput hw ha hT hF hP hS))
theorem sg_cputr (hc : sg_Cx p s m args c cc own D cA) (hw : sg_Wc D b cA n H0 h H locs) {a q index : Nat} (ha : a < n) (hT : sg_T a = 7) (hlink : Cond.fieldLink own index (TX7 0).1 (TX7 0).2.1 (TX7 0).2.2.1 ∈ sg_tbl) (hF : sg_Fr 7 0 RX7 TX7 12) (hdg : decode cc pc = .ok (.putfield index, 3))
    (kk : ∀ (H : Heap) (locs : List Loc), sg_Wc D b cA n H0 (ur h a 0 (q + 1)) H locs → W p l e R s m args below meth c H locs cells slots Q (F0 m (pc + 3) ls rest)) : W p l e R s m args below meth c H locs cells slots Q (F0 m pc ls (.ref (b + q) :: .ref (b + a) :: rest)) := by
  obtain ⟨hx, hb, hown, hts, hK, -⟩ := hc
  obtain ⟨h1, h2, h3, h4, h5⟩ := id hF
  have he : (sg_ws b cA h n)[a]? = some (b + a, .inr (7, sg_sl b h 7 a)) := (sg_ws_get ha).trans (by rw [sg_ce_obj hT (by decide)])
  exact va_put (T := TX7) (C := RX7) (N := 12) (ty := .object "ShoulderHeirs$Funeral") hx hb hts h2 tyX7 tyX7_ok nmX7 hown hK hw.1 sg_ws_D hw.2.1 a he rfl 0 (by decide) (hts _ hlink) (fun _ h9 => h9) rfl (by decide +kernel) rfl rfl (by rw [sg_sl_len]; decide) hdg (fun H1 locs1 hP hD hS => kk H1 locs1 (sg_cput hw ha hT hF hP hS))
theorem sg_cgetr (hc : sg_Cx p s m args c cc own D cA) (hw : sg_Wc D b cA n H0 h H locs) {a ci k N index : Nat} {C : String} {T : u_T} (ha : a < n) (hT : sg_T a = ci) (hf : sg_Fr ci k C T N) (hlink : Cond.fieldLink own index (T k).1 (T k).2.1 (T k).2.2.1 ∈ sg_tbl) (hdg : decode cc pc = .ok (.getfield index, 3)) {q : Nat} (hq : h.2 a k = q + 1)
    (kk : W p l e R s m args below meth c H locs cells slots Q (F0 m (pc + 3) ls (.ref (b + q) :: rest))) : W p l e R s m args below meth c H locs cells slots Q (F0 m pc ls (.ref (b + a) :: rest)) := by
  obtain ⟨hx, hb, hown, hts, hK, -⟩ := hc
  obtain ⟨h1, h2, h3, h4, h5⟩ := hf
  refine va_get hx hb hts h2 hown hK hw.1 a ((sg_ws_get ha).trans (by rw [sg_ce_obj hT h4.2])) h1 k h3 (hts _ hlink) (fun _ h9 => h9) ?_ hdg kk
  rw [sg_sl_get h4.1]
  simp [sg_sv, h5, sg_rf, hq, va_rf]
theorem sg_cast (hc : sg_Cx p s m args c cc own D cA) (hw : sg_Wc D b cA n H0 h H locs) {a q N : Nat} {i : Int32} (ha : a < n) (hT : sg_T a = 12) (hN : sg_N a = N) (hin : vp_in i N) (hqn : q < n) (hTq : sg_T q = 6) (hdg : decode cc pc = .ok (.aastore, 1))
    (kk : ∀ (H : Heap) (locs : List Loc), sg_Wc D b cA n H0 (ur h a i.toNatClampNeg (q + 1)) H locs → W p l e R s m args below meth c H locs cells slots Q (F0 m (pc + 1) ls rest)) : W p l e R s m args below meth c H locs cells slots Q (F0 m pc ls (.ref (b + q) :: .int i :: .ref (b + a) :: rest)) := by
  subst hN
  obtain ⟨hx, hb, hown, hts, hK, -⟩ := hc
  refine va_astq (r := (RX6, TX6, 4)) hx hb hK hw.1 sg_ws_D hw.2.1 a 2 q 6 ((sg_ws_get ha).trans (by rw [sg_ce_ref hT])) rfl ((sg_ws_get hqn).trans (by rw [sg_ce_obj hTq (by decide)])) rfl hin hdg (fun H1 locs1 hP hD hS => ?_)
  rw [sg_ws_set (h' := ur h a i.toNatClampNeg (q + 1)) ha (fun k hk => sg_ce_ur hk) (by
    rw [sg_ce_ref hT]
    have e9 : (fun j => sg_rf b ((ur h a i.toNatClampNeg (q + 1)).2 a j)) = va_up (fun j => sg_rf b (h.2 a j)) i.toNatClampNeg (some (b + q)) := by
      funext j
      by_cases hj : j = i.toNatClampNeg
      · simp [ur, va_up, hj, sg_rf]
      · simp [ur, va_up, hj]
    rw [e9])] at hP
  refine kk H1 locs1 ⟨hP, hS, fun x hx => ⟨(hw.2.2 x hx).1, ?_⟩⟩
  show (if x = a then _ else h.2 x) = _
  rw [if_neg (by omega)]
  exact (hw.2.2 x hx).2
theorem sg_cobj (hc : sg_Cx p s m args c cc own D cA) {nL : Nat} (hml : c.maxLocals = nL) {lv : List (Nat × Value)} (hl : lv_has ls nL lv) {a index : Nat} (k1 : Cond.methodLink own index Lib.objectInit ∈ sg_tbl) (k2 : Cond.instanceMethod Lib.objectInit ∈ sg_tbl) (k3 : Cond.code Lib.objectInit ⟨#[0xb1]⟩ 1 none ∈ sg_tbl) (hfr : 1 ≤ R.frames) (hlo : 20 ≤ R.locals) (hdg : decode cc pc = .ok (.invokespecial index, 3))
    (kk : W p l e R s m args below meth c H locs cells slots Q (F0 m (pc + 3) ls [])) : W p l e R s m args below meth c H locs cells slots Q (F0 m pc ls [.ref a]) := by
  obtain ⟨hx, hb, hown, hts, -, -⟩ := hc
  exact W.objInit hx hb hown (hts _ k1) (hts _ k2) (hts _ k3) rfl (by rw [hml]; exact hl.1) rfl hdg hfr (by show 2 * 0 + 0 + 12 ≤ _; omega) kk
theorem sg_kblind {av : List Value} : FrameBlind (va_Pc av (sg_Wk D b cA n h)) := fun a U g mk q => by
  obtain ⟨q0, qP, qK, qz, qY, qN, qA⟩ := q
  exact ⟨q0, qP, va_K.moved (u := U) (U := U.calling g mk a) (Vm.Alike.refl U.vm) qK, qz, qY, qN.same rfl, va_AO.moved (u := U) (U := U.calling g mk a) (Vm.Alike.refl U.vm) qA⟩
theorem sg_kpre (hc : sg_Cx p s m args c cc own D cA) (hov : va_AO RX6 s) (hw : sg_Wc D b cA n s.heap h H locs) (hz : H.size = b + n) {av : List Value} : ∀ U : State, U.heap = H → s.WarmedH U.vm → va_Pc av (sg_Wk D b cA n h) av.toArray U := fun U hU hW =>
  ⟨rfl, by rw [hU]; exact hw.1, va_K.moved hW.alike hc.2.2.2.2.1, by rw [hU]; exact hz, hw.2.2, hc.2.2.2.2.2.warm hW, va_AO.moved hW.alike hov⟩
/-- a constructor's call, plain and in the nest -/
theorem sg_cinit {y : MethodName} {bytes : ByteArray} {maxL nL k index a n2 mc ms : Nat} {rm : Room} {As : List Value} {lv : List (Nat × Value)} {h2 : HP} (hM : Met l y (Cond.code y bytes maxL none :: sg_tbl) rm (va_Pc (.ref (b + a) :: As) (sg_Wk D b cA n h)) (va_Qv (fun u => u = h2) (sg_Wk D b cA n2) (sg_A b)) mc ms (sg_A b)) (hc : sg_Cx p s m args c cc own D cA) (hov : va_AO RX6 s) (hw : sg_Wc D b cA n s.heap h H locs) (hz : s.heap.size + cells = b + n) (hn0 : 0 < n) (hml : c.maxLocals = nL) (hl : lv_has ls nL lv) (k1 : Cond.methodLink own index y ∈ sg_tbl) (k2 : Cond.instanceMethod y ∈ sg_tbl) (k3 : Cond.initialized y.cls ∈ sg_tbl) (k4 : Cond.code y bytes maxL none ∈ sg_tbl) (hy : y.name = "<init>") (hd : sg_Md y k) (hrm : (rm.cells = mc ∧ rm.slots = ms) ∧ rm.frames + 1 ≤ R.frames ∧ 8 + (maxL + 11) + rm.locals ≤ R.locals) (hcs : cells + mc ≤ R.cells ∧ slots + ms ≤ R.slots) (hn : As.length = k) (hst : st0 = As.reverse ++ .ref (b + a) :: rest) (hrs : (rest.map fun v => v.category).sum ≤ 8) (hdg : decode cc pc = .ok (.invokespecial index, 3))
    (kk : ∀ (H : Heap) (locs : List Loc), sg_Wc D b cA n2 s.heap h2 H locs → W p l e R s m args below meth c H locs (cells + mc) (slots + ms) Q (F0 m (pc + 3) ls rest)) : W p l e R s m args below meth c H locs cells slots Q (F0 m pc ls st0) := by
  refine sg_size (fun hup => ?_)
  have hsz : H.size = b + n := by have := sg_clo hw hn0; omega
  obtain ⟨hx, hb, hown, hts, hK, hN⟩ := id hc
  exact va_callv (va_runI (As := As) (rest := rest) ⟨hx, hb, hml, hown, hts⟩ hM (cwI k hts (sg_goodC k4) rfl hrm.1.1 hrm.1.2 (hts _ k3) (hts _ k1) (hts _ k2) hy hd hrm.2) ⟨sg_kblind, sg_kpre hc hov hw hsz⟩ rfl hn hl.1 hst (lv_room hrs) hdg hcs) hw.2.1 (fun q _ h => h) (fun q h => h) (fun u t H1 locs1 ht hvm hp hB hz1 hk1 hS => by
    subst hp
    exact kk H1 locs1 ⟨by rw [← ht]; exact hB.1, hS, hB.2.2.2.1⟩)
theorem sg_cinitN {y : MethodName} {host : String} {bytes : ByteArray} {maxL nL k index a n2 mc ms : Nat} {rm : Room} {As : List Value} {lv : List (Nat × Value)} {h2 : HP} (hM : Met l y (Cond.code y bytes maxL none :: sg_tbl) rm (va_Pc (.ref (b + a) :: As) (sg_Wk D b cA n h)) (va_Qv (fun u => u = h2) (sg_Wk D b cA n2) (sg_A b)) mc ms (sg_A b)) (hc : sg_Cx p s m args c cc own D cA) (hov : va_AO RX6 s) (hw : sg_Wc D b cA n s.heap h H locs) (hz : s.heap.size + cells = b + n) (hn0 : 0 < n) (hml : c.maxLocals = nL) (hl : lv_has ls nL lv) (k1 : (own, index, y, host) ∈ sg_nl) (k2 : Cond.instanceMethod y ∈ sg_tbl) (k3 : Cond.initialized y.cls ∈ sg_tbl) (k4 : Cond.code y bytes maxL none ∈ sg_tbl) (hy : y.name = "<init>") (hd : sg_Md y k) (hrm : (rm.cells = mc ∧ rm.slots = ms) ∧ rm.frames + 1 ≤ R.frames ∧ 8 + (maxL + 11) + rm.locals ≤ R.locals) (hcs : cells + mc ≤ R.cells ∧ slots + ms ≤ R.slots) (hn : As.length = k) (hst : st0 = As.reverse ++ .ref (b + a) :: rest) (hrs : (rest.map fun v => v.category).sum ≤ 8) (hdg : decode cc pc = .ok (.invokespecial index, 3))
    (kk : ∀ (H : Heap) (locs : List Loc), sg_Wc D b cA n2 s.heap h2 H locs → W p l e R s m args below meth c H locs (cells + mc) (slots + ms) Q (F0 m (pc + 3) ls rest)) : W p l e R s m args below meth c H locs cells slots Q (F0 m pc ls st0) := by
  refine sg_size (fun hup => ?_)
  have hsz : H.size = b + n := by have := sg_clo hw hn0; omega
  obtain ⟨hx, hb, hown, hts, hK, hN⟩ := id hc
  exact va_callv (va_runIN (As := As) (rest := rest) ⟨hx, hb, hml, hown, hts⟩ hM ⟨va_cnB k hts (sg_goodC k4) rfl hrm.1.1 hrm.1.2 (hN _ k1) (hts _ k3) hd hrm.2, hy, hts _ k2⟩ ⟨sg_kblind, sg_kpre hc hov hw hsz⟩ rfl hn hl.1 hst (lv_room hrs) hdg hcs) hw.2.1 (fun q _ h => h) (fun q h => h) (fun u t H1 locs1 ht hvm hp hB hz1 hk1 hS => by
    subst hp
    exact kk H1 locs1 ⟨by rw [← ht]; exact hB.1, hS, hB.2.2.2.1⟩)
theorem sg_cvret {n0 : Nat} {h2 : HP} (hc : sg_Cx p s m args c cc own D cA) (hov : va_AO RX6 s) (hw : sg_Wc D b cA n s.heap h H locs) (hz : s.heap.size + cells = b + n) (hn0 : 0 < n) (hr : meth.sig.returnType = none) (hlocks : meth.locks = false) (hp : h = h2) (hdg : decode cc pc = .ok (.return_, 1)) :
    W p l e R s m args below meth c H locs cells slots (MQ below (va_Qv (fun u => u = h2) (sg_Wk D b cA n) (sg_A b)) args s cells slots (sg_A b)) (F0 m pc ls []) := by
  refine sg_size (fun hup => ?_)
  have hsz : H.size = b + n := by have := sg_clo hw hn0; omega
  exact W.vret hc.1 hc.2.1 hr (fun t ht hW => ⟨⟨h, rfl, hp, by rw [ht]; exact hw.1, va_K.moved hW.alike hc.2.2.2.2.1, by rw [ht]; exact hsz, hw.2.2, hc.2.2.2.2.2.warm hW, va_AO.moved hW.alike hov⟩, hw.2.1.F ht⟩) hw.2.1.2.2 hdg hlocks
end CTOR
