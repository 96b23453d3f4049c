theorem sg_good {ws : List Cond} (h : ∀ w ∈ ws, w ∈ sg_tbl) : GoodIn sg_tbl ws := fun w hw => ⟨h w hw, good_of_word (sg_tg (h w hw))⟩
theorem sg_goodC {c : Cond} (h : c ∈ sg_tbl) : GoodIn sg_tbl (c :: sg_tbl) := sg_good (fun w hw => by
  rcases List.mem_cons.mp hw with e | e
  · rw [e]; exact h
  · exact e)
def sg_Md (y : MethodName) (k : Nat) : Prop := y.cls ≠ "java/lang/invoke/MethodHandle" ∧ y.cls ≠ "java/lang/invoke/VarHandle" ∧ (parseMethodDescriptor y.desc).map (fun d => d.parameters.length) = some k
/-- what the tables say of a call: virtual, static, static in a nest -/
def sg_Cv (own : String) (index : Nat) (C : String) (y : MethodName) (bytes : ByteArray) (maxL : Nat) (ret : Option FieldType) (k : Nat) : Prop :=
  Cond.methodLink own index y ∈ sg_tbl ∧ Cond.instanceMethod y ∈ sg_tbl ∧ Cond.selects C y y ∈ sg_tbl ∧ Cond.initialized C ∈ sg_tbl ∧ Cond.code y bytes maxL ret ∈ sg_tbl ∧ y.cls = C ∧ sg_Md y k
def sg_Cs (own : String) (index : Nat) (y : MethodName) (bytes : ByteArray) (maxL : Nat) (ret : Option FieldType) (k : Nat) : Prop :=
  Cond.methodLink own index y ∈ sg_tbl ∧ Cond.static y ∈ sg_tbl ∧ Cond.initialized y.cls ∈ sg_tbl ∧ Cond.code y bytes maxL ret ∈ sg_tbl ∧ sg_Md y k
def sg_Cn (own : String) (index : Nat) (host : String) (y : MethodName) (bytes : ByteArray) (maxL : Nat) (ret : Option FieldType) (k : Nat) : Prop :=
  (own, index, y, host) ∈ sg_nl ∧ Cond.static y ∈ sg_tbl ∧ Cond.initialized y.cls ∈ sg_tbl ∧ Cond.code y bytes maxL ret ∈ sg_tbl ∧ sg_Md y k
section CALLS
variable {p : Program} {l : Launch} {e : Env} {R : Room} {s : State} {m : MethodId} {args : Array Value} {below : List Frame} {meth : Method} {c : Code} {H : Heap} {locs : List Loc} {cells slots : Nat} {Q : State → Prop}
variable {cc : ByteArray} {pc : Nat} {ls : Array Slot} {rest st0 : List Value} {D : va_G} {cA : Nat → ClassId} {b n : Nat} {h : HP} {own : String}
variable {y : MethodName} {bytes : ByteArray} {maxL nL k index a ci N : Nat} {ret : Option FieldType} {rm : Room} {As : List Value} {lv : List (Nat × Value)} {C : String} {T : u_T}
theorem sg_blind {av : List Value} : FrameBlind (va_Pc av (sg_Wd D b cA n h)) := fun a U g mk q => by
  obtain ⟨q0, qP, qK, qz, qY, qN⟩ := q
  exact ⟨q0, qP, va_K.moved (u := U) (U := U.calling g mk a) (Vm.Alike.refl U.vm) qK, qz, qY, qN.same rfl⟩
theorem sg_pre (hc : sg_Cx p s m args c cc own D cA) (hw : sg_Wo D b cA n s.heap h H locs) (hz : H.size = b + n) {av : List Value} : ∀ U : State, U.heap = H → s.WarmedH U.vm → va_Pc av (sg_Wd D b cA n h) av.toArray U := fun U hU hW =>
  ⟨rfl, by rw [hU]; exact hw.1, va_K.moved hW.alike hc.2.2.2.2.1, by rw [hU]; exact hz, hw.2.1, hc.2.2.2.2.2.warm hW⟩
theorem sg_recv (hc : sg_Cx p s m args c cc own D cA) (hw : sg_Wo D b cA n s.heap h H locs) (ha : a < n) (hT : sg_T a = ci) (h10 : ci < 10) (hci : vwCl[ci]? = some (C, T, N)) : ∃ cell : Cell, H[b + a]? = some cell ∧ cell.vm.isStatics = false ∧ s.vm.findClass C = some cell.cls :=
  va_recv hc.2.2.2.2.1 hw.1 hci ((sg_ws_get ha).trans (by rw [sg_ce_obj hT h10]))
theorem sg_back {u : HP} {t : State} {H1 : Heap} {locs1 : List Loc} (ht : t.heap = H1) (hB : sg_Wd D b cA n u t) (hS : va_S (sg_A b) s.heap H1 locs1) : sg_Wo D b cA n s.heap u H1 locs1 := ⟨by rw [← ht]; exact hB.1, hB.2.2.2.1, hS⟩
theorem sg_vi {P : Int32 → HP → Prop} (hM : Met l y (Cond.code y bytes maxL ret :: sg_tbl) rm (va_Pc (.ref (b + a) :: As) (sg_Wd D b cA n h)) (va_Qi P (sg_Wd D b cA n) (sg_A b)) 0 0 (sg_A b)) (hc : sg_Cx p s m args c cc own D cA) (hw : sg_Wo D b cA n s.heap h H locs) (hz : s.heap.size + cells = b + n) (hml : c.maxLocals = nL) (hl : lv_has ls nL lv) (ha : a < n) (hT : sg_T a = ci) (h10 : ci < 10) (hci : vwCl[ci]? = some (C, T, N)) (hk : sg_Cv own index C y bytes maxL ret k) (hrm : (rm.cells = 0 ∧ rm.slots = 0) ∧ rm.frames + 1 ≤ R.frames ∧ 8 + (maxL + 11) + rm.locals ≤ R.locals) (hcs : cells ≤ R.cells ∧ slots ≤ R.slots) (hn : As.length = k) (hst : st0 = As.reverse ++ .ref (b + a) :: rest) (hrs : (rest.map fun v => v.category).sum ≤ 8) (hdg : decode cc pc = .ok (.invokevirtual index, 3))
    (kk : ∀ (r : Int32) (h : HP) (H : Heap) (locs : List Loc), P r h → sg_Wo D b cA n s.heap h H locs → W p l e R s m args below meth c H locs cells slots Q (F0 m (pc + 3) ls (.int r :: rest))) : W p l e R s m args below meth c H locs cells slots Q (F0 m pc ls st0) := by
  obtain ⟨k1, k2, k3, k4, k5, k6, k7⟩ := hk
  refine sg_size (fun hup => ?_)
  have hsz : H.size = b + n := by have := sg_lo hw (by omega); omega
  obtain ⟨hx, hb, hown, hts, hK, hN⟩ := id hc
  refine va_calli (va_runV (As := As) (rest := rest) (C := C) ⟨hx, hb, hml, hown, hts⟩ hM (cwV k hts (sg_good (fun w hw => ?_)) rfl hrm.1.1 hrm.1.2 ⟨k6, k7⟩ hrm.2) ⟨sg_blind, sg_recv hc hw ha hT h10 hci, sg_pre hc hw hsz⟩ rfl hn hl.1 hst (lv_room hrs) hdg hcs) hw.2.2 (fun q _ h => h) (fun q h => h) (fun r u t H1 locs1 ht hvm hp hB hz1 hk1 hS => kk r u H1 locs1 hp (sg_back ht hB hS))
  simp only [wsV, List.mem_append, List.mem_cons, List.not_mem_nil, or_false] at hw
  rcases hw with (rfl | rfl | rfl | rfl) | rfl | hw
  · exact k1
  · exact k2
  · exact k3
  · exact k4
  · exact k5
  · exact hw
theorem sg_vv {P : HP → Prop} (hM : Met l y (Cond.code y bytes maxL ret :: sg_tbl) rm (va_Pc (.ref (b + a) :: As) (sg_Wd D b cA n h)) (va_Qv P (sg_Wd D b cA n) (sg_A b)) 0 0 (sg_A b)) (hc : sg_Cx p s m args c cc own D cA) (hw : sg_Wo D b cA n s.heap h H locs) (hz : s.heap.size + cells = b + n) (hml : c.maxLocals = nL) (hl : lv_has ls nL lv) (ha : a < n) (hT : sg_T a = ci) (h10 : ci < 10) (hci : vwCl[ci]? = some (C, T, N)) (hk : sg_Cv own index C y bytes maxL ret k) (hrm : (rm.cells = 0 ∧ rm.slots = 0) ∧ rm.frames + 1 ≤ R.frames ∧ 8 + (maxL + 11) + rm.locals ≤ R.locals) (hcs : cells ≤ R.cells ∧ slots ≤ R.slots) (hn : As.length = k) (hst : st0 = As.reverse ++ .ref (b + a) :: rest) (hrs : (rest.map fun v => v.category).sum ≤ 8) (hdg : decode cc pc = .ok (.invokevirtual index, 3))
    (kk : ∀ (h : HP) (H : Heap) (locs : List Loc), P h → sg_Wo D b cA n s.heap h H locs → W p l e R s m args below meth c H locs cells slots Q (F0 m (pc + 3) ls rest)) : W p l e R s m args below meth c H locs cells slots Q (F0 m pc ls st0) := by
  obtain ⟨k1, k2, k3, k4, k5, k6, k7⟩ := hk
  refine sg_size (fun hup => ?_)
  have hsz : H.size = b + n := by have := sg_lo hw (by omega); omega
  obtain ⟨hx, hb, hown, hts, hK, hN⟩ := id hc
  refine va_callv (va_runV (As := As) (rest := rest) (C := C) ⟨hx, hb, hml, hown, hts⟩ hM (cwV k hts (sg_good (fun w hw => ?_)) rfl hrm.1.1 hrm.1.2 ⟨k6, k7⟩ hrm.2) ⟨sg_blind, sg_recv hc hw ha hT h10 hci, sg_pre hc hw hsz⟩ rfl hn hl.1 hst (lv_room hrs) hdg hcs) hw.2.2 (fun q _ h => h) (fun q h => h) (fun u t H1 locs1 ht hvm hp hB hz1 hk1 hS => kk u H1 locs1 hp (sg_back ht hB hS))
  simp only [wsV, List.mem_append, List.mem_cons, List.not_mem_nil, or_false] at hw
  rcases hw with (rfl | rfl | rfl | rfl) | rfl | hw
  · exact k1
  · exact k2
  · exact k3
  · exact k4
  · exact k5
  · exact hw
theorem sg_si {P : Int32 → HP → Prop} (hM : Met l y (Cond.code y bytes maxL ret :: sg_tbl) rm (va_Pc As (sg_Wd D b cA n h)) (va_Qi P (sg_Wd D b cA n) (sg_A b)) 0 0 (sg_A b)) (hc : sg_Cx p s m args c cc own D cA) (hw : sg_Wo D b cA n s.heap h H locs) (hz : s.heap.size + cells = b + n) (hn0 : 0 < n) (hml : c.maxLocals = nL) (hl : lv_has ls nL lv) (hk : sg_Cs own index y bytes maxL ret k) (hrm : (rm.cells = 0 ∧ rm.slots = 0) ∧ rm.frames + 1 ≤ R.frames ∧ 8 + (maxL + 11) + rm.locals ≤ R.locals) (hcs : cells ≤ R.cells ∧ slots ≤ R.slots) (hn : As.length = k) (hst : st0 = As.reverse ++ rest) (hrs : (rest.map fun v => v.category).sum ≤ 8) (hdg : decode cc pc = .ok (.invokestatic index, 3))
    (kk : ∀ (r : Int32) (h : HP) (H : Heap) (locs : List Loc), P r h → sg_Wo D b cA n s.heap h H locs → W p l e R s m args below meth c H locs cells slots Q (F0 m (pc + 3) ls (.int r :: rest))) : W p l e R s m args below meth c H locs cells slots Q (F0 m pc ls st0) := by
  obtain ⟨k1, k2, k3, k4, k5⟩ := hk
  refine sg_size (fun hup => ?_)
  have hsz : H.size = b + n := by have := sg_lo hw hn0; omega
  obtain ⟨hx, hb, hown, hts, hK, hN⟩ := id hc
  refine va_calli (va_runS (As := As) (rest := rest) ⟨hx, hb, hml, hown, hts⟩ hM (va_cwS k hts (sg_good (fun w hw => ?_)) rfl hrm.1.1 hrm.1.2 k5 hrm.2) ⟨sg_blind, sg_pre hc hw hsz⟩ rfl hn hl.1 hst (lv_room hrs) hdg hcs) hw.2.2 (fun q _ h => h) (fun q h => h) (fun r u t H1 locs1 ht hvm hp hB hz1 hk1 hS => kk r u H1 locs1 hp (sg_back ht hB hS))
  simp only [va_wsS, List.mem_append, List.mem_cons, List.not_mem_nil, or_false] at hw
  rcases hw with (rfl | rfl | rfl) | rfl | hw
  · exact k1
  · exact k2
  · exact k3
  · exact k4
  · exact hw
theorem sg_sv' {P : HP → Prop} (hM : Met l y (Cond.code y bytes maxL ret :: sg_tbl) rm (va_Pc As (sg_Wd D b cA n h)) (va_Qv P (sg_Wd D b cA n) (sg_A b)) 0 0 (sg_A b)) (hc : sg_Cx p s m args c cc own D cA) (hw : sg_Wo D b cA n s.heap h H locs) (hz : s.heap.size + cells = b + n) (hn0 : 0 < n) (hml : c.maxLocals = nL) (hl : lv_has ls nL lv) (hk : sg_Cs own index y bytes maxL ret k) (hrm : (rm.cells = 0 ∧ rm.slots = 0) ∧ rm.frames + 1 ≤ R.frames ∧ 8 + (maxL + 11) + rm.locals ≤ R.locals) (hcs : cells ≤ R.cells ∧ slots ≤ R.slots) (hn : As.length = k) (hst : st0 = As.reverse ++ rest) (hrs : (rest.map fun v => v.category).sum ≤ 8) (hdg : decode cc pc = .ok (.invokestatic index, 3))
    (kk : ∀ (h : HP) (H : Heap) (locs : List Loc), P h → sg_Wo D b cA n s.heap h H locs → W p l e R s m args below meth c H locs cells slots Q (F0 m (pc + 3) ls rest)) : W p l e R s m args below meth c H locs cells slots Q (F0 m pc ls st0) := by
  obtain ⟨k1, k2, k3, k4, k5⟩ := hk
  refine sg_size (fun hup => ?_)
  have hsz : H.size = b + n := by have := sg_lo hw hn0; omega
  obtain ⟨hx, hb, hown, hts, hK, hN⟩ := id hc
  refine va_callv (va_runS (As := As) (rest := rest) ⟨hx, hb, hml, hown, hts⟩ hM (va_cwS k hts (sg_good (fun w hw => ?_)) rfl hrm.1.1 hrm.1.2 k5 hrm.2) ⟨sg_blind, sg_pre hc hw hsz⟩ rfl hn hl.1 hst (lv_room hrs) hdg hcs) hw.2.2 (fun q _ h => h) (fun q h => h) (fun u t H1 locs1 ht hvm hp hB hz1 hk1 hS => kk u H1 locs1 hp (sg_back ht hB hS))
  simp only [va_wsS, List.mem_append, List.mem_cons, List.not_mem_nil, or_false] at hw
  rcases hw with (rfl | rfl | rfl) | rfl | hw
  · exact k1
  · exact k2
  · exact k3
  · exact k4
  · exact hw
theorem sg_ni {host : String} {P : Int32 → HP → Prop} (hM : Met l y (Cond.code y bytes maxL ret :: sg_tbl) rm (va_Pc As (sg_Wd D b cA n h)) (va_Qi P (sg_Wd D b cA n) (sg_A b)) 0 0 (sg_A b)) (hc : sg_Cx p s m args c cc own D cA) (hw : sg_Wo D b cA n s.heap h H locs) (hz : s.heap.size + cells = b + n) (hn0 : 0 < n) (hml : c.maxLocals = nL) (hl : lv_has ls nL lv) (hk : sg_Cn own index host y bytes maxL ret k) (hrm : (rm.cells = 0 ∧ rm.slots = 0) ∧ rm.frames + 1 ≤ R.frames ∧ 8 + (maxL + 11) + rm.locals ≤ R.locals) (hcs : cells ≤ R.cells ∧ slots ≤ R.slots) (hn : As.length = k) (hst : st0 = As.reverse ++ rest) (hrs : (rest.map fun v => v.category).sum ≤ 8) (hdg : decode cc pc = .ok (.invokestatic index, 3))
    (kk : ∀ (r : Int32) (h : HP) (H : Heap) (locs : List Loc), P r h → sg_Wo D b cA n s.heap h H locs → W p l e R s m args below meth c H locs cells slots Q (F0 m (pc + 3) ls (.int r :: rest))) : W p l e R s m args below meth c H locs cells slots Q (F0 m pc ls st0) := by
  obtain ⟨k1, k2, k3, k4, k5⟩ := hk
  refine sg_size (fun hup => ?_)
  have hsz : H.size = b + n := by have := sg_lo hw hn0; omega
  obtain ⟨hx, hb, hown, hts, hK, hN⟩ := id hc
  refine va_calli (va_runSN (As := As) (rest := rest) ⟨hx, hb, hml, hown, hts⟩ hM ⟨va_cnB k hts (sg_goodC k4) rfl hrm.1.1 hrm.1.2 (hN _ k1) (hts _ k3) k5 hrm.2, hts _ k2, trivial⟩ ⟨sg_blind, sg_pre hc hw hsz⟩ rfl hn hl.1 hst (lv_room hrs) hdg hcs) hw.2.2 (fun q _ h => h) (fun q h => h) (fun r u t H1 locs1 ht hvm hp hB hz1 hk1 hS => kk r u H1 locs1 hp (sg_back ht hB hS))
theorem sg_iret {P : Int32 → HP → Prop} {v : Int32} (hc : sg_Cx p s m args c cc own D cA) (hw : sg_Wo D b cA n s.heap h H locs) (hz : s.heap.size = b + n) (hn0 : 0 < n) (hr : meth.sig.returnType = some .int) (hlocks : meth.locks = false) (hp : P v h) (hdg : decode cc pc = .ok (.ireturn, 1)) :
    W p l e R s m args below meth c H locs 0 0 (MQ below (va_Qi P (sg_Wd D b cA n) (sg_A b)) args s 0 0 (sg_A b)) (F0 m pc ls [.int v]) := by
  refine sg_size (fun hup => ?_)
  have hsz : H.size = b + n := by have := sg_lo hw hn0; omega
  exact W.iret hc.1 hc.2.1 hr (fun t ht hW => ⟨⟨v, h, rfl, hp, by rw [ht]; exact hw.1, va_K.moved hW.alike hc.2.2.2.2.1, by rw [ht]; exact hsz, hw.2.1, hc.2.2.2.2.2.warm hW⟩, hw.2.2.F ht⟩) hw.2.2.2.2 hdg hlocks
theorem sg_zret {P : Int32 → HP → Prop} {v : Int32} (hc : sg_Cx p s m args c cc own D cA) (hw : sg_Wo D b cA n s.heap h H locs) (hz : s.heap.size = b + n) (hn0 : 0 < n) (hr : meth.sig.returnType = some .boolean) (hlocks : meth.locks = false) (hnb : narrow .boolean (.int v) = .int v) (hp : P v h) (hdg : decode cc pc = .ok (.ireturn, 1)) :
    W p l e R s m args below meth c H locs 0 0 (MQ below (va_Qi P (sg_Wd D b cA n) (sg_A b)) args s 0 0 (sg_A b)) (F0 m pc ls [.int v]) := by
  refine sg_size (fun hup => ?_)
  have hsz : H.size = b + n := by have := sg_lo hw hn0; omega
  exact W.zret hc.1 hc.2.1 hr hnb (fun t ht hW => ⟨⟨v, h, rfl, hp, by rw [ht]; exact hw.1, va_K.moved hW.alike hc.2.2.2.2.1, by rw [ht]; exact hsz, hw.2.1, hc.2.2.2.2.2.warm hW⟩, hw.2.2.F ht⟩) hw.2.2.2.2 hdg hlocks
theorem sg_vret {P : HP → Prop} (hc : sg_Cx p s m args c cc own D cA) (hw : sg_Wo D b cA n s.heap h H locs) (hz : s.heap.size = b + n) (hn0 : 0 < n) (hr : meth.sig.returnType = none) (hlocks : meth.locks = false) (hp : P h) (hdg : decode cc pc = .ok (.return_, 1)) :
    W p l e R s m args below meth c H locs 0 0 (MQ below (va_Qv P (sg_Wd D b cA n) (sg_A b)) args s 0 0 (sg_A b)) (F0 m pc ls []) := by
  refine sg_size (fun hup => ?_)
  have hsz : H.size = b + n := by have := sg_lo hw hn0; omega
  exact W.vret hc.1 hc.2.1 hr (fun t ht hW => ⟨⟨h, rfl, hp, by rw [ht]; exact hw.1, va_K.moved hW.alike hc.2.2.2.2.1, by rw [ht]; exact hsz, hw.2.1, hc.2.2.2.2.2.warm hW⟩, hw.2.2.F ht⟩) hw.2.2.2.2 hdg hlocks
end CALLS
abbrev sg_Qi (below : List Frame) (args : Array Value) (s : State) (D : va_G) (b : Nat) (cA : Nat → ClassId) (n : Nat) (P : Int32 → HP → Prop) : State → Prop := MQ below (va_Qi P (sg_Wd D b cA n) (sg_A b)) args s 0 0 (sg_A b)
abbrev sg_Qv (below : List Frame) (args : Array Value) (s : State) (D : va_G) (b : Nat) (cA : Nat → ClassId) (n : Nat) (P : HP → Prop) : State → Prop := MQ below (va_Qv P (sg_Wd D b cA n) (sg_A b)) args s 0 0 (sg_A b)
theorem sg_pos {n : Nat} (hn : sg_okN n) : 0 < n := by rcases hn with rfl | rfl <;> decide
theorem sg_name {β : Type} {D : va_G} {b n : Nat} {cA : Nat → ClassId} {H0 H : Heap} {h : HP} {locs : List Loc} {K : HP → Option β} {R : β} (hw : sg_Wo D b cA n H0 h H locs) (hf : nm h K = some R) : ∃ h', sg_Wo D b cA n H0 h' H locs ∧ K h' = some R := ⟨h, hw, hf⟩
theorem sg_nq {β : Type} {r n t : Nat} {K : Nat → Option β} {R : β} (hg : r ≠ 0) (ha : r - 1 < n) (hT : sg_T (r - 1) = t) (hf : nm (r - 1) K = some R) : ∃ q, r = q + 1 ∧ q < n ∧ sg_T q = t ∧ K q = some R := ⟨r - 1, by omega, ha, hT, hf⟩
theorem vp_lt {i : Int32} {n : Nat} (h : vp_in i n) : i.toNatClampNeg < n := Nat.not_le.mp fun q => h (Or.inr q)
theorem sg_ne {x c : Int32} (h : ¬ x = c) {k : Int} (hk : c.toInt = k) : x.toInt ≠ k := fun e => h (Int32.toInt_inj.mp (e.trans hk.symm))
