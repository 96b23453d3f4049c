def F_J6_bitCount_0f7a4 (x0 : Int32) : Option (Int32) :=
  nm (x0 - ((x0.toUInt32 >>> ((1 : Int32).toUInt32 &&& Int32.toUInt32 31)).toInt32 &&& 1431655765)) (fun v9 =>
  nm ((v9 &&& 858993459) + ((v9.toUInt32 >>> ((2 : Int32).toUInt32 &&& Int32.toUInt32 31)).toInt32 &&& 858993459)) (fun v23 =>
  nm ((v23 + (v23.toUInt32 >>> ((4 : Int32).toUInt32 &&& Int32.toUInt32 31)).toInt32) &&& 252645135) (fun v33 =>
  nm (v33 + (v33.toUInt32 >>> ((8 : Int32).toUInt32 &&& Int32.toUInt32 31)).toInt32) (fun v40 =>
  nm (v40 + (v40.toUInt32 >>> ((16 : Int32).toUInt32 &&& Int32.toUInt32 31)).toInt32) (fun v47 =>
  some (v47 &&& 63))))))
set_option maxHeartbeats 4000000 in
set_option maxRecDepth 100000 in
theorem w_J6_bitCount_0f7a4 {p : Program} {l : Launch} {e : Env} {R : Room} {s : State} {m : MethodId} {args : Array Value} {below : List Frame} {meth : Method} {c : Code} {D : va_G} {cA : Nat → ClassId} {b n : Nat} (hn : sg_okN n) {x0 : Int32} {h : HP} {Rz : Int32} (hc : sg_Cx p s m args c cJ6_bitCount_0f7a4 RJ6 D cA) (hz : s.heap.size = b + n) (hr : meth.sig.returnType = some .int) (hlocks : meth.locks = false) (hml : c.maxLocals = 1) (hRf : 0 ≤ R.frames) (hRl : 0 ≤ R.locals) (hf : F_J6_bitCount_0f7a4 x0 = some Rz) (H : Heap) (locs : List Loc) (ls : Array Slot) (hw : sg_Wo D b cA n s.heap h H locs) (hl : lv_has ls 1 [(0, .int x0)]) : W p l e R s m args below meth c H locs 0 0 (sg_Qi below args s D b cA n (fun r u => r = Rz ∧ u = h)) (F0 m 0 ls []) := by
  have hx := hc.1
  have hb := hc.2.1
  have hn0 : 0 < n := sg_pos hn
  unfold F_J6_bitCount_0f7a4 at hf
  refine lv_iload_n hx hb dJ6_bitCount_0f7a4_0 rfl (lv_at hl 0 rfl) ?_
  refine lv_iload_n hx hb dJ6_bitCount_0f7a4_1 rfl (lv_at hl 0 rfl) ?_
  refine lv_iconst (v := 1) hx hb dJ6_bitCount_0f7a4_2 (by decide) ?_
  refine lv_iushr hx hb dJ6_bitCount_0f7a4_3 rfl ?_
  refine lv_ldcw hx hb hc.2.2.1 (hc.2.2.2.1 _ k_498) dJ6_bitCount_0f7a4_4 ?_
  refine lv_iand hx hb dJ6_bitCount_0f7a4_7 ?_
  refine lv_isub hx hb dJ6_bitCount_0f7a4_8 ?_
  refine lv_topi (fun v9 e9 => ?_)
  have hf := nm_of e9 hf
  refine lv_istore_n (lv' := [(0, .int v9)]) hx hb dJ6_bitCount_0f7a4_9 rfl hl (by decide) rfl (fun ls hl => ?_)
  refine lv_iload_n hx hb dJ6_bitCount_0f7a4_10 rfl (lv_at hl 0 rfl) ?_
  refine lv_ldcw hx hb hc.2.2.1 (hc.2.2.2.1 _ k_499) dJ6_bitCount_0f7a4_11 ?_
  refine lv_iand hx hb dJ6_bitCount_0f7a4_14 ?_
  refine lv_iload_n hx hb dJ6_bitCount_0f7a4_15 rfl (lv_at hl 0 rfl) ?_
  refine lv_iconst (v := 2) hx hb dJ6_bitCount_0f7a4_16 (by decide) ?_
  refine lv_iushr hx hb dJ6_bitCount_0f7a4_17 rfl ?_
  refine lv_ldcw hx hb hc.2.2.1 (hc.2.2.2.1 _ k_499) dJ6_bitCount_0f7a4_18 ?_
  refine lv_iand hx hb dJ6_bitCount_0f7a4_21 ?_
  refine lv_iadd hx hb dJ6_bitCount_0f7a4_22 ?_
  refine lv_topi (fun v23 e23 => ?_)
  have hf := nm_of e23 hf
  refine lv_istore_n (lv' := [(0, .int v23)]) hx hb dJ6_bitCount_0f7a4_23 rfl hl (by decide) rfl (fun ls hl => ?_)
  refine lv_iload_n hx hb dJ6_bitCount_0f7a4_24 rfl (lv_at hl 0 rfl) ?_
  refine lv_iload_n hx hb dJ6_bitCount_0f7a4_25 rfl (lv_at hl 0 rfl) ?_
  refine lv_iconst (v := 4) hx hb dJ6_bitCount_0f7a4_26 (by decide) ?_
  refine lv_iushr hx hb dJ6_bitCount_0f7a4_27 rfl ?_
  refine lv_iadd hx hb dJ6_bitCount_0f7a4_28 ?_
  refine lv_ldcw hx hb hc.2.2.1 (hc.2.2.2.1 _ k_500) dJ6_bitCount_0f7a4_29 ?_
  refine lv_iand hx hb dJ6_bitCount_0f7a4_32 ?_
  refine lv_topi (fun v33 e33 => ?_)
  have hf := nm_of e33 hf
  refine lv_istore_n (lv' := [(0, .int v33)]) hx hb dJ6_bitCount_0f7a4_33 rfl hl (by decide) rfl (fun ls hl => ?_)
  refine lv_iload_n hx hb dJ6_bitCount_0f7a4_34 rfl (lv_at hl 0 rfl) ?_
  refine lv_iload_n hx hb dJ6_bitCount_0f7a4_35 rfl (lv_at hl 0 rfl) ?_
  refine lv_bipush (v := 8) hx hb dJ6_bitCount_0f7a4_36 (by decide) ?_
  refine lv_iushr hx hb dJ6_bitCount_0f7a4_38 rfl ?_
  refine lv_iadd hx hb dJ6_bitCount_0f7a4_39 ?_
  refine lv_topi (fun v40 e40 => ?_)
  have hf := nm_of e40 hf
  refine lv_istore_n (lv' := [(0, .int v40)]) hx hb dJ6_bitCount_0f7a4_40 rfl hl (by decide) rfl (fun ls hl => ?_)
  refine lv_iload_n hx hb dJ6_bitCount_0f7a4_41 rfl (lv_at hl 0 rfl) ?_
  refine lv_iload_n hx hb dJ6_bitCount_0f7a4_42 rfl (lv_at hl 0 rfl) ?_
  refine lv_bipush (v := 16) hx hb dJ6_bitCount_0f7a4_43 (by decide) ?_
  refine lv_iushr hx hb dJ6_bitCount_0f7a4_45 rfl ?_
  refine lv_iadd hx hb dJ6_bitCount_0f7a4_46 ?_
  refine lv_topi (fun v47 e47 => ?_)
  have hf := nm_of e47 hf
  refine lv_istore_n (lv' := [(0, .int v47)]) hx hb dJ6_bitCount_0f7a4_47 rfl hl (by decide) rfl (fun ls hl => ?_)
  refine lv_iload_n hx hb dJ6_bitCount_0f7a4_48 rfl (lv_at hl 0 rfl) ?_
  refine lv_bipush (v := 63) hx hb dJ6_bitCount_0f7a4_49 (by decide) ?_
  refine lv_iand hx hb dJ6_bitCount_0f7a4_51 ?_
  cases hf
  exact sg_iret hc hw hz hn0 hr hlocks ⟨rfl, rfl⟩ dJ6_bitCount_0f7a4_52
theorem c_J6_bitCount_0f7a4 {l : Launch} {D : va_G} {cA : Nat → ClassId} {b n : Nat} (hn : sg_okN n) {x0 : Int32} {h : HP} {Rz : Int32} (hf : F_J6_bitCount_0f7a4 x0 = some Rz) : Met l yJ6_bitCount_0f7a4 (Cond.code yJ6_bitCount_0f7a4 cJ6_bitCount_0f7a4 1 (some .int) :: sg_tbl) ({ frames := 0, cells := 0, slots := 0, locals := 0 } : Room) (va_Pc [.int x0] (sg_Wd D b cA n h)) (va_Qi (fun r u => r = Rz ∧ u = h) (sg_Wd D b cA n) (sg_A b)) 0 0 (sg_A b) := by
  refine Met.ofW (cc := cJ6_bitCount_0f7a4) (maxL := 1) (ret := (some .int)) (by decide) rfl ?_
  intro p e s m args below meth c s₁ B hml hv
  obtain ⟨rfl, hP, hK, hz, hY, hN⟩ := hv
  have hl := lv_entry [.int x0] (n := 1) (Nat.le_of_ble_eq_true rfl)
  rw [lg_entry_eq]
  exact w_J6_bitCount_0f7a4 hn ⟨B.exec, B.bytes, findClass_of_methodNamed B.named, fun w h => atoms_spec (ws := Cond.code yJ6_bitCount_0f7a4 cJ6_bitCount_0f7a4 1 (some .int) :: sg_tbl) B.pre w (List.mem_cons_of_mem _ h), hK, hN⟩ hz B.returns B.notSynchronized hml (Nat.le_refl _) (Nat.le_refl _) hf _ _ _ ⟨hP, hY, va_S.rf⟩ hl
def F_X8_within (x0 : Int32) (x1 : Int32) (x2 : Int32) : Option (Int32) :=
  (if x0 < x1 then
  some 0
  else
  (if x2 < x0 then
  some 0
  else
  some 1))
set_option maxHeartbeats 4000000 in
set_option maxRecDepth 100000 in
theorem w_X8_within {p : Program} {l : Launch} {e : Env} {R : Room} {s : State} {m : MethodId} {args : Array Value} {below : List Frame} {meth : Method} {c : Code} {D : va_G} {cA : Nat → ClassId} {b n : Nat} (hn : sg_okN n) {x0 : Int32} {x1 : Int32} {x2 : Int32} {h : HP} {Rz : Int32} (hc : sg_Cx p s m args c cX8_within RX8 D cA) (hz : s.heap.size = b + n) (hr : meth.sig.returnType = some .boolean) (hlocks : meth.locks = false) (hml : c.maxLocals = 3) (hRf : 0 ≤ R.frames) (hRl : 0 ≤ R.locals) (hf : F_X8_within x0 x1 x2 = some Rz) (H : Heap) (locs : List Loc) (ls : Array Slot) (hw : sg_Wo D b cA n s.heap h H locs) (hl : lv_has ls 3 [(0, .int x0), (1, .int x1), (2, .int x2)]) : W p l e R s m args below meth c H locs 0 0 (sg_Qi below args s D b cA n (fun r u => (r = Rz ∧ u = h) ∧ narrow .boolean (.int r) = .int r)) (F0 m 0 ls []) := by
  have hx := hc.1
  have hb := hc.2.1
  have hn0 : 0 < n := sg_pos hn
  unfold F_X8_within at hf
  refine lv_iload_n hx hb dX8_within_0 rfl (lv_at hl 0 rfl) ?_
  refine lv_iload_n hx hb dX8_within_1 rfl (lv_at hl 1 rfl) ?_
  refine lv_icmp_lt (tgt := 14) hx hb dX8_within_2 (by decide) (fun c2 => ?_) (fun c2 => ?_)
  · have hf := if_of c2 hf
    refine lv_iconst (v := 0) hx hb dX8_within_14 (by decide) ?_
    cases hf
    exact sg_zret hc hw hz hn0 hr hlocks rfl ⟨⟨rfl, rfl⟩, rfl⟩ dX8_within_15
  · have hf := if_no c2 hf
    refine lv_iload_n hx hb dX8_within_5 rfl (lv_at hl 0 rfl) ?_
    refine lv_iload_n hx hb dX8_within_6 rfl (lv_at hl 2 rfl) ?_
    refine lv_icmp_gt (tgt := 14) hx hb dX8_within_7 (by decide) (fun c7 => ?_) (fun c7 => ?_)
    · have hf := if_of c7 hf
      refine lv_iconst (v := 0) hx hb dX8_within_14 (by decide) ?_
      cases hf
      exact sg_zret hc hw hz hn0 hr hlocks rfl ⟨⟨rfl, rfl⟩, rfl⟩ dX8_within_15
    · have hf := if_no c7 hf
      refine lv_iconst (v := 1) hx hb dX8_within_10 (by decide) ?_
      refine lv_goto (tgt := 15) hx hb dX8_within_11 (by decide) ?_
      cases hf
      exact sg_zret hc hw hz hn0 hr hlocks rfl ⟨⟨rfl, rfl⟩, rfl⟩ dX8_within_15
theorem c_X8_within {l : Launch} {D : va_G} {cA : Nat → ClassId} {b n : Nat} (hn : sg_okN n) {x0 : Int32} {x1 : Int32} {x2 : Int32} {h : HP} {Rz : Int32} (hf : F_X8_within x0 x1 x2 = some Rz) : Met l yX8_within (Cond.code yX8_within cX8_within 3 (some .boolean) :: sg_tbl) ({ frames := 0, cells := 0, slots := 0, locals := 0 } : Room) (va_Pc [.int x0, .int x1, .int x2] (sg_Wd D b cA n h)) (va_Qi (fun r u => (r = Rz ∧ u = h) ∧ narrow .boolean (.int r) = .int r) (sg_Wd D b cA n) (sg_A b)) 0 0 (sg_A b) := by
  refine Met.ofW (cc := cX8_within) (maxL := 3) (ret := (some .boolean)) (by decide) rfl ?_
  intro p e s m args below meth c s₁ B hml hv
  obtain ⟨rfl, hP, hK, hz, hY, hN⟩ := hv
  have hl := lv_entry [.int x0, .int x1, .int x2] (n := 3) (Nat.le_of_ble_eq_true rfl)
  rw [lg_entry_eq]
  exact w_X8_within hn ⟨B.exec, B.bytes, findClass_of_methodNamed B.named, fun w h => atoms_spec (ws := Cond.code yX8_within cX8_within 3 (some .boolean) :: sg_tbl) B.pre w (List.mem_cons_of_mem _ h), hK, hN⟩ hz B.returns B.notSynchronized hml (Nat.le_refl _) (Nat.le_refl _) hf _ _ _ ⟨hP, hY, va_S.rf⟩ hl
def F_X8_isIn (x0 : Int32) (x1 : Int32) : Option (Int32) :=
  (if ((x1 >>> (x0 &&& 31)) &&& 1) = 0 then
  some 0
  else
  some 1)
set_option maxHeartbeats 4000000 in
set_option maxRecDepth 100000 in
theorem w_X8_isIn {p : Program} {l : Launch} {e : Env} {R : Room} {s : State} {m : MethodId} {args : Array Value} {below : List Frame} {meth : Method} {c : Code} {D : va_G} {cA : Nat → ClassId} {b n : Nat} (hn : sg_okN n) {x0 : Int32} {x1 : Int32} {h : HP} {Rz : Int32} (hc : sg_Cx p s m args c cX8_isIn RX8 D cA) (hz : s.heap.size = b + n) (hr : meth.sig.returnType = some .boolean) (hlocks : meth.locks = false) (hml : c.maxLocals = 2) (hRf : 0 ≤ R.frames) (hRl : 0 ≤ R.locals) (hf : F_X8_isIn x0 x1 = some Rz) (H : Heap) (locs : List Loc) (ls : Array Slot) (hw : sg_Wo D b cA n s.heap h H locs) (hl : lv_has ls 2 [(0, .int x0), (1, .int x1)]) : W p l e R s m args below meth c H locs 0 0 (sg_Qi below args s D b cA n (fun r u => (r = Rz ∧ u = h) ∧ narrow .boolean (.int r) = .int r)) (F0 m 0 ls []) := by
  have hx := hc.1
  have hb := hc.2.1
  have hn0 : 0 < n := sg_pos hn
  unfold F_X8_isIn at hf
  refine lv_iload_n hx hb dX8_isIn_0 rfl (lv_at hl 1 rfl) ?_
  refine lv_iload_n hx hb dX8_isIn_1 rfl (lv_at hl 0 rfl) ?_
  refine lv_ishr hx hb dX8_isIn_2 ?_
  refine lv_iconst (v := 1) hx hb dX8_isIn_3 (by decide) ?_
  refine lv_iand hx hb dX8_isIn_4 ?_
  refine lv_if_eq (tgt := 12) hx hb dX8_isIn_5 (by decide) (fun c5 => ?_) (fun c5 => ?_)
  · have hf := if_of c5 hf
    refine lv_iconst (v := 0) hx hb dX8_isIn_12 (by decide) ?_
    cases hf
    exact sg_zret hc hw hz hn0 hr hlocks rfl ⟨⟨rfl, rfl⟩, rfl⟩ dX8_isIn_13
  · have hf := if_no c5 hf
    refine lv_iconst (v := 1) hx hb dX8_isIn_8 (by decide) ?_
    refine lv_goto (tgt := 13) hx hb dX8_isIn_9 (by decide) ?_
    cases hf
    exact sg_zret hc hw hz hn0 hr hlocks rfl ⟨⟨rfl, rfl⟩, rfl⟩ dX8_isIn_13
theorem c_X8_isIn {l : Launch} {D : va_G} {cA : Nat → ClassId} {b n : Nat} (hn : sg_okN n) {x0 : Int32} {x1 : Int32} {h : HP} {Rz : Int32} (hf : F_X8_isIn x0 x1 = some Rz) : Met l yX8_isIn (Cond.code yX8_isIn cX8_isIn 2 (some .boolean) :: sg_tbl) ({ frames := 0, cells := 0, slots := 0, locals := 0 } : Room) (va_Pc [.int x0, .int x1] (sg_Wd D b cA n h)) (va_Qi (fun r u => (r = Rz ∧ u = h) ∧ narrow .boolean (.int r) = .int r) (sg_Wd D b cA n) (sg_A b)) 0 0 (sg_A b) := by
  refine Met.ofW (cc := cX8_isIn) (maxL := 2) (ret := (some .boolean)) (by decide) rfl ?_
  intro p e s m args below meth c s₁ B hml hv
  obtain ⟨rfl, hP, hK, hz, hY, hN⟩ := hv
  have hl := lv_entry [.int x0, .int x1] (n := 2) (Nat.le_of_ble_eq_true rfl)
  rw [lg_entry_eq]
  exact w_X8_isIn hn ⟨B.exec, B.bytes, findClass_of_methodNamed B.named, fun w h => atoms_spec (ws := Cond.code yX8_isIn cX8_isIn 2 (some .boolean) :: sg_tbl) B.pre w (List.mem_cons_of_mem _ h), hK, hN⟩ hz B.returns B.notSynchronized hml (Nat.le_refl _) (Nat.le_refl _) hf _ _ _ ⟨hP, hY, va_S.rf⟩ hl
def F_X8_toll_J45 (s0 : Int32) : Option (Int32) :=
  (if 1 ≤ s0 then
  some s0
  else
  some 1)
def F_X8_toll_J31 (x2 : Int32) (x4 : Int32) : Option (Int32) :=
  (if x2 ≤ 1 then
  F_X8_toll_J45 x4
  else
  gz x2 (
  F_X8_toll_J45 (x4 / x2)))
def F_X8_toll (x0 : Int32) (x1 : Int32) (x2 : Int32) (x3 : Int32) : Option (Int32) :=
  (if x1 = 1 then
  nm (2 * x0) (fun v11 =>
  F_X8_toll_J31 x2 v11)
  else
  (if x1 = 3 then
  (if x3 ≤ 1 then
  F_X8_toll_J31 x2 x0
  else
  nm (x0 - 1) (fun v29 =>
  F_X8_toll_J31 x2 v29))
  else
  F_X8_toll_J31 x2 x0))
set_option maxHeartbeats 4000000 in
set_option maxRecDepth 100000 in
theorem w_X8_toll {p : Program} {l : Launch} {e : Env} {R : Room} {s : State} {m : MethodId} {args : Array Value} {below : List Frame} {meth : Method} {c : Code} {D : va_G} {cA : Nat → ClassId} {b n : Nat} (hn : sg_okN n) {x0 : Int32} {x1 : Int32} {x2 : Int32} {x3 : Int32} {h : HP} {Rz : Int32} (hc : sg_Cx p s m args c cX8_toll RX8 D cA) (hz : s.heap.size = b + n) (hr : meth.sig.returnType = some .int) (hlocks : meth.locks = false) (hml : c.maxLocals = 6) (hRf : 0 ≤ R.frames) (hRl : 0 ≤ R.locals) (hf : F_X8_toll x0 x1 x2 x3 = some Rz) (H : Heap) (locs : List Loc) (ls : Array Slot) (hw : sg_Wo D b cA n s.heap h H locs) (hl : lv_has ls 6 [(0, .int x0), (1, .int x1), (2, .int x2), (3, .int x3)]) : W p l e R s m args below meth c H locs 0 0 (sg_Qi below args s D b cA n (fun r u => r = Rz ∧ u = h)) (F0 m 0 ls []) := by
  have hx := hc.1
  have hb := hc.2.1
  have hn0 : 0 < n := sg_pos hn
  have J45 : ∀ (s0 : Int32) (H : Heap) (locs : List Loc) (ls : Array Slot), F_X8_toll_J45 s0 = some Rz → sg_Wo D b cA n s.heap h H locs → lv_has ls 6 [] → W p l e R s m args below meth c H locs 0 0 (sg_Qi below args s D b cA n (fun r u => r = Rz ∧ u = h)) (F0 m 45 ls [.int s0]) := by
    intro s0 H locs ls hf hw hl
    unfold F_X8_toll_J45 at hf
    refine lv_istore (lv' := [(5, .int s0)]) hx hb dX8_toll_45 hl (by decide) rfl (fun ls hl => ?_)
    refine lv_iload hx hb dX8_toll_47 (lv_at hl 0 rfl) ?_
    refine lv_iconst (v := 1) hx hb dX8_toll_49 (by decide) ?_
    refine lv_icmp_ge (tgt := 57) hx hb dX8_toll_50 (by decide) (fun c50 => ?_) (fun c50 => ?_)
    · have hf := if_of c50 hf
      refine lv_iload hx hb dX8_toll_57 (lv_at hl 0 rfl) ?_
      cases hf
      exact sg_iret hc hw hz hn0 hr hlocks ⟨rfl, rfl⟩ dX8_toll_59
    · have hf := if_no c50 hf
      refine lv_iconst (v := 1) hx hb dX8_toll_53 (by decide) ?_
      refine lv_goto (tgt := 59) hx hb dX8_toll_54 (by decide) ?_
      cases hf
      exact sg_iret hc hw hz hn0 hr hlocks ⟨rfl, rfl⟩ dX8_toll_59
  have J31 : ∀ (x2 : Int32) (x4 : Int32) (H : Heap) (locs : List Loc) (ls : Array Slot), F_X8_toll_J31 x2 x4 = some Rz → sg_Wo D b cA n s.heap h H locs → lv_has ls 6 [(2, .int x2), (4, .int x4)] → W p l e R s m args below meth c H locs 0 0 (sg_Qi below args s D b cA n (fun r u => r = Rz ∧ u = h)) (F0 m 31 ls []) := by
    intro x2 x4 H locs ls hf hw hl
    unfold F_X8_toll_J31 at hf
    refine lv_iload_n hx hb dX8_toll_31 rfl (lv_at hl 0 rfl) ?_
    refine lv_iconst (v := 1) hx hb dX8_toll_32 (by decide) ?_
    refine lv_icmp_le (tgt := 43) hx hb dX8_toll_33 (by decide) (fun c33 => ?_) (fun c33 => ?_)
    · have hf := if_of c33 hf
      refine lv_iload hx hb dX8_toll_43 (lv_at hl 1 rfl) ?_
      exact J45 x4 _ _ _ hf hw (lv_sub hl [] rfl)
    · have hf := if_no c33 hf
      refine lv_iload hx hb dX8_toll_36 (lv_at hl 1 rfl) ?_
      refine lv_iload_n hx hb dX8_toll_38 rfl (lv_at hl 0 rfl) ?_
      obtain ⟨hg39, hf⟩ := gz_of hf
      refine lv_idiv hx hb dX8_toll_39 hg39 ?_
      refine lv_goto (tgt := 45) hx hb dX8_toll_40 (by decide) ?_
      exact J45 (x4 / x2) _ _ _ hf hw (lv_sub hl [] rfl)
  unfold F_X8_toll at hf
  refine lv_iload_n hx hb dX8_toll_0 rfl (lv_at hl 0 rfl) ?_
  refine lv_istore (lv' := [(4, .int x0), (0, .int x0), (1, .int x1), (2, .int x2), (3, .int x3)]) hx hb dX8_toll_1 hl (by decide) rfl (fun ls hl => ?_)
  refine lv_iload_n hx hb dX8_toll_3 rfl (lv_at hl 2 rfl) ?_
  refine lv_iconst (v := 1) hx hb dX8_toll_4 (by decide) ?_
  refine lv_icmp_ne (tgt := 16) hx hb dX8_toll_5 (by decide) (fun c5 => ?_) (fun c5 => ?_)
  · have hf := if_no c5 hf
    refine lv_iload_n hx hb dX8_toll_16 rfl (lv_at hl 2 rfl) ?_
    refine lv_iconst (v := 3) hx hb dX8_toll_17 (by decide) ?_
    refine lv_icmp_ne (tgt := 31) hx hb dX8_toll_18 (by decide) (fun c18 => ?_) (fun c18 => ?_)
    · have hf := if_no c18 hf
      exact J31 x2 x0 _ _ _ hf hw (lv_sub hl [3, 0] rfl)
    · have hf := if_of c18 hf
      refine lv_iload_n hx hb dX8_toll_21 rfl (lv_at hl 4 rfl) ?_
      refine lv_iconst (v := 1) hx hb dX8_toll_22 (by decide) ?_
      refine lv_icmp_le (tgt := 31) hx hb dX8_toll_23 (by decide) (fun c23 => ?_) (fun c23 => ?_)
      · have hf := if_of c23 hf
        exact J31 x2 x0 _ _ _ hf hw (lv_sub hl [3, 0] rfl)
      · have hf := if_no c23 hf
        refine lv_iload_n hx hb dX8_toll_26 rfl (lv_at hl 1 rfl) ?_
        refine lv_iconst (v := 1) hx hb dX8_toll_27 (by decide) ?_
        refine lv_isub hx hb dX8_toll_28 ?_
        refine lv_topi (fun v29 e29 => ?_)
        have hf := nm_of e29 hf
        refine lv_istore (lv' := [(4, .int v29), (0, .int x0), (1, .int x1), (2, .int x2), (3, .int x3)]) hx hb dX8_toll_29 hl (by decide) rfl (fun ls hl => ?_)
        exact J31 x2 v29 _ _ _ hf hw (lv_sub hl [3, 0] rfl)
  · have hf := if_of c5 hf
    refine lv_iconst (v := 2) hx hb dX8_toll_8 (by decide) ?_
    refine lv_iload_n hx hb dX8_toll_9 rfl (lv_at hl 1 rfl) ?_
    refine lv_imul hx hb dX8_toll_10 ?_
    refine lv_topi (fun v11 e11 => ?_)
    have hf := nm_of e11 hf
    refine lv_istore (lv' := [(4, .int v11), (0, .int x0), (1, .int x1), (2, .int x2), (3, .int x3)]) hx hb dX8_toll_11 hl (by decide) rfl (fun ls hl => ?_)
    refine lv_goto (tgt := 31) hx hb dX8_toll_13 (by decide) ?_
    exact J31 x2 v11 _ _ _ hf hw (lv_sub hl [3, 0] rfl)
theorem c_X8_toll {l : Launch} {D : va_G} {cA : Nat → ClassId} {b n : Nat} (hn : sg_okN n) {x0 : Int32} {x1 : Int32} {x2 : Int32} {x3 : Int32} {h : HP} {Rz : Int32} (hf : F_X8_toll x0 x1 x2 x3 = some Rz) : Met l yX8_toll (Cond.code yX8_toll cX8_toll 6 (some .int) :: sg_tbl) ({ frames := 0, cells := 0, slots := 0, locals := 0 } : Room) (va_Pc [.int x0, .int x1, .int x2, .int x3] (sg_Wd D b cA n h)) (va_Qi (fun r u => r = Rz ∧ u = h) (sg_Wd D b cA n) (sg_A b)) 0 0 (sg_A b) := by
  refine Met.ofW (cc := cX8_toll) (maxL := 6) (ret := (some .int)) (by decide) rfl ?_
  intro p e s m args below meth c s₁ B hml hv
  obtain ⟨rfl, hP, hK, hz, hY, hN⟩ := hv
  have hl := lv_entry [.int x0, .int x1, .int x2, .int x3] (n := 6) (Nat.le_of_ble_eq_true rfl)
  rw [lg_entry_eq]
  exact w_X8_toll hn ⟨B.exec, B.bytes, findClass_of_methodNamed B.named, fun w h => atoms_spec (ws := Cond.code yX8_toll cX8_toll 6 (some .int) :: sg_tbl) B.pre w (List.mem_cons_of_mem _ h), hK, hN⟩ hz B.returns B.notSynchronized hml (Nat.le_refl _) (Nat.le_refl _) hf _ _ _ ⟨hP, hY, va_S.rf⟩ hl
def F_X1_slopeAt (a : Nat) (x1 : Int32) (h : HP) : Option (Int32) :=
  gd x1 120 (
  gd (ld h (a + 6) x1) 6 (
  some (ld h (a + 2) (ld h (a + 6) x1))))
set_option maxHeartbeats 4000000 in
set_option maxRecDepth 100000 in
theorem w_X1_slopeAt {p : Program} {l : Launch} {e : Env} {R : Room} {s : State} {m : MethodId} {args : Array Value} {below : List Frame} {meth : Method} {c : Code} {D : va_G} {cA : Nat → ClassId} {b n : Nat} (hn : sg_okN n) {a : Nat} {x1 : Int32} {h : HP} {Rz : Int32} (hc : sg_Cx p s m args c cX1_slopeAt RX1 D cA) (hz : s.heap.size = b + n) (hr : meth.sig.returnType = some .int) (hlocks : meth.locks = false) (hml : c.maxLocals = 2) (hRf : 0 ≤ R.frames) (hRl : 0 ≤ R.locals) (ha_a : a < n) (hT_a : sg_T a = 1) (hf : F_X1_slopeAt a x1 h = some Rz) (H : Heap) (locs : List Loc) (ls : Array Slot) (hw : sg_Wo D b cA n s.heap h H locs) (hl : lv_has ls 2 [(0, .ref (b + a)), (1, .int x1)]) : W p l e R s m args below meth c H locs 0 0 (sg_Qi below args s D b cA n (fun r u => r = Rz ∧ u = h)) (F0 m 0 ls []) := by
  have hx := hc.1
  have hb := hc.2.1
  have hn0 : 0 < n := sg_pos hn
  unfold F_X1_slopeAt at hf
  refine lv_aload_n hx hb dX1_slopeAt_0 rfl (lv_at hl 0 rfl) ?_
  obtain ⟨hF1, hT1, ha1, hN1⟩ := ft_1_6 hn ha_a hT_a
  refine sg_getf (q := (a + 2)) hc hw ha_a hT_a fr_1_6 (by decide) k_59 dX1_slopeAt_1 hF1 ?_
  refine lv_aload_n hx hb dX1_slopeAt_4 rfl (lv_at hl 0 rfl) ?_
  obtain ⟨hF5, hT5, ha5, hN5⟩ := ft_1_10 hn ha_a hT_a
  refine sg_getf (q := (a + 6)) hc hw ha_a hT_a fr_1_10 (by decide) k_70 dX1_slopeAt_5 hF5 ?_
  refine lv_iload_n hx hb dX1_slopeAt_8 rfl (lv_at hl 1 rfl) ?_
  obtain ⟨hg9, hf⟩ := gd_of hf
  refine sg_ild hc hw ha5 hT5 hN5 hg9 dX1_slopeAt_9 ?_
  obtain ⟨hg10, hf⟩ := gd_of hf
  refine sg_ild hc hw ha1 hT1 hN1 hg10 dX1_slopeAt_10 ?_
  cases hf
  exact sg_iret hc hw hz hn0 hr hlocks ⟨rfl, rfl⟩ dX1_slopeAt_11
theorem c_X1_slopeAt {l : Launch} {D : va_G} {cA : Nat → ClassId} {b n : Nat} (hn : sg_okN n) {a : Nat} {x1 : Int32} (ha_a : a < n) (hT_a : sg_T a = 1) {h : HP} {Rz : Int32} (hf : F_X1_slopeAt a x1 h = some Rz) : Met l yX1_slopeAt (Cond.code yX1_slopeAt cX1_slopeAt 2 (some .int) :: sg_tbl) ({ frames := 0, cells := 0, slots := 0, locals := 0 } : Room) (va_Pc [.ref (b + a), .int x1] (sg_Wd D b cA n h)) (va_Qi (fun r u => r = Rz ∧ u = h) (sg_Wd D b cA n) (sg_A b)) 0 0 (sg_A b) := by
  refine Met.ofW (cc := cX1_slopeAt) (maxL := 2) (ret := (some .int)) (by decide) rfl ?_
  intro p e s m args below meth c s₁ B hml hv
  obtain ⟨rfl, hP, hK, hz, hY, hN⟩ := hv
  have hl := lv_entry [.ref (b + a), .int x1] (n := 2) (Nat.le_of_ble_eq_true rfl)
  rw [lg_entry_eq]
  exact w_X1_slopeAt hn ⟨B.exec, B.bytes, findClass_of_methodNamed B.named, fun w h => atoms_spec (ws := Cond.code yX1_slopeAt cX1_slopeAt 2 (some .int) :: sg_tbl) B.pre w (List.mem_cons_of_mem _ h), hK, hN⟩ hz B.returns B.notSynchronized hml (Nat.le_refl _) (Nat.le_refl _) ha_a hT_a hf _ _ _ ⟨hP, hY, va_S.rf⟩ hl
def F_X1_priceAt (a : Nat) (x1 : Int32) (h : HP) : Option (Int32) :=
  gd x1 120 (
  gd (ld h (a + 6) x1) 6 (
  some (ld h (a + 3) (ld h (a + 6) x1))))
set_option maxHeartbeats 4000000 in
set_option maxRecDepth 100000 in
theorem w_X1_priceAt {p : Program} {l : Launch} {e : Env} {R : Room} {s : State} {m : MethodId} {args : Array Value} {below : List Frame} {meth : Method} {c : Code} {D : va_G} {cA : Nat → ClassId} {b n : Nat} (hn : sg_okN n) {a : Nat} {x1 : Int32} {h : HP} {Rz : Int32} (hc : sg_Cx p s m args c cX1_priceAt RX1 D cA) (hz : s.heap.size = b + n) (hr : meth.sig.returnType = some .int) (hlocks : meth.locks = false) (hml : c.maxLocals = 2) (hRf : 0 ≤ R.frames) (hRl : 0 ≤ R.locals) (ha_a : a < n) (hT_a : sg_T a = 1) (hf : F_X1_priceAt a x1 h = some Rz) (H : Heap) (locs : List Loc) (ls : Array Slot) (hw : sg_Wo D b cA n s.heap h H locs) (hl : lv_has ls 2 [(0, .ref (b + a)), (1, .int x1)]) : W p l e R s m args below meth c H locs 0 0 (sg_Qi below args s D b cA n (fun r u => r = Rz ∧ u = h)) (F0 m 0 ls []) := by
  have hx := hc.1
  have hb := hc.2.1
  have hn0 : 0 < n := sg_pos hn
  unfold F_X1_priceAt at hf
  refine lv_aload_n hx hb dX1_priceAt_0 rfl (lv_at hl 0 rfl) ?_
  obtain ⟨hF1, hT1, ha1, hN1⟩ := ft_1_7 hn ha_a hT_a
  refine sg_getf (q := (a + 3)) hc hw ha_a hT_a fr_1_7 (by decide) k_60 dX1_priceAt_1 hF1 ?_
  refine lv_aload_n hx hb dX1_priceAt_4 rfl (lv_at hl 0 rfl) ?_
  obtain ⟨hF5, hT5, ha5, hN5⟩ := ft_1_10 hn ha_a hT_a
  refine sg_getf (q := (a + 6)) hc hw ha_a hT_a fr_1_10 (by decide) k_70 dX1_priceAt_5 hF5 ?_
  refine lv_iload_n hx hb dX1_priceAt_8 rfl (lv_at hl 1 rfl) ?_
  obtain ⟨hg9, hf⟩ := gd_of hf
  refine sg_ild hc hw ha5 hT5 hN5 hg9 dX1_priceAt_9 ?_
  obtain ⟨hg10, hf⟩ := gd_of hf
  refine sg_ild hc hw ha1 hT1 hN1 hg10 dX1_priceAt_10 ?_
  cases hf
  exact sg_iret hc hw hz hn0 hr hlocks ⟨rfl, rfl⟩ dX1_priceAt_11
theorem c_X1_priceAt {l : Launch} {D : va_G} {cA : Nat → ClassId} {b n : Nat} (hn : sg_okN n) {a : Nat} {x1 : Int32} (ha_a : a < n) (hT_a : sg_T a = 1) {h : HP} {Rz : Int32} (hf : F_X1_priceAt a x1 h = some Rz) : Met l yX1_priceAt (Cond.code yX1_priceAt cX1_priceAt 2 (some .int) :: sg_tbl) ({ frames := 0, cells := 0, slots := 0, locals := 0 } : Room) (va_Pc [.ref (b + a), .int x1] (sg_Wd D b cA n h)) (va_Qi (fun r u => r = Rz ∧ u = h) (sg_Wd D b cA n) (sg_A b)) 0 0 (sg_A b) := by
  refine Met.ofW (cc := cX1_priceAt) (maxL := 2) (ret := (some .int)) (by decide) rfl ?_
  intro p e s m args below meth c s₁ B hml hv
  obtain ⟨rfl, hP, hK, hz, hY, hN⟩ := hv
  have hl := lv_entry [.ref (b + a), .int x1] (n := 2) (Nat.le_of_ble_eq_true rfl)
  rw [lg_entry_eq]
  exact w_X1_priceAt hn ⟨B.exec, B.bytes, findClass_of_methodNamed B.named, fun w h => atoms_spec (ws := Cond.code yX1_priceAt cX1_priceAt 2 (some .int) :: sg_tbl) B.pre w (List.mem_cons_of_mem _ h), hK, hN⟩ hz B.returns B.notSynchronized hml (Nat.le_refl _) (Nat.le_refl _) ha_a hT_a hf _ _ _ ⟨hP, hY, va_S.rf⟩ hl
def F_X7_drawnAt (a : Nat) (x1 : Int32) (h : HP) : Option (Int32) :=
  (if (h.1 a 2) = (-1) then
  some 0
  else
  nm (((7919 * (h.1 a 2).toInt64) + (6151 * x1.toInt64)) + 1) (fun v28 =>
  some ((((v28 * v28) - (v28 * v28) / 65521 * 65521) - ((v28 * v28) - (v28 * v28) / 65521 * 65521) / 3 * 3).toInt32)))
set_option maxHeartbeats 4000000 in
set_option maxRecDepth 100000 in
theorem w_X7_drawnAt {p : Program} {l : Launch} {e : Env} {R : Room} {s : State} {m : MethodId} {args : Array Value} {below : List Frame} {meth : Method} {c : Code} {D : va_G} {cA : Nat → ClassId} {b n : Nat} (hn : sg_okN n) {a : Nat} {x1 : Int32} {h : HP} {Rz : Int32} (hc : sg_Cx p s m args c cX7_drawnAt RX7 D cA) (hz : s.heap.size = b + n) (hr : meth.sig.returnType = some .int) (hlocks : meth.locks = false) (hml : c.maxLocals = 4) (hRf : 0 ≤ R.frames) (hRl : 0 ≤ R.locals) (ha_a : a < n) (hT_a : sg_T a = 7) (hf : F_X7_drawnAt a x1 h = some Rz) (H : Heap) (locs : List Loc) (ls : Array Slot) (hw : sg_Wo D b cA n s.heap h H locs) (hl : lv_has ls 4 [(0, .ref (b + a)), (1, .int x1)]) : W p l e R s m args below meth c H locs 0 0 (sg_Qi below args s D b cA n (fun r u => r = Rz ∧ u = h)) (F0 m 0 ls []) := by
  have hx := hc.1
  have hb := hc.2.1
  have hn0 : 0 < n := sg_pos hn
  unfold F_X7_drawnAt at hf
  refine lv_aload_n hx hb dX7_drawnAt_0 rfl (lv_at hl 0 rfl) ?_
  refine sg_geti hc hw ha_a hT_a fi_7_2 k_163 dX7_drawnAt_1 ?_
  refine lv_iconst (v := (-1)) hx hb dX7_drawnAt_4 (by decide) ?_
  refine lv_icmp_ne (tgt := 10) hx hb dX7_drawnAt_5 (by decide) (fun c5 => ?_) (fun c5 => ?_)
  · have hf := if_no c5 hf
    refine lv_ldc2 hx hb hc.2.2.1 (hc.2.2.2.1 _ k_487) dX7_drawnAt_10 ?_
    refine lv_aload_n hx hb dX7_drawnAt_13 rfl (lv_at hl 0 rfl) ?_
    refine sg_geti hc hw ha_a hT_a fi_7_2 k_163 dX7_drawnAt_14 ?_
    refine lv_i2l hx hb dX7_drawnAt_17 rfl ?_
    refine lv_lmul hx hb dX7_drawnAt_18 ?_
    refine lv_ldc2 hx hb hc.2.2.1 (hc.2.2.2.1 _ k_488) dX7_drawnAt_19 ?_
    refine lv_iload_n hx hb dX7_drawnAt_22 rfl (lv_at hl 1 rfl) ?_
    refine lv_i2l hx hb dX7_drawnAt_23 rfl ?_
    refine lv_lmul hx hb dX7_drawnAt_24 ?_
    refine lv_ladd hx hb dX7_drawnAt_25 ?_
    refine lv_lconst (v := 1) hx hb dX7_drawnAt_26 (by decide) ?_
    refine lv_ladd hx hb dX7_drawnAt_27 ?_
    refine lv_topl (fun v28 e28 => ?_)
    have hf := nm_of e28 hf
    refine lv_lstore_n (lv' := [(2, .long v28), (0, .ref (b + a)), (1, .int x1)]) hx hb dX7_drawnAt_28 rfl hl (by decide) rfl (fun ls hl => ?_)
    refine lv_lload_n hx hb dX7_drawnAt_29 rfl (lv_at hl 0 rfl) ?_
    refine lv_lload_n hx hb dX7_drawnAt_30 rfl (lv_at hl 0 rfl) ?_
    refine lv_lmul hx hb dX7_drawnAt_31 ?_
    refine lv_ldc2 hx hb hc.2.2.1 (hc.2.2.2.1 _ k_489) dX7_drawnAt_32 ?_
    refine lv_lrem hx hb dX7_drawnAt_35 (by decide) ?_
    refine lv_ldc2 hx hb hc.2.2.1 (hc.2.2.2.1 _ k_490) dX7_drawnAt_36 ?_
    refine lv_lrem hx hb dX7_drawnAt_39 (by decide) ?_
    refine lv_l2i hx hb dX7_drawnAt_40 rfl ?_
    cases hf
    exact sg_iret hc hw hz hn0 hr hlocks ⟨rfl, rfl⟩ dX7_drawnAt_41
  · have hf := if_of c5 hf
    refine lv_iconst (v := 0) hx hb dX7_drawnAt_8 (by decide) ?_
    cases hf
    exact sg_iret hc hw hz hn0 hr hlocks ⟨rfl, rfl⟩ dX7_drawnAt_9
theorem c_X7_drawnAt {l : Launch} {D : va_G} {cA : Nat → ClassId} {b n : Nat} (hn : sg_okN n) {a : Nat} {x1 : Int32} (ha_a : a < n) (hT_a : sg_T a = 7) {h : HP} {Rz : Int32} (hf : F_X7_drawnAt a x1 h = some Rz) : Met l yX7_drawnAt (Cond.code yX7_drawnAt cX7_drawnAt 4 (some .int) :: sg_tbl) ({ frames := 0, cells := 0, slots := 0, locals := 0 } : Room) (va_Pc [.ref (b + a), .int x1] (sg_Wd D b cA n h)) (va_Qi (fun r u => r = Rz ∧ u = h) (sg_Wd D b cA n) (sg_A b)) 0 0 (sg_A b) := by
  refine Met.ofW (cc := cX7_drawnAt) (maxL := 4) (ret := (some .int)) (by decide) rfl ?_
  intro p e s m args below meth c s₁ B hml hv
  obtain ⟨rfl, hP, hK, hz, hY, hN⟩ := hv
  have hl := lv_entry [.ref (b + a), .int x1] (n := 4) (Nat.le_of_ble_eq_true rfl)
  rw [lg_entry_eq]
  exact w_X7_drawnAt hn ⟨B.exec, B.bytes, findClass_of_methodNamed B.named, fun w h => atoms_spec (ws := Cond.code yX7_drawnAt cX7_drawnAt 4 (some .int) :: sg_tbl) B.pre w (List.mem_cons_of_mem _ h), hK, hN⟩ hz B.returns B.notSynchronized hml (Nat.le_refl _) (Nat.le_refl _) ha_a hT_a hf _ _ _ ⟨hP, hY, va_S.rf⟩ hl
def F_X7_setCosts_J64 (a : Nat) (rc19 : (Int32 × HP) → Option (HP)) (x1 : Int32) (x2 : Int32) (x3 : Int32) (x4 : Int32) (x5 : Int32) (h : HP) : Option (HP) :=
  rc19 ((x5 + 1), h)
def F_X7_setCosts_L19 (a : Nat) (x1 : Int32) (x2 : Int32) (x3 : Int32) (x4 : Int32) : Nat → (Int32 × HP) → Option (HP) :=
  lp (fun rc19 x =>
  gn (x.2.2 a 0) (nm ((x.2.2 a 0) - 1) (fun q22 =>
  (if (x.2.1 q22 2) ≤ x.1 then
  some x.2
  else
  cl (F_X8_isIn x.1 x1) (fun p34 =>
  (if p34 = 0 then
  F_X7_setCosts_J64 a rc19 x1 x2 x3 x4 x.1 x.2
  else
  gn (x.2.2 a 0) (nm ((x.2.2 a 0) - 1) (fun q48 =>
  gd x.1 6 (
  cl (F_X8_toll x2 (ld x.2 (q48 + 5) x.1) x3 x4) (fun p60 =>
  gd x.1 6 (
  nm (st x.2 (a + 6) x.1 p60) (fun h63 =>
  F_X7_setCosts_J64 a rc19 x1 x2 x3 x4 x.1 h63))))))))))))
def F_X7_setCosts (a : Nat) (x1 : Int32) (x2 : Int32) (h : HP) : Option (HP) :=
  cl (F_J6_bitCount_0f7a4 x1) (fun p1 =>
  cl (F_J6_bitCount_0f7a4 (x1 &&& (h.1 a 5))) (fun p11 =>
  F_X7_setCosts_L19 a x1 x2 p1 p11 sg_fuel (0, h)))
set_option maxHeartbeats 4000000 in
set_option maxRecDepth 100000 in
theorem w_X7_setCosts {p : Program} {l : Launch} {e : Env} {R : Room} {s : State} {m : MethodId} {args : Array Value} {below : List Frame} {meth : Method} {c : Code} {D : va_G} {cA : Nat → ClassId} {b n : Nat} (hn : sg_okN n) {a : Nat} {x1 : Int32} {x2 : Int32} {h : HP} {Rz : HP} (hc : sg_Cx p s m args c cX7_setCosts RX7 D cA) (hz : s.heap.size = b + n) (hr : meth.sig.returnType = none) (hlocks : meth.locks = false) (hml : c.maxLocals = 6) (hRf : 1 ≤ R.frames) (hRl : 25 ≤ R.locals) (ha_a : a < n) (hT_a : sg_T a = 7) (hf : F_X7_setCosts a x1 x2 h = some Rz) (H : Heap) (locs : List Loc) (ls : Array Slot) (hw : sg_Wo D b cA n s.heap h H locs) (hl : lv_has ls 6 [(0, .ref (b + a)), (1, .int x1), (2, .int x2)]) : W p l e R s m args below meth c H locs 0 0 (sg_Qv below args s D b cA n (fun u => u = Rz)) (F0 m 0 ls []) := by
  have hx := hc.1
  have hb := hc.2.1
  have hn0 : 0 < n := sg_pos hn
  have L19 : ∀ (x1 : Int32) (x2 : Int32) (x3 : Int32) (x4 : Int32) (k : Nat) (x : (Int32 × HP)), F_X7_setCosts_L19 a x1 x2 x3 x4 k x = some Rz → ∀ (H : Heap) (locs : List Loc) (ls : Array Slot), sg_Wo D b cA n s.heap x.2 H locs → lv_has ls 6 [(0, .ref (b + a)), (1, .int x1), (2, .int x2), (3, .int x3), (4, .int x4), (5, .int x.1)] → W p l e R s m args below meth c H locs 0 0 (sg_Qv below args s D b cA n (fun u => u = Rz)) (F0 m 19 ls []) := by
    intro x1 x2 x3 x4
    unfold F_X7_setCosts_L19
    refine lp_walk ?_
    intro rc19 hrc19 x hf H locs ls hw hl
    obtain ⟨x5, h⟩ := x
    dsimp only at hf hw hl
    have J64 : ∀ (x1 : Int32) (x2 : Int32) (x3 : Int32) (x4 : Int32) (x5 : Int32) (h : HP) (H : Heap) (locs : List Loc) (ls : Array Slot), F_X7_setCosts_J64 a rc19 x1 x2 x3 x4 x5 h = some Rz → sg_Wo D b cA n s.heap h H locs → lv_has ls 6 [(0, .ref (b + a)), (1, .int x1), (2, .int x2), (3, .int x3), (4, .int x4), (5, .int x5)] → W p l e R s m args below meth c H locs 0 0 (sg_Qv below args s D b cA n (fun u => u = Rz)) (F0 m 64 ls []) := by
      intro x1 x2 x3 x4 x5 h H locs ls hf hw hl
      unfold F_X7_setCosts_J64 at hf
      refine lv_iinc (v := (x5 + 1)) (lv' := [(5, .int (x5 + 1)), (0, .ref (b + a)), (1, .int x1), (2, .int x2), (3, .int x3), (4, .int x4)]) hx hb dX7_setCosts_64 hl (k := 5) rfl rfl (by decide) rfl (fun ls hl => ?_)
      refine lv_goto (tgt := 19) hx hb dX7_setCosts_67 (by decide) ?_
      exact hrc19 _ hf _ _ _ hw (lv_sub hl [1, 2, 3, 4, 5, 0] rfl)
    refine lv_iload hx hb dX7_setCosts_19 (lv_at hl 5 rfl) ?_
    refine lv_aload_n hx hb dX7_setCosts_21 rfl (lv_at hl 0 rfl) ?_
    obtain ⟨hg22, hf⟩ := gn_of hf
    obtain ⟨ha22, hT22⟩ := (hw.2.1 _ ha_a).2.1 hT_a hg22
    obtain ⟨q22, hq22, ha22, hT22, hf⟩ := sg_nq hg22 ha22 hT22 hf
    refine sg_getr hc hw ha_a hT_a fr_7_0 k_160 dX7_setCosts_22 hq22 ?_
    refine sg_geti hc hw ha22 hT22 fi_1_2 k_48 dX7_setCosts_25 ?_
    refine lv_icmp_ge (tgt := 70) hx hb dX7_setCosts_28 (by decide) (fun c28 => ?_) (fun c28 => ?_)
    · have hf := if_of c28 hf
      cases hf
      exact sg_vret hc hw hz hn0 hr hlocks rfl dX7_setCosts_70
    · have hf := if_no c28 hf
      refine lv_iload hx hb dX7_setCosts_31 (lv_at hl 5 rfl) ?_
      refine lv_iload_n hx hb dX7_setCosts_33 rfl (lv_at hl 1 rfl) ?_
      obtain ⟨p34, hp34, hf⟩ := cl_of hf
      refine sg_ni (rest := []) (c_X8_isIn hn (h := h) hp34) hc hw hz hn0 hml hl cn_X7_103 ⟨⟨rfl, rfl⟩, Nat.le_trans (Nat.le_of_ble_eq_true rfl) hRf, Nat.le_trans (Nat.le_of_ble_eq_true rfl) hRl⟩ ⟨Nat.zero_le _, Nat.zero_le _⟩ rfl rfl (Nat.le_of_ble_eq_true rfl) dX7_setCosts_34 (fun r h1 H locs hp hw => ?_)
      obtain ⟨⟨e1, e2⟩, hb34⟩ := hp; subst r; subst h1
      refine lv_if_eq (tgt := 64) hx hb dX7_setCosts_37 (by decide) (fun c37 => ?_) (fun c37 => ?_)
      · have hf := if_of c37 hf
        exact J64 x1 x2 x3 x4 x5 _ _ _ _ hf hw (lv_sub hl [0, 1, 2, 3, 4, 5] rfl)
      · have hf := if_no c37 hf
        refine lv_aload_n hx hb dX7_setCosts_40 rfl (lv_at hl 0 rfl) ?_
        obtain ⟨hF41, hT41, ha41, hN41⟩ := ft_7_11 hn ha_a hT_a
        refine sg_getf (q := (a + 6)) hc hw ha_a hT_a fr_7_11 (by decide) k_179 dX7_setCosts_41 hF41 ?_
        refine lv_iload hx hb dX7_setCosts_44 (lv_at hl 5 rfl) ?_
        refine lv_iload_n hx hb dX7_setCosts_46 rfl (lv_at hl 2 rfl) ?_
        refine lv_aload_n hx hb dX7_setCosts_47 rfl (lv_at hl 0 rfl) ?_
        obtain ⟨hg48, hf⟩ := gn_of hf
        obtain ⟨ha48, hT48⟩ := (hw.2.1 _ ha_a).2.1 hT_a hg48
        obtain ⟨q48, hq48, ha48, hT48, hf⟩ := sg_nq hg48 ha48 hT48 hf
        refine sg_getr hc hw ha_a hT_a fr_7_0 k_160 dX7_setCosts_48 hq48 ?_
        obtain ⟨hF51, hT51, ha51, hN51⟩ := ft_1_9 hn ha48 hT48
        refine sg_getf (q := (q48 + 5)) hc hw ha48 hT48 fr_1_9 (by decide) k_68 dX7_setCosts_51 hF51 ?_
        refine lv_iload hx hb dX7_setCosts_54 (lv_at hl 5 rfl) ?_
        obtain ⟨hg56, hf⟩ := gd_of hf
        refine sg_ild hc hw ha51 hT51 hN51 hg56 dX7_setCosts_56 ?_
        refine lv_iload_n hx hb dX7_setCosts_57 rfl (lv_at hl 3 rfl) ?_
        refine lv_iload hx hb dX7_setCosts_58 (lv_at hl 4 rfl) ?_
        obtain ⟨p60, hp60, hf⟩ := cl_of hf
        refine sg_ni (rest := [.int x5, .ref (b + (a + 6))]) (c_X8_toll hn (h := h) hp60) hc hw hz hn0 hml hl cn_X7_110 ⟨⟨rfl, rfl⟩, Nat.le_trans (Nat.le_of_ble_eq_true rfl) hRf, Nat.le_trans (Nat.le_of_ble_eq_true rfl) hRl⟩ ⟨Nat.zero_le _, Nat.zero_le _⟩ rfl rfl (Nat.le_of_ble_eq_true rfl) dX7_setCosts_60 (fun r h1 H locs hp hw => ?_)
        obtain ⟨e1, e2⟩ := hp; subst r; subst h1
        obtain ⟨hg63, hf⟩ := gd_of hf
        refine sg_ist hc hw ha41 hT41 hN41 hg63 dX7_setCosts_63 (fun H locs hw => ?_)
        obtain ⟨h63, hw, hf⟩ := sg_name hw hf
        exact J64 x1 x2 x3 x4 x5 _ _ _ _ hf hw (lv_sub hl [0, 1, 2, 3, 4, 5] rfl)
  unfold F_X7_setCosts at hf
  refine lv_iload_n hx hb dX7_setCosts_0 rfl (lv_at hl 1 rfl) ?_
  obtain ⟨p1, hp1, hf⟩ := cl_of hf
  refine sg_si (rest := []) (c_J6_bitCount_0f7a4 hn (h := h) hp1) hc hw hz hn0 hml hl cs_X7_89 ⟨⟨rfl, rfl⟩, Nat.le_trans (Nat.le_of_ble_eq_true rfl) hRf, Nat.le_trans (Nat.le_of_ble_eq_true rfl) hRl⟩ ⟨Nat.zero_le _, Nat.zero_le _⟩ rfl rfl (Nat.le_of_ble_eq_true rfl) dX7_setCosts_1 (fun r h1 H locs hp hw => ?_)
  obtain ⟨e1, e2⟩ := hp; subst r; subst h1
  refine lv_istore_n (lv' := [(3, .int p1), (0, .ref (b + a)), (1, .int x1), (2, .int x2)]) hx hb dX7_setCosts_4 rfl hl (by decide) rfl (fun ls hl => ?_)
  refine lv_iload_n hx hb dX7_setCosts_5 rfl (lv_at hl 2 rfl) ?_
  refine lv_aload_n hx hb dX7_setCosts_6 rfl (lv_at hl 1 rfl) ?_
  refine sg_geti hc hw ha_a hT_a fi_7_5 k_169 dX7_setCosts_7 ?_
  refine lv_iand hx hb dX7_setCosts_10 ?_
  obtain ⟨p11, hp11, hf⟩ := cl_of hf
  refine sg_si (rest := []) (c_J6_bitCount_0f7a4 hn (h := h) hp11) hc hw hz hn0 hml hl cs_X7_89 ⟨⟨rfl, rfl⟩, Nat.le_trans (Nat.le_of_ble_eq_true rfl) hRf, Nat.le_trans (Nat.le_of_ble_eq_true rfl) hRl⟩ ⟨Nat.zero_le _, Nat.zero_le _⟩ rfl rfl (Nat.le_of_ble_eq_true rfl) dX7_setCosts_11 (fun r h1 H locs hp hw => ?_)
  obtain ⟨e1, e2⟩ := hp; subst r; subst h1
  refine lv_istore (lv' := [(4, .int p11), (3, .int p1), (0, .ref (b + a)), (1, .int x1), (2, .int x2)]) hx hb dX7_setCosts_14 hl (by decide) rfl (fun ls hl => ?_)
  refine lv_iconst (v := 0) hx hb dX7_setCosts_16 (by decide) ?_
  refine lv_istore (lv' := [(5, .int 0), (4, .int p11), (3, .int p1), (0, .ref (b + a)), (1, .int x1), (2, .int x2)]) hx hb dX7_setCosts_17 hl (by decide) rfl (fun ls hl => ?_)
  exact L19 x1 x2 p1 p11 _ _ hf _ _ _ hw (lv_sub hl [3, 4, 5, 2, 1, 0] rfl)
theorem c_X7_setCosts {l : Launch} {D : va_G} {cA : Nat → ClassId} {b n : Nat} (hn : sg_okN n) {a : Nat} {x1 : Int32} {x2 : Int32} (ha_a : a < n) (hT_a : sg_T a = 7) {h : HP} {Rz : HP} (hf : F_X7_setCosts a x1 x2 h = some Rz) : Met l yX7_setCosts (Cond.code yX7_setCosts cX7_setCosts 6 none :: sg_tbl) ({ frames := 1, cells := 0, slots := 0, locals := 25 } : Room) (va_Pc [.ref (b + a), .int x1, .int x2] (sg_Wd D b cA n h)) (va_Qv (fun u => u = Rz) (sg_Wd D b cA n) (sg_A b)) 0 0 (sg_A b) := by
  refine Met.ofW (cc := cX7_setCosts) (maxL := 6) (ret := none) (by decide) rfl ?_
  intro p e s m args below meth c s₁ B hml hv
  obtain ⟨rfl, hP, hK, hz, hY, hN⟩ := hv
  have hl := lv_entry [.ref (b + a), .int x1, .int x2] (n := 6) (Nat.le_of_ble_eq_true rfl)
  rw [lg_entry_eq]
  exact w_X7_setCosts hn ⟨B.exec, B.bytes, findClass_of_methodNamed B.named, fun w h => atoms_spec (ws := Cond.code yX7_setCosts cX7_setCosts 6 none :: sg_tbl) B.pre w (List.mem_cons_of_mem _ h), hK, hN⟩ hz B.returns B.notSynchronized hml (Nat.le_refl _) (Nat.le_refl _) ha_a hT_a hf _ _ _ ⟨hP, hY, va_S.rf⟩ hl
def F_X7_stumbling_J64 (a : Nat) (x3 : Int32) (h : HP) : Option (Int32 × HP) :=
  nm (ui h a 4 ((h.1 a 4) ||| x3)) (fun h71 =>
  some (x3, h71))
def F_X7_stumbling_J58 (a : Nat) (rc5 : (Int32 × Int32 × HP) → Option (Int32 × HP)) (x1 : Int32) (x2 : Int32) (x3 : Int32) (x4 : Int32) (h : HP) : Option (Int32 × HP) :=
  rc5 (x3, (x4 + 1), h)
def F_X7_stumbling_L5 (a : Nat) (x1 : Int32) (x2 : Int32) : Nat → (Int32 × Int32 × HP) → Option (Int32 × HP) :=
  lp (fun rc5 x =>
  gn (x.2.2.2 a 0) (nm ((x.2.2.2 a 0) - 1) (fun q8 =>
  (if (x.2.2.1 q8 2) ≤ x.2.1 then
  F_X7_stumbling_J64 a x.1 x.2.2
  else
  cl (F_X8_isIn x.2.1 x1) (fun p20 =>
  (if p20 = 0 then
  F_X7_stumbling_J58 a rc5 x1 x2 x.1 x.2.1 x.2.2
  else
  gd x.2.1 6 (
  gd x.2.1 6 (
  (if (ld x.2.2 (a + 6) x.2.1) ≤ (ld x.2.2 (a + 1) x.2.1) then
  F_X7_stumbling_J58 a rc5 x1 x2 x.1 x.2.1 x.2.2
  else
  nm (x.1 ||| (1 <<< (x.2.1 &&& 31))) (fun v49 =>
  gd x.2.1 6 (
  nm (st x.2.2 (a + 2) x.2.1 x2) (fun h57 =>
  F_X7_stumbling_J58 a rc5 x1 x2 v49 x.2.1 h57))))))))))))
def F_X7_stumbling (a : Nat) (x1 : Int32) (x2 : Int32) (h : HP) : Option (Int32 × HP) :=
  F_X7_stumbling_L5 a x1 x2 sg_fuel (0, 0, h)
set_option maxHeartbeats 4000000 in
set_option maxRecDepth 100000 in
theorem w_X7_stumbling {p : Program} {l : Launch} {e : Env} {R : Room} {s : State} {m : MethodId} {args : Array Value} {below : List Frame} {meth : Method} {c : Code} {D : va_G} {cA : Nat → ClassId} {b n : Nat} (hn : sg_okN n) {a : Nat} {x1 : Int32} {x2 : Int32} {h : HP} {Rz : Int32 × HP} (hc : sg_Cx p s m args c cX7_stumbling RX7 D cA) (hz : s.heap.size = b + n) (hr : meth.sig.returnType = some .int) (hlocks : meth.locks = false) (hml : c.maxLocals = 5) (hRf : 1 ≤ R.frames) (hRl : 21 ≤ R.locals) (ha_a : a < n) (hT_a : sg_T a = 7) (hf : F_X7_stumbling a x1 x2 h = some Rz) (H : Heap) (locs : List Loc) (ls : Array Slot) (hw : sg_Wo D b cA n s.heap h H locs) (hl : lv_has ls 5 [(0, .ref (b + a)), (1, .int x1), (2, .int x2)]) : W p l e R s m args below meth c H locs 0 0 (sg_Qi below args s D b cA n (fun r u => r = Rz.1 ∧ u = Rz.2)) (F0 m 0 ls []) := by
  have hx := hc.1
  have hb := hc.2.1
  have hn0 : 0 < n := sg_pos hn
  have J64 : ∀ (x3 : Int32) (h : HP) (H : Heap) (locs : List Loc) (ls : Array Slot), F_X7_stumbling_J64 a x3 h = some Rz → sg_Wo D b cA n s.heap h H locs → lv_has ls 5 [(0, .ref (b + a)), (3, .int x3)] → W p l e R s m args below meth c H locs 0 0 (sg_Qi below args s D b cA n (fun r u => r = Rz.1 ∧ u = Rz.2)) (F0 m 64 ls []) := by
    intro x3 h H locs ls hf hw hl
    unfold F_X7_stumbling_J64 at hf
    refine lv_aload_n hx hb dX7_stumbling_64 rfl (lv_at hl 0 rfl) ?_
    refine lv_dup hx hb dX7_stumbling_65 rfl ?_
    refine sg_geti hc hw ha_a hT_a fi_7_4 k_168 dX7_stumbling_66 ?_
    refine lv_iload_n hx hb dX7_stumbling_69 rfl (lv_at hl 1 rfl) ?_
    refine lv_ior hx hb dX7_stumbling_70 ?_
    refine sg_puti hc hw ha_a hT_a fp_7_4 rfl rfl k_168 dX7_stumbling_71 (fun H locs hw => ?_)
    obtain ⟨h71, hw, hf⟩ := sg_name hw hf
    refine lv_iload_n hx hb dX7_stumbling_74 rfl (lv_at hl 1 rfl) ?_
    cases hf
    exact sg_iret hc hw hz hn0 hr hlocks ⟨rfl, rfl⟩ dX7_stumbling_75
  have L5 : ∀ (x1 : Int32) (x2 : Int32) (k : Nat) (x : (Int32 × Int32 × HP)), F_X7_stumbling_L5 a x1 x2 k x = some Rz → ∀ (H : Heap) (locs : List Loc) (ls : Array Slot), sg_Wo D b cA n s.heap x.2.2 H locs → lv_has ls 5 [(0, .ref (b + a)), (1, .int x1), (2, .int x2), (3, .int x.1), (4, .int x.2.1)] → W p l e R s m args below meth c H locs 0 0 (sg_Qi below args s D b cA n (fun r u => r = Rz.1 ∧ u = Rz.2)) (F0 m 5 ls []) := by
    intro x1 x2
    unfold F_X7_stumbling_L5
    refine lp_walk ?_
    intro rc5 hrc5 x hf H locs ls hw hl
    obtain ⟨x3, x4, h⟩ := x
    dsimp only at hf hw hl
    have J58 : ∀ (x1 : Int32) (x2 : Int32) (x3 : Int32) (x4 : Int32) (h : HP) (H : Heap) (locs : List Loc) (ls : Array Slot), F_X7_stumbling_J58 a rc5 x1 x2 x3 x4 h = some Rz → sg_Wo D b cA n s.heap h H locs → lv_has ls 5 [(0, .ref (b + a)), (1, .int x1), (2, .int x2), (3, .int x3), (4, .int x4)] → W p l e R s m args below meth c H locs 0 0 (sg_Qi below args s D b cA n (fun r u => r = Rz.1 ∧ u = Rz.2)) (F0 m 58 ls []) := by
      intro x1 x2 x3 x4 h H locs ls hf hw hl
      unfold F_X7_stumbling_J58 at hf
      refine lv_iinc (v := (x4 + 1)) (lv' := [(4, .int (x4 + 1)), (0, .ref (b + a)), (1, .int x1), (2, .int x2), (3, .int x3)]) hx hb dX7_stumbling_58 hl (k := 4) rfl rfl (by decide) rfl (fun ls hl => ?_)
      refine lv_goto (tgt := 5) hx hb dX7_stumbling_61 (by decide) ?_
      exact hrc5 _ hf _ _ _ hw (lv_sub hl [1, 2, 3, 4, 0] rfl)
    refine lv_iload hx hb dX7_stumbling_5 (lv_at hl 4 rfl) ?_
    refine lv_aload_n hx hb dX7_stumbling_7 rfl (lv_at hl 0 rfl) ?_
    obtain ⟨hg8, hf⟩ := gn_of hf
    obtain ⟨ha8, hT8⟩ := (hw.2.1 _ ha_a).2.1 hT_a hg8
    obtain ⟨q8, hq8, ha8, hT8, hf⟩ := sg_nq hg8 ha8 hT8 hf
    refine sg_getr hc hw ha_a hT_a fr_7_0 k_160 dX7_stumbling_8 hq8 ?_
    refine sg_geti hc hw ha8 hT8 fi_1_2 k_48 dX7_stumbling_11 ?_
    refine lv_icmp_ge (tgt := 64) hx hb dX7_stumbling_14 (by decide) (fun c14 => ?_) (fun c14 => ?_)
    · have hf := if_of c14 hf
      exact J64 x3 _ _ _ _ hf hw (lv_sub hl [0, 3] rfl)
    · have hf := if_no c14 hf
      refine lv_iload hx hb dX7_stumbling_17 (lv_at hl 4 rfl) ?_
      refine lv_iload_n hx hb dX7_stumbling_19 rfl (lv_at hl 1 rfl) ?_
      obtain ⟨p20, hp20, hf⟩ := cl_of hf
      refine sg_ni (rest := []) (c_X8_isIn hn (h := h) hp20) hc hw hz hn0 hml hl cn_X7_103 ⟨⟨rfl, rfl⟩, Nat.le_trans (Nat.le_of_ble_eq_true rfl) hRf, Nat.le_trans (Nat.le_of_ble_eq_true rfl) hRl⟩ ⟨Nat.zero_le _, Nat.zero_le _⟩ rfl rfl (Nat.le_of_ble_eq_true rfl) dX7_stumbling_20 (fun r h1 H locs hp hw => ?_)
      obtain ⟨⟨e1, e2⟩, hb20⟩ := hp; subst r; subst h1
      refine lv_if_eq (tgt := 58) hx hb dX7_stumbling_23 (by decide) (fun c23 => ?_) (fun c23 => ?_)
      · have hf := if_of c23 hf
        exact J58 x1 x2 x3 x4 _ _ _ _ hf hw (lv_sub hl [0, 1, 2, 3, 4] rfl)
      · have hf := if_no c23 hf
        refine lv_aload_n hx hb dX7_stumbling_26 rfl (lv_at hl 0 rfl) ?_
        obtain ⟨hF27, hT27, ha27, hN27⟩ := ft_7_6 hn ha_a hT_a
        refine sg_getf (q := (a + 1)) hc hw ha_a hT_a fr_7_6 (by decide) k_170 dX7_stumbling_27 hF27 ?_
        refine lv_iload hx hb dX7_stumbling_30 (lv_at hl 4 rfl) ?_
        obtain ⟨hg32, hf⟩ := gd_of hf
        refine sg_ild hc hw ha27 hT27 hN27 hg32 dX7_stumbling_32 ?_
        refine lv_aload_n hx hb dX7_stumbling_33 rfl (lv_at hl 0 rfl) ?_
        obtain ⟨hF34, hT34, ha34, hN34⟩ := ft_7_11 hn ha_a hT_a
        refine sg_getf (q := (a + 6)) hc hw ha_a hT_a fr_7_11 (by decide) k_179 dX7_stumbling_34 hF34 ?_
        refine lv_iload hx hb dX7_stumbling_37 (lv_at hl 4 rfl) ?_
        obtain ⟨hg39, hf⟩ := gd_of hf
        refine sg_ild hc hw ha34 hT34 hN34 hg39 dX7_stumbling_39 ?_
        refine lv_icmp_ge (tgt := 58) hx hb dX7_stumbling_40 (by decide) (fun c40 => ?_) (fun c40 => ?_)
        · have hf := if_of c40 hf
          exact J58 x1 x2 x3 x4 _ _ _ _ hf hw (lv_sub hl [0, 1, 2, 3, 4] rfl)
        · have hf := if_no c40 hf
          refine lv_iload_n hx hb dX7_stumbling_43 rfl (lv_at hl 3 rfl) ?_
          refine lv_iconst (v := 1) hx hb dX7_stumbling_44 (by decide) ?_
          refine lv_iload hx hb dX7_stumbling_45 (lv_at hl 4 rfl) ?_
          refine lv_ishl hx hb dX7_stumbling_47 ?_
          refine lv_ior hx hb dX7_stumbling_48 ?_
          refine lv_topi (fun v49 e49 => ?_)
          have hf := nm_of e49 hf
          refine lv_istore_n (lv' := [(3, .int v49), (0, .ref (b + a)), (1, .int x1), (2, .int x2), (4, .int x4)]) hx hb dX7_stumbling_49 rfl hl (by decide) rfl (fun ls hl => ?_)
          refine lv_aload_n hx hb dX7_stumbling_50 rfl (lv_at hl 1 rfl) ?_
          obtain ⟨hF51, hT51, ha51, hN51⟩ := ft_7_7 hn ha_a hT_a
          refine sg_getf (q := (a + 2)) hc hw ha_a hT_a fr_7_7 (by decide) k_172 dX7_stumbling_51 hF51 ?_
          refine lv_iload hx hb dX7_stumbling_54 (lv_at hl 4 rfl) ?_
          refine lv_iload_n hx hb dX7_stumbling_56 rfl (lv_at hl 3 rfl) ?_
          obtain ⟨hg57, hf⟩ := gd_of hf
          refine sg_ist hc hw ha51 hT51 hN51 hg57 dX7_stumbling_57 (fun H locs hw => ?_)
          obtain ⟨h57, hw, hf⟩ := sg_name hw hf
          exact J58 x1 x2 v49 x4 _ _ _ _ hf hw (lv_sub hl [1, 2, 3, 0, 4] rfl)
  unfold F_X7_stumbling at hf
  refine lv_iconst (v := 0) hx hb dX7_stumbling_0 (by decide) ?_
  refine lv_istore_n (lv' := [(3, .int 0), (0, .ref (b + a)), (1, .int x1), (2, .int x2)]) hx hb dX7_stumbling_1 rfl hl (by decide) rfl (fun ls hl => ?_)
  refine lv_iconst (v := 0) hx hb dX7_stumbling_2 (by decide) ?_
  refine lv_istore (lv' := [(4, .int 0), (3, .int 0), (0, .ref (b + a)), (1, .int x1), (2, .int x2)]) hx hb dX7_stumbling_3 hl (by decide) rfl (fun ls hl => ?_)
  exact L5 x1 x2 _ _ hf _ _ _ hw (lv_sub hl [2, 3, 4, 1, 0] rfl)
theorem c_X7_stumbling {l : Launch} {D : va_G} {cA : Nat → ClassId} {b n : Nat} (hn : sg_okN n) {a : Nat} {x1 : Int32} {x2 : Int32} (ha_a : a < n) (hT_a : sg_T a = 7) {h : HP} {Rz : Int32 × HP} (hf : F_X7_stumbling a x1 x2 h = some Rz) : Met l yX7_stumbling (Cond.code yX7_stumbling cX7_stumbling 5 (some .int) :: sg_tbl) ({ frames := 1, cells := 0, slots := 0, locals := 21 } : Room) (va_Pc [.ref (b + a), .int x1, .int x2] (sg_Wd D b cA n h)) (va_Qi (fun r u => r = Rz.1 ∧ u = Rz.2) (sg_Wd D b cA n) (sg_A b)) 0 0 (sg_A b) := by
  refine Met.ofW (cc := cX7_stumbling) (maxL := 5) (ret := (some .int)) (by decide) rfl ?_
  intro p e s m args below meth c s₁ B hml hv
  obtain ⟨rfl, hP, hK, hz, hY, hN⟩ := hv
  have hl := lv_entry [.ref (b + a), .int x1, .int x2] (n := 5) (Nat.le_of_ble_eq_true rfl)
  rw [lg_entry_eq]
  exact w_X7_stumbling hn ⟨B.exec, B.bytes, findClass_of_methodNamed B.named, fun w h => atoms_spec (ws := Cond.code yX7_stumbling cX7_stumbling 5 (some .int) :: sg_tbl) B.pre w (List.mem_cons_of_mem _ h), hK, hN⟩ hz B.returns B.notSynchronized hml (Nat.le_refl _) (Nat.le_refl _) ha_a hT_a hf _ _ _ ⟨hP, hY, va_S.rf⟩ hl
def F_X7_bringUp_J82 (a : Nat) (rc21 : (Int32 × HP) → Option (HP)) (x1 : Int32) (x4 : Int32) (x5 : Int32) (h : HP) : Option (HP) :=
  rc21 ((x5 + 1), h)
def F_X7_bringUp_L21 (a : Nat) (x1 : Int32) (x4 : Int32) : Nat → (Int32 × HP) → Option (HP) :=
  lp (fun rc21 x =>
  gn (x.2.2 a 0) (nm ((x.2.2 a 0) - 1) (fun q24 =>
  (if (x.2.1 q24 2) ≤ x.1 then
  some x.2
  else
  cl (F_X8_isIn x.1 x1) (fun p36 =>
  (if p36 = 0 then
  F_X7_bringUp_J82 a rc21 x1 x4 x.1 x.2
  else
  gd x.1 6 (
  gd x.1 6 (
  gd x.1 6 (
  nm (st x.2 (a + 1) x.1 ((ld x.2 (a + 1) x.1) - (ld x.2 (a + 6) x.1))) (fun h58 =>
  gd x.1 6 (
  gd x.1 6 (
  nm (st h58 (a + 3) x.1 ((ld h58 (a + 3) x.1) + 1)) (fun h69 =>
  gd x.1 6 (
  gd x.1 6 (
  nm (st h69 (a + 4) x.1 ((ld h69 (a + 4) x.1) + x4)) (fun h81 =>
  F_X7_bringUp_J82 a rc21 x1 x4 x.1 h81))))))))))))))))
def F_X7_bringUp_J16 (a : Nat) (x1 : Int32) (s0 : Int32) (h : HP) : Option (HP) :=
  F_X7_bringUp_L21 a x1 s0 sg_fuel (0, h)
def F_X7_bringUp (a : Nat) (x1 : Int32) (x2 : Int32) (h : HP) : Option (HP) :=
  cl (F_J6_bitCount_0f7a4 x1) (fun p1 =>
  (if p1 ≤ 0 then
  F_X7_bringUp_J16 a x1 0 h
  else
  gz p1 (
  F_X7_bringUp_J16 a x1 (x2 / p1) h)))
set_option maxHeartbeats 4000000 in
set_option maxRecDepth 100000 in
theorem w_X7_bringUp {p : Program} {l : Launch} {e : Env} {R : Room} {s : State} {m : MethodId} {args : Array Value} {below : List Frame} {meth : Method} {c : Code} {D : va_G} {cA : Nat → ClassId} {b n : Nat} (hn : sg_okN n) {a : Nat} {x1 : Int32} {x2 : Int32} {h : HP} {Rz : HP} (hc : sg_Cx p s m args c cX7_bringUp RX7 D cA) (hz : s.heap.size = b + n) (hr : meth.sig.returnType = none) (hlocks : meth.locks = false) (hml : c.maxLocals = 6) (hRf : 1 ≤ R.frames) (hRl : 21 ≤ R.locals) (ha_a : a < n) (hT_a : sg_T a = 7) (hf : F_X7_bringUp a x1 x2 h = some Rz) (H : Heap) (locs : List Loc) (ls : Array Slot) (hw : sg_Wo D b cA n s.heap h H locs) (hl : lv_has ls 6 [(0, .ref (b + a)), (1, .int x1), (2, .int x2)]) : W p l e R s m args below meth c H locs 0 0 (sg_Qv below args s D b cA n (fun u => u = Rz)) (F0 m 0 ls []) := by
  have hx := hc.1
  have hb := hc.2.1
  have hn0 : 0 < n := sg_pos hn
  have L21 : ∀ (x1 : Int32) (x4 : Int32) (k : Nat) (x : (Int32 × HP)), F_X7_bringUp_L21 a x1 x4 k x = some Rz → ∀ (H : Heap) (locs : List Loc) (ls : Array Slot), sg_Wo D b cA n s.heap x.2 H locs → lv_has ls 6 [(0, .ref (b + a)), (1, .int x1), (4, .int x4), (5, .int x.1)] → W p l e R s m args below meth c H locs 0 0 (sg_Qv below args s D b cA n (fun u => u = Rz)) (F0 m 21 ls []) := by
    intro x1 x4
    unfold F_X7_bringUp_L21
    refine lp_walk ?_
    intro rc21 hrc21 x hf H locs ls hw hl
    obtain ⟨x5, h⟩ := x
    dsimp only at hf hw hl
    have J82 : ∀ (x1 : Int32) (x4 : Int32) (x5 : Int32) (h : HP) (H : Heap) (locs : List Loc) (ls : Array Slot), F_X7_bringUp_J82 a rc21 x1 x4 x5 h = some Rz → sg_Wo D b cA n s.heap h H locs → lv_has ls 6 [(0, .ref (b + a)), (1, .int x1), (4, .int x4), (5, .int x5)] → W p l e R s m args below meth c H locs 0 0 (sg_Qv below args s D b cA n (fun u => u = Rz)) (F0 m 82 ls []) := by
      intro x1 x4 x5 h H locs ls hf hw hl
      unfold F_X7_bringUp_J82 at hf
      refine lv_iinc (v := (x5 + 1)) (lv' := [(5, .int (x5 + 1)), (0, .ref (b + a)), (1, .int x1), (4, .int x4)]) hx hb dX7_bringUp_82 hl (k := 3) rfl rfl (by decide) rfl (fun ls hl => ?_)
      refine lv_goto (tgt := 21) hx hb dX7_bringUp_85 (by decide) ?_
      exact hrc21 _ hf _ _ _ hw (lv_sub hl [1, 2, 3, 0] rfl)
    refine lv_iload hx hb dX7_bringUp_21 (lv_at hl 3 rfl) ?_
    refine lv_aload_n hx hb dX7_bringUp_23 rfl (lv_at hl 0 rfl) ?_
    obtain ⟨hg24, hf⟩ := gn_of hf
    obtain ⟨ha24, hT24⟩ := (hw.2.1 _ ha_a).2.1 hT_a hg24
    obtain ⟨q24, hq24, ha24, hT24, hf⟩ := sg_nq hg24 ha24 hT24 hf
    refine sg_getr hc hw ha_a hT_a fr_7_0 k_160 dX7_bringUp_24 hq24 ?_
    refine sg_geti hc hw ha24 hT24 fi_1_2 k_48 dX7_bringUp_27 ?_
    refine lv_icmp_ge (tgt := 88) hx hb dX7_bringUp_30 (by decide) (fun c30 => ?_) (fun c30 => ?_)
    · have hf := if_of c30 hf
      cases hf
      exact sg_vret hc hw hz hn0 hr hlocks rfl dX7_bringUp_88
    · have hf := if_no c30 hf
      refine lv_iload hx hb dX7_bringUp_33 (lv_at hl 3 rfl) ?_
      refine lv_iload_n hx hb dX7_bringUp_35 rfl (lv_at hl 1 rfl) ?_
      obtain ⟨p36, hp36, hf⟩ := cl_of hf
      refine sg_ni (rest := []) (c_X8_isIn hn (h := h) hp36) hc hw hz hn0 hml hl cn_X7_103 ⟨⟨rfl, rfl⟩, Nat.le_trans (Nat.le_of_ble_eq_true rfl) hRf, Nat.le_trans (Nat.le_of_ble_eq_true rfl) hRl⟩ ⟨Nat.zero_le _, Nat.zero_le _⟩ rfl rfl (Nat.le_of_ble_eq_true rfl) dX7_bringUp_36 (fun r h1 H locs hp hw => ?_)
      obtain ⟨⟨e1, e2⟩, hb36⟩ := hp; subst r; subst h1
      refine lv_if_eq (tgt := 82) hx hb dX7_bringUp_39 (by decide) (fun c39 => ?_) (fun c39 => ?_)
      · have hf := if_of c39 hf
        exact J82 x1 x4 x5 _ _ _ _ hf hw (lv_sub hl [0, 1, 2, 3] rfl)
      · have hf := if_no c39 hf
        refine lv_aload_n hx hb dX7_bringUp_42 rfl (lv_at hl 0 rfl) ?_
        obtain ⟨hF43, hT43, ha43, hN43⟩ := ft_7_6 hn ha_a hT_a
        refine sg_getf (q := (a + 1)) hc hw ha_a hT_a fr_7_6 (by decide) k_170 dX7_bringUp_43 hF43 ?_
        refine lv_iload hx hb dX7_bringUp_46 (lv_at hl 3 rfl) ?_
        refine lv_dup2_11 hx hb dX7_bringUp_48 rfl rfl ?_
        obtain ⟨hg49, hf⟩ := gd_of hf
        refine sg_ild hc hw ha43 hT43 hN43 hg49 dX7_bringUp_49 ?_
        refine lv_aload_n hx hb dX7_bringUp_50 rfl (lv_at hl 0 rfl) ?_
        obtain ⟨hF51, hT51, ha51, hN51⟩ := ft_7_11 hn ha_a hT_a
        refine sg_getf (q := (a + 6)) hc hw ha_a hT_a fr_7_11 (by decide) k_179 dX7_bringUp_51 hF51 ?_
        refine lv_iload hx hb dX7_bringUp_54 (lv_at hl 3 rfl) ?_
        obtain ⟨hg56, hf⟩ := gd_of hf
        refine sg_ild hc hw ha51 hT51 hN51 hg56 dX7_bringUp_56 ?_
        refine lv_isub hx hb dX7_bringUp_57 ?_
        obtain ⟨hg58, hf⟩ := gd_of hf
        refine sg_ist hc hw ha43 hT43 hN43 hg58 dX7_bringUp_58 (fun H locs hw => ?_)
        obtain ⟨h58, hw, hf⟩ := sg_name hw hf
        refine lv_aload_n hx hb dX7_bringUp_59 rfl (lv_at hl 0 rfl) ?_
        obtain ⟨hF60, hT60, ha60, hN60⟩ := ft_7_8 hn ha_a hT_a
        refine sg_getf (q := (a + 3)) hc hw ha_a hT_a fr_7_8 (by decide) k_174 dX7_bringUp_60 hF60 ?_
        refine lv_iload hx hb dX7_bringUp_63 (lv_at hl 3 rfl) ?_
        refine lv_dup2_11 hx hb dX7_bringUp_65 rfl rfl ?_
        obtain ⟨hg66, hf⟩ := gd_of hf
        refine sg_ild hc hw ha60 hT60 hN60 hg66 dX7_bringUp_66 ?_
        refine lv_iconst (v := 1) hx hb dX7_bringUp_67 (by decide) ?_
        refine lv_iadd hx hb dX7_bringUp_68 ?_
        obtain ⟨hg69, hf⟩ := gd_of hf
        refine sg_ist hc hw ha60 hT60 hN60 hg69 dX7_bringUp_69 (fun H locs hw => ?_)
        obtain ⟨h69, hw, hf⟩ := sg_name hw hf
        refine lv_aload_n hx hb dX7_bringUp_70 rfl (lv_at hl 0 rfl) ?_
        obtain ⟨hF71, hT71, ha71, hN71⟩ := ft_7_9 hn ha_a hT_a
        refine sg_getf (q := (a + 4)) hc hw ha_a hT_a fr_7_9 (by decide) k_176 dX7_bringUp_71 hF71 ?_
        refine lv_iload hx hb dX7_bringUp_74 (lv_at hl 3 rfl) ?_
        refine lv_dup2_11 hx hb dX7_bringUp_76 rfl rfl ?_
        obtain ⟨hg77, hf⟩ := gd_of hf
        refine sg_ild hc hw ha71 hT71 hN71 hg77 dX7_bringUp_77 ?_
        refine lv_iload hx hb dX7_bringUp_78 (lv_at hl 2 rfl) ?_
        refine lv_iadd hx hb dX7_bringUp_80 ?_
        obtain ⟨hg81, hf⟩ := gd_of hf
        refine sg_ist hc hw ha71 hT71 hN71 hg81 dX7_bringUp_81 (fun H locs hw => ?_)
        obtain ⟨h81, hw, hf⟩ := sg_name hw hf
        exact J82 x1 x4 x5 _ _ _ _ hf hw (lv_sub hl [0, 1, 2, 3] rfl)
  have J16 : ∀ (x1 : Int32) (s0 : Int32) (h : HP) (H : Heap) (locs : List Loc) (ls : Array Slot), F_X7_bringUp_J16 a x1 s0 h = some Rz → sg_Wo D b cA n s.heap h H locs → lv_has ls 6 [(0, .ref (b + a)), (1, .int x1)] → W p l e R s m args below meth c H locs 0 0 (sg_Qv below args s D b cA n (fun u => u = Rz)) (F0 m 16 ls [.int s0]) := by
    intro x1 s0 h H locs ls hf hw hl
    unfold F_X7_bringUp_J16 at hf
    refine lv_istore (lv' := [(4, .int s0), (0, .ref (b + a)), (1, .int x1)]) hx hb dX7_bringUp_16 hl (by decide) rfl (fun ls hl => ?_)
    refine lv_iconst (v := 0) hx hb dX7_bringUp_18 (by decide) ?_
    refine lv_istore (lv' := [(5, .int 0), (4, .int s0), (0, .ref (b + a)), (1, .int x1)]) hx hb dX7_bringUp_19 hl (by decide) rfl (fun ls hl => ?_)
    exact L21 x1 s0 _ _ hf _ _ _ hw (lv_sub hl [2, 3, 1, 0] rfl)
  unfold F_X7_bringUp at hf
  refine lv_iload_n hx hb dX7_bringUp_0 rfl (lv_at hl 1 rfl) ?_
  obtain ⟨p1, hp1, hf⟩ := cl_of hf
  refine sg_si (rest := []) (c_J6_bitCount_0f7a4 hn (h := h) hp1) hc hw hz hn0 hml hl cs_X7_89 ⟨⟨rfl, rfl⟩, Nat.le_trans (Nat.le_of_ble_eq_true rfl) hRf, Nat.le_trans (Nat.le_of_ble_eq_true rfl) hRl⟩ ⟨Nat.zero_le _, Nat.zero_le _⟩ rfl rfl (Nat.le_of_ble_eq_true rfl) dX7_bringUp_1 (fun r h1 H locs hp hw => ?_)
  obtain ⟨e1, e2⟩ := hp; subst r; subst h1
  refine lv_istore_n (lv' := [(3, .int p1), (0, .ref (b + a)), (1, .int x1), (2, .int x2)]) hx hb dX7_bringUp_4 rfl hl (by decide) rfl (fun ls hl => ?_)
  refine lv_iload_n hx hb dX7_bringUp_5 rfl (lv_at hl 0 rfl) ?_
  refine lv_if_le (tgt := 15) hx hb dX7_bringUp_6 (by decide) (fun c6 => ?_) (fun c6 => ?_)
  · have hf := if_of c6 hf
    refine lv_iconst (v := 0) hx hb dX7_bringUp_15 (by decide) ?_
    exact J16 x1 0 _ _ _ _ hf hw (lv_sub hl [1, 2] rfl)
  · have hf := if_no c6 hf
    refine lv_iload_n hx hb dX7_bringUp_9 rfl (lv_at hl 3 rfl) ?_
    refine lv_iload_n hx hb dX7_bringUp_10 rfl (lv_at hl 0 rfl) ?_
    obtain ⟨hg11, hf⟩ := gz_of hf
    refine lv_idiv hx hb dX7_bringUp_11 hg11 ?_
    refine lv_goto (tgt := 16) hx hb dX7_bringUp_12 (by decide) ?_
    exact J16 x1 (x2 / p1) _ _ _ _ hf hw (lv_sub hl [1, 2] rfl)
theorem c_X7_bringUp {l : Launch} {D : va_G} {cA : Nat → ClassId} {b n : Nat} (hn : sg_okN n) {a : Nat} {x1 : Int32} {x2 : Int32} (ha_a : a < n) (hT_a : sg_T a = 7) {h : HP} {Rz : HP} (hf : F_X7_bringUp a x1 x2 h = some Rz) : Met l yX7_bringUp (Cond.code yX7_bringUp cX7_bringUp 6 none :: sg_tbl) ({ frames := 1, cells := 0, slots := 0, locals := 21 } : Room) (va_Pc [.ref (b + a), .int x1, .int x2] (sg_Wd D b cA n h)) (va_Qv (fun u => u = Rz) (sg_Wd D b cA n) (sg_A b)) 0 0 (sg_A b) := by
  refine Met.ofW (cc := cX7_bringUp) (maxL := 6) (ret := none) (by decide) rfl ?_
  intro p e s m args below meth c s₁ B hml hv
  obtain ⟨rfl, hP, hK, hz, hY, hN⟩ := hv
  have hl := lv_entry [.ref (b + a), .int x1, .int x2] (n := 6) (Nat.le_of_ble_eq_true rfl)
  rw [lg_entry_eq]
  exact w_X7_bringUp hn ⟨B.exec, B.bytes, findClass_of_methodNamed B.named, fun w h => atoms_spec (ws := Cond.code yX7_bringUp cX7_bringUp 6 none :: sg_tbl) B.pre w (List.mem_cons_of_mem _ h), hK, hN⟩ hz B.returns B.notSynchronized hml (Nat.le_refl _) (Nat.le_refl _) ha_a hT_a hf _ _ _ ⟨hP, hY, va_S.rf⟩ hl
def F_X7_step (a : Nat) (x1 : Int32) (x2 : Int32) (h : HP) : Option (Int32 × HP) :=
  (if (h.1 a 3) = (-4) then
  nm (x2 &&& ((h.1 a 4) ^^^ (-1))) (fun v19 =>
  gn (h.2 a 0) (nm ((h.2 a 0) - 1) (fun q24 =>
  cl (F_X1_slopeAt q24 x1 h) (fun p28 =>
  gn (h.2 a 0) (nm ((h.2 a 0) - 1) (fun q33 =>
  cl (F_X7_drawnAt a x1 h) (fun p42 =>
  cl (F_X7_setCosts a v19 (((1 + p28) + (h.1 q33 4)) + p42) h) (fun p46 =>
  cl (F_X7_stumbling a v19 x1 p46) (fun p53 =>
  nm (v19 &&& (p53.1 ^^^ (-1))) (fun v59 =>
  cl (F_J6_bitCount_0f7a4 v59) (fun p63 =>
  (if (p53.2.1 a 1) ≤ p63 then
  gn (p53.2.2 a 0) (nm ((p53.2.2 a 0) - 1) (fun q86 =>
  cl (F_X1_priceAt q86 x1 p53.2) (fun p90 =>
  cl (F_X7_bringUp a v59 (60 * p90) p53.2) (fun p94 =>
  some (v59, p94)))))
  else
  nm (ui p53.2 a 3 x1) (fun h75 =>
  some (0, h75))))))))))))))
  else
  some (0, h))
set_option maxHeartbeats 4000000 in
set_option maxRecDepth 100000 in
theorem w_X7_step {p : Program} {l : Launch} {e : Env} {R : Room} {s : State} {m : MethodId} {args : Array Value} {below : List Frame} {meth : Method} {c : Code} {D : va_G} {cA : Nat → ClassId} {b n : Nat} (hn : sg_okN n) {a : Nat} {x1 : Int32} {x2 : Int32} {h : HP} {Rz : Int32 × HP} (hc : sg_Cx p s m args c cX7_step RX7 D cA) (hz : s.heap.size = b + n) (hr : meth.sig.returnType = some .int) (hlocks : meth.locks = false) (hml : c.maxLocals = 5) (hRf : 2 ≤ R.frames) (hRl : 50 ≤ R.locals) (ha_a : a < n) (hT_a : sg_T a = 7) (hf : F_X7_step a x1 x2 h = some Rz) (H : Heap) (locs : List Loc) (ls : Array Slot) (hw : sg_Wo D b cA n s.heap h H locs) (hl : lv_has ls 5 [(0, .ref (b + a)), (1, .int x1), (2, .int x2)]) : W p l e R s m args below meth c H locs 0 0 (sg_Qi below args s D b cA n (fun r u => r = Rz.1 ∧ u = Rz.2)) (F0 m 0 ls []) := by
  have hx := hc.1
  have hb := hc.2.1
  have hn0 : 0 < n := sg_pos hn
  unfold F_X7_step at hf
  refine lv_aload_n hx hb dX7_step_0 rfl (lv_at hl 0 rfl) ?_
  refine sg_geti hc hw ha_a hT_a fi_7_3 k_165 dX7_step_1 ?_
  refine lv_bipush (v := (-4)) hx hb dX7_step_4 (by decide) ?_
  refine lv_icmp_eq (tgt := 11) hx hb dX7_step_6 (by decide) (fun c6 => ?_) (fun c6 => ?_)
  · have hf := if_of c6 hf
    refine lv_iload_n hx hb dX7_step_11 rfl (lv_at hl 2 rfl) ?_
    refine lv_aload_n hx hb dX7_step_12 rfl (lv_at hl 0 rfl) ?_
    refine sg_geti hc hw ha_a hT_a fi_7_4 k_168 dX7_step_13 ?_
    refine lv_iconst (v := (-1)) hx hb dX7_step_16 (by decide) ?_
    refine lv_ixor hx hb dX7_step_17 ?_
    refine lv_iand hx hb dX7_step_18 ?_
    refine lv_topi (fun v19 e19 => ?_)
    have hf := nm_of e19 hf
    refine lv_istore_n (lv' := [(3, .int v19), (0, .ref (b + a)), (1, .int x1), (2, .int x2)]) hx hb dX7_step_19 rfl hl (by decide) rfl (fun ls hl => ?_)
    refine lv_aload_n hx hb dX7_step_20 rfl (lv_at hl 1 rfl) ?_
    refine lv_iload_n hx hb dX7_step_21 rfl (lv_at hl 0 rfl) ?_
    refine lv_iconst (v := 1) hx hb dX7_step_22 (by decide) ?_
    refine lv_aload_n hx hb dX7_step_23 rfl (lv_at hl 1 rfl) ?_
    obtain ⟨hg24, hf⟩ := gn_of hf
    obtain ⟨ha24, hT24⟩ := (hw.2.1 _ ha_a).2.1 hT_a hg24
    obtain ⟨q24, hq24, ha24, hT24, hf⟩ := sg_nq hg24 ha24 hT24 hf
    refine sg_getr hc hw ha_a hT_a fr_7_0 k_160 dX7_step_24 hq24 ?_
    refine lv_iload_n hx hb dX7_step_27 rfl (lv_at hl 2 rfl) ?_
    obtain ⟨p28, hp28, hf⟩ := cl_of hf
    refine sg_vi (rest := [.int 1, .int v19, .ref (b + a)]) (c_X1_slopeAt hn ha24 hT24 hp28) hc hw hz hml hl ha24 hT24 (by decide) rfl cv_X7_72 ⟨⟨rfl, rfl⟩, Nat.le_trans (Nat.le_of_ble_eq_true rfl) hRf, Nat.le_trans (Nat.le_of_ble_eq_true rfl) hRl⟩ ⟨Nat.zero_le _, Nat.zero_le _⟩ rfl rfl (Nat.le_of_ble_eq_true rfl) dX7_step_28 (fun r h1 H locs hp hw => ?_)
    obtain ⟨e1, e2⟩ := hp; subst r; subst h1
    refine lv_iadd hx hb dX7_step_31 ?_
    refine lv_aload_n hx hb dX7_step_32 rfl (lv_at hl 1 rfl) ?_
    obtain ⟨hg33, hf⟩ := gn_of hf
    obtain ⟨ha33, hT33⟩ := (hw.2.1 _ ha_a).2.1 hT_a hg33
    obtain ⟨q33, hq33, ha33, hT33, hf⟩ := sg_nq hg33 ha33 hT33 hf
    refine sg_getr hc hw ha_a hT_a fr_7_0 k_160 dX7_step_33 hq33 ?_
    refine sg_geti hc hw ha33 hT33 fi_1_4 k_54 dX7_step_36 ?_
    refine lv_iadd hx hb dX7_step_39 ?_
    refine lv_aload_n hx hb dX7_step_40 rfl (lv_at hl 1 rfl) ?_
    refine lv_iload_n hx hb dX7_step_41 rfl (lv_at hl 2 rfl) ?_
    obtain ⟨p42, hp42, hf⟩ := cl_of hf
    refine sg_vi (rest := [.int ((1 + p28) + (h.1 q33 4)), .int v19, .ref (b + a)]) (c_X7_drawnAt hn ha_a hT_a hp42) hc hw hz hml hl ha_a hT_a (by decide) rfl cv_X7_79 ⟨⟨rfl, rfl⟩, Nat.le_trans (Nat.le_of_ble_eq_true rfl) hRf, Nat.le_trans (Nat.le_of_ble_eq_true rfl) hRl⟩ ⟨Nat.zero_le _, Nat.zero_le _⟩ rfl rfl (Nat.le_of_ble_eq_true rfl) dX7_step_42 (fun r h1 H locs hp hw => ?_)
    obtain ⟨e1, e2⟩ := hp; subst r; subst h1
    refine lv_iadd hx hb dX7_step_45 ?_
    obtain ⟨p46, hp46, hf⟩ := cl_of hf
    refine sg_vv (rest := []) (c_X7_setCosts hn ha_a hT_a hp46) hc hw hz hml hl ha_a hT_a (by decide) rfl cv_X7_82 ⟨⟨rfl, rfl⟩, Nat.le_trans (Nat.le_of_ble_eq_true rfl) hRf, Nat.le_trans (Nat.le_of_ble_eq_true rfl) hRl⟩ ⟨Nat.zero_le _, Nat.zero_le _⟩ rfl rfl (Nat.le_of_ble_eq_true rfl) dX7_step_46 (fun h1 H locs hp hw => ?_)
    subst h1
    refine lv_iload_n hx hb dX7_step_49 rfl (lv_at hl 0 rfl) ?_
    refine lv_aload_n hx hb dX7_step_50 rfl (lv_at hl 1 rfl) ?_
    refine lv_iload_n hx hb dX7_step_51 rfl (lv_at hl 0 rfl) ?_
    refine lv_iload_n hx hb dX7_step_52 rfl (lv_at hl 2 rfl) ?_
    obtain ⟨p53, hp53, hf⟩ := cl_of hf
    refine sg_vi (rest := [.int v19]) (c_X7_stumbling hn ha_a hT_a hp53) hc hw hz hml hl ha_a hT_a (by decide) rfl cv_X7_86 ⟨⟨rfl, rfl⟩, Nat.le_trans (Nat.le_of_ble_eq_true rfl) hRf, Nat.le_trans (Nat.le_of_ble_eq_true rfl) hRl⟩ ⟨Nat.zero_le _, Nat.zero_le _⟩ rfl rfl (Nat.le_of_ble_eq_true rfl) dX7_step_53 (fun r h1 H locs hp hw => ?_)
    obtain ⟨e1, e2⟩ := hp; subst r; subst h1
    refine lv_iconst (v := (-1)) hx hb dX7_step_56 (by decide) ?_
    refine lv_ixor hx hb dX7_step_57 ?_
    refine lv_iand hx hb dX7_step_58 ?_
    refine lv_topi (fun v59 e59 => ?_)
    have hf := nm_of e59 hf
    refine lv_istore (lv' := [(4, .int v59), (3, .int v19), (0, .ref (b + a)), (1, .int x1), (2, .int x2)]) hx hb dX7_step_59 hl (by decide) rfl (fun ls hl => ?_)
    refine lv_iload hx hb dX7_step_61 (lv_at hl 0 rfl) ?_
    obtain ⟨p63, hp63, hf⟩ := cl_of hf
    refine sg_si (rest := []) (c_J6_bitCount_0f7a4 hn (h := p53.2) hp63) hc hw hz hn0 hml hl cs_X7_89 ⟨⟨rfl, rfl⟩, Nat.le_trans (Nat.le_of_ble_eq_true rfl) hRf, Nat.le_trans (Nat.le_of_ble_eq_true rfl) hRl⟩ ⟨Nat.zero_le _, Nat.zero_le _⟩ rfl rfl (Nat.le_of_ble_eq_true rfl) dX7_step_63 (fun r h1 H locs hp hw => ?_)
    obtain ⟨e1, e2⟩ := hp; subst r; subst h1
    refine lv_aload_n hx hb dX7_step_66 rfl (lv_at hl 2 rfl) ?_
    refine sg_geti hc hw ha_a hT_a fi_7_1 k_161 dX7_step_67 ?_
    refine lv_icmp_ge (tgt := 80) hx hb dX7_step_70 (by decide) (fun c70 => ?_) (fun c70 => ?_)
    · have hf := if_of c70 hf
      refine lv_aload_n hx hb dX7_step_80 rfl (lv_at hl 2 rfl) ?_
      refine lv_iload hx hb dX7_step_81 (lv_at hl 0 rfl) ?_
      refine lv_bipush (v := 60) hx hb dX7_step_83 (by decide) ?_
      refine lv_aload_n hx hb dX7_step_85 rfl (lv_at hl 2 rfl) ?_
      obtain ⟨hg86, hf⟩ := gn_of hf
      obtain ⟨ha86, hT86⟩ := (hw.2.1 _ ha_a).2.1 hT_a hg86
      obtain ⟨q86, hq86, ha86, hT86, hf⟩ := sg_nq hg86 ha86 hT86 hf
      refine sg_getr hc hw ha_a hT_a fr_7_0 k_160 dX7_step_86 hq86 ?_
      refine lv_iload_n hx hb dX7_step_89 rfl (lv_at hl 3 rfl) ?_
      obtain ⟨p90, hp90, hf⟩ := cl_of hf
      refine sg_vi (rest := [.int 60, .int v59, .ref (b + a)]) (c_X1_priceAt hn ha86 hT86 hp90) hc hw hz hml hl ha86 hT86 (by decide) rfl cv_X7_94 ⟨⟨rfl, rfl⟩, Nat.le_trans (Nat.le_of_ble_eq_true rfl) hRf, Nat.le_trans (Nat.le_of_ble_eq_true rfl) hRl⟩ ⟨Nat.zero_le _, Nat.zero_le _⟩ rfl rfl (Nat.le_of_ble_eq_true rfl) dX7_step_90 (fun r h1 H locs hp hw => ?_)
      obtain ⟨e1, e2⟩ := hp; subst r; subst h1
      refine lv_imul hx hb dX7_step_93 ?_
      obtain ⟨p94, hp94, hf⟩ := cl_of hf
      refine sg_vv (rest := []) (c_X7_bringUp hn ha_a hT_a hp94) hc hw hz hml hl ha_a hT_a (by decide) rfl cv_X7_97 ⟨⟨rfl, rfl⟩, Nat.le_trans (Nat.le_of_ble_eq_true rfl) hRf, Nat.le_trans (Nat.le_of_ble_eq_true rfl) hRl⟩ ⟨Nat.zero_le _, Nat.zero_le _⟩ rfl rfl (Nat.le_of_ble_eq_true rfl) dX7_step_94 (fun h1 H locs hp hw => ?_)
      subst h1
      refine lv_iload hx hb dX7_step_97 (lv_at hl 0 rfl) ?_
      cases hf
      exact sg_iret hc hw hz hn0 hr hlocks ⟨rfl, rfl⟩ dX7_step_99
    · have hf := if_no c70 hf
      refine lv_aload_n hx hb dX7_step_73 rfl (lv_at hl 2 rfl) ?_
      refine lv_iload_n hx hb dX7_step_74 rfl (lv_at hl 3 rfl) ?_
      refine sg_puti hc hw ha_a hT_a fp_7_3 rfl rfl k_165 dX7_step_75 (fun H locs hw => ?_)
      obtain ⟨h75, hw, hf⟩ := sg_name hw hf
      refine lv_iconst (v := 0) hx hb dX7_step_78 (by decide) ?_
      cases hf
      exact sg_iret hc hw hz hn0 hr hlocks ⟨rfl, rfl⟩ dX7_step_79
  · have hf := if_no c6 hf
    refine lv_iconst (v := 0) hx hb dX7_step_9 (by decide) ?_
    cases hf
    exact sg_iret hc hw hz hn0 hr hlocks ⟨rfl, rfl⟩ dX7_step_10
theorem c_X7_step {l : Launch} {D : va_G} {cA : Nat → ClassId} {b n : Nat} (hn : sg_okN n) {a : Nat} {x1 : Int32} {x2 : Int32} (ha_a : a < n) (hT_a : sg_T a = 7) {h : HP} {Rz : Int32 × HP} (hf : F_X7_step a x1 x2 h = some Rz) : Met l yX7_step (Cond.code yX7_step cX7_step 5 (some .int) :: sg_tbl) ({ frames := 2, cells := 0, slots := 0, locals := 50 } : Room) (va_Pc [.ref (b + a), .int x1, .int x2] (sg_Wd D b cA n h)) (va_Qi (fun r u => r = Rz.1 ∧ u = Rz.2) (sg_Wd D b cA n) (sg_A b)) 0 0 (sg_A b) := by
  refine Met.ofW (cc := cX7_step) (maxL := 5) (ret := (some .int)) (by decide) rfl ?_
  intro p e s m args below meth c s₁ B hml hv
  obtain ⟨rfl, hP, hK, hz, hY, hN⟩ := hv
  have hl := lv_entry [.ref (b + a), .int x1, .int x2] (n := 5) (Nat.le_of_ble_eq_true rfl)
  rw [lg_entry_eq]
  exact w_X7_step hn ⟨B.exec, B.bytes, findClass_of_methodNamed B.named, fun w h => atoms_spec (ws := Cond.code yX7_step cX7_step 5 (some .int) :: sg_tbl) B.pre w (List.mem_cons_of_mem _ h), hK, hN⟩ hz B.returns B.notSynchronized hml (Nat.le_refl _) (Nat.le_refl _) ha_a hT_a hf _ _ _ ⟨hP, hY, va_S.rf⟩ hl
def F_X7_go_L2 (a : Nat) (q1 : Nat) : Nat → (Int32 × HP) → Option (HP) :=
  lp (fun rc2 x =>
  gn (x.2.2 a 0) (nm ((x.2.2 a 0) - 1) (fun q4 =>
  (if (x.2.1 q4 1) ≤ x.1 then
  some x.2
  else
  gd x.1 (sg_N q1) (
  cl (F_X7_step a x.1 (ld x.2 q1 x.1) x.2) (fun p23 =>
  gd x.1 120 (
  nm (st p23.2 (a + 5) x.1 p23.1) (fun h26 =>
  rc2 ((x.1 + 1), h26)))))))))
def F_X7_go (a : Nat) (q1 : Nat) (h : HP) : Option (HP) :=
  F_X7_go_L2 a q1 sg_fuel (0, h)
set_option maxHeartbeats 4000000 in
set_option maxRecDepth 100000 in
theorem w_X7_go {p : Program} {l : Launch} {e : Env} {R : Room} {s : State} {m : MethodId} {args : Array Value} {below : List Frame} {meth : Method} {c : Code} {D : va_G} {cA : Nat → ClassId} {b n : Nat} (hn : sg_okN n) {a : Nat} {q1 : Nat} {h : HP} {Rz : HP} (hc : sg_Cx p s m args c cX7_go RX7 D cA) (hz : s.heap.size = b + n) (hr : meth.sig.returnType = none) (hlocks : meth.locks = false) (hml : c.maxLocals = 3) (hRf : 3 ≤ R.frames) (hRl : 74 ≤ R.locals) (ha_a : a < n) (hT_a : sg_T a = 7) (ha_q1 : q1 < n) (hT_q1 : sg_T q1 = 11) (hf : F_X7_go a q1 h = some Rz) (H : Heap) (locs : List Loc) (ls : Array Slot) (hw : sg_Wo D b cA n s.heap h H locs) (hl : lv_has ls 3 [(0, .ref (b + a)), (1, .ref (b + q1))]) : W p l e R s m args below meth c H locs 0 0 (sg_Qv below args s D b cA n (fun u => u = Rz)) (F0 m 0 ls []) := by
  have hx := hc.1
  have hb := hc.2.1
  have hn0 : 0 < n := sg_pos hn
  have L2 : ∀ (k : Nat) (x : (Int32 × HP)), F_X7_go_L2 a q1 k x = some Rz → ∀ (H : Heap) (locs : List Loc) (ls : Array Slot), sg_Wo D b cA n s.heap x.2 H locs → lv_has ls 3 [(0, .ref (b + a)), (1, .ref (b + q1)), (2, .int x.1)] → W p l e R s m args below meth c H locs 0 0 (sg_Qv below args s D b cA n (fun u => u = Rz)) (F0 m 2 ls []) := by
    unfold F_X7_go_L2
    refine lp_walk ?_
    intro rc2 hrc2 x hf H locs ls hw hl
    obtain ⟨x2, h⟩ := x
    dsimp only at hf hw hl
    refine lv_iload_n hx hb dX7_go_2 rfl (lv_at hl 2 rfl) ?_
    refine lv_aload_n hx hb dX7_go_3 rfl (lv_at hl 0 rfl) ?_
    obtain ⟨hg4, hf⟩ := gn_of hf
    obtain ⟨ha4, hT4⟩ := (hw.2.1 _ ha_a).2.1 hT_a hg4
    obtain ⟨q4, hq4, ha4, hT4, hf⟩ := sg_nq hg4 ha4 hT4 hf
    refine sg_getr hc hw ha_a hT_a fr_7_0 k_160 dX7_go_4 hq4 ?_
    refine sg_geti hc hw ha4 hT4 fi_1_1 k_44 dX7_go_7 ?_
    refine lv_icmp_ge (tgt := 33) hx hb dX7_go_10 (by decide) (fun c10 => ?_) (fun c10 => ?_)
    · have hf := if_of c10 hf
      cases hf
      exact sg_vret hc hw hz hn0 hr hlocks rfl dX7_go_33
    · have hf := if_no c10 hf
      refine lv_aload_n hx hb dX7_go_13 rfl (lv_at hl 0 rfl) ?_
      obtain ⟨hF14, hT14, ha14, hN14⟩ := ft_7_10 hn ha_a hT_a
      refine sg_getf (q := (a + 5)) hc hw ha_a hT_a fr_7_10 (by decide) k_177 dX7_go_14 hF14 ?_
      refine lv_iload_n hx hb dX7_go_17 rfl (lv_at hl 2 rfl) ?_
      refine lv_aload_n hx hb dX7_go_18 rfl (lv_at hl 0 rfl) ?_
      refine lv_iload_n hx hb dX7_go_19 rfl (lv_at hl 2 rfl) ?_
      refine lv_aload_n hx hb dX7_go_20 rfl (lv_at hl 1 rfl) ?_
      refine lv_iload_n hx hb dX7_go_21 rfl (lv_at hl 2 rfl) ?_
      obtain ⟨hg22, hf⟩ := gd_of hf
      refine sg_ild hc hw ha_q1 hT_q1 rfl hg22 dX7_go_22 ?_
      obtain ⟨p23, hp23, hf⟩ := cl_of hf
      refine sg_vi (rest := [.int x2, .ref (b + (a + 5))]) (c_X7_step hn ha_a hT_a hp23) hc hw hz hml hl ha_a hT_a (by decide) rfl cv_X7_68 ⟨⟨rfl, rfl⟩, Nat.le_trans (Nat.le_of_ble_eq_true rfl) hRf, Nat.le_trans (Nat.le_of_ble_eq_true rfl) hRl⟩ ⟨Nat.zero_le _, Nat.zero_le _⟩ rfl rfl (Nat.le_of_ble_eq_true rfl) dX7_go_23 (fun r h1 H locs hp hw => ?_)
      obtain ⟨e1, e2⟩ := hp; subst r; subst h1
      obtain ⟨hg26, hf⟩ := gd_of hf
      refine sg_ist hc hw ha14 hT14 hN14 hg26 dX7_go_26 (fun H locs hw => ?_)
      obtain ⟨h26, hw, hf⟩ := sg_name hw hf
      refine lv_iinc (v := (x2 + 1)) (lv' := [(2, .int (x2 + 1)), (0, .ref (b + a)), (1, .ref (b + q1))]) hx hb dX7_go_27 hl (k := 2) rfl rfl (by decide) rfl (fun ls hl => ?_)
      refine lv_goto (tgt := 2) hx hb dX7_go_30 (by decide) ?_
      exact hrc2 _ hf _ _ _ hw (lv_sub hl [1, 2, 0] rfl)
  unfold F_X7_go at hf
  refine lv_iconst (v := 0) hx hb dX7_go_0 (by decide) ?_
  refine lv_istore_n (lv' := [(2, .int 0), (0, .ref (b + a)), (1, .ref (b + q1))]) hx hb dX7_go_1 rfl hl (by decide) rfl (fun ls hl => ?_)
  exact L2 _ _ hf _ _ _ hw (lv_sub hl [1, 2, 0] rfl)
theorem c_X7_go {l : Launch} {D : va_G} {cA : Nat → ClassId} {b n : Nat} (hn : sg_okN n) {a : Nat} {q1 : Nat} (ha_a : a < n) (hT_a : sg_T a = 7) (ha_q1 : q1 < n) (hT_q1 : sg_T q1 = 11) {h : HP} {Rz : HP} (hf : F_X7_go a q1 h = some Rz) : Met l yX7_go (Cond.code yX7_go cX7_go 3 none :: sg_tbl) ({ frames := 3, cells := 0, slots := 0, locals := 74 } : Room) (va_Pc [.ref (b + a), .ref (b + q1)] (sg_Wd D b cA n h)) (va_Qv (fun u => u = Rz) (sg_Wd D b cA n) (sg_A b)) 0 0 (sg_A b) := by
  refine Met.ofW (cc := cX7_go) (maxL := 3) (ret := none) (by decide) rfl ?_
  intro p e s m args below meth c s₁ B hml hv
  obtain ⟨rfl, hP, hK, hz, hY, hN⟩ := hv
  have hl := lv_entry [.ref (b + a), .ref (b + q1)] (n := 3) (Nat.le_of_ble_eq_true rfl)
  rw [lg_entry_eq]
  exact w_X7_go hn ⟨B.exec, B.bytes, findClass_of_methodNamed B.named, fun w h => atoms_spec (ws := Cond.code yX7_go cX7_go 3 none :: sg_tbl) B.pre w (List.mem_cons_of_mem _ h), hK, hN⟩ hz B.returns B.notSynchronized hml (Nat.le_refl _) (Nat.le_refl _) ha_a hT_a ha_q1 hT_q1 hf _ _ _ ⟨hP, hY, va_S.rf⟩ hl
def F_X9_in (z0 : Int64) (z2 : Int64) (z4 : Int64) : Option (Int32) :=
  (if (lg_cmp z0 z2) < 0 then
  some 0
  else
  (if 0 < (lg_cmp z0 z4) then
  some 0
  else
  some 1))
set_option maxHeartbeats 4000000 in
set_option maxRecDepth 100000 in
theorem w_X9_in {p : Program} {l : Launch} {e : Env} {R : Room} {s : State} {m : MethodId} {args : Array Value} {below : List Frame} {meth : Method} {c : Code} {D : va_G} {cA : Nat → ClassId} {b n : Nat} (hn : sg_okN n) {z0 : Int64} {z2 : Int64} {z4 : Int64} {h : HP} {Rz : Int32} (hc : sg_Cx p s m args c cX9_in RX9 D cA) (hz : s.heap.size = b + n) (hr : meth.sig.returnType = some .boolean) (hlocks : meth.locks = false) (hml : c.maxLocals = 6) (hRf : 0 ≤ R.frames) (hRl : 0 ≤ R.locals) (hf : F_X9_in z0 z2 z4 = some Rz) (H : Heap) (locs : List Loc) (ls : Array Slot) (hw : sg_Wo D b cA n s.heap h H locs) (hl : lv_has ls 6 [(0, .long z0), (2, .long z2), (4, .long z4)]) : W p l e R s m args below meth c H locs 0 0 (sg_Qi below args s D b cA n (fun r u => (r = Rz ∧ u = h) ∧ narrow .boolean (.int r) = .int r)) (F0 m 0 ls []) := by
  have hx := hc.1
  have hb := hc.2.1
  have hn0 : 0 < n := sg_pos hn
  unfold F_X9_in at hf
  refine lv_lload_n hx hb dX9_in_0 rfl (lv_at hl 0 rfl) ?_
  refine lv_lload_n hx hb dX9_in_1 rfl (lv_at hl 1 rfl) ?_
  refine W.lcmp hx hb dX9_in_2 ?_
  refine lv_if_lt (tgt := 17) hx hb dX9_in_3 (by decide) (fun c3 => ?_) (fun c3 => ?_)
  · have hf := if_of c3 hf
    refine lv_iconst (v := 0) hx hb dX9_in_17 (by decide) ?_
    cases hf
    exact sg_zret hc hw hz hn0 hr hlocks rfl ⟨⟨rfl, rfl⟩, rfl⟩ dX9_in_18
  · have hf := if_no c3 hf
    refine lv_lload_n hx hb dX9_in_6 rfl (lv_at hl 0 rfl) ?_
    refine lv_lload hx hb dX9_in_7 (lv_at hl 2 rfl) ?_
    refine W.lcmp hx hb dX9_in_9 ?_
    refine lv_if_gt (tgt := 17) hx hb dX9_in_10 (by decide) (fun c10 => ?_) (fun c10 => ?_)
    · have hf := if_of c10 hf
      refine lv_iconst (v := 0) hx hb dX9_in_17 (by decide) ?_
      cases hf
      exact sg_zret hc hw hz hn0 hr hlocks rfl ⟨⟨rfl, rfl⟩, rfl⟩ dX9_in_18
    · have hf := if_no c10 hf
      refine lv_iconst (v := 1) hx hb dX9_in_13 (by decide) ?_
      refine lv_goto (tgt := 18) hx hb dX9_in_14 (by decide) ?_
      cases hf
      exact sg_zret hc hw hz hn0 hr hlocks rfl ⟨⟨rfl, rfl⟩, rfl⟩ dX9_in_18
theorem c_X9_in {l : Launch} {D : va_G} {cA : Nat → ClassId} {b n : Nat} (hn : sg_okN n) {z0 : Int64} {z2 : Int64} {z4 : Int64} {h : HP} {Rz : Int32} (hf : F_X9_in z0 z2 z4 = some Rz) : Met l yX9_in (Cond.code yX9_in cX9_in 6 (some .boolean) :: sg_tbl) ({ frames := 0, cells := 0, slots := 0, locals := 0 } : Room) (va_Pc [.long z0, .long z2, .long z4] (sg_Wd D b cA n h)) (va_Qi (fun r u => (r = Rz ∧ u = h) ∧ narrow .boolean (.int r) = .int r) (sg_Wd D b cA n) (sg_A b)) 0 0 (sg_A b) := by
  refine Met.ofW (cc := cX9_in) (maxL := 6) (ret := (some .boolean)) (by decide) rfl ?_
  intro p e s m args below meth c s₁ B hml hv
  obtain ⟨rfl, hP, hK, hz, hY, hN⟩ := hv
  have hl := lv_entry [.long z0, .long z2, .long z4] (n := 6) (Nat.le_of_ble_eq_true rfl)
  rw [lg_entry_eq]
  exact w_X9_in hn ⟨B.exec, B.bytes, findClass_of_methodNamed B.named, fun w h => atoms_spec (ws := Cond.code yX9_in cX9_in 6 (some .boolean) :: sg_tbl) B.pre w (List.mem_cons_of_mem _ h), hK, hN⟩ hz B.returns B.notSynchronized hml (Nat.le_refl _) (Nat.le_refl _) hf _ _ _ ⟨hP, hY, va_S.rf⟩ hl
def F_X9_takes_J131 (a : Nat) (rc2 : (Int32 × HP) → Option (Int32 × HP)) (x1 : Int32) (x2 : Int32) (x3 : Int32) (x4 : Int32) (s0 : Int32) (h : HP) : Option (Int32 × HP) :=
  cl (F_X9_in (x4.toInt64) 1 2) (fun p140 =>
  (if p140 = 0 then
  some (0, h)
  else
  (if s0 = 0 then
  some (0, h)
  else
  gd x2 3 (
  nm (st h (a + 9) x2 x3) (fun h159 =>
  nm (ui h159 a 12 ((h159.1 a 12) + 1)) (fun h167 =>
  rc2 ((x2 + 1), h167)))))))
def F_X9_takes_J130 (a : Nat) (rc2 : (Int32 × HP) → Option (Int32 × HP)) (x1 : Int32) (x2 : Int32) (x3 : Int32) (x4 : Int32) (h : HP) : Option (Int32 × HP) :=
  F_X9_takes_J131 a rc2 x1 x2 x3 x4 0 h
def F_X9_takes_J123 (a : Nat) (rc2 : (Int32 × HP) → Option (Int32 × HP)) (x1 : Int32) (x2 : Int32) (x3 : Int32) (x4 : Int32) (s0 : Int32) (s1 : Int32) (h : HP) : Option (Int32 × HP) :=
  (if s1 = s0 then
  F_X9_takes_J131 a rc2 x1 x2 x3 x4 1 h
  else
  F_X9_takes_J130 a rc2 x1 x2 x3 x4 h)
def F_X9_takes_J89 (a : Nat) (rc2 : (Int32 × HP) → Option (Int32 × HP)) (x1 : Int32) (x2 : Int32) (x3 : Int32) (x4 : Int32) (h : HP) : Option (Int32 × HP) :=
  (if (h.1 a 9) ≤ (h.1 a 12) then
  F_X9_takes_J130 a rc2 x1 x2 x3 x4 h
  else
  gd (h.1 a 12) 200 (
  (if (x1 - 1) ≤ x2 then
  F_X9_takes_J123 a rc2 x1 x2 x3 x4 59 (ld h (a + 7) (h.1 a 12)) h
  else
  F_X9_takes_J123 a rc2 x1 x2 x3 x4 44 (ld h (a + 7) (h.1 a 12)) h)))
def F_X9_takes_J72 (a : Nat) (rc2 : (Int32 × HP) → Option (Int32 × HP)) (rc12 : (Int32 × Int32 × HP) → Option (Int32 × HP)) (x1 : Int32) (x2 : Int32) (x4 : Int32) (s0 : Int32) (h : HP) : Option (Int32 × HP) :=
  nm (ui h a 12 ((h.1 a 12) + 1)) (fun h83 =>
  rc12 (s0, (x4 + 1), h83))
def F_X9_takes_L12 (a : Nat) (rc2 : (Int32 × HP) → Option (Int32 × HP)) (x1 : Int32) (x2 : Int32) : Nat → (Int32 × Int32 × HP) → Option (Int32 × HP) :=
  lp (fun rc12 x =>
  (if (x.2.2.1 a 9) ≤ (x.2.2.1 a 12) then
  F_X9_takes_J89 a rc2 x1 x2 x.1 x.2.1 x.2.2
  else
  gd (x.2.2.1 a 12) 200 (
  cl (F_X9_in ((ld x.2.2 (a + 7) (x.2.2.1 a 12)).toInt64) 48 57) (fun p39 =>
  (if p39 = 0 then
  F_X9_takes_J89 a rc2 x1 x2 x.1 x.2.1 x.2.2
  else
  (if 2 ≤ x.2.1 then
  F_X9_takes_J72 a rc2 rc12 x1 x2 x.2.1 x.1 x.2.2
  else
  gd (x.2.2.1 a 12) 200 (
  F_X9_takes_J72 a rc2 rc12 x1 x2 x.2.1 (((10 * x.1) + (ld x.2.2 (a + 7) (x.2.2.1 a 12))) - 48) x.2.2)))))))
def F_X9_takes_L2 (a : Nat) (x1 : Int32) : Nat → (Int32 × HP) → Option (Int32 × HP) :=
  lp (fun rc2 x =>
  (if x1 ≤ x.1 then
  some (1, x.2)
  else
  F_X9_takes_L12 a rc2 x1 x.1 sg_fuel (0, 0, x.2)))
def F_X9_takes (a : Nat) (x1 : Int32) (h : HP) : Option (Int32 × HP) :=
  F_X9_takes_L2 a x1 sg_fuel (0, h)
set_option maxHeartbeats 4000000 in
set_option maxRecDepth 100000 in
theorem w_X9_takes {p : Program} {l : Launch} {e : Env} {R : Room} {s : State} {m : MethodId} {args : Array Value} {below : List Frame} {meth : Method} {c : Code} {D : va_G} {cA : Nat → ClassId} {b n : Nat} (hn : sg_okN n) {a : Nat} {x1 : Int32} {h : HP} {Rz : Int32 × HP} (hc : sg_Cx p s m args c cX9_takes RX9 D cA) (hz : s.heap.size = b + n) (hr : meth.sig.returnType = some .boolean) (hlocks : meth.locks = false) (hml : c.maxLocals = 6) (hRf : 1 ≤ R.frames) (hRl : 25 ≤ R.locals) (ha_a : a < n) (hT_a : sg_T a = 9) (hf : F_X9_takes a x1 h = some Rz) (H : Heap) (locs : List Loc) (ls : Array Slot) (hw : sg_Wo D b cA n s.heap h H locs) (hl : lv_has ls 6 [(0, .ref (b + a)), (1, .int x1)]) : W p l e R s m args below meth c H locs 0 0 (sg_Qi below args s D b cA n (fun r u => (r = Rz.1 ∧ u = Rz.2) ∧ narrow .boolean (.int r) = .int r)) (F0 m 0 ls []) := by
  have hx := hc.1
  have hb := hc.2.1
  have hn0 : 0 < n := sg_pos hn
  have L2 : ∀ (x1 : Int32) (k : Nat) (x : (Int32 × HP)), F_X9_takes_L2 a x1 k x = some Rz → ∀ (H : Heap) (locs : List Loc) (ls : Array Slot), sg_Wo D b cA n s.heap x.2 H locs → lv_has ls 6 [(0, .ref (b + a)), (1, .int x1), (2, .int x.1)] → W p l e R s m args below meth c H locs 0 0 (sg_Qi below args s D b cA n (fun r u => (r = Rz.1 ∧ u = Rz.2) ∧ narrow .boolean (.int r) = .int r)) (F0 m 2 ls []) := by
    intro x1
    unfold F_X9_takes_L2
    refine lp_walk ?_
    intro rc2 hrc2 x hf H locs ls hw hl
    obtain ⟨x2, h⟩ := x
    dsimp only at hf hw hl
    have J131 : ∀ (x1 : Int32) (x2 : Int32) (x3 : Int32) (x4 : Int32) (s0 : Int32) (h : HP) (H : Heap) (locs : List Loc) (ls : Array Slot), F_X9_takes_J131 a rc2 x1 x2 x3 x4 s0 h = some Rz → sg_Wo D b cA n s.heap h H locs → lv_has ls 6 [(0, .ref (b + a)), (1, .int x1), (2, .int x2), (3, .int x3), (4, .int x4)] → W p l e R s m args below meth c H locs 0 0 (sg_Qi below args s D b cA n (fun r u => (r = Rz.1 ∧ u = Rz.2) ∧ narrow .boolean (.int r) = .int r)) (F0 m 131 ls [.int s0]) := by
      intro x1 x2 x3 x4 s0 h H locs ls hf hw hl
      unfold F_X9_takes_J131 at hf
      refine lv_istore (lv' := [(5, .int s0), (0, .ref (b + a)), (1, .int x1), (2, .int x2), (3, .int x3), (4, .int x4)]) hx hb dX9_takes_131 hl (by decide) rfl (fun ls hl => ?_)
      refine lv_iload hx hb dX9_takes_133 (lv_at hl 5 rfl) ?_
      refine lv_i2l hx hb dX9_takes_135 rfl ?_
      refine lv_lconst (v := 1) hx hb dX9_takes_136 (by decide) ?_
      refine lv_ldc2 hx hb hc.2.2.1 (hc.2.2.2.1 _ k_989) dX9_takes_137 ?_
      obtain ⟨p140, hp140, hf⟩ := cl_of hf
      refine sg_si (rest := []) (c_X9_in hn (h := h) hp140) hc hw hz hn0 hml hl cs_X9_87 ⟨⟨rfl, rfl⟩, Nat.le_trans (Nat.le_of_ble_eq_true rfl) hRf, Nat.le_trans (Nat.le_of_ble_eq_true rfl) hRl⟩ ⟨Nat.zero_le _, Nat.zero_le _⟩ rfl rfl (Nat.le_of_ble_eq_true rfl) dX9_takes_140 (fun r h1 H locs hp hw => ?_)
      obtain ⟨⟨e1, e2⟩, hb140⟩ := hp; subst r; subst h1
      refine lv_if_eq (tgt := 151) hx hb dX9_takes_143 (by decide) (fun c143 => ?_) (fun c143 => ?_)
      · have hf := if_of c143 hf
        refine lv_iconst (v := 0) hx hb dX9_takes_151 (by decide) ?_
        cases hf
        exact sg_zret hc hw hz hn0 hr hlocks rfl ⟨⟨rfl, rfl⟩, rfl⟩ dX9_takes_152
      · have hf := if_no c143 hf
        refine lv_iload hx hb dX9_takes_146 (lv_at hl 0 rfl) ?_
        refine lv_if_ne (tgt := 153) hx hb dX9_takes_148 (by decide) (fun c148 => ?_) (fun c148 => ?_)
        · have hf := if_no c148 hf
          refine lv_aload_n hx hb dX9_takes_153 rfl (lv_at hl 1 rfl) ?_
          obtain ⟨hF154, hT154, ha154, hN154⟩ := ft_9_13 hn ha_a hT_a
          refine sg_getf (q := (a + 9)) hc hw ha_a hT_a fr_9_13 (by decide) k_886 dX9_takes_154 hF154 ?_
          refine lv_iload_n hx hb dX9_takes_157 rfl (lv_at hl 3 rfl) ?_
          refine lv_iload_n hx hb dX9_takes_158 rfl (lv_at hl 4 rfl) ?_
          obtain ⟨hg159, hf⟩ := gd_of hf
          refine sg_ist hc hw ha154 hT154 hN154 hg159 dX9_takes_159 (fun H locs hw => ?_)
          obtain ⟨h159, hw, hf⟩ := sg_name hw hf
          refine lv_aload_n hx hb dX9_takes_160 rfl (lv_at hl 1 rfl) ?_
          refine lv_dup hx hb dX9_takes_161 rfl ?_
          refine sg_geti hc hw ha_a hT_a fi_9_12 k_885 dX9_takes_162 ?_
          refine lv_iconst (v := 1) hx hb dX9_takes_165 (by decide) ?_
          refine lv_iadd hx hb dX9_takes_166 ?_
          refine sg_puti hc hw ha_a hT_a fp_9_12 rfl rfl k_885 dX9_takes_167 (fun H locs hw => ?_)
          obtain ⟨h167, hw, hf⟩ := sg_name hw hf
          refine lv_iinc (v := (x2 + 1)) (lv' := [(2, .int (x2 + 1)), (5, .int s0), (0, .ref (b + a)), (1, .int x1), (3, .int x3), (4, .int x4)]) hx hb dX9_takes_170 hl (k := 3) rfl rfl (by decide) rfl (fun ls hl => ?_)
          refine lv_goto (tgt := 2) hx hb dX9_takes_173 (by decide) ?_
          exact hrc2 _ hf _ _ _ hw (lv_sub hl [2, 3, 0] rfl)
        · have hf := if_of c148 hf
          refine lv_iconst (v := 0) hx hb dX9_takes_151 (by decide) ?_
          cases hf
          exact sg_zret hc hw hz hn0 hr hlocks rfl ⟨⟨rfl, rfl⟩, rfl⟩ dX9_takes_152
    have J130 : ∀ (x1 : Int32) (x2 : Int32) (x3 : Int32) (x4 : Int32) (h : HP) (H : Heap) (locs : List Loc) (ls : Array Slot), F_X9_takes_J130 a rc2 x1 x2 x3 x4 h = some Rz → sg_Wo D b cA n s.heap h H locs → lv_has ls 6 [(0, .ref (b + a)), (1, .int x1), (2, .int x2), (3, .int x3), (4, .int x4)] → W p l e R s m args below meth c H locs 0 0 (sg_Qi below args s D b cA n (fun r u => (r = Rz.1 ∧ u = Rz.2) ∧ narrow .boolean (.int r) = .int r)) (F0 m 130 ls []) := by
      intro x1 x2 x3 x4 h H locs ls hf hw hl
      unfold F_X9_takes_J130 at hf
      refine lv_iconst (v := 0) hx hb dX9_takes_130 (by decide) ?_
      exact J131 x1 x2 x3 x4 0 _ _ _ _ hf hw (lv_sub hl [0, 1, 2, 3, 4] rfl)
    have J123 : ∀ (x1 : Int32) (x2 : Int32) (x3 : Int32) (x4 : Int32) (s0 : Int32) (s1 : Int32) (h : HP) (H : Heap) (locs : List Loc) (ls : Array Slot), F_X9_takes_J123 a rc2 x1 x2 x3 x4 s0 s1 h = some Rz → sg_Wo D b cA n s.heap h H locs → lv_has ls 6 [(0, .ref (b + a)), (1, .int x1), (2, .int x2), (3, .int x3), (4, .int x4)] → W p l e R s m args below meth c H locs 0 0 (sg_Qi below args s D b cA n (fun r u => (r = Rz.1 ∧ u = Rz.2) ∧ narrow .boolean (.int r) = .int r)) (F0 m 123 ls [.int s0, .int s1]) := by
      intro x1 x2 x3 x4 s0 s1 h H locs ls hf hw hl
      unfold F_X9_takes_J123 at hf
      refine lv_icmp_ne (tgt := 130) hx hb dX9_takes_123 (by decide) (fun c123 => ?_) (fun c123 => ?_)
      · have hf := if_no c123 hf
        exact J130 x1 x2 x3 x4 _ _ _ _ hf hw (lv_sub hl [0, 1, 2, 3, 4] rfl)
      · have hf := if_of c123 hf
        refine lv_iconst (v := 1) hx hb dX9_takes_126 (by decide) ?_
        refine lv_goto (tgt := 131) hx hb dX9_takes_127 (by decide) ?_
        exact J131 x1 x2 x3 x4 1 _ _ _ _ hf hw (lv_sub hl [0, 1, 2, 3, 4] rfl)
    have J89 : ∀ (x1 : Int32) (x2 : Int32) (x3 : Int32) (x4 : Int32) (h : HP) (H : Heap) (locs : List Loc) (ls : Array Slot), F_X9_takes_J89 a rc2 x1 x2 x3 x4 h = some Rz → sg_Wo D b cA n s.heap h H locs → lv_has ls 6 [(0, .ref (b + a)), (1, .int x1), (2, .int x2), (3, .int x3), (4, .int x4)] → W p l e R s m args below meth c H locs 0 0 (sg_Qi below args s D b cA n (fun r u => (r = Rz.1 ∧ u = Rz.2) ∧ narrow .boolean (.int r) = .int r)) (F0 m 89 ls []) := by
      intro x1 x2 x3 x4 h H locs ls hf hw hl
      unfold F_X9_takes_J89 at hf
      refine lv_aload_n hx hb dX9_takes_89 rfl (lv_at hl 0 rfl) ?_
      refine sg_geti hc hw ha_a hT_a fi_9_12 k_885 dX9_takes_90 ?_
      refine lv_aload_n hx hb dX9_takes_93 rfl (lv_at hl 0 rfl) ?_
      refine sg_geti hc hw ha_a hT_a fi_9_9 k_882 dX9_takes_94 ?_
      refine lv_icmp_ge (tgt := 130) hx hb dX9_takes_97 (by decide) (fun c97 => ?_) (fun c97 => ?_)
      · have hf := if_of c97 hf
        exact J130 x1 x2 x3 x4 _ _ _ _ hf hw (lv_sub hl [0, 1, 2, 3, 4] rfl)
      · have hf := if_no c97 hf
        refine lv_aload_n hx hb dX9_takes_100 rfl (lv_at hl 0 rfl) ?_
        obtain ⟨hF101, hT101, ha101, hN101⟩ := ft_9_8 hn ha_a hT_a
        refine sg_getf (q := (a + 7)) hc hw ha_a hT_a fr_9_8 (by decide) k_881 dX9_takes_101 hF101 ?_
        refine lv_aload_n hx hb dX9_takes_104 rfl (lv_at hl 0 rfl) ?_
        refine sg_geti hc hw ha_a hT_a fi_9_12 k_885 dX9_takes_105 ?_
        obtain ⟨hg108, hf⟩ := gd_of hf
        refine sg_ild hc hw ha101 hT101 hN101 hg108 dX9_takes_108 ?_
        refine lv_iload_n hx hb dX9_takes_109 rfl (lv_at hl 2 rfl) ?_
        refine lv_iload_n hx hb dX9_takes_110 rfl (lv_at hl 1 rfl) ?_
        refine lv_iconst (v := 1) hx hb dX9_takes_111 (by decide) ?_
        refine lv_isub hx hb dX9_takes_112 ?_
        refine lv_icmp_ge (tgt := 121) hx hb dX9_takes_113 (by decide) (fun c113 => ?_) (fun c113 => ?_)
        · have hf := if_of c113 hf
          refine lv_bipush (v := 59) hx hb dX9_takes_121 (by decide) ?_
          exact J123 x1 x2 x3 x4 59 (ld h (a + 7) (h.1 a 12)) _ _ _ _ hf hw (lv_sub hl [0, 1, 2, 3, 4] rfl)
        · have hf := if_no c113 hf
          refine lv_bipush (v := 44) hx hb dX9_takes_116 (by decide) ?_
          refine lv_goto (tgt := 123) hx hb dX9_takes_118 (by decide) ?_
          exact J123 x1 x2 x3 x4 44 (ld h (a + 7) (h.1 a 12)) _ _ _ _ hf hw (lv_sub hl [0, 1, 2, 3, 4] rfl)
    have L12 : ∀ (x1 : Int32) (x2 : Int32) (k : Nat) (x : (Int32 × Int32 × HP)), F_X9_takes_L12 a rc2 x1 x2 k x = some Rz → ∀ (H : Heap) (locs : List Loc) (ls : Array Slot), sg_Wo D b cA n s.heap x.2.2 H locs → lv_has ls 6 [(0, .ref (b + a)), (1, .int x1), (2, .int x2), (3, .int x.1), (4, .int x.2.1)] → W p l e R s m args below meth c H locs 0 0 (sg_Qi below args s D b cA n (fun r u => (r = Rz.1 ∧ u = Rz.2) ∧ narrow .boolean (.int r) = .int r)) (F0 m 12 ls []) := by
      intro x1 x2
      unfold F_X9_takes_L12
      refine lp_walk ?_
      intro rc12 hrc12 x hf H locs ls hw hl
      obtain ⟨x3, x4, h⟩ := x
      dsimp only at hf hw hl
      have J72 : ∀ (x1 : Int32) (x2 : Int32) (x4 : Int32) (s0 : Int32) (h : HP) (H : Heap) (locs : List Loc) (ls : Array Slot), F_X9_takes_J72 a rc2 rc12 x1 x2 x4 s0 h = some Rz → sg_Wo D b cA n s.heap h H locs → lv_has ls 6 [(0, .ref (b + a)), (1, .int x1), (2, .int x2), (4, .int x4)] → W p l e R s m args below meth c H locs 0 0 (sg_Qi below args s D b cA n (fun r u => (r = Rz.1 ∧ u = Rz.2) ∧ narrow .boolean (.int r) = .int r)) (F0 m 72 ls [.int s0]) := by
        intro x1 x2 x4 s0 h H locs ls hf hw hl
        unfold F_X9_takes_J72 at hf
        refine lv_istore_n (lv' := [(3, .int s0), (0, .ref (b + a)), (1, .int x1), (2, .int x2), (4, .int x4)]) hx hb dX9_takes_72 rfl hl (by decide) rfl (fun ls hl => ?_)
        refine lv_iinc (v := (x4 + 1)) (lv' := [(4, .int (x4 + 1)), (3, .int s0), (0, .ref (b + a)), (1, .int x1), (2, .int x2)]) hx hb dX9_takes_73 hl (k := 4) rfl rfl (by decide) rfl (fun ls hl => ?_)
        refine lv_aload_n hx hb dX9_takes_76 rfl (lv_at hl 2 rfl) ?_
        refine lv_dup hx hb dX9_takes_77 rfl ?_
        refine sg_geti hc hw ha_a hT_a fi_9_12 k_885 dX9_takes_78 ?_
        refine lv_iconst (v := 1) hx hb dX9_takes_81 (by decide) ?_
        refine lv_iadd hx hb dX9_takes_82 ?_
        refine sg_puti hc hw ha_a hT_a fp_9_12 rfl rfl k_885 dX9_takes_83 (fun H locs hw => ?_)
        obtain ⟨h83, hw, hf⟩ := sg_name hw hf
        refine lv_goto (tgt := 12) hx hb dX9_takes_86 (by decide) ?_
        exact hrc12 _ hf _ _ _ hw (lv_sub hl [2, 3, 4, 1, 0] rfl)
      refine lv_aload_n hx hb dX9_takes_12 rfl (lv_at hl 0 rfl) ?_
      refine sg_geti hc hw ha_a hT_a fi_9_12 k_885 dX9_takes_13 ?_
      refine lv_aload_n hx hb dX9_takes_16 rfl (lv_at hl 0 rfl) ?_
      refine sg_geti hc hw ha_a hT_a fi_9_9 k_882 dX9_takes_17 ?_
      refine lv_icmp_ge (tgt := 89) hx hb dX9_takes_20 (by decide) (fun c20 => ?_) (fun c20 => ?_)
      · have hf := if_of c20 hf
        exact J89 x1 x2 x3 x4 _ _ _ _ hf hw (lv_sub hl [0, 1, 2, 3, 4] rfl)
      · have hf := if_no c20 hf
        refine lv_aload_n hx hb dX9_takes_23 rfl (lv_at hl 0 rfl) ?_
        obtain ⟨hF24, hT24, ha24, hN24⟩ := ft_9_8 hn ha_a hT_a
        refine sg_getf (q := (a + 7)) hc hw ha_a hT_a fr_9_8 (by decide) k_881 dX9_takes_24 hF24 ?_
        refine lv_aload_n hx hb dX9_takes_27 rfl (lv_at hl 0 rfl) ?_
        refine sg_geti hc hw ha_a hT_a fi_9_12 k_885 dX9_takes_28 ?_
        obtain ⟨hg31, hf⟩ := gd_of hf
        refine sg_ild hc hw ha24 hT24 hN24 hg31 dX9_takes_31 ?_
        refine lv_i2l hx hb dX9_takes_32 rfl ?_
        refine lv_ldc2 hx hb hc.2.2.1 (hc.2.2.2.1 _ k_987) dX9_takes_33 ?_
        refine lv_ldc2 hx hb hc.2.2.1 (hc.2.2.2.1 _ k_988) dX9_takes_36 ?_
        obtain ⟨p39, hp39, hf⟩ := cl_of hf
        refine sg_si (rest := []) (c_X9_in hn (h := h) hp39) hc hw hz hn0 hml hl cs_X9_87 ⟨⟨rfl, rfl⟩, Nat.le_trans (Nat.le_of_ble_eq_true rfl) hRf, Nat.le_trans (Nat.le_of_ble_eq_true rfl) hRl⟩ ⟨Nat.zero_le _, Nat.zero_le _⟩ rfl rfl (Nat.le_of_ble_eq_true rfl) dX9_takes_39 (fun r h1 H locs hp hw => ?_)
        obtain ⟨⟨e1, e2⟩, hb39⟩ := hp; subst r; subst h1
        refine lv_if_eq (tgt := 89) hx hb dX9_takes_42 (by decide) (fun c42 => ?_) (fun c42 => ?_)
        · have hf := if_of c42 hf
          exact J89 x1 x2 x3 x4 _ _ _ _ hf hw (lv_sub hl [0, 1, 2, 3, 4] rfl)
        · have hf := if_no c42 hf
          refine lv_iload hx hb dX9_takes_45 (lv_at hl 4 rfl) ?_
          refine lv_iconst (v := 2) hx hb dX9_takes_47 (by decide) ?_
          refine lv_icmp_ge (tgt := 71) hx hb dX9_takes_48 (by decide) (fun c48 => ?_) (fun c48 => ?_)
          · have hf := if_of c48 hf
            refine lv_iload_n hx hb dX9_takes_71 rfl (lv_at hl 3 rfl) ?_
            exact J72 x1 x2 x4 x3 _ _ _ _ hf hw (lv_sub hl [0, 1, 2, 4] rfl)
          · have hf := if_no c48 hf
            refine lv_bipush (v := 10) hx hb dX9_takes_51 (by decide) ?_
            refine lv_iload_n hx hb dX9_takes_53 rfl (lv_at hl 3 rfl) ?_
            refine lv_imul hx hb dX9_takes_54 ?_
            refine lv_aload_n hx hb dX9_takes_55 rfl (lv_at hl 0 rfl) ?_
            refine sg_getf (q := (a + 7)) hc hw ha_a hT_a fr_9_8 (by decide) k_881 dX9_takes_56 (ft_9_8 hn ha_a hT_a).1 ?_
            refine lv_aload_n hx hb dX9_takes_59 rfl (lv_at hl 0 rfl) ?_
            refine sg_geti hc hw ha_a hT_a fi_9_12 k_885 dX9_takes_60 ?_
            obtain ⟨hg63, hf⟩ := gd_of hf
            refine sg_ild hc hw ha24 hT24 hN24 hg63 dX9_takes_63 ?_
            refine lv_iadd hx hb dX9_takes_64 ?_
            refine lv_bipush (v := 48) hx hb dX9_takes_65 (by decide) ?_
            refine lv_isub hx hb dX9_takes_67 ?_
            refine lv_goto (tgt := 72) hx hb dX9_takes_68 (by decide) ?_
            exact J72 x1 x2 x4 (((10 * x3) + (ld h (a + 7) (h.1 a 12))) - 48) _ _ _ _ hf hw (lv_sub hl [0, 1, 2, 4] rfl)
    refine lv_iload_n hx hb dX9_takes_2 rfl (lv_at hl 2 rfl) ?_
    refine lv_iload_n hx hb dX9_takes_3 rfl (lv_at hl 1 rfl) ?_
    refine lv_icmp_ge (tgt := 176) hx hb dX9_takes_4 (by decide) (fun c4 => ?_) (fun c4 => ?_)
    · have hf := if_of c4 hf
      refine lv_iconst (v := 1) hx hb dX9_takes_176 (by decide) ?_
      cases hf
      exact sg_zret hc hw hz hn0 hr hlocks rfl ⟨⟨rfl, rfl⟩, rfl⟩ dX9_takes_177
    · have hf := if_no c4 hf
      refine lv_iconst (v := 0) hx hb dX9_takes_7 (by decide) ?_
      refine lv_istore_n (lv' := [(3, .int 0), (0, .ref (b + a)), (1, .int x1), (2, .int x2)]) hx hb dX9_takes_8 rfl hl (by decide) rfl (fun ls hl => ?_)
      refine lv_iconst (v := 0) hx hb dX9_takes_9 (by decide) ?_
      refine lv_istore (lv' := [(4, .int 0), (3, .int 0), (0, .ref (b + a)), (1, .int x1), (2, .int x2)]) hx hb dX9_takes_10 hl (by decide) rfl (fun ls hl => ?_)
      exact L12 x1 x2 _ _ hf _ _ _ hw (lv_sub hl [2, 3, 4, 1, 0] rfl)
  unfold F_X9_takes at hf
  refine lv_iconst (v := 0) hx hb dX9_takes_0 (by decide) ?_
  refine lv_istore_n (lv' := [(2, .int 0), (0, .ref (b + a)), (1, .int x1)]) hx hb dX9_takes_1 rfl hl (by decide) rfl (fun ls hl => ?_)
  exact L2 x1 _ _ hf _ _ _ hw (lv_sub hl [1, 2, 0] rfl)
theorem c_X9_takes {l : Launch} {D : va_G} {cA : Nat → ClassId} {b n : Nat} (hn : sg_okN n) {a : Nat} {x1 : Int32} (ha_a : a < n) (hT_a : sg_T a = 9) {h : HP} {Rz : Int32 × HP} (hf : F_X9_takes a x1 h = some Rz) : Met l yX9_takes (Cond.code yX9_takes cX9_takes 6 (some .boolean) :: sg_tbl) ({ frames := 1, cells := 0, slots := 0, locals := 25 } : Room) (va_Pc [.ref (b + a), .int x1] (sg_Wd D b cA n h)) (va_Qi (fun r u => (r = Rz.1 ∧ u = Rz.2) ∧ narrow .boolean (.int r) = .int r) (sg_Wd D b cA n) (sg_A b)) 0 0 (sg_A b) := by
  refine Met.ofW (cc := cX9_takes) (maxL := 6) (ret := (some .boolean)) (by decide) rfl ?_
  intro p e s m args below meth c s₁ B hml hv
  obtain ⟨rfl, hP, hK, hz, hY, hN⟩ := hv
  have hl := lv_entry [.ref (b + a), .int x1] (n := 6) (Nat.le_of_ble_eq_true rfl)
  rw [lg_entry_eq]
  exact w_X9_takes hn ⟨B.exec, B.bytes, findClass_of_methodNamed B.named, fun w h => atoms_spec (ws := Cond.code yX9_takes cX9_takes 6 (some .boolean) :: sg_tbl) B.pre w (List.mem_cons_of_mem _ h), hK, hN⟩ hz B.returns B.notSynchronized hml (Nat.le_refl _) (Nat.le_refl _) ha_a hT_a hf _ _ _ ⟨hP, hY, va_S.rf⟩ hl
def F_X4_numbersOf (x0 : Int32) : Option (Int32) :=
  (if x0 = 98 then
  some 2
  else
  (if x0 = 109 then
  some 1
  else
  (if x0 = 114 then
  some 1
  else
  (if x0 = 115 then
  some 2
  else
  (if x0 = 116 then
  some 3
  else
  (if x0 = 120 then
  some 2
  else
  some 0))))))
set_option maxHeartbeats 4000000 in
set_option maxRecDepth 100000 in
theorem w_X4_numbersOf {p : Program} {l : Launch} {e : Env} {R : Room} {s : State} {m : MethodId} {args : Array Value} {below : List Frame} {meth : Method} {c : Code} {D : va_G} {cA : Nat → ClassId} {b n : Nat} (hn : sg_okN n) {x0 : Int32} {h : HP} {Rz : Int32} (hc : sg_Cx p s m args c cX4_numbersOf RX4 D cA) (hz : s.heap.size = b + n) (hr : meth.sig.returnType = some .int) (hlocks : meth.locks = false) (hml : c.maxLocals = 1) (hRf : 0 ≤ R.frames) (hRl : 0 ≤ R.locals) (hf : F_X4_numbersOf x0 = some Rz) (H : Heap) (locs : List Loc) (ls : Array Slot) (hw : sg_Wo D b cA n s.heap h H locs) (hl : lv_has ls 1 [(0, .int x0)]) : W p l e R s m args below meth c H locs 0 0 (sg_Qi below args s D b cA n (fun r u => r = Rz ∧ u = h)) (F0 m 0 ls []) := by
  have hx := hc.1
  have hb := hc.2.1
  have hn0 : 0 < n := sg_pos hn
  unfold F_X4_numbersOf at hf
  refine lv_iload_n hx hb dX4_numbersOf_0 rfl (lv_at hl 0 rfl) ?_
  by_cases hk1_98 : x0 = 98
  · have hf := if_of hk1_98 hf
    refine lv_lookup (off := 61) (tgt := 62) hx hb dX4_numbersOf_1 (by decide) (by rw [hk1_98]; decide) (by decide) ?_
    refine lv_iconst (v := 2) hx hb dX4_numbersOf_62 (by decide) ?_
    cases hf
    exact sg_iret hc hw hz hn0 hr hlocks ⟨rfl, rfl⟩ dX4_numbersOf_63
  · have hf := if_no hk1_98 hf
    by_cases hk1_109 : x0 = 109
    · have hf := if_of hk1_109 hf
      refine lv_lookup (off := 59) (tgt := 60) hx hb dX4_numbersOf_1 (by decide) (by rw [hk1_109]; decide) (by decide) ?_
      refine lv_iconst (v := 1) hx hb dX4_numbersOf_60 (by decide) ?_
      cases hf
      exact sg_iret hc hw hz hn0 hr hlocks ⟨rfl, rfl⟩ dX4_numbersOf_61
    · have hf := if_no hk1_109 hf
      by_cases hk1_114 : x0 = 114
      · have hf := if_of hk1_114 hf
        refine lv_lookup (off := 59) (tgt := 60) hx hb dX4_numbersOf_1 (by decide) (by rw [hk1_114]; decide) (by decide) ?_
        refine lv_iconst (v := 1) hx hb dX4_numbersOf_60 (by decide) ?_
        cases hf
        exact sg_iret hc hw hz hn0 hr hlocks ⟨rfl, rfl⟩ dX4_numbersOf_61
      · have hf := if_no hk1_114 hf
        by_cases hk1_115 : x0 = 115
        · have hf := if_of hk1_115 hf
          refine lv_lookup (off := 61) (tgt := 62) hx hb dX4_numbersOf_1 (by decide) (by rw [hk1_115]; decide) (by decide) ?_
          refine lv_iconst (v := 2) hx hb dX4_numbersOf_62 (by decide) ?_
          cases hf
          exact sg_iret hc hw hz hn0 hr hlocks ⟨rfl, rfl⟩ dX4_numbersOf_63
        · have hf := if_no hk1_115 hf
          by_cases hk1_116 : x0 = 116
          · have hf := if_of hk1_116 hf
            refine lv_lookup (off := 63) (tgt := 64) hx hb dX4_numbersOf_1 (by decide) (by rw [hk1_116]; decide) (by decide) ?_
            refine lv_iconst (v := 3) hx hb dX4_numbersOf_64 (by decide) ?_
            cases hf
            exact sg_iret hc hw hz hn0 hr hlocks ⟨rfl, rfl⟩ dX4_numbersOf_65
          · have hf := if_no hk1_116 hf
            by_cases hk1_120 : x0 = 120
            · have hf := if_of hk1_120 hf
              refine lv_lookup (off := 61) (tgt := 62) hx hb dX4_numbersOf_1 (by decide) (by rw [hk1_120]; decide) (by decide) ?_
              refine lv_iconst (v := 2) hx hb dX4_numbersOf_62 (by decide) ?_
              cases hf
              exact sg_iret hc hw hz hn0 hr hlocks ⟨rfl, rfl⟩ dX4_numbersOf_63
            · have hf := if_no hk1_120 hf
              refine lv_lookup (off := 65) (tgt := 66) hx hb dX4_numbersOf_1 (by decide) (by simp [Op.lookupswitch.offset, Ne.symm (sg_ne hk1_98 (k := 98) (by decide)), Ne.symm (sg_ne hk1_109 (k := 109) (by decide)), Ne.symm (sg_ne hk1_114 (k := 114) (by decide)), Ne.symm (sg_ne hk1_115 (k := 115) (by decide)), Ne.symm (sg_ne hk1_116 (k := 116) (by decide)), Ne.symm (sg_ne hk1_120 (k := 120) (by decide))]) (by decide) ?_
              refine lv_iconst (v := 0) hx hb dX4_numbersOf_66 (by decide) ?_
              cases hf
              exact sg_iret hc hw hz hn0 hr hlocks ⟨rfl, rfl⟩ dX4_numbersOf_67
theorem c_X4_numbersOf {l : Launch} {D : va_G} {cA : Nat → ClassId} {b n : Nat} (hn : sg_okN n) {x0 : Int32} {h : HP} {Rz : Int32} (hf : F_X4_numbersOf x0 = some Rz) : Met l yX4_numbersOf (Cond.code yX4_numbersOf cX4_numbersOf 1 (some .int) :: sg_tbl) ({ frames := 0, cells := 0, slots := 0, locals := 0 } : Room) (va_Pc [.int x0] (sg_Wd D b cA n h)) (va_Qi (fun r u => r = Rz ∧ u = h) (sg_Wd D b cA n) (sg_A b)) 0 0 (sg_A b) := by
  refine Met.ofW (cc := cX4_numbersOf) (maxL := 1) (ret := (some .int)) (by decide) rfl ?_
  intro p e s m args below meth c s₁ B hml hv
  obtain ⟨rfl, hP, hK, hz, hY, hN⟩ := hv
  have hl := lv_entry [.int x0] (n := 1) (Nat.le_of_ble_eq_true rfl)
  rw [lg_entry_eq]
  exact w_X4_numbersOf hn ⟨B.exec, B.bytes, findClass_of_methodNamed B.named, fun w h => atoms_spec (ws := Cond.code yX4_numbersOf cX4_numbersOf 1 (some .int) :: sg_tbl) B.pre w (List.mem_cons_of_mem _ h), hK, hN⟩ hz B.returns B.notSynchronized hml (Nat.le_refl _) (Nat.le_refl _) hf _ _ _ ⟨hP, hY, va_S.rf⟩ hl
