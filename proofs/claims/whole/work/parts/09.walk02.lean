set_option maxHeartbeats 4000000 in
set_option maxRecDepth 100000 in
theorem w_X6_tellDuty {p : Program} {l : Launch} {e : Env} {R : Room} {s : State} {m : MethodId} {args : Array Value} {below : List Frame} {meth : Method} {c : Code} {D : va_G} {cA : Nat → ClassId} {b n : Nat} (hn : sg_okN n) {a : Nat} {x1 : Int32} {x2 : Int32} {q3 : Nat} {h : HP} {Rz : HP} (hc : sg_Cx p s m args c cX6_tellDuty RX6 D cA) (hz : s.heap.size = b + n) (hr : meth.sig.returnType = none) (hlocks : meth.locks = false) (hml : c.maxLocals = 6) (hRf : 1 ≤ R.frames) (hRl : 21 ≤ R.locals) (ha_a : a < n) (hT_a : sg_T a = 6) (ha_q3 : q3 < n) (hT_q3 : sg_T q3 = 11) (hf : F_X6_tellDuty a x1 x2 q3 h = some Rz) (H : Heap) (locs : List Loc) (ls : Array Slot) (hw : sg_Wo D b cA n s.heap h H locs) (hl : lv_has ls 6 [(0, .ref (b + a)), (1, .int x1), (2, .int x2), (3, .ref (b + q3))]) : W p l e R s m args below meth c H locs 0 0 (sg_Qv below args s D b cA n (fun u => u = Rz)) (F0 m 0 ls []) := by
  have hx := hc.1
  have hb := hc.2.1
  have hn0 : 0 < n := sg_pos hn
  have L23 : ∀ (k : Nat) (x : (Int32 × HP)), F_X6_tellDuty_L23 a q3 x1 x2 k x = some Rz → ∀ (H : Heap) (locs : List Loc) (ls : Array Slot), sg_Wo D b cA n s.heap x.2 H locs → lv_has ls 6 [(0, .ref (b + a)), (1, .int x1), (2, .int x2), (3, .ref (b + q3)), (4, .int x.1)] → W p l e R s m args below meth c H locs 0 0 (sg_Qv below args s D b cA n (fun u => u = Rz)) (F0 m 23 ls []) := by
    unfold F_X6_tellDuty_L23
    refine lp_walk ?_
    intro rc23 hrc23 x hf H locs ls hw hl
    obtain ⟨x4, h⟩ := x
    dsimp only at hf hw hl
    have J90 : ∀ (x4 : Int32) (h : HP) (H : Heap) (locs : List Loc) (ls : Array Slot), F_X6_tellDuty_J90 a q3 rc23 x1 x2 x4 h = some Rz → sg_Wo D b cA n s.heap h H locs → lv_has ls 6 [(0, .ref (b + a)), (1, .int x1), (2, .int x2), (3, .ref (b + q3)), (4, .int x4)] → W p l e R s m args below meth c H locs 0 0 (sg_Qv below args s D b cA n (fun u => u = Rz)) (F0 m 90 ls []) := by
      intro x4 h H locs ls hf hw hl
      unfold F_X6_tellDuty_J90 at hf
      refine lv_iinc (v := (x4 + 1)) (lv' := [(4, .int (x4 + 1)), (0, .ref (b + a)), (1, .int x1), (2, .int x2), (3, .ref (b + q3))]) hx hb dX6_tellDuty_90 hl (k := 4) rfl rfl (by decide) rfl (fun ls hl => ?_)
      refine lv_goto (tgt := 23) hx hb dX6_tellDuty_93 (by decide) ?_
      exact hrc23 _ hf _ _ _ hw (lv_sub hl [1, 2, 3, 4, 0] rfl)
    have L50 : ∀ (x4 : Int32) (k : Nat) (x : (Int32 × HP)), F_X6_tellDuty_L50 a q3 rc23 x1 x2 x4 k x = some Rz → ∀ (H : Heap) (locs : List Loc) (ls : Array Slot), sg_Wo D b cA n s.heap x.2 H locs → lv_has ls 6 [(0, .ref (b + a)), (1, .int x1), (2, .int x2), (3, .ref (b + q3)), (4, .int x4), (5, .int x.1)] → W p l e R s m args below meth c H locs 0 0 (sg_Qv below args s D b cA n (fun u => u = Rz)) (F0 m 50 ls []) := by
      intro x4
      unfold F_X6_tellDuty_L50
      refine lp_walk ?_
      intro rc50 hrc50 x hf H locs ls hw hl
      obtain ⟨x5, h⟩ := x
      dsimp only at hf hw hl
      refine lv_iload hx hb dX6_tellDuty_50 (lv_at hl 5 rfl) ?_
      refine lv_aload_n hx hb dX6_tellDuty_52 rfl (lv_at hl 0 rfl) ?_
      obtain ⟨hF53, hT53, ha53, hN53⟩ := ft_6_3 hn ha_a hT_a
      refine sg_getf (q := (a + 3)) hc hw ha_a hT_a fr_6_3 (by decide) k_110 dX6_tellDuty_53 hF53 ?_
      refine lv_iload hx hb dX6_tellDuty_56 (lv_at hl 4 rfl) ?_
      obtain ⟨hg58, hf⟩ := gd_of hf
      refine sg_ild hc hw ha53 hT53 hN53 hg58 dX6_tellDuty_58 ?_
      refine lv_icmp_gt (tgt := 90) hx hb dX6_tellDuty_59 (by decide) (fun c59 => ?_) (fun c59 => ?_)
      · have hf := if_of c59 hf
        exact J90 x4 _ _ _ _ hf hw (lv_sub hl [0, 1, 2, 3, 4] rfl)
      · have hf := if_no c59 hf
        refine lv_iload hx hb dX6_tellDuty_62 (lv_at hl 5 rfl) ?_
        refine lv_iload_n hx hb dX6_tellDuty_64 rfl (lv_at hl 2 rfl) ?_
        refine lv_icmp_ge (tgt := 90) hx hb dX6_tellDuty_65 (by decide) (fun c65 => ?_) (fun c65 => ?_)
        · have hf := if_of c65 hf
          exact J90 x4 _ _ _ _ hf hw (lv_sub hl [0, 1, 2, 3, 4] rfl)
        · have hf := if_no c65 hf
          refine lv_aload_n hx hb dX6_tellDuty_68 rfl (lv_at hl 3 rfl) ?_
          refine lv_iload hx hb dX6_tellDuty_69 (lv_at hl 5 rfl) ?_
          refine lv_dup2_11 hx hb dX6_tellDuty_71 rfl rfl ?_
          obtain ⟨hg72, hf⟩ := gd_of hf
          refine sg_ild hc hw ha_q3 hT_q3 rfl hg72 dX6_tellDuty_72 ?_
          refine lv_iconst (v := 1) hx hb dX6_tellDuty_73 (by decide) ?_
          refine lv_aload_n hx hb dX6_tellDuty_74 rfl (lv_at hl 0 rfl) ?_
          obtain ⟨hF75, hT75, ha75, hN75⟩ := ft_6_1 hn ha_a hT_a
          refine sg_getf (q := (a + 1)) hc hw ha_a hT_a fr_6_1 (by decide) k_106 dX6_tellDuty_75 hF75 ?_
          refine lv_iload hx hb dX6_tellDuty_78 (lv_at hl 4 rfl) ?_
          obtain ⟨hg80, hf⟩ := gd_of hf
          refine sg_ild hc hw ha75 hT75 hN75 hg80 dX6_tellDuty_80 ?_
          refine lv_ishl hx hb dX6_tellDuty_81 ?_
          refine lv_ior hx hb dX6_tellDuty_82 ?_
          obtain ⟨hg83, hf⟩ := gd_of hf
          refine sg_ist hc hw ha_q3 hT_q3 rfl hg83 dX6_tellDuty_83 (fun H locs hw => ?_)
          obtain ⟨h83, hw, hf⟩ := sg_name hw hf
          refine lv_iinc (v := (x5 + 1)) (lv' := [(5, .int (x5 + 1)), (0, .ref (b + a)), (1, .int x1), (2, .int x2), (3, .ref (b + q3)), (4, .int x4)]) hx hb dX6_tellDuty_84 hl (k := 5) rfl rfl (by decide) rfl (fun ls hl => ?_)
          refine lv_goto (tgt := 50) hx hb dX6_tellDuty_87 (by decide) ?_
          exact hrc50 _ hf _ _ _ hw (lv_sub hl [1, 2, 3, 4, 5, 0] rfl)
    refine lv_iload hx hb dX6_tellDuty_23 (lv_at hl 4 rfl) ?_
    refine lv_aload_n hx hb dX6_tellDuty_25 rfl (lv_at hl 0 rfl) ?_
    refine sg_geti hc hw ha_a hT_a fi_6_0 k_103 dX6_tellDuty_26 ?_
    refine lv_icmp_ge (tgt := 96) hx hb dX6_tellDuty_29 (by decide) (fun c29 => ?_) (fun c29 => ?_)
    · have hf := if_of c29 hf
      cases hf
      exact sg_vret hc hw hz hn0 hr hlocks rfl dX6_tellDuty_96
    · have hf := if_no c29 hf
      refine lv_iload hx hb dX6_tellDuty_32 (lv_at hl 4 rfl) ?_
      refine lv_iload_n hx hb dX6_tellDuty_34 rfl (lv_at hl 1 rfl) ?_
      obtain ⟨p35, hp35, hf⟩ := cl_of hf
      refine sg_ni (rest := []) (c_X8_isIn hn (h := h) hp35) hc hw hz hn0 hml hl cn_X6_35 ⟨⟨rfl, rfl⟩, Nat.le_trans (Nat.le_of_ble_eq_true rfl) hRf, Nat.le_trans (Nat.le_of_ble_eq_true rfl) hRl⟩ ⟨Nat.zero_le _, Nat.zero_le _⟩ rfl rfl (Nat.le_of_ble_eq_true rfl) dX6_tellDuty_35 (fun r h1 H locs hp hw => ?_)
      obtain ⟨⟨e1, e2⟩, hb35⟩ := hp; subst r; subst h1
      refine lv_if_ne (tgt := 90) hx hb dX6_tellDuty_38 (by decide) (fun c38 => ?_) (fun c38 => ?_)
      · have hf := if_no c38 hf
        exact J90 x4 _ _ _ _ hf hw (lv_sub hl [0, 1, 2, 3, 4] rfl)
      · have hf := if_of c38 hf
        refine lv_aload_n hx hb dX6_tellDuty_41 rfl (lv_at hl 0 rfl) ?_
        obtain ⟨hF42, hT42, ha42, hN42⟩ := ft_6_2 hn ha_a hT_a
        refine sg_getf (q := (a + 2)) hc hw ha_a hT_a fr_6_2 (by decide) k_108 dX6_tellDuty_42 hF42 ?_
        refine lv_iload hx hb dX6_tellDuty_45 (lv_at hl 4 rfl) ?_
        obtain ⟨hg47, hf⟩ := gd_of hf
        refine sg_ild hc hw ha42 hT42 hN42 hg47 dX6_tellDuty_47 ?_
        refine lv_topi (fun v48 e48 => ?_)
        have hf := nm_of e48 hf
        refine lv_istore (lv' := [(5, .int v48), (0, .ref (b + a)), (1, .int x1), (2, .int x2), (3, .ref (b + q3)), (4, .int x4)]) hx hb dX6_tellDuty_48 hl (by decide) rfl (fun ls hl => ?_)
        exact L50 x4 _ _ hf _ _ _ hw (lv_sub hl [1, 2, 3, 4, 5, 0] rfl)
  have J20 : ∀ (h : HP) (H : Heap) (locs : List Loc) (ls : Array Slot), F_X6_tellDuty_J20 a q3 x1 x2 h = some Rz → sg_Wo D b cA n s.heap h H locs → lv_has ls 6 [(0, .ref (b + a)), (1, .int x1), (2, .int x2), (3, .ref (b + q3))] → W p l e R s m args below meth c H locs 0 0 (sg_Qv below args s D b cA n (fun u => u = Rz)) (F0 m 20 ls []) := by
    intro h H locs ls hf hw hl
    unfold F_X6_tellDuty_J20 at hf
    refine lv_iconst (v := 0) hx hb dX6_tellDuty_20 (by decide) ?_
    refine lv_istore (lv' := [(4, .int 0), (0, .ref (b + a)), (1, .int x1), (2, .int x2), (3, .ref (b + q3))]) hx hb dX6_tellDuty_21 hl (by decide) rfl (fun ls hl => ?_)
    exact L23 _ _ hf _ _ _ hw (lv_sub hl [1, 2, 3, 4, 0] rfl)
  have L3 : ∀ (k : Nat) (x : (Int32 × HP)), F_X6_tellDuty_L3 a q3 x1 x2 k x = some Rz → ∀ (H : Heap) (locs : List Loc) (ls : Array Slot), sg_Wo D b cA n s.heap x.2 H locs → lv_has ls 6 [(0, .ref (b + a)), (1, .int x1), (2, .int x2), (3, .ref (b + q3)), (4, .int x.1)] → W p l e R s m args below meth c H locs 0 0 (sg_Qv below args s D b cA n (fun u => u = Rz)) (F0 m 3 ls []) := by
    unfold F_X6_tellDuty_L3
    refine lp_walk ?_
    intro rc3 hrc3 x hf H locs ls hw hl
    obtain ⟨x4, h⟩ := x
    dsimp only at hf hw hl
    refine lv_iload hx hb dX6_tellDuty_3 (lv_at hl 4 rfl) ?_
    refine lv_iload_n hx hb dX6_tellDuty_5 rfl (lv_at hl 2 rfl) ?_
    refine lv_icmp_ge (tgt := 20) hx hb dX6_tellDuty_6 (by decide) (fun c6 => ?_) (fun c6 => ?_)
    · have hf := if_of c6 hf
      exact J20 _ _ _ _ hf hw (lv_sub hl [0, 1, 2, 3] rfl)
    · have hf := if_no c6 hf
      refine lv_aload_n hx hb dX6_tellDuty_9 rfl (lv_at hl 3 rfl) ?_
      refine lv_iload hx hb dX6_tellDuty_10 (lv_at hl 4 rfl) ?_
      refine lv_iconst (v := 0) hx hb dX6_tellDuty_12 (by decide) ?_
      obtain ⟨hg13, hf⟩ := gd_of hf
      refine sg_ist hc hw ha_q3 hT_q3 rfl hg13 dX6_tellDuty_13 (fun H locs hw => ?_)
      obtain ⟨h13, hw, hf⟩ := sg_name hw hf
      refine lv_iinc (v := (x4 + 1)) (lv' := [(4, .int (x4 + 1)), (0, .ref (b + a)), (1, .int x1), (2, .int x2), (3, .ref (b + q3))]) hx hb dX6_tellDuty_14 hl (k := 4) rfl rfl (by decide) rfl (fun ls hl => ?_)
      refine lv_goto (tgt := 3) hx hb dX6_tellDuty_17 (by decide) ?_
      exact hrc3 _ hf _ _ _ hw (lv_sub hl [1, 2, 3, 4, 0] rfl)
  unfold F_X6_tellDuty at hf
  refine lv_iconst (v := 0) hx hb dX6_tellDuty_0 (by decide) ?_
  refine lv_istore (lv' := [(4, .int 0), (0, .ref (b + a)), (1, .int x1), (2, .int x2), (3, .ref (b + q3))]) hx hb dX6_tellDuty_1 hl (by decide) rfl (fun ls hl => ?_)
  exact L3 _ _ hf _ _ _ hw (lv_sub hl [1, 2, 3, 4, 0] rfl)
theorem c_X6_tellDuty {l : Launch} {D : va_G} {cA : Nat → ClassId} {b n : Nat} (hn : sg_okN n) {a : Nat} {x1 : Int32} {x2 : Int32} {q3 : Nat} (ha_a : a < n) (hT_a : sg_T a = 6) (ha_q3 : q3 < n) (hT_q3 : sg_T q3 = 11) {h : HP} {Rz : HP} (hf : F_X6_tellDuty a x1 x2 q3 h = some Rz) : Met l yX6_tellDuty (Cond.code yX6_tellDuty cX6_tellDuty 6 none :: sg_tbl) ({ frames := 1, cells := 0, slots := 0, locals := 21 } : Room) (va_Pc [.ref (b + a), .int x1, .int x2, .ref (b + q3)] (sg_Wd D b cA n h)) (va_Qv (fun u => u = Rz) (sg_Wd D b cA n) (sg_A b)) 0 0 (sg_A b) := by
  refine Met.ofW (cc := cX6_tellDuty) (maxL := 6) (ret := none) (by decide) rfl ?_
  intro p e s m args below meth c s₁ B hml hv
  obtain ⟨rfl, hP, hK, hz, hY, hN⟩ := hv
  have hl := lv_entry [.ref (b + a), .int x1, .int x2, .ref (b + q3)] (n := 6) (Nat.le_of_ble_eq_true rfl)
  rw [lg_entry_eq]
  exact w_X6_tellDuty hn ⟨B.exec, B.bytes, findClass_of_methodNamed B.named, fun w h => atoms_spec (ws := Cond.code yX6_tellDuty cX6_tellDuty 6 none :: sg_tbl) B.pre w (List.mem_cons_of_mem _ h), hK, hN⟩ hz B.returns B.notSynchronized hml (Nat.le_refl _) (Nat.le_refl _) ha_a hT_a ha_q3 hT_q3 hf _ _ _ ⟨hP, hY, va_S.rf⟩ hl
set_option maxHeartbeats 4000000 in
set_option maxRecDepth 100000 in
theorem w_X7_go {p : Program} {l : Launch} {e : Env} {R : Room} {s : State} {m : MethodId} {args : Array Value} {below : List Frame} {meth : Method} {c : Code} {D : va_G} {cA : Nat → ClassId} {b n : Nat} (hn : sg_okN n) {a : Nat} {q1 : Nat} {h : HP} {Rz : HP} (hc : sg_Cx p s m args c cX7_go RX7 D cA) (hz : s.heap.size = b + n) (hr : meth.sig.returnType = none) (hlocks : meth.locks = false) (hml : c.maxLocals = 3) (hRf : 3 ≤ R.frames) (hRl : 74 ≤ R.locals) (ha_a : a < n) (hT_a : sg_T a = 7) (ha_q1 : q1 < n) (hT_q1 : sg_T q1 = 11) (hf : F_X7_go a q1 h = some Rz) (H : Heap) (locs : List Loc) (ls : Array Slot) (hw : sg_Wo D b cA n s.heap h H locs) (hl : lv_has ls 3 [(0, .ref (b + a)), (1, .ref (b + q1))]) : W p l e R s m args below meth c H locs 0 0 (sg_Qv below args s D b cA n (fun u => u = Rz)) (F0 m 0 ls []) := by
  have hx := hc.1
  have hb := hc.2.1
  have hn0 : 0 < n := sg_pos hn
  have L2 : ∀ (k : Nat) (x : (Int32 × HP)), F_X7_go_L2 a q1 k x = some Rz → ∀ (H : Heap) (locs : List Loc) (ls : Array Slot), sg_Wo D b cA n s.heap x.2 H locs → lv_has ls 3 [(0, .ref (b + a)), (1, .ref (b + q1)), (2, .int x.1)] → W p l e R s m args below meth c H locs 0 0 (sg_Qv below args s D b cA n (fun u => u = Rz)) (F0 m 2 ls []) := by
    unfold F_X7_go_L2
    refine lp_walk ?_
    intro rc2 hrc2 x hf H locs ls hw hl
    obtain ⟨x2, h⟩ := x
    dsimp only at hf hw hl
    refine lv_iload_n hx hb dX7_go_2 rfl (lv_at hl 2 rfl) ?_
    refine lv_aload_n hx hb dX7_go_3 rfl (lv_at hl 0 rfl) ?_
    obtain ⟨hg4, hf⟩ := gn_of hf
    obtain ⟨ha4, hT4⟩ := (hw.2.1 _ ha_a).2.1 hT_a hg4
    obtain ⟨q4, hq4, ha4, hT4, hf⟩ := sg_nq hg4 ha4 hT4 hf
    refine sg_getr hc hw ha_a hT_a fr_7_0 k_160 dX7_go_4 hq4 ?_
    refine sg_geti hc hw ha4 hT4 fi_1_1 k_44 dX7_go_7 ?_
    refine lv_icmp_ge (tgt := 33) hx hb dX7_go_10 (by decide) (fun c10 => ?_) (fun c10 => ?_)
    · have hf := if_of c10 hf
      cases hf
      exact sg_vret hc hw hz hn0 hr hlocks rfl dX7_go_33
    · have hf := if_no c10 hf
      refine lv_aload_n hx hb dX7_go_13 rfl (lv_at hl 0 rfl) ?_
      obtain ⟨hF14, hT14, ha14, hN14⟩ := ft_7_10 hn ha_a hT_a
      refine sg_getf (q := (a + 5)) hc hw ha_a hT_a fr_7_10 (by decide) k_177 dX7_go_14 hF14 ?_
      refine lv_iload_n hx hb dX7_go_17 rfl (lv_at hl 2 rfl) ?_
      refine lv_aload_n hx hb dX7_go_18 rfl (lv_at hl 0 rfl) ?_
      refine lv_iload_n hx hb dX7_go_19 rfl (lv_at hl 2 rfl) ?_
      refine lv_aload_n hx hb dX7_go_20 rfl (lv_at hl 1 rfl) ?_
      refine lv_iload_n hx hb dX7_go_21 rfl (lv_at hl 2 rfl) ?_
      obtain ⟨hg22, hf⟩ := gd_of hf
      refine sg_ild hc hw ha_q1 hT_q1 rfl hg22 dX7_go_22 ?_
      obtain ⟨p23, hp23, hf⟩ := cl_of hf
      refine sg_vi (rest := [.int x2, .ref (b + (a + 5))]) (c_X7_step hn ha_a hT_a hp23) hc hw hz hml hl ha_a hT_a (by decide) rfl cv_X7_68 ⟨⟨rfl, rfl⟩, Nat.le_trans (Nat.le_of_ble_eq_true rfl) hRf, Nat.le_trans (Nat.le_of_ble_eq_true rfl) hRl⟩ ⟨Nat.zero_le _, Nat.zero_le _⟩ rfl rfl (Nat.le_of_ble_eq_true rfl) dX7_go_23 (fun r h1 H locs hp hw => ?_)
      obtain ⟨e1, e2⟩ := hp; subst r; subst h1
      obtain ⟨hg26, hf⟩ := gd_of hf
      refine sg_ist hc hw ha14 hT14 hN14 hg26 dX7_go_26 (fun H locs hw => ?_)
      obtain ⟨h26, hw, hf⟩ := sg_name hw hf
      refine lv_iinc (v := (x2 + 1)) (lv' := [(2, .int (x2 + 1)), (0, .ref (b + a)), (1, .ref (b + q1))]) hx hb dX7_go_27 hl (k := 2) rfl rfl (by decide) rfl (fun ls hl => ?_)
      refine lv_goto (tgt := 2) hx hb dX7_go_30 (by decide) ?_
      exact hrc2 _ hf _ _ _ hw (lv_sub hl [1, 2, 0] rfl)
  unfold F_X7_go at hf
  refine lv_iconst (v := 0) hx hb dX7_go_0 (by decide) ?_
  refine lv_istore_n (lv' := [(2, .int 0), (0, .ref (b + a)), (1, .ref (b + q1))]) hx hb dX7_go_1 rfl hl (by decide) rfl (fun ls hl => ?_)
  exact L2 _ _ hf _ _ _ hw (lv_sub hl [1, 2, 0] rfl)
theorem c_X7_go {l : Launch} {D : va_G} {cA : Nat → ClassId} {b n : Nat} (hn : sg_okN n) {a : Nat} {q1 : Nat} (ha_a : a < n) (hT_a : sg_T a = 7) (ha_q1 : q1 < n) (hT_q1 : sg_T q1 = 11) {h : HP} {Rz : HP} (hf : F_X7_go a q1 h = some Rz) : Met l yX7_go (Cond.code yX7_go cX7_go 3 none :: sg_tbl) ({ frames := 3, cells := 0, slots := 0, locals := 74 } : Room) (va_Pc [.ref (b + a), .ref (b + q1)] (sg_Wd D b cA n h)) (va_Qv (fun u => u = Rz) (sg_Wd D b cA n) (sg_A b)) 0 0 (sg_A b) := by
  refine Met.ofW (cc := cX7_go) (maxL := 3) (ret := none) (by decide) rfl ?_
  intro p e s m args below meth c s₁ B hml hv
  obtain ⟨rfl, hP, hK, hz, hY, hN⟩ := hv
  have hl := lv_entry [.ref (b + a), .ref (b + q1)] (n := 3) (Nat.le_of_ble_eq_true rfl)
  rw [lg_entry_eq]
  exact w_X7_go hn ⟨B.exec, B.bytes, findClass_of_methodNamed B.named, fun w h => atoms_spec (ws := Cond.code yX7_go cX7_go 3 none :: sg_tbl) B.pre w (List.mem_cons_of_mem _ h), hK, hN⟩ hz B.returns B.notSynchronized hml (Nat.le_refl _) (Nat.le_refl _) ha_a hT_a ha_q1 hT_q1 hf _ _ _ ⟨hP, hY, va_S.rf⟩ hl
set_option maxHeartbeats 4000000 in
set_option maxRecDepth 100000 in
theorem w_X7_merit {p : Program} {l : Launch} {e : Env} {R : Room} {s : State} {m : MethodId} {args : Array Value} {below : List Frame} {meth : Method} {c : Code} {D : va_G} {cA : Nat → ClassId} {b n : Nat} (hn : sg_okN n) {a : Nat} {x1 : Int32} {x2 : Int32} {h : HP} {Rz : Int32} (hc : sg_Cx p s m args c cX7_merit RX7 D cA) (hz : s.heap.size = b + n) (hr : meth.sig.returnType = some .int) (hlocks : meth.locks = false) (hml : c.maxLocals = 3) (hRf : 3 ≤ R.frames) (hRl : 63 ≤ R.locals) (ha_a : a < n) (hT_a : sg_T a = 7) (hf : F_X7_merit a x1 x2 h = some Rz) (H : Heap) (locs : List Loc) (ls : Array Slot) (hw : sg_Wo D b cA n s.heap h H locs) (hl : lv_has ls 3 [(0, .ref (b + a)), (1, .int x1), (2, .int x2)]) : W p l e R s m args below meth c H locs 0 0 (sg_Qi below args s D b cA n (fun r u => r = Rz ∧ u = h)) (F0 m 0 ls []) := by
  have hx := hc.1
  have hb := hc.2.1
  have hn0 : 0 < n := sg_pos hn
  unfold F_X7_merit at hf
  refine lv_iload_n hx hb dX7_merit_0 rfl (lv_at hl 2 rfl) ?_
  by_cases hk1_0 : x2 = 0
  · have hf := if_of hk1_0 hf
    refine lv_lookup (off := 27) (tgt := 28) hx hb dX7_merit_1 (by decide) (by rw [hk1_0]; decide) (by decide) ?_
    refine lv_aload_n hx hb dX7_merit_28 rfl (lv_at hl 0 rfl) ?_
    refine lv_iload_n hx hb dX7_merit_29 rfl (lv_at hl 1 rfl) ?_
    obtain ⟨p30, hp30, hf⟩ := cl_of hf
    refine sg_vi (rest := []) (c_X7_acres hn ha_a hT_a hp30) hc hw hz hml hl ha_a hT_a (by decide) rfl cv_X7_129 ⟨⟨rfl, rfl⟩, Nat.le_trans (Nat.le_of_ble_eq_true rfl) hRf, Nat.le_trans (Nat.le_of_ble_eq_true rfl) hRl⟩ ⟨Nat.zero_le _, Nat.zero_le _⟩ rfl rfl (Nat.le_of_ble_eq_true rfl) dX7_merit_30 (fun r h1 H locs hp hw => ?_)
    obtain ⟨e1, e2⟩ := hp; subst r; subst h1
    cases hf
    exact sg_iret hc hw hz hn0 hr hlocks ⟨rfl, rfl⟩ dX7_merit_33
  · have hf := if_no hk1_0 hf
    by_cases hk1_1 : x2 = 1
    · have hf := if_of hk1_1 hf
      refine lv_lookup (off := 33) (tgt := 34) hx hb dX7_merit_1 (by decide) (by rw [hk1_1]; decide) (by decide) ?_
      refine lv_aload_n hx hb dX7_merit_34 rfl (lv_at hl 0 rfl) ?_
      obtain ⟨hF35, hT35, ha35, hN35⟩ := ft_7_8 hn ha_a hT_a
      refine sg_getf (q := (a + 3)) hc hw ha_a hT_a fr_7_8 (by decide) k_174 dX7_merit_35 hF35 ?_
      refine lv_iload_n hx hb dX7_merit_38 rfl (lv_at hl 1 rfl) ?_
      obtain ⟨hg39, hf⟩ := gd_of hf
      refine sg_ild hc hw ha35 hT35 hN35 hg39 dX7_merit_39 ?_
      cases hf
      exact sg_iret hc hw hz hn0 hr hlocks ⟨rfl, rfl⟩ dX7_merit_40
    · have hf := if_no hk1_1 hf
      refine lv_lookup (off := 40) (tgt := 41) hx hb dX7_merit_1 (by decide) (by simp [Op.lookupswitch.offset, Ne.symm (sg_ne hk1_0 (k := 0) (by decide)), Ne.symm (sg_ne hk1_1 (k := 1) (by decide))]) (by decide) ?_
      refine lv_aload_n hx hb dX7_merit_41 rfl (lv_at hl 0 rfl) ?_
      obtain ⟨hg42, hf⟩ := gn_of hf
      obtain ⟨ha42, hT42⟩ := (hw.2.1 _ ha_a).2.1 hT_a hg42
      obtain ⟨q42, hq42, ha42, hT42, hf⟩ := sg_nq hg42 ha42 hT42 hf
      refine sg_getr hc hw ha_a hT_a fr_7_0 k_160 dX7_merit_42 hq42 ?_
      obtain ⟨hF45, hT45, ha45, hN45⟩ := ft_1_8 hn ha42 hT42
      refine sg_getf (q := (q42 + 4)) hc hw ha42 hT42 fr_1_8 (by decide) k_62 dX7_merit_45 hF45 ?_
      refine lv_iload_n hx hb dX7_merit_48 rfl (lv_at hl 1 rfl) ?_
      obtain ⟨hg49, hf⟩ := gd_of hf
      refine sg_ild hc hw ha45 hT45 hN45 hg49 dX7_merit_49 ?_
      refine lv_aload_n hx hb dX7_merit_50 rfl (lv_at hl 0 rfl) ?_
      obtain ⟨hF51, hT51, ha51, hN51⟩ := ft_7_6 hn ha_a hT_a
      refine sg_getf (q := (a + 1)) hc hw ha_a hT_a fr_7_6 (by decide) k_170 dX7_merit_51 hF51 ?_
      refine lv_iload_n hx hb dX7_merit_54 rfl (lv_at hl 1 rfl) ?_
      obtain ⟨hg55, hf⟩ := gd_of hf
      refine sg_ild hc hw ha51 hT51 hN51 hg55 dX7_merit_55 ?_
      refine lv_isub hx hb dX7_merit_56 ?_
      cases hf
      exact sg_iret hc hw hz hn0 hr hlocks ⟨rfl, rfl⟩ dX7_merit_57
theorem c_X7_merit {l : Launch} {D : va_G} {cA : Nat → ClassId} {b n : Nat} (hn : sg_okN n) {a : Nat} {x1 : Int32} {x2 : Int32} (ha_a : a < n) (hT_a : sg_T a = 7) {h : HP} {Rz : Int32} (hf : F_X7_merit a x1 x2 h = some Rz) : Met l yX7_merit (Cond.code yX7_merit cX7_merit 3 (some .int) :: sg_tbl) ({ frames := 3, cells := 0, slots := 0, locals := 63 } : Room) (va_Pc [.ref (b + a), .int x1, .int x2] (sg_Wd D b cA n h)) (va_Qi (fun r u => r = Rz ∧ u = h) (sg_Wd D b cA n) (sg_A b)) 0 0 (sg_A b) := by
  refine Met.ofW (cc := cX7_merit) (maxL := 3) (ret := (some .int)) (by decide) rfl ?_
  intro p e s m args below meth c s₁ B hml hv
  obtain ⟨rfl, hP, hK, hz, hY, hN⟩ := hv
  have hl := lv_entry [.ref (b + a), .int x1, .int x2] (n := 3) (Nat.le_of_ble_eq_true rfl)
  rw [lg_entry_eq]
  exact w_X7_merit hn ⟨B.exec, B.bytes, findClass_of_methodNamed B.named, fun w h => atoms_spec (ws := Cond.code yX7_merit cX7_merit 3 (some .int) :: sg_tbl) B.pre w (List.mem_cons_of_mem _ h), hK, hN⟩ hz B.returns B.notSynchronized hml (Nat.le_refl _) (Nat.le_refl _) ha_a hT_a hf _ _ _ ⟨hP, hY, va_S.rf⟩ hl
set_option maxHeartbeats 4000000 in
set_option maxRecDepth 100000 in
theorem w_X7_first {p : Program} {l : Launch} {e : Env} {R : Room} {s : State} {m : MethodId} {args : Array Value} {below : List Frame} {meth : Method} {c : Code} {D : va_G} {cA : Nat → ClassId} {b n : Nat} (hn : sg_okN n) {a : Nat} {x1 : Int32} {h : HP} {Rz : Int32} (hc : sg_Cx p s m args c cX7_first RX7 D cA) (hz : s.heap.size = b + n) (hr : meth.sig.returnType = some .int) (hlocks : meth.locks = false) (hml : c.maxLocals = 4) (hRf : 4 ≤ R.frames) (hRl : 85 ≤ R.locals) (ha_a : a < n) (hT_a : sg_T a = 7) (hf : F_X7_first a x1 h = some Rz) (H : Heap) (locs : List Loc) (ls : Array Slot) (hw : sg_Wo D b cA n s.heap h H locs) (hl : lv_has ls 4 [(0, .ref (b + a)), (1, .int x1)]) : W p l e R s m args below meth c H locs 0 0 (sg_Qi below args s D b cA n (fun r u => r = Rz ∧ u = h)) (F0 m 0 ls []) := by
  have hx := hc.1
  have hb := hc.2.1
  have hn0 : 0 < n := sg_pos hn
  have L4 : ∀ (k : Nat) (x : (Int32 × Int32)), F_X7_first_L4 a x1 h k x = some Rz → ∀ (H : Heap) (locs : List Loc) (ls : Array Slot), sg_Wo D b cA n s.heap h H locs → lv_has ls 4 [(0, .ref (b + a)), (1, .int x1), (2, .int x.1), (3, .int x.2)] → W p l e R s m args below meth c H locs 0 0 (sg_Qi below args s D b cA n (fun r u => r = Rz ∧ u = h)) (F0 m 4 ls []) := by
    unfold F_X7_first_L4
    refine lp_walk ?_
    intro rc4 hrc4 x hf H locs ls hw hl
    obtain ⟨x2, x3⟩ := x
    dsimp only at hf hw hl
    have J32 : ∀ (x2 : Int32) (x3 : Int32) (H : Heap) (locs : List Loc) (ls : Array Slot), F_X7_first_J32 a rc4 x1 x2 x3 h = some Rz → sg_Wo D b cA n s.heap h H locs → lv_has ls 4 [(0, .ref (b + a)), (1, .int x1), (2, .int x2), (3, .int x3)] → W p l e R s m args below meth c H locs 0 0 (sg_Qi below args s D b cA n (fun r u => r = Rz ∧ u = h)) (F0 m 32 ls []) := by
      intro x2 x3 H locs ls hf hw hl
      unfold F_X7_first_J32 at hf
      refine lv_iinc (v := (x3 + 1)) (lv' := [(3, .int (x3 + 1)), (0, .ref (b + a)), (1, .int x1), (2, .int x2)]) hx hb dX7_first_32 hl (k := 3) rfl rfl (by decide) rfl (fun ls hl => ?_)
      refine lv_goto (tgt := 4) hx hb dX7_first_35 (by decide) ?_
      exact hrc4 _ hf _ _ _ hw (lv_sub hl [1, 2, 3, 0] rfl)
    refine lv_iload_n hx hb dX7_first_4 rfl (lv_at hl 3 rfl) ?_
    refine lv_aload_n hx hb dX7_first_5 rfl (lv_at hl 0 rfl) ?_
    obtain ⟨hg6, hf⟩ := gn_of hf
    obtain ⟨ha6, hT6⟩ := (hw.2.1 _ ha_a).2.1 hT_a hg6
    obtain ⟨q6, hq6, ha6, hT6, hf⟩ := sg_nq hg6 ha6 hT6 hf
    refine sg_getr hc hw ha_a hT_a fr_7_0 k_160 dX7_first_6 hq6 ?_
    refine sg_geti hc hw ha6 hT6 fi_1_2 k_48 dX7_first_9 ?_
    refine lv_icmp_ge (tgt := 38) hx hb dX7_first_12 (by decide) (fun c12 => ?_) (fun c12 => ?_)
    · have hf := if_of c12 hf
      refine lv_iload_n hx hb dX7_first_38 rfl (lv_at hl 2 rfl) ?_
      cases hf
      exact sg_iret hc hw hz hn0 hr hlocks ⟨rfl, rfl⟩ dX7_first_39
    · have hf := if_no c12 hf
      refine lv_aload_n hx hb dX7_first_15 rfl (lv_at hl 0 rfl) ?_
      refine lv_iload_n hx hb dX7_first_16 rfl (lv_at hl 3 rfl) ?_
      refine lv_iload_n hx hb dX7_first_17 rfl (lv_at hl 1 rfl) ?_
      obtain ⟨p18, hp18, hf⟩ := cl_of hf
      refine sg_vi (rest := []) (c_X7_merit hn ha_a hT_a hp18) hc hw hz hml hl ha_a hT_a (by decide) rfl cv_X7_126 ⟨⟨rfl, rfl⟩, Nat.le_trans (Nat.le_of_ble_eq_true rfl) hRf, Nat.le_trans (Nat.le_of_ble_eq_true rfl) hRl⟩ ⟨Nat.zero_le _, Nat.zero_le _⟩ rfl rfl (Nat.le_of_ble_eq_true rfl) dX7_first_18 (fun r h1 H locs hp hw => ?_)
      obtain ⟨e1, e2⟩ := hp; subst r; subst h1
      refine lv_aload_n hx hb dX7_first_21 rfl (lv_at hl 0 rfl) ?_
      refine lv_iload_n hx hb dX7_first_22 rfl (lv_at hl 2 rfl) ?_
      refine lv_iload_n hx hb dX7_first_23 rfl (lv_at hl 1 rfl) ?_
      obtain ⟨p24, hp24, hf⟩ := cl_of hf
      refine sg_vi (rest := [.int p18]) (c_X7_merit hn ha_a hT_a hp24) hc hw hz hml hl ha_a hT_a (by decide) rfl cv_X7_126 ⟨⟨rfl, rfl⟩, Nat.le_trans (Nat.le_of_ble_eq_true rfl) hRf, Nat.le_trans (Nat.le_of_ble_eq_true rfl) hRl⟩ ⟨Nat.zero_le _, Nat.zero_le _⟩ rfl rfl (Nat.le_of_ble_eq_true rfl) dX7_first_24 (fun r h1 H locs hp hw => ?_)
      obtain ⟨e1, e2⟩ := hp; subst r; subst h1
      refine lv_icmp_le (tgt := 32) hx hb dX7_first_27 (by decide) (fun c27 => ?_) (fun c27 => ?_)
      · have hf := if_of c27 hf
        exact J32 x2 x3 _ _ _ hf hw (lv_sub hl [0, 1, 2, 3] rfl)
      · have hf := if_no c27 hf
        refine lv_iload_n hx hb dX7_first_30 rfl (lv_at hl 3 rfl) ?_
        refine lv_istore_n (lv' := [(2, .int x3), (0, .ref (b + a)), (1, .int x1), (3, .int x3)]) hx hb dX7_first_31 rfl hl (by decide) rfl (fun ls hl => ?_)
        exact J32 x3 x3 _ _ _ hf hw (lv_sub hl [1, 2, 0, 3] rfl)
  unfold F_X7_first at hf
  refine lv_iconst (v := 0) hx hb dX7_first_0 (by decide) ?_
  refine lv_istore_n (lv' := [(2, .int 0), (0, .ref (b + a)), (1, .int x1)]) hx hb dX7_first_1 rfl hl (by decide) rfl (fun ls hl => ?_)
  refine lv_iconst (v := 1) hx hb dX7_first_2 (by decide) ?_
  refine lv_istore_n (lv' := [(3, .int 1), (2, .int 0), (0, .ref (b + a)), (1, .int x1)]) hx hb dX7_first_3 rfl hl (by decide) rfl (fun ls hl => ?_)
  exact L4 _ _ hf _ _ _ hw (lv_sub hl [2, 3, 1, 0] rfl)
theorem c_X7_first {l : Launch} {D : va_G} {cA : Nat → ClassId} {b n : Nat} (hn : sg_okN n) {a : Nat} {x1 : Int32} (ha_a : a < n) (hT_a : sg_T a = 7) {h : HP} {Rz : Int32} (hf : F_X7_first a x1 h = some Rz) : Met l yX7_first (Cond.code yX7_first cX7_first 4 (some .int) :: sg_tbl) ({ frames := 4, cells := 0, slots := 0, locals := 85 } : Room) (va_Pc [.ref (b + a), .int x1] (sg_Wd D b cA n h)) (va_Qi (fun r u => r = Rz ∧ u = h) (sg_Wd D b cA n) (sg_A b)) 0 0 (sg_A b) := by
  refine Met.ofW (cc := cX7_first) (maxL := 4) (ret := (some .int)) (by decide) rfl ?_
  intro p e s m args below meth c s₁ B hml hv
  obtain ⟨rfl, hP, hK, hz, hY, hN⟩ := hv
  have hl := lv_entry [.ref (b + a), .int x1] (n := 4) (Nat.le_of_ble_eq_true rfl)
  rw [lg_entry_eq]
  exact w_X7_first hn ⟨B.exec, B.bytes, findClass_of_methodNamed B.named, fun w h => atoms_spec (ws := Cond.code yX7_first cX7_first 4 (some .int) :: sg_tbl) B.pre w (List.mem_cons_of_mem _ h), hK, hN⟩ hz B.returns B.notSynchronized hml (Nat.le_refl _) (Nat.le_refl _) ha_a hT_a hf _ _ _ ⟨hP, hY, va_S.rf⟩ hl
set_option maxHeartbeats 4000000 in
set_option maxRecDepth 100000 in
theorem w_X8_write {p : Program} {l : Launch} {e : Env} {R : Room} {s : State} {m : MethodId} {args : Array Value} {below : List Frame} {meth : Method} {c : Code} {D : va_G} {cA : Nat → ClassId} {b n : Nat} (hn : sg_okN n) {a : Nat} {x1 : Int32} {h : HP} {Rz : Int32 × HP} (hc : sg_Cx p s m args c cX8_write RX8 D cA) (hz : s.heap.size = b + n) (hr : meth.sig.returnType = some .int) (hlocks : meth.locks = false) (hml : c.maxLocals = 2) (hRf : 1 ≤ R.frames) (hRl : 22 ≤ R.locals) (ha_a : a < n) (hT_a : sg_T a = 8) (hf : F_X8_write a x1 h = some Rz) (H : Heap) (locs : List Loc) (ls : Array Slot) (hw : sg_Wo D b cA n s.heap h H locs) (hl : lv_has ls 2 [(0, .ref (b + a)), (1, .int x1)]) : W p l e R s m args below meth c H locs 0 0 (sg_Qi below args s D b cA n (fun r u => r = Rz.1 ∧ u = Rz.2)) (F0 m 0 ls []) := by
  have hx := hc.1
  have hb := hc.2.1
  have hn0 : 0 < n := sg_pos hn
  unfold F_X8_write at hf
  refine lv_iload_n hx hb dX8_write_0 rfl (lv_at hl 1 rfl) ?_
  refine lv_bipush (v := 32) hx hb dX8_write_1 (by decide) ?_
  refine lv_bipush (v := 126) hx hb dX8_write_3 (by decide) ?_
  obtain ⟨p5, hp5, hf⟩ := cl_of hf
  refine sg_si (rest := []) (c_X8_within hn (h := h) hp5) hc hw hz hn0 hml hl cs_X8_121 ⟨⟨rfl, rfl⟩, Nat.le_trans (Nat.le_of_ble_eq_true rfl) hRf, Nat.le_trans (Nat.le_of_ble_eq_true rfl) hRl⟩ ⟨Nat.zero_le _, Nat.zero_le _⟩ rfl rfl (Nat.le_of_ble_eq_true rfl) dX8_write_5 (fun r h1 H locs hp hw => ?_)
  obtain ⟨⟨e1, e2⟩, hb5⟩ := hp; subst r; subst h1
  refine lv_if_ne (tgt := 13) hx hb dX8_write_8 (by decide) (fun c8 => ?_) (fun c8 => ?_)
  · have hf := if_no c8 hf
    refine lv_aload_n hx hb dX8_write_13 rfl (lv_at hl 0 rfl) ?_
    refine sg_geti hc hw ha_a hT_a fi_8_1 k_518 dX8_write_14 ?_
    refine lv_sipush (v := 200) hx hb dX8_write_17 (by decide) ?_
    refine lv_icmp_lt (tgt := 26) hx hb dX8_write_20 (by decide) (fun c20 => ?_) (fun c20 => ?_)
    · have hf := if_of c20 hf
      refine lv_aload_n hx hb dX8_write_26 rfl (lv_at hl 0 rfl) ?_
      obtain ⟨hF27, hT27, ha27, hN27⟩ := ft_8_0 hn ha_a hT_a
      refine sg_getf (q := (a + 1)) hc hw ha_a hT_a fr_8_0 (by decide) k_517 dX8_write_27 hF27 ?_
      refine lv_aload_n hx hb dX8_write_30 rfl (lv_at hl 0 rfl) ?_
      refine sg_geti hc hw ha_a hT_a fi_8_1 k_518 dX8_write_31 ?_
      refine lv_iload_n hx hb dX8_write_34 rfl (lv_at hl 1 rfl) ?_
      refine lv_i2c hx hb dX8_write_35 rfl ?_
      obtain ⟨hg36, hf⟩ := gd_of hf
      refine sg_cst hc hw ha27 hT27 hN27 hg36 dX8_write_36 (fun H locs hw => ?_)
      obtain ⟨h36, hw, hf⟩ := sg_name hw hf
      refine lv_aload_n hx hb dX8_write_37 rfl (lv_at hl 0 rfl) ?_
      refine lv_dup hx hb dX8_write_38 rfl ?_
      refine sg_geti hc hw ha_a hT_a fi_8_1 k_518 dX8_write_39 ?_
      refine lv_iconst (v := 1) hx hb dX8_write_42 (by decide) ?_
      refine lv_iadd hx hb dX8_write_43 ?_
      refine sg_puti hc hw ha_a hT_a fp_8_1 rfl rfl k_518 dX8_write_44 (fun H locs hw => ?_)
      obtain ⟨h44, hw, hf⟩ := sg_name hw hf
      refine lv_aload_n hx hb dX8_write_47 rfl (lv_at hl 0 rfl) ?_
      refine sg_geti hc hw ha_a hT_a fi_8_1 k_518 dX8_write_48 ?_
      cases hf
      exact sg_iret hc hw hz hn0 hr hlocks ⟨rfl, rfl⟩ dX8_write_51
    · have hf := if_no c20 hf
      refine lv_bipush (v := (-3)) hx hb dX8_write_23 (by decide) ?_
      cases hf
      exact sg_iret hc hw hz hn0 hr hlocks ⟨rfl, rfl⟩ dX8_write_25
  · have hf := if_of c8 hf
    refine lv_iconst (v := (-1)) hx hb dX8_write_11 (by decide) ?_
    cases hf
    exact sg_iret hc hw hz hn0 hr hlocks ⟨rfl, rfl⟩ dX8_write_12
theorem c_X8_write {l : Launch} {D : va_G} {cA : Nat → ClassId} {b n : Nat} (hn : sg_okN n) {a : Nat} {x1 : Int32} (ha_a : a < n) (hT_a : sg_T a = 8) {h : HP} {Rz : Int32 × HP} (hf : F_X8_write a x1 h = some Rz) : Met l yX8_write (Cond.code yX8_write cX8_write 2 (some .int) :: sg_tbl) ({ frames := 1, cells := 0, slots := 0, locals := 22 } : Room) (va_Pc [.ref (b + a), .int x1] (sg_Wd D b cA n h)) (va_Qi (fun r u => r = Rz.1 ∧ u = Rz.2) (sg_Wd D b cA n) (sg_A b)) 0 0 (sg_A b) := by
  refine Met.ofW (cc := cX8_write) (maxL := 2) (ret := (some .int)) (by decide) rfl ?_
  intro p e s m args below meth c s₁ B hml hv
  obtain ⟨rfl, hP, hK, hz, hY, hN⟩ := hv
  have hl := lv_entry [.ref (b + a), .int x1] (n := 2) (Nat.le_of_ble_eq_true rfl)
  rw [lg_entry_eq]
  exact w_X8_write hn ⟨B.exec, B.bytes, findClass_of_methodNamed B.named, fun w h => atoms_spec (ws := Cond.code yX8_write cX8_write 2 (some .int) :: sg_tbl) B.pre w (List.mem_cons_of_mem _ h), hK, hN⟩ hz B.returns B.notSynchronized hml (Nat.le_refl _) (Nat.le_refl _) ha_a hT_a hf _ _ _ ⟨hP, hY, va_S.rf⟩ hl
set_option maxHeartbeats 4000000 in
set_option maxRecDepth 100000 in
theorem w_X8_wipe {p : Program} {l : Launch} {e : Env} {R : Room} {s : State} {m : MethodId} {args : Array Value} {below : List Frame} {meth : Method} {c : Code} {D : va_G} {cA : Nat → ClassId} {b n : Nat} (hn : sg_okN n) {a : Nat} {h : HP} {Rz : Int32 × HP} (hc : sg_Cx p s m args c cX8_wipe RX8 D cA) (hz : s.heap.size = b + n) (hr : meth.sig.returnType = some .int) (hlocks : meth.locks = false) (hml : c.maxLocals = 2) (hRf : 0 ≤ R.frames) (hRl : 0 ≤ R.locals) (ha_a : a < n) (hT_a : sg_T a = 8) (hf : F_X8_wipe a h = some Rz) (H : Heap) (locs : List Loc) (ls : Array Slot) (hw : sg_Wo D b cA n s.heap h H locs) (hl : lv_has ls 2 [(0, .ref (b + a))]) : W p l e R s m args below meth c H locs 0 0 (sg_Qi below args s D b cA n (fun r u => r = Rz.1 ∧ u = Rz.2)) (F0 m 0 ls []) := by
  have hx := hc.1
  have hb := hc.2.1
  have hn0 : 0 < n := sg_pos hn
  unfold F_X8_wipe at hf
  refine lv_aload_n hx hb dX8_wipe_0 rfl (lv_at hl 0 rfl) ?_
  refine sg_geti hc hw ha_a hT_a fi_8_1 k_518 dX8_wipe_1 ?_
  refine lv_topi (fun v4 e4 => ?_)
  have hf := nm_of e4 hf
  refine lv_istore_n (lv' := [(1, .int v4), (0, .ref (b + a))]) hx hb dX8_wipe_4 rfl hl (by decide) rfl (fun ls hl => ?_)
  refine lv_aload_n hx hb dX8_wipe_5 rfl (lv_at hl 1 rfl) ?_
  refine lv_iconst (v := 0) hx hb dX8_wipe_6 (by decide) ?_
  refine sg_puti hc hw ha_a hT_a fp_8_1 rfl rfl k_518 dX8_wipe_7 (fun H locs hw => ?_)
  obtain ⟨h7, hw, hf⟩ := sg_name hw hf
  refine lv_iload_n hx hb dX8_wipe_10 rfl (lv_at hl 0 rfl) ?_
  cases hf
  exact sg_iret hc hw hz hn0 hr hlocks ⟨rfl, rfl⟩ dX8_wipe_11
theorem c_X8_wipe {l : Launch} {D : va_G} {cA : Nat → ClassId} {b n : Nat} (hn : sg_okN n) {a : Nat} (ha_a : a < n) (hT_a : sg_T a = 8) {h : HP} {Rz : Int32 × HP} (hf : F_X8_wipe a h = some Rz) : Met l yX8_wipe (Cond.code yX8_wipe cX8_wipe 2 (some .int) :: sg_tbl) ({ frames := 0, cells := 0, slots := 0, locals := 0 } : Room) (va_Pc [.ref (b + a)] (sg_Wd D b cA n h)) (va_Qi (fun r u => r = Rz.1 ∧ u = Rz.2) (sg_Wd D b cA n) (sg_A b)) 0 0 (sg_A b) := by
  refine Met.ofW (cc := cX8_wipe) (maxL := 2) (ret := (some .int)) (by decide) rfl ?_
  intro p e s m args below meth c s₁ B hml hv
  obtain ⟨rfl, hP, hK, hz, hY, hN⟩ := hv
  have hl := lv_entry [.ref (b + a)] (n := 2) (Nat.le_of_ble_eq_true rfl)
  rw [lg_entry_eq]
  exact w_X8_wipe hn ⟨B.exec, B.bytes, findClass_of_methodNamed B.named, fun w h => atoms_spec (ws := Cond.code yX8_wipe cX8_wipe 2 (some .int) :: sg_tbl) B.pre w (List.mem_cons_of_mem _ h), hK, hN⟩ hz B.returns B.notSynchronized hml (Nat.le_refl _) (Nat.le_refl _) ha_a hT_a hf _ _ _ ⟨hP, hY, va_S.rf⟩ hl
set_option maxHeartbeats 4000000 in
set_option maxRecDepth 100000 in
theorem w_X8_fault {p : Program} {l : Launch} {e : Env} {R : Room} {s : State} {m : MethodId} {args : Array Value} {below : List Frame} {meth : Method} {c : Code} {D : va_G} {cA : Nat → ClassId} {b n : Nat} (hn : sg_okN n) {a : Nat} {h : HP} {Rz : Int32 × HP} (hc : sg_Cx p s m args c cX8_fault RX8 D cA) (hz : s.heap.size = b + n) (hr : meth.sig.returnType = some .int) (hlocks : meth.locks = false) (hml : c.maxLocals = 1) (hRf : 4 ≤ R.frames) (hRl : 90 ≤ R.locals) (ha_a : a < n) (hT_a : sg_T a = 8) (hf : F_X8_fault a h = some Rz) (H : Heap) (locs : List Loc) (ls : Array Slot) (hw : sg_Wo D b cA n s.heap h H locs) (hl : lv_has ls 1 [(0, .ref (b + a))]) : W p l e R s m args below meth c H locs 0 0 (sg_Qi below args s D b cA n (fun r u => r = Rz.1 ∧ u = Rz.2)) (F0 m 0 ls []) := by
  have hx := hc.1
  have hb := hc.2.1
  have hn0 : 0 < n := sg_pos hn
  unfold F_X8_fault at hf
  refine lv_aload_n hx hb dX8_fault_0 rfl (lv_at hl 0 rfl) ?_
  obtain ⟨hF1, hT1, ha1⟩ := ft_8_2 hn ha_a hT_a
  refine sg_getf (q := (a + 2)) hc hw ha_a hT_a fr_8_2 (by decide) k_519 dX8_fault_1 hF1 ?_
  refine lv_aload_n hx hb dX8_fault_4 rfl (lv_at hl 0 rfl) ?_
  obtain ⟨hF5, hT5, ha5, hN5⟩ := ft_8_0 hn ha_a hT_a
  refine sg_getf (q := (a + 1)) hc hw ha_a hT_a fr_8_0 (by decide) k_517 dX8_fault_5 hF5 ?_
  refine lv_aload_n hx hb dX8_fault_8 rfl (lv_at hl 0 rfl) ?_
  refine sg_geti hc hw ha_a hT_a fi_8_1 k_518 dX8_fault_9 ?_
  obtain ⟨p12, hp12, hf⟩ := cl_of hf
  refine sg_vi (rest := []) (c_X4_firstFault hn ha1 hT1 ha5 hT5 hp12) hc hw hz hml hl ha1 hT1 (by decide) rfl cv_X8_125 ⟨⟨rfl, rfl⟩, Nat.le_trans (Nat.le_of_ble_eq_true rfl) hRf, Nat.le_trans (Nat.le_of_ble_eq_true rfl) hRl⟩ ⟨Nat.zero_le _, Nat.zero_le _⟩ rfl rfl (Nat.le_of_ble_eq_true rfl) dX8_fault_12 (fun r h1 H locs hp hw => ?_)
  obtain ⟨e1, e2⟩ := hp; subst r; subst h1
  cases hf
  exact sg_iret hc hw hz hn0 hr hlocks ⟨rfl, rfl⟩ dX8_fault_15
theorem c_X8_fault {l : Launch} {D : va_G} {cA : Nat → ClassId} {b n : Nat} (hn : sg_okN n) {a : Nat} (ha_a : a < n) (hT_a : sg_T a = 8) {h : HP} {Rz : Int32 × HP} (hf : F_X8_fault a h = some Rz) : Met l yX8_fault (Cond.code yX8_fault cX8_fault 1 (some .int) :: sg_tbl) ({ frames := 4, cells := 0, slots := 0, locals := 90 } : Room) (va_Pc [.ref (b + a)] (sg_Wd D b cA n h)) (va_Qi (fun r u => r = Rz.1 ∧ u = Rz.2) (sg_Wd D b cA n) (sg_A b)) 0 0 (sg_A b) := by
  refine Met.ofW (cc := cX8_fault) (maxL := 1) (ret := (some .int)) (by decide) rfl ?_
  intro p e s m args below meth c s₁ B hml hv
  obtain ⟨rfl, hP, hK, hz, hY, hN⟩ := hv
  have hl := lv_entry [.ref (b + a)] (n := 1) (Nat.le_of_ble_eq_true rfl)
  rw [lg_entry_eq]
  exact w_X8_fault hn ⟨B.exec, B.bytes, findClass_of_methodNamed B.named, fun w h => atoms_spec (ws := Cond.code yX8_fault cX8_fault 1 (some .int) :: sg_tbl) B.pre w (List.mem_cons_of_mem _ h), hK, hN⟩ hz B.returns B.notSynchronized hml (Nat.le_refl _) (Nat.le_refl _) ha_a hT_a hf _ _ _ ⟨hP, hY, va_S.rf⟩ hl
set_option maxHeartbeats 4000000 in
set_option maxRecDepth 100000 in
theorem w_X8_settle {p : Program} {l : Launch} {e : Env} {R : Room} {s : State} {m : MethodId} {args : Array Value} {below : List Frame} {meth : Method} {c : Code} {D : va_G} {cA : Nat → ClassId} {b n : Nat} (hn : sg_okN n) {a : Nat} {h : HP} {Rz : HP} (hc : sg_Cx p s m args c cX8_settle RX8 D cA) (hz : s.heap.size = b + n) (hr : meth.sig.returnType = none) (hlocks : meth.locks = false) (hml : c.maxLocals = 1) (hRf : 4 ≤ R.frames) (hRl : 96 ≤ R.locals) (ha_a : a < n) (hT_a : sg_T a = 8) (hf : F_X8_settle a h = some Rz) (H : Heap) (locs : List Loc) (ls : Array Slot) (hw : sg_Wo D b cA n s.heap h H locs) (hl : lv_has ls 1 [(0, .ref (b + a))]) : W p l e R s m args below meth c H locs 0 0 (sg_Qv below args s D b cA n (fun u => u = Rz)) (F0 m 0 ls []) := by
  have hx := hc.1
  have hb := hc.2.1
  have hn0 : 0 < n := sg_pos hn
  unfold F_X8_settle at hf
  refine lv_aload_n hx hb dX8_settle_0 rfl (lv_at hl 0 rfl) ?_
  obtain ⟨hF1, hT1, ha1⟩ := ft_8_5 hn ha_a hT_a
  refine sg_getf (q := (a + 29)) hc hw ha_a hT_a fr_8_5 (by decide) k_522 dX8_settle_1 hF1 ?_
  refine lv_iconst (v := 0) hx hb dX8_settle_4 (by decide) ?_
  refine lv_aload_n hx hb dX8_settle_5 rfl (lv_at hl 0 rfl) ?_
  obtain ⟨hF6, hT6, ha6⟩ := ft_8_3 hn ha_a hT_a
  refine sg_getf (q := (a + 15)) hc hw ha_a hT_a fr_8_3 (by decide) k_520 dX8_settle_6 hF6 ?_
  refine sg_geti hc hw ha6 hT6 fi_1_1 k_45 dX8_settle_9 ?_
  refine lv_aload_n hx hb dX8_settle_12 rfl (lv_at hl 0 rfl) ?_
  obtain ⟨hF13, hT13, ha13, hN13⟩ := ft_8_11 hn ha_a hT_a
  refine sg_getf (q := (a + 79)) hc hw ha_a hT_a fr_8_11 (by decide) k_528 dX8_settle_13 hF13 ?_
  obtain ⟨p16, hp16, hf⟩ := cl_of hf
  refine sg_vv (rest := []) (c_X6_tellDuty hn ha1 hT1 ha13 hT13 hp16) hc hw hz hml hl ha1 hT1 (by decide) rfl cv_X8_305 ⟨⟨rfl, rfl⟩, Nat.le_trans (Nat.le_of_ble_eq_true rfl) hRf, Nat.le_trans (Nat.le_of_ble_eq_true rfl) hRl⟩ ⟨Nat.zero_le _, Nat.zero_le _⟩ rfl rfl (Nat.le_of_ble_eq_true rfl) dX8_settle_16 (fun h1 H locs hp hw => ?_)
  subst h1
  refine lv_aload_n hx hb dX8_settle_19 rfl (lv_at hl 0 rfl) ?_
  obtain ⟨hF20, hT20, ha20⟩ := ft_8_13 hn ha_a hT_a
  refine sg_getf (q := (a + 81)) hc hw ha_a hT_a fr_8_13 (by decide) k_530 dX8_settle_20 hF20 ?_
  refine lv_aload_n hx hb dX8_settle_23 rfl (lv_at hl 0 rfl) ?_
  refine sg_getf (q := (a + 15)) hc hw ha_a hT_a fr_8_3 (by decide) k_520 dX8_settle_24 (ft_8_3 hn ha_a hT_a).1 ?_
  obtain ⟨p27, hp27, hf⟩ := cl_of hf
  refine sg_vv (rest := []) (c_X7_begin hn ha20 hT20 ha6 hT6 hp27) hc hw hz hml hl ha20 hT20 (by decide) rfl cv_X8_253 ⟨⟨rfl, rfl⟩, Nat.le_trans (Nat.le_of_ble_eq_true rfl) hRf, Nat.le_trans (Nat.le_of_ble_eq_true rfl) hRl⟩ ⟨Nat.zero_le _, Nat.zero_le _⟩ rfl rfl (Nat.le_of_ble_eq_true rfl) dX8_settle_27 (fun h1 H locs hp hw => ?_)
  subst h1
  refine lv_aload_n hx hb dX8_settle_30 rfl (lv_at hl 0 rfl) ?_
  refine sg_getf (q := (a + 81)) hc hw ha_a hT_a fr_8_13 (by decide) k_530 dX8_settle_31 (ft_8_13 hn ha_a hT_a).1 ?_
  refine lv_aload_n hx hb dX8_settle_34 rfl (lv_at hl 0 rfl) ?_
  refine sg_getf (q := (a + 79)) hc hw ha_a hT_a fr_8_11 (by decide) k_528 dX8_settle_35 (ft_8_11 hn ha_a hT_a).1 ?_
  obtain ⟨p38, hp38, hf⟩ := cl_of hf
  refine sg_vv (rest := []) (c_X7_go hn ha20 hT20 ha13 hT13 hp38) hc hw hz hml hl ha20 hT20 (by decide) rfl cv_X8_256 ⟨⟨rfl, rfl⟩, Nat.le_trans (Nat.le_of_ble_eq_true rfl) hRf, Nat.le_trans (Nat.le_of_ble_eq_true rfl) hRl⟩ ⟨Nat.zero_le _, Nat.zero_le _⟩ rfl rfl (Nat.le_of_ble_eq_true rfl) dX8_settle_38 (fun h1 H locs hp hw => ?_)
  subst h1
  cases hf
  exact sg_vret hc hw hz hn0 hr hlocks rfl dX8_settle_41
theorem c_X8_settle {l : Launch} {D : va_G} {cA : Nat → ClassId} {b n : Nat} (hn : sg_okN n) {a : Nat} (ha_a : a < n) (hT_a : sg_T a = 8) {h : HP} {Rz : HP} (hf : F_X8_settle a h = some Rz) : Met l yX8_settle (Cond.code yX8_settle cX8_settle 1 none :: sg_tbl) ({ frames := 4, cells := 0, slots := 0, locals := 96 } : Room) (va_Pc [.ref (b + a)] (sg_Wd D b cA n h)) (va_Qv (fun u => u = Rz) (sg_Wd D b cA n) (sg_A b)) 0 0 (sg_A b) := by
  refine Met.ofW (cc := cX8_settle) (maxL := 1) (ret := none) (by decide) rfl ?_
  intro p e s m args below meth c s₁ B hml hv
  obtain ⟨rfl, hP, hK, hz, hY, hN⟩ := hv
  have hl := lv_entry [.ref (b + a)] (n := 1) (Nat.le_of_ble_eq_true rfl)
  rw [lg_entry_eq]
  exact w_X8_settle hn ⟨B.exec, B.bytes, findClass_of_methodNamed B.named, fun w h => atoms_spec (ws := Cond.code yX8_settle cX8_settle 1 none :: sg_tbl) B.pre w (List.mem_cons_of_mem _ h), hK, hN⟩ hz B.returns B.notSynchronized hml (Nat.le_refl _) (Nat.le_refl _) ha_a hT_a hf _ _ _ ⟨hP, hY, va_S.rf⟩ hl
set_option maxHeartbeats 4000000 in
set_option maxRecDepth 100000 in
theorem w_X8_layText {p : Program} {l : Launch} {e : Env} {R : Room} {s : State} {m : MethodId} {args : Array Value} {below : List Frame} {meth : Method} {c : Code} {D : va_G} {cA : Nat → ClassId} {b n : Nat} (hn : sg_okN n) {a : Nat} {h : HP} {Rz : Int32 × HP} (hc : sg_Cx p s m args c cX8_layText RX8 D cA) (hz : s.heap.size = b + n) (hr : meth.sig.returnType = some .int) (hlocks : meth.locks = false) (hml : c.maxLocals = 1) (hRf : 5 ≤ R.frames) (hRl : 121 ≤ R.locals) (ha_a : a < n) (hT_a : sg_T a = 8) (hf : F_X8_layText a h = some Rz) (H : Heap) (locs : List Loc) (ls : Array Slot) (hw : sg_Wo D b cA n s.heap h H locs) (hl : lv_has ls 1 [(0, .ref (b + a))]) : W p l e R s m args below meth c H locs 0 0 (sg_Qi below args s D b cA n (fun r u => r = Rz.1 ∧ u = Rz.2)) (F0 m 0 ls []) := by
  have hx := hc.1
  have hb := hc.2.1
  have hn0 : 0 < n := sg_pos hn
  unfold F_X8_layText at hf
  refine lv_aload_n hx hb dX8_layText_0 rfl (lv_at hl 0 rfl) ?_
  obtain ⟨hF1, hT1, ha1⟩ := ft_8_2 hn ha_a hT_a
  refine sg_getf (q := (a + 2)) hc hw ha_a hT_a fr_8_2 (by decide) k_519 dX8_layText_1 hF1 ?_
  refine lv_aload_n hx hb dX8_layText_4 rfl (lv_at hl 0 rfl) ?_
  obtain ⟨hF5, hT5, ha5, hN5⟩ := ft_8_0 hn ha_a hT_a
  refine sg_getf (q := (a + 1)) hc hw ha_a hT_a fr_8_0 (by decide) k_517 dX8_layText_5 hF5 ?_
  refine lv_aload_n hx hb dX8_layText_8 rfl (lv_at hl 0 rfl) ?_
  refine sg_geti hc hw ha_a hT_a fi_8_1 k_518 dX8_layText_9 ?_
  obtain ⟨p12, hp12, hf⟩ := cl_of hf
  refine sg_vi (rest := []) (c_X4_firstFault hn ha1 hT1 ha5 hT5 hp12) hc hw hz hml hl ha1 hT1 (by decide) rfl cv_X8_125 ⟨⟨rfl, rfl⟩, Nat.le_trans (Nat.le_of_ble_eq_true rfl) hRf, Nat.le_trans (Nat.le_of_ble_eq_true rfl) hRl⟩ ⟨Nat.zero_le _, Nat.zero_le _⟩ rfl rfl (Nat.le_of_ble_eq_true rfl) dX8_layText_12 (fun r h1 H locs hp hw => ?_)
  obtain ⟨e1, e2⟩ := hp; subst r; subst h1
  refine lv_bipush (v := (-4)) hx hb dX8_layText_15 (by decide) ?_
  refine lv_icmp_eq (tgt := 23) hx hb dX8_layText_17 (by decide) (fun c17 => ?_) (fun c17 => ?_)
  · have hf := if_of c17 hf
    refine lv_aload_n hx hb dX8_layText_23 rfl (lv_at hl 0 rfl) ?_
    refine sg_getf (q := (a + 2)) hc hw ha_a hT_a fr_8_2 (by decide) k_519 dX8_layText_24 (ft_8_2 hn ha_a hT_a).1 ?_
    obtain ⟨hF27, hT27, ha27⟩ := ft_4_0 hn ha1 hT1
    refine sg_getf (q := (a + 3)) hc hw ha1 hT1 fr_4_0 (by decide) k_122 dX8_layText_27 hF27 ?_
    refine sg_geti hc hw ha27 hT27 fi_1_0 k_40 dX8_layText_30 ?_
    refine lv_if_eq (tgt := 49) hx hb dX8_layText_33 (by decide) (fun c33 => ?_) (fun c33 => ?_)
    · have hf := if_of c33 hf
      refine lv_bipush (v := (-2)) hx hb dX8_layText_49 (by decide) ?_
      cases hf
      exact sg_iret hc hw hz hn0 hr hlocks ⟨rfl, rfl⟩ dX8_layText_51
    · have hf := if_no c33 hf
      refine lv_aload_n hx hb dX8_layText_36 rfl (lv_at hl 0 rfl) ?_
      refine sg_getf (q := (a + 2)) hc hw ha_a hT_a fr_8_2 (by decide) k_519 dX8_layText_37 (ft_8_2 hn ha_a hT_a).1 ?_
      refine sg_getf (q := (a + 3)) hc hw ha1 hT1 fr_4_0 (by decide) k_122 dX8_layText_40 (ft_4_0 hn ha1 hT1).1 ?_
      refine sg_geti hc hw ha27 hT27 fi_1_2 k_49 dX8_layText_43 ?_
      refine lv_if_ne (tgt := 52) hx hb dX8_layText_46 (by decide) (fun c46 => ?_) (fun c46 => ?_)
      · have hf := if_no c46 hf
        refine lv_aload_n hx hb dX8_layText_52 rfl (lv_at hl 0 rfl) ?_
        obtain ⟨hF53, hT53, ha53⟩ := ft_8_3 hn ha_a hT_a
        refine sg_getf (q := (a + 15)) hc hw ha_a hT_a fr_8_3 (by decide) k_520 dX8_layText_53 hF53 ?_
        refine lv_aload_n hx hb dX8_layText_56 rfl (lv_at hl 0 rfl) ?_
        refine sg_getf (q := (a + 2)) hc hw ha_a hT_a fr_8_2 (by decide) k_519 dX8_layText_57 (ft_8_2 hn ha_a hT_a).1 ?_
        refine sg_getf (q := (a + 3)) hc hw ha1 hT1 fr_4_0 (by decide) k_122 dX8_layText_60 (ft_4_0 hn ha1 hT1).1 ?_
        obtain ⟨p63, hp63, hf⟩ := cl_of hf
        refine sg_vv (rest := []) (c_X1_copy hn ha53 hT53 ha27 hT27 hp63) hc hw hz hml hl ha53 hT53 (by decide) rfl cv_X8_247 ⟨⟨rfl, rfl⟩, Nat.le_trans (Nat.le_of_ble_eq_true rfl) hRf, Nat.le_trans (Nat.le_of_ble_eq_true rfl) hRl⟩ ⟨Nat.zero_le _, Nat.zero_le _⟩ rfl rfl (Nat.le_of_ble_eq_true rfl) dX8_layText_63 (fun h1 H locs hp hw => ?_)
        subst h1
        refine lv_aload_n hx hb dX8_layText_66 rfl (lv_at hl 0 rfl) ?_
        obtain ⟨hF67, hT67, ha67⟩ := ft_8_5 hn ha_a hT_a
        refine sg_getf (q := (a + 29)) hc hw ha_a hT_a fr_8_5 (by decide) k_522 dX8_layText_67 hF67 ?_
        refine lv_aload_n hx hb dX8_layText_70 rfl (lv_at hl 0 rfl) ?_
        refine sg_getf (q := (a + 2)) hc hw ha_a hT_a fr_8_2 (by decide) k_519 dX8_layText_71 (ft_8_2 hn ha_a hT_a).1 ?_
        obtain ⟨hF74, hT74, ha74⟩ := ft_4_1 hn ha1 hT1
        refine sg_getf (q := (a + 10)) hc hw ha1 hT1 fr_4_1 (by decide) k_124 dX8_layText_74 hF74 ?_
        obtain ⟨p77, hp77, hf⟩ := cl_of hf
        refine sg_vv (rest := []) (c_X6_copy hn ha67 hT67 ha74 hT74 hp77) hc hw hz hml hl ha67 hT67 (by decide) rfl cv_X8_303 ⟨⟨rfl, rfl⟩, Nat.le_trans (Nat.le_of_ble_eq_true rfl) hRf, Nat.le_trans (Nat.le_of_ble_eq_true rfl) hRl⟩ ⟨Nat.zero_le _, Nat.zero_le _⟩ rfl rfl (Nat.le_of_ble_eq_true rfl) dX8_layText_77 (fun h1 H locs hp hw => ?_)
        subst h1
        refine lv_aload_n hx hb dX8_layText_80 rfl (lv_at hl 0 rfl) ?_
        refine lv_iconst (v := 0) hx hb dX8_layText_81 (by decide) ?_
        refine sg_puti hc hw ha_a hT_a fp_8_10 rfl rfl k_527 dX8_layText_82 (fun H locs hw => ?_)
        obtain ⟨h82, hw, hf⟩ := sg_name hw hf
        refine lv_aload_n hx hb dX8_layText_85 rfl (lv_at hl 0 rfl) ?_
        obtain ⟨hF86, hT86, ha86⟩ := ft_8_6 hn ha_a hT_a
        refine sg_getf (q := (a + 33)) hc hw ha_a hT_a fr_8_6 (by decide) k_523 dX8_layText_86 hF86 ?_
        refine lv_iconst (v := 0) hx hb dX8_layText_89 (by decide) ?_
        refine sg_puti hc hw ha86 hT86 fp_3_1 rfl rfl k_148 dX8_layText_90 (fun H locs hw => ?_)
        obtain ⟨h90, hw, hf⟩ := sg_name hw hf
        refine lv_aload_n hx hb dX8_layText_93 rfl (lv_at hl 0 rfl) ?_
        obtain ⟨hF94, hT94, ha94⟩ := ft_8_7 hn ha_a hT_a
        refine sg_getf (q := (a + 67)) hc hw ha_a hT_a fr_8_7 (by decide) k_524 dX8_layText_94 hF94 ?_
        refine lv_iconst (v := 0) hx hb dX8_layText_97 (by decide) ?_
        refine sg_puti hc hw ha94 hT94 fp_3_1 rfl rfl k_148 dX8_layText_98 (fun H locs hw => ?_)
        obtain ⟨h98, hw, hf⟩ := sg_name hw hf
        refine lv_aload_n hx hb dX8_layText_101 rfl (lv_at hl 0 rfl) ?_
        obtain ⟨p102, hp102, hf⟩ := cl_of hf
        refine sg_vv (rest := []) (c_X8_settle hn ha_a hT_a hp102) hc hw hz hml hl ha_a hT_a (by decide) rfl cv_X8_200 ⟨⟨rfl, rfl⟩, Nat.le_trans (Nat.le_of_ble_eq_true rfl) hRf, Nat.le_trans (Nat.le_of_ble_eq_true rfl) hRl⟩ ⟨Nat.zero_le _, Nat.zero_le _⟩ rfl rfl (Nat.le_of_ble_eq_true rfl) dX8_layText_102 (fun h1 H locs hp hw => ?_)
        subst h1
        refine lv_aload_n hx hb dX8_layText_105 rfl (lv_at hl 0 rfl) ?_
        refine sg_getf (q := (a + 15)) hc hw ha_a hT_a fr_8_3 (by decide) k_520 dX8_layText_106 (ft_8_3 hn ha_a hT_a).1 ?_
        refine sg_geti hc hw ha53 hT53 fi_1_1 k_45 dX8_layText_109 ?_
        cases hf
        exact sg_iret hc hw hz hn0 hr hlocks ⟨rfl, rfl⟩ dX8_layText_112
      · have hf := if_of c46 hf
        refine lv_bipush (v := (-2)) hx hb dX8_layText_49 (by decide) ?_
        cases hf
        exact sg_iret hc hw hz hn0 hr hlocks ⟨rfl, rfl⟩ dX8_layText_51
  · have hf := if_no c17 hf
    refine lv_bipush (v := (-2)) hx hb dX8_layText_20 (by decide) ?_
    cases hf
    exact sg_iret hc hw hz hn0 hr hlocks ⟨rfl, rfl⟩ dX8_layText_22
theorem c_X8_layText {l : Launch} {D : va_G} {cA : Nat → ClassId} {b n : Nat} (hn : sg_okN n) {a : Nat} (ha_a : a < n) (hT_a : sg_T a = 8) {h : HP} {Rz : Int32 × HP} (hf : F_X8_layText a h = some Rz) : Met l yX8_layText (Cond.code yX8_layText cX8_layText 1 (some .int) :: sg_tbl) ({ frames := 5, cells := 0, slots := 0, locals := 121 } : Room) (va_Pc [.ref (b + a)] (sg_Wd D b cA n h)) (va_Qi (fun r u => r = Rz.1 ∧ u = Rz.2) (sg_Wd D b cA n) (sg_A b)) 0 0 (sg_A b) := by
  refine Met.ofW (cc := cX8_layText) (maxL := 1) (ret := (some .int)) (by decide) rfl ?_
  intro p e s m args below meth c s₁ B hml hv
  obtain ⟨rfl, hP, hK, hz, hY, hN⟩ := hv
  have hl := lv_entry [.ref (b + a)] (n := 1) (Nat.le_of_ble_eq_true rfl)
  rw [lg_entry_eq]
  exact w_X8_layText hn ⟨B.exec, B.bytes, findClass_of_methodNamed B.named, fun w h => atoms_spec (ws := Cond.code yX8_layText cX8_layText 1 (some .int) :: sg_tbl) B.pre w (List.mem_cons_of_mem _ h), hK, hN⟩ hz B.returns B.notSynchronized hml (Nat.le_refl _) (Nat.le_refl _) ha_a hT_a hf _ _ _ ⟨hP, hY, va_S.rf⟩ hl
set_option maxHeartbeats 4000000 in
set_option maxRecDepth 100000 in
theorem w_X8_lay {p : Program} {l : Launch} {e : Env} {R : Room} {s : State} {m : MethodId} {args : Array Value} {below : List Frame} {meth : Method} {c : Code} {D : va_G} {cA : Nat → ClassId} {b n : Nat} (hn : sg_okN n) {a : Nat} {h : HP} {Rz : Int32 × HP} (hc : sg_Cx p s m args c cX8_lay RX8 D cA) (hz : s.heap.size = b + n) (hr : meth.sig.returnType = some .int) (hlocks : meth.locks = false) (hml : c.maxLocals = 1) (hRf : 6 ≤ R.frames) (hRl : 141 ≤ R.locals) (ha_a : a < n) (hT_a : sg_T a = 8) (hf : F_X8_lay a h = some Rz) (H : Heap) (locs : List Loc) (ls : Array Slot) (hw : sg_Wo D b cA n s.heap h H locs) (hl : lv_has ls 1 [(0, .ref (b + a))]) : W p l e R s m args below meth c H locs 0 0 (sg_Qi below args s D b cA n (fun r u => r = Rz.1 ∧ u = Rz.2)) (F0 m 0 ls []) := by
  have hx := hc.1
  have hb := hc.2.1
  have hn0 : 0 < n := sg_pos hn
  unfold F_X8_lay at hf
  refine lv_aload_n hx hb dX8_lay_0 rfl (lv_at hl 0 rfl) ?_
  obtain ⟨p1, hp1, hf⟩ := cl_of hf
  refine sg_vi (rest := []) (c_X8_layText hn ha_a hT_a hp1) hc hw hz hml hl ha_a hT_a (by decide) rfl cv_X8_118 ⟨⟨rfl, rfl⟩, Nat.le_trans (Nat.le_of_ble_eq_true rfl) hRf, Nat.le_trans (Nat.le_of_ble_eq_true rfl) hRl⟩ ⟨Nat.zero_le _, Nat.zero_le _⟩ rfl rfl (Nat.le_of_ble_eq_true rfl) dX8_lay_1 (fun r h1 H locs hp hw => ?_)
  obtain ⟨e1, e2⟩ := hp; subst r; subst h1
  cases hf
  exact sg_iret hc hw hz hn0 hr hlocks ⟨rfl, rfl⟩ dX8_lay_4
theorem c_X8_lay {l : Launch} {D : va_G} {cA : Nat → ClassId} {b n : Nat} (hn : sg_okN n) {a : Nat} (ha_a : a < n) (hT_a : sg_T a = 8) {h : HP} {Rz : Int32 × HP} (hf : F_X8_lay a h = some Rz) : Met l yX8_lay (Cond.code yX8_lay cX8_lay 1 (some .int) :: sg_tbl) ({ frames := 6, cells := 0, slots := 0, locals := 141 } : Room) (va_Pc [.ref (b + a)] (sg_Wd D b cA n h)) (va_Qi (fun r u => r = Rz.1 ∧ u = Rz.2) (sg_Wd D b cA n) (sg_A b)) 0 0 (sg_A b) := by
  refine Met.ofW (cc := cX8_lay) (maxL := 1) (ret := (some .int)) (by decide) rfl ?_
  intro p e s m args below meth c s₁ B hml hv
  obtain ⟨rfl, hP, hK, hz, hY, hN⟩ := hv
  have hl := lv_entry [.ref (b + a)] (n := 1) (Nat.le_of_ble_eq_true rfl)
  rw [lg_entry_eq]
  exact w_X8_lay hn ⟨B.exec, B.bytes, findClass_of_methodNamed B.named, fun w h => atoms_spec (ws := Cond.code yX8_lay cX8_lay 1 (some .int) :: sg_tbl) B.pre w (List.mem_cons_of_mem _ h), hK, hN⟩ hz B.returns B.notSynchronized hml (Nat.le_refl _) (Nat.le_refl _) ha_a hT_a hf _ _ _ ⟨hP, hY, va_S.rf⟩ hl
set_option maxHeartbeats 4000000 in
set_option maxRecDepth 100000 in
theorem w_X8_yard {p : Program} {l : Launch} {e : Env} {R : Room} {s : State} {m : MethodId} {args : Array Value} {below : List Frame} {meth : Method} {c : Code} {D : va_G} {cA : Nat → ClassId} {b n : Nat} (hn : sg_okN n) {a : Nat} {x1 : Int32} {x2 : Int32} {h : HP} {Rz : Int32} (hc : sg_Cx p s m args c cX8_yard RX8 D cA) (hz : s.heap.size = b + n) (hr : meth.sig.returnType = some .int) (hlocks : meth.locks = false) (hml : c.maxLocals = 3) (hRf : 1 ≤ R.frames) (hRl : 21 ≤ R.locals) (ha_a : a < n) (hT_a : sg_T a = 8) (hf : F_X8_yard a x1 x2 h = some Rz) (H : Heap) (locs : List Loc) (ls : Array Slot) (hw : sg_Wo D b cA n s.heap h H locs) (hl : lv_has ls 3 [(0, .ref (b + a)), (1, .int x1), (2, .int x2)]) : W p l e R s m args below meth c H locs 0 0 (sg_Qi below args s D b cA n (fun r u => r = Rz ∧ u = h)) (F0 m 0 ls []) := by
  have hx := hc.1
  have hb := hc.2.1
  have hn0 : 0 < n := sg_pos hn
  unfold F_X8_yard at hf
  refine lv_aload_n hx hb dX8_yard_0 rfl (lv_at hl 0 rfl) ?_
  obtain ⟨hF1, hT1, ha1⟩ := ft_8_3 hn ha_a hT_a
  refine sg_getf (q := (a + 15)) hc hw ha_a hT_a fr_8_3 (by decide) k_520 dX8_yard_1 hF1 ?_
  refine lv_iload_n hx hb dX8_yard_4 rfl (lv_at hl 1 rfl) ?_
  obtain ⟨p5, hp5, hf⟩ := cl_of hf
  refine sg_vi (rest := []) (c_X1_hasYard hn ha1 hT1 hp5) hc hw hz hml hl ha1 hT1 (by decide) rfl cv_X8_129 ⟨⟨rfl, rfl⟩, Nat.le_trans (Nat.le_of_ble_eq_true rfl) hRf, Nat.le_trans (Nat.le_of_ble_eq_true rfl) hRl⟩ ⟨Nat.zero_le _, Nat.zero_le _⟩ rfl rfl (Nat.le_of_ble_eq_true rfl) dX8_yard_5 (fun r h1 H locs hp hw => ?_)
  obtain ⟨⟨e1, e2⟩, hb5⟩ := hp; subst r; subst h1
  refine lv_if_ne (tgt := 13) hx hb dX8_yard_8 (by decide) (fun c8 => ?_) (fun c8 => ?_)
  · have hf := if_no c8 hf
    refine lv_iload_n hx hb dX8_yard_13 rfl (lv_at hl 2 rfl) ?_
    by_cases hk14_0 : x2 = 0
    · have hf := if_of hk14_0 hf
      refine lv_tableIn (off := 34) (tgt := 48) hx hb dX8_yard_14 (by rw [hk14_0]; decide) (by rw [hk14_0]; decide) (by rw [hk14_0]; decide) (by decide) ?_
      refine lv_aload_n hx hb dX8_yard_48 rfl (lv_at hl 0 rfl) ?_
      refine sg_getf (q := (a + 15)) hc hw ha_a hT_a fr_8_3 (by decide) k_520 dX8_yard_49 (ft_8_3 hn ha_a hT_a).1 ?_
      obtain ⟨hF52, hT52, ha52, hN52⟩ := ft_1_10 hn ha1 hT1
      refine sg_getf (q := (a + 21)) hc hw ha1 hT1 fr_1_10 (by decide) k_71 dX8_yard_52 hF52 ?_
      refine lv_iload_n hx hb dX8_yard_55 rfl (lv_at hl 1 rfl) ?_
      obtain ⟨hg56, hf⟩ := gd_of hf
      refine sg_ild hc hw ha52 hT52 hN52 hg56 dX8_yard_56 ?_
      cases hf
      exact sg_iret hc hw hz hn0 hr hlocks ⟨rfl, rfl⟩ dX8_yard_57
    · have hf := if_no hk14_0 hf
      by_cases hk14_1 : x2 = 1
      · have hf := if_of hk14_1 hf
        refine lv_tableIn (off := 44) (tgt := 58) hx hb dX8_yard_14 (by rw [hk14_1]; decide) (by rw [hk14_1]; decide) (by rw [hk14_1]; decide) (by decide) ?_
        refine lv_aload_n hx hb dX8_yard_58 rfl (lv_at hl 0 rfl) ?_
        refine sg_getf (q := (a + 15)) hc hw ha_a hT_a fr_8_3 (by decide) k_520 dX8_yard_59 (ft_8_3 hn ha_a hT_a).1 ?_
        refine lv_iload_n hx hb dX8_yard_62 rfl (lv_at hl 1 rfl) ?_
        obtain ⟨p63, hp63, hf⟩ := cl_of hf
        refine sg_vi (rest := []) (c_X1_slopeAt hn ha1 hT1 hp63) hc hw hz hml hl ha1 hT1 (by decide) rfl cv_X8_136 ⟨⟨rfl, rfl⟩, Nat.le_trans (Nat.le_of_ble_eq_true rfl) hRf, Nat.le_trans (Nat.le_of_ble_eq_true rfl) hRl⟩ ⟨Nat.zero_le _, Nat.zero_le _⟩ rfl rfl (Nat.le_of_ble_eq_true rfl) dX8_yard_63 (fun r h1 H locs hp hw => ?_)
        obtain ⟨e1, e2⟩ := hp; subst r; subst h1
        cases hf
        exact sg_iret hc hw hz hn0 hr hlocks ⟨rfl, rfl⟩ dX8_yard_66
      · have hf := if_no hk14_1 hf
        by_cases hk14_2 : x2 = 2
        · have hf := if_of hk14_2 hf
          refine lv_tableIn (off := 53) (tgt := 67) hx hb dX8_yard_14 (by rw [hk14_2]; decide) (by rw [hk14_2]; decide) (by rw [hk14_2]; decide) (by decide) ?_
          refine lv_aload_n hx hb dX8_yard_67 rfl (lv_at hl 0 rfl) ?_
          refine sg_getf (q := (a + 15)) hc hw ha_a hT_a fr_8_3 (by decide) k_520 dX8_yard_68 (ft_8_3 hn ha_a hT_a).1 ?_
          refine lv_iload_n hx hb dX8_yard_71 rfl (lv_at hl 1 rfl) ?_
          obtain ⟨p72, hp72, hf⟩ := cl_of hf
          refine sg_vi (rest := []) (c_X1_priceAt hn ha1 hT1 hp72) hc hw hz hml hl ha1 hT1 (by decide) rfl cv_X8_140 ⟨⟨rfl, rfl⟩, Nat.le_trans (Nat.le_of_ble_eq_true rfl) hRf, Nat.le_trans (Nat.le_of_ble_eq_true rfl) hRl⟩ ⟨Nat.zero_le _, Nat.zero_le _⟩ rfl rfl (Nat.le_of_ble_eq_true rfl) dX8_yard_72 (fun r h1 H locs hp hw => ?_)
          obtain ⟨e1, e2⟩ := hp; subst r; subst h1
          cases hf
          exact sg_iret hc hw hz hn0 hr hlocks ⟨rfl, rfl⟩ dX8_yard_75
        · have hf := if_no hk14_2 hf
          by_cases hk14_3 : x2 = 3
          · have hf := if_of hk14_3 hf
            refine lv_tableIn (off := 62) (tgt := 76) hx hb dX8_yard_14 (by rw [hk14_3]; decide) (by rw [hk14_3]; decide) (by rw [hk14_3]; decide) (by decide) ?_
            refine lv_aload_n hx hb dX8_yard_76 rfl (lv_at hl 0 rfl) ?_
            obtain ⟨hF77, hT77, ha77, hN77⟩ := ft_8_11 hn ha_a hT_a
            refine sg_getf (q := (a + 79)) hc hw ha_a hT_a fr_8_11 (by decide) k_528 dX8_yard_77 hF77 ?_
            refine lv_iload_n hx hb dX8_yard_80 rfl (lv_at hl 1 rfl) ?_
            obtain ⟨hg81, hf⟩ := gd_of hf
            refine sg_ild hc hw ha77 hT77 hN77 hg81 dX8_yard_81 ?_
            cases hf
            exact sg_iret hc hw hz hn0 hr hlocks ⟨rfl, rfl⟩ dX8_yard_82
          · have hf := if_no hk14_3 hf
            by_cases hk14_4 : x2 = 4
            · have hf := if_of hk14_4 hf
              refine lv_tableIn (off := 69) (tgt := 83) hx hb dX8_yard_14 (by rw [hk14_4]; decide) (by rw [hk14_4]; decide) (by rw [hk14_4]; decide) (by decide) ?_
              refine lv_aload_n hx hb dX8_yard_83 rfl (lv_at hl 0 rfl) ?_
              obtain ⟨hF84, hT84, ha84⟩ := ft_8_13 hn ha_a hT_a
              refine sg_getf (q := (a + 81)) hc hw ha_a hT_a fr_8_13 (by decide) k_530 dX8_yard_84 hF84 ?_
              obtain ⟨hF87, hT87, ha87, hN87⟩ := ft_7_10 hn ha84 hT84
              refine sg_getf (q := (a + 86)) hc hw ha84 hT84 fr_7_10 (by decide) k_178 dX8_yard_87 hF87 ?_
              refine lv_iload_n hx hb dX8_yard_90 rfl (lv_at hl 1 rfl) ?_
              obtain ⟨hg91, hf⟩ := gd_of hf
              refine sg_ild hc hw ha87 hT87 hN87 hg91 dX8_yard_91 ?_
              cases hf
              exact sg_iret hc hw hz hn0 hr hlocks ⟨rfl, rfl⟩ dX8_yard_92
            · have hf := if_no hk14_4 hf
              refine lv_tableOut (tgt := 93) hx hb dX8_yard_14 (by have e0 := sg_ne hk14_0 (k := 0) (by decide); have e1 := sg_ne hk14_1 (k := 1) (by decide); have e2 := sg_ne hk14_2 (k := 2) (by decide); have e3 := sg_ne hk14_3 (k := 3) (by decide); have e4 := sg_ne hk14_4 (k := 4) (by decide); omega) (by decide) ?_
              refine lv_iconst (v := (-1)) hx hb dX8_yard_93 (by decide) ?_
              cases hf
              exact sg_iret hc hw hz hn0 hr hlocks ⟨rfl, rfl⟩ dX8_yard_94
  · have hf := if_of c8 hf
    refine lv_iconst (v := (-1)) hx hb dX8_yard_11 (by decide) ?_
    cases hf
    exact sg_iret hc hw hz hn0 hr hlocks ⟨rfl, rfl⟩ dX8_yard_12
theorem c_X8_yard {l : Launch} {D : va_G} {cA : Nat → ClassId} {b n : Nat} (hn : sg_okN n) {a : Nat} {x1 : Int32} {x2 : Int32} (ha_a : a < n) (hT_a : sg_T a = 8) {h : HP} {Rz : Int32} (hf : F_X8_yard a x1 x2 h = some Rz) : Met l yX8_yard (Cond.code yX8_yard cX8_yard 3 (some .int) :: sg_tbl) ({ frames := 1, cells := 0, slots := 0, locals := 21 } : Room) (va_Pc [.ref (b + a), .int x1, .int x2] (sg_Wd D b cA n h)) (va_Qi (fun r u => r = Rz ∧ u = h) (sg_Wd D b cA n) (sg_A b)) 0 0 (sg_A b) := by
  refine Met.ofW (cc := cX8_yard) (maxL := 3) (ret := (some .int)) (by decide) rfl ?_
  intro p e s m args below meth c s₁ B hml hv
  obtain ⟨rfl, hP, hK, hz, hY, hN⟩ := hv
  have hl := lv_entry [.ref (b + a), .int x1, .int x2] (n := 3) (Nat.le_of_ble_eq_true rfl)
  rw [lg_entry_eq]
  exact w_X8_yard hn ⟨B.exec, B.bytes, findClass_of_methodNamed B.named, fun w h => atoms_spec (ws := Cond.code yX8_yard cX8_yard 3 (some .int) :: sg_tbl) B.pre w (List.mem_cons_of_mem _ h), hK, hN⟩ hz B.returns B.notSynchronized hml (Nat.le_refl _) (Nat.le_refl _) ha_a hT_a hf _ _ _ ⟨hP, hY, va_S.rf⟩ hl
set_option maxHeartbeats 4000000 in
set_option maxRecDepth 100000 in
theorem w_X8_bearer {p : Program} {l : Launch} {e : Env} {R : Room} {s : State} {m : MethodId} {args : Array Value} {below : List Frame} {meth : Method} {c : Code} {D : va_G} {cA : Nat → ClassId} {b n : Nat} (hn : sg_okN n) {a : Nat} {x1 : Int32} {x2 : Int32} {h : HP} {Rz : Int32} (hc : sg_Cx p s m args c cX8_bearer RX8 D cA) (hz : s.heap.size = b + n) (hr : meth.sig.returnType = some .int) (hlocks : meth.locks = false) (hml : c.maxLocals = 3) (hRf : 3 ≤ R.frames) (hRl : 63 ≤ R.locals) (ha_a : a < n) (hT_a : sg_T a = 8) (hf : F_X8_bearer a x1 x2 h = some Rz) (H : Heap) (locs : List Loc) (ls : Array Slot) (hw : sg_Wo D b cA n s.heap h H locs) (hl : lv_has ls 3 [(0, .ref (b + a)), (1, .int x1), (2, .int x2)]) : W p l e R s m args below meth c H locs 0 0 (sg_Qi below args s D b cA n (fun r u => r = Rz ∧ u = h)) (F0 m 0 ls []) := by
  have hx := hc.1
  have hb := hc.2.1
  have hn0 : 0 < n := sg_pos hn
  unfold F_X8_bearer at hf
  refine lv_aload_n hx hb dX8_bearer_0 rfl (lv_at hl 0 rfl) ?_
  obtain ⟨hF1, hT1, ha1⟩ := ft_8_3 hn ha_a hT_a
  refine sg_getf (q := (a + 15)) hc hw ha_a hT_a fr_8_3 (by decide) k_520 dX8_bearer_1 hF1 ?_
  refine lv_iload_n hx hb dX8_bearer_4 rfl (lv_at hl 1 rfl) ?_
  obtain ⟨p5, hp5, hf⟩ := cl_of hf
  refine sg_vi (rest := []) (c_X1_hasBearer hn ha1 hT1 hp5) hc hw hz hml hl ha1 hT1 (by decide) rfl cv_X8_146 ⟨⟨rfl, rfl⟩, Nat.le_trans (Nat.le_of_ble_eq_true rfl) hRf, Nat.le_trans (Nat.le_of_ble_eq_true rfl) hRl⟩ ⟨Nat.zero_le _, Nat.zero_le _⟩ rfl rfl (Nat.le_of_ble_eq_true rfl) dX8_bearer_5 (fun r h1 H locs hp hw => ?_)
  obtain ⟨⟨e1, e2⟩, hb5⟩ := hp; subst r; subst h1
  refine lv_if_ne (tgt := 13) hx hb dX8_bearer_8 (by decide) (fun c8 => ?_) (fun c8 => ?_)
  · have hf := if_no c8 hf
    refine lv_iload_n hx hb dX8_bearer_13 rfl (lv_at hl 2 rfl) ?_
    by_cases hk14_0 : x2 = 0
    · have hf := if_of hk14_0 hf
      refine lv_tableIn (off := 38) (tgt := 52) hx hb dX8_bearer_14 (by rw [hk14_0]; decide) (by rw [hk14_0]; decide) (by rw [hk14_0]; decide) (by decide) ?_
      refine lv_aload_n hx hb dX8_bearer_52 rfl (lv_at hl 0 rfl) ?_
      refine sg_getf (q := (a + 15)) hc hw ha_a hT_a fr_8_3 (by decide) k_520 dX8_bearer_53 (ft_8_3 hn ha_a hT_a).1 ?_
      obtain ⟨hF56, hT56, ha56, hN56⟩ := ft_1_8 hn ha1 hT1
      refine sg_getf (q := (a + 19)) hc hw ha1 hT1 fr_1_8 (by decide) k_64 dX8_bearer_56 hF56 ?_
      refine lv_iload_n hx hb dX8_bearer_59 rfl (lv_at hl 1 rfl) ?_
      obtain ⟨hg60, hf⟩ := gd_of hf
      refine sg_ild hc hw ha56 hT56 hN56 hg60 dX8_bearer_60 ?_
      cases hf
      exact sg_iret hc hw hz hn0 hr hlocks ⟨rfl, rfl⟩ dX8_bearer_61
    · have hf := if_no hk14_0 hf
      by_cases hk14_1 : x2 = 1
      · have hf := if_of hk14_1 hf
        refine lv_tableIn (off := 48) (tgt := 62) hx hb dX8_bearer_14 (by rw [hk14_1]; decide) (by rw [hk14_1]; decide) (by rw [hk14_1]; decide) (by decide) ?_
        refine lv_aload_n hx hb dX8_bearer_62 rfl (lv_at hl 0 rfl) ?_
        refine sg_getf (q := (a + 15)) hc hw ha_a hT_a fr_8_3 (by decide) k_520 dX8_bearer_63 (ft_8_3 hn ha_a hT_a).1 ?_
        obtain ⟨hF66, hT66, ha66, hN66⟩ := ft_1_9 hn ha1 hT1
        refine sg_getf (q := (a + 20)) hc hw ha1 hT1 fr_1_9 (by decide) k_69 dX8_bearer_66 hF66 ?_
        refine lv_iload_n hx hb dX8_bearer_69 rfl (lv_at hl 1 rfl) ?_
        obtain ⟨hg70, hf⟩ := gd_of hf
        refine sg_ild hc hw ha66 hT66 hN66 hg70 dX8_bearer_70 ?_
        cases hf
        exact sg_iret hc hw hz hn0 hr hlocks ⟨rfl, rfl⟩ dX8_bearer_71
      · have hf := if_no hk14_1 hf
        by_cases hk14_2 : x2 = 2
        · have hf := if_of hk14_2 hf
          refine lv_tableIn (off := 58) (tgt := 72) hx hb dX8_bearer_14 (by rw [hk14_2]; decide) (by rw [hk14_2]; decide) (by rw [hk14_2]; decide) (by decide) ?_
          refine lv_aload_n hx hb dX8_bearer_72 rfl (lv_at hl 0 rfl) ?_
          obtain ⟨hF73, hT73, ha73⟩ := ft_8_13 hn ha_a hT_a
          refine sg_getf (q := (a + 81)) hc hw ha_a hT_a fr_8_13 (by decide) k_530 dX8_bearer_73 hF73 ?_
          obtain ⟨hF76, hT76, ha76, hN76⟩ := ft_7_6 hn ha73 hT73
          refine sg_getf (q := (a + 82)) hc hw ha73 hT73 fr_7_6 (by decide) k_171 dX8_bearer_76 hF76 ?_
          refine lv_iload_n hx hb dX8_bearer_79 rfl (lv_at hl 1 rfl) ?_
          obtain ⟨hg80, hf⟩ := gd_of hf
          refine sg_ild hc hw ha76 hT76 hN76 hg80 dX8_bearer_80 ?_
          cases hf
          exact sg_iret hc hw hz hn0 hr hlocks ⟨rfl, rfl⟩ dX8_bearer_81
        · have hf := if_no hk14_2 hf
          by_cases hk14_3 : x2 = 3
          · have hf := if_of hk14_3 hf
            refine lv_tableIn (off := 68) (tgt := 82) hx hb dX8_bearer_14 (by rw [hk14_3]; decide) (by rw [hk14_3]; decide) (by rw [hk14_3]; decide) (by decide) ?_
            refine lv_aload_n hx hb dX8_bearer_82 rfl (lv_at hl 0 rfl) ?_
            obtain ⟨hF83, hT83, ha83⟩ := ft_8_13 hn ha_a hT_a
            refine sg_getf (q := (a + 81)) hc hw ha_a hT_a fr_8_13 (by decide) k_530 dX8_bearer_83 hF83 ?_
            refine lv_iload_n hx hb dX8_bearer_86 rfl (lv_at hl 1 rfl) ?_
            obtain ⟨p87, hp87, hf⟩ := cl_of hf
            refine sg_vi (rest := []) (c_X7_acres hn ha83 hT83 hp87) hc hw hz hml hl ha83 hT83 (by decide) rfl cv_X8_158 ⟨⟨rfl, rfl⟩, Nat.le_trans (Nat.le_of_ble_eq_true rfl) hRf, Nat.le_trans (Nat.le_of_ble_eq_true rfl) hRl⟩ ⟨Nat.zero_le _, Nat.zero_le _⟩ rfl rfl (Nat.le_of_ble_eq_true rfl) dX8_bearer_87 (fun r h1 H locs hp hw => ?_)
            obtain ⟨e1, e2⟩ := hp; subst r; subst h1
            cases hf
            exact sg_iret hc hw hz hn0 hr hlocks ⟨rfl, rfl⟩ dX8_bearer_90
          · have hf := if_no hk14_3 hf
            by_cases hk14_4 : x2 = 4
            · have hf := if_of hk14_4 hf
              refine lv_tableIn (off := 77) (tgt := 91) hx hb dX8_bearer_14 (by rw [hk14_4]; decide) (by rw [hk14_4]; decide) (by rw [hk14_4]; decide) (by decide) ?_
              refine lv_aload_n hx hb dX8_bearer_91 rfl (lv_at hl 0 rfl) ?_
              obtain ⟨hF92, hT92, ha92⟩ := ft_8_13 hn ha_a hT_a
              refine sg_getf (q := (a + 81)) hc hw ha_a hT_a fr_8_13 (by decide) k_530 dX8_bearer_92 hF92 ?_
              obtain ⟨hF95, hT95, ha95, hN95⟩ := ft_7_7 hn ha92 hT92
              refine sg_getf (q := (a + 83)) hc hw ha92 hT92 fr_7_7 (by decide) k_173 dX8_bearer_95 hF95 ?_
              refine lv_iload_n hx hb dX8_bearer_98 rfl (lv_at hl 1 rfl) ?_
              obtain ⟨hg99, hf⟩ := gd_of hf
              refine sg_ild hc hw ha95 hT95 hN95 hg99 dX8_bearer_99 ?_
              cases hf
              exact sg_iret hc hw hz hn0 hr hlocks ⟨rfl, rfl⟩ dX8_bearer_100
            · have hf := if_no hk14_4 hf
              by_cases hk14_5 : x2 = 5
              · have hf := if_of hk14_5 hf
                refine lv_tableIn (off := 87) (tgt := 101) hx hb dX8_bearer_14 (by rw [hk14_5]; decide) (by rw [hk14_5]; decide) (by rw [hk14_5]; decide) (by decide) ?_
                refine lv_aload_n hx hb dX8_bearer_101 rfl (lv_at hl 0 rfl) ?_
                obtain ⟨hF102, hT102, ha102⟩ := ft_8_13 hn ha_a hT_a
                refine sg_getf (q := (a + 81)) hc hw ha_a hT_a fr_8_13 (by decide) k_530 dX8_bearer_102 hF102 ?_
                obtain ⟨hF105, hT105, ha105, hN105⟩ := ft_7_8 hn ha102 hT102
                refine sg_getf (q := (a + 84)) hc hw ha102 hT102 fr_7_8 (by decide) k_175 dX8_bearer_105 hF105 ?_
                refine lv_iload_n hx hb dX8_bearer_108 rfl (lv_at hl 1 rfl) ?_
                obtain ⟨hg109, hf⟩ := gd_of hf
                refine sg_ild hc hw ha105 hT105 hN105 hg109 dX8_bearer_109 ?_
                cases hf
                exact sg_iret hc hw hz hn0 hr hlocks ⟨rfl, rfl⟩ dX8_bearer_110
              · have hf := if_no hk14_5 hf
                refine lv_tableOut (tgt := 111) hx hb dX8_bearer_14 (by have e0 := sg_ne hk14_0 (k := 0) (by decide); have e1 := sg_ne hk14_1 (k := 1) (by decide); have e2 := sg_ne hk14_2 (k := 2) (by decide); have e3 := sg_ne hk14_3 (k := 3) (by decide); have e4 := sg_ne hk14_4 (k := 4) (by decide); have e5 := sg_ne hk14_5 (k := 5) (by decide); omega) (by decide) ?_
                refine lv_iconst (v := (-1)) hx hb dX8_bearer_111 (by decide) ?_
                cases hf
                exact sg_iret hc hw hz hn0 hr hlocks ⟨rfl, rfl⟩ dX8_bearer_112
  · have hf := if_of c8 hf
    refine lv_iconst (v := (-1)) hx hb dX8_bearer_11 (by decide) ?_
    cases hf
    exact sg_iret hc hw hz hn0 hr hlocks ⟨rfl, rfl⟩ dX8_bearer_12
theorem c_X8_bearer {l : Launch} {D : va_G} {cA : Nat → ClassId} {b n : Nat} (hn : sg_okN n) {a : Nat} {x1 : Int32} {x2 : Int32} (ha_a : a < n) (hT_a : sg_T a = 8) {h : HP} {Rz : Int32} (hf : F_X8_bearer a x1 x2 h = some Rz) : Met l yX8_bearer (Cond.code yX8_bearer cX8_bearer 3 (some .int) :: sg_tbl) ({ frames := 3, cells := 0, slots := 0, locals := 63 } : Room) (va_Pc [.ref (b + a), .int x1, .int x2] (sg_Wd D b cA n h)) (va_Qi (fun r u => r = Rz ∧ u = h) (sg_Wd D b cA n) (sg_A b)) 0 0 (sg_A b) := by
  refine Met.ofW (cc := cX8_bearer) (maxL := 3) (ret := (some .int)) (by decide) rfl ?_
  intro p e s m args below meth c s₁ B hml hv
  obtain ⟨rfl, hP, hK, hz, hY, hN⟩ := hv
  have hl := lv_entry [.ref (b + a), .int x1, .int x2] (n := 3) (Nat.le_of_ble_eq_true rfl)
  rw [lg_entry_eq]
  exact w_X8_bearer hn ⟨B.exec, B.bytes, findClass_of_methodNamed B.named, fun w h => atoms_spec (ws := Cond.code yX8_bearer cX8_bearer 3 (some .int) :: sg_tbl) B.pre w (List.mem_cons_of_mem _ h), hK, hN⟩ hz B.returns B.notSynchronized hml (Nat.le_refl _) (Nat.le_refl _) ha_a hT_a hf _ _ _ ⟨hP, hY, va_S.rf⟩ hl
set_option maxHeartbeats 4000000 in
set_option maxRecDepth 100000 in
theorem w_X8_stands {p : Program} {l : Launch} {e : Env} {R : Room} {s : State} {m : MethodId} {args : Array Value} {below : List Frame} {meth : Method} {c : Code} {D : va_G} {cA : Nat → ClassId} {b n : Nat} (hn : sg_okN n) {a : Nat} {h : HP} {Rz : Int32} (hc : sg_Cx p s m args c cX8_stands RX8 D cA) (hz : s.heap.size = b + n) (hr : meth.sig.returnType = some .int) (hlocks : meth.locks = false) (hml : c.maxLocals = 1) (hRf : 0 ≤ R.frames) (hRl : 0 ≤ R.locals) (ha_a : a < n) (hT_a : sg_T a = 8) (hf : F_X8_stands a h = some Rz) (H : Heap) (locs : List Loc) (ls : Array Slot) (hw : sg_Wo D b cA n s.heap h H locs) (hl : lv_has ls 1 [(0, .ref (b + a))]) : W p l e R s m args below meth c H locs 0 0 (sg_Qi below args s D b cA n (fun r u => r = Rz ∧ u = h)) (F0 m 0 ls []) := by
  have hx := hc.1
  have hb := hc.2.1
  have hn0 : 0 < n := sg_pos hn
  unfold F_X8_stands at hf
  refine lv_aload_n hx hb dX8_stands_0 rfl (lv_at hl 0 rfl) ?_
  obtain ⟨hF1, hT1, ha1⟩ := ft_8_13 hn ha_a hT_a
  refine sg_getf (q := (a + 81)) hc hw ha_a hT_a fr_8_13 (by decide) k_530 dX8_stands_1 hF1 ?_
  refine sg_geti hc hw ha1 hT1 fi_7_3 k_167 dX8_stands_4 ?_
  cases hf
  exact sg_iret hc hw hz hn0 hr hlocks ⟨rfl, rfl⟩ dX8_stands_7
theorem c_X8_stands {l : Launch} {D : va_G} {cA : Nat → ClassId} {b n : Nat} (hn : sg_okN n) {a : Nat} (ha_a : a < n) (hT_a : sg_T a = 8) {h : HP} {Rz : Int32} (hf : F_X8_stands a h = some Rz) : Met l yX8_stands (Cond.code yX8_stands cX8_stands 1 (some .int) :: sg_tbl) ({ frames := 0, cells := 0, slots := 0, locals := 0 } : Room) (va_Pc [.ref (b + a)] (sg_Wd D b cA n h)) (va_Qi (fun r u => r = Rz ∧ u = h) (sg_Wd D b cA n) (sg_A b)) 0 0 (sg_A b) := by
  refine Met.ofW (cc := cX8_stands) (maxL := 1) (ret := (some .int)) (by decide) rfl ?_
  intro p e s m args below meth c s₁ B hml hv
  obtain ⟨rfl, hP, hK, hz, hY, hN⟩ := hv
  have hl := lv_entry [.ref (b + a)] (n := 1) (Nat.le_of_ble_eq_true rfl)
  rw [lg_entry_eq]
  exact w_X8_stands hn ⟨B.exec, B.bytes, findClass_of_methodNamed B.named, fun w h => atoms_spec (ws := Cond.code yX8_stands cX8_stands 1 (some .int) :: sg_tbl) B.pre w (List.mem_cons_of_mem _ h), hK, hN⟩ hz B.returns B.notSynchronized hml (Nat.le_refl _) (Nat.le_refl _) ha_a hT_a hf _ _ _ ⟨hP, hY, va_S.rf⟩ hl
set_option maxHeartbeats 4000000 in
set_option maxRecDepth 100000 in
theorem w_X8_commonDivisor {p : Program} {l : Launch} {e : Env} {R : Room} {s : State} {m : MethodId} {args : Array Value} {below : List Frame} {meth : Method} {c : Code} {D : va_G} {cA : Nat → ClassId} {b n : Nat} (hn : sg_okN n) {x0 : Int32} {x1 : Int32} {h : HP} {Rz : Int32} (hc : sg_Cx p s m args c cX8_commonDivisor RX8 D cA) (hz : s.heap.size = b + n) (hr : meth.sig.returnType = some .int) (hlocks : meth.locks = false) (hml : c.maxLocals = 6) (hRf : 0 ≤ R.frames) (hRl : 0 ≤ R.locals) (hf : F_X8_commonDivisor x0 x1 = some Rz) (H : Heap) (locs : List Loc) (ls : Array Slot) (hw : sg_Wo D b cA n s.heap h H locs) (hl : lv_has ls 6 [(0, .int x0), (1, .int x1)]) : W p l e R s m args below meth c H locs 0 0 (sg_Qi below args s D b cA n (fun r u => r = Rz ∧ u = h)) (F0 m 0 ls []) := by
  have hx := hc.1
  have hb := hc.2.1
  have hn0 : 0 < n := sg_pos hn
  have L7 : ∀ (k : Nat) (x : (Int32 × Int32 × Int32)), F_X8_commonDivisor_L7 k x = some Rz → ∀ (H : Heap) (locs : List Loc) (ls : Array Slot), sg_Wo D b cA n s.heap h H locs → lv_has ls 6 [(2, .int x.1), (3, .int x.2.1), (4, .int x.2.2)] → W p l e R s m args below meth c H locs 0 0 (sg_Qi below args s D b cA n (fun r u => r = Rz ∧ u = h)) (F0 m 7 ls []) := by
    unfold F_X8_commonDivisor_L7
    refine lp_walk ?_
    intro rc7 hrc7 x hf H locs ls hw hl
    obtain ⟨x2, x3, x4⟩ := x
    dsimp only at hf hw hl
    refine lv_iload hx hb dX8_commonDivisor_7 (lv_at hl 2 rfl) ?_
    refine lv_bipush (v := 100) hx hb dX8_commonDivisor_9 (by decide) ?_
    refine lv_icmp_ge (tgt := 34) hx hb dX8_commonDivisor_11 (by decide) (fun c11 => ?_) (fun c11 => ?_)
    · have hf := if_of c11 hf
      refine lv_iload_n hx hb dX8_commonDivisor_34 rfl (lv_at hl 0 rfl) ?_
      cases hf
      exact sg_iret hc hw hz hn0 hr hlocks ⟨rfl, rfl⟩ dX8_commonDivisor_35
    · have hf := if_no c11 hf
      refine lv_iload_n hx hb dX8_commonDivisor_14 rfl (lv_at hl 1 rfl) ?_
      refine lv_if_eq (tgt := 34) hx hb dX8_commonDivisor_15 (by decide) (fun c15 => ?_) (fun c15 => ?_)
      · have hf := if_of c15 hf
        refine lv_iload_n hx hb dX8_commonDivisor_34 rfl (lv_at hl 0 rfl) ?_
        cases hf
        exact sg_iret hc hw hz hn0 hr hlocks ⟨rfl, rfl⟩ dX8_commonDivisor_35
      · have hf := if_no c15 hf
        refine lv_iload_n hx hb dX8_commonDivisor_18 rfl (lv_at hl 0 rfl) ?_
        refine lv_iload_n hx hb dX8_commonDivisor_19 rfl (lv_at hl 1 rfl) ?_
        obtain ⟨hg20, hf⟩ := gz_of hf
        refine lv_irem hx hb dX8_commonDivisor_20 hg20 ?_
        refine lv_topi (fun v21 e21 => ?_)
        have hf := nm_of e21 hf
        refine lv_istore (lv' := [(5, .int v21), (2, .int x2), (3, .int x3), (4, .int x4)]) hx hb dX8_commonDivisor_21 hl (by decide) rfl (fun ls hl => ?_)
        refine lv_iload_n hx hb dX8_commonDivisor_23 rfl (lv_at hl 2 rfl) ?_
        refine lv_istore_n (lv' := [(2, .int x3), (5, .int v21), (3, .int x3), (4, .int x4)]) hx hb dX8_commonDivisor_24 rfl hl (by decide) rfl (fun ls hl => ?_)
        refine lv_iload hx hb dX8_commonDivisor_25 (lv_at hl 1 rfl) ?_
        refine lv_istore_n (lv' := [(3, .int v21), (2, .int x3), (5, .int v21), (4, .int x4)]) hx hb dX8_commonDivisor_27 rfl hl (by decide) rfl (fun ls hl => ?_)
        refine lv_iinc (v := (x4 + 1)) (lv' := [(4, .int (x4 + 1)), (3, .int v21), (2, .int x3), (5, .int v21)]) hx hb dX8_commonDivisor_28 hl (k := 3) rfl rfl (by decide) rfl (fun ls hl => ?_)
        refine lv_goto (tgt := 7) hx hb dX8_commonDivisor_31 (by decide) ?_
        exact hrc7 _ hf _ _ _ hw (lv_sub hl [2, 1, 0] rfl)
  unfold F_X8_commonDivisor at hf
  refine lv_iload_n hx hb dX8_commonDivisor_0 rfl (lv_at hl 0 rfl) ?_
  refine lv_istore_n (lv' := [(2, .int x0), (0, .int x0), (1, .int x1)]) hx hb dX8_commonDivisor_1 rfl hl (by decide) rfl (fun ls hl => ?_)
  refine lv_iload_n hx hb dX8_commonDivisor_2 rfl (lv_at hl 2 rfl) ?_
  refine lv_istore_n (lv' := [(3, .int x1), (2, .int x0), (0, .int x0), (1, .int x1)]) hx hb dX8_commonDivisor_3 rfl hl (by decide) rfl (fun ls hl => ?_)
  refine lv_iconst (v := 0) hx hb dX8_commonDivisor_4 (by decide) ?_
  refine lv_istore (lv' := [(4, .int 0), (3, .int x1), (2, .int x0), (0, .int x0), (1, .int x1)]) hx hb dX8_commonDivisor_5 hl (by decide) rfl (fun ls hl => ?_)
  exact L7 _ _ hf _ _ _ hw (lv_sub hl [2, 1, 0] rfl)
theorem c_X8_commonDivisor {l : Launch} {D : va_G} {cA : Nat → ClassId} {b n : Nat} (hn : sg_okN n) {x0 : Int32} {x1 : Int32} {h : HP} {Rz : Int32} (hf : F_X8_commonDivisor x0 x1 = some Rz) : Met l yX8_commonDivisor (Cond.code yX8_commonDivisor cX8_commonDivisor 6 (some .int) :: sg_tbl) ({ frames := 0, cells := 0, slots := 0, locals := 0 } : Room) (va_Pc [.int x0, .int x1] (sg_Wd D b cA n h)) (va_Qi (fun r u => r = Rz ∧ u = h) (sg_Wd D b cA n) (sg_A b)) 0 0 (sg_A b) := by
  refine Met.ofW (cc := cX8_commonDivisor) (maxL := 6) (ret := (some .int)) (by decide) rfl ?_
  intro p e s m args below meth c s₁ B hml hv
  obtain ⟨rfl, hP, hK, hz, hY, hN⟩ := hv
  have hl := lv_entry [.int x0, .int x1] (n := 6) (Nat.le_of_ble_eq_true rfl)
  rw [lg_entry_eq]
  exact w_X8_commonDivisor hn ⟨B.exec, B.bytes, findClass_of_methodNamed B.named, fun w h => atoms_spec (ws := Cond.code yX8_commonDivisor cX8_commonDivisor 6 (some .int) :: sg_tbl) B.pre w (List.mem_cons_of_mem _ h), hK, hN⟩ hz B.returns B.notSynchronized hml (Nat.le_refl _) (Nat.le_refl _) hf _ _ _ ⟨hP, hY, va_S.rf⟩ hl
set_option maxHeartbeats 4000000 in
set_option maxRecDepth 100000 in
theorem w_X8_lowestTerms {p : Program} {l : Launch} {e : Env} {R : Room} {s : State} {m : MethodId} {args : Array Value} {below : List Frame} {meth : Method} {c : Code} {D : va_G} {cA : Nat → ClassId} {b n : Nat} (hn : sg_okN n) {x0 : Int32} {x1 : Int32} {x2 : Int32} {h : HP} {Rz : Int32} (hc : sg_Cx p s m args c cX8_lowestTerms RX8 D cA) (hz : s.heap.size = b + n) (hr : meth.sig.returnType = some .int) (hlocks : meth.locks = false) (hml : c.maxLocals = 4) (hRf : 1 ≤ R.frames) (hRl : 25 ≤ R.locals) (hf : F_X8_lowestTerms x0 x1 x2 = some Rz) (H : Heap) (locs : List Loc) (ls : Array Slot) (hw : sg_Wo D b cA n s.heap h H locs) (hl : lv_has ls 4 [(0, .int x0), (1, .int x1), (2, .int x2)]) : W p l e R s m args below meth c H locs 0 0 (sg_Qi below args s D b cA n (fun r u => r = Rz ∧ u = h)) (F0 m 0 ls []) := by
  have hx := hc.1
  have hb := hc.2.1
  have hn0 : 0 < n := sg_pos hn
  have J8 : ∀ (H : Heap) (locs : List Loc) (ls : Array Slot), F_X8_lowestTerms_J8 x2 = some Rz → sg_Wo D b cA n s.heap h H locs → lv_has ls 4 [(2, .int x2)] → W p l e R s m args below meth c H locs 0 0 (sg_Qi below args s D b cA n (fun r u => r = Rz ∧ u = h)) (F0 m 8 ls []) := by
    intro H locs ls hf hw hl
    unfold F_X8_lowestTerms_J8 at hf
    refine lv_iload_n hx hb dX8_lowestTerms_8 rfl (lv_at hl 0 rfl) ?_
    refine lv_if_ne (tgt := 16) hx hb dX8_lowestTerms_9 (by decide) (fun c9 => ?_) (fun c9 => ?_)
    · have hf := if_no c9 hf
      refine lv_iconst (v := 1) hx hb dX8_lowestTerms_16 (by decide) ?_
      cases hf
      exact sg_iret hc hw hz hn0 hr hlocks ⟨rfl, rfl⟩ dX8_lowestTerms_17
    · have hf := if_of c9 hf
      refine lv_iconst (v := 0) hx hb dX8_lowestTerms_12 (by decide) ?_
      refine lv_goto (tgt := 17) hx hb dX8_lowestTerms_13 (by decide) ?_
      cases hf
      exact sg_iret hc hw hz hn0 hr hlocks ⟨rfl, rfl⟩ dX8_lowestTerms_17
  have J47 : ∀ (x3 : Int32) (s0 : Int32) (H : Heap) (locs : List Loc) (ls : Array Slot), F_X8_lowestTerms_J47 x3 s0 = some Rz → sg_Wo D b cA n s.heap h H locs → lv_has ls 4 [(3, .int x3)] → W p l e R s m args below meth c H locs 0 0 (sg_Qi below args s D b cA n (fun r u => r = Rz ∧ u = h)) (F0 m 47 ls [.int s0]) := by
    intro x3 s0 H locs ls hf hw hl
    unfold F_X8_lowestTerms_J47 at hf
    refine lv_iload_n hx hb dX8_lowestTerms_47 rfl (lv_at hl 0 rfl) ?_
    obtain ⟨hg48, hf⟩ := gz_of hf
    refine lv_idiv hx hb dX8_lowestTerms_48 hg48 ?_
    cases hf
    exact sg_iret hc hw hz hn0 hr hlocks ⟨rfl, rfl⟩ dX8_lowestTerms_49
  unfold F_X8_lowestTerms at hf
  refine lv_iload_n hx hb dX8_lowestTerms_0 rfl (lv_at hl 0 rfl) ?_
  refine lv_if_eq (tgt := 8) hx hb dX8_lowestTerms_1 (by decide) (fun c1 => ?_) (fun c1 => ?_)
  · have hf := if_of c1 hf
    exact J8 _ _ _ hf hw (lv_sub hl [2] rfl)
  · have hf := if_no c1 hf
    refine lv_iload_n hx hb dX8_lowestTerms_4 rfl (lv_at hl 1 rfl) ?_
    refine lv_if_ne (tgt := 18) hx hb dX8_lowestTerms_5 (by decide) (fun c5 => ?_) (fun c5 => ?_)
    · have hf := if_no c5 hf
      refine lv_iload_n hx hb dX8_lowestTerms_18 rfl (lv_at hl 0 rfl) ?_
      refine lv_iload_n hx hb dX8_lowestTerms_19 rfl (lv_at hl 1 rfl) ?_
      obtain ⟨p20, hp20, hf⟩ := cl_of hf
      refine sg_si (rest := []) (c_X8_commonDivisor hn (h := h) hp20) hc hw hz hn0 hml hl cs_X8_309 ⟨⟨rfl, rfl⟩, Nat.le_trans (Nat.le_of_ble_eq_true rfl) hRf, Nat.le_trans (Nat.le_of_ble_eq_true rfl) hRl⟩ ⟨Nat.zero_le _, Nat.zero_le _⟩ rfl rfl (Nat.le_of_ble_eq_true rfl) dX8_lowestTerms_20 (fun r h1 H locs hp hw => ?_)
      obtain ⟨e1, e2⟩ := hp; subst r; subst h1
      refine lv_istore_n (lv' := [(3, .int p20), (0, .int x0), (1, .int x1), (2, .int x2)]) hx hb dX8_lowestTerms_23 rfl hl (by decide) rfl (fun ls hl => ?_)
      refine lv_iload_n hx hb dX8_lowestTerms_24 rfl (lv_at hl 0 rfl) ?_
      refine lv_if_ne (tgt := 38) hx hb dX8_lowestTerms_25 (by decide) (fun c25 => ?_) (fun c25 => ?_)
      · have hf := if_no c25 hf
        refine lv_iload_n hx hb dX8_lowestTerms_38 rfl (lv_at hl 3 rfl) ?_
        refine lv_if_ne (tgt := 46) hx hb dX8_lowestTerms_39 (by decide) (fun c39 => ?_) (fun c39 => ?_)
        · have hf := if_no c39 hf
          refine lv_iload_n hx hb dX8_lowestTerms_46 rfl (lv_at hl 2 rfl) ?_
          exact J47 p20 x1 _ _ _ hf hw (lv_sub hl [0] rfl)
        · have hf := if_of c39 hf
          refine lv_iload_n hx hb dX8_lowestTerms_42 rfl (lv_at hl 1 rfl) ?_
          refine lv_goto (tgt := 47) hx hb dX8_lowestTerms_43 (by decide) ?_
          exact J47 p20 x0 _ _ _ hf hw (lv_sub hl [0] rfl)
      · have hf := if_of c25 hf
        refine lv_iload_n hx hb dX8_lowestTerms_28 rfl (lv_at hl 3 rfl) ?_
        refine lv_if_ne (tgt := 36) hx hb dX8_lowestTerms_29 (by decide) (fun c29 => ?_) (fun c29 => ?_)
        · have hf := if_no c29 hf
          refine lv_iload_n hx hb dX8_lowestTerms_36 rfl (lv_at hl 2 rfl) ?_
          cases hf
          exact sg_iret hc hw hz hn0 hr hlocks ⟨rfl, rfl⟩ dX8_lowestTerms_37
        · have hf := if_of c29 hf
          refine lv_iload_n hx hb dX8_lowestTerms_32 rfl (lv_at hl 1 rfl) ?_
          refine lv_goto (tgt := 37) hx hb dX8_lowestTerms_33 (by decide) ?_
          cases hf
          exact sg_iret hc hw hz hn0 hr hlocks ⟨rfl, rfl⟩ dX8_lowestTerms_37
    · have hf := if_of c5 hf
      exact J8 _ _ _ hf hw (lv_sub hl [2] rfl)
theorem c_X8_lowestTerms {l : Launch} {D : va_G} {cA : Nat → ClassId} {b n : Nat} (hn : sg_okN n) {x0 : Int32} {x1 : Int32} {x2 : Int32} {h : HP} {Rz : Int32} (hf : F_X8_lowestTerms x0 x1 x2 = some Rz) : Met l yX8_lowestTerms (Cond.code yX8_lowestTerms cX8_lowestTerms 4 (some .int) :: sg_tbl) ({ frames := 1, cells := 0, slots := 0, locals := 25 } : Room) (va_Pc [.int x0, .int x1, .int x2] (sg_Wd D b cA n h)) (va_Qi (fun r u => r = Rz ∧ u = h) (sg_Wd D b cA n) (sg_A b)) 0 0 (sg_A b) := by
  refine Met.ofW (cc := cX8_lowestTerms) (maxL := 4) (ret := (some .int)) (by decide) rfl ?_
  intro p e s m args below meth c s₁ B hml hv
  obtain ⟨rfl, hP, hK, hz, hY, hN⟩ := hv
  have hl := lv_entry [.int x0, .int x1, .int x2] (n := 4) (Nat.le_of_ble_eq_true rfl)
  rw [lg_entry_eq]
  exact w_X8_lowestTerms hn ⟨B.exec, B.bytes, findClass_of_methodNamed B.named, fun w h => atoms_spec (ws := Cond.code yX8_lowestTerms cX8_lowestTerms 4 (some .int) :: sg_tbl) B.pre w (List.mem_cons_of_mem _ h), hK, hN⟩ hz B.returns B.notSynchronized hml (Nat.le_refl _) (Nat.le_refl _) hf _ _ _ ⟨hP, hY, va_S.rf⟩ hl
set_option maxHeartbeats 4000000 in
set_option maxRecDepth 100000 in
theorem w_X8_share {p : Program} {l : Launch} {e : Env} {R : Room} {s : State} {m : MethodId} {args : Array Value} {below : List Frame} {meth : Method} {c : Code} {D : va_G} {cA : Nat → ClassId} {b n : Nat} (hn : sg_okN n) {a : Nat} {x1 : Int32} {x2 : Int32} {h : HP} {Rz : Int32} (hc : sg_Cx p s m args c cX8_share RX8 D cA) (hz : s.heap.size = b + n) (hr : meth.sig.returnType = some .int) (hlocks : meth.locks = false) (hml : c.maxLocals = 5) (hRf : 3 ≤ R.frames) (hRl : 63 ≤ R.locals) (ha_a : a < n) (hT_a : sg_T a = 8) (hf : F_X8_share a x1 x2 h = some Rz) (H : Heap) (locs : List Loc) (ls : Array Slot) (hw : sg_Wo D b cA n s.heap h H locs) (hl : lv_has ls 5 [(0, .ref (b + a)), (1, .int x1), (2, .int x2)]) : W p l e R s m args below meth c H locs 0 0 (sg_Qi below args s D b cA n (fun r u => r = Rz ∧ u = h)) (F0 m 0 ls []) := by
  have hx := hc.1
  have hb := hc.2.1
  have hn0 : 0 < n := sg_pos hn
  have J57 : ∀ (x3 : Int32) (H : Heap) (locs : List Loc) (ls : Array Slot), F_X8_share_J57 a x1 x2 x3 h = some Rz → sg_Wo D b cA n s.heap h H locs → lv_has ls 5 [(0, .ref (b + a)), (1, .int x1), (2, .int x2), (3, .int x3)] → W p l e R s m args below meth c H locs 0 0 (sg_Qi below args s D b cA n (fun r u => r = Rz ∧ u = h)) (F0 m 57 ls []) := by
    intro x3 H locs ls hf hw hl
    unfold F_X8_share_J57 at hf
    refine lv_aload_n hx hb dX8_share_57 rfl (lv_at hl 0 rfl) ?_
    obtain ⟨hF58, hT58, ha58⟩ := ft_8_13 hn ha_a hT_a
    refine sg_getf (q := (a + 81)) hc hw ha_a hT_a fr_8_13 (by decide) k_530 dX8_share_58 hF58 ?_
    refine lv_iload_n hx hb dX8_share_61 rfl (lv_at hl 1 rfl) ?_
    obtain ⟨p62, hp62, hf⟩ := cl_of hf
    refine sg_vi (rest := []) (c_X7_acres hn ha58 hT58 hp62) hc hw hz hml hl ha58 hT58 (by decide) rfl cv_X8_158 ⟨⟨rfl, rfl⟩, Nat.le_trans (Nat.le_of_ble_eq_true rfl) hRf, Nat.le_trans (Nat.le_of_ble_eq_true rfl) hRl⟩ ⟨Nat.zero_le _, Nat.zero_le _⟩ rfl rfl (Nat.le_of_ble_eq_true rfl) dX8_share_62 (fun r h1 H locs hp hw => ?_)
    obtain ⟨e1, e2⟩ := hp; subst r; subst h1
    refine lv_iload_n hx hb dX8_share_65 rfl (lv_at hl 3 rfl) ?_
    refine lv_iload_n hx hb dX8_share_66 rfl (lv_at hl 2 rfl) ?_
    obtain ⟨p67, hp67, hf⟩ := cl_of hf
    refine sg_si (rest := []) (c_X8_lowestTerms hn (h := h) hp67) hc hw hz hn0 hml hl cs_X8_173 ⟨⟨rfl, rfl⟩, Nat.le_trans (Nat.le_of_ble_eq_true rfl) hRf, Nat.le_trans (Nat.le_of_ble_eq_true rfl) hRl⟩ ⟨Nat.zero_le _, Nat.zero_le _⟩ rfl rfl (Nat.le_of_ble_eq_true rfl) dX8_share_67 (fun r h1 H locs hp hw => ?_)
    obtain ⟨e1, e2⟩ := hp; subst r; subst h1
    cases hf
    exact sg_iret hc hw hz hn0 hr hlocks ⟨rfl, rfl⟩ dX8_share_70
  have L27 : ∀ (k : Nat) (x : (Int32 × Int32)), F_X8_share_L27 a x1 x2 h k x = some Rz → ∀ (H : Heap) (locs : List Loc) (ls : Array Slot), sg_Wo D b cA n s.heap h H locs → lv_has ls 5 [(0, .ref (b + a)), (1, .int x1), (2, .int x2), (3, .int x.1), (4, .int x.2)] → W p l e R s m args below meth c H locs 0 0 (sg_Qi below args s D b cA n (fun r u => r = Rz ∧ u = h)) (F0 m 27 ls []) := by
    unfold F_X8_share_L27
    refine lp_walk ?_
    intro rc27 hrc27 x hf H locs ls hw hl
    obtain ⟨x3, x4⟩ := x
    dsimp only at hf hw hl
    refine lv_iload hx hb dX8_share_27 (lv_at hl 4 rfl) ?_
    refine lv_aload_n hx hb dX8_share_29 rfl (lv_at hl 0 rfl) ?_
    obtain ⟨hF30, hT30, ha30⟩ := ft_8_3 hn ha_a hT_a
    refine sg_getf (q := (a + 15)) hc hw ha_a hT_a fr_8_3 (by decide) k_520 dX8_share_30 hF30 ?_
    refine sg_geti hc hw ha30 hT30 fi_1_2 k_49 dX8_share_33 ?_
    refine lv_icmp_ge (tgt := 57) hx hb dX8_share_36 (by decide) (fun c36 => ?_) (fun c36 => ?_)
    · have hf := if_of c36 hf
      exact J57 x3 _ _ _ hf hw (lv_sub hl [0, 1, 2, 3] rfl)
    · have hf := if_no c36 hf
      refine lv_iload_n hx hb dX8_share_39 rfl (lv_at hl 3 rfl) ?_
      refine lv_aload_n hx hb dX8_share_40 rfl (lv_at hl 0 rfl) ?_
      obtain ⟨hF41, hT41, ha41⟩ := ft_8_13 hn ha_a hT_a
      refine sg_getf (q := (a + 81)) hc hw ha_a hT_a fr_8_13 (by decide) k_530 dX8_share_41 hF41 ?_
      refine lv_iload hx hb dX8_share_44 (lv_at hl 4 rfl) ?_
      obtain ⟨p46, hp46, hf⟩ := cl_of hf
      refine sg_vi (rest := [.int x3]) (c_X7_acres hn ha41 hT41 hp46) hc hw hz hml hl ha41 hT41 (by decide) rfl cv_X8_158 ⟨⟨rfl, rfl⟩, Nat.le_trans (Nat.le_of_ble_eq_true rfl) hRf, Nat.le_trans (Nat.le_of_ble_eq_true rfl) hRl⟩ ⟨Nat.zero_le _, Nat.zero_le _⟩ rfl rfl (Nat.le_of_ble_eq_true rfl) dX8_share_46 (fun r h1 H locs hp hw => ?_)
      obtain ⟨e1, e2⟩ := hp; subst r; subst h1
      refine lv_iadd hx hb dX8_share_49 ?_
      refine lv_topi (fun v50 e50 => ?_)
      have hf := nm_of e50 hf
      refine lv_istore_n (lv' := [(3, .int v50), (0, .ref (b + a)), (1, .int x1), (2, .int x2), (4, .int x4)]) hx hb dX8_share_50 rfl hl (by decide) rfl (fun ls hl => ?_)
      refine lv_iinc (v := (x4 + 1)) (lv' := [(4, .int (x4 + 1)), (3, .int v50), (0, .ref (b + a)), (1, .int x1), (2, .int x2)]) hx hb dX8_share_51 hl (k := 4) rfl rfl (by decide) rfl (fun ls hl => ?_)
      refine lv_goto (tgt := 27) hx hb dX8_share_54 (by decide) ?_
      exact hrc27 _ hf _ _ _ hw (lv_sub hl [2, 3, 4, 1, 0] rfl)
  unfold F_X8_share at hf
  refine lv_aload_n hx hb dX8_share_0 rfl (lv_at hl 0 rfl) ?_
  obtain ⟨hF1, hT1, ha1⟩ := ft_8_3 hn ha_a hT_a
  refine sg_getf (q := (a + 15)) hc hw ha_a hT_a fr_8_3 (by decide) k_520 dX8_share_1 hF1 ?_
  refine lv_iload_n hx hb dX8_share_4 rfl (lv_at hl 1 rfl) ?_
  obtain ⟨p5, hp5, hf⟩ := cl_of hf
  refine sg_vi (rest := []) (c_X1_hasBearer hn ha1 hT1 hp5) hc hw hz hml hl ha1 hT1 (by decide) rfl cv_X8_146 ⟨⟨rfl, rfl⟩, Nat.le_trans (Nat.le_of_ble_eq_true rfl) hRf, Nat.le_trans (Nat.le_of_ble_eq_true rfl) hRl⟩ ⟨Nat.zero_le _, Nat.zero_le _⟩ rfl rfl (Nat.le_of_ble_eq_true rfl) dX8_share_5 (fun r h1 H locs hp hw => ?_)
  obtain ⟨⟨e1, e2⟩, hb5⟩ := hp; subst r; subst h1
  refine lv_if_eq (tgt := 20) hx hb dX8_share_8 (by decide) (fun c8 => ?_) (fun c8 => ?_)
  · have hf := if_of c8 hf
    refine lv_iconst (v := (-1)) hx hb dX8_share_20 (by decide) ?_
    cases hf
    exact sg_iret hc hw hz hn0 hr hlocks ⟨rfl, rfl⟩ dX8_share_21
  · have hf := if_no c8 hf
    refine lv_iload_n hx hb dX8_share_11 rfl (lv_at hl 2 rfl) ?_
    refine lv_iconst (v := 0) hx hb dX8_share_12 (by decide) ?_
    refine lv_iconst (v := 1) hx hb dX8_share_13 (by decide) ?_
    obtain ⟨p14, hp14, hf⟩ := cl_of hf
    refine sg_si (rest := []) (c_X8_within hn (h := h) hp14) hc hw hz hn0 hml hl cs_X8_121 ⟨⟨rfl, rfl⟩, Nat.le_trans (Nat.le_of_ble_eq_true rfl) hRf, Nat.le_trans (Nat.le_of_ble_eq_true rfl) hRl⟩ ⟨Nat.zero_le _, Nat.zero_le _⟩ rfl rfl (Nat.le_of_ble_eq_true rfl) dX8_share_14 (fun r h1 H locs hp hw => ?_)
    obtain ⟨⟨e1, e2⟩, hb14⟩ := hp; subst r; subst h1
    refine lv_if_ne (tgt := 22) hx hb dX8_share_17 (by decide) (fun c17 => ?_) (fun c17 => ?_)
    · have hf := if_no c17 hf
      refine lv_iconst (v := 0) hx hb dX8_share_22 (by decide) ?_
      refine lv_istore_n (lv' := [(3, .int 0), (0, .ref (b + a)), (1, .int x1), (2, .int x2)]) hx hb dX8_share_23 rfl hl (by decide) rfl (fun ls hl => ?_)
      refine lv_iconst (v := 0) hx hb dX8_share_24 (by decide) ?_
      refine lv_istore (lv' := [(4, .int 0), (3, .int 0), (0, .ref (b + a)), (1, .int x1), (2, .int x2)]) hx hb dX8_share_25 hl (by decide) rfl (fun ls hl => ?_)
      exact L27 _ _ hf _ _ _ hw (lv_sub hl [2, 3, 4, 1, 0] rfl)
    · have hf := if_of c17 hf
      refine lv_iconst (v := (-1)) hx hb dX8_share_20 (by decide) ?_
      cases hf
      exact sg_iret hc hw hz hn0 hr hlocks ⟨rfl, rfl⟩ dX8_share_21
theorem c_X8_share {l : Launch} {D : va_G} {cA : Nat → ClassId} {b n : Nat} (hn : sg_okN n) {a : Nat} {x1 : Int32} {x2 : Int32} (ha_a : a < n) (hT_a : sg_T a = 8) {h : HP} {Rz : Int32} (hf : F_X8_share a x1 x2 h = some Rz) : Met l yX8_share (Cond.code yX8_share cX8_share 5 (some .int) :: sg_tbl) ({ frames := 3, cells := 0, slots := 0, locals := 63 } : Room) (va_Pc [.ref (b + a), .int x1, .int x2] (sg_Wd D b cA n h)) (va_Qi (fun r u => r = Rz ∧ u = h) (sg_Wd D b cA n) (sg_A b)) 0 0 (sg_A b) := by
  refine Met.ofW (cc := cX8_share) (maxL := 5) (ret := (some .int)) (by decide) rfl ?_
  intro p e s m args below meth c s₁ B hml hv
  obtain ⟨rfl, hP, hK, hz, hY, hN⟩ := hv
  have hl := lv_entry [.ref (b + a), .int x1, .int x2] (n := 5) (Nat.le_of_ble_eq_true rfl)
  rw [lg_entry_eq]
  exact w_X8_share hn ⟨B.exec, B.bytes, findClass_of_methodNamed B.named, fun w h => atoms_spec (ws := Cond.code yX8_share cX8_share 5 (some .int) :: sg_tbl) B.pre w (List.mem_cons_of_mem _ h), hK, hN⟩ hz B.returns B.notSynchronized hml (Nat.le_refl _) (Nat.le_refl _) ha_a hT_a hf _ _ _ ⟨hP, hY, va_S.rf⟩ hl
set_option maxHeartbeats 4000000 in
set_option maxRecDepth 100000 in
theorem w_X8_turn {p : Program} {l : Launch} {e : Env} {R : Room} {s : State} {m : MethodId} {args : Array Value} {below : List Frame} {meth : Method} {c : Code} {D : va_G} {cA : Nat → ClassId} {b n : Nat} (hn : sg_okN n) {a : Nat} {x1 : Int32} {x2 : Int32} {h : HP} {Rz : Int32} (hc : sg_Cx p s m args c cX8_turn RX8 D cA) (hz : s.heap.size = b + n) (hr : meth.sig.returnType = some .int) (hlocks : meth.locks = false) (hml : c.maxLocals = 3) (hRf : 1 ≤ R.frames) (hRl : 21 ≤ R.locals) (ha_a : a < n) (hT_a : sg_T a = 8) (hf : F_X8_turn a x1 x2 h = some Rz) (H : Heap) (locs : List Loc) (ls : Array Slot) (hw : sg_Wo D b cA n s.heap h H locs) (hl : lv_has ls 3 [(0, .ref (b + a)), (1, .int x1), (2, .int x2)]) : W p l e R s m args below meth c H locs 0 0 (sg_Qi below args s D b cA n (fun r u => r = Rz ∧ u = h)) (F0 m 0 ls []) := by
  have hx := hc.1
  have hb := hc.2.1
  have hn0 : 0 < n := sg_pos hn
  unfold F_X8_turn at hf
  refine lv_aload_n hx hb dX8_turn_0 rfl (lv_at hl 0 rfl) ?_
  obtain ⟨hF1, hT1, ha1⟩ := ft_8_5 hn ha_a hT_a
  refine sg_getf (q := (a + 29)) hc hw ha_a hT_a fr_8_5 (by decide) k_522 dX8_turn_1 hF1 ?_
  refine lv_iload_n hx hb dX8_turn_4 rfl (lv_at hl 1 rfl) ?_
  obtain ⟨p5, hp5, hf⟩ := cl_of hf
  refine sg_vi (rest := []) (c_X6_has hn ha1 hT1 hp5) hc hw hz hml hl ha1 hT1 (by decide) rfl cv_X8_177 ⟨⟨rfl, rfl⟩, Nat.le_trans (Nat.le_of_ble_eq_true rfl) hRf, Nat.le_trans (Nat.le_of_ble_eq_true rfl) hRl⟩ ⟨Nat.zero_le _, Nat.zero_le _⟩ rfl rfl (Nat.le_of_ble_eq_true rfl) dX8_turn_5 (fun r h1 H locs hp hw => ?_)
  obtain ⟨⟨e1, e2⟩, hb5⟩ := hp; subst r; subst h1
  refine lv_if_ne (tgt := 13) hx hb dX8_turn_8 (by decide) (fun c8 => ?_) (fun c8 => ?_)
  · have hf := if_no c8 hf
    refine lv_iload_n hx hb dX8_turn_13 rfl (lv_at hl 2 rfl) ?_
    by_cases hk14_0 : x2 = 0
    · have hf := if_of hk14_0 hf
      refine lv_tableIn (off := 26) (tgt := 40) hx hb dX8_turn_14 (by rw [hk14_0]; decide) (by rw [hk14_0]; decide) (by rw [hk14_0]; decide) (by decide) ?_
      refine lv_aload_n hx hb dX8_turn_40 rfl (lv_at hl 0 rfl) ?_
      refine sg_getf (q := (a + 29)) hc hw ha_a hT_a fr_8_5 (by decide) k_522 dX8_turn_41 (ft_8_5 hn ha_a hT_a).1 ?_
      obtain ⟨hF44, hT44, ha44, hN44⟩ := ft_6_1 hn ha1 hT1
      refine sg_getf (q := (a + 30)) hc hw ha1 hT1 fr_6_1 (by decide) k_107 dX8_turn_44 hF44 ?_
      refine lv_iload_n hx hb dX8_turn_47 rfl (lv_at hl 1 rfl) ?_
      obtain ⟨hg48, hf⟩ := gd_of hf
      refine sg_ild hc hw ha44 hT44 hN44 hg48 dX8_turn_48 ?_
      cases hf
      exact sg_iret hc hw hz hn0 hr hlocks ⟨rfl, rfl⟩ dX8_turn_49
    · have hf := if_no hk14_0 hf
      by_cases hk14_1 : x2 = 1
      · have hf := if_of hk14_1 hf
        refine lv_tableIn (off := 36) (tgt := 50) hx hb dX8_turn_14 (by rw [hk14_1]; decide) (by rw [hk14_1]; decide) (by rw [hk14_1]; decide) (by decide) ?_
        refine lv_aload_n hx hb dX8_turn_50 rfl (lv_at hl 0 rfl) ?_
        refine sg_getf (q := (a + 29)) hc hw ha_a hT_a fr_8_5 (by decide) k_522 dX8_turn_51 (ft_8_5 hn ha_a hT_a).1 ?_
        obtain ⟨hF54, hT54, ha54, hN54⟩ := ft_6_2 hn ha1 hT1
        refine sg_getf (q := (a + 31)) hc hw ha1 hT1 fr_6_2 (by decide) k_109 dX8_turn_54 hF54 ?_
        refine lv_iload_n hx hb dX8_turn_57 rfl (lv_at hl 1 rfl) ?_
        obtain ⟨hg58, hf⟩ := gd_of hf
        refine sg_ild hc hw ha54 hT54 hN54 hg58 dX8_turn_58 ?_
        cases hf
        exact sg_iret hc hw hz hn0 hr hlocks ⟨rfl, rfl⟩ dX8_turn_59
      · have hf := if_no hk14_1 hf
        by_cases hk14_2 : x2 = 2
        · have hf := if_of hk14_2 hf
          refine lv_tableIn (off := 46) (tgt := 60) hx hb dX8_turn_14 (by rw [hk14_2]; decide) (by rw [hk14_2]; decide) (by rw [hk14_2]; decide) (by decide) ?_
          refine lv_aload_n hx hb dX8_turn_60 rfl (lv_at hl 0 rfl) ?_
          refine sg_getf (q := (a + 29)) hc hw ha_a hT_a fr_8_5 (by decide) k_522 dX8_turn_61 (ft_8_5 hn ha_a hT_a).1 ?_
          obtain ⟨hF64, hT64, ha64, hN64⟩ := ft_6_3 hn ha1 hT1
          refine sg_getf (q := (a + 32)) hc hw ha1 hT1 fr_6_3 (by decide) k_111 dX8_turn_64 hF64 ?_
          refine lv_iload_n hx hb dX8_turn_67 rfl (lv_at hl 1 rfl) ?_
          obtain ⟨hg68, hf⟩ := gd_of hf
          refine sg_ild hc hw ha64 hT64 hN64 hg68 dX8_turn_68 ?_
          cases hf
          exact sg_iret hc hw hz hn0 hr hlocks ⟨rfl, rfl⟩ dX8_turn_69
        · have hf := if_no hk14_2 hf
          refine lv_tableOut (tgt := 70) hx hb dX8_turn_14 (by have e0 := sg_ne hk14_0 (k := 0) (by decide); have e1 := sg_ne hk14_1 (k := 1) (by decide); have e2 := sg_ne hk14_2 (k := 2) (by decide); omega) (by decide) ?_
          refine lv_iconst (v := (-1)) hx hb dX8_turn_70 (by decide) ?_
          cases hf
          exact sg_iret hc hw hz hn0 hr hlocks ⟨rfl, rfl⟩ dX8_turn_71
  · have hf := if_of c8 hf
    refine lv_iconst (v := (-1)) hx hb dX8_turn_11 (by decide) ?_
    cases hf
    exact sg_iret hc hw hz hn0 hr hlocks ⟨rfl, rfl⟩ dX8_turn_12
theorem c_X8_turn {l : Launch} {D : va_G} {cA : Nat → ClassId} {b n : Nat} (hn : sg_okN n) {a : Nat} {x1 : Int32} {x2 : Int32} (ha_a : a < n) (hT_a : sg_T a = 8) {h : HP} {Rz : Int32} (hf : F_X8_turn a x1 x2 h = some Rz) : Met l yX8_turn (Cond.code yX8_turn cX8_turn 3 (some .int) :: sg_tbl) ({ frames := 1, cells := 0, slots := 0, locals := 21 } : Room) (va_Pc [.ref (b + a), .int x1, .int x2] (sg_Wd D b cA n h)) (va_Qi (fun r u => r = Rz ∧ u = h) (sg_Wd D b cA n) (sg_A b)) 0 0 (sg_A b) := by
  refine Met.ofW (cc := cX8_turn) (maxL := 3) (ret := (some .int)) (by decide) rfl ?_
  intro p e s m args below meth c s₁ B hml hv
  obtain ⟨rfl, hP, hK, hz, hY, hN⟩ := hv
  have hl := lv_entry [.ref (b + a), .int x1, .int x2] (n := 3) (Nat.le_of_ble_eq_true rfl)
  rw [lg_entry_eq]
  exact w_X8_turn hn ⟨B.exec, B.bytes, findClass_of_methodNamed B.named, fun w h => atoms_spec (ws := Cond.code yX8_turn cX8_turn 3 (some .int) :: sg_tbl) B.pre w (List.mem_cons_of_mem _ h), hK, hN⟩ hz B.returns B.notSynchronized hml (Nat.le_refl _) (Nat.le_refl _) ha_a hT_a hf _ _ _ ⟨hP, hY, va_S.rf⟩ hl
set_option maxHeartbeats 4000000 in
set_option maxRecDepth 100000 in
theorem w_X8_bear {p : Program} {l : Launch} {e : Env} {R : Room} {s : State} {m : MethodId} {args : Array Value} {below : List Frame} {meth : Method} {c : Code} {D : va_G} {cA : Nat → ClassId} {b n : Nat} (hn : sg_okN n) {a : Nat} {x1 : Int32} {x2 : Int32} {x3 : Int32} {h : HP} {Rz : Int32 × HP} (hc : sg_Cx p s m args c cX8_bear RX8 D cA) (hz : s.heap.size = b + n) (hr : meth.sig.returnType = some .int) (hlocks : meth.locks = false) (hml : c.maxLocals = 4) (hRf : 5 ≤ R.frames) (hRl : 142 ≤ R.locals) (ha_a : a < n) (hT_a : sg_T a = 8) (hf : F_X8_bear a x1 x2 x3 h = some Rz) (H : Heap) (locs : List Loc) (ls : Array Slot) (hw : sg_Wo D b cA n s.heap h H locs) (hl : lv_has ls 4 [(0, .ref (b + a)), (1, .int x1), (2, .int x2), (3, .int x3)]) : W p l e R s m args below meth c H locs 0 0 (sg_Qi below args s D b cA n (fun r u => r = Rz.1 ∧ u = Rz.2)) (F0 m 0 ls []) := by
  have hx := hc.1
  have hb := hc.2.1
  have hn0 : 0 < n := sg_pos hn
  unfold F_X8_bear at hf
  refine lv_aload_n hx hb dX8_bear_0 rfl (lv_at hl 0 rfl) ?_
  obtain ⟨hF1, hT1, ha1⟩ := ft_8_3 hn ha_a hT_a
  refine sg_getf (q := (a + 15)) hc hw ha_a hT_a fr_8_3 (by decide) k_520 dX8_bear_1 hF1 ?_
  refine lv_iload_n hx hb dX8_bear_4 rfl (lv_at hl 1 rfl) ?_
  obtain ⟨p5, hp5, hf⟩ := cl_of hf
  refine sg_vi (rest := []) (c_X1_hasBearer hn ha1 hT1 hp5) hc hw hz hml hl ha1 hT1 (by decide) rfl cv_X8_146 ⟨⟨rfl, rfl⟩, Nat.le_trans (Nat.le_of_ble_eq_true rfl) hRf, Nat.le_trans (Nat.le_of_ble_eq_true rfl) hRl⟩ ⟨Nat.zero_le _, Nat.zero_le _⟩ rfl rfl (Nat.le_of_ble_eq_true rfl) dX8_bear_5 (fun r h1 H locs hp hw => ?_)
  obtain ⟨⟨e1, e2⟩, hb5⟩ := hp; subst r; subst h1
  refine lv_if_eq (tgt := 31) hx hb dX8_bear_8 (by decide) (fun c8 => ?_) (fun c8 => ?_)
  · have hf := if_of c8 hf
    refine lv_iconst (v := (-1)) hx hb dX8_bear_31 (by decide) ?_
    cases hf
    exact sg_iret hc hw hz hn0 hr hlocks ⟨rfl, rfl⟩ dX8_bear_32
  · have hf := if_no c8 hf
    refine lv_iload_n hx hb dX8_bear_11 rfl (lv_at hl 2 rfl) ?_
    refine lv_iconst (v := 0) hx hb dX8_bear_12 (by decide) ?_
    refine lv_bipush (v := 119) hx hb dX8_bear_13 (by decide) ?_
    obtain ⟨p15, hp15, hf⟩ := cl_of hf
    refine sg_si (rest := []) (c_X8_within hn (h := h) hp15) hc hw hz hn0 hml hl cs_X8_121 ⟨⟨rfl, rfl⟩, Nat.le_trans (Nat.le_of_ble_eq_true rfl) hRf, Nat.le_trans (Nat.le_of_ble_eq_true rfl) hRl⟩ ⟨Nat.zero_le _, Nat.zero_le _⟩ rfl rfl (Nat.le_of_ble_eq_true rfl) dX8_bear_15 (fun r h1 H locs hp hw => ?_)
    obtain ⟨⟨e1, e2⟩, hb15⟩ := hp; subst r; subst h1
    refine lv_if_eq (tgt := 31) hx hb dX8_bear_18 (by decide) (fun c18 => ?_) (fun c18 => ?_)
    · have hf := if_of c18 hf
      refine lv_iconst (v := (-1)) hx hb dX8_bear_31 (by decide) ?_
      cases hf
      exact sg_iret hc hw hz hn0 hr hlocks ⟨rfl, rfl⟩ dX8_bear_32
    · have hf := if_no c18 hf
      refine lv_iload_n hx hb dX8_bear_21 rfl (lv_at hl 3 rfl) ?_
      refine lv_iload_n hx hb dX8_bear_22 rfl (lv_at hl 2 rfl) ?_
      refine lv_bipush (v := 119) hx hb dX8_bear_23 (by decide) ?_
      obtain ⟨p25, hp25, hf⟩ := cl_of hf
      refine sg_si (rest := []) (c_X8_within hn (h := h) hp25) hc hw hz hn0 hml hl cs_X8_121 ⟨⟨rfl, rfl⟩, Nat.le_trans (Nat.le_of_ble_eq_true rfl) hRf, Nat.le_trans (Nat.le_of_ble_eq_true rfl) hRl⟩ ⟨Nat.zero_le _, Nat.zero_le _⟩ rfl rfl (Nat.le_of_ble_eq_true rfl) dX8_bear_25 (fun r h1 H locs hp hw => ?_)
      obtain ⟨⟨e1, e2⟩, hb25⟩ := hp; subst r; subst h1
      refine lv_if_ne (tgt := 33) hx hb dX8_bear_28 (by decide) (fun c28 => ?_) (fun c28 => ?_)
      · have hf := if_no c28 hf
        refine lv_aload_n hx hb dX8_bear_33 rfl (lv_at hl 0 rfl) ?_
        obtain ⟨hF34, hT34, ha34⟩ := ft_8_5 hn ha_a hT_a
        refine sg_getf (q := (a + 29)) hc hw ha_a hT_a fr_8_5 (by decide) k_522 dX8_bear_34 hF34 ?_
        obtain ⟨p37, hp37, hf⟩ := cl_of hf
        refine sg_vi (rest := []) (c_X6_isFull hn ha34 hT34 hp37) hc hw hz hml hl ha34 hT34 (by decide) rfl cv_X8_189 ⟨⟨rfl, rfl⟩, Nat.le_trans (Nat.le_of_ble_eq_true rfl) hRf, Nat.le_trans (Nat.le_of_ble_eq_true rfl) hRl⟩ ⟨Nat.zero_le _, Nat.zero_le _⟩ rfl rfl (Nat.le_of_ble_eq_true rfl) dX8_bear_37 (fun r h1 H locs hp hw => ?_)
        obtain ⟨⟨e1, e2⟩, hb37⟩ := hp; subst r; subst h1
        refine lv_if_eq (tgt := 46) hx hb dX8_bear_40 (by decide) (fun c40 => ?_) (fun c40 => ?_)
        · have hf := if_of c40 hf
          refine lv_aload_n hx hb dX8_bear_46 rfl (lv_at hl 0 rfl) ?_
          obtain ⟨hF47, hT47, ha47⟩ := ft_8_6 hn ha_a hT_a
          refine sg_getf (q := (a + 33)) hc hw ha_a hT_a fr_8_6 (by decide) k_523 dX8_bear_47 hF47 ?_
          refine lv_aload_n hx hb dX8_bear_50 rfl (lv_at hl 0 rfl) ?_
          refine sg_getf (q := (a + 29)) hc hw ha_a hT_a fr_8_5 (by decide) k_522 dX8_bear_51 (ft_8_5 hn ha_a hT_a).1 ?_
          obtain ⟨p54, hp54, hf⟩ := cl_of hf
          refine sg_vv (rest := []) (c_X3_push hn ha47 hT47 ha34 hT34 hp54) hc hw hz hml hl ha47 hT47 (by decide) rfl cv_X8_193 ⟨⟨rfl, rfl⟩, Nat.le_trans (Nat.le_of_ble_eq_true rfl) hRf, Nat.le_trans (Nat.le_of_ble_eq_true rfl) hRl⟩ ⟨Nat.zero_le _, Nat.zero_le _⟩ rfl rfl (Nat.le_of_ble_eq_true rfl) dX8_bear_54 (fun h1 H locs hp hw => ?_)
          subst h1
          refine lv_aload_n hx hb dX8_bear_57 rfl (lv_at hl 0 rfl) ?_
          refine sg_getf (q := (a + 29)) hc hw ha_a hT_a fr_8_5 (by decide) k_522 dX8_bear_58 (ft_8_5 hn ha_a hT_a).1 ?_
          refine lv_iload_n hx hb dX8_bear_61 rfl (lv_at hl 1 rfl) ?_
          refine lv_iload_n hx hb dX8_bear_62 rfl (lv_at hl 2 rfl) ?_
          refine lv_iload_n hx hb dX8_bear_63 rfl (lv_at hl 3 rfl) ?_
          obtain ⟨p64, hp64, hf⟩ := cl_of hf
          refine sg_vi (rest := []) (c_X6_add hn ha34 hT34 hp64) hc hw hz hml hl ha34 hT34 (by decide) rfl cv_X8_197 ⟨⟨rfl, rfl⟩, Nat.le_trans (Nat.le_of_ble_eq_true rfl) hRf, Nat.le_trans (Nat.le_of_ble_eq_true rfl) hRl⟩ ⟨Nat.zero_le _, Nat.zero_le _⟩ rfl rfl (Nat.le_of_ble_eq_true rfl) dX8_bear_64 (fun r h1 H locs hp hw => ?_)
          obtain ⟨⟨e1, e2⟩, hb64⟩ := hp; subst r; subst h1
          refine lv_pop hx hb dX8_bear_67 rfl ?_
          refine lv_aload_n hx hb dX8_bear_68 rfl (lv_at hl 0 rfl) ?_
          obtain ⟨p69, hp69, hf⟩ := cl_of hf
          refine sg_vv (rest := []) (c_X8_settle hn ha_a hT_a hp69) hc hw hz hml hl ha_a hT_a (by decide) rfl cv_X8_200 ⟨⟨rfl, rfl⟩, Nat.le_trans (Nat.le_of_ble_eq_true rfl) hRf, Nat.le_trans (Nat.le_of_ble_eq_true rfl) hRl⟩ ⟨Nat.zero_le _, Nat.zero_le _⟩ rfl rfl (Nat.le_of_ble_eq_true rfl) dX8_bear_69 (fun h1 H locs hp hw => ?_)
          subst h1
          refine lv_aload_n hx hb dX8_bear_72 rfl (lv_at hl 0 rfl) ?_
          refine sg_getf (q := (a + 29)) hc hw ha_a hT_a fr_8_5 (by decide) k_522 dX8_bear_73 (ft_8_5 hn ha_a hT_a).1 ?_
          refine sg_geti hc hw ha34 hT34 fi_6_0 k_105 dX8_bear_76 ?_
          cases hf
          exact sg_iret hc hw hz hn0 hr hlocks ⟨rfl, rfl⟩ dX8_bear_79
        · have hf := if_no c40 hf
          refine lv_bipush (v := (-3)) hx hb dX8_bear_43 (by decide) ?_
          cases hf
          exact sg_iret hc hw hz hn0 hr hlocks ⟨rfl, rfl⟩ dX8_bear_45
      · have hf := if_of c28 hf
        refine lv_iconst (v := (-1)) hx hb dX8_bear_31 (by decide) ?_
        cases hf
        exact sg_iret hc hw hz hn0 hr hlocks ⟨rfl, rfl⟩ dX8_bear_32
theorem c_X8_bear {l : Launch} {D : va_G} {cA : Nat → ClassId} {b n : Nat} (hn : sg_okN n) {a : Nat} {x1 : Int32} {x2 : Int32} {x3 : Int32} (ha_a : a < n) (hT_a : sg_T a = 8) {h : HP} {Rz : Int32 × HP} (hf : F_X8_bear a x1 x2 x3 h = some Rz) : Met l yX8_bear (Cond.code yX8_bear cX8_bear 4 (some .int) :: sg_tbl) ({ frames := 5, cells := 0, slots := 0, locals := 142 } : Room) (va_Pc [.ref (b + a), .int x1, .int x2, .int x3] (sg_Wd D b cA n h)) (va_Qi (fun r u => r = Rz.1 ∧ u = Rz.2) (sg_Wd D b cA n) (sg_A b)) 0 0 (sg_A b) := by
  refine Met.ofW (cc := cX8_bear) (maxL := 4) (ret := (some .int)) (by decide) rfl ?_
  intro p e s m args below meth c s₁ B hml hv
  obtain ⟨rfl, hP, hK, hz, hY, hN⟩ := hv
  have hl := lv_entry [.ref (b + a), .int x1, .int x2, .int x3] (n := 4) (Nat.le_of_ble_eq_true rfl)
  rw [lg_entry_eq]
  exact w_X8_bear hn ⟨B.exec, B.bytes, findClass_of_methodNamed B.named, fun w h => atoms_spec (ws := Cond.code yX8_bear cX8_bear 4 (some .int) :: sg_tbl) B.pre w (List.mem_cons_of_mem _ h), hK, hN⟩ hz B.returns B.notSynchronized hml (Nat.le_refl _) (Nat.le_refl _) ha_a hT_a hf _ _ _ ⟨hP, hY, va_S.rf⟩ hl
set_option maxHeartbeats 4000000 in
set_option maxRecDepth 100000 in
theorem w_X8_leave {p : Program} {l : Launch} {e : Env} {R : Room} {s : State} {m : MethodId} {args : Array Value} {below : List Frame} {meth : Method} {c : Code} {D : va_G} {cA : Nat → ClassId} {b n : Nat} (hn : sg_okN n) {a : Nat} {x1 : Int32} {h : HP} {Rz : Int32 × HP} (hc : sg_Cx p s m args c cX8_leave RX8 D cA) (hz : s.heap.size = b + n) (hr : meth.sig.returnType = some .int) (hlocks : meth.locks = false) (hml : c.maxLocals = 2) (hRf : 5 ≤ R.frames) (hRl : 142 ≤ R.locals) (ha_a : a < n) (hT_a : sg_T a = 8) (hf : F_X8_leave a x1 h = some Rz) (H : Heap) (locs : List Loc) (ls : Array Slot) (hw : sg_Wo D b cA n s.heap h H locs) (hl : lv_has ls 2 [(0, .ref (b + a)), (1, .int x1)]) : W p l e R s m args below meth c H locs 0 0 (sg_Qi below args s D b cA n (fun r u => r = Rz.1 ∧ u = Rz.2)) (F0 m 0 ls []) := by
  have hx := hc.1
  have hb := hc.2.1
  have hn0 : 0 < n := sg_pos hn
  unfold F_X8_leave at hf
  refine lv_aload_n hx hb dX8_leave_0 rfl (lv_at hl 0 rfl) ?_
  obtain ⟨hF1, hT1, ha1⟩ := ft_8_5 hn ha_a hT_a
  refine sg_getf (q := (a + 29)) hc hw ha_a hT_a fr_8_5 (by decide) k_522 dX8_leave_1 hF1 ?_
  refine lv_iload_n hx hb dX8_leave_4 rfl (lv_at hl 1 rfl) ?_
  obtain ⟨p5, hp5, hf⟩ := cl_of hf
  refine sg_vi (rest := []) (c_X6_has hn ha1 hT1 hp5) hc hw hz hml hl ha1 hT1 (by decide) rfl cv_X8_177 ⟨⟨rfl, rfl⟩, Nat.le_trans (Nat.le_of_ble_eq_true rfl) hRf, Nat.le_trans (Nat.le_of_ble_eq_true rfl) hRl⟩ ⟨Nat.zero_le _, Nat.zero_le _⟩ rfl rfl (Nat.le_of_ble_eq_true rfl) dX8_leave_5 (fun r h1 H locs hp hw => ?_)
  obtain ⟨⟨e1, e2⟩, hb5⟩ := hp; subst r; subst h1
  refine lv_if_ne (tgt := 13) hx hb dX8_leave_8 (by decide) (fun c8 => ?_) (fun c8 => ?_)
  · have hf := if_no c8 hf
    refine lv_aload_n hx hb dX8_leave_13 rfl (lv_at hl 0 rfl) ?_
    obtain ⟨hF14, hT14, ha14⟩ := ft_8_6 hn ha_a hT_a
    refine sg_getf (q := (a + 33)) hc hw ha_a hT_a fr_8_6 (by decide) k_523 dX8_leave_14 hF14 ?_
    refine lv_aload_n hx hb dX8_leave_17 rfl (lv_at hl 0 rfl) ?_
    refine sg_getf (q := (a + 29)) hc hw ha_a hT_a fr_8_5 (by decide) k_522 dX8_leave_18 (ft_8_5 hn ha_a hT_a).1 ?_
    obtain ⟨p21, hp21, hf⟩ := cl_of hf
    refine sg_vv (rest := []) (c_X3_push hn ha14 hT14 ha1 hT1 hp21) hc hw hz hml hl ha14 hT14 (by decide) rfl cv_X8_193 ⟨⟨rfl, rfl⟩, Nat.le_trans (Nat.le_of_ble_eq_true rfl) hRf, Nat.le_trans (Nat.le_of_ble_eq_true rfl) hRl⟩ ⟨Nat.zero_le _, Nat.zero_le _⟩ rfl rfl (Nat.le_of_ble_eq_true rfl) dX8_leave_21 (fun h1 H locs hp hw => ?_)
    subst h1
    refine lv_aload_n hx hb dX8_leave_24 rfl (lv_at hl 0 rfl) ?_
    refine sg_getf (q := (a + 29)) hc hw ha_a hT_a fr_8_5 (by decide) k_522 dX8_leave_25 (ft_8_5 hn ha_a hT_a).1 ?_
    refine lv_iload_n hx hb dX8_leave_28 rfl (lv_at hl 1 rfl) ?_
    obtain ⟨p29, hp29, hf⟩ := cl_of hf
    refine sg_vv (rest := []) (c_X6_drop hn ha1 hT1 hp29) hc hw hz hml hl ha1 hT1 (by decide) rfl cv_X8_206 ⟨⟨rfl, rfl⟩, Nat.le_trans (Nat.le_of_ble_eq_true rfl) hRf, Nat.le_trans (Nat.le_of_ble_eq_true rfl) hRl⟩ ⟨Nat.zero_le _, Nat.zero_le _⟩ rfl rfl (Nat.le_of_ble_eq_true rfl) dX8_leave_29 (fun h1 H locs hp hw => ?_)
    subst h1
    refine lv_aload_n hx hb dX8_leave_32 rfl (lv_at hl 0 rfl) ?_
    obtain ⟨p33, hp33, hf⟩ := cl_of hf
    refine sg_vv (rest := []) (c_X8_settle hn ha_a hT_a hp33) hc hw hz hml hl ha_a hT_a (by decide) rfl cv_X8_200 ⟨⟨rfl, rfl⟩, Nat.le_trans (Nat.le_of_ble_eq_true rfl) hRf, Nat.le_trans (Nat.le_of_ble_eq_true rfl) hRl⟩ ⟨Nat.zero_le _, Nat.zero_le _⟩ rfl rfl (Nat.le_of_ble_eq_true rfl) dX8_leave_33 (fun h1 H locs hp hw => ?_)
    subst h1
    refine lv_aload_n hx hb dX8_leave_36 rfl (lv_at hl 0 rfl) ?_
    refine sg_getf (q := (a + 29)) hc hw ha_a hT_a fr_8_5 (by decide) k_522 dX8_leave_37 (ft_8_5 hn ha_a hT_a).1 ?_
    refine sg_geti hc hw ha1 hT1 fi_6_0 k_105 dX8_leave_40 ?_
    cases hf
    exact sg_iret hc hw hz hn0 hr hlocks ⟨rfl, rfl⟩ dX8_leave_43
  · have hf := if_of c8 hf
    refine lv_iconst (v := (-1)) hx hb dX8_leave_11 (by decide) ?_
    cases hf
    exact sg_iret hc hw hz hn0 hr hlocks ⟨rfl, rfl⟩ dX8_leave_12
theorem c_X8_leave {l : Launch} {D : va_G} {cA : Nat → ClassId} {b n : Nat} (hn : sg_okN n) {a : Nat} {x1 : Int32} (ha_a : a < n) (hT_a : sg_T a = 8) {h : HP} {Rz : Int32 × HP} (hf : F_X8_leave a x1 h = some Rz) : Met l yX8_leave (Cond.code yX8_leave cX8_leave 2 (some .int) :: sg_tbl) ({ frames := 5, cells := 0, slots := 0, locals := 142 } : Room) (va_Pc [.ref (b + a), .int x1] (sg_Wd D b cA n h)) (va_Qi (fun r u => r = Rz.1 ∧ u = Rz.2) (sg_Wd D b cA n) (sg_A b)) 0 0 (sg_A b) := by
  refine Met.ofW (cc := cX8_leave) (maxL := 2) (ret := (some .int)) (by decide) rfl ?_
  intro p e s m args below meth c s₁ B hml hv
  obtain ⟨rfl, hP, hK, hz, hY, hN⟩ := hv
  have hl := lv_entry [.ref (b + a), .int x1] (n := 2) (Nat.le_of_ble_eq_true rfl)
  rw [lg_entry_eq]
  exact w_X8_leave hn ⟨B.exec, B.bytes, findClass_of_methodNamed B.named, fun w h => atoms_spec (ws := Cond.code yX8_leave cX8_leave 2 (some .int) :: sg_tbl) B.pre w (List.mem_cons_of_mem _ h), hK, hN⟩ hz B.returns B.notSynchronized hml (Nat.le_refl _) (Nat.le_refl _) ha_a hT_a hf _ _ _ ⟨hP, hY, va_S.rf⟩ hl
set_option maxHeartbeats 4000000 in
set_option maxRecDepth 100000 in
theorem w_X8_undo {p : Program} {l : Launch} {e : Env} {R : Room} {s : State} {m : MethodId} {args : Array Value} {below : List Frame} {meth : Method} {c : Code} {D : va_G} {cA : Nat → ClassId} {b n : Nat} (hn : sg_okN n) {a : Nat} {h : HP} {Rz : Int32 × HP} (hc : sg_Cx p s m args c cX8_undo RX8 D cA) (hz : s.heap.size = b + n) (hr : meth.sig.returnType = some .int) (hlocks : meth.locks = false) (hml : c.maxLocals = 1) (hRf : 5 ≤ R.frames) (hRl : 142 ≤ R.locals) (ha_a : a < n) (hT_a : sg_T a = 8) (hf : F_X8_undo a h = some Rz) (H : Heap) (locs : List Loc) (ls : Array Slot) (hw : sg_Wo D b cA n s.heap h H locs) (hl : lv_has ls 1 [(0, .ref (b + a))]) : W p l e R s m args below meth c H locs 0 0 (sg_Qi below args s D b cA n (fun r u => r = Rz.1 ∧ u = Rz.2)) (F0 m 0 ls []) := by
  have hx := hc.1
  have hb := hc.2.1
  have hn0 : 0 < n := sg_pos hn
  unfold F_X8_undo at hf
  refine lv_aload_n hx hb dX8_undo_0 rfl (lv_at hl 0 rfl) ?_
  obtain ⟨hF1, hT1, ha1⟩ := ft_8_6 hn ha_a hT_a
  refine sg_getf (q := (a + 33)) hc hw ha_a hT_a fr_8_6 (by decide) k_523 dX8_undo_1 hF1 ?_
  refine lv_aload_n hx hb dX8_undo_4 rfl (lv_at hl 0 rfl) ?_
  obtain ⟨hF5, hT5, ha5⟩ := ft_8_5 hn ha_a hT_a
  refine sg_getf (q := (a + 29)) hc hw ha_a hT_a fr_8_5 (by decide) k_522 dX8_undo_5 hF5 ?_
  obtain ⟨p8, hp8, hf⟩ := cl_of hf
  refine sg_vi (rest := []) (c_X3_popInto hn ha1 hT1 ha5 hT5 hp8) hc hw hz hml hl ha1 hT1 (by decide) rfl cv_X8_209 ⟨⟨rfl, rfl⟩, Nat.le_trans (Nat.le_of_ble_eq_true rfl) hRf, Nat.le_trans (Nat.le_of_ble_eq_true rfl) hRl⟩ ⟨Nat.zero_le _, Nat.zero_le _⟩ rfl rfl (Nat.le_of_ble_eq_true rfl) dX8_undo_8 (fun r h1 H locs hp hw => ?_)
  obtain ⟨⟨e1, e2⟩, hb8⟩ := hp; subst r; subst h1
  refine lv_if_ne (tgt := 17) hx hb dX8_undo_11 (by decide) (fun c11 => ?_) (fun c11 => ?_)
  · have hf := if_no c11 hf
    refine lv_aload_n hx hb dX8_undo_17 rfl (lv_at hl 0 rfl) ?_
    obtain ⟨p18, hp18, hf⟩ := cl_of hf
    refine sg_vv (rest := []) (c_X8_settle hn ha_a hT_a hp18) hc hw hz hml hl ha_a hT_a (by decide) rfl cv_X8_200 ⟨⟨rfl, rfl⟩, Nat.le_trans (Nat.le_of_ble_eq_true rfl) hRf, Nat.le_trans (Nat.le_of_ble_eq_true rfl) hRl⟩ ⟨Nat.zero_le _, Nat.zero_le _⟩ rfl rfl (Nat.le_of_ble_eq_true rfl) dX8_undo_18 (fun h1 H locs hp hw => ?_)
    subst h1
    refine lv_aload_n hx hb dX8_undo_21 rfl (lv_at hl 0 rfl) ?_
    refine sg_getf (q := (a + 33)) hc hw ha_a hT_a fr_8_6 (by decide) k_523 dX8_undo_22 (ft_8_6 hn ha_a hT_a).1 ?_
    refine sg_geti hc hw ha1 hT1 fi_3_1 k_148 dX8_undo_25 ?_
    cases hf
    exact sg_iret hc hw hz hn0 hr hlocks ⟨rfl, rfl⟩ dX8_undo_28
  · have hf := if_of c11 hf
    refine lv_bipush (v := (-2)) hx hb dX8_undo_14 (by decide) ?_
    cases hf
    exact sg_iret hc hw hz hn0 hr hlocks ⟨rfl, rfl⟩ dX8_undo_16
theorem c_X8_undo {l : Launch} {D : va_G} {cA : Nat → ClassId} {b n : Nat} (hn : sg_okN n) {a : Nat} (ha_a : a < n) (hT_a : sg_T a = 8) {h : HP} {Rz : Int32 × HP} (hf : F_X8_undo a h = some Rz) : Met l yX8_undo (Cond.code yX8_undo cX8_undo 1 (some .int) :: sg_tbl) ({ frames := 5, cells := 0, slots := 0, locals := 142 } : Room) (va_Pc [.ref (b + a)] (sg_Wd D b cA n h)) (va_Qi (fun r u => r = Rz.1 ∧ u = Rz.2) (sg_Wd D b cA n) (sg_A b)) 0 0 (sg_A b) := by
  refine Met.ofW (cc := cX8_undo) (maxL := 1) (ret := (some .int)) (by decide) rfl ?_
  intro p e s m args below meth c s₁ B hml hv
  obtain ⟨rfl, hP, hK, hz, hY, hN⟩ := hv
  have hl := lv_entry [.ref (b + a)] (n := 1) (Nat.le_of_ble_eq_true rfl)
  rw [lg_entry_eq]
  exact w_X8_undo hn ⟨B.exec, B.bytes, findClass_of_methodNamed B.named, fun w h => atoms_spec (ws := Cond.code yX8_undo cX8_undo 1 (some .int) :: sg_tbl) B.pre w (List.mem_cons_of_mem _ h), hK, hN⟩ hz B.returns B.notSynchronized hml (Nat.le_refl _) (Nat.le_refl _) ha_a hT_a hf _ _ _ ⟨hP, hY, va_S.rf⟩ hl
set_option maxHeartbeats 4000000 in
set_option maxRecDepth 100000 in
theorem w_X8_best {p : Program} {l : Launch} {e : Env} {R : Room} {s : State} {m : MethodId} {args : Array Value} {below : List Frame} {meth : Method} {c : Code} {D : va_G} {cA : Nat → ClassId} {b n : Nat} (hn : sg_okN n) {a : Nat} {x1 : Int32} {x2 : Int32} {h : HP} {Rz : Int32 × HP} (hc : sg_Cx p s m args c cX8_best RX8 D cA) (hz : s.heap.size = b + n) (hr : meth.sig.returnType = some .int) (hlocks : meth.locks = false) (hml : c.maxLocals = 3) (hRf : 6 ≤ R.frames) (hRl : 189 ≤ R.locals) (ha_a : a < n) (hT_a : sg_T a = 8) (hf : F_X8_best a x1 x2 h = some Rz) (H : Heap) (locs : List Loc) (ls : Array Slot) (hw : sg_Wo D b cA n s.heap h H locs) (hl : lv_has ls 3 [(0, .ref (b + a)), (1, .int x1), (2, .int x2)]) : W p l e R s m args below meth c H locs 0 0 (sg_Qi below args s D b cA n (fun r u => r = Rz.1 ∧ u = Rz.2)) (F0 m 0 ls []) := by
  have hx := hc.1
  have hb := hc.2.1
  have hn0 : 0 < n := sg_pos hn
  unfold F_X8_best at hf
  refine lv_aload_n hx hb dX8_best_0 rfl (lv_at hl 0 rfl) ?_
  obtain ⟨hF1, hT1, ha1⟩ := ft_8_3 hn ha_a hT_a
  refine sg_getf (q := (a + 15)) hc hw ha_a hT_a fr_8_3 (by decide) k_520 dX8_best_1 hF1 ?_
  refine lv_iload_n hx hb dX8_best_4 rfl (lv_at hl 1 rfl) ?_
  obtain ⟨p5, hp5, hf⟩ := cl_of hf
  refine sg_vi (rest := []) (c_X1_hasBearer hn ha1 hT1 hp5) hc hw hz hml hl ha1 hT1 (by decide) rfl cv_X8_146 ⟨⟨rfl, rfl⟩, Nat.le_trans (Nat.le_of_ble_eq_true rfl) hRf, Nat.le_trans (Nat.le_of_ble_eq_true rfl) hRl⟩ ⟨Nat.zero_le _, Nat.zero_le _⟩ rfl rfl (Nat.le_of_ble_eq_true rfl) dX8_best_5 (fun r h1 H locs hp hw => ?_)
  obtain ⟨⟨e1, e2⟩, hb5⟩ := hp; subst r; subst h1
  refine lv_if_eq (tgt := 20) hx hb dX8_best_8 (by decide) (fun c8 => ?_) (fun c8 => ?_)
  · have hf := if_of c8 hf
    refine lv_iconst (v := (-1)) hx hb dX8_best_20 (by decide) ?_
    cases hf
    exact sg_iret hc hw hz hn0 hr hlocks ⟨rfl, rfl⟩ dX8_best_21
  · have hf := if_no c8 hf
    refine lv_iload_n hx hb dX8_best_11 rfl (lv_at hl 2 rfl) ?_
    refine lv_iconst (v := 0) hx hb dX8_best_12 (by decide) ?_
    refine lv_iconst (v := 1) hx hb dX8_best_13 (by decide) ?_
    obtain ⟨p14, hp14, hf⟩ := cl_of hf
    refine sg_si (rest := []) (c_X8_within hn (h := h) hp14) hc hw hz hn0 hml hl cs_X8_121 ⟨⟨rfl, rfl⟩, Nat.le_trans (Nat.le_of_ble_eq_true rfl) hRf, Nat.le_trans (Nat.le_of_ble_eq_true rfl) hRl⟩ ⟨Nat.zero_le _, Nat.zero_le _⟩ rfl rfl (Nat.le_of_ble_eq_true rfl) dX8_best_14 (fun r h1 H locs hp hw => ?_)
    obtain ⟨⟨e1, e2⟩, hb14⟩ := hp; subst r; subst h1
    refine lv_if_ne (tgt := 22) hx hb dX8_best_17 (by decide) (fun c17 => ?_) (fun c17 => ?_)
    · have hf := if_no c17 hf
      refine lv_aload_n hx hb dX8_best_22 rfl (lv_at hl 0 rfl) ?_
      obtain ⟨hF23, hT23, ha23⟩ := ft_8_15 hn ha_a hT_a
      refine sg_getf (q := (a + 95)) hc hw ha_a hT_a fr_8_15 (by decide) k_532 dX8_best_23 hF23 ?_
      refine lv_iload_n hx hb dX8_best_26 rfl (lv_at hl 1 rfl) ?_
      refine lv_aload_n hx hb dX8_best_27 rfl (lv_at hl 0 rfl) ?_
      obtain ⟨hF28, hT28, ha28⟩ := ft_8_13 hn ha_a hT_a
      refine sg_getf (q := (a + 81)) hc hw ha_a hT_a fr_8_13 (by decide) k_530 dX8_best_28 hF28 ?_
      refine lv_iload_n hx hb dX8_best_31 rfl (lv_at hl 1 rfl) ?_
      obtain ⟨p32, hp32, hf⟩ := cl_of hf
      refine sg_vi (rest := [.int x1, .ref (b + (a + 95))]) (c_X7_acres hn ha28 hT28 hp32) hc hw hz hml hl ha28 hT28 (by decide) rfl cv_X8_158 ⟨⟨rfl, rfl⟩, Nat.le_trans (Nat.le_of_ble_eq_true rfl) hRf, Nat.le_trans (Nat.le_of_ble_eq_true rfl) hRl⟩ ⟨Nat.zero_le _, Nat.zero_le _⟩ rfl rfl (Nat.le_of_ble_eq_true rfl) dX8_best_32 (fun r h1 H locs hp hw => ?_)
      obtain ⟨e1, e2⟩ := hp; subst r; subst h1
      obtain ⟨p35, hp35, hf⟩ := cl_of hf
      refine sg_vi (rest := []) (c_X5_seek hn ha23 hT23 hp35) hc hw hz hml hl ha23 hT23 (by decide) rfl cv_X8_214 ⟨⟨rfl, rfl⟩, Nat.le_trans (Nat.le_of_ble_eq_true rfl) hRf, Nat.le_trans (Nat.le_of_ble_eq_true rfl) hRl⟩ ⟨Nat.zero_le _, Nat.zero_le _⟩ rfl rfl (Nat.le_of_ble_eq_true rfl) dX8_best_35 (fun r h1 H locs hp hw => ?_)
      obtain ⟨⟨e1, e2⟩, hb35⟩ := hp; subst r; subst h1
      refine lv_if_ne (tgt := 44) hx hb dX8_best_38 (by decide) (fun c38 => ?_) (fun c38 => ?_)
      · have hf := if_no c38 hf
        refine lv_iload_n hx hb dX8_best_44 rfl (lv_at hl 2 rfl) ?_
        refine lv_if_ne (tgt := 70) hx hb dX8_best_45 (by decide) (fun c45 => ?_) (fun c45 => ?_)
        · have hf := if_no c45 hf
          refine lv_aload_n hx hb dX8_best_70 rfl (lv_at hl 0 rfl) ?_
          refine sg_getf (q := (a + 95)) hc hw ha_a hT_a fr_8_15 (by decide) k_532 dX8_best_71 (ft_8_15 hn ha_a hT_a).1 ?_
          refine sg_geti hc hw ha23 hT23 fi_5_0 k_214 dX8_best_74 ?_
          cases hf
          exact sg_iret hc hw hz hn0 hr hlocks ⟨rfl, rfl⟩ dX8_best_77
        · have hf := if_of c45 hf
          refine lv_sipush (v := 200) hx hb dX8_best_48 (by decide) ?_
          refine lv_aload_n hx hb dX8_best_51 rfl (lv_at hl 0 rfl) ?_
          refine sg_getf (q := (a + 95)) hc hw ha_a hT_a fr_8_15 (by decide) k_532 dX8_best_52 (ft_8_15 hn ha_a hT_a).1 ?_
          refine sg_geti hc hw ha23 hT23 fi_5_1 k_216 dX8_best_55 ?_
          refine lv_imul hx hb dX8_best_58 ?_
          refine lv_aload_n hx hb dX8_best_59 rfl (lv_at hl 0 rfl) ?_
          refine sg_getf (q := (a + 95)) hc hw ha_a hT_a fr_8_15 (by decide) k_532 dX8_best_60 (ft_8_15 hn ha_a hT_a).1 ?_
          refine sg_geti hc hw ha23 hT23 fi_5_2 k_218 dX8_best_63 ?_
          refine lv_iadd hx hb dX8_best_66 ?_
          refine lv_goto (tgt := 77) hx hb dX8_best_67 (by decide) ?_
          cases hf
          exact sg_iret hc hw hz hn0 hr hlocks ⟨rfl, rfl⟩ dX8_best_77
      · have hf := if_of c38 hf
        refine lv_bipush (v := (-4)) hx hb dX8_best_41 (by decide) ?_
        cases hf
        exact sg_iret hc hw hz hn0 hr hlocks ⟨rfl, rfl⟩ dX8_best_43
    · have hf := if_of c17 hf
      refine lv_iconst (v := (-1)) hx hb dX8_best_20 (by decide) ?_
      cases hf
      exact sg_iret hc hw hz hn0 hr hlocks ⟨rfl, rfl⟩ dX8_best_21
theorem c_X8_best {l : Launch} {D : va_G} {cA : Nat → ClassId} {b n : Nat} (hn : sg_okN n) {a : Nat} {x1 : Int32} {x2 : Int32} (ha_a : a < n) (hT_a : sg_T a = 8) {h : HP} {Rz : Int32 × HP} (hf : F_X8_best a x1 x2 h = some Rz) : Met l yX8_best (Cond.code yX8_best cX8_best 3 (some .int) :: sg_tbl) ({ frames := 6, cells := 0, slots := 0, locals := 189 } : Room) (va_Pc [.ref (b + a), .int x1, .int x2] (sg_Wd D b cA n h)) (va_Qi (fun r u => r = Rz.1 ∧ u = Rz.2) (sg_Wd D b cA n) (sg_A b)) 0 0 (sg_A b) := by
  refine Met.ofW (cc := cX8_best) (maxL := 3) (ret := (some .int)) (by decide) rfl ?_
  intro p e s m args below meth c s₁ B hml hv
  obtain ⟨rfl, hP, hK, hz, hY, hN⟩ := hv
  have hl := lv_entry [.ref (b + a), .int x1, .int x2] (n := 3) (Nat.le_of_ble_eq_true rfl)
  rw [lg_entry_eq]
  exact w_X8_best hn ⟨B.exec, B.bytes, findClass_of_methodNamed B.named, fun w h => atoms_spec (ws := Cond.code yX8_best cX8_best 3 (some .int) :: sg_tbl) B.pre w (List.mem_cons_of_mem _ h), hK, hN⟩ hz B.returns B.notSynchronized hml (Nat.le_refl _) (Nat.le_refl _) ha_a hT_a hf _ _ _ ⟨hP, hY, va_S.rf⟩ hl
set_option maxHeartbeats 4000000 in
set_option maxRecDepth 100000 in
theorem w_X8_walkWithout {p : Program} {l : Launch} {e : Env} {R : Room} {s : State} {m : MethodId} {args : Array Value} {below : List Frame} {meth : Method} {c : Code} {D : va_G} {cA : Nat → ClassId} {b n : Nat} (hn : sg_okN n) {a : Nat} {x1 : Int32} {h : HP} {Rz : HP} (hc : sg_Cx p s m args c cX8_walkWithout RX8 D cA) (hz : s.heap.size = b + n) (hr : meth.sig.returnType = none) (hlocks : meth.locks = false) (hml : c.maxLocals = 2) (hRf : 4 ≤ R.frames) (hRl : 96 ≤ R.locals) (ha_a : a < n) (hT_a : sg_T a = 8) (hf : F_X8_walkWithout a x1 h = some Rz) (H : Heap) (locs : List Loc) (ls : Array Slot) (hw : sg_Wo D b cA n s.heap h H locs) (hl : lv_has ls 2 [(0, .ref (b + a)), (1, .int x1)]) : W p l e R s m args below meth c H locs 0 0 (sg_Qv below args s D b cA n (fun u => u = Rz)) (F0 m 0 ls []) := by
  have hx := hc.1
  have hb := hc.2.1
  have hn0 : 0 < n := sg_pos hn
  unfold F_X8_walkWithout at hf
  refine lv_aload_n hx hb dX8_walkWithout_0 rfl (lv_at hl 0 rfl) ?_
  obtain ⟨hF1, hT1, ha1⟩ := ft_8_14 hn ha_a hT_a
  refine sg_getf (q := (a + 88)) hc hw ha_a hT_a fr_8_14 (by decide) k_531 dX8_walkWithout_1 hF1 ?_
  refine lv_aload_n hx hb dX8_walkWithout_4 rfl (lv_at hl 0 rfl) ?_
  obtain ⟨hF5, hT5, ha5⟩ := ft_8_3 hn ha_a hT_a
  refine sg_getf (q := (a + 15)) hc hw ha_a hT_a fr_8_3 (by decide) k_520 dX8_walkWithout_5 hF5 ?_
  obtain ⟨p8, hp8, hf⟩ := cl_of hf
  refine sg_vv (rest := []) (c_X7_begin hn ha1 hT1 ha5 hT5 hp8) hc hw hz hml hl ha1 hT1 (by decide) rfl cv_X8_253 ⟨⟨rfl, rfl⟩, Nat.le_trans (Nat.le_of_ble_eq_true rfl) hRf, Nat.le_trans (Nat.le_of_ble_eq_true rfl) hRl⟩ ⟨Nat.zero_le _, Nat.zero_le _⟩ rfl rfl (Nat.le_of_ble_eq_true rfl) dX8_walkWithout_8 (fun h1 H locs hp hw => ?_)
  subst h1
  refine lv_aload_n hx hb dX8_walkWithout_11 rfl (lv_at hl 0 rfl) ?_
  refine sg_getf (q := (a + 88)) hc hw ha_a hT_a fr_8_14 (by decide) k_531 dX8_walkWithout_12 (ft_8_14 hn ha_a hT_a).1 ?_
  obtain ⟨hF15, hT15, ha15, hN15⟩ := ft_7_6 hn ha1 hT1
  refine sg_getf (q := (a + 89)) hc hw ha1 hT1 fr_7_6 (by decide) k_171 dX8_walkWithout_15 hF15 ?_
  refine lv_iload_n hx hb dX8_walkWithout_18 rfl (lv_at hl 1 rfl) ?_
  refine lv_iconst (v := 0) hx hb dX8_walkWithout_19 (by decide) ?_
  obtain ⟨hg20, hf⟩ := gd_of hf
  refine sg_ist hc hw ha15 hT15 hN15 hg20 dX8_walkWithout_20 (fun H locs hw => ?_)
  obtain ⟨h20, hw, hf⟩ := sg_name hw hf
  refine lv_aload_n hx hb dX8_walkWithout_21 rfl (lv_at hl 0 rfl) ?_
  refine sg_getf (q := (a + 88)) hc hw ha_a hT_a fr_8_14 (by decide) k_531 dX8_walkWithout_22 (ft_8_14 hn ha_a hT_a).1 ?_
  refine lv_aload_n hx hb dX8_walkWithout_25 rfl (lv_at hl 0 rfl) ?_
  obtain ⟨hF26, hT26, ha26, hN26⟩ := ft_8_11 hn ha_a hT_a
  refine sg_getf (q := (a + 79)) hc hw ha_a hT_a fr_8_11 (by decide) k_528 dX8_walkWithout_26 hF26 ?_
  obtain ⟨p29, hp29, hf⟩ := cl_of hf
  refine sg_vv (rest := []) (c_X7_go hn ha1 hT1 ha26 hT26 hp29) hc hw hz hml hl ha1 hT1 (by decide) rfl cv_X8_256 ⟨⟨rfl, rfl⟩, Nat.le_trans (Nat.le_of_ble_eq_true rfl) hRf, Nat.le_trans (Nat.le_of_ble_eq_true rfl) hRl⟩ ⟨Nat.zero_le _, Nat.zero_le _⟩ rfl rfl (Nat.le_of_ble_eq_true rfl) dX8_walkWithout_29 (fun h1 H locs hp hw => ?_)
  subst h1
  cases hf
  exact sg_vret hc hw hz hn0 hr hlocks rfl dX8_walkWithout_32
theorem c_X8_walkWithout {l : Launch} {D : va_G} {cA : Nat → ClassId} {b n : Nat} (hn : sg_okN n) {a : Nat} {x1 : Int32} (ha_a : a < n) (hT_a : sg_T a = 8) {h : HP} {Rz : HP} (hf : F_X8_walkWithout a x1 h = some Rz) : Met l yX8_walkWithout (Cond.code yX8_walkWithout cX8_walkWithout 2 none :: sg_tbl) ({ frames := 4, cells := 0, slots := 0, locals := 96 } : Room) (va_Pc [.ref (b + a), .int x1] (sg_Wd D b cA n h)) (va_Qv (fun u => u = Rz) (sg_Wd D b cA n) (sg_A b)) 0 0 (sg_A b) := by
  refine Met.ofW (cc := cX8_walkWithout) (maxL := 2) (ret := none) (by decide) rfl ?_
  intro p e s m args below meth c s₁ B hml hv
  obtain ⟨rfl, hP, hK, hz, hY, hN⟩ := hv
  have hl := lv_entry [.ref (b + a), .int x1] (n := 2) (Nat.le_of_ble_eq_true rfl)
  rw [lg_entry_eq]
  exact w_X8_walkWithout hn ⟨B.exec, B.bytes, findClass_of_methodNamed B.named, fun w h => atoms_spec (ws := Cond.code yX8_walkWithout cX8_walkWithout 2 none :: sg_tbl) B.pre w (List.mem_cons_of_mem _ h), hK, hN⟩ hz B.returns B.notSynchronized hml (Nat.le_refl _) (Nat.le_refl _) ha_a hT_a hf _ _ _ ⟨hP, hY, va_S.rf⟩ hl
set_option maxHeartbeats 4000000 in
set_option maxRecDepth 100000 in
theorem w_X8_safe {p : Program} {l : Launch} {e : Env} {R : Room} {s : State} {m : MethodId} {args : Array Value} {below : List Frame} {meth : Method} {c : Code} {D : va_G} {cA : Nat → ClassId} {b n : Nat} (hn : sg_okN n) {a : Nat} {h : HP} {Rz : Int32 × HP} (hc : sg_Cx p s m args c cX8_safe RX8 D cA) (hz : s.heap.size = b + n) (hr : meth.sig.returnType = some .int) (hlocks : meth.locks = false) (hml : c.maxLocals = 2) (hRf : 5 ≤ R.frames) (hRl : 117 ≤ R.locals) (ha_a : a < n) (hT_a : sg_T a = 8) (hf : F_X8_safe a h = some Rz) (H : Heap) (locs : List Loc) (ls : Array Slot) (hw : sg_Wo D b cA n s.heap h H locs) (hl : lv_has ls 2 [(0, .ref (b + a))]) : W p l e R s m args below meth c H locs 0 0 (sg_Qi below args s D b cA n (fun r u => r = Rz.1 ∧ u = Rz.2)) (F0 m 0 ls []) := by
  have hx := hc.1
  have hb := hc.2.1
  have hn0 : 0 < n := sg_pos hn
  have L2 : ∀ (k : Nat) (x : (Int32 × HP)), F_X8_safe_L2 a k x = some Rz → ∀ (H : Heap) (locs : List Loc) (ls : Array Slot), sg_Wo D b cA n s.heap x.2 H locs → lv_has ls 2 [(0, .ref (b + a)), (1, .int x.1)] → W p l e R s m args below meth c H locs 0 0 (sg_Qi below args s D b cA n (fun r u => r = Rz.1 ∧ u = Rz.2)) (F0 m 2 ls []) := by
    unfold F_X8_safe_L2
    refine lp_walk ?_
    intro rc2 hrc2 x hf H locs ls hw hl
    obtain ⟨x1, h⟩ := x
    dsimp only at hf hw hl
    refine lv_iload_n hx hb dX8_safe_2 rfl (lv_at hl 1 rfl) ?_
    refine lv_aload_n hx hb dX8_safe_3 rfl (lv_at hl 0 rfl) ?_
    obtain ⟨hF4, hT4, ha4⟩ := ft_8_3 hn ha_a hT_a
    refine sg_getf (q := (a + 15)) hc hw ha_a hT_a fr_8_3 (by decide) k_520 dX8_safe_4 hF4 ?_
    refine sg_geti hc hw ha4 hT4 fi_1_2 k_49 dX8_safe_7 ?_
    refine lv_icmp_ge (tgt := 38) hx hb dX8_safe_10 (by decide) (fun c10 => ?_) (fun c10 => ?_)
    · have hf := if_of c10 hf
      refine lv_bipush (v := (-4)) hx hb dX8_safe_38 (by decide) ?_
      cases hf
      exact sg_iret hc hw hz hn0 hr hlocks ⟨rfl, rfl⟩ dX8_safe_40
    · have hf := if_no c10 hf
      refine lv_aload_n hx hb dX8_safe_13 rfl (lv_at hl 0 rfl) ?_
      refine lv_iload_n hx hb dX8_safe_14 rfl (lv_at hl 1 rfl) ?_
      obtain ⟨p15, hp15, hf⟩ := cl_of hf
      refine sg_vv (rest := []) (c_X8_walkWithout hn ha_a hT_a hp15) hc hw hz hml hl ha_a hT_a (by decide) rfl cv_X8_224 ⟨⟨rfl, rfl⟩, Nat.le_trans (Nat.le_of_ble_eq_true rfl) hRf, Nat.le_trans (Nat.le_of_ble_eq_true rfl) hRl⟩ ⟨Nat.zero_le _, Nat.zero_le _⟩ rfl rfl (Nat.le_of_ble_eq_true rfl) dX8_safe_15 (fun h1 H locs hp hw => ?_)
      subst h1
      refine lv_aload_n hx hb dX8_safe_18 rfl (lv_at hl 0 rfl) ?_
      obtain ⟨hF19, hT19, ha19⟩ := ft_8_14 hn ha_a hT_a
      refine sg_getf (q := (a + 88)) hc hw ha_a hT_a fr_8_14 (by decide) k_531 dX8_safe_19 hF19 ?_
      refine sg_geti hc hw ha19 hT19 fi_7_3 k_167 dX8_safe_22 ?_
      refine lv_bipush (v := (-4)) hx hb dX8_safe_25 (by decide) ?_
      refine lv_icmp_eq (tgt := 32) hx hb dX8_safe_27 (by decide) (fun c27 => ?_) (fun c27 => ?_)
      · have hf := if_of c27 hf
        refine lv_iinc (v := (x1 + 1)) (lv' := [(1, .int (x1 + 1)), (0, .ref (b + a))]) hx hb dX8_safe_32 hl (k := 1) rfl rfl (by decide) rfl (fun ls hl => ?_)
        refine lv_goto (tgt := 2) hx hb dX8_safe_35 (by decide) ?_
        exact hrc2 _ hf _ _ _ hw (lv_sub hl [1, 0] rfl)
      · have hf := if_no c27 hf
        refine lv_iload_n hx hb dX8_safe_30 rfl (lv_at hl 1 rfl) ?_
        cases hf
        exact sg_iret hc hw hz hn0 hr hlocks ⟨rfl, rfl⟩ dX8_safe_31
  unfold F_X8_safe at hf
  refine lv_iconst (v := 0) hx hb dX8_safe_0 (by decide) ?_
  refine lv_istore_n (lv' := [(1, .int 0), (0, .ref (b + a))]) hx hb dX8_safe_1 rfl hl (by decide) rfl (fun ls hl => ?_)
  exact L2 _ _ hf _ _ _ hw (lv_sub hl [1, 0] rfl)
theorem c_X8_safe {l : Launch} {D : va_G} {cA : Nat → ClassId} {b n : Nat} (hn : sg_okN n) {a : Nat} (ha_a : a < n) (hT_a : sg_T a = 8) {h : HP} {Rz : Int32 × HP} (hf : F_X8_safe a h = some Rz) : Met l yX8_safe (Cond.code yX8_safe cX8_safe 2 (some .int) :: sg_tbl) ({ frames := 5, cells := 0, slots := 0, locals := 117 } : Room) (va_Pc [.ref (b + a)] (sg_Wd D b cA n h)) (va_Qi (fun r u => r = Rz.1 ∧ u = Rz.2) (sg_Wd D b cA n) (sg_A b)) 0 0 (sg_A b) := by
  refine Met.ofW (cc := cX8_safe) (maxL := 2) (ret := (some .int)) (by decide) rfl ?_
  intro p e s m args below meth c s₁ B hml hv
  obtain ⟨rfl, hP, hK, hz, hY, hN⟩ := hv
  have hl := lv_entry [.ref (b + a)] (n := 2) (Nat.le_of_ble_eq_true rfl)
  rw [lg_entry_eq]
  exact w_X8_safe hn ⟨B.exec, B.bytes, findClass_of_methodNamed B.named, fun w h => atoms_spec (ws := Cond.code yX8_safe cX8_safe 2 (some .int) :: sg_tbl) B.pre w (List.mem_cons_of_mem _ h), hK, hN⟩ hz B.returns B.notSynchronized hml (Nat.le_refl _) (Nat.le_refl _) ha_a hT_a hf _ _ _ ⟨hP, hY, va_S.rf⟩ hl
set_option maxHeartbeats 4000000 in
set_option maxRecDepth 100000 in
theorem w_X8_bearUpAlone {p : Program} {l : Launch} {e : Env} {R : Room} {s : State} {m : MethodId} {args : Array Value} {below : List Frame} {meth : Method} {c : Code} {D : va_G} {cA : Nat → ClassId} {b n : Nat} (hn : sg_okN n) {a : Nat} {x1 : Int32} {h : HP} {Rz : Int32 × HP} (hc : sg_Cx p s m args c cX8_bearUpAlone RX8 D cA) (hz : s.heap.size = b + n) (hr : meth.sig.returnType = some .boolean) (hlocks : meth.locks = false) (hml : c.maxLocals = 3) (hRf : 4 ≤ R.frames) (hRl : 96 ≤ R.locals) (ha_a : a < n) (hT_a : sg_T a = 8) (hf : F_X8_bearUpAlone a x1 h = some Rz) (H : Heap) (locs : List Loc) (ls : Array Slot) (hw : sg_Wo D b cA n s.heap h H locs) (hl : lv_has ls 3 [(0, .ref (b + a)), (1, .int x1)]) : W p l e R s m args below meth c H locs 0 0 (sg_Qi below args s D b cA n (fun r u => (r = Rz.1 ∧ u = Rz.2) ∧ narrow .boolean (.int r) = .int r)) (F0 m 0 ls []) := by
  have hx := hc.1
  have hb := hc.2.1
  have hn0 : 0 < n := sg_pos hn
  have J26 : ∀ (h : HP) (H : Heap) (locs : List Loc) (ls : Array Slot), F_X8_bearUpAlone_J26 a h = some Rz → sg_Wo D b cA n s.heap h H locs → lv_has ls 3 [(0, .ref (b + a))] → W p l e R s m args below meth c H locs 0 0 (sg_Qi below args s D b cA n (fun r u => (r = Rz.1 ∧ u = Rz.2) ∧ narrow .boolean (.int r) = .int r)) (F0 m 26 ls []) := by
    intro h H locs ls hf hw hl
    unfold F_X8_bearUpAlone_J26 at hf
    refine lv_aload_n hx hb dX8_bearUpAlone_26 rfl (lv_at hl 0 rfl) ?_
    obtain ⟨hF27, hT27, ha27⟩ := ft_8_14 hn ha_a hT_a
    refine sg_getf (q := (a + 88)) hc hw ha_a hT_a fr_8_14 (by decide) k_531 dX8_bearUpAlone_27 hF27 ?_
    refine lv_aload_n hx hb dX8_bearUpAlone_30 rfl (lv_at hl 0 rfl) ?_
    obtain ⟨hF31, hT31, ha31⟩ := ft_8_3 hn ha_a hT_a
    refine sg_getf (q := (a + 15)) hc hw ha_a hT_a fr_8_3 (by decide) k_520 dX8_bearUpAlone_31 hF31 ?_
    obtain ⟨p34, hp34, hf⟩ := cl_of hf
    refine sg_vv (rest := []) (c_X7_begin hn ha27 hT27 ha31 hT31 hp34) hc hw hz hml hl ha27 hT27 (by decide) rfl cv_X8_253 ⟨⟨rfl, rfl⟩, Nat.le_trans (Nat.le_of_ble_eq_true rfl) hRf, Nat.le_trans (Nat.le_of_ble_eq_true rfl) hRl⟩ ⟨Nat.zero_le _, Nat.zero_le _⟩ rfl rfl (Nat.le_of_ble_eq_true rfl) dX8_bearUpAlone_34 (fun h1 H locs hp hw => ?_)
    subst h1
    refine lv_aload_n hx hb dX8_bearUpAlone_37 rfl (lv_at hl 0 rfl) ?_
    refine sg_getf (q := (a + 88)) hc hw ha_a hT_a fr_8_14 (by decide) k_531 dX8_bearUpAlone_38 (ft_8_14 hn ha_a hT_a).1 ?_
    refine lv_aload_n hx hb dX8_bearUpAlone_41 rfl (lv_at hl 0 rfl) ?_
    obtain ⟨hF42, hT42, ha42, hN42⟩ := ft_8_12 hn ha_a hT_a
    refine sg_getf (q := (a + 80)) hc hw ha_a hT_a fr_8_12 (by decide) k_529 dX8_bearUpAlone_42 hF42 ?_
    obtain ⟨p45, hp45, hf⟩ := cl_of hf
    refine sg_vv (rest := []) (c_X7_go hn ha27 hT27 ha42 hT42 hp45) hc hw hz hml hl ha27 hT27 (by decide) rfl cv_X8_256 ⟨⟨rfl, rfl⟩, Nat.le_trans (Nat.le_of_ble_eq_true rfl) hRf, Nat.le_trans (Nat.le_of_ble_eq_true rfl) hRl⟩ ⟨Nat.zero_le _, Nat.zero_le _⟩ rfl rfl (Nat.le_of_ble_eq_true rfl) dX8_bearUpAlone_45 (fun h1 H locs hp hw => ?_)
    subst h1
    refine lv_aload_n hx hb dX8_bearUpAlone_48 rfl (lv_at hl 0 rfl) ?_
    refine sg_getf (q := (a + 88)) hc hw ha_a hT_a fr_8_14 (by decide) k_531 dX8_bearUpAlone_49 (ft_8_14 hn ha_a hT_a).1 ?_
    refine sg_geti hc hw ha27 hT27 fi_7_3 k_167 dX8_bearUpAlone_52 ?_
    refine lv_bipush (v := (-4)) hx hb dX8_bearUpAlone_55 (by decide) ?_
    refine lv_icmp_ne (tgt := 64) hx hb dX8_bearUpAlone_57 (by decide) (fun c57 => ?_) (fun c57 => ?_)
    · have hf := if_no c57 hf
      refine lv_iconst (v := 0) hx hb dX8_bearUpAlone_64 (by decide) ?_
      cases hf
      exact sg_zret hc hw hz hn0 hr hlocks rfl ⟨⟨rfl, rfl⟩, rfl⟩ dX8_bearUpAlone_65
    · have hf := if_of c57 hf
      refine lv_iconst (v := 1) hx hb dX8_bearUpAlone_60 (by decide) ?_
      refine lv_goto (tgt := 65) hx hb dX8_bearUpAlone_61 (by decide) ?_
      cases hf
      exact sg_zret hc hw hz hn0 hr hlocks rfl ⟨⟨rfl, rfl⟩, rfl⟩ dX8_bearUpAlone_65
  have L2 : ∀ (k : Nat) (x : (Int32 × HP)), F_X8_bearUpAlone_L2 a x1 k x = some Rz → ∀ (H : Heap) (locs : List Loc) (ls : Array Slot), sg_Wo D b cA n s.heap x.2 H locs → lv_has ls 3 [(0, .ref (b + a)), (1, .int x1), (2, .int x.1)] → W p l e R s m args below meth c H locs 0 0 (sg_Qi below args s D b cA n (fun r u => (r = Rz.1 ∧ u = Rz.2) ∧ narrow .boolean (.int r) = .int r)) (F0 m 2 ls []) := by
    unfold F_X8_bearUpAlone_L2
    refine lp_walk ?_
    intro rc2 hrc2 x hf H locs ls hw hl
    obtain ⟨x2, h⟩ := x
    dsimp only at hf hw hl
    refine lv_iload_n hx hb dX8_bearUpAlone_2 rfl (lv_at hl 2 rfl) ?_
    refine lv_aload_n hx hb dX8_bearUpAlone_3 rfl (lv_at hl 0 rfl) ?_
    obtain ⟨hF4, hT4, ha4⟩ := ft_8_3 hn ha_a hT_a
    refine sg_getf (q := (a + 15)) hc hw ha_a hT_a fr_8_3 (by decide) k_520 dX8_bearUpAlone_4 hF4 ?_
    refine sg_geti hc hw ha4 hT4 fi_1_1 k_45 dX8_bearUpAlone_7 ?_
    refine lv_icmp_ge (tgt := 26) hx hb dX8_bearUpAlone_10 (by decide) (fun c10 => ?_) (fun c10 => ?_)
    · have hf := if_of c10 hf
      exact J26 _ _ _ _ hf hw (lv_sub hl [0] rfl)
    · have hf := if_no c10 hf
      refine lv_aload_n hx hb dX8_bearUpAlone_13 rfl (lv_at hl 0 rfl) ?_
      obtain ⟨hF14, hT14, ha14, hN14⟩ := ft_8_12 hn ha_a hT_a
      refine sg_getf (q := (a + 80)) hc hw ha_a hT_a fr_8_12 (by decide) k_529 dX8_bearUpAlone_14 hF14 ?_
      refine lv_iload_n hx hb dX8_bearUpAlone_17 rfl (lv_at hl 2 rfl) ?_
      refine lv_iload_n hx hb dX8_bearUpAlone_18 rfl (lv_at hl 1 rfl) ?_
      obtain ⟨hg19, hf⟩ := gd_of hf
      refine sg_ist hc hw ha14 hT14 hN14 hg19 dX8_bearUpAlone_19 (fun H locs hw => ?_)
      obtain ⟨h19, hw, hf⟩ := sg_name hw hf
      refine lv_iinc (v := (x2 + 1)) (lv' := [(2, .int (x2 + 1)), (0, .ref (b + a)), (1, .int x1)]) hx hb dX8_bearUpAlone_20 hl (k := 2) rfl rfl (by decide) rfl (fun ls hl => ?_)
      refine lv_goto (tgt := 2) hx hb dX8_bearUpAlone_23 (by decide) ?_
      exact hrc2 _ hf _ _ _ hw (lv_sub hl [1, 2, 0] rfl)
  unfold F_X8_bearUpAlone at hf
  refine lv_iconst (v := 0) hx hb dX8_bearUpAlone_0 (by decide) ?_
  refine lv_istore_n (lv' := [(2, .int 0), (0, .ref (b + a)), (1, .int x1)]) hx hb dX8_bearUpAlone_1 rfl hl (by decide) rfl (fun ls hl => ?_)
  exact L2 _ _ hf _ _ _ hw (lv_sub hl [1, 2, 0] rfl)
theorem c_X8_bearUpAlone {l : Launch} {D : va_G} {cA : Nat → ClassId} {b n : Nat} (hn : sg_okN n) {a : Nat} {x1 : Int32} (ha_a : a < n) (hT_a : sg_T a = 8) {h : HP} {Rz : Int32 × HP} (hf : F_X8_bearUpAlone a x1 h = some Rz) : Met l yX8_bearUpAlone (Cond.code yX8_bearUpAlone cX8_bearUpAlone 3 (some .boolean) :: sg_tbl) ({ frames := 4, cells := 0, slots := 0, locals := 96 } : Room) (va_Pc [.ref (b + a), .int x1] (sg_Wd D b cA n h)) (va_Qi (fun r u => (r = Rz.1 ∧ u = Rz.2) ∧ narrow .boolean (.int r) = .int r) (sg_Wd D b cA n) (sg_A b)) 0 0 (sg_A b) := by
  refine Met.ofW (cc := cX8_bearUpAlone) (maxL := 3) (ret := (some .boolean)) (by decide) rfl ?_
  intro p e s m args below meth c s₁ B hml hv
  obtain ⟨rfl, hP, hK, hz, hY, hN⟩ := hv
  have hl := lv_entry [.ref (b + a), .int x1] (n := 3) (Nat.le_of_ble_eq_true rfl)
  rw [lg_entry_eq]
  exact w_X8_bearUpAlone hn ⟨B.exec, B.bytes, findClass_of_methodNamed B.named, fun w h => atoms_spec (ws := Cond.code yX8_bearUpAlone cX8_bearUpAlone 3 (some .boolean) :: sg_tbl) B.pre w (List.mem_cons_of_mem _ h), hK, hN⟩ hz B.returns B.notSynchronized hml (Nat.le_refl _) (Nat.le_refl _) ha_a hT_a hf _ _ _ ⟨hP, hY, va_S.rf⟩ hl
set_option maxHeartbeats 4000000 in
set_option maxRecDepth 100000 in
theorem w_X8_needed {p : Program} {l : Launch} {e : Env} {R : Room} {s : State} {m : MethodId} {args : Array Value} {below : List Frame} {meth : Method} {c : Code} {D : va_G} {cA : Nat → ClassId} {b n : Nat} (hn : sg_okN n) {a : Nat} {h : HP} {Rz : Int32 × HP} (hc : sg_Cx p s m args c cX8_needed RX8 D cA) (hz : s.heap.size = b + n) (hr : meth.sig.returnType = some .int) (hlocks : meth.locks = false) (hml : c.maxLocals = 4) (hRf : 5 ≤ R.frames) (hRl : 118 ≤ R.locals) (ha_a : a < n) (hT_a : sg_T a = 8) (hf : F_X8_needed a h = some Rz) (H : Heap) (locs : List Loc) (ls : Array Slot) (hw : sg_Wo D b cA n s.heap h H locs) (hl : lv_has ls 4 [(0, .ref (b + a))]) : W p l e R s m args below meth c H locs 0 0 (sg_Qi below args s D b cA n (fun r u => r = Rz.1 ∧ u = Rz.2)) (F0 m 0 ls []) := by
  have hx := hc.1
  have hb := hc.2.1
  have hn0 : 0 < n := sg_pos hn
  have L8 : ∀ (k : Nat) (x : (Int32 × Int32 × Int32 × HP)), F_X8_needed_L8 a k x = some Rz → ∀ (H : Heap) (locs : List Loc) (ls : Array Slot), sg_Wo D b cA n s.heap x.2.2.2 H locs → lv_has ls 4 [(0, .ref (b + a)), (1, .int x.1), (2, .int x.2.1), (3, .int x.2.2.1)] → W p l e R s m args below meth c H locs 0 0 (sg_Qi below args s D b cA n (fun r u => r = Rz.1 ∧ u = Rz.2)) (F0 m 8 ls []) := by
    unfold F_X8_needed_L8
    refine lp_walk ?_
    intro rc8 hrc8 x hf H locs ls hw hl
    obtain ⟨x1, x2, x3, h⟩ := x
    dsimp only at hf hw hl
    have J44 : ∀ (x1 : Int32) (x2 : Int32) (x3 : Int32) (h : HP) (H : Heap) (locs : List Loc) (ls : Array Slot), F_X8_needed_J44 a rc8 x1 x2 x3 h = some Rz → sg_Wo D b cA n s.heap h H locs → lv_has ls 4 [(0, .ref (b + a)), (1, .int x1), (2, .int x2), (3, .int x3)] → W p l e R s m args below meth c H locs 0 0 (sg_Qi below args s D b cA n (fun r u => r = Rz.1 ∧ u = Rz.2)) (F0 m 44 ls []) := by
      intro x1 x2 x3 h H locs ls hf hw hl
      unfold F_X8_needed_J44 at hf
      refine lv_iinc (v := (x3 + 1)) (lv' := [(3, .int (x3 + 1)), (0, .ref (b + a)), (1, .int x1), (2, .int x2)]) hx hb dX8_needed_44 hl (k := 3) rfl rfl (by decide) rfl (fun ls hl => ?_)
      refine lv_goto (tgt := 8) hx hb dX8_needed_47 (by decide) ?_
      exact hrc8 _ hf _ _ _ hw (lv_sub hl [1, 2, 3, 0] rfl)
    refine lv_iload_n hx hb dX8_needed_8 rfl (lv_at hl 3 rfl) ?_
    refine lv_iconst (v := 1) hx hb dX8_needed_9 (by decide) ?_
    refine lv_aload_n hx hb dX8_needed_10 rfl (lv_at hl 0 rfl) ?_
    obtain ⟨hF11, hT11, ha11⟩ := ft_8_3 hn ha_a hT_a
    refine sg_getf (q := (a + 15)) hc hw ha_a hT_a fr_8_3 (by decide) k_520 dX8_needed_11 hF11 ?_
    refine sg_geti hc hw ha11 hT11 fi_1_2 k_49 dX8_needed_14 ?_
    refine lv_ishl hx hb dX8_needed_17 ?_
    refine lv_icmp_ge (tgt := 50) hx hb dX8_needed_18 (by decide) (fun c18 => ?_) (fun c18 => ?_)
    · have hf := if_of c18 hf
      refine lv_iload_n hx hb dX8_needed_50 rfl (lv_at hl 1 rfl) ?_
      cases hf
      exact sg_iret hc hw hz hn0 hr hlocks ⟨rfl, rfl⟩ dX8_needed_51
    · have hf := if_no c18 hf
      refine lv_iload_n hx hb dX8_needed_21 rfl (lv_at hl 3 rfl) ?_
      obtain ⟨p22, hp22, hf⟩ := cl_of hf
      refine sg_si (rest := []) (c_J6_bitCount_0f7a4 hn (h := h) hp22) hc hw hz hn0 hml hl cs_X8_227 ⟨⟨rfl, rfl⟩, Nat.le_trans (Nat.le_of_ble_eq_true rfl) hRf, Nat.le_trans (Nat.le_of_ble_eq_true rfl) hRl⟩ ⟨Nat.zero_le _, Nat.zero_le _⟩ rfl rfl (Nat.le_of_ble_eq_true rfl) dX8_needed_22 (fun r h1 H locs hp hw => ?_)
      obtain ⟨e1, e2⟩ := hp; subst r; subst h1
      refine lv_iload_n hx hb dX8_needed_25 rfl (lv_at hl 2 rfl) ?_
      refine lv_icmp_ge (tgt := 44) hx hb dX8_needed_26 (by decide) (fun c26 => ?_) (fun c26 => ?_)
      · have hf := if_of c26 hf
        exact J44 x1 x2 x3 _ _ _ _ hf hw (lv_sub hl [0, 1, 2, 3] rfl)
      · have hf := if_no c26 hf
        refine lv_aload_n hx hb dX8_needed_29 rfl (lv_at hl 0 rfl) ?_
        refine lv_iload_n hx hb dX8_needed_30 rfl (lv_at hl 3 rfl) ?_
        obtain ⟨p31, hp31, hf⟩ := cl_of hf
        refine sg_vi (rest := []) (c_X8_bearUpAlone hn ha_a hT_a hp31) hc hw hz hml hl ha_a hT_a (by decide) rfl cv_X8_232 ⟨⟨rfl, rfl⟩, Nat.le_trans (Nat.le_of_ble_eq_true rfl) hRf, Nat.le_trans (Nat.le_of_ble_eq_true rfl) hRl⟩ ⟨Nat.zero_le _, Nat.zero_le _⟩ rfl rfl (Nat.le_of_ble_eq_true rfl) dX8_needed_31 (fun r h1 H locs hp hw => ?_)
        obtain ⟨⟨e1, e2⟩, hb31⟩ := hp; subst r; subst h1
        refine lv_if_eq (tgt := 44) hx hb dX8_needed_34 (by decide) (fun c34 => ?_) (fun c34 => ?_)
        · have hf := if_of c34 hf
          exact J44 x1 x2 x3 _ _ _ _ hf hw (lv_sub hl [0, 1, 2, 3] rfl)
        · have hf := if_no c34 hf
          refine lv_iload_n hx hb dX8_needed_37 rfl (lv_at hl 3 rfl) ?_
          refine lv_istore_n (lv' := [(1, .int x3), (0, .ref (b + a)), (2, .int x2), (3, .int x3)]) hx hb dX8_needed_38 rfl hl (by decide) rfl (fun ls hl => ?_)
          refine lv_iload_n hx hb dX8_needed_39 rfl (lv_at hl 3 rfl) ?_
          obtain ⟨p40, hp40, hf⟩ := cl_of hf
          refine sg_si (rest := []) (c_J6_bitCount_0f7a4 hn (h := p31.2) hp40) hc hw hz hn0 hml hl cs_X8_227 ⟨⟨rfl, rfl⟩, Nat.le_trans (Nat.le_of_ble_eq_true rfl) hRf, Nat.le_trans (Nat.le_of_ble_eq_true rfl) hRl⟩ ⟨Nat.zero_le _, Nat.zero_le _⟩ rfl rfl (Nat.le_of_ble_eq_true rfl) dX8_needed_40 (fun r h1 H locs hp hw => ?_)
          obtain ⟨e1, e2⟩ := hp; subst r; subst h1
          refine lv_istore_n (lv' := [(2, .int p40), (1, .int x3), (0, .ref (b + a)), (3, .int x3)]) hx hb dX8_needed_43 rfl hl (by decide) rfl (fun ls hl => ?_)
          exact J44 x3 p40 x3 _ _ _ _ hf hw (lv_sub hl [2, 1, 0, 3] rfl)
  unfold F_X8_needed at hf
  refine lv_bipush (v := (-4)) hx hb dX8_needed_0 (by decide) ?_
  refine lv_istore_n (lv' := [(1, .int (-4)), (0, .ref (b + a))]) hx hb dX8_needed_2 rfl hl (by decide) rfl (fun ls hl => ?_)
  refine lv_bipush (v := 7) hx hb dX8_needed_3 (by decide) ?_
  refine lv_istore_n (lv' := [(2, .int 7), (1, .int (-4)), (0, .ref (b + a))]) hx hb dX8_needed_5 rfl hl (by decide) rfl (fun ls hl => ?_)
  refine lv_iconst (v := 1) hx hb dX8_needed_6 (by decide) ?_
  refine lv_istore_n (lv' := [(3, .int 1), (2, .int 7), (1, .int (-4)), (0, .ref (b + a))]) hx hb dX8_needed_7 rfl hl (by decide) rfl (fun ls hl => ?_)
  exact L8 _ _ hf _ _ _ hw (lv_sub hl [3, 2, 1, 0] rfl)
theorem c_X8_needed {l : Launch} {D : va_G} {cA : Nat → ClassId} {b n : Nat} (hn : sg_okN n) {a : Nat} (ha_a : a < n) (hT_a : sg_T a = 8) {h : HP} {Rz : Int32 × HP} (hf : F_X8_needed a h = some Rz) : Met l yX8_needed (Cond.code yX8_needed cX8_needed 4 (some .int) :: sg_tbl) ({ frames := 5, cells := 0, slots := 0, locals := 118 } : Room) (va_Pc [.ref (b + a)] (sg_Wd D b cA n h)) (va_Qi (fun r u => r = Rz.1 ∧ u = Rz.2) (sg_Wd D b cA n) (sg_A b)) 0 0 (sg_A b) := by
  refine Met.ofW (cc := cX8_needed) (maxL := 4) (ret := (some .int)) (by decide) rfl ?_
  intro p e s m args below meth c s₁ B hml hv
  obtain ⟨rfl, hP, hK, hz, hY, hN⟩ := hv
  have hl := lv_entry [.ref (b + a)] (n := 4) (Nat.le_of_ble_eq_true rfl)
  rw [lg_entry_eq]
  exact w_X8_needed hn ⟨B.exec, B.bytes, findClass_of_methodNamed B.named, fun w h => atoms_spec (ws := Cond.code yX8_needed cX8_needed 4 (some .int) :: sg_tbl) B.pre w (List.mem_cons_of_mem _ h), hK, hN⟩ hz B.returns B.notSynchronized hml (Nat.le_refl _) (Nat.le_refl _) ha_a hT_a hf _ _ _ ⟨hP, hY, va_S.rf⟩ hl
set_option maxHeartbeats 4000000 in
set_option maxRecDepth 100000 in
theorem w_X8_far {p : Program} {l : Launch} {e : Env} {R : Room} {s : State} {m : MethodId} {args : Array Value} {below : List Frame} {meth : Method} {c : Code} {D : va_G} {cA : Nat → ClassId} {b n : Nat} (hn : sg_okN n) {a : Nat} {x1 : Int32} {h : HP} {Rz : Int32 × HP} (hc : sg_Cx p s m args c cX8_far RX8 D cA) (hz : s.heap.size = b + n) (hr : meth.sig.returnType = some .int) (hlocks : meth.locks = false) (hml : c.maxLocals = 2) (hRf : 12 ≤ R.frames) (hRl : 359 ≤ R.locals) (ha_a : a < n) (hT_a : sg_T a = 8) (hf : F_X8_far a x1 h = some Rz) (H : Heap) (locs : List Loc) (ls : Array Slot) (hw : sg_Wo D b cA n s.heap h H locs) (hl : lv_has ls 2 [(0, .ref (b + a)), (1, .int x1)]) : W p l e R s m args below meth c H locs 0 0 (sg_Qi below args s D b cA n (fun r u => r = Rz.1 ∧ u = Rz.2)) (F0 m 0 ls []) := by
  have hx := hc.1
  have hb := hc.2.1
  have hn0 : 0 < n := sg_pos hn
  have J18 : ∀ (h : HP) (H : Heap) (locs : List Loc) (ls : Array Slot), F_X8_far_J18 a x1 h = some Rz → sg_Wo D b cA n s.heap h H locs → lv_has ls 2 [(0, .ref (b + a)), (1, .int x1)] → W p l e R s m args below meth c H locs 0 0 (sg_Qi below args s D b cA n (fun r u => r = Rz.1 ∧ u = Rz.2)) (F0 m 18 ls []) := by
    intro h H locs ls hf hw hl
    unfold F_X8_far_J18 at hf
    refine lv_aload_n hx hb dX8_far_18 rfl (lv_at hl 0 rfl) ?_
    obtain ⟨hF19, hT19, ha19⟩ := ft_8_16 hn ha_a hT_a
    refine sg_getf (q := (a + 118)) hc hw ha_a hT_a fr_8_16 (by decide) k_533 dX8_far_19 hF19 ?_
    refine lv_iconst (v := (-1)) hx hb dX8_far_22 (by decide) ?_
    refine lv_iconst (v := 0) hx hb dX8_far_23 (by decide) ?_
    obtain ⟨p24, hp24, hf⟩ := cl_of hf
    refine sg_vv (rest := []) (c_X2_seek hn ha19 hT19 hp24) hc hw hz hml hl ha19 hT19 (by decide) rfl cv_X8_235 ⟨⟨rfl, rfl⟩, Nat.le_trans (Nat.le_of_ble_eq_true rfl) hRf, Nat.le_trans (Nat.le_of_ble_eq_true rfl) hRl⟩ ⟨Nat.zero_le _, Nat.zero_le _⟩ rfl rfl (Nat.le_of_ble_eq_true rfl) dX8_far_24 (fun h1 H locs hp hw => ?_)
    subst h1
    refine lv_iload_n hx hb dX8_far_27 rfl (lv_at hl 1 rfl) ?_
    refine lv_iconst (v := (-1)) hx hb dX8_far_28 (by decide) ?_
    refine lv_icmp_ne (tgt := 42) hx hb dX8_far_29 (by decide) (fun c29 => ?_) (fun c29 => ?_)
    · have hf := if_no c29 hf
      refine lv_aload_n hx hb dX8_far_42 rfl (lv_at hl 0 rfl) ?_
      refine sg_getf (q := (a + 118)) hc hw ha_a hT_a fr_8_16 (by decide) k_533 dX8_far_43 (ft_8_16 hn ha_a hT_a).1 ?_
      obtain ⟨hF46, hT46, ha46, hN46⟩ := ft_2_1 hn ha19 hT19
      refine sg_getf (q := (a + 119)) hc hw ha19 hT19 fr_2_1 (by decide) k_262 dX8_far_46 hF46 ?_
      refine lv_iload_n hx hb dX8_far_49 rfl (lv_at hl 1 rfl) ?_
      obtain ⟨hg50, hf⟩ := gd_of hf
      refine sg_ild hc hw ha46 hT46 hN46 hg50 dX8_far_50 ?_
      cases hf
      exact sg_iret hc hw hz hn0 hr hlocks ⟨rfl, rfl⟩ dX8_far_51
    · have hf := if_of c29 hf
      refine lv_aload_n hx hb dX8_far_32 rfl (lv_at hl 0 rfl) ?_
      refine sg_getf (q := (a + 118)) hc hw ha_a hT_a fr_8_16 (by decide) k_533 dX8_far_33 (ft_8_16 hn ha_a hT_a).1 ?_
      refine sg_geti hc hw ha19 hT19 fi_2_0 k_260 dX8_far_36 ?_
      refine lv_goto (tgt := 51) hx hb dX8_far_39 (by decide) ?_
      cases hf
      exact sg_iret hc hw hz hn0 hr hlocks ⟨rfl, rfl⟩ dX8_far_51
  unfold F_X8_far at hf
  refine lv_iload_n hx hb dX8_far_0 rfl (lv_at hl 1 rfl) ?_
  refine lv_iconst (v := (-1)) hx hb dX8_far_1 (by decide) ?_
  refine lv_icmp_eq (tgt := 18) hx hb dX8_far_2 (by decide) (fun c2 => ?_) (fun c2 => ?_)
  · have hf := if_of c2 hf
    exact J18 _ _ _ _ hf hw (lv_sub hl [0, 1] rfl)
  · have hf := if_no c2 hf
    refine lv_aload_n hx hb dX8_far_5 rfl (lv_at hl 0 rfl) ?_
    obtain ⟨hF6, hT6, ha6⟩ := ft_8_3 hn ha_a hT_a
    refine sg_getf (q := (a + 15)) hc hw ha_a hT_a fr_8_3 (by decide) k_520 dX8_far_6 hF6 ?_
    refine lv_iload_n hx hb dX8_far_9 rfl (lv_at hl 1 rfl) ?_
    obtain ⟨p10, hp10, hf⟩ := cl_of hf
    refine sg_vi (rest := []) (c_X1_hasBearer hn ha6 hT6 hp10) hc hw hz hml hl ha6 hT6 (by decide) rfl cv_X8_146 ⟨⟨rfl, rfl⟩, Nat.le_trans (Nat.le_of_ble_eq_true rfl) hRf, Nat.le_trans (Nat.le_of_ble_eq_true rfl) hRl⟩ ⟨Nat.zero_le _, Nat.zero_le _⟩ rfl rfl (Nat.le_of_ble_eq_true rfl) dX8_far_10 (fun r h1 H locs hp hw => ?_)
    obtain ⟨⟨e1, e2⟩, hb10⟩ := hp; subst r; subst h1
    refine lv_if_ne (tgt := 18) hx hb dX8_far_13 (by decide) (fun c13 => ?_) (fun c13 => ?_)
    · have hf := if_no c13 hf
      exact J18 _ _ _ _ hf hw (lv_sub hl [0, 1] rfl)
    · have hf := if_of c13 hf
      refine lv_iconst (v := (-1)) hx hb dX8_far_16 (by decide) ?_
      cases hf
      exact sg_iret hc hw hz hn0 hr hlocks ⟨rfl, rfl⟩ dX8_far_17
theorem c_X8_far {l : Launch} {D : va_G} {cA : Nat → ClassId} {b n : Nat} (hn : sg_okN n) {a : Nat} {x1 : Int32} (ha_a : a < n) (hT_a : sg_T a = 8) {h : HP} {Rz : Int32 × HP} (hf : F_X8_far a x1 h = some Rz) : Met l yX8_far (Cond.code yX8_far cX8_far 2 (some .int) :: sg_tbl) ({ frames := 12, cells := 0, slots := 0, locals := 359 } : Room) (va_Pc [.ref (b + a), .int x1] (sg_Wd D b cA n h)) (va_Qi (fun r u => r = Rz.1 ∧ u = Rz.2) (sg_Wd D b cA n) (sg_A b)) 0 0 (sg_A b) := by
  refine Met.ofW (cc := cX8_far) (maxL := 2) (ret := (some .int)) (by decide) rfl ?_
  intro p e s m args below meth c s₁ B hml hv
  obtain ⟨rfl, hP, hK, hz, hY, hN⟩ := hv
  have hl := lv_entry [.ref (b + a), .int x1] (n := 2) (Nat.le_of_ble_eq_true rfl)
  rw [lg_entry_eq]
  exact w_X8_far hn ⟨B.exec, B.bytes, findClass_of_methodNamed B.named, fun w h => atoms_spec (ws := Cond.code yX8_far cX8_far 2 (some .int) :: sg_tbl) B.pre w (List.mem_cons_of_mem _ h), hK, hN⟩ hz B.returns B.notSynchronized hml (Nat.le_refl _) (Nat.le_refl _) ha_a hT_a hf _ _ _ ⟨hP, hY, va_S.rf⟩ hl
set_option maxHeartbeats 4000000 in
set_option maxRecDepth 100000 in
theorem w_X8_son {p : Program} {l : Launch} {e : Env} {R : Room} {s : State} {m : MethodId} {args : Array Value} {below : List Frame} {meth : Method} {c : Code} {D : va_G} {cA : Nat → ClassId} {b n : Nat} (hn : sg_okN n) {a : Nat} {x1 : Int32} {x2 : Int32} {h : HP} {Rz : Int32 × HP} (hc : sg_Cx p s m args c cX8_son RX8 D cA) (hz : s.heap.size = b + n) (hr : meth.sig.returnType = some .int) (hlocks : meth.locks = false) (hml : c.maxLocals = 4) (hRf : 12 ≤ R.frames) (hRl : 359 ≤ R.locals) (ha_a : a < n) (hT_a : sg_T a = 8) (hf : F_X8_son a x1 x2 h = some Rz) (H : Heap) (locs : List Loc) (ls : Array Slot) (hw : sg_Wo D b cA n s.heap h H locs) (hl : lv_has ls 4 [(0, .ref (b + a)), (1, .int x1), (2, .int x2)]) : W p l e R s m args below meth c H locs 0 0 (sg_Qi below args s D b cA n (fun r u => r = Rz.1 ∧ u = Rz.2)) (F0 m 0 ls []) := by
  have hx := hc.1
  have hb := hc.2.1
  have hn0 : 0 < n := sg_pos hn
  unfold F_X8_son at hf
  refine lv_aload_n hx hb dX8_son_0 rfl (lv_at hl 0 rfl) ?_
  obtain ⟨hF1, hT1, ha1⟩ := ft_8_3 hn ha_a hT_a
  refine sg_getf (q := (a + 15)) hc hw ha_a hT_a fr_8_3 (by decide) k_520 dX8_son_1 hF1 ?_
  refine lv_iload_n hx hb dX8_son_4 rfl (lv_at hl 1 rfl) ?_
  obtain ⟨p5, hp5, hf⟩ := cl_of hf
  refine sg_vi (rest := []) (c_X1_hasBearer hn ha1 hT1 hp5) hc hw hz hml hl ha1 hT1 (by decide) rfl cv_X8_146 ⟨⟨rfl, rfl⟩, Nat.le_trans (Nat.le_of_ble_eq_true rfl) hRf, Nat.le_trans (Nat.le_of_ble_eq_true rfl) hRl⟩ ⟨Nat.zero_le _, Nat.zero_le _⟩ rfl rfl (Nat.le_of_ble_eq_true rfl) dX8_son_5 (fun r h1 H locs hp hw => ?_)
  obtain ⟨⟨e1, e2⟩, hb5⟩ := hp; subst r; subst h1
  refine lv_if_eq (tgt := 21) hx hb dX8_son_8 (by decide) (fun c8 => ?_) (fun c8 => ?_)
  · have hf := if_of c8 hf
    refine lv_iconst (v := (-1)) hx hb dX8_son_21 (by decide) ?_
    cases hf
    exact sg_iret hc hw hz hn0 hr hlocks ⟨rfl, rfl⟩ dX8_son_22
  · have hf := if_no c8 hf
    refine lv_iload_n hx hb dX8_son_11 rfl (lv_at hl 2 rfl) ?_
    refine lv_iconst (v := 0) hx hb dX8_son_12 (by decide) ?_
    refine lv_bipush (v := 99) hx hb dX8_son_13 (by decide) ?_
    obtain ⟨p15, hp15, hf⟩ := cl_of hf
    refine sg_si (rest := []) (c_X8_within hn (h := h) hp15) hc hw hz hn0 hml hl cs_X8_121 ⟨⟨rfl, rfl⟩, Nat.le_trans (Nat.le_of_ble_eq_true rfl) hRf, Nat.le_trans (Nat.le_of_ble_eq_true rfl) hRl⟩ ⟨Nat.zero_le _, Nat.zero_le _⟩ rfl rfl (Nat.le_of_ble_eq_true rfl) dX8_son_15 (fun r h1 H locs hp hw => ?_)
    obtain ⟨⟨e1, e2⟩, hb15⟩ := hp; subst r; subst h1
    refine lv_if_ne (tgt := 23) hx hb dX8_son_18 (by decide) (fun c18 => ?_) (fun c18 => ?_)
    · have hf := if_no c18 hf
      refine lv_aload_n hx hb dX8_son_23 rfl (lv_at hl 0 rfl) ?_
      obtain ⟨hF24, hT24, ha24⟩ := ft_8_16 hn ha_a hT_a
      refine sg_getf (q := (a + 118)) hc hw ha_a hT_a fr_8_16 (by decide) k_533 dX8_son_24 hF24 ?_
      refine lv_iconst (v := (-1)) hx hb dX8_son_27 (by decide) ?_
      refine lv_iconst (v := 0) hx hb dX8_son_28 (by decide) ?_
      obtain ⟨p29, hp29, hf⟩ := cl_of hf
      refine sg_vv (rest := []) (c_X2_seek hn ha24 hT24 hp29) hc hw hz hml hl ha24 hT24 (by decide) rfl cv_X8_235 ⟨⟨rfl, rfl⟩, Nat.le_trans (Nat.le_of_ble_eq_true rfl) hRf, Nat.le_trans (Nat.le_of_ble_eq_true rfl) hRl⟩ ⟨Nat.zero_le _, Nat.zero_le _⟩ rfl rfl (Nat.le_of_ble_eq_true rfl) dX8_son_29 (fun h1 H locs hp hw => ?_)
      subst h1
      refine lv_aload_n hx hb dX8_son_32 rfl (lv_at hl 0 rfl) ?_
      refine sg_getf (q := (a + 118)) hc hw ha_a hT_a fr_8_16 (by decide) k_533 dX8_son_33 (ft_8_16 hn ha_a hT_a).1 ?_
      refine sg_geti hc hw ha24 hT24 fi_2_0 k_260 dX8_son_36 ?_
      refine lv_topi (fun v39 e39 => ?_)
      have hf := nm_of e39 hf
      refine lv_istore_n (lv' := [(3, .int v39), (0, .ref (b + a)), (1, .int x1), (2, .int x2)]) hx hb dX8_son_39 rfl hl (by decide) rfl (fun ls hl => ?_)
      refine lv_aload_n hx hb dX8_son_40 rfl (lv_at hl 1 rfl) ?_
      refine sg_getf (q := (a + 118)) hc hw ha_a hT_a fr_8_16 (by decide) k_533 dX8_son_41 (ft_8_16 hn ha_a hT_a).1 ?_
      refine lv_iload_n hx hb dX8_son_44 rfl (lv_at hl 2 rfl) ?_
      refine lv_iload_n hx hb dX8_son_45 rfl (lv_at hl 3 rfl) ?_
      obtain ⟨p46, hp46, hf⟩ := cl_of hf
      refine sg_vv (rest := []) (c_X2_seek hn ha24 hT24 hp46) hc hw hz hml hl ha24 hT24 (by decide) rfl cv_X8_235 ⟨⟨rfl, rfl⟩, Nat.le_trans (Nat.le_of_ble_eq_true rfl) hRf, Nat.le_trans (Nat.le_of_ble_eq_true rfl) hRl⟩ ⟨Nat.zero_le _, Nat.zero_le _⟩ rfl rfl (Nat.le_of_ble_eq_true rfl) dX8_son_46 (fun h1 H locs hp hw => ?_)
      subst h1
      refine lv_aload_n hx hb dX8_son_49 rfl (lv_at hl 1 rfl) ?_
      refine sg_getf (q := (a + 118)) hc hw ha_a hT_a fr_8_16 (by decide) k_533 dX8_son_50 (ft_8_16 hn ha_a hT_a).1 ?_
      refine sg_geti hc hw ha24 hT24 fi_2_0 k_260 dX8_son_53 ?_
      refine lv_iload_n hx hb dX8_son_56 rfl (lv_at hl 0 rfl) ?_
      refine lv_isub hx hb dX8_son_57 ?_
      cases hf
      exact sg_iret hc hw hz hn0 hr hlocks ⟨rfl, rfl⟩ dX8_son_58
    · have hf := if_of c18 hf
      refine lv_iconst (v := (-1)) hx hb dX8_son_21 (by decide) ?_
      cases hf
      exact sg_iret hc hw hz hn0 hr hlocks ⟨rfl, rfl⟩ dX8_son_22
theorem c_X8_son {l : Launch} {D : va_G} {cA : Nat → ClassId} {b n : Nat} (hn : sg_okN n) {a : Nat} {x1 : Int32} {x2 : Int32} (ha_a : a < n) (hT_a : sg_T a = 8) {h : HP} {Rz : Int32 × HP} (hf : F_X8_son a x1 x2 h = some Rz) : Met l yX8_son (Cond.code yX8_son cX8_son 4 (some .int) :: sg_tbl) ({ frames := 12, cells := 0, slots := 0, locals := 359 } : Room) (va_Pc [.ref (b + a), .int x1, .int x2] (sg_Wd D b cA n h)) (va_Qi (fun r u => r = Rz.1 ∧ u = Rz.2) (sg_Wd D b cA n) (sg_A b)) 0 0 (sg_A b) := by
  refine Met.ofW (cc := cX8_son) (maxL := 4) (ret := (some .int)) (by decide) rfl ?_
  intro p e s m args below meth c s₁ B hml hv
  obtain ⟨rfl, hP, hK, hz, hY, hN⟩ := hv
  have hl := lv_entry [.ref (b + a), .int x1, .int x2] (n := 4) (Nat.le_of_ble_eq_true rfl)
  rw [lg_entry_eq]
  exact w_X8_son hn ⟨B.exec, B.bytes, findClass_of_methodNamed B.named, fun w h => atoms_spec (ws := Cond.code yX8_son cX8_son 4 (some .int) :: sg_tbl) B.pre w (List.mem_cons_of_mem _ h), hK, hN⟩ hz B.returns B.notSynchronized hml (Nat.le_refl _) (Nat.le_refl _) ha_a hT_a hf _ _ _ ⟨hP, hY, va_S.rf⟩ hl
set_option maxHeartbeats 4000000 in
set_option maxRecDepth 100000 in
theorem w_X8_cairn {p : Program} {l : Launch} {e : Env} {R : Room} {s : State} {m : MethodId} {args : Array Value} {below : List Frame} {meth : Method} {c : Code} {D : va_G} {cA : Nat → ClassId} {b n : Nat} (hn : sg_okN n) {a : Nat} {x1 : Int32} {x2 : Int32} {x3 : Int32} {h : HP} {Rz : Int32 × HP} (hc : sg_Cx p s m args c cX8_cairn RX8 D cA) (hz : s.heap.size = b + n) (hr : meth.sig.returnType = some .int) (hlocks : meth.locks = false) (hml : c.maxLocals = 4) (hRf : 4 ≤ R.frames) (hRl : 121 ≤ R.locals) (ha_a : a < n) (hT_a : sg_T a = 8) (hf : F_X8_cairn a x1 x2 x3 h = some Rz) (H : Heap) (locs : List Loc) (ls : Array Slot) (hw : sg_Wo D b cA n s.heap h H locs) (hl : lv_has ls 4 [(0, .ref (b + a)), (1, .int x1), (2, .int x2), (3, .int x3)]) : W p l e R s m args below meth c H locs 0 0 (sg_Qi below args s D b cA n (fun r u => r = Rz.1 ∧ u = Rz.2)) (F0 m 0 ls []) := by
  have hx := hc.1
  have hb := hc.2.1
  have hn0 : 0 < n := sg_pos hn
  unfold F_X8_cairn at hf
  refine lv_aload_n hx hb dX8_cairn_0 rfl (lv_at hl 0 rfl) ?_
  obtain ⟨hF1, hT1, ha1⟩ := ft_8_3 hn ha_a hT_a
  refine sg_getf (q := (a + 15)) hc hw ha_a hT_a fr_8_3 (by decide) k_520 dX8_cairn_1 hF1 ?_
  refine lv_iload_n hx hb dX8_cairn_4 rfl (lv_at hl 1 rfl) ?_
  obtain ⟨p5, hp5, hf⟩ := cl_of hf
  refine sg_vi (rest := []) (c_X1_hasBearer hn ha1 hT1 hp5) hc hw hz hml hl ha1 hT1 (by decide) rfl cv_X8_146 ⟨⟨rfl, rfl⟩, Nat.le_trans (Nat.le_of_ble_eq_true rfl) hRf, Nat.le_trans (Nat.le_of_ble_eq_true rfl) hRl⟩ ⟨Nat.zero_le _, Nat.zero_le _⟩ rfl rfl (Nat.le_of_ble_eq_true rfl) dX8_cairn_5 (fun r h1 H locs hp hw => ?_)
  obtain ⟨⟨e1, e2⟩, hb5⟩ := hp; subst r; subst h1
  refine lv_if_eq (tgt := 37) hx hb dX8_cairn_8 (by decide) (fun c8 => ?_) (fun c8 => ?_)
  · have hf := if_of c8 hf
    refine lv_iconst (v := (-1)) hx hb dX8_cairn_37 (by decide) ?_
    cases hf
    exact sg_iret hc hw hz hn0 hr hlocks ⟨rfl, rfl⟩ dX8_cairn_38
  · have hf := if_no c8 hf
    refine lv_aload_n hx hb dX8_cairn_11 rfl (lv_at hl 0 rfl) ?_
    refine sg_getf (q := (a + 15)) hc hw ha_a hT_a fr_8_3 (by decide) k_520 dX8_cairn_12 (ft_8_3 hn ha_a hT_a).1 ?_
    refine lv_iload_n hx hb dX8_cairn_15 rfl (lv_at hl 2 rfl) ?_
    obtain ⟨p16, hp16, hf⟩ := cl_of hf
    refine sg_vi (rest := []) (c_X1_hasStretch hn ha1 hT1 hp16) hc hw hz hml hl ha1 hT1 (by decide) rfl cv_X8_244 ⟨⟨rfl, rfl⟩, Nat.le_trans (Nat.le_of_ble_eq_true rfl) hRf, Nat.le_trans (Nat.le_of_ble_eq_true rfl) hRl⟩ ⟨Nat.zero_le _, Nat.zero_le _⟩ rfl rfl (Nat.le_of_ble_eq_true rfl) dX8_cairn_16 (fun r h1 H locs hp hw => ?_)
    obtain ⟨⟨e1, e2⟩, hb16⟩ := hp; subst r; subst h1
    refine lv_if_eq (tgt := 37) hx hb dX8_cairn_19 (by decide) (fun c19 => ?_) (fun c19 => ?_)
    · have hf := if_of c19 hf
      refine lv_iconst (v := (-1)) hx hb dX8_cairn_37 (by decide) ?_
      cases hf
      exact sg_iret hc hw hz hn0 hr hlocks ⟨rfl, rfl⟩ dX8_cairn_38
    · have hf := if_no c19 hf
      refine lv_iload_n hx hb dX8_cairn_22 rfl (lv_at hl 3 rfl) ?_
      refine lv_bipush (v := (-9)) hx hb dX8_cairn_23 (by decide) ?_
      refine lv_bipush (v := 9) hx hb dX8_cairn_25 (by decide) ?_
      obtain ⟨p27, hp27, hf⟩ := cl_of hf
      refine sg_si (rest := []) (c_X8_within hn (h := h) hp27) hc hw hz hn0 hml hl cs_X8_121 ⟨⟨rfl, rfl⟩, Nat.le_trans (Nat.le_of_ble_eq_true rfl) hRf, Nat.le_trans (Nat.le_of_ble_eq_true rfl) hRl⟩ ⟨Nat.zero_le _, Nat.zero_le _⟩ rfl rfl (Nat.le_of_ble_eq_true rfl) dX8_cairn_27 (fun r h1 H locs hp hw => ?_)
      obtain ⟨⟨e1, e2⟩, hb27⟩ := hp; subst r; subst h1
      refine lv_if_eq (tgt := 37) hx hb dX8_cairn_30 (by decide) (fun c30 => ?_) (fun c30 => ?_)
      · have hf := if_of c30 hf
        refine lv_iconst (v := (-1)) hx hb dX8_cairn_37 (by decide) ?_
        cases hf
        exact sg_iret hc hw hz hn0 hr hlocks ⟨rfl, rfl⟩ dX8_cairn_38
      · have hf := if_no c30 hf
        refine lv_iload_n hx hb dX8_cairn_33 rfl (lv_at hl 3 rfl) ?_
        refine lv_if_ne (tgt := 39) hx hb dX8_cairn_34 (by decide) (fun c34 => ?_) (fun c34 => ?_)
        · have hf := if_no c34 hf
          refine lv_aload_n hx hb dX8_cairn_39 rfl (lv_at hl 0 rfl) ?_
          obtain ⟨hF40, hT40, ha40⟩ := ft_8_4 hn ha_a hT_a
          refine sg_getf (q := (a + 22)) hc hw ha_a hT_a fr_8_4 (by decide) k_521 dX8_cairn_40 hF40 ?_
          refine lv_aload_n hx hb dX8_cairn_43 rfl (lv_at hl 0 rfl) ?_
          refine sg_getf (q := (a + 15)) hc hw ha_a hT_a fr_8_3 (by decide) k_520 dX8_cairn_44 (ft_8_3 hn ha_a hT_a).1 ?_
          obtain ⟨p47, hp47, hf⟩ := cl_of hf
          refine sg_vv (rest := []) (c_X1_copy hn ha40 hT40 ha1 hT1 hp47) hc hw hz hml hl ha40 hT40 (by decide) rfl cv_X8_247 ⟨⟨rfl, rfl⟩, Nat.le_trans (Nat.le_of_ble_eq_true rfl) hRf, Nat.le_trans (Nat.le_of_ble_eq_true rfl) hRl⟩ ⟨Nat.zero_le _, Nat.zero_le _⟩ rfl rfl (Nat.le_of_ble_eq_true rfl) dX8_cairn_47 (fun h1 H locs hp hw => ?_)
          subst h1
          refine lv_aload_n hx hb dX8_cairn_50 rfl (lv_at hl 0 rfl) ?_
          refine sg_getf (q := (a + 22)) hc hw ha_a hT_a fr_8_4 (by decide) k_521 dX8_cairn_51 (ft_8_4 hn ha_a hT_a).1 ?_
          refine lv_iload_n hx hb dX8_cairn_54 rfl (lv_at hl 2 rfl) ?_
          refine lv_iload_n hx hb dX8_cairn_55 rfl (lv_at hl 3 rfl) ?_
          obtain ⟨p56, hp56, hf⟩ := cl_of hf
          refine sg_vi (rest := []) (c_X1_moveBorder hn ha40 hT40 hp56) hc hw hz hml hl ha40 hT40 (by decide) rfl cv_X8_250 ⟨⟨rfl, rfl⟩, Nat.le_trans (Nat.le_of_ble_eq_true rfl) hRf, Nat.le_trans (Nat.le_of_ble_eq_true rfl) hRl⟩ ⟨Nat.zero_le _, Nat.zero_le _⟩ rfl rfl (Nat.le_of_ble_eq_true rfl) dX8_cairn_56 (fun r h1 H locs hp hw => ?_)
          obtain ⟨⟨e1, e2⟩, hb56⟩ := hp; subst r; subst h1
          refine lv_if_ne (tgt := 65) hx hb dX8_cairn_59 (by decide) (fun c59 => ?_) (fun c59 => ?_)
          · have hf := if_no c59 hf
            refine lv_aload_n hx hb dX8_cairn_65 rfl (lv_at hl 0 rfl) ?_
            obtain ⟨hF66, hT66, ha66⟩ := ft_8_14 hn ha_a hT_a
            refine sg_getf (q := (a + 88)) hc hw ha_a hT_a fr_8_14 (by decide) k_531 dX8_cairn_66 hF66 ?_
            refine lv_aload_n hx hb dX8_cairn_69 rfl (lv_at hl 0 rfl) ?_
            refine sg_getf (q := (a + 22)) hc hw ha_a hT_a fr_8_4 (by decide) k_521 dX8_cairn_70 (ft_8_4 hn ha_a hT_a).1 ?_
            obtain ⟨p73, hp73, hf⟩ := cl_of hf
            refine sg_vv (rest := []) (c_X7_begin hn ha66 hT66 ha40 hT40 hp73) hc hw hz hml hl ha66 hT66 (by decide) rfl cv_X8_253 ⟨⟨rfl, rfl⟩, Nat.le_trans (Nat.le_of_ble_eq_true rfl) hRf, Nat.le_trans (Nat.le_of_ble_eq_true rfl) hRl⟩ ⟨Nat.zero_le _, Nat.zero_le _⟩ rfl rfl (Nat.le_of_ble_eq_true rfl) dX8_cairn_73 (fun h1 H locs hp hw => ?_)
            subst h1
            refine lv_aload_n hx hb dX8_cairn_76 rfl (lv_at hl 0 rfl) ?_
            refine sg_getf (q := (a + 88)) hc hw ha_a hT_a fr_8_14 (by decide) k_531 dX8_cairn_77 (ft_8_14 hn ha_a hT_a).1 ?_
            refine lv_aload_n hx hb dX8_cairn_80 rfl (lv_at hl 0 rfl) ?_
            obtain ⟨hF81, hT81, ha81, hN81⟩ := ft_8_11 hn ha_a hT_a
            refine sg_getf (q := (a + 79)) hc hw ha_a hT_a fr_8_11 (by decide) k_528 dX8_cairn_81 hF81 ?_
            obtain ⟨p84, hp84, hf⟩ := cl_of hf
            refine sg_vv (rest := []) (c_X7_go hn ha66 hT66 ha81 hT81 hp84) hc hw hz hml hl ha66 hT66 (by decide) rfl cv_X8_256 ⟨⟨rfl, rfl⟩, Nat.le_trans (Nat.le_of_ble_eq_true rfl) hRf, Nat.le_trans (Nat.le_of_ble_eq_true rfl) hRl⟩ ⟨Nat.zero_le _, Nat.zero_le _⟩ rfl rfl (Nat.le_of_ble_eq_true rfl) dX8_cairn_84 (fun h1 H locs hp hw => ?_)
            subst h1
            refine lv_aload_n hx hb dX8_cairn_87 rfl (lv_at hl 0 rfl) ?_
            refine sg_getf (q := (a + 88)) hc hw ha_a hT_a fr_8_14 (by decide) k_531 dX8_cairn_88 (ft_8_14 hn ha_a hT_a).1 ?_
            refine lv_iload_n hx hb dX8_cairn_91 rfl (lv_at hl 1 rfl) ?_
            obtain ⟨p92, hp92, hf⟩ := cl_of hf
            refine sg_vi (rest := []) (c_X7_acres hn ha66 hT66 hp92) hc hw hz hml hl ha66 hT66 (by decide) rfl cv_X8_158 ⟨⟨rfl, rfl⟩, Nat.le_trans (Nat.le_of_ble_eq_true rfl) hRf, Nat.le_trans (Nat.le_of_ble_eq_true rfl) hRl⟩ ⟨Nat.zero_le _, Nat.zero_le _⟩ rfl rfl (Nat.le_of_ble_eq_true rfl) dX8_cairn_92 (fun r h1 H locs hp hw => ?_)
            obtain ⟨e1, e2⟩ := hp; subst r; subst h1
            refine lv_aload_n hx hb dX8_cairn_95 rfl (lv_at hl 0 rfl) ?_
            obtain ⟨hF96, hT96, ha96⟩ := ft_8_13 hn ha_a hT_a
            refine sg_getf (q := (a + 81)) hc hw ha_a hT_a fr_8_13 (by decide) k_530 dX8_cairn_96 hF96 ?_
            refine lv_iload_n hx hb dX8_cairn_99 rfl (lv_at hl 1 rfl) ?_
            obtain ⟨p100, hp100, hf⟩ := cl_of hf
            refine sg_vi (rest := [.int p92]) (c_X7_acres hn ha96 hT96 hp100) hc hw hz hml hl ha96 hT96 (by decide) rfl cv_X8_158 ⟨⟨rfl, rfl⟩, Nat.le_trans (Nat.le_of_ble_eq_true rfl) hRf, Nat.le_trans (Nat.le_of_ble_eq_true rfl) hRl⟩ ⟨Nat.zero_le _, Nat.zero_le _⟩ rfl rfl (Nat.le_of_ble_eq_true rfl) dX8_cairn_100 (fun r h1 H locs hp hw => ?_)
            obtain ⟨e1, e2⟩ := hp; subst r; subst h1
            refine lv_isub hx hb dX8_cairn_103 ?_
            refine lv_sipush (v := 9999) hx hb dX8_cairn_104 (by decide) ?_
            refine lv_iadd hx hb dX8_cairn_107 ?_
            cases hf
            exact sg_iret hc hw hz hn0 hr hlocks ⟨rfl, rfl⟩ dX8_cairn_108
          · have hf := if_of c59 hf
            refine lv_bipush (v := (-2)) hx hb dX8_cairn_62 (by decide) ?_
            cases hf
            exact sg_iret hc hw hz hn0 hr hlocks ⟨rfl, rfl⟩ dX8_cairn_64
        · have hf := if_of c34 hf
          refine lv_iconst (v := (-1)) hx hb dX8_cairn_37 (by decide) ?_
          cases hf
          exact sg_iret hc hw hz hn0 hr hlocks ⟨rfl, rfl⟩ dX8_cairn_38
theorem c_X8_cairn {l : Launch} {D : va_G} {cA : Nat → ClassId} {b n : Nat} (hn : sg_okN n) {a : Nat} {x1 : Int32} {x2 : Int32} {x3 : Int32} (ha_a : a < n) (hT_a : sg_T a = 8) {h : HP} {Rz : Int32 × HP} (hf : F_X8_cairn a x1 x2 x3 h = some Rz) : Met l yX8_cairn (Cond.code yX8_cairn cX8_cairn 4 (some .int) :: sg_tbl) ({ frames := 4, cells := 0, slots := 0, locals := 121 } : Room) (va_Pc [.ref (b + a), .int x1, .int x2, .int x3] (sg_Wd D b cA n h)) (va_Qi (fun r u => r = Rz.1 ∧ u = Rz.2) (sg_Wd D b cA n) (sg_A b)) 0 0 (sg_A b) := by
  refine Met.ofW (cc := cX8_cairn) (maxL := 4) (ret := (some .int)) (by decide) rfl ?_
  intro p e s m args below meth c s₁ B hml hv
  obtain ⟨rfl, hP, hK, hz, hY, hN⟩ := hv
  have hl := lv_entry [.ref (b + a), .int x1, .int x2, .int x3] (n := 4) (Nat.le_of_ble_eq_true rfl)
  rw [lg_entry_eq]
  exact w_X8_cairn hn ⟨B.exec, B.bytes, findClass_of_methodNamed B.named, fun w h => atoms_spec (ws := Cond.code yX8_cairn cX8_cairn 4 (some .int) :: sg_tbl) B.pre w (List.mem_cons_of_mem _ h), hK, hN⟩ hz B.returns B.notSynchronized hml (Nat.le_refl _) (Nat.le_refl _) ha_a hT_a hf _ _ _ ⟨hP, hY, va_S.rf⟩ hl
set_option maxHeartbeats 4000000 in
set_option maxRecDepth 100000 in
theorem w_X8_heir {p : Program} {l : Launch} {e : Env} {R : Room} {s : State} {m : MethodId} {args : Array Value} {below : List Frame} {meth : Method} {c : Code} {D : va_G} {cA : Nat → ClassId} {b n : Nat} (hn : sg_okN n) {a : Nat} {x1 : Int32} {h : HP} {Rz : Int32} (hc : sg_Cx p s m args c cX8_heir RX8 D cA) (hz : s.heap.size = b + n) (hr : meth.sig.returnType = some .int) (hlocks : meth.locks = false) (hml : c.maxLocals = 2) (hRf : 5 ≤ R.frames) (hRl : 108 ≤ R.locals) (ha_a : a < n) (hT_a : sg_T a = 8) (hf : F_X8_heir a x1 h = some Rz) (H : Heap) (locs : List Loc) (ls : Array Slot) (hw : sg_Wo D b cA n s.heap h H locs) (hl : lv_has ls 2 [(0, .ref (b + a)), (1, .int x1)]) : W p l e R s m args below meth c H locs 0 0 (sg_Qi below args s D b cA n (fun r u => r = Rz ∧ u = h)) (F0 m 0 ls []) := by
  have hx := hc.1
  have hb := hc.2.1
  have hn0 : 0 < n := sg_pos hn
  unfold F_X8_heir at hf
  refine lv_iload_n hx hb dX8_heir_0 rfl (lv_at hl 1 rfl) ?_
  refine lv_iconst (v := 0) hx hb dX8_heir_1 (by decide) ?_
  refine lv_iconst (v := 2) hx hb dX8_heir_2 (by decide) ?_
  obtain ⟨p3, hp3, hf⟩ := cl_of hf
  refine sg_si (rest := []) (c_X8_within hn (h := h) hp3) hc hw hz hn0 hml hl cs_X8_121 ⟨⟨rfl, rfl⟩, Nat.le_trans (Nat.le_of_ble_eq_true rfl) hRf, Nat.le_trans (Nat.le_of_ble_eq_true rfl) hRl⟩ ⟨Nat.zero_le _, Nat.zero_le _⟩ rfl rfl (Nat.le_of_ble_eq_true rfl) dX8_heir_3 (fun r h1 H locs hp hw => ?_)
  obtain ⟨⟨e1, e2⟩, hb3⟩ := hp; subst r; subst h1
  refine lv_if_ne (tgt := 11) hx hb dX8_heir_6 (by decide) (fun c6 => ?_) (fun c6 => ?_)
  · have hf := if_no c6 hf
    refine lv_aload_n hx hb dX8_heir_11 rfl (lv_at hl 0 rfl) ?_
    obtain ⟨hF12, hT12, ha12⟩ := ft_8_13 hn ha_a hT_a
    refine sg_getf (q := (a + 81)) hc hw ha_a hT_a fr_8_13 (by decide) k_530 dX8_heir_12 hF12 ?_
    refine lv_iload_n hx hb dX8_heir_15 rfl (lv_at hl 1 rfl) ?_
    obtain ⟨p16, hp16, hf⟩ := cl_of hf
    refine sg_vi (rest := []) (c_X7_first hn ha12 hT12 hp16) hc hw hz hml hl ha12 hT12 (by decide) rfl cv_X8_260 ⟨⟨rfl, rfl⟩, Nat.le_trans (Nat.le_of_ble_eq_true rfl) hRf, Nat.le_trans (Nat.le_of_ble_eq_true rfl) hRl⟩ ⟨Nat.zero_le _, Nat.zero_le _⟩ rfl rfl (Nat.le_of_ble_eq_true rfl) dX8_heir_16 (fun r h1 H locs hp hw => ?_)
    obtain ⟨e1, e2⟩ := hp; subst r; subst h1
    cases hf
    exact sg_iret hc hw hz hn0 hr hlocks ⟨rfl, rfl⟩ dX8_heir_19
  · have hf := if_of c6 hf
    refine lv_iconst (v := (-1)) hx hb dX8_heir_9 (by decide) ?_
    cases hf
    exact sg_iret hc hw hz hn0 hr hlocks ⟨rfl, rfl⟩ dX8_heir_10
theorem c_X8_heir {l : Launch} {D : va_G} {cA : Nat → ClassId} {b n : Nat} (hn : sg_okN n) {a : Nat} {x1 : Int32} (ha_a : a < n) (hT_a : sg_T a = 8) {h : HP} {Rz : Int32} (hf : F_X8_heir a x1 h = some Rz) : Met l yX8_heir (Cond.code yX8_heir cX8_heir 2 (some .int) :: sg_tbl) ({ frames := 5, cells := 0, slots := 0, locals := 108 } : Room) (va_Pc [.ref (b + a), .int x1] (sg_Wd D b cA n h)) (va_Qi (fun r u => r = Rz ∧ u = h) (sg_Wd D b cA n) (sg_A b)) 0 0 (sg_A b) := by
  refine Met.ofW (cc := cX8_heir) (maxL := 2) (ret := (some .int)) (by decide) rfl ?_
  intro p e s m args below meth c s₁ B hml hv
  obtain ⟨rfl, hP, hK, hz, hY, hN⟩ := hv
  have hl := lv_entry [.ref (b + a), .int x1] (n := 2) (Nat.le_of_ble_eq_true rfl)
  rw [lg_entry_eq]
  exact w_X8_heir hn ⟨B.exec, B.bytes, findClass_of_methodNamed B.named, fun w h => atoms_spec (ws := Cond.code yX8_heir cX8_heir 2 (some .int) :: sg_tbl) B.pre w (List.mem_cons_of_mem _ h), hK, hN⟩ hz B.returns B.notSynchronized hml (Nat.le_refl _) (Nat.le_refl _) ha_a hT_a hf _ _ _ ⟨hP, hY, va_S.rf⟩ hl
set_option maxHeartbeats 4000000 in
set_option maxRecDepth 100000 in
theorem w_X8_rests {p : Program} {l : Launch} {e : Env} {R : Room} {s : State} {m : MethodId} {args : Array Value} {below : List Frame} {meth : Method} {c : Code} {D : va_G} {cA : Nat → ClassId} {b n : Nat} (hn : sg_okN n) {a : Nat} {x1 : Int32} {x2 : Int32} {x3 : Int32} {h : HP} {Rz : Int32 × HP} (hc : sg_Cx p s m args c cX8_rests RX8 D cA) (hz : s.heap.size = b + n) (hr : meth.sig.returnType = some .int) (hlocks : meth.locks = false) (hml : c.maxLocals = 4) (hRf : 6 ≤ R.frames) (hRl : 151 ≤ R.locals) (ha_a : a < n) (hT_a : sg_T a = 8) (hf : F_X8_rests a x1 x2 x3 h = some Rz) (H : Heap) (locs : List Loc) (ls : Array Slot) (hw : sg_Wo D b cA n s.heap h H locs) (hl : lv_has ls 4 [(0, .ref (b + a)), (1, .int x1), (2, .int x2), (3, .int x3)]) : W p l e R s m args below meth c H locs 0 0 (sg_Qi below args s D b cA n (fun r u => r = Rz.1 ∧ u = Rz.2)) (F0 m 0 ls []) := by
  have hx := hc.1
  have hb := hc.2.1
  have hn0 : 0 < n := sg_pos hn
  unfold F_X8_rests at hf
  refine lv_aload_n hx hb dX8_rests_0 rfl (lv_at hl 0 rfl) ?_
  obtain ⟨hF1, hT1, ha1⟩ := ft_8_3 hn ha_a hT_a
  refine sg_getf (q := (a + 15)) hc hw ha_a hT_a fr_8_3 (by decide) k_520 dX8_rests_1 hF1 ?_
  refine lv_iload_n hx hb dX8_rests_4 rfl (lv_at hl 1 rfl) ?_
  obtain ⟨p5, hp5, hf⟩ := cl_of hf
  refine sg_vi (rest := []) (c_X1_hasBearer hn ha1 hT1 hp5) hc hw hz hml hl ha1 hT1 (by decide) rfl cv_X8_146 ⟨⟨rfl, rfl⟩, Nat.le_trans (Nat.le_of_ble_eq_true rfl) hRf, Nat.le_trans (Nat.le_of_ble_eq_true rfl) hRl⟩ ⟨Nat.zero_le _, Nat.zero_le _⟩ rfl rfl (Nat.le_of_ble_eq_true rfl) dX8_rests_5 (fun r h1 H locs hp hw => ?_)
  obtain ⟨⟨e1, e2⟩, hb5⟩ := hp; subst r; subst h1
  refine lv_if_eq (tgt := 36) hx hb dX8_rests_8 (by decide) (fun c8 => ?_) (fun c8 => ?_)
  · have hf := if_of c8 hf
    refine lv_iconst (v := (-1)) hx hb dX8_rests_36 (by decide) ?_
    cases hf
    exact sg_iret hc hw hz hn0 hr hlocks ⟨rfl, rfl⟩ dX8_rests_37
  · have hf := if_no c8 hf
    refine lv_aload_n hx hb dX8_rests_11 rfl (lv_at hl 0 rfl) ?_
    refine sg_getf (q := (a + 15)) hc hw ha_a hT_a fr_8_3 (by decide) k_520 dX8_rests_12 (ft_8_3 hn ha_a hT_a).1 ?_
    refine lv_iload_n hx hb dX8_rests_15 rfl (lv_at hl 2 rfl) ?_
    obtain ⟨p16, hp16, hf⟩ := cl_of hf
    refine sg_vi (rest := []) (c_X1_hasBearer hn ha1 hT1 hp16) hc hw hz hml hl ha1 hT1 (by decide) rfl cv_X8_146 ⟨⟨rfl, rfl⟩, Nat.le_trans (Nat.le_of_ble_eq_true rfl) hRf, Nat.le_trans (Nat.le_of_ble_eq_true rfl) hRl⟩ ⟨Nat.zero_le _, Nat.zero_le _⟩ rfl rfl (Nat.le_of_ble_eq_true rfl) dX8_rests_16 (fun r h1 H locs hp hw => ?_)
    obtain ⟨⟨e1, e2⟩, hb16⟩ := hp; subst r; subst h1
    refine lv_if_eq (tgt := 36) hx hb dX8_rests_19 (by decide) (fun c19 => ?_) (fun c19 => ?_)
    · have hf := if_of c19 hf
      refine lv_iconst (v := (-1)) hx hb dX8_rests_36 (by decide) ?_
      cases hf
      exact sg_iret hc hw hz hn0 hr hlocks ⟨rfl, rfl⟩ dX8_rests_37
    · have hf := if_no c19 hf
      refine lv_iload_n hx hb dX8_rests_22 rfl (lv_at hl 1 rfl) ?_
      refine lv_iload_n hx hb dX8_rests_23 rfl (lv_at hl 2 rfl) ?_
      refine lv_icmp_eq (tgt := 36) hx hb dX8_rests_24 (by decide) (fun c24 => ?_) (fun c24 => ?_)
      · have hf := if_of c24 hf
        refine lv_iconst (v := (-1)) hx hb dX8_rests_36 (by decide) ?_
        cases hf
        exact sg_iret hc hw hz hn0 hr hlocks ⟨rfl, rfl⟩ dX8_rests_37
      · have hf := if_no c24 hf
        refine lv_iload_n hx hb dX8_rests_27 rfl (lv_at hl 3 rfl) ?_
        refine lv_iconst (v := 0) hx hb dX8_rests_28 (by decide) ?_
        refine lv_iconst (v := 1) hx hb dX8_rests_29 (by decide) ?_
        obtain ⟨p30, hp30, hf⟩ := cl_of hf
        refine sg_si (rest := []) (c_X8_within hn (h := h) hp30) hc hw hz hn0 hml hl cs_X8_121 ⟨⟨rfl, rfl⟩, Nat.le_trans (Nat.le_of_ble_eq_true rfl) hRf, Nat.le_trans (Nat.le_of_ble_eq_true rfl) hRl⟩ ⟨Nat.zero_le _, Nat.zero_le _⟩ rfl rfl (Nat.le_of_ble_eq_true rfl) dX8_rests_30 (fun r h1 H locs hp hw => ?_)
        obtain ⟨⟨e1, e2⟩, hb30⟩ := hp; subst r; subst h1
        refine lv_if_ne (tgt := 38) hx hb dX8_rests_33 (by decide) (fun c33 => ?_) (fun c33 => ?_)
        · have hf := if_no c33 hf
          refine lv_aload_n hx hb dX8_rests_38 rfl (lv_at hl 0 rfl) ?_
          obtain ⟨hF39, hT39, ha39⟩ := ft_8_17 hn ha_a hT_a
          refine sg_getf (q := (a + 121)) hc hw ha_a hT_a fr_8_17 (by decide) k_534 dX8_rests_39 hF39 ?_
          refine lv_iload_n hx hb dX8_rests_42 rfl (lv_at hl 1 rfl) ?_
          refine lv_iload_n hx hb dX8_rests_43 rfl (lv_at hl 2 rfl) ?_
          obtain ⟨p44, hp44, hf⟩ := cl_of hf
          refine sg_vv (rest := []) (c_X0_weigh hn ha39 hT39 hp44) hc hw hz hml hl ha39 hT39 (by decide) rfl cv_X8_263 ⟨⟨rfl, rfl⟩, Nat.le_trans (Nat.le_of_ble_eq_true rfl) hRf, Nat.le_trans (Nat.le_of_ble_eq_true rfl) hRl⟩ ⟨Nat.zero_le _, Nat.zero_le _⟩ rfl rfl (Nat.le_of_ble_eq_true rfl) dX8_rests_44 (fun h1 H locs hp hw => ?_)
          subst h1
          refine lv_iload_n hx hb dX8_rests_47 rfl (lv_at hl 3 rfl) ?_
          refine lv_if_ne (tgt := 61) hx hb dX8_rests_48 (by decide) (fun c48 => ?_) (fun c48 => ?_)
          · have hf := if_no c48 hf
            refine lv_aload_n hx hb dX8_rests_61 rfl (lv_at hl 0 rfl) ?_
            refine sg_getf (q := (a + 121)) hc hw ha_a hT_a fr_8_17 (by decide) k_534 dX8_rests_62 (ft_8_17 hn ha_a hT_a).1 ?_
            refine sg_geti hc hw ha39 hT39 fi_0_1 k_291 dX8_rests_65 ?_
            cases hf
            exact sg_iret hc hw hz hn0 hr hlocks ⟨rfl, rfl⟩ dX8_rests_68
          · have hf := if_of c48 hf
            refine lv_aload_n hx hb dX8_rests_51 rfl (lv_at hl 0 rfl) ?_
            refine sg_getf (q := (a + 121)) hc hw ha_a hT_a fr_8_17 (by decide) k_534 dX8_rests_52 (ft_8_17 hn ha_a hT_a).1 ?_
            refine sg_geti hc hw ha39 hT39 fi_0_0 k_289 dX8_rests_55 ?_
            refine lv_goto (tgt := 68) hx hb dX8_rests_58 (by decide) ?_
            cases hf
            exact sg_iret hc hw hz hn0 hr hlocks ⟨rfl, rfl⟩ dX8_rests_68
        · have hf := if_of c33 hf
          refine lv_iconst (v := (-1)) hx hb dX8_rests_36 (by decide) ?_
          cases hf
          exact sg_iret hc hw hz hn0 hr hlocks ⟨rfl, rfl⟩ dX8_rests_37
theorem c_X8_rests {l : Launch} {D : va_G} {cA : Nat → ClassId} {b n : Nat} (hn : sg_okN n) {a : Nat} {x1 : Int32} {x2 : Int32} {x3 : Int32} (ha_a : a < n) (hT_a : sg_T a = 8) {h : HP} {Rz : Int32 × HP} (hf : F_X8_rests a x1 x2 x3 h = some Rz) : Met l yX8_rests (Cond.code yX8_rests cX8_rests 4 (some .int) :: sg_tbl) ({ frames := 6, cells := 0, slots := 0, locals := 151 } : Room) (va_Pc [.ref (b + a), .int x1, .int x2, .int x3] (sg_Wd D b cA n h)) (va_Qi (fun r u => r = Rz.1 ∧ u = Rz.2) (sg_Wd D b cA n) (sg_A b)) 0 0 (sg_A b) := by
  refine Met.ofW (cc := cX8_rests) (maxL := 4) (ret := (some .int)) (by decide) rfl ?_
  intro p e s m args below meth c s₁ B hml hv
  obtain ⟨rfl, hP, hK, hz, hY, hN⟩ := hv
  have hl := lv_entry [.ref (b + a), .int x1, .int x2, .int x3] (n := 4) (Nat.le_of_ble_eq_true rfl)
  rw [lg_entry_eq]
  exact w_X8_rests hn ⟨B.exec, B.bytes, findClass_of_methodNamed B.named, fun w h => atoms_spec (ws := Cond.code yX8_rests cX8_rests 4 (some .int) :: sg_tbl) B.pre w (List.mem_cons_of_mem _ h), hK, hN⟩ hz B.returns B.notSynchronized hml (Nat.le_refl _) (Nat.le_refl _) ha_a hT_a hf _ _ _ ⟨hP, hY, va_S.rf⟩ hl
