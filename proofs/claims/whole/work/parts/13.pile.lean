def I_3k (a : Nat) : Nat → HP → HP
  | 0, h => h
  | k + 1, h => ur (I_6 (a + 2 + 4 * k) (I_3k a k h)) (a + 1) k (a + 2 + 4 * k + 1)
def I_3 (a N : Nat) (h : HP) : HP := I_3k a N (ur h a 0 (a + 1 + 1))
set_option maxHeartbeats 4000000 in
set_option maxRecDepth 100000 in
theorem i_3 {l : Launch} {D : va_G} {cA : Nat → ClassId} {b : Nat} {a N : Nat} {h : HP} (hT : sg_T a = 3) (hTr : sg_T (a + 1) = 12) (hNr : sg_N (a + 1) = N) (hTs : ∀ k, k < N → sg_T (a + 2 + 4 * k) = 6) (hN : N ≤ 8) (ha : a + 2 + 4 * N ≤ 154) : Met l yX3_init (Cond.code yX3_init cX3_init 3 none :: sg_tbl) ({ frames := 3, cells := 1 + 4 * N, slots := 32 * N, locals := 80 } : Room) (va_Pc [.ref (b + a), .int (nI N)] (sg_Wk D b cA (a + 1) h)) (va_Qv (fun u => u = I_3 a N h) (sg_Wk D b cA (a + 2 + 4 * N)) (sg_A b)) (1 + 4 * N) (32 * N) (sg_A b) := by
  refine Met.ofW (cc := cX3_init) (maxL := 3) (ret := none) (by decide) rfl ?_
  intro p e s m args below meth c s₁ B hml hv
  obtain ⟨rfl, hP, hK, hz, hZ, hNw, hov⟩ := hv
  have hl := lv_entry [.ref (b + a), .int (nI N)] (n := 3) (Nat.le_of_ble_eq_true rfl)
  rw [lg_entry_eq]
  have hin : meth.name = "<init>" := (name_of_methodNamed B.named B.method).1
  have hc : sg_Cx p s m _ c cX3_init RX3 D cA := ⟨B.exec, B.bytes, findClass_of_methodNamed B.named, fun w h => atoms_spec (ws := Cond.code yX3_init cX3_init 3 none :: sg_tbl) B.pre w (List.mem_cons_of_mem _ h), hK, hNw⟩
  have hx := hc.1
  have hb := hc.2.1
  have hw : sg_Wc D b cA (a + 1) s.heap h s.heap [] := ⟨hP, va_S.rf, hZ⟩
  generalize (lg_sl ([.ref (b + a), .int (nI N)]) ++ List.replicate (3 - (lg_sl ([.ref (b + a), .int (nI N)])).length) Slot.unset).toArray = ls at hl ⊢
  have hl : lv_has ls 3 [(0, .ref (b + a)), (1, .int (nI N))] := hl
  have hRf : 3 ≤ (headSpec (Cond.code yX3_init cX3_init 3 none :: sg_tbl) ({ frames := 3, cells := 1 + 4 * N, slots := 32 * N, locals := 80 } : Room)).room.frames := Nat.le_refl _
  have hRl : 80 ≤ (headSpec (Cond.code yX3_init cX3_init 3 none :: sg_tbl) ({ frames := 3, cells := 1 + 4 * N, slots := 32 * N, locals := 80 } : Room)).room.locals := Nat.le_refl _
  have hRc : 1 + 4 * N ≤ (headSpec (Cond.code yX3_init cX3_init 3 none :: sg_tbl) ({ frames := 3, cells := 1 + 4 * N, slots := 32 * N, locals := 80 } : Room)).room.cells := Nat.le_refl _
  have hRs : 32 * N ≤ (headSpec (Cond.code yX3_init cX3_init 3 none :: sg_tbl) ({ frames := 3, cells := 1 + 4 * N, slots := 32 * N, locals := 80 } : Room)).room.slots := Nat.le_refl _
  generalize (headSpec (Cond.code yX3_init cX3_init 3 none :: sg_tbl) ({ frames := 3, cells := 1 + 4 * N, slots := 32 * N, locals := 80 } : Room)).room = R at hRf hRl hRc hRs ⊢
  have LOOP : ∀ (d k : Nat), k + d = N → ∀ (H : Heap) (locs : List Loc) (ls : Array Slot), sg_Wc D b cA (a + 2 + 4 * k) s.heap (I_3k a k (ur h a 0 (a + 1 + 1))) H locs → lv_has ls 3 [(0, .ref (b + a)), (1, .int (nI N)), (2, .int (nI k))] → W p l e R s m (List.toArray [.ref (b + a), .int (nI N)]) below meth c H locs (1 + 4 * k) (N + 31 * k) (MQ below (va_Qv (fun u => u = I_3 a N h) (sg_Wk D b cA (a + 2 + 4 * N)) (sg_A b)) (List.toArray [.ref (b + a), .int (nI N)]) s (1 + 4 * N) (32 * N) (sg_A b)) (F0 m 14 ls []) := by
    intro d
    induction d with
    | zero =>
      intro k hk H locs ls hw hl
      obtain rfl : k = N := by omega
      refine lv_iload_n hx hb dX3_init_14 rfl (lv_at hl 2 rfl) ?_
      refine lv_iload_n hx hb dX3_init_15 rfl (lv_at hl 1 rfl) ?_
      refine lv_icmp_ge (tgt := 38) hx hb dX3_init_16 (by decide) (fun c1 => ?_) (fun c1 => absurd (Int32.le_refl _) c1)
      refine W.widen (k := 1 + 4 * k) (n := 32 * k) (by omega) (by omega) ?_
      exact sg_cvret (n0 := 0) hc hov hw (by omega) (by omega) B.returns B.notSynchronized rfl dX3_init_38
    | succ d ih =>
      intro k hk H locs ls hw hl
      have hkN : k < N := by omega
      refine lv_iload_n hx hb dX3_init_14 rfl (lv_at hl 2 rfl) ?_
      refine lv_iload_n hx hb dX3_init_15 rfl (lv_at hl 1 rfl) ?_
      refine lv_icmp_ge (tgt := 38) hx hb dX3_init_16 (by decide) (fun c1 => absurd c1 (nI_ge hkN (by omega))) (fun c1 => ?_)
      refine lv_aload_n hx hb dX3_init_19 rfl (lv_at hl 0 rfl) ?_
      have hrow : (I_3k a k (ur h a 0 (a + 1 + 1))).2 a 0 = a + 1 + 1 := by
        have key : ∀ (g : HP) (j : Nat), j ≤ k → (I_3k a j g).2 a = g.2 a := by
          intro g j
          induction j with
          | zero => intro _; rfl
          | succ j ihj =>
            intro hj
            have e1 : a ≠ a + 1 := by omega
            have e2 : a ≠ a + 2 + 4 * j := by omega
            simp only [I_3k, I_6, ur, if_neg e1, if_neg e2]
            exact ihj (by omega)
        rw [key _ k (Nat.le_refl k)]
        simp [ur, va_up]
      refine sg_cgetr (q := a + 1) hc hw (by omega) hT fr_3_0 k_146 dX3_init_20 hrow ?_
      refine lv_iload_n hx hb dX3_init_23 rfl (lv_at hl 2 rfl) ?_
      refine sg_cnew (n := a + 2 + 4 * k) hc hw (by omega) (fun h9 => by omega) (hTs k hkN) fn_6 k_143 k_98 k_4 (by omega) (by omega) dX3_init_24 (fun H hw => ?_)
      refine lv_dup hx hb dX3_init_27 rfl ?_
      refine sg_cinitN (k := 0) (rest := [.ref (b + (a + 2 + 4 * k)), .int (nI k), .ref (b + (a + 1))]) (i_6 (a := a + 2 + 4 * k) (by omega) (hTs k hkN)) hc hov hw (by omega) (by omega) hml hl kn_145 k_100 k_4 k_101 rfl ⟨by decide, by decide, by decide +kernel⟩ ⟨⟨rfl, rfl⟩, Nat.le_trans (Nat.le_of_ble_eq_true rfl) hRf, Nat.le_trans (Nat.le_of_ble_eq_true rfl) hRl⟩ ⟨by omega, by omega⟩ rfl rfl (Nat.le_of_ble_eq_true rfl) dX3_init_28 (fun H locs hw => ?_)
      refine sg_cast (q := a + 2 + 4 * k) hc hw (by omega) hTr hNr (vp_in_nI hkN (by omega)) (by omega) (hTs k hkN) dX3_init_31 (fun H locs hw => ?_)
      refine lv_iinc (v := nI (k + 1)) (lv' := [(2, .int (nI (k + 1))), (0, .ref (b + a)), (1, .int (nI N))]) hx hb dX3_init_32 hl (k := 2) rfl (nI_1 k) (by decide) rfl (fun ls hl => ?_)
      refine lv_goto (tgt := 14) hx hb dX3_init_35 (by decide) ?_
      rw [nI_clamp (by omega)] at hw
      refine W.widen (k := 1 + 4 * (k + 1)) (n := N + 31 * (k + 1)) (by omega) (by omega) ?_
      exact ih (k + 1) (by omega) _ _ _ hw (lv_sub hl [1, 2, 0] rfl)
  refine lv_aload_n hx hb dX3_init_0 rfl (lv_at hl 0 rfl) ?_
  refine sg_cobj hc hml hl k_142 k_24 k_25 (Nat.le_trans (by decide) hRf) (Nat.le_trans (by decide) hRl) dX3_init_1 ?_
  refine lv_aload_n hx hb dX3_init_4 rfl (lv_at hl 0 rfl) ?_
  refine lv_iload_n hx hb dX3_init_5 rfl (lv_at hl 1 rfl) ?_
  refine sg_cnewq (n := a + 1) hc hw (by omega) (by omega) hov k_143 hTr hNr (nI_pos (by omega)) (nI_clamp (by omega)) (by omega) (by omega) (by omega) dX3_init_6 (fun H hw => ?_)
  refine sg_cputF (q := a + 1) (ty := (.array (.object "ShoulderHeirs$Turns"))) hc hw (by omega) hT fr_3_0 tyX3_ok nmX3 rfl hin rfl (by decide +kernel) rfl rfl k_146 dX3_init_9 (fun H locs hw => ?_)
  refine lv_iconst (v := 0) hx hb dX3_init_12 (by decide) ?_
  refine lv_istore_n (lv' := [(2, .int 0), (0, .ref (b + a)), (1, .int (nI N))]) hx hb dX3_init_13 rfl hl (by decide) rfl (fun ls hl => ?_)
  refine W.widen (k := 1 + 4 * 0) (n := N + 31 * 0) (by omega) (by omega) ?_
  exact LOOP N 0 (by omega) _ _ _ hw (lv_sub hl [1, 2, 0] rfl)
