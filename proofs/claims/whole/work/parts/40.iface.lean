def Inv (h : HP) : Prop := h = h
theorem step_write (h : HP) (hI : Inv h) (x1 : Int32) : ∃ (r : Int32) (h1 h2 : HP), F_X8_write 0 x1 h = some (r, h1) ∧ F_X9_write 133 x1 h1 = some (r, h2) ∧ Inv h2 := by sorry
theorem step_wipe (h : HP) (hI : Inv h) : ∃ (r : Int32) (h1 h2 : HP), F_X8_wipe 0 h = some (r, h1) ∧ F_X9_wipe 133 h1 = some (r, h2) ∧ Inv h2 := by sorry
theorem step_fault (h : HP) (hI : Inv h) : ∃ (r : Int32) (h1 h2 : HP), F_X8_fault 0 h = some (r, h1) ∧ F_X9_fault 133 h1 = some (r, h2) ∧ Inv h2 := by sorry
theorem step_lay (h : HP) (hI : Inv h) : ∃ (r : Int32) (h1 h2 : HP), F_X8_lay 0 h = some (r, h1) ∧ F_X9_lay 133 h1 = some (r, h2) ∧ Inv h2 := by sorry
theorem step_yard (h : HP) (hI : Inv h) (x1 x2 : Int32) : ∃ (r : Int32) (h2 : HP), F_X8_yard 0 x1 x2 h = some r ∧ F_X9_yard 133 x1 x2 h = some (r, h2) ∧ Inv h2 := by sorry
theorem step_bearer (h : HP) (hI : Inv h) (x1 x2 : Int32) : ∃ (r : Int32) (h2 : HP), F_X8_bearer 0 x1 x2 h = some r ∧ F_X9_bearer 133 x1 x2 h = some (r, h2) ∧ Inv h2 := by sorry
theorem step_stands (h : HP) (hI : Inv h) : ∃ (r : Int32) (h2 : HP), F_X8_stands 0 h = some r ∧ F_X9_stands 133 h = some (r, h2) ∧ Inv h2 := by sorry
theorem step_share (h : HP) (hI : Inv h) (x1 x2 : Int32) : ∃ (r : Int32) (h2 : HP), F_X8_share 0 x1 x2 h = some r ∧ F_X9_share 133 x1 x2 h = some (r, h2) ∧ Inv h2 := by sorry
theorem step_turn (h : HP) (hI : Inv h) (x1 x2 : Int32) : ∃ (r : Int32), F_X8_turn 0 x1 x2 h = some r ∧ F_X9_turn 133 x1 x2 h = some r := by sorry
theorem step_bear (h : HP) (hI : Inv h) (x1 x2 x3 : Int32) : ∃ (r : Int32) (h1 h2 : HP), F_X8_bear 0 x1 x2 x3 h = some (r, h1) ∧ F_X9_bear 133 x1 x2 x3 h1 = some (r, h2) ∧ Inv h2 := by sorry
theorem step_leave (h : HP) (hI : Inv h) (x1 : Int32) : ∃ (r : Int32) (h1 h2 : HP), F_X8_leave 0 x1 h = some (r, h1) ∧ F_X9_leave 133 x1 h1 = some (r, h2) ∧ Inv h2 := by sorry
theorem step_undo (h : HP) (hI : Inv h) : ∃ (r : Int32) (h1 h2 : HP), F_X8_undo 0 h = some (r, h1) ∧ F_X9_undo 133 h1 = some (r, h2) ∧ Inv h2 := by sorry
theorem step_best (h : HP) (hI : Inv h) (x1 x2 : Int32) : ∃ (r : Int32) (h1 h2 : HP), F_X8_best 0 x1 x2 h = some (r, h1) ∧ F_X9_best 133 x1 x2 h1 = some (r, h2) ∧ Inv h2 := by sorry
theorem step_safe (h : HP) (hI : Inv h) : ∃ (r : Int32) (h1 h2 : HP), F_X8_safe 0 h = some (r, h1) ∧ F_X9_safe 133 h1 = some (r, h2) ∧ Inv h2 := by sorry
theorem step_needed (h : HP) (hI : Inv h) : ∃ (r : Int32) (h1 h2 : HP), F_X8_needed 0 h = some (r, h1) ∧ F_X9_needed 133 h1 = some (r, h2) ∧ Inv h2 := by sorry
theorem step_far (h : HP) (hI : Inv h) (x1 : Int32) : ∃ (r : Int32) (h1 h2 : HP), F_X8_far 0 x1 h = some (r, h1) ∧ F_X9_far 133 x1 h1 = some (r, h2) ∧ Inv h2 := by sorry
theorem step_son (h : HP) (hI : Inv h) (x1 x2 : Int32) : ∃ (r : Int32) (h1 h2 : HP), F_X8_son 0 x1 x2 h = some (r, h1) ∧ F_X9_son 133 x1 x2 h1 = some (r, h2) ∧ Inv h2 := by sorry
theorem step_cairn (h : HP) (hI : Inv h) (x1 x2 x3 : Int32) : ∃ (r : Int32) (h1 h2 : HP), F_X8_cairn 0 x1 x2 x3 h = some (r, h1) ∧ F_X9_cairn 133 x1 x2 x3 h1 = some (r, h2) ∧ Inv h2 := by sorry
theorem step_heir (h : HP) (hI : Inv h) (x1 : Int32) : ∃ (r : Int32) (h2 : HP), F_X8_heir 0 x1 h = some r ∧ F_X9_heir 133 x1 h = some (r, h2) ∧ Inv h2 := by sorry
theorem step_rests (h : HP) (hI : Inv h) (x1 x2 x3 : Int32) : ∃ (r : Int32) (h1 h2 : HP), F_X8_rests 0 x1 x2 x3 h = some (r, h1) ∧ F_X9_rests 133 x1 x2 x3 h1 = some (r, h2) ∧ Inv h2 := by sorry
theorem step_print (h : HP) (hI : Inv h) (x1 x2 : Int32) : ∃ (r : Int32) (h1 h2 : HP), F_X8_print 0 x1 x2 h = some (r, h1) ∧ F_X9_print 133 x1 x2 h1 = some (r, h2) ∧ Inv h2 := by sorry
theorem step_forget (h : HP) (hI : Inv h) : ∃ (r : Int32) (h1 h2 : HP), F_X8_forget 0 h = some (r, h1) ∧ F_X9_forget 133 h1 = some (r, h2) ∧ Inv h2 := by sorry
theorem step_failed (h : HP) (hI : Inv h) : ∃ (r : Int32) (h1 h2 : HP), F_X8_failed 0 h = some (r, h1) ∧ F_X9_failed 133 h1 = some (r, h2) ∧ Inv h2 := by sorry
theorem step_odds (h : HP) (hI : Inv h) (x1 x2 x3 : Int32) : ∃ (r : Int32) (h1 h2 : HP), F_X8_odds 0 x1 x2 x3 h = some (r, h1) ∧ F_X9_odds 133 x1 x2 x3 h1 = some (r, h2) ∧ Inv h2 := by sorry
theorem step_rain (h : HP) (hI : Inv h) (x1 x2 : Int32) : ∃ (r : Int32) (h1 h2 : HP), F_X8_rain 0 x1 x2 h = some (r, h1) ∧ F_X9_rain 133 x1 x2 h1 = some (r, h2) ∧ Inv h2 := by sorry
theorem step_keep (h : HP) (hI : Inv h) : ∃ (r : Int32) (h1 h2 : HP), F_X8_keep 0 h = some (r, h1) ∧ F_X9_keep 133 h1 = some (r, h2) ∧ Inv h2 := by sorry
theorem step_back (h : HP) (hI : Inv h) : ∃ (r : Int32) (h1 h2 : HP), F_X8_back 0 h = some (r, h1) ∧ F_X9_back 133 h1 = some (r, h2) ∧ Inv h2 := by sorry
theorem step_count (h : HP) (hI : Inv h) (x1 : Int32) : ∃ (r : Int32), F_X8_count 0 x1 h = some r ∧ F_X9_count 133 x1 h = some r := by sorry
theorem init_ok : ∃ (R1 : Int32 × HP) (R2 : HP), sg_Ty 133 (I_8a z0).2 ∧ (∀ k, 133 ≤ k → (I_8a z0).1 k = (fun _ => 0) ∧ (I_8a z0).2 k = (fun _ => 0)) ∧ F_X8_layText 0 (ui (I_8t (I_8a z0) 92) 0 1 92) = some R1 ∧ (∀ k, 133 ≤ k → (ui R1.2 0 1 0).1 k = (fun _ => 0) ∧ (ui R1.2 0 1 0).2 k = (fun _ => 0)) ∧ sg_Ty 154 (I_9a 133 (ui R1.2 0 1 0)).2 ∧ F_X9_init 133 (I_9a 133 (ui R1.2 0 1 0)) = some R2 ∧ Inv R2 := by sorry
