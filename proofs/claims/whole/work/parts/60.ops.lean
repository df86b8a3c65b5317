def Inv (σ : Hp) : Prop := hN σ = hN σ
theorem Inv_0 : Inv σ0 := sorry
theorem op_row (σ : Hp) (hI : Inv σ) (a0 : Int32) (a1 : Int32) (a2 : Int32) : ∃ (r : Int32) (σ1 σ2 : Hp), f_X11_row a0 a1 a2 σ = some (r, σ1) ∧ f_X12_row a0 a1 a2 σ1 = some (r, σ2) ∧ Inv σ2 := sorry
theorem op_set (σ : Hp) (hI : Inv σ) (a0 : Int32) (a1 : Int32) (a2 : Int64) : ∃ (r : Int32) (σ1 σ2 : Hp), f_X11_set a0 a1 a2 σ = some (r, σ1) ∧ f_X12_set a0 a1 a2 σ1 = some (r, σ2) ∧ Inv σ2 := sorry
theorem op_copy (σ : Hp) (hI : Inv σ) (a0 : Int32) (a1 : Int32) (a2 : Int32) (a3 : Int32) (a4 : Int32) : ∃ (r : Int32) (σ1 σ2 : Hp), f_X11_copy a0 a1 a2 a3 a4 σ = some (r, σ1) ∧ f_X12_copy a0 a1 a2 a3 a4 σ1 = some (r, σ2) ∧ Inv σ2 := sorry
theorem op_element (σ : Hp) (hI : Inv σ) (a0 : Int32) (a1 : Int32) : ∃ (r : Int64) (σ1 σ2 : Hp), f_X11_element a0 a1 σ = some (r, σ1) ∧ f_X12_element a0 a1 σ1 = some (r, σ2) ∧ Inv σ2 := sorry
theorem op_show (σ : Hp) (hI : Inv σ) (a0 : Int32) (a1 : Int32) : ∃ (r : Int32) (σ1 σ2 : Hp), f_X11_show a0 a1 σ = some (r, σ1) ∧ f_X12_show a0 a1 σ1 = some (r, σ2) ∧ Inv σ2 := sorry
theorem op_holds (σ : Hp) (hI : Inv σ) (a0 : Int32) : ∃ (r : Int32) (σ1 σ2 : Hp), f_X11_holds a0 σ = some (r, σ1) ∧ f_X12_holds a0 σ1 = some (r, σ2) ∧ Inv σ2 := sorry
theorem op_says (σ : Hp) (hI : Inv σ) (a0 : Int32) (a1 : Int32) : ∃ (r : Int32) (σ1 σ2 : Hp), f_X11_says a0 a1 σ = some (r, σ1) ∧ f_X12_says a0 a1 σ1 = some (r, σ2) ∧ Inv σ2 := sorry
theorem op_base (σ : Hp) (hI : Inv σ) (a0 : Int32) : ∃ (r : Int32) (σ1 σ2 : Hp), f_X11_base a0 σ = some (r, σ1) ∧ f_X12_base a0 σ1 = some (r, σ2) ∧ Inv σ2 := sorry
theorem op_law (σ : Hp) (hI : Inv σ) (a0 : Int32) (a1 : Int32) : ∃ (r : Int32) (σ1 σ2 : Hp), f_X11_law a0 a1 σ = some (r, σ1) ∧ f_X12_law a0 a1 σ1 = some (r, σ2) ∧ Inv σ2 := sorry
theorem op_value (σ : Hp) (hI : Inv σ) (a0 : Int32) (a1 : Int32) (a2 : Int32) : ∃ (r : Int32) (σ1 σ2 : Hp), f_X11_value a0 a1 a2 σ = some (r, σ1) ∧ f_X12_value a0 a1 a2 σ1 = some (r, σ2) ∧ Inv σ2 := sorry
theorem op_lawOf (σ : Hp) (hI : Inv σ) (a0 : Int32) (a1 : Int32) : ∃ (r : Int32) (σ1 σ2 : Hp), f_X11_lawOf a0 a1 σ = some (r, σ1) ∧ f_X12_lawOf a0 a1 σ1 = some (r, σ2) ∧ Inv σ2 := sorry
theorem op_text (σ : Hp) (hI : Inv σ) (a0 : Int32) : ∃ (r : Int32) (σ1 σ2 : Hp), f_X11_text a0 σ = some (r, σ1) ∧ f_X12_text a0 σ1 = some (r, σ2) ∧ Inv σ2 := sorry
theorem op_fault (σ : Hp) (hI : Inv σ) : ∃ (r : Int32) (σ1 σ2 : Hp), f_X11_fault σ = some (r, σ1) ∧ f_X12_fault σ1 = some (r, σ2) ∧ Inv σ2 := sorry
theorem op_turned (σ : Hp) (hI : Inv σ) (a0 : Int64) : ∃ (r : Int64) (σ1 σ2 : Hp), f_X11_turned a0 σ = some (r, σ1) ∧ f_X12_turned a0 σ1 = some (r, σ2) ∧ Inv σ2 := sorry
theorem op_numberOf (σ : Hp) (hI : Inv σ) (a0 : Int64) (a1 : Int32) : ∃ (r : Int32) (σ1 σ2 : Hp), f_X11_numberOf a0 a1 σ = some (r, σ1) ∧ f_X12_numberOf a0 a1 σ1 = some (r, σ2) ∧ Inv σ2 := sorry
theorem op_next (σ : Hp) (hI : Inv σ) (a0 : Int32) (a1 : Int64) : ∃ (r : Int64) (σ1 σ2 : Hp), f_X11_next a0 a1 σ = some (r, σ1) ∧ f_X12_next a0 a1 σ1 = some (r, σ2) ∧ Inv σ2 := sorry
theorem op_after (σ : Hp) (hI : Inv σ) (a0 : Int32) (a1 : Int64) (a2 : Int32) : ∃ (r : Int64) (σ1 σ2 : Hp), f_X11_after a0 a1 a2 σ = some (r, σ1) ∧ f_X12_after a0 a1 a2 σ1 = some (r, σ2) ∧ Inv σ2 := sorry
theorem op_goes (σ : Hp) (hI : Inv σ) (a0 : Int32) (a1 : Int64) : ∃ (r : Int32) (σ1 σ2 : Hp), f_X11_goes a0 a1 σ = some (r, σ1) ∧ f_X12_goes a0 a1 σ1 = some (r, σ2) ∧ Inv σ2 := sorry
theorem op_comes (σ : Hp) (hI : Inv σ) (a0 : Int32) (a1 : Int64) : ∃ (r : Int64) (σ1 σ2 : Hp), f_X11_comes a0 a1 σ = some (r, σ1) ∧ f_X12_comes a0 a1 σ1 = some (r, σ2) ∧ Inv σ2 := sorry
theorem op_round (σ : Hp) (hI : Inv σ) (a0 : Int32) (a1 : Int64) (a2 : Int32) : ∃ (r : Int64) (σ1 σ2 : Hp), f_X11_round a0 a1 a2 σ = some (r, σ1) ∧ f_X12_round a0 a1 a2 σ1 = some (r, σ2) ∧ Inv σ2 := sorry
theorem op_meet (σ : Hp) (hI : Inv σ) (a0 : Int32) (a1 : Int64) (a2 : Int64) : ∃ (r : Int64) (σ1 σ2 : Hp), f_X11_meet a0 a1 a2 σ = some (r, σ1) ∧ f_X12_meet a0 a1 a2 σ1 = some (r, σ2) ∧ Inv σ2 := sorry
theorem op_source (σ : Hp) (hI : Inv σ) (a0 : Int32) (a1 : Int64) (a2 : Int32) : ∃ (r : Int32) (σ1 σ2 : Hp), f_X11_source a0 a1 a2 σ = some (r, σ1) ∧ f_X12_source a0 a1 a2 σ1 = some (r, σ2) ∧ Inv σ2 := sorry
theorem op_barren (σ : Hp) (hI : Inv σ) (a0 : Int32) (a1 : Int32) (a2 : Int32) : ∃ (r : Int32) (σ1 σ2 : Hp), f_X11_barren a0 a1 a2 σ = some (r, σ1) ∧ f_X12_barren a0 a1 a2 σ1 = some (r, σ2) ∧ Inv σ2 := sorry
theorem op_longest (σ : Hp) (hI : Inv σ) (a0 : Int32) (a1 : Int32) : ∃ (r : Int32) (σ1 σ2 : Hp), f_X11_longest a0 a1 σ = some (r, σ1) ∧ f_X12_longest a0 a1 σ1 = some (r, σ2) ∧ Inv σ2 := sorry
theorem op_many (σ : Hp) (hI : Inv σ) (a0 : Int32) (a1 : Int32) (a2 : Int32) (a3 : Int32) : ∃ (r : Int32) (σ1 σ2 : Hp), f_X11_many a0 a1 a2 a3 σ = some (r, σ1) ∧ f_X12_many a0 a1 a2 a3 σ1 = some (r, σ2) ∧ Inv σ2 := sorry
theorem op_rounds (σ : Hp) (hI : Inv σ) (a0 : Int32) (a1 : Int32) : ∃ (r : Int32) (σ1 σ2 : Hp), f_X11_rounds a0 a1 σ = some (r, σ1) ∧ f_X12_rounds a0 a1 σ1 = some (r, σ2) ∧ Inv σ2 := sorry
theorem op_waits (σ : Hp) (hI : Inv σ) (a0 : Int64) : ∃ (r : Int64) (σ1 σ2 : Hp), f_X11_waits a0 σ = some (r, σ1) ∧ f_X12_waits a0 σ1 = some (r, σ2) ∧ Inv σ2 := sorry
theorem op_fit (σ : Hp) (hI : Inv σ) (a0 : Int64) (a1 : Int64) : ∃ (r : Int32) (σ1 σ2 : Hp), f_X11_fit a0 a1 σ = some (r, σ1) ∧ f_X12_fit a0 a1 σ1 = some (r, σ2) ∧ Inv σ2 := sorry
theorem op_began (σ : Hp) (hI : Inv σ) (a0 : Int32) (a1 : Int64) (a2 : Int32) (a3 : Int32) : ∃ (r : Int32) (σ1 σ2 : Hp), f_X11_began a0 a1 a2 a3 σ = some (r, σ1) ∧ f_X12_began a0 a1 a2 a3 σ1 = some (r, σ2) ∧ Inv σ2 := sorry
theorem op_slip (σ : Hp) (hI : Inv σ) (a0 : Int64) (a1 : Int64) : ∃ (r : Int32) (σ1 σ2 : Hp), f_X11_slip a0 a1 σ = some (r, σ1) ∧ f_X12_slip a0 a1 σ1 = some (r, σ2) ∧ Inv σ2 := sorry
theorem op_missed (σ : Hp) (hI : Inv σ) (a0 : Int64) : ∃ (r : Int32) (σ1 σ2 : Hp), f_X11_missed a0 σ = some (r, σ1) ∧ f_X12_missed a0 σ1 = some (r, σ2) ∧ Inv σ2 := sorry
theorem op_judge (σ : Hp) (hI : Inv σ) (a0 : Int32) (a1 : Int32) (a2 : Int32) : ∃ (r : Int32) (σ1 σ2 : Hp), f_X11_judge a0 a1 a2 σ = some (r, σ1) ∧ f_X12_judge a0 a1 a2 σ1 = some (r, σ2) ∧ Inv σ2 := sorry
theorem op_laws (σ : Hp) (hI : Inv σ) (a0 : Int32) (a1 : Int32) : ∃ (r : Int32) (σ1 σ2 : Hp), f_X11_laws a0 a1 σ = some (r, σ1) ∧ f_X12_laws a0 a1 σ1 = some (r, σ2) ∧ Inv σ2 := sorry
theorem op_write (σ : Hp) (hI : Inv σ) (a0 : Int64) : ∃ (r : Int32) (σ1 σ2 : Hp), f_X11_write a0 σ = some (r, σ1) ∧ f_X12_write a0 σ1 = some (r, σ2) ∧ Inv σ2 := sorry
theorem op_slate (σ : Hp) (hI : Inv σ) (a0 : Int32) : ∃ (r : Int64) (σ1 σ2 : Hp), f_X11_slate a0 σ = some (r, σ1) ∧ f_X12_slate a0 σ1 = some (r, σ2) ∧ Inv σ2 := sorry
theorem op_on (σ : Hp) (hI : Inv σ) (a0 : Int32) (a1 : Int32) : ∃ (r : Int32) (σ1 σ2 : Hp), f_X11_on a0 a1 σ = some (r, σ1) ∧ f_X12_on a0 a1 σ1 = some (r, σ2) ∧ Inv σ2 := sorry
theorem op_wipe (σ : Hp) (hI : Inv σ) (a0 : Int32) : ∃ (r : Int32) (σ1 σ2 : Hp), f_X11_wipe a0 σ = some (r, σ1) ∧ f_X12_wipe a0 σ1 = some (r, σ2) ∧ Inv σ2 := sorry
theorem op_lessons (σ : Hp) (hI : Inv σ) (a0 : Int32) : ∃ (r : Int32) (σ1 σ2 : Hp), f_X11_lessons a0 σ = some (r, σ1) ∧ f_X12_lessons a0 σ1 = some (r, σ2) ∧ Inv σ2 := sorry
theorem op_seed (σ : Hp) (hI : Inv σ) (a0 : Int32) : ∃ (r : Int32) (σ1 σ2 : Hp), f_X11_seed a0 σ = some (r, σ1) ∧ f_X12_seed a0 σ1 = some (r, σ2) ∧ Inv σ2 := sorry
theorem op_act (σ : Hp) (hI : Inv σ) (a0 : Int32) (a1 : Int32) (a2 : Int32) : ∃ (r : Int32) (σ1 σ2 : Hp), f_X11_act a0 a1 a2 σ = some (r, σ1) ∧ f_X12_act a0 a1 a2 σ1 = some (r, σ2) ∧ Inv σ2 := sorry
theorem op_trace (σ : Hp) (hI : Inv σ) (a0 : Int32) : ∃ (r : Int32) (σ1 σ2 : Hp), f_X11_trace a0 σ = some (r, σ1) ∧ f_X12_trace a0 σ1 = some (r, σ2) ∧ Inv σ2 := sorry
theorem op_image (σ : Hp) (hI : Inv σ) : ∃ (r : Int32) (σ1 σ2 : Hp), f_X11_image σ = some (r, σ1) ∧ f_X12_image σ1 = some (r, σ2) ∧ Inv σ2 := sorry
theorem op_restore (σ : Hp) (hI : Inv σ) : ∃ (r : Int32) (σ1 σ2 : Hp), f_X11_restore σ = some (r, σ1) ∧ f_X12_restore σ1 = some (r, σ2) ∧ Inv σ2 := sorry
theorem op_status (σ : Hp) (hI : Inv σ) (a0 : Int32) : ∃ (r : Int32) (σ1 σ2 : Hp), f_X11_status a0 σ = some (r, σ1) ∧ f_X12_status a0 σ1 = some (r, σ2) ∧ Inv σ2 := sorry
