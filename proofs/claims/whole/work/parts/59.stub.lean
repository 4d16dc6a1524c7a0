def Rel (_ _ : ES) : Prop := True
theorem Rel_0 : Rel σ0 σ0 := sorry
theorem st_write {σ τ : ES} (hR : Rel σ τ) (a0 : Int32) : ∃ (r : Int32) (σ' : ES) (τ' : ES), e_X7_write_0 a0 σ = some (r, σ') ∧ e_X8_write a0 τ = some (r, τ') ∧ Rel σ' τ' := sorry
theorem st_wipe {σ τ : ES} (hR : Rel σ τ)  : ∃ (r : Int32) (σ' : ES) (τ' : ES), e_X7_wipe_0  σ = some (r, σ') ∧ e_X8_wipe  τ = some (r, τ') ∧ Rel σ' τ' := sorry
theorem st_fault {σ τ : ES} (hR : Rel σ τ)  : ∃ (r : Int32) (σ' : ES) (τ' : ES), e_X7_fault_0  σ = some (r, σ') ∧ e_X8_fault  τ = some (r, τ') ∧ Rel σ' τ' := sorry
theorem st_party {σ τ : ES} (hR : Rel σ τ)  : ∃ (r : Int32) (σ' : ES) (fb : Bool) (τ' : ES), e_X7_party_0 σ = some (r, σ', fb) ∧ e_X8_party  τ = some (r, τ') ∧ Rel σ' τ' := sorry
theorem st_moment {σ τ : ES} (hR : Rel σ τ) (a0 : Int32) : ∃ (r : Int32), e_X7_moment_0 a0 σ = some r ∧ e_X8_moment a0 τ = some r := sorry
theorem st_candle {σ τ : ES} (hR : Rel σ τ) (a0 : Int32) (a1 : Int32) : ∃ (r : Int32), e_X7_candle_0 a0 a1 σ = some r ∧ e_X8_candle a0 a1 τ = some r := sorry
theorem st_guest {σ τ : ES} (hR : Rel σ τ) (a0 : Int32) (a1 : Int32) : ∃ (r : Int32), e_X7_guest_0 a0 a1 σ = some r ∧ e_X8_guest a0 a1 τ = some r := sorry
theorem st_light {σ τ : ES} (hR : Rel σ τ) (a0 : Int32) : ∃ (r : Int32) (σ' : ES) (τ' : ES), e_X7_light_0 a0 σ = some (r, σ') ∧ e_X8_light a0 τ = some (r, τ') ∧ Rel σ' τ' := sorry
theorem st_out {σ τ : ES} (hR : Rel σ τ) (a0 : Int32) : ∃ (r : Int32) (σ' : ES) (τ' : ES), e_X7_out_0 a0 σ = some (r, σ') ∧ e_X8_out a0 τ = some (r, τ') ∧ Rel σ' τ' := sorry
theorem st_trim {σ τ : ES} (hR : Rel σ τ) (a0 : Int32) (a1 : Int32) : ∃ (r : Int32) (σ' : ES) (τ' : ES), e_X7_trim_0 a0 a1 σ = some (r, σ') ∧ e_X8_trim a0 a1 τ = some (r, τ') ∧ Rel σ' τ' := sorry
theorem st_step {σ τ : ES} (hR : Rel σ τ)  : ∃ (r : Int32) (σ' : ES) (τ' : ES), e_X7_step_0  σ = some (r, σ') ∧ e_X8_step  τ = some (r, τ') ∧ Rel σ' τ' := sorry
theorem st_undo {σ τ : ES} (hR : Rel σ τ)  : ∃ (r : Int32) (σ' : ES) (τ' : ES), e_X7_undo_0  σ = some (r, σ') ∧ e_X8_undo  τ = some (r, τ') ∧ Rel σ' τ' := sorry
theorem st_plan {σ τ : ES} (hR : Rel σ τ)  : ∃ (r : Int32) (σ' : ES) (τ' : ES), e_X7_plan_0  σ = some (r, σ') ∧ e_X8_plan  τ = some (r, τ') ∧ Rel σ' τ' := sorry
theorem st_planOf {σ τ : ES} (hR : Rel σ τ) (a0 : Int32) : ∃ (r : Int32) (σ' : ES) (τ' : ES), e_X7_planOf_0 a0 σ = some (r, σ') ∧ e_X8_planOf a0 τ = some (r, τ') ∧ Rel σ' τ' := sorry
theorem st_bars {σ τ : ES} (hR : Rel σ τ)  : ∃ (r : Int32) (σ' : ES) (τ' : ES), e_X7_bars_0  σ = some (r, σ') ∧ e_X8_bars  τ = some (r, τ') ∧ Rel σ' τ' := sorry
theorem st_share {σ τ : ES} (hR : Rel σ τ) (a0 : Int32) (a1 : Int32) : ∃ (r : Int32) (σ' : ES) (τ' : ES), e_X7_share_0 a0 a1 σ = some (r, σ') ∧ e_X8_share a0 a1 τ = some (r, τ') ∧ Rel σ' τ' := sorry
theorem st_table {σ τ : ES} (hR : Rel σ τ) (a0 : Int32) (a1 : Int32) : ∃ (r : Int32), e_X7_table_0 a0 a1 σ = some r ∧ e_X8_table a0 a1 τ = some r := sorry
theorem st_pairs {σ τ : ES} (hR : Rel σ τ)  : ∃ (r : Int32) (τ' : ES), e_X7_pairs_0  σ = some r ∧ e_X8_pairs  τ = some (r, τ') ∧ Rel σ τ' := sorry
theorem st_judge {σ τ : ES} (hR : Rel σ τ) (a0 : Int32) (a1 : Int32) : ∃ (r : Int32) (σ' : ES) (τ' : ES), e_X7_judge_0 a0 a1 σ = some (r, σ') ∧ e_X8_judge a0 a1 τ = some (r, τ') ∧ Rel σ' τ' := sorry
theorem st_stub {σ τ : ES} (hR : Rel σ τ) (a0 : Int32) (a1 : Int32) (a2 : Int32) : ∃ (r : Int32), e_X7_stub_0 a0 a1 a2 σ = some r ∧ e_X8_stub a0 a1 a2 τ = some r := sorry
theorem st_see {σ τ : ES} (hR : Rel σ τ) (a0 : Int32) : ∃ (r : Int32) (σ' : ES) (τ' : ES), e_X7_see_0 a0 σ = some (r, σ') ∧ e_X8_see a0 τ = some (r, τ') ∧ Rel σ' τ' := sorry
theorem st_unsee {σ τ : ES} (hR : Rel σ τ)  : ∃ (r : Int32) (σ' : ES) (τ' : ES), e_X7_unsee_0  σ = some (r, σ') ∧ e_X8_unsee  τ = some (r, τ') ∧ Rel σ' τ' := sorry
theorem st_from {σ τ : ES} (hR : Rel σ τ) (a0 : Int32) : ∃ (r : Int32), e_X7_from_0 a0 σ = some r ∧ e_X8_from a0 τ = some r := sorry
theorem st_next {σ τ : ES} (hR : Rel σ τ) (a0 : Int32) (a1 : Int32) (a2 : Int32) : ∃ (r : Int32), e_X7_next_0 a0 a1 a2 σ = some r ∧ e_X8_next a0 a1 a2 τ = some r := sorry
theorem st_cut {σ τ : ES} (hR : Rel σ τ) (a0 : Int32) (a1 : Int32) (a2 : Int32) : ∃ (r : Int32) (σ' : ES) (τ' : ES), e_X7_cut_0 a0 a1 a2 σ = some (r, σ') ∧ e_X8_cut a0 a1 a2 τ = some (r, τ') ∧ Rel σ' τ' := sorry
theorem st_draught {σ τ : ES} (hR : Rel σ τ) (a0 : Int32) (a1 : Int32) (a2 : Int32) (a3 : Int32) : ∃ (r : Int32), e_X7_draught_0 a0 a1 a2 a3 σ = some r ∧ e_X8_draught a0 a1 a2 a3 τ = some r := sorry
theorem st_seed {σ τ : ES} (hR : Rel σ τ) (a0 : Int64) : ∃ (r : Int64) (σ' : ES) (τ' : ES), e_X7_seed_0 a0 σ = some (r, σ') ∧ e_X8_seed a0 τ = some (r, τ') ∧ Rel σ' τ' := sorry
theorem st_night {σ τ : ES} (hR : Rel σ τ) (a0 : Int32) : ∃ (r : Int32) (σ' : ES) (τ' : ES), e_X7_night_0 a0 σ = some (r, σ') ∧ e_X8_night a0 τ = some (r, τ') ∧ Rel σ' τ' := sorry
theorem st_keep {σ τ : ES} (hR : Rel σ τ) (a0 : Int32) : ∃ (r : Int32) (σ' : ES) (τ' : ES), e_X7_keep_0 a0 σ = some (r, σ') ∧ e_X8_keep a0 τ = some (r, τ') ∧ Rel σ' τ' := sorry
theorem st_again {σ τ : ES} (hR : Rel σ τ) (a0 : Int32) : ∃ (r : Int32) (σ' : ES) (τ' : ES), e_X7_again_0 a0 σ = some (r, σ') ∧ e_X8_again a0 τ = some (r, τ') ∧ Rel σ' τ' := sorry
theorem st_count {σ τ : ES} (hR : Rel σ τ) (a0 : Int32) : ∃ (r : Int32), e_X7_count_0 a0 σ = some r ∧ e_X8_count a0 τ = some r := sorry
