def ic_I (sw : Nat) (μ : ic_M) : Prop := sw = sw ∧ μ = μ
theorem ic_I0 : ic_I 0 ic_m0 := ⟨rfl, rfl⟩
theorem pu_feed {sw : Nat} {μ : ic_M} (hI : ic_I sw μ) (a1 : Int32) : ∃ (v : Int32) (μ1 : ic_M) (μ2 : ic_M), fX8_feed sw μ a1 = some (v, μ1) ∧ fX9_feed μ1 a1 = some (v, μ2) ∧ ic_I sw μ2 := by
  sorry
theorem pu_river {sw : Nat} {μ : ic_M} (hI : ic_I sw μ) : ∃ (v : Int32) (sw1 : Nat) (μ1 μ2 : ic_M), fX8_river sw μ = some (v, sw1, μ1) ∧ fX9_river μ1 = some (v, μ2) ∧ ic_I sw1 μ2 := by
  sorry
theorem pu_fault {sw : Nat} {μ : ic_M} (hI : ic_I sw μ) : ∃ (v : Int32), fX8_fault sw μ = some v ∧ fX9_fault μ = some v ∧ ic_I sw μ := by
  sorry
theorem pu_told {sw : Nat} {μ : ic_M} (hI : ic_I sw μ) (a1 : Int32) : ∃ (v : Int32), fX8_told sw μ a1 = some v ∧ fX9_told μ a1 = some v ∧ ic_I sw μ := by
  sorry
theorem pu_cell {sw : Nat} {μ : ic_M} (hI : ic_I sw μ) (a1 a2 : Int32) : ∃ (v : Int32), fX8_cell sw μ a1 a2 = some v ∧ fX9_cell μ a1 a2 = some v ∧ ic_I sw μ := by
  sorry
theorem pu_person {sw : Nat} {μ : ic_M} (hI : ic_I sw μ) (a1 a2 : Int32) : ∃ (v : Int32), fX8_person sw μ a1 a2 = some v ∧ fX9_person μ a1 a2 = some v ∧ ic_I sw μ := by
  sorry
theorem pu_cold {sw : Nat} {μ : ic_M} (hI : ic_I sw μ) (a1 : Int32) : ∃ (v : Int32), fX8_cold sw μ a1 = some v ∧ fX9_cold μ a1 = some v ∧ ic_I sw μ := by
  sorry
theorem pu_night {sw : Nat} {μ : ic_M} (hI : ic_I sw μ) (a1 : Int32) : ∃ (v : Int32) (μ1 : ic_M) (μ2 : ic_M), fX8_night sw μ a1 = some (v, μ1) ∧ fX9_night μ1 a1 = some (v, μ2) ∧ ic_I sw μ2 := by
  sorry
theorem pu_step {sw : Nat} {μ : ic_M} (hI : ic_I sw μ) (a1 a2 : Int32) : ∃ (v : Int32) (μ1 : ic_M) (μ2 : ic_M), fX8_step sw μ a1 a2 = some (v, μ1) ∧ fX9_step μ1 a1 a2 = some (v, μ2) ∧ ic_I sw μ2 := by
  sorry
theorem pu_salt {sw : Nat} {μ : ic_M} (hI : ic_I sw μ) (a1 a2 a3 : Int32) : ∃ (v : Int32) (μ1 : ic_M) (μ2 : ic_M), fX8_salt sw μ a1 a2 a3 = some (v, μ1) ∧ fX9_salt μ1 a1 a2 a3 = some (v, μ2) ∧ ic_I sw μ2 := by
  sorry
theorem pu_snow {sw : Nat} {μ : ic_M} (hI : ic_I sw μ) (a1 a2 : Int32) (h2 : a2 = 0 ∨ a2 = 1) : ∃ (v : Int32) (μ1 : ic_M) (μ2 : ic_M), fX8_snow sw μ a1 a2 = some (v, μ1) ∧ fX9_snow μ1 a1 a2 = some (v, μ2) ∧ ic_I sw μ2 := by
  sorry
theorem pu_spring {sw : Nat} {μ : ic_M} (hI : ic_I sw μ) : ∃ (v : Int32) (μ1 : ic_M) (μ2 : ic_M), fX8_spring sw μ = some (v, μ1) ∧ fX9_spring μ1 = some (v, μ2) ∧ ic_I sw μ2 := by
  sorry
theorem pu_drift {sw : Nat} {μ : ic_M} (hI : ic_I sw μ) (a1 : Int32) : ∃ (v : Int32) (μ1 : ic_M) (μ2 : ic_M), fX8_drift sw μ a1 = some (v, μ1) ∧ fX9_drift μ1 a1 = some (v, μ2) ∧ ic_I sw μ2 := by
  sorry
theorem pu_undo {sw : Nat} {μ : ic_M} (hI : ic_I sw μ) : ∃ (v : Int32) (μ1 : ic_M) (μ2 : ic_M), fX8_undo sw μ = some (v, μ1) ∧ fX9_undo μ1 = some (v, μ2) ∧ ic_I sw μ2 := by
  sorry
theorem pu_then {sw : Nat} {μ : ic_M} (hI : ic_I sw μ) (a1 a2 : Int32) : ∃ (v : Int32) (μ2 : ic_M), fX8_then sw μ a1 a2 = some v ∧ fX9_then μ a1 a2 = some (v, μ2) ∧ ic_I sw μ2 := by
  sorry
theorem pu_when {sw : Nat} {μ : ic_M} (hI : ic_I sw μ) (a1 a2 : Int32) : ∃ (v : Int32) (μ2 : ic_M), fX8_when sw μ a1 a2 = some v ∧ fX9_when μ a1 a2 = some (v, μ2) ∧ ic_I sw μ2 := by
  sorry
theorem pu_noMore {sw : Nat} {μ : ic_M} (hI : ic_I sw μ) (a1 a2 : Int32) : ∃ (v : Int32) (μ2 : ic_M), fX8_noMore sw μ a1 a2 = some v ∧ fX9_noMore μ a1 a2 = some (v, μ2) ∧ ic_I sw μ2 := by
  sorry
theorem pu_over {sw : Nat} {μ : ic_M} (hI : ic_I sw μ) (a1 a2 : Int32) : ∃ (v : Int32) (μ1 : ic_M) (μ2 : ic_M), fX8_over sw μ a1 a2 = some (v, μ1) ∧ fX9_over μ1 a1 a2 = some (v, μ2) ∧ ic_I sw μ2 := by
  sorry
theorem pu_fewest {sw : Nat} {μ : ic_M} (hI : ic_I sw μ) (a1 : Int32) : ∃ (v : Int32) (μ1 : ic_M) (μ2 : ic_M), fX8_fewest sw μ a1 = some (v, μ1) ∧ fX9_fewest μ1 a1 = some (v, μ2) ∧ ic_I sw μ2 := by
  sorry
theorem pu_leastSalt {sw : Nat} {μ : ic_M} (hI : ic_I sw μ) (a1 : Int32) : ∃ (v : Int32), fX8_leastSalt sw μ a1 = some v ∧ fX9_leastSalt μ a1 = some v ∧ ic_I sw μ := by
  sorry
theorem pu_lives {sw : Nat} {μ : ic_M} (hI : ic_I sw μ) (a1 a2 : Int32) : ∃ (v : Int32) (μ1 : ic_M) (μ2 : ic_M), fX8_lives sw μ a1 a2 = some (v, μ1) ∧ fX9_lives μ1 a1 a2 = some (v, μ2) ∧ ic_I sw μ2 := by
  sorry
theorem pu_heard {sw : Nat} {μ : ic_M} (hI : ic_I sw μ) (a1 : Int32) : ∃ (v : Int32), fX8_heard sw μ a1 = some v ∧ fX9_heard μ a1 = some v ∧ ic_I sw μ := by
  sorry
theorem pu_game {sw : Nat} {μ : ic_M} (hI : ic_I sw μ) (a1 a2 a3 a4 a5 : Int32) : ∃ (v : Int32), fX8_game sw μ a1 a2 a3 a4 a5 = some v ∧ fX9_game μ a1 a2 a3 a4 a5 = some v ∧ ic_I sw μ := by
  sorry
theorem pu_tolls {sw : Nat} {μ : ic_M} (hI : ic_I sw μ) (a1 a2 : Int32) : ∃ (v : Int32), fX8_tolls sw μ a1 a2 = some v ∧ fX9_tolls μ a1 a2 = some v ∧ ic_I sw μ := by
  sorry
theorem pu_thaw {sw : Nat} {μ : ic_M} (hI : ic_I sw μ) (a1 a2 : Int32) : ∃ (v : Int32), fX8_thaw sw μ a1 a2 = some v ∧ fX9_thaw μ a1 a2 = some v ∧ ic_I sw μ := by
  sorry
theorem pu_see {sw : Nat} {μ : ic_M} (hI : ic_I sw μ) (a1 a2 : Int32) (h2 : a2 = 0 ∨ a2 = 1) : ∃ (v : Int32) (μ1 : ic_M) (μ2 : ic_M), fX8_see sw μ a1 a2 = some (v, μ1) ∧ fX9_see μ1 a1 a2 = some (v, μ2) ∧ ic_I sw μ2 := by
  sorry
theorem pu_who {sw : Nat} {μ : ic_M} (hI : ic_I sw μ) (a1 : Int32) : ∃ (v : Int32) (μ1 : ic_M), fX8_who sw μ a1 = some (v, μ1) ∧ fX9_who μ1 a1 = some v ∧ ic_I sw μ1 := by
  sorry
theorem pu_ask {sw : Nat} {μ : ic_M} (hI : ic_I sw μ) : ∃ (v : Int32) (μ1 : ic_M), fX8_ask sw μ = some (v, μ1) ∧ fX9_ask μ1 = some v ∧ ic_I sw μ1 := by
  sorry
theorem pu_write {sw : Nat} {μ : ic_M} (hI : ic_I sw μ) (a1 a2 : Int32) : ∃ (v : Int32) (μ1 : ic_M) (μ2 : ic_M), fX8_write sw μ a1 a2 = some (v, μ1) ∧ fX9_write μ1 a1 a2 = some (v, μ2) ∧ ic_I sw μ2 := by
  sorry
theorem pu_tear {sw : Nat} {μ : ic_M} (hI : ic_I sw μ) : ∃ (v : Int32) (μ1 : ic_M) (μ2 : ic_M), fX8_tear sw μ = some (v, μ1) ∧ fX9_tear μ1 = some (v, μ2) ∧ ic_I sw μ2 := by
  sorry
theorem pu_judge {sw : Nat} {μ : ic_M} (hI : ic_I sw μ) : ∃ (v : Int32), fX8_judge sw μ = some v ∧ fX9_judge μ = some v ∧ ic_I sw μ := by
  sorry
theorem pu_seed {sw : Nat} {μ : ic_M} (hI : ic_I sw μ) (a1 : Int32) : ∃ (v : Int32) (μ1 : ic_M) (μ2 : ic_M), fX8_seed sw μ a1 = some (v, μ1) ∧ fX9_seed μ1 a1 = some (v, μ2) ∧ ic_I sw μ2 := by
  sorry
theorem pu_keep {sw : Nat} {μ : ic_M} (hI : ic_I sw μ) (a1 : Int32) : ∃ (v : Int32) (μ1 : ic_M) (μ2 : ic_M), fX8_keep sw μ a1 = some (v, μ1) ∧ fX9_keep μ1 a1 = some (v, μ2) ∧ ic_I sw μ2 := by
  sorry
theorem pu_goBack {sw : Nat} {μ : ic_M} (hI : ic_I sw μ) (a1 : Int32) : ∃ (v : Int32) (μ1 : ic_M) (μ2 : ic_M), fX8_goBack sw μ a1 = some (v, μ1) ∧ fX9_goBack μ1 a1 = some (v, μ2) ∧ ic_I sw μ2 := by
  sorry
