/-! ===== the layout behind the constructors ===== -/
def ic_ld (sw : Nat) : Nat := if sw % 2 = 0 then 78 else 84
def ic_dr (sw : Nat) : Nat := if sw % 2 = 0 then 84 else 78
/-- what each reference is: land and draft change places -/
def ic_rs (sw : Nat) : ic_R := fun r k => match ic_sh (r - 1) with
  | (0, 8) => [2, 4, 7, 57, 61, 66, 69, ic_ld sw, ic_dr sw].getD k 0
  | (0, 9) => [91, 0, 0, 92, 93, 94, 95, 96, 97, 98, 99, 100, 0, 101, 102, 103, 0, 104, 0, 105, 0, 0, 0, 106].getD k 0
  | (3, _) => 9 + 3 * k
  | (4, _) => 70 + 4 * k
  | _ => r + 1 + k
theorem ic_rs_o {sw r ci k : Nat} (h : ic_isO 106 r ci) (hc : ci < 8) : ic_rs sw r k = r + 1 + k := by
  obtain ⟨a, rfl, ha, hs⟩ := h
  have e : a + 1 - 1 = a := rfl
  simp only [ic_rs, e, hs]
  split
  · rename_i h; cases h; omega
  · rename_i h; cases h; omega
  · rename_i h; cases h
  · rename_i h; cases h
  · rfl
theorem ic_ice1 {r : Nat} (h : ic_isO 106 r 1) : ic_isI 106 (r + 1) 18 := by
  obtain ⟨a, rfl, ha, hs⟩ := h
  have key : ∀ a, a < 106 → ic_sh a = (0, 1) → a + 1 < 106 ∧ ic_sh (a + 1) = (1, 18) := by decide +kernel
  exact ⟨a + 1, rfl, key a ha hs⟩
theorem ic_ice2 {r : Nat} (h : ic_isO 106 r 1) : ic_isI 106 (r + 2) 6 := by
  obtain ⟨a, rfl, ha, hs⟩ := h
  have key : ∀ a, a < 106 → ic_sh a = (0, 1) → a + 2 < 106 ∧ ic_sh (a + 2) = (1, 6) := by decide +kernel
  exact ⟨a + 2, rfl, key a ha hs⟩
theorem ic_img1 {r : Nat} (h : ic_isO 106 r 2) : ic_isO 106 (r + 1) 1 := by
  obtain ⟨a, rfl, ha, hs⟩ := h
  have key : ∀ a, a < 106 → ic_sh a = (0, 2) → a + 1 < 106 ∧ ic_sh (a + 1) = (0, 1) := by decide +kernel
  exact ⟨a + 1, rfl, key a ha hs⟩
theorem ic_riv1 {r : Nat} (h : ic_isO 106 r 5) : ic_isI 106 (r + 1) 18 := by
  obtain ⟨a, rfl, ha, hs⟩ := h
  have key : ∀ a, a < 106 → ic_sh a = (0, 5) → a + 1 < 106 ∧ ic_sh (a + 1) = (1, 18) := by decide +kernel
  exact ⟨a + 1, rfl, key a ha hs⟩
theorem ic_riv2 {r : Nat} (h : ic_isO 106 r 5) : ic_isI 106 (r + 2) 6 := by
  obtain ⟨a, rfl, ha, hs⟩ := h
  have key : ∀ a, a < 106 → ic_sh a = (0, 5) → a + 2 < 106 ∧ ic_sh (a + 2) = (1, 6) := by decide +kernel
  exact ⟨a + 2, rfl, key a ha hs⟩
theorem ic_riv3 {r : Nat} (h : ic_isO 106 r 5) : ic_isI 106 (r + 3) 12 := by
  obtain ⟨a, rfl, ha, hs⟩ := h
  have key : ∀ a, a < 106 → ic_sh a = (0, 5) → a + 3 < 106 ∧ ic_sh (a + 3) = (1, 12) := by decide +kernel
  exact ⟨a + 3, rfl, key a ha hs⟩
theorem ic_riv4 {r : Nat} (h : ic_isO 106 r 5) : ic_isI 106 (r + 4) 6 := by
  obtain ⟨a, rfl, ha, hs⟩ := h
  have key : ∀ a, a < 106 → ic_sh a = (0, 5) → a + 4 < 106 ∧ ic_sh (a + 4) = (1, 6) := by decide +kernel
  exact ⟨a + 4, rfl, key a ha hs⟩
theorem ic_riv5 {r : Nat} (h : ic_isO 106 r 5) : ic_isI 106 (r + 5) 6 := by
  obtain ⟨a, rfl, ha, hs⟩ := h
  have key : ∀ a, a < 106 → ic_sh a = (0, 5) → a + 5 < 106 ∧ ic_sh (a + 5) = (1, 6) := by decide +kernel
  exact ⟨a + 5, rfl, key a ha hs⟩
theorem cO_1 : ic_isO 106 1 8 := ⟨0, rfl, by decide, rfl⟩
theorem cO_2 : ic_isO 106 2 4 := ⟨1, rfl, by decide, rfl⟩
theorem cI_3 : ic_isI 106 3 240 := ⟨2, rfl, by decide, rfl⟩
theorem cO_4 : ic_isO 106 4 1 := ⟨3, rfl, by decide, rfl⟩
theorem cI_5 : ic_isI 106 5 18 := ⟨4, rfl, by decide, rfl⟩
theorem cI_6 : ic_isI 106 6 6 := ⟨5, rfl, by decide, rfl⟩
theorem cO_7 : ic_isO 106 7 3 := ⟨6, rfl, by decide, rfl⟩
theorem cQ_8 : ic_isQ 106 8 2 16 := ⟨7, rfl, by decide, Or.inl ⟨rfl, rfl⟩⟩
theorem cO_9 : ic_isO 106 9 1 := ⟨8, rfl, by decide, rfl⟩
theorem cI_10 : ic_isI 106 10 18 := ⟨9, rfl, by decide, rfl⟩
theorem cI_11 : ic_isI 106 11 6 := ⟨10, rfl, by decide, rfl⟩
theorem cO_12 : ic_isO 106 12 1 := ⟨11, rfl, by decide, rfl⟩
theorem cI_13 : ic_isI 106 13 18 := ⟨12, rfl, by decide, rfl⟩
theorem cI_14 : ic_isI 106 14 6 := ⟨13, rfl, by decide, rfl⟩
theorem cO_15 : ic_isO 106 15 1 := ⟨14, rfl, by decide, rfl⟩
theorem cI_16 : ic_isI 106 16 18 := ⟨15, rfl, by decide, rfl⟩
theorem cI_17 : ic_isI 106 17 6 := ⟨16, rfl, by decide, rfl⟩
theorem cO_18 : ic_isO 106 18 1 := ⟨17, rfl, by decide, rfl⟩
theorem cI_19 : ic_isI 106 19 18 := ⟨18, rfl, by decide, rfl⟩
theorem cI_20 : ic_isI 106 20 6 := ⟨19, rfl, by decide, rfl⟩
theorem cO_21 : ic_isO 106 21 1 := ⟨20, rfl, by decide, rfl⟩
theorem cI_22 : ic_isI 106 22 18 := ⟨21, rfl, by decide, rfl⟩
theorem cI_23 : ic_isI 106 23 6 := ⟨22, rfl, by decide, rfl⟩
theorem cO_24 : ic_isO 106 24 1 := ⟨23, rfl, by decide, rfl⟩
theorem cI_25 : ic_isI 106 25 18 := ⟨24, rfl, by decide, rfl⟩
theorem cI_26 : ic_isI 106 26 6 := ⟨25, rfl, by decide, rfl⟩
theorem cO_27 : ic_isO 106 27 1 := ⟨26, rfl, by decide, rfl⟩
theorem cI_28 : ic_isI 106 28 18 := ⟨27, rfl, by decide, rfl⟩
theorem cI_29 : ic_isI 106 29 6 := ⟨28, rfl, by decide, rfl⟩
theorem cO_30 : ic_isO 106 30 1 := ⟨29, rfl, by decide, rfl⟩
theorem cI_31 : ic_isI 106 31 18 := ⟨30, rfl, by decide, rfl⟩
theorem cI_32 : ic_isI 106 32 6 := ⟨31, rfl, by decide, rfl⟩
theorem cO_33 : ic_isO 106 33 1 := ⟨32, rfl, by decide, rfl⟩
theorem cI_34 : ic_isI 106 34 18 := ⟨33, rfl, by decide, rfl⟩
theorem cI_35 : ic_isI 106 35 6 := ⟨34, rfl, by decide, rfl⟩
theorem cO_36 : ic_isO 106 36 1 := ⟨35, rfl, by decide, rfl⟩
theorem cI_37 : ic_isI 106 37 18 := ⟨36, rfl, by decide, rfl⟩
theorem cI_38 : ic_isI 106 38 6 := ⟨37, rfl, by decide, rfl⟩
theorem cO_39 : ic_isO 106 39 1 := ⟨38, rfl, by decide, rfl⟩
theorem cI_40 : ic_isI 106 40 18 := ⟨39, rfl, by decide, rfl⟩
theorem cI_41 : ic_isI 106 41 6 := ⟨40, rfl, by decide, rfl⟩
theorem cO_42 : ic_isO 106 42 1 := ⟨41, rfl, by decide, rfl⟩
theorem cI_43 : ic_isI 106 43 18 := ⟨42, rfl, by decide, rfl⟩
theorem cI_44 : ic_isI 106 44 6 := ⟨43, rfl, by decide, rfl⟩
theorem cO_45 : ic_isO 106 45 1 := ⟨44, rfl, by decide, rfl⟩
theorem cI_46 : ic_isI 106 46 18 := ⟨45, rfl, by decide, rfl⟩
theorem cI_47 : ic_isI 106 47 6 := ⟨46, rfl, by decide, rfl⟩
theorem cO_48 : ic_isO 106 48 1 := ⟨47, rfl, by decide, rfl⟩
theorem cI_49 : ic_isI 106 49 18 := ⟨48, rfl, by decide, rfl⟩
theorem cI_50 : ic_isI 106 50 6 := ⟨49, rfl, by decide, rfl⟩
theorem cO_51 : ic_isO 106 51 1 := ⟨50, rfl, by decide, rfl⟩
theorem cI_52 : ic_isI 106 52 18 := ⟨51, rfl, by decide, rfl⟩
theorem cI_53 : ic_isI 106 53 6 := ⟨52, rfl, by decide, rfl⟩
theorem cO_54 : ic_isO 106 54 1 := ⟨53, rfl, by decide, rfl⟩
theorem cI_55 : ic_isI 106 55 18 := ⟨54, rfl, by decide, rfl⟩
theorem cI_56 : ic_isI 106 56 6 := ⟨55, rfl, by decide, rfl⟩
theorem cO_57 : ic_isO 106 57 7 := ⟨56, rfl, by decide, rfl⟩
theorem cO_58 : ic_isO 106 58 1 := ⟨57, rfl, by decide, rfl⟩
theorem cI_59 : ic_isI 106 59 18 := ⟨58, rfl, by decide, rfl⟩
theorem cI_60 : ic_isI 106 60 6 := ⟨59, rfl, by decide, rfl⟩
theorem cO_61 : ic_isO 106 61 6 := ⟨60, rfl, by decide, rfl⟩
theorem cI_62 : ic_isI 106 62 6 := ⟨61, rfl, by decide, rfl⟩
theorem cZ_63 : ic_isZ 106 63 6 := ⟨62, rfl, by decide, rfl⟩
theorem cI_64 : ic_isI 106 64 64 := ⟨63, rfl, by decide, rfl⟩
theorem cI_65 : ic_isI 106 65 64 := ⟨64, rfl, by decide, rfl⟩
theorem cO_66 : ic_isO 106 66 0 := ⟨65, rfl, by decide, rfl⟩
theorem cI_67 : ic_isI 106 67 15 := ⟨66, rfl, by decide, rfl⟩
theorem cI_68 : ic_isI 106 68 15 := ⟨67, rfl, by decide, rfl⟩
theorem cQ_69 : ic_isQ 106 69 3 2 := ⟨68, rfl, by decide, Or.inr ⟨rfl, rfl⟩⟩
theorem cO_70 : ic_isO 106 70 2 := ⟨69, rfl, by decide, rfl⟩
theorem cO_71 : ic_isO 106 71 1 := ⟨70, rfl, by decide, rfl⟩
theorem cI_72 : ic_isI 106 72 18 := ⟨71, rfl, by decide, rfl⟩
theorem cI_73 : ic_isI 106 73 6 := ⟨72, rfl, by decide, rfl⟩
theorem cO_74 : ic_isO 106 74 2 := ⟨73, rfl, by decide, rfl⟩
theorem cO_75 : ic_isO 106 75 1 := ⟨74, rfl, by decide, rfl⟩
theorem cI_76 : ic_isI 106 76 18 := ⟨75, rfl, by decide, rfl⟩
theorem cI_77 : ic_isI 106 77 6 := ⟨76, rfl, by decide, rfl⟩
theorem cO_78 : ic_isO 106 78 5 := ⟨77, rfl, by decide, rfl⟩
theorem cI_79 : ic_isI 106 79 18 := ⟨78, rfl, by decide, rfl⟩
theorem cI_80 : ic_isI 106 80 6 := ⟨79, rfl, by decide, rfl⟩
theorem cI_81 : ic_isI 106 81 12 := ⟨80, rfl, by decide, rfl⟩
theorem cI_82 : ic_isI 106 82 6 := ⟨81, rfl, by decide, rfl⟩
theorem cI_83 : ic_isI 106 83 6 := ⟨82, rfl, by decide, rfl⟩
theorem cO_84 : ic_isO 106 84 5 := ⟨83, rfl, by decide, rfl⟩
theorem cI_85 : ic_isI 106 85 18 := ⟨84, rfl, by decide, rfl⟩
theorem cI_86 : ic_isI 106 86 6 := ⟨85, rfl, by decide, rfl⟩
theorem cI_87 : ic_isI 106 87 12 := ⟨86, rfl, by decide, rfl⟩
theorem cI_88 : ic_isI 106 88 6 := ⟨87, rfl, by decide, rfl⟩
theorem cI_89 : ic_isI 106 89 6 := ⟨88, rfl, by decide, rfl⟩
theorem cO_90 : ic_isO 106 90 9 := ⟨89, rfl, by decide, rfl⟩
theorem cI_91 : ic_isI 106 91 240 := ⟨90, rfl, by decide, rfl⟩
theorem cI_92 : ic_isI 106 92 7 := ⟨91, rfl, by decide, rfl⟩
theorem cI_93 : ic_isI 106 93 36 := ⟨92, rfl, by decide, rfl⟩
theorem cI_94 : ic_isI 106 94 12 := ⟨93, rfl, by decide, rfl⟩
theorem cI_95 : ic_isI 106 95 7 := ⟨94, rfl, by decide, rfl⟩
theorem cI_96 : ic_isI 106 96 36 := ⟨95, rfl, by decide, rfl⟩
theorem cI_97 : ic_isI 106 97 12 := ⟨96, rfl, by decide, rfl⟩
theorem cI_98 : ic_isI 106 98 28 := ⟨97, rfl, by decide, rfl⟩
theorem cI_99 : ic_isI 106 99 28 := ⟨98, rfl, by decide, rfl⟩
theorem cI_100 : ic_isI 106 100 448 := ⟨99, rfl, by decide, rfl⟩
theorem cI_101 : ic_isI 106 101 56 := ⟨100, rfl, by decide, rfl⟩
theorem cI_102 : ic_isI 106 102 2 := ⟨101, rfl, by decide, rfl⟩
theorem cZ_103 : ic_isZ 106 103 2 := ⟨102, rfl, by decide, rfl⟩
theorem cI_104 : ic_isI 106 104 12 := ⟨103, rfl, by decide, rfl⟩
theorem cI_105 : ic_isI 106 105 30 := ⟨104, rfl, by decide, rfl⟩
theorem cI_106 : ic_isI 106 106 18 := ⟨105, rfl, by decide, rfl⟩
theorem ic_ldO (sw : Nat) : ic_isO 106 (ic_ld sw) 5 := by
  unfold ic_ld
  split
  · exact cO_78
  · exact cO_84
theorem ic_drO (sw : Nat) : ic_isO 106 (ic_dr sw) 5 := by
  unfold ic_dr
  split
  · exact cO_84
  · exact cO_78
/-- a reference whose class is looked at in the function -/
def ic_ob (r : Nat) : Nat := if r = 0 then 99 else if r - 1 < 106 then (match ic_sh (r - 1) with | (0, ci) => ci | _ => 99) else 99
def ic_ck {α : Type} (r ci : Nat) (T : Option α) : Option α := if ic_ob r = ci ∧ ci < 99 then T else none
theorem ic_ck_of {α : Type} {r ci : Nat} {T : Option α} {R : α} (h : ic_ck r ci T = some R) : ic_isO 106 r ci ∧ T = some R := by
  by_cases hc : ic_ob r = ci ∧ ci < 99
  · rw [ic_ck, if_pos hc] at h
    refine ⟨?_, h⟩
    obtain ⟨h1, h2⟩ := hc
    unfold ic_ob at h1
    split at h1
    · omega
    · split at h1
      · rename_i h3 h4
        split at h1
        · rename_i cj hs
          subst h1
          exact ⟨r - 1, by omega, h4, hs⟩
        · omega
      · omega
  · rw [ic_ck, if_neg hc] at h; cases h
theorem ic_ck_is {α : Type} {r ci : Nat} {T : Option α} (h : ic_isO 106 r ci) (hc : ci < 99) : ic_ck r ci T = T := by
  obtain ⟨a, rfl, ha, hs⟩ := h
  have e : ic_ob (a + 1) = ci := by simp [ic_ob, ha, hs]
  rw [ic_ck, if_pos ⟨e, hc⟩]
/-- the length of an array that is a parameter -/
def ic_ln {α : Type} (r : Nat) (T : Option α) : Option α := if ic_il 106 r = 0 then none else T
theorem ic_ln_of {α : Type} {r : Nat} {T : Option α} {R : α} (h : ic_ln r T = some R) : ic_isI 106 r (ic_il 106 r) ∧ T = some R := by
  by_cases hc : ic_il 106 r = 0
  · rw [ic_ln, if_pos hc] at h; cases h
  · rw [ic_ln, if_neg hc] at h
    refine ⟨ic_il_is (j := 0) ?_, h⟩
    rintro (h1 | h1)
    · exact absurd h1 (by decide)
    · have : (0 : Int32).toNatClampNeg = 0 := by decide
      omega
theorem ic_out0_15 {x : Int32} (h0 : ¬ x = (0 : Int32)) (h1 : ¬ x = (1 : Int32)) (h2 : ¬ x = (2 : Int32)) (h3 : ¬ x = (3 : Int32)) (h4 : ¬ x = (4 : Int32)) (h5 : ¬ x = (5 : Int32)) (h6 : ¬ x = (6 : Int32)) (h7 : ¬ x = (7 : Int32)) (h8 : ¬ x = (8 : Int32)) (h9 : ¬ x = (9 : Int32)) (h10 : ¬ x = (10 : Int32)) (h11 : ¬ x = (11 : Int32)) (h12 : ¬ x = (12 : Int32)) (h13 : ¬ x = (13 : Int32)) (h14 : ¬ x = (14 : Int32)) (h15 : ¬ x = (15 : Int32)) : x.toInt < 0 ∨ 15 < x.toInt := by
  refine Decidable.byContradiction fun hc => ?_
  have e : x.toInt = 0 ∨ x.toInt = 1 ∨ x.toInt = 2 ∨ x.toInt = 3 ∨ x.toInt = 4 ∨ x.toInt = 5 ∨ x.toInt = 6 ∨ x.toInt = 7 ∨ x.toInt = 8 ∨ x.toInt = 9 ∨ x.toInt = 10 ∨ x.toInt = 11 ∨ x.toInt = 12 ∨ x.toInt = 13 ∨ x.toInt = 14 ∨ x.toInt = 15 := by omega
  rcases e with e | e | e | e | e | e | e | e | e | e | e | e | e | e | e | e
  · exact h0 (Int32.toInt_inj.mp (e.trans (by decide)))
  · exact h1 (Int32.toInt_inj.mp (e.trans (by decide)))
  · exact h2 (Int32.toInt_inj.mp (e.trans (by decide)))
  · exact h3 (Int32.toInt_inj.mp (e.trans (by decide)))
  · exact h4 (Int32.toInt_inj.mp (e.trans (by decide)))
  · exact h5 (Int32.toInt_inj.mp (e.trans (by decide)))
  · exact h6 (Int32.toInt_inj.mp (e.trans (by decide)))
  · exact h7 (Int32.toInt_inj.mp (e.trans (by decide)))
  · exact h8 (Int32.toInt_inj.mp (e.trans (by decide)))
  · exact h9 (Int32.toInt_inj.mp (e.trans (by decide)))
  · exact h10 (Int32.toInt_inj.mp (e.trans (by decide)))
  · exact h11 (Int32.toInt_inj.mp (e.trans (by decide)))
  · exact h12 (Int32.toInt_inj.mp (e.trans (by decide)))
  · exact h13 (Int32.toInt_inj.mp (e.trans (by decide)))
  · exact h14 (Int32.toInt_inj.mp (e.trans (by decide)))
  · exact h15 (Int32.toInt_inj.mp (e.trans (by decide)))
theorem ic_out0_5 {x : Int32} (h0 : ¬ x = (0 : Int32)) (h1 : ¬ x = (1 : Int32)) (h2 : ¬ x = (2 : Int32)) (h3 : ¬ x = (3 : Int32)) (h4 : ¬ x = (4 : Int32)) (h5 : ¬ x = (5 : Int32)) : x.toInt < 0 ∨ 5 < x.toInt := by
  refine Decidable.byContradiction fun hc => ?_
  have e : x.toInt = 0 ∨ x.toInt = 1 ∨ x.toInt = 2 ∨ x.toInt = 3 ∨ x.toInt = 4 ∨ x.toInt = 5 := by omega
  rcases e with e | e | e | e | e | e
  · exact h0 (Int32.toInt_inj.mp (e.trans (by decide)))
  · exact h1 (Int32.toInt_inj.mp (e.trans (by decide)))
  · exact h2 (Int32.toInt_inj.mp (e.trans (by decide)))
  · exact h3 (Int32.toInt_inj.mp (e.trans (by decide)))
  · exact h4 (Int32.toInt_inj.mp (e.trans (by decide)))
  · exact h5 (Int32.toInt_inj.mp (e.trans (by decide)))
theorem ic_out0_2 {x : Int32} (h0 : ¬ x = (0 : Int32)) (h1 : ¬ x = (1 : Int32)) (h2 : ¬ x = (2 : Int32)) : x.toInt < 0 ∨ 2 < x.toInt := by
  refine Decidable.byContradiction fun hc => ?_
  have e : x.toInt = 0 ∨ x.toInt = 1 ∨ x.toInt = 2 := by omega
  rcases e with e | e | e
  · exact h0 (Int32.toInt_inj.mp (e.trans (by decide)))
  · exact h1 (Int32.toInt_inj.mp (e.trans (by decide)))
  · exact h2 (Int32.toInt_inj.mp (e.trans (by decide)))
