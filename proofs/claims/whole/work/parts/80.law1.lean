/-! THE CLAIM OUT OF ONE WALK OF THE LAW'S BODY. Your part is whole_start (and what it stands on); all else here is the same for every law, but numbers. -/
def R_law : String := "IceLawLaw"
def lw_P (b : Addr) (xs : List Int32) (args : Array Value) (s : State) : Prop := args = #[.ref b] ∧ s.IntsAt b xs ∧ xs.length ≤ 384 ∧ (Jvm.Cond.and given_1 narrow_1).before args s = true
def lw_Q (_ : Array Value) (s : State) (o : Outcome) (t : State) : Prop := o = .returned (some (.int 1)) ∧ Framed s o t [] 600000 7302250
def lw_Z (below : List Frame) (a : Array Value) (s : State) : State → Prop := fun t => ∃ o, t.status = .running ∧ Ended t below o ∧ lw_Q a s o t
/-- the law's own end, with 1 on the stack, nothing written that was there before, its room as the claim has it -/
theorem lw_ret {p : Program} {l : Launch} {e : Env} {s : State} {m : MethodId} {below : List Frame} {meth : Method} {c : Code} {b : Nat} (hx : p.tables.exec = Jvm.exec) (hb : c.code = code) (hr : meth.sig.returnType = ret) (hlocks : meth.locks = false) {pc : Nat} {H : Heap} {ls : Array Slot} (hdg : decode code pc = .ok (.ireturn, 1)) : W p l e room_1 s m #[Value.ref b] below meth c H [] 600000 7302250 (lw_Z below #[Value.ref b] s) (F0 m pc ls [.int 1]) := by
  intro T hT X
  obtain ⟨fs, hret, hrun, hended, hW, hframe⟩ := X.leave (v := some (.int 1)) (hlocks := hlocks) (fun h => by rw [hr] at h; cases h)
  have hmeth' : T.vm.method? m = some meth := X.method'
  refine ⟨T.setFrames fs, ?_, .returned (some (.int 1)), hrun, hended, rfl, ⟨_, rfl⟩, hW, hframe⟩
  jvm_step X.here [X.here.top, hx, hb, hdg, hmeth', hr, ret, narrow_b1]
  (try refine ⟨rfl, ?_⟩); (try refine ⟨rfl, ?_⟩)
  first | (intro acts; rw [hret _ acts rfl rfl rfl]) | rw [hret _ _ rfl rfl rfl]
  exact Steps.refl _
/-- what holds at the law's entry: the machine, the code, the tables' words (any of lw_tbl by 'hts w (by decide +kernel)'), the script of L ints xs at the cell b, what the Statement gives of the start (any of its parts by flat_of_before) -/
def lw_At (p : Program) (s : State) (m : MethodId) (meth : Method) (c : Code) (b L : Nat) (xs : Nat → Int32) : Prop :=
  p.tables.exec = Jvm.exec ∧ c.code = code ∧ meth.sig.returnType = ret ∧ c.maxLocals = 4 ∧ s.vm.findClass R_law = some m.cls ∧ (∀ w ∈ lw_tbl, w.before #[Value.ref b] s = true) ∧ va_X b L xs s s.heap ∧ b < s.heap.size ∧ meth.locks = false ∧ (Jvm.Cond.and given_1 narrow_1).before #[Value.ref b] s = true ∧ meth.name = x.name

theorem llm_13 : Cond.methodLink R_law 13 yX8_feed ∈ ic_tb := ic_in 343 (by decide +kernel)
theorem llm_17 : Cond.methodLink R_law 17 yX9_feed ∈ ic_tb := ic_in 966 (by decide +kernel)
theorem llm_18 : Cond.methodLink R_law 18 yX8_river ∈ ic_tb := ic_in 356 (by decide +kernel)
theorem llm_22 : Cond.methodLink R_law 22 yX9_river ∈ ic_tb := ic_in 975 (by decide +kernel)
theorem llm_23 : Cond.methodLink R_law 23 yX8_fault ∈ ic_tb := ic_in 429 (by decide +kernel)
theorem llm_26 : Cond.methodLink R_law 26 yX9_fault ∈ ic_tb := ic_in 1030 (by decide +kernel)
theorem llm_27 : Cond.methodLink R_law 27 yX8_told ∈ ic_tb := ic_in 433 (by decide +kernel)
theorem llm_30 : Cond.methodLink R_law 30 yX9_told ∈ ic_tb := ic_in 1034 (by decide +kernel)
theorem llm_31 : Cond.methodLink R_law 31 yX8_cell ∈ ic_tb := ic_in 492 (by decide +kernel)
theorem llm_35 : Cond.methodLink R_law 35 yX9_cell ∈ ic_tb := ic_in 1074 (by decide +kernel)
theorem llm_36 : Cond.methodLink R_law 36 yX8_person ∈ ic_tb := ic_in 510 (by decide +kernel)
theorem llm_39 : Cond.methodLink R_law 39 yX9_person ∈ ic_tb := ic_in 1087 (by decide +kernel)
theorem llm_40 : Cond.methodLink R_law 40 yX8_cold ∈ ic_tb := ic_in 524 (by decide +kernel)
theorem llm_43 : Cond.methodLink R_law 43 yX9_cold ∈ ic_tb := ic_in 1095 (by decide +kernel)
theorem llm_44 : Cond.methodLink R_law 44 yX8_night ∈ ic_tb := ic_in 537 (by decide +kernel)
theorem llm_47 : Cond.methodLink R_law 47 yX9_night ∈ ic_tb := ic_in 1108 (by decide +kernel)
theorem llm_48 : Cond.methodLink R_law 48 yX8_step ∈ ic_tb := ic_in 605 (by decide +kernel)
theorem llm_51 : Cond.methodLink R_law 51 yX9_step ∈ ic_tb := ic_in 1142 (by decide +kernel)
theorem llm_52 : Cond.methodLink R_law 52 yX8_salt ∈ ic_tb := ic_in 630 (by decide +kernel)
theorem llm_56 : Cond.methodLink R_law 56 yX9_salt ∈ ic_tb := ic_in 1158 (by decide +kernel)
theorem llm_57 : Cond.methodLink R_law 57 yX8_snow ∈ ic_tb := ic_in 640 (by decide +kernel)
theorem llm_61 : Cond.methodLink R_law 61 yX9_snow ∈ ic_tb := ic_in 1162 (by decide +kernel)
theorem llm_62 : Cond.methodLink R_law 62 yX8_spring ∈ ic_tb := ic_in 649 (by decide +kernel)
theorem llm_65 : Cond.methodLink R_law 65 yX9_spring ∈ ic_tb := ic_in 1166 (by decide +kernel)
theorem llm_66 : Cond.methodLink R_law 66 yX8_drift ∈ ic_tb := ic_in 657 (by decide +kernel)
theorem llm_69 : Cond.methodLink R_law 69 yX9_drift ∈ ic_tb := ic_in 1170 (by decide +kernel)
theorem llm_70 : Cond.methodLink R_law 70 yX8_undo ∈ ic_tb := ic_in 673 (by decide +kernel)
theorem llm_73 : Cond.methodLink R_law 73 yX9_undo ∈ ic_tb := ic_in 1182 (by decide +kernel)
theorem llm_74 : Cond.methodLink R_law 74 yX8_then ∈ ic_tb := ic_in 681 (by decide +kernel)
theorem llm_77 : Cond.methodLink R_law 77 yX9_then ∈ ic_tb := ic_in 1186 (by decide +kernel)
theorem llm_78 : Cond.methodLink R_law 78 yX8_when ∈ ic_tb := ic_in 693 (by decide +kernel)
theorem llm_81 : Cond.methodLink R_law 81 yX9_when ∈ ic_tb := ic_in 1198 (by decide +kernel)
theorem llm_82 : Cond.methodLink R_law 82 yX8_noMore ∈ ic_tb := ic_in 701 (by decide +kernel)
theorem llm_85 : Cond.methodLink R_law 85 yX9_noMore ∈ ic_tb := ic_in 1206 (by decide +kernel)
theorem llm_86 : Cond.methodLink R_law 86 yX8_over ∈ ic_tb := ic_in 705 (by decide +kernel)
theorem llm_89 : Cond.methodLink R_law 89 yX9_over ∈ ic_tb := ic_in 1210 (by decide +kernel)
theorem llm_90 : Cond.methodLink R_law 90 yX8_fewest ∈ ic_tb := ic_in 740 (by decide +kernel)
theorem llm_93 : Cond.methodLink R_law 93 yX9_fewest ∈ ic_tb := ic_in 1222 (by decide +kernel)
theorem llm_94 : Cond.methodLink R_law 94 yX8_leastSalt ∈ ic_tb := ic_in 756 (by decide +kernel)
theorem llm_97 : Cond.methodLink R_law 97 yX9_leastSalt ∈ ic_tb := ic_in 1229 (by decide +kernel)
theorem llm_98 : Cond.methodLink R_law 98 yX8_lives ∈ ic_tb := ic_in 764 (by decide +kernel)
theorem llm_101 : Cond.methodLink R_law 101 yX9_lives ∈ ic_tb := ic_in 1233 (by decide +kernel)
theorem llm_102 : Cond.methodLink R_law 102 yX8_heard ∈ ic_tb := ic_in 773 (by decide +kernel)
theorem llm_105 : Cond.methodLink R_law 105 yX9_heard ∈ ic_tb := ic_in 1237 (by decide +kernel)
theorem llm_106 : Cond.methodLink R_law 106 yX8_game ∈ ic_tb := ic_in 783 (by decide +kernel)
theorem llm_110 : Cond.methodLink R_law 110 yX9_game ∈ ic_tb := ic_in 1241 (by decide +kernel)
theorem llm_111 : Cond.methodLink R_law 111 yX8_tolls ∈ ic_tb := ic_in 790 (by decide +kernel)
theorem llm_114 : Cond.methodLink R_law 114 yX9_tolls ∈ ic_tb := ic_in 1252 (by decide +kernel)
theorem llm_115 : Cond.methodLink R_law 115 yX8_thaw ∈ ic_tb := ic_in 798 (by decide +kernel)
theorem llm_118 : Cond.methodLink R_law 118 yX9_thaw ∈ ic_tb := ic_in 1256 (by decide +kernel)
theorem llm_119 : Cond.methodLink R_law 119 yX8_see ∈ ic_tb := ic_in 802 (by decide +kernel)
theorem llm_122 : Cond.methodLink R_law 122 yX9_see ∈ ic_tb := ic_in 1260 (by decide +kernel)
theorem llm_123 : Cond.methodLink R_law 123 yX8_who ∈ ic_tb := ic_in 810 (by decide +kernel)
theorem llm_126 : Cond.methodLink R_law 126 yX9_who ∈ ic_tb := ic_in 1264 (by decide +kernel)
theorem llm_127 : Cond.methodLink R_law 127 yX8_ask ∈ ic_tb := ic_in 836 (by decide +kernel)
theorem llm_130 : Cond.methodLink R_law 130 yX9_ask ∈ ic_tb := ic_in 1276 (by decide +kernel)
theorem llm_131 : Cond.methodLink R_law 131 yX8_write ∈ ic_tb := ic_in 849 (by decide +kernel)
theorem llm_134 : Cond.methodLink R_law 134 yX9_write ∈ ic_tb := ic_in 1281 (by decide +kernel)
theorem llm_135 : Cond.methodLink R_law 135 yX8_tear ∈ ic_tb := ic_in 857 (by decide +kernel)
theorem llm_138 : Cond.methodLink R_law 138 yX9_tear ∈ ic_tb := ic_in 1285 (by decide +kernel)
theorem llm_139 : Cond.methodLink R_law 139 yX8_judge ∈ ic_tb := ic_in 861 (by decide +kernel)
theorem llm_142 : Cond.methodLink R_law 142 yX9_judge ∈ ic_tb := ic_in 1289 (by decide +kernel)
theorem llm_143 : Cond.methodLink R_law 143 yX8_seed ∈ ic_tb := ic_in 870 (by decide +kernel)
theorem llm_146 : Cond.methodLink R_law 146 yX9_seed ∈ ic_tb := ic_in 1293 (by decide +kernel)
theorem llm_147 : Cond.methodLink R_law 147 yX8_keep ∈ ic_tb := ic_in 874 (by decide +kernel)
theorem llm_150 : Cond.methodLink R_law 150 yX9_keep ∈ ic_tb := ic_in 1297 (by decide +kernel)
theorem llm_151 : Cond.methodLink R_law 151 yX8_goBack ∈ ic_tb := ic_in 883 (by decide +kernel)
theorem llm_154 : Cond.methodLink R_law 154 yX9_goBack ∈ ic_tb := ic_in 1301 (by decide +kernel)
theorem ic_out0_33 {x : Int32} (h0 : ¬ x = (0 : Int32)) (h1 : ¬ x = (1 : Int32)) (h2 : ¬ x = (2 : Int32)) (h3 : ¬ x = (3 : Int32)) (h4 : ¬ x = (4 : Int32)) (h5 : ¬ x = (5 : Int32)) (h6 : ¬ x = (6 : Int32)) (h7 : ¬ x = (7 : Int32)) (h8 : ¬ x = (8 : Int32)) (h9 : ¬ x = (9 : Int32)) (h10 : ¬ x = (10 : Int32)) (h11 : ¬ x = (11 : Int32)) (h12 : ¬ x = (12 : Int32)) (h13 : ¬ x = (13 : Int32)) (h14 : ¬ x = (14 : Int32)) (h15 : ¬ x = (15 : Int32)) (h16 : ¬ x = (16 : Int32)) (h17 : ¬ x = (17 : Int32)) (h18 : ¬ x = (18 : Int32)) (h19 : ¬ x = (19 : Int32)) (h20 : ¬ x = (20 : Int32)) (h21 : ¬ x = (21 : Int32)) (h22 : ¬ x = (22 : Int32)) (h23 : ¬ x = (23 : Int32)) (h24 : ¬ x = (24 : Int32)) (h25 : ¬ x = (25 : Int32)) (h26 : ¬ x = (26 : Int32)) (h27 : ¬ x = (27 : Int32)) (h28 : ¬ x = (28 : Int32)) (h29 : ¬ x = (29 : Int32)) (h30 : ¬ x = (30 : Int32)) (h31 : ¬ x = (31 : Int32)) (h32 : ¬ x = (32 : Int32)) (h33 : ¬ x = (33 : Int32)) : x.toInt < 0 ∨ 33 < x.toInt := by
  refine Decidable.byContradiction fun hc => ?_
  have e : x.toInt = 0 ∨ x.toInt = 1 ∨ x.toInt = 2 ∨ x.toInt = 3 ∨ x.toInt = 4 ∨ x.toInt = 5 ∨ x.toInt = 6 ∨ x.toInt = 7 ∨ x.toInt = 8 ∨ x.toInt = 9 ∨ x.toInt = 10 ∨ x.toInt = 11 ∨ x.toInt = 12 ∨ x.toInt = 13 ∨ x.toInt = 14 ∨ x.toInt = 15 ∨ x.toInt = 16 ∨ x.toInt = 17 ∨ x.toInt = 18 ∨ x.toInt = 19 ∨ x.toInt = 20 ∨ x.toInt = 21 ∨ x.toInt = 22 ∨ x.toInt = 23 ∨ x.toInt = 24 ∨ x.toInt = 25 ∨ x.toInt = 26 ∨ x.toInt = 27 ∨ x.toInt = 28 ∨ x.toInt = 29 ∨ x.toInt = 30 ∨ x.toInt = 31 ∨ x.toInt = 32 ∨ x.toInt = 33 := by omega
  rcases e with e | e | e | e | e | e | e | e | e | e | e | e | e | e | e | e | e | e | e | e | e | e | e | e | e | e | e | e | e | e | e | e | e | e
  · exact h0 (Int32.toInt_inj.mp (e.trans (by decide)))
  · exact h1 (Int32.toInt_inj.mp (e.trans (by decide)))
  · exact h2 (Int32.toInt_inj.mp (e.trans (by decide)))
  · exact h3 (Int32.toInt_inj.mp (e.trans (by decide)))
  · exact h4 (Int32.toInt_inj.mp (e.trans (by decide)))
  · exact h5 (Int32.toInt_inj.mp (e.trans (by decide)))
  · exact h6 (Int32.toInt_inj.mp (e.trans (by decide)))
  · exact h7 (Int32.toInt_inj.mp (e.trans (by decide)))
  · exact h8 (Int32.toInt_inj.mp (e.trans (by decide)))
  · exact h9 (Int32.toInt_inj.mp (e.trans (by decide)))
  · exact h10 (Int32.toInt_inj.mp (e.trans (by decide)))
  · exact h11 (Int32.toInt_inj.mp (e.trans (by decide)))
  · exact h12 (Int32.toInt_inj.mp (e.trans (by decide)))
  · exact h13 (Int32.toInt_inj.mp (e.trans (by decide)))
  · exact h14 (Int32.toInt_inj.mp (e.trans (by decide)))
  · exact h15 (Int32.toInt_inj.mp (e.trans (by decide)))
  · exact h16 (Int32.toInt_inj.mp (e.trans (by decide)))
  · exact h17 (Int32.toInt_inj.mp (e.trans (by decide)))
  · exact h18 (Int32.toInt_inj.mp (e.trans (by decide)))
  · exact h19 (Int32.toInt_inj.mp (e.trans (by decide)))
  · exact h20 (Int32.toInt_inj.mp (e.trans (by decide)))
  · exact h21 (Int32.toInt_inj.mp (e.trans (by decide)))
  · exact h22 (Int32.toInt_inj.mp (e.trans (by decide)))
  · exact h23 (Int32.toInt_inj.mp (e.trans (by decide)))
  · exact h24 (Int32.toInt_inj.mp (e.trans (by decide)))
  · exact h25 (Int32.toInt_inj.mp (e.trans (by decide)))
  · exact h26 (Int32.toInt_inj.mp (e.trans (by decide)))
  · exact h27 (Int32.toInt_inj.mp (e.trans (by decide)))
  · exact h28 (Int32.toInt_inj.mp (e.trans (by decide)))
  · exact h29 (Int32.toInt_inj.mp (e.trans (by decide)))
  · exact h30 (Int32.toInt_inj.mp (e.trans (by decide)))
  · exact h31 (Int32.toInt_inj.mp (e.trans (by decide)))
  · exact h32 (Int32.toInt_inj.mp (e.trans (by decide)))
  · exact h33 (Int32.toInt_inj.mp (e.trans (by decide)))
/-! ===== the law's own rows ===== -/
def ic_law : ic_Md := (x, code, maxLocals, ret, room_1)
def ic_XL (κ : ic_K) (b Ls : Nat) (xs : Nat → Int32) : State → Array Value → Prop := fun s args => args = #[Value.ref b] ∧ va_X b Ls xs s s.heap ∧ b < s.heap.size ∧ s.heap.size = κ.1
def ic_ZL : State → List Frame → Array Value → State → Prop := fun s below args => lw_Z below args s
def ic_nz (x : Int32) : Int32 := if x = 0 then 0 else 1
theorem ic_nz_b (x : Int32) : ic_nz x = 0 ∨ ic_nz x = 1 := by
  unfold ic_nz
  split
  · exact Or.inl rfl
  · exact Or.inr rfl
section ICL
variable {l : Launch} {κ : ic_K} {b Ls : Nat} {xs : Nat → Int32} {Z : State → List Frame → Array Value → State → Prop} {pc pc' : Nat} {L L' : List (Nat × Value)} {S : List Value} {n : Nat} {ρ : ic_R} {μ : ic_M} {c0 s0 : Nat} {M : ic_Md} {X : State → Array Value → Prop}
theorem iw_aloadb {i : Fin 4} {a : Nat} (j : Nat) (hj : L[j]? = some ((i : Nat), .ref a)) (hd : decode M.2.1 pc = .ok (.aload_n i, 1) ∧ pc + 1 = pc') (k : ic_W l κ M X Z pc' L (.ref a :: S) n ρ μ c0 s0) : ic_W l κ M X Z pc L S n ρ μ c0 s0 := by
  obtain ⟨hd, rfl⟩ := hd
  intro p e s m args below meth c C hX hK hB ls H locs hl hP hS
  exact lv_aload_n C.1 C.2.1 hd rfl (lv_at hl.1 j hj) (k p e s m args below meth c C hX hK hB ls H locs hl hP hS)
theorem iw_sld {j : Int32} (hin : vp_in j Ls) (hd : decode M.2.1 pc = .ok (.iaload, 1) ∧ pc + 1 = pc') (k : ic_W l κ M (ic_XL κ b Ls xs) Z pc' L (.int (xs j.toNatClampNeg) :: S) n ρ μ c0 s0) : ic_W l κ M (ic_XL κ b Ls xs) Z pc L (.int j :: .ref b :: S) n ρ μ c0 s0 := by
  obtain ⟨hd, rfl⟩ := hd
  intro p e s m args below meth c C hX hK hB ls H locs hl hP hS
  obtain ⟨-, hx, hb, hk⟩ := id hX
  exact va_sld C.1 C.2.1 hx hb (fun h => by rw [ic_A] at h; omega) hS hin hd (k p e s m args below meth c C hX hK hB ls H locs hl hP hS)
theorem iw_slen (hd : decode M.2.1 pc = .ok (.arraylength, 1) ∧ pc + 1 = pc') (k : ic_W l κ M (ic_XL κ b Ls xs) Z pc' L (.int (Int32.ofNat Ls) :: S) n ρ μ c0 s0) : ic_W l κ M (ic_XL κ b Ls xs) Z pc L (.ref b :: S) n ρ μ c0 s0 := by
  obtain ⟨hd, rfl⟩ := hd
  intro p e s m args below meth c C hX hK hB ls H locs hl hP hS
  obtain ⟨-, hx, hb, hk⟩ := id hX
  exact va_slen C.1 C.2.1 hx hb (fun h => by rw [ic_A] at h; omega) hS hd (k p e s m args below meth c C hX hK hB ls H locs hl hP hS)
theorem iw_nz {x : Int32} {off off2 : Int} {tg pc1 pc2 pc3 : Nat} (hd : (decode M.2.1 pc = .ok (.ifCond .eq off, 3) ∧ (pc : Int) + off = (tg : Int) ∧ pc + 3 = pc1) ∧ (decode M.2.1 pc1 = .ok (.iconst 1, 1) ∧ pc1 + 1 = pc2) ∧ (decode M.2.1 pc2 = .ok (.goto off2, 3) ∧ (pc2 : Int) + off2 = (pc3 : Int)) ∧ (decode M.2.1 tg = .ok (.iconst 0, 1) ∧ tg + 1 = pc3)) (k : ic_W l κ M X Z pc3 L (.int (ic_nz x) :: S) n ρ μ c0 s0) : ic_W l κ M X Z pc L (.int x :: S) n ρ μ c0 s0 := by
  obtain ⟨h1, h2, h3, h4⟩ := hd
  by_cases hx : x = 0
  · refine iw_if_eq (T := some ()) (F := none) (R := ()) (by rw [if_pos hx]) h1 (fun _ => ?_) (fun h => by cases h)
    refine iw_iconst (v := 0) ⟨h4.1, h4.2, by decide⟩ ?_
    rw [ic_nz, if_pos hx] at k
    exact k
  · refine iw_if_eq (T := none) (F := some ()) (R := ()) (by rw [if_neg hx]) h1 (fun h => by cases h) (fun _ => ?_)
    refine iw_iconst (v := 1) ⟨h2.1, h2.2, by decide⟩ ?_
    rw [ic_nz, if_neg hx] at k
    exact iw_goto h3 k
theorem iw_eqT {x : Int32} {off : Int} {tg : Nat} (hd : decode M.2.1 pc = .ok (.if_icmp .eq off, 3) ∧ (pc : Int) + off = (tg : Int) ∧ pc + 3 = pc') (k : ic_W l κ M X Z tg L S n ρ μ c0 s0) : ic_W l κ M X Z pc L (.int x :: .int x :: S) n ρ μ c0 s0 :=
  iw_icmp_eq (T := some ()) (F := none) (R := ()) (by rw [if_pos rfl]) hd (fun _ => k) (fun h => by cases h)
theorem iw_lret (hd : decode code pc = .ok (.ireturn, 1)) (hc : c0 ≤ 600000 ∧ s0 ≤ 7302250) : ic_W l κ ic_law (ic_XL κ b Ls xs) ic_ZL pc L [.int 1] n ρ μ c0 s0 := by
  intro p e s m args below meth c C hX hK hB ls H locs hl hP hS
  obtain ⟨rfl, hx, hb, hk⟩ := id hX
  refine va_forget (fun q hq => by have h : κ.1 ≤ q.base := hS.2.2 q hq; omega) ?_
  refine W.widen (k := 600000) (n := 7302250) hc.1 hc.2 ?_
  exact lw_ret C.1 C.2.1 C.2.2.1 C.2.2.2.1 hd
end ICL

set_option maxRecDepth 100000 in
set_option maxHeartbeats 4000000 in
theorem lc_feed {l : Launch} {κ : ic_K} {b Ls : Nat} {xs : Nat → Int32} {i : Int32} {sw : Nat} {μ : ic_M} (hI : ic_I sw μ) (hin1 : vp_in (i + (1 : Int32)) Ls) (hin2 : vp_in (i + (2 : Int32)) Ls) (hin3 : vp_in (i + (3 : Int32)) Ls) (hin4 : vp_in (i + (4 : Int32)) Ls) (hin5 : vp_in (i + (5 : Int32)) Ls) (next : ∀ (sw : Nat) (μ : ic_M), ic_I sw μ → ic_W l κ ic_law (ic_XL κ b Ls xs) ic_ZL 1118 [(0, .ref b), (1, ic_rv κ.1 1), (2, ic_rv κ.1 90), (3, .int i)] [] 106 (ic_rs sw) μ 106 2181) : ic_W l κ ic_law (ic_XL κ b Ls xs) ic_ZL 184 [(0, .ref b), (1, ic_rv κ.1 1), (2, ic_rv κ.1 90), (3, .int i)] [] 106 (ic_rs sw) μ 106 2181 := by
  obtain ⟨v, μ1, μ2, hx, hm, hI2⟩ := pu_feed hI (xs (Int32.toNatClampNeg (i + (1 : Int32))))
  refine iw_aload_n (i := 1) (pc' := 185) 1 rfl (by decide +kernel) ?_
  refine iw_aloadb (i := 0) (pc' := 186) 0 rfl (by decide +kernel) ?_
  refine iw_iload_n (i := 3) (pc' := 187) 3 rfl (by decide +kernel) ?_
  refine iw_iconst (i := 1) (v := (1 : Int32)) (pc' := 188) (by decide +kernel) ?_
  refine iw_iadd (pc' := 189) (by decide +kernel) ?_
  refine iw_sld (pc' := 190) hin1 (by decide +kernel) ?_
  refine iw_callV (pc' := 193) (S0 := []) (S1 := [.int v]) (c1 := 106) (s1 := 2181) (k := 1) (ct_X8_feed l κ sw μ (xs (Int32.toNatClampNeg (i + (1 : Int32)))) hx) cO_1 ⟨rfl, rfl⟩ mv_X8_feed llm_13 ⟨rfl, rfl⟩ (ic_sum8 trivial (Nat.le_of_ble_eq_true rfl)) (by unfold ic_rm; decide +kernel) ⟨rfl, rfl, rfl⟩ (by decide) ?_
  refine iw_aload_n (i := 2) (pc' := 194) 2 rfl (by decide +kernel) ?_
  refine iw_aloadb (i := 0) (pc' := 195) 0 rfl (by decide +kernel) ?_
  refine iw_iload_n (i := 3) (pc' := 196) 3 rfl (by decide +kernel) ?_
  refine iw_iconst (i := 1) (v := (1 : Int32)) (pc' := 197) (by decide +kernel) ?_
  refine iw_iadd (pc' := 198) (by decide +kernel) ?_
  refine iw_sld (pc' := 199) hin1 (by decide +kernel) ?_
  refine iw_callV (pc' := 202) (S0 := [.int v]) (S1 := [.int v, .int v]) (c1 := 106) (s1 := 2181) (k := 1) (ct_X9_feed l κ sw μ1 (xs (Int32.toNatClampNeg (i + (1 : Int32)))) hm) cO_90 ⟨rfl, rfl⟩ mv_X9_feed llm_17 ⟨rfl, rfl⟩ (ic_sum8 ⟨rfl, trivial⟩ (Nat.le_of_ble_eq_true rfl)) (by unfold ic_rm; decide +kernel) ⟨rfl, rfl, rfl⟩ (by decide) ?_
  refine iw_eqT (off := 916) (tg := 1118) (pc' := 205) (by decide +kernel) ?_
  exact next sw μ2 hI2
set_option maxRecDepth 100000 in
set_option maxHeartbeats 4000000 in
theorem lc_river {l : Launch} {κ : ic_K} {b Ls : Nat} {xs : Nat → Int32} {i : Int32} {sw : Nat} {μ : ic_M} (hI : ic_I sw μ) (hin1 : vp_in (i + (1 : Int32)) Ls) (hin2 : vp_in (i + (2 : Int32)) Ls) (hin3 : vp_in (i + (3 : Int32)) Ls) (hin4 : vp_in (i + (4 : Int32)) Ls) (hin5 : vp_in (i + (5 : Int32)) Ls) (next : ∀ (sw : Nat) (μ : ic_M), ic_I sw μ → ic_W l κ ic_law (ic_XL κ b Ls xs) ic_ZL 1118 [(0, .ref b), (1, ic_rv κ.1 1), (2, ic_rv κ.1 90), (3, .int i)] [] 106 (ic_rs sw) μ 106 2181) : ic_W l κ ic_law (ic_XL κ b Ls xs) ic_ZL 207 [(0, .ref b), (1, ic_rv κ.1 1), (2, ic_rv κ.1 90), (3, .int i)] [] 106 (ic_rs sw) μ 106 2181 := by
  obtain ⟨v, sw1, μ1, μ2, hx, hm, hI2⟩ := pu_river hI
  refine iw_aload_n (i := 1) (pc' := 208) 1 rfl (by decide +kernel) ?_
  refine iw_callV (pc' := 211) (S0 := []) (S1 := [.int v]) (c1 := 106) (s1 := 2181) (k := 0) (ct_X8_river l κ sw μ hx) cO_1 ⟨rfl, rfl⟩ mv_X8_river llm_18 ⟨rfl, rfl⟩ (ic_sum8 trivial (Nat.le_of_ble_eq_true rfl)) (by unfold ic_rm; decide +kernel) ⟨rfl, rfl, rfl⟩ (by decide) ?_
  refine iw_aload_n (i := 2) (pc' := 212) 2 rfl (by decide +kernel) ?_
  refine iw_callV (pc' := 215) (S0 := [.int v]) (S1 := [.int v, .int v]) (c1 := 106) (s1 := 2181) (k := 0) (ct_X9_river l κ sw1 μ1 hm) cO_90 ⟨rfl, rfl⟩ mv_X9_river llm_22 ⟨rfl, rfl⟩ (ic_sum8 ⟨rfl, trivial⟩ (Nat.le_of_ble_eq_true rfl)) (by unfold ic_rm; decide +kernel) ⟨rfl, rfl, rfl⟩ (by decide) ?_
  refine iw_eqT (off := 903) (tg := 1118) (pc' := 218) (by decide +kernel) ?_
  exact next sw1 μ2 hI2
set_option maxRecDepth 100000 in
set_option maxHeartbeats 4000000 in
theorem lc_fault {l : Launch} {κ : ic_K} {b Ls : Nat} {xs : Nat → Int32} {i : Int32} {sw : Nat} {μ : ic_M} (hI : ic_I sw μ) (hin1 : vp_in (i + (1 : Int32)) Ls) (hin2 : vp_in (i + (2 : Int32)) Ls) (hin3 : vp_in (i + (3 : Int32)) Ls) (hin4 : vp_in (i + (4 : Int32)) Ls) (hin5 : vp_in (i + (5 : Int32)) Ls) (next : ∀ (sw : Nat) (μ : ic_M), ic_I sw μ → ic_W l κ ic_law (ic_XL κ b Ls xs) ic_ZL 1118 [(0, .ref b), (1, ic_rv κ.1 1), (2, ic_rv κ.1 90), (3, .int i)] [] 106 (ic_rs sw) μ 106 2181) : ic_W l κ ic_law (ic_XL κ b Ls xs) ic_ZL 220 [(0, .ref b), (1, ic_rv κ.1 1), (2, ic_rv κ.1 90), (3, .int i)] [] 106 (ic_rs sw) μ 106 2181 := by
  obtain ⟨v, hx, hm, hI2⟩ := pu_fault hI
  refine iw_aload_n (i := 1) (pc' := 221) 1 rfl (by decide +kernel) ?_
  refine iw_callV (pc' := 224) (S0 := []) (S1 := [.int v]) (c1 := 106) (s1 := 2181) (k := 0) (ct_X8_fault l κ sw μ hx) cO_1 ⟨rfl, rfl⟩ mv_X8_fault llm_23 ⟨rfl, rfl⟩ (ic_sum8 trivial (Nat.le_of_ble_eq_true rfl)) (by unfold ic_rm; decide +kernel) ⟨rfl, rfl, rfl⟩ (by decide) ?_
  refine iw_aload_n (i := 2) (pc' := 225) 2 rfl (by decide +kernel) ?_
  refine iw_callV (pc' := 228) (S0 := [.int v]) (S1 := [.int v, .int v]) (c1 := 106) (s1 := 2181) (k := 0) (ct_X9_fault l κ sw μ hm) cO_90 ⟨rfl, rfl⟩ mv_X9_fault llm_26 ⟨rfl, rfl⟩ (ic_sum8 ⟨rfl, trivial⟩ (Nat.le_of_ble_eq_true rfl)) (by unfold ic_rm; decide +kernel) ⟨rfl, rfl, rfl⟩ (by decide) ?_
  refine iw_eqT (off := 890) (tg := 1118) (pc' := 231) (by decide +kernel) ?_
  exact next sw μ hI2
set_option maxRecDepth 100000 in
set_option maxHeartbeats 4000000 in
theorem lc_told {l : Launch} {κ : ic_K} {b Ls : Nat} {xs : Nat → Int32} {i : Int32} {sw : Nat} {μ : ic_M} (hI : ic_I sw μ) (hin1 : vp_in (i + (1 : Int32)) Ls) (hin2 : vp_in (i + (2 : Int32)) Ls) (hin3 : vp_in (i + (3 : Int32)) Ls) (hin4 : vp_in (i + (4 : Int32)) Ls) (hin5 : vp_in (i + (5 : Int32)) Ls) (next : ∀ (sw : Nat) (μ : ic_M), ic_I sw μ → ic_W l κ ic_law (ic_XL κ b Ls xs) ic_ZL 1118 [(0, .ref b), (1, ic_rv κ.1 1), (2, ic_rv κ.1 90), (3, .int i)] [] 106 (ic_rs sw) μ 106 2181) : ic_W l κ ic_law (ic_XL κ b Ls xs) ic_ZL 233 [(0, .ref b), (1, ic_rv κ.1 1), (2, ic_rv κ.1 90), (3, .int i)] [] 106 (ic_rs sw) μ 106 2181 := by
  obtain ⟨v, hx, hm, hI2⟩ := pu_told hI (xs (Int32.toNatClampNeg (i + (1 : Int32))))
  refine iw_aload_n (i := 1) (pc' := 234) 1 rfl (by decide +kernel) ?_
  refine iw_aloadb (i := 0) (pc' := 235) 0 rfl (by decide +kernel) ?_
  refine iw_iload_n (i := 3) (pc' := 236) 3 rfl (by decide +kernel) ?_
  refine iw_iconst (i := 1) (v := (1 : Int32)) (pc' := 237) (by decide +kernel) ?_
  refine iw_iadd (pc' := 238) (by decide +kernel) ?_
  refine iw_sld (pc' := 239) hin1 (by decide +kernel) ?_
  refine iw_callV (pc' := 242) (S0 := []) (S1 := [.int v]) (c1 := 106) (s1 := 2181) (k := 1) (ct_X8_told l κ sw μ (xs (Int32.toNatClampNeg (i + (1 : Int32)))) hx) cO_1 ⟨rfl, rfl⟩ mv_X8_told llm_27 ⟨rfl, rfl⟩ (ic_sum8 trivial (Nat.le_of_ble_eq_true rfl)) (by unfold ic_rm; decide +kernel) ⟨rfl, rfl, rfl⟩ (by decide) ?_
  refine iw_aload_n (i := 2) (pc' := 243) 2 rfl (by decide +kernel) ?_
  refine iw_aloadb (i := 0) (pc' := 244) 0 rfl (by decide +kernel) ?_
  refine iw_iload_n (i := 3) (pc' := 245) 3 rfl (by decide +kernel) ?_
  refine iw_iconst (i := 1) (v := (1 : Int32)) (pc' := 246) (by decide +kernel) ?_
  refine iw_iadd (pc' := 247) (by decide +kernel) ?_
  refine iw_sld (pc' := 248) hin1 (by decide +kernel) ?_
  refine iw_callV (pc' := 251) (S0 := [.int v]) (S1 := [.int v, .int v]) (c1 := 106) (s1 := 2181) (k := 1) (ct_X9_told l κ sw μ (xs (Int32.toNatClampNeg (i + (1 : Int32)))) hm) cO_90 ⟨rfl, rfl⟩ mv_X9_told llm_30 ⟨rfl, rfl⟩ (ic_sum8 ⟨rfl, trivial⟩ (Nat.le_of_ble_eq_true rfl)) (by unfold ic_rm; decide +kernel) ⟨rfl, rfl, rfl⟩ (by decide) ?_
  refine iw_eqT (off := 867) (tg := 1118) (pc' := 254) (by decide +kernel) ?_
  exact next sw μ hI2
set_option maxRecDepth 100000 in
set_option maxHeartbeats 4000000 in
theorem lc_cell {l : Launch} {κ : ic_K} {b Ls : Nat} {xs : Nat → Int32} {i : Int32} {sw : Nat} {μ : ic_M} (hI : ic_I sw μ) (hin1 : vp_in (i + (1 : Int32)) Ls) (hin2 : vp_in (i + (2 : Int32)) Ls) (hin3 : vp_in (i + (3 : Int32)) Ls) (hin4 : vp_in (i + (4 : Int32)) Ls) (hin5 : vp_in (i + (5 : Int32)) Ls) (next : ∀ (sw : Nat) (μ : ic_M), ic_I sw μ → ic_W l κ ic_law (ic_XL κ b Ls xs) ic_ZL 1118 [(0, .ref b), (1, ic_rv κ.1 1), (2, ic_rv κ.1 90), (3, .int i)] [] 106 (ic_rs sw) μ 106 2181) : ic_W l κ ic_law (ic_XL κ b Ls xs) ic_ZL 256 [(0, .ref b), (1, ic_rv κ.1 1), (2, ic_rv κ.1 90), (3, .int i)] [] 106 (ic_rs sw) μ 106 2181 := by
  obtain ⟨v, hx, hm, hI2⟩ := pu_cell hI (xs (Int32.toNatClampNeg (i + (1 : Int32)))) (xs (Int32.toNatClampNeg (i + (2 : Int32))))
  refine iw_aload_n (i := 1) (pc' := 257) 1 rfl (by decide +kernel) ?_
  refine iw_aloadb (i := 0) (pc' := 258) 0 rfl (by decide +kernel) ?_
  refine iw_iload_n (i := 3) (pc' := 259) 3 rfl (by decide +kernel) ?_
  refine iw_iconst (i := 1) (v := (1 : Int32)) (pc' := 260) (by decide +kernel) ?_
  refine iw_iadd (pc' := 261) (by decide +kernel) ?_
  refine iw_sld (pc' := 262) hin1 (by decide +kernel) ?_
  refine iw_aloadb (i := 0) (pc' := 263) 0 rfl (by decide +kernel) ?_
  refine iw_iload_n (i := 3) (pc' := 264) 3 rfl (by decide +kernel) ?_
  refine iw_iconst (i := 2) (v := (2 : Int32)) (pc' := 265) (by decide +kernel) ?_
  refine iw_iadd (pc' := 266) (by decide +kernel) ?_
  refine iw_sld (pc' := 267) hin2 (by decide +kernel) ?_
  refine iw_callV (pc' := 270) (S0 := []) (S1 := [.int v]) (c1 := 106) (s1 := 2181) (k := 2) (ct_X8_cell l κ sw μ (xs (Int32.toNatClampNeg (i + (1 : Int32)))) (xs (Int32.toNatClampNeg (i + (2 : Int32)))) hx) cO_1 ⟨rfl, rfl⟩ mv_X8_cell llm_31 ⟨rfl, rfl⟩ (ic_sum8 trivial (Nat.le_of_ble_eq_true rfl)) (by unfold ic_rm; decide +kernel) ⟨rfl, rfl, rfl⟩ (by decide) ?_
  refine iw_aload_n (i := 2) (pc' := 271) 2 rfl (by decide +kernel) ?_
  refine iw_aloadb (i := 0) (pc' := 272) 0 rfl (by decide +kernel) ?_
  refine iw_iload_n (i := 3) (pc' := 273) 3 rfl (by decide +kernel) ?_
  refine iw_iconst (i := 1) (v := (1 : Int32)) (pc' := 274) (by decide +kernel) ?_
  refine iw_iadd (pc' := 275) (by decide +kernel) ?_
  refine iw_sld (pc' := 276) hin1 (by decide +kernel) ?_
  refine iw_aloadb (i := 0) (pc' := 277) 0 rfl (by decide +kernel) ?_
  refine iw_iload_n (i := 3) (pc' := 278) 3 rfl (by decide +kernel) ?_
  refine iw_iconst (i := 2) (v := (2 : Int32)) (pc' := 279) (by decide +kernel) ?_
  refine iw_iadd (pc' := 280) (by decide +kernel) ?_
  refine iw_sld (pc' := 281) hin2 (by decide +kernel) ?_
  refine iw_callV (pc' := 284) (S0 := [.int v]) (S1 := [.int v, .int v]) (c1 := 106) (s1 := 2181) (k := 2) (ct_X9_cell l κ sw μ (xs (Int32.toNatClampNeg (i + (1 : Int32)))) (xs (Int32.toNatClampNeg (i + (2 : Int32)))) hm) cO_90 ⟨rfl, rfl⟩ mv_X9_cell llm_35 ⟨rfl, rfl⟩ (ic_sum8 ⟨rfl, trivial⟩ (Nat.le_of_ble_eq_true rfl)) (by unfold ic_rm; decide +kernel) ⟨rfl, rfl, rfl⟩ (by decide) ?_
  refine iw_eqT (off := 834) (tg := 1118) (pc' := 287) (by decide +kernel) ?_
  exact next sw μ hI2
set_option maxRecDepth 100000 in
set_option maxHeartbeats 4000000 in
theorem lc_person {l : Launch} {κ : ic_K} {b Ls : Nat} {xs : Nat → Int32} {i : Int32} {sw : Nat} {μ : ic_M} (hI : ic_I sw μ) (hin1 : vp_in (i + (1 : Int32)) Ls) (hin2 : vp_in (i + (2 : Int32)) Ls) (hin3 : vp_in (i + (3 : Int32)) Ls) (hin4 : vp_in (i + (4 : Int32)) Ls) (hin5 : vp_in (i + (5 : Int32)) Ls) (next : ∀ (sw : Nat) (μ : ic_M), ic_I sw μ → ic_W l κ ic_law (ic_XL κ b Ls xs) ic_ZL 1118 [(0, .ref b), (1, ic_rv κ.1 1), (2, ic_rv κ.1 90), (3, .int i)] [] 106 (ic_rs sw) μ 106 2181) : ic_W l κ ic_law (ic_XL κ b Ls xs) ic_ZL 289 [(0, .ref b), (1, ic_rv κ.1 1), (2, ic_rv κ.1 90), (3, .int i)] [] 106 (ic_rs sw) μ 106 2181 := by
  obtain ⟨v, hx, hm, hI2⟩ := pu_person hI (xs (Int32.toNatClampNeg (i + (1 : Int32)))) (xs (Int32.toNatClampNeg (i + (2 : Int32))))
  refine iw_aload_n (i := 1) (pc' := 290) 1 rfl (by decide +kernel) ?_
  refine iw_aloadb (i := 0) (pc' := 291) 0 rfl (by decide +kernel) ?_
  refine iw_iload_n (i := 3) (pc' := 292) 3 rfl (by decide +kernel) ?_
  refine iw_iconst (i := 1) (v := (1 : Int32)) (pc' := 293) (by decide +kernel) ?_
  refine iw_iadd (pc' := 294) (by decide +kernel) ?_
  refine iw_sld (pc' := 295) hin1 (by decide +kernel) ?_
  refine iw_aloadb (i := 0) (pc' := 296) 0 rfl (by decide +kernel) ?_
  refine iw_iload_n (i := 3) (pc' := 297) 3 rfl (by decide +kernel) ?_
  refine iw_iconst (i := 2) (v := (2 : Int32)) (pc' := 298) (by decide +kernel) ?_
  refine iw_iadd (pc' := 299) (by decide +kernel) ?_
  refine iw_sld (pc' := 300) hin2 (by decide +kernel) ?_
  refine iw_callV (pc' := 303) (S0 := []) (S1 := [.int v]) (c1 := 106) (s1 := 2181) (k := 2) (ct_X8_person l κ sw μ (xs (Int32.toNatClampNeg (i + (1 : Int32)))) (xs (Int32.toNatClampNeg (i + (2 : Int32)))) hx) cO_1 ⟨rfl, rfl⟩ mv_X8_person llm_36 ⟨rfl, rfl⟩ (ic_sum8 trivial (Nat.le_of_ble_eq_true rfl)) (by unfold ic_rm; decide +kernel) ⟨rfl, rfl, rfl⟩ (by decide) ?_
  refine iw_aload_n (i := 2) (pc' := 304) 2 rfl (by decide +kernel) ?_
  refine iw_aloadb (i := 0) (pc' := 305) 0 rfl (by decide +kernel) ?_
  refine iw_iload_n (i := 3) (pc' := 306) 3 rfl (by decide +kernel) ?_
  refine iw_iconst (i := 1) (v := (1 : Int32)) (pc' := 307) (by decide +kernel) ?_
  refine iw_iadd (pc' := 308) (by decide +kernel) ?_
  refine iw_sld (pc' := 309) hin1 (by decide +kernel) ?_
  refine iw_aloadb (i := 0) (pc' := 310) 0 rfl (by decide +kernel) ?_
  refine iw_iload_n (i := 3) (pc' := 311) 3 rfl (by decide +kernel) ?_
  refine iw_iconst (i := 2) (v := (2 : Int32)) (pc' := 312) (by decide +kernel) ?_
  refine iw_iadd (pc' := 313) (by decide +kernel) ?_
  refine iw_sld (pc' := 314) hin2 (by decide +kernel) ?_
  refine iw_callV (pc' := 317) (S0 := [.int v]) (S1 := [.int v, .int v]) (c1 := 106) (s1 := 2181) (k := 2) (ct_X9_person l κ sw μ (xs (Int32.toNatClampNeg (i + (1 : Int32)))) (xs (Int32.toNatClampNeg (i + (2 : Int32)))) hm) cO_90 ⟨rfl, rfl⟩ mv_X9_person llm_39 ⟨rfl, rfl⟩ (ic_sum8 ⟨rfl, trivial⟩ (Nat.le_of_ble_eq_true rfl)) (by unfold ic_rm; decide +kernel) ⟨rfl, rfl, rfl⟩ (by decide) ?_
  refine iw_eqT (off := 801) (tg := 1118) (pc' := 320) (by decide +kernel) ?_
  exact next sw μ hI2
set_option maxRecDepth 100000 in
set_option maxHeartbeats 4000000 in
theorem lc_cold {l : Launch} {κ : ic_K} {b Ls : Nat} {xs : Nat → Int32} {i : Int32} {sw : Nat} {μ : ic_M} (hI : ic_I sw μ) (hin1 : vp_in (i + (1 : Int32)) Ls) (hin2 : vp_in (i + (2 : Int32)) Ls) (hin3 : vp_in (i + (3 : Int32)) Ls) (hin4 : vp_in (i + (4 : Int32)) Ls) (hin5 : vp_in (i + (5 : Int32)) Ls) (next : ∀ (sw : Nat) (μ : ic_M), ic_I sw μ → ic_W l κ ic_law (ic_XL κ b Ls xs) ic_ZL 1118 [(0, .ref b), (1, ic_rv κ.1 1), (2, ic_rv κ.1 90), (3, .int i)] [] 106 (ic_rs sw) μ 106 2181) : ic_W l κ ic_law (ic_XL κ b Ls xs) ic_ZL 322 [(0, .ref b), (1, ic_rv κ.1 1), (2, ic_rv κ.1 90), (3, .int i)] [] 106 (ic_rs sw) μ 106 2181 := by
  obtain ⟨v, hx, hm, hI2⟩ := pu_cold hI (xs (Int32.toNatClampNeg (i + (1 : Int32))))
  refine iw_aload_n (i := 1) (pc' := 323) 1 rfl (by decide +kernel) ?_
  refine iw_aloadb (i := 0) (pc' := 324) 0 rfl (by decide +kernel) ?_
  refine iw_iload_n (i := 3) (pc' := 325) 3 rfl (by decide +kernel) ?_
  refine iw_iconst (i := 1) (v := (1 : Int32)) (pc' := 326) (by decide +kernel) ?_
  refine iw_iadd (pc' := 327) (by decide +kernel) ?_
  refine iw_sld (pc' := 328) hin1 (by decide +kernel) ?_
  refine iw_callV (pc' := 331) (S0 := []) (S1 := [.int v]) (c1 := 106) (s1 := 2181) (k := 1) (ct_X8_cold l κ sw μ (xs (Int32.toNatClampNeg (i + (1 : Int32)))) hx) cO_1 ⟨rfl, rfl⟩ mv_X8_cold llm_40 ⟨rfl, rfl⟩ (ic_sum8 trivial (Nat.le_of_ble_eq_true rfl)) (by unfold ic_rm; decide +kernel) ⟨rfl, rfl, rfl⟩ (by decide) ?_
  refine iw_aload_n (i := 2) (pc' := 332) 2 rfl (by decide +kernel) ?_
  refine iw_aloadb (i := 0) (pc' := 333) 0 rfl (by decide +kernel) ?_
  refine iw_iload_n (i := 3) (pc' := 334) 3 rfl (by decide +kernel) ?_
  refine iw_iconst (i := 1) (v := (1 : Int32)) (pc' := 335) (by decide +kernel) ?_
  refine iw_iadd (pc' := 336) (by decide +kernel) ?_
  refine iw_sld (pc' := 337) hin1 (by decide +kernel) ?_
  refine iw_callV (pc' := 340) (S0 := [.int v]) (S1 := [.int v, .int v]) (c1 := 106) (s1 := 2181) (k := 1) (ct_X9_cold l κ sw μ (xs (Int32.toNatClampNeg (i + (1 : Int32)))) hm) cO_90 ⟨rfl, rfl⟩ mv_X9_cold llm_43 ⟨rfl, rfl⟩ (ic_sum8 ⟨rfl, trivial⟩ (Nat.le_of_ble_eq_true rfl)) (by unfold ic_rm; decide +kernel) ⟨rfl, rfl, rfl⟩ (by decide) ?_
  refine iw_eqT (off := 778) (tg := 1118) (pc' := 343) (by decide +kernel) ?_
  exact next sw μ hI2
set_option maxRecDepth 100000 in
set_option maxHeartbeats 4000000 in
theorem lc_night {l : Launch} {κ : ic_K} {b Ls : Nat} {xs : Nat → Int32} {i : Int32} {sw : Nat} {μ : ic_M} (hI : ic_I sw μ) (hin1 : vp_in (i + (1 : Int32)) Ls) (hin2 : vp_in (i + (2 : Int32)) Ls) (hin3 : vp_in (i + (3 : Int32)) Ls) (hin4 : vp_in (i + (4 : Int32)) Ls) (hin5 : vp_in (i + (5 : Int32)) Ls) (next : ∀ (sw : Nat) (μ : ic_M), ic_I sw μ → ic_W l κ ic_law (ic_XL κ b Ls xs) ic_ZL 1118 [(0, .ref b), (1, ic_rv κ.1 1), (2, ic_rv κ.1 90), (3, .int i)] [] 106 (ic_rs sw) μ 106 2181) : ic_W l κ ic_law (ic_XL κ b Ls xs) ic_ZL 345 [(0, .ref b), (1, ic_rv κ.1 1), (2, ic_rv κ.1 90), (3, .int i)] [] 106 (ic_rs sw) μ 106 2181 := by
  obtain ⟨v, μ1, μ2, hx, hm, hI2⟩ := pu_night hI (xs (Int32.toNatClampNeg (i + (1 : Int32))))
  refine iw_aload_n (i := 1) (pc' := 346) 1 rfl (by decide +kernel) ?_
  refine iw_aloadb (i := 0) (pc' := 347) 0 rfl (by decide +kernel) ?_
  refine iw_iload_n (i := 3) (pc' := 348) 3 rfl (by decide +kernel) ?_
  refine iw_iconst (i := 1) (v := (1 : Int32)) (pc' := 349) (by decide +kernel) ?_
  refine iw_iadd (pc' := 350) (by decide +kernel) ?_
  refine iw_sld (pc' := 351) hin1 (by decide +kernel) ?_
  refine iw_callV (pc' := 354) (S0 := []) (S1 := [.int v]) (c1 := 106) (s1 := 2181) (k := 1) (ct_X8_night l κ sw μ (xs (Int32.toNatClampNeg (i + (1 : Int32)))) hx) cO_1 ⟨rfl, rfl⟩ mv_X8_night llm_44 ⟨rfl, rfl⟩ (ic_sum8 trivial (Nat.le_of_ble_eq_true rfl)) (by unfold ic_rm; decide +kernel) ⟨rfl, rfl, rfl⟩ (by decide) ?_
  refine iw_aload_n (i := 2) (pc' := 355) 2 rfl (by decide +kernel) ?_
  refine iw_aloadb (i := 0) (pc' := 356) 0 rfl (by decide +kernel) ?_
  refine iw_iload_n (i := 3) (pc' := 357) 3 rfl (by decide +kernel) ?_
  refine iw_iconst (i := 1) (v := (1 : Int32)) (pc' := 358) (by decide +kernel) ?_
  refine iw_iadd (pc' := 359) (by decide +kernel) ?_
  refine iw_sld (pc' := 360) hin1 (by decide +kernel) ?_
  refine iw_callV (pc' := 363) (S0 := [.int v]) (S1 := [.int v, .int v]) (c1 := 106) (s1 := 2181) (k := 1) (ct_X9_night l κ sw μ1 (xs (Int32.toNatClampNeg (i + (1 : Int32)))) hm) cO_90 ⟨rfl, rfl⟩ mv_X9_night llm_47 ⟨rfl, rfl⟩ (ic_sum8 ⟨rfl, trivial⟩ (Nat.le_of_ble_eq_true rfl)) (by unfold ic_rm; decide +kernel) ⟨rfl, rfl, rfl⟩ (by decide) ?_
  refine iw_eqT (off := 755) (tg := 1118) (pc' := 366) (by decide +kernel) ?_
  exact next sw μ2 hI2
set_option maxRecDepth 100000 in
set_option maxHeartbeats 4000000 in
theorem lc_step {l : Launch} {κ : ic_K} {b Ls : Nat} {xs : Nat → Int32} {i : Int32} {sw : Nat} {μ : ic_M} (hI : ic_I sw μ) (hin1 : vp_in (i + (1 : Int32)) Ls) (hin2 : vp_in (i + (2 : Int32)) Ls) (hin3 : vp_in (i + (3 : Int32)) Ls) (hin4 : vp_in (i + (4 : Int32)) Ls) (hin5 : vp_in (i + (5 : Int32)) Ls) (next : ∀ (sw : Nat) (μ : ic_M), ic_I sw μ → ic_W l κ ic_law (ic_XL κ b Ls xs) ic_ZL 1118 [(0, .ref b), (1, ic_rv κ.1 1), (2, ic_rv κ.1 90), (3, .int i)] [] 106 (ic_rs sw) μ 106 2181) : ic_W l κ ic_law (ic_XL κ b Ls xs) ic_ZL 368 [(0, .ref b), (1, ic_rv κ.1 1), (2, ic_rv κ.1 90), (3, .int i)] [] 106 (ic_rs sw) μ 106 2181 := by
  obtain ⟨v, μ1, μ2, hx, hm, hI2⟩ := pu_step hI (xs (Int32.toNatClampNeg (i + (1 : Int32)))) (xs (Int32.toNatClampNeg (i + (2 : Int32))))
  refine iw_aload_n (i := 1) (pc' := 369) 1 rfl (by decide +kernel) ?_
  refine iw_aloadb (i := 0) (pc' := 370) 0 rfl (by decide +kernel) ?_
  refine iw_iload_n (i := 3) (pc' := 371) 3 rfl (by decide +kernel) ?_
  refine iw_iconst (i := 1) (v := (1 : Int32)) (pc' := 372) (by decide +kernel) ?_
  refine iw_iadd (pc' := 373) (by decide +kernel) ?_
  refine iw_sld (pc' := 374) hin1 (by decide +kernel) ?_
  refine iw_aloadb (i := 0) (pc' := 375) 0 rfl (by decide +kernel) ?_
  refine iw_iload_n (i := 3) (pc' := 376) 3 rfl (by decide +kernel) ?_
  refine iw_iconst (i := 2) (v := (2 : Int32)) (pc' := 377) (by decide +kernel) ?_
  refine iw_iadd (pc' := 378) (by decide +kernel) ?_
  refine iw_sld (pc' := 379) hin2 (by decide +kernel) ?_
  refine iw_callV (pc' := 382) (S0 := []) (S1 := [.int v]) (c1 := 106) (s1 := 2181) (k := 2) (ct_X8_step l κ sw μ (xs (Int32.toNatClampNeg (i + (1 : Int32)))) (xs (Int32.toNatClampNeg (i + (2 : Int32)))) hx) cO_1 ⟨rfl, rfl⟩ mv_X8_step llm_48 ⟨rfl, rfl⟩ (ic_sum8 trivial (Nat.le_of_ble_eq_true rfl)) (by unfold ic_rm; decide +kernel) ⟨rfl, rfl, rfl⟩ (by decide) ?_
  refine iw_aload_n (i := 2) (pc' := 383) 2 rfl (by decide +kernel) ?_
  refine iw_aloadb (i := 0) (pc' := 384) 0 rfl (by decide +kernel) ?_
  refine iw_iload_n (i := 3) (pc' := 385) 3 rfl (by decide +kernel) ?_
  refine iw_iconst (i := 1) (v := (1 : Int32)) (pc' := 386) (by decide +kernel) ?_
  refine iw_iadd (pc' := 387) (by decide +kernel) ?_
  refine iw_sld (pc' := 388) hin1 (by decide +kernel) ?_
  refine iw_aloadb (i := 0) (pc' := 389) 0 rfl (by decide +kernel) ?_
  refine iw_iload_n (i := 3) (pc' := 390) 3 rfl (by decide +kernel) ?_
  refine iw_iconst (i := 2) (v := (2 : Int32)) (pc' := 391) (by decide +kernel) ?_
  refine iw_iadd (pc' := 392) (by decide +kernel) ?_
  refine iw_sld (pc' := 393) hin2 (by decide +kernel) ?_
  refine iw_callV (pc' := 396) (S0 := [.int v]) (S1 := [.int v, .int v]) (c1 := 106) (s1 := 2181) (k := 2) (ct_X9_step l κ sw μ1 (xs (Int32.toNatClampNeg (i + (1 : Int32)))) (xs (Int32.toNatClampNeg (i + (2 : Int32)))) hm) cO_90 ⟨rfl, rfl⟩ mv_X9_step llm_51 ⟨rfl, rfl⟩ (ic_sum8 ⟨rfl, trivial⟩ (Nat.le_of_ble_eq_true rfl)) (by unfold ic_rm; decide +kernel) ⟨rfl, rfl, rfl⟩ (by decide) ?_
  refine iw_eqT (off := 722) (tg := 1118) (pc' := 399) (by decide +kernel) ?_
  exact next sw μ2 hI2
set_option maxRecDepth 100000 in
set_option maxHeartbeats 4000000 in
theorem lc_salt {l : Launch} {κ : ic_K} {b Ls : Nat} {xs : Nat → Int32} {i : Int32} {sw : Nat} {μ : ic_M} (hI : ic_I sw μ) (hin1 : vp_in (i + (1 : Int32)) Ls) (hin2 : vp_in (i + (2 : Int32)) Ls) (hin3 : vp_in (i + (3 : Int32)) Ls) (hin4 : vp_in (i + (4 : Int32)) Ls) (hin5 : vp_in (i + (5 : Int32)) Ls) (next : ∀ (sw : Nat) (μ : ic_M), ic_I sw μ → ic_W l κ ic_law (ic_XL κ b Ls xs) ic_ZL 1118 [(0, .ref b), (1, ic_rv κ.1 1), (2, ic_rv κ.1 90), (3, .int i)] [] 106 (ic_rs sw) μ 106 2181) : ic_W l κ ic_law (ic_XL κ b Ls xs) ic_ZL 401 [(0, .ref b), (1, ic_rv κ.1 1), (2, ic_rv κ.1 90), (3, .int i)] [] 106 (ic_rs sw) μ 106 2181 := by
  obtain ⟨v, μ1, μ2, hx, hm, hI2⟩ := pu_salt hI (xs (Int32.toNatClampNeg (i + (1 : Int32)))) (xs (Int32.toNatClampNeg (i + (2 : Int32)))) (xs (Int32.toNatClampNeg (i + (3 : Int32))))
  refine iw_aload_n (i := 1) (pc' := 402) 1 rfl (by decide +kernel) ?_
  refine iw_aloadb (i := 0) (pc' := 403) 0 rfl (by decide +kernel) ?_
  refine iw_iload_n (i := 3) (pc' := 404) 3 rfl (by decide +kernel) ?_
  refine iw_iconst (i := 1) (v := (1 : Int32)) (pc' := 405) (by decide +kernel) ?_
  refine iw_iadd (pc' := 406) (by decide +kernel) ?_
  refine iw_sld (pc' := 407) hin1 (by decide +kernel) ?_
  refine iw_aloadb (i := 0) (pc' := 408) 0 rfl (by decide +kernel) ?_
  refine iw_iload_n (i := 3) (pc' := 409) 3 rfl (by decide +kernel) ?_
  refine iw_iconst (i := 2) (v := (2 : Int32)) (pc' := 410) (by decide +kernel) ?_
  refine iw_iadd (pc' := 411) (by decide +kernel) ?_
  refine iw_sld (pc' := 412) hin2 (by decide +kernel) ?_
  refine iw_aloadb (i := 0) (pc' := 413) 0 rfl (by decide +kernel) ?_
  refine iw_iload_n (i := 3) (pc' := 414) 3 rfl (by decide +kernel) ?_
  refine iw_iconst (i := 3) (v := (3 : Int32)) (pc' := 415) (by decide +kernel) ?_
  refine iw_iadd (pc' := 416) (by decide +kernel) ?_
  refine iw_sld (pc' := 417) hin3 (by decide +kernel) ?_
  refine iw_callV (pc' := 420) (S0 := []) (S1 := [.int v]) (c1 := 106) (s1 := 2181) (k := 3) (ct_X8_salt l κ sw μ (xs (Int32.toNatClampNeg (i + (1 : Int32)))) (xs (Int32.toNatClampNeg (i + (2 : Int32)))) (xs (Int32.toNatClampNeg (i + (3 : Int32)))) hx) cO_1 ⟨rfl, rfl⟩ mv_X8_salt llm_52 ⟨rfl, rfl⟩ (ic_sum8 trivial (Nat.le_of_ble_eq_true rfl)) (by unfold ic_rm; decide +kernel) ⟨rfl, rfl, rfl⟩ (by decide) ?_
  refine iw_aload_n (i := 2) (pc' := 421) 2 rfl (by decide +kernel) ?_
  refine iw_aloadb (i := 0) (pc' := 422) 0 rfl (by decide +kernel) ?_
  refine iw_iload_n (i := 3) (pc' := 423) 3 rfl (by decide +kernel) ?_
  refine iw_iconst (i := 1) (v := (1 : Int32)) (pc' := 424) (by decide +kernel) ?_
  refine iw_iadd (pc' := 425) (by decide +kernel) ?_
  refine iw_sld (pc' := 426) hin1 (by decide +kernel) ?_
  refine iw_aloadb (i := 0) (pc' := 427) 0 rfl (by decide +kernel) ?_
  refine iw_iload_n (i := 3) (pc' := 428) 3 rfl (by decide +kernel) ?_
  refine iw_iconst (i := 2) (v := (2 : Int32)) (pc' := 429) (by decide +kernel) ?_
  refine iw_iadd (pc' := 430) (by decide +kernel) ?_
  refine iw_sld (pc' := 431) hin2 (by decide +kernel) ?_
  refine iw_aloadb (i := 0) (pc' := 432) 0 rfl (by decide +kernel) ?_
  refine iw_iload_n (i := 3) (pc' := 433) 3 rfl (by decide +kernel) ?_
  refine iw_iconst (i := 3) (v := (3 : Int32)) (pc' := 434) (by decide +kernel) ?_
  refine iw_iadd (pc' := 435) (by decide +kernel) ?_
  refine iw_sld (pc' := 436) hin3 (by decide +kernel) ?_
  refine iw_callV (pc' := 439) (S0 := [.int v]) (S1 := [.int v, .int v]) (c1 := 106) (s1 := 2181) (k := 3) (ct_X9_salt l κ sw μ1 (xs (Int32.toNatClampNeg (i + (1 : Int32)))) (xs (Int32.toNatClampNeg (i + (2 : Int32)))) (xs (Int32.toNatClampNeg (i + (3 : Int32)))) hm) cO_90 ⟨rfl, rfl⟩ mv_X9_salt llm_56 ⟨rfl, rfl⟩ (ic_sum8 ⟨rfl, trivial⟩ (Nat.le_of_ble_eq_true rfl)) (by unfold ic_rm; decide +kernel) ⟨rfl, rfl, rfl⟩ (by decide) ?_
  refine iw_eqT (off := 679) (tg := 1118) (pc' := 442) (by decide +kernel) ?_
  exact next sw μ2 hI2
set_option maxRecDepth 100000 in
set_option maxHeartbeats 4000000 in
theorem lc_snow {l : Launch} {κ : ic_K} {b Ls : Nat} {xs : Nat → Int32} {i : Int32} {sw : Nat} {μ : ic_M} (hI : ic_I sw μ) (hin1 : vp_in (i + (1 : Int32)) Ls) (hin2 : vp_in (i + (2 : Int32)) Ls) (hin3 : vp_in (i + (3 : Int32)) Ls) (hin4 : vp_in (i + (4 : Int32)) Ls) (hin5 : vp_in (i + (5 : Int32)) Ls) (next : ∀ (sw : Nat) (μ : ic_M), ic_I sw μ → ic_W l κ ic_law (ic_XL κ b Ls xs) ic_ZL 1118 [(0, .ref b), (1, ic_rv κ.1 1), (2, ic_rv κ.1 90), (3, .int i)] [] 106 (ic_rs sw) μ 106 2181) : ic_W l κ ic_law (ic_XL κ b Ls xs) ic_ZL 444 [(0, .ref b), (1, ic_rv κ.1 1), (2, ic_rv κ.1 90), (3, .int i)] [] 106 (ic_rs sw) μ 106 2181 := by
  obtain ⟨v, μ1, μ2, hx, hm, hI2⟩ := pu_snow hI (xs (Int32.toNatClampNeg (i + (1 : Int32)))) (ic_nz (xs (Int32.toNatClampNeg (i + (2 : Int32))))) (ic_nz_b _)
  refine iw_aload_n (i := 1) (pc' := 445) 1 rfl (by decide +kernel) ?_
  refine iw_aloadb (i := 0) (pc' := 446) 0 rfl (by decide +kernel) ?_
  refine iw_iload_n (i := 3) (pc' := 447) 3 rfl (by decide +kernel) ?_
  refine iw_iconst (i := 1) (v := (1 : Int32)) (pc' := 448) (by decide +kernel) ?_
  refine iw_iadd (pc' := 449) (by decide +kernel) ?_
  refine iw_sld (pc' := 450) hin1 (by decide +kernel) ?_
  refine iw_aloadb (i := 0) (pc' := 451) 0 rfl (by decide +kernel) ?_
  refine iw_iload_n (i := 3) (pc' := 452) 3 rfl (by decide +kernel) ?_
  refine iw_iconst (i := 2) (v := (2 : Int32)) (pc' := 453) (by decide +kernel) ?_
  refine iw_iadd (pc' := 454) (by decide +kernel) ?_
  refine iw_sld (pc' := 455) hin2 (by decide +kernel) ?_
  refine iw_nz (tg := 462) (pc1 := 458) (pc2 := 459) (pc3 := 463) (off := 7) (off2 := 4) (by decide +kernel) ?_
  refine iw_callV (pc' := 466) (S0 := []) (S1 := [.int v]) (c1 := 106) (s1 := 2181) (k := 2) (ct_X8_snow l κ sw μ (xs (Int32.toNatClampNeg (i + (1 : Int32)))) (ic_nz (xs (Int32.toNatClampNeg (i + (2 : Int32))))) hx) cO_1 ⟨rfl, rfl⟩ mv_X8_snow llm_57 ⟨rfl, rfl⟩ (ic_sum8 trivial (Nat.le_of_ble_eq_true rfl)) (by unfold ic_rm; decide +kernel) ⟨rfl, rfl, rfl⟩ (by decide) ?_
  refine iw_aload_n (i := 2) (pc' := 467) 2 rfl (by decide +kernel) ?_
  refine iw_aloadb (i := 0) (pc' := 468) 0 rfl (by decide +kernel) ?_
  refine iw_iload_n (i := 3) (pc' := 469) 3 rfl (by decide +kernel) ?_
  refine iw_iconst (i := 1) (v := (1 : Int32)) (pc' := 470) (by decide +kernel) ?_
  refine iw_iadd (pc' := 471) (by decide +kernel) ?_
  refine iw_sld (pc' := 472) hin1 (by decide +kernel) ?_
  refine iw_aloadb (i := 0) (pc' := 473) 0 rfl (by decide +kernel) ?_
  refine iw_iload_n (i := 3) (pc' := 474) 3 rfl (by decide +kernel) ?_
  refine iw_iconst (i := 2) (v := (2 : Int32)) (pc' := 475) (by decide +kernel) ?_
  refine iw_iadd (pc' := 476) (by decide +kernel) ?_
  refine iw_sld (pc' := 477) hin2 (by decide +kernel) ?_
  refine iw_nz (tg := 484) (pc1 := 480) (pc2 := 481) (pc3 := 485) (off := 7) (off2 := 4) (by decide +kernel) ?_
  refine iw_callV (pc' := 488) (S0 := [.int v]) (S1 := [.int v, .int v]) (c1 := 106) (s1 := 2181) (k := 2) (ct_X9_snow l κ sw μ1 (xs (Int32.toNatClampNeg (i + (1 : Int32)))) (ic_nz (xs (Int32.toNatClampNeg (i + (2 : Int32))))) hm) cO_90 ⟨rfl, rfl⟩ mv_X9_snow llm_61 ⟨rfl, rfl⟩ (ic_sum8 ⟨rfl, trivial⟩ (Nat.le_of_ble_eq_true rfl)) (by unfold ic_rm; decide +kernel) ⟨rfl, rfl, rfl⟩ (by decide) ?_
  refine iw_eqT (off := 630) (tg := 1118) (pc' := 491) (by decide +kernel) ?_
  exact next sw μ2 hI2
set_option maxRecDepth 100000 in
set_option maxHeartbeats 4000000 in
theorem lc_spring {l : Launch} {κ : ic_K} {b Ls : Nat} {xs : Nat → Int32} {i : Int32} {sw : Nat} {μ : ic_M} (hI : ic_I sw μ) (hin1 : vp_in (i + (1 : Int32)) Ls) (hin2 : vp_in (i + (2 : Int32)) Ls) (hin3 : vp_in (i + (3 : Int32)) Ls) (hin4 : vp_in (i + (4 : Int32)) Ls) (hin5 : vp_in (i + (5 : Int32)) Ls) (next : ∀ (sw : Nat) (μ : ic_M), ic_I sw μ → ic_W l κ ic_law (ic_XL κ b Ls xs) ic_ZL 1118 [(0, .ref b), (1, ic_rv κ.1 1), (2, ic_rv κ.1 90), (3, .int i)] [] 106 (ic_rs sw) μ 106 2181) : ic_W l κ ic_law (ic_XL κ b Ls xs) ic_ZL 493 [(0, .ref b), (1, ic_rv κ.1 1), (2, ic_rv κ.1 90), (3, .int i)] [] 106 (ic_rs sw) μ 106 2181 := by
  obtain ⟨v, μ1, μ2, hx, hm, hI2⟩ := pu_spring hI
  refine iw_aload_n (i := 1) (pc' := 494) 1 rfl (by decide +kernel) ?_
  refine iw_callV (pc' := 497) (S0 := []) (S1 := [.int v]) (c1 := 106) (s1 := 2181) (k := 0) (ct_X8_spring l κ sw μ hx) cO_1 ⟨rfl, rfl⟩ mv_X8_spring llm_62 ⟨rfl, rfl⟩ (ic_sum8 trivial (Nat.le_of_ble_eq_true rfl)) (by unfold ic_rm; decide +kernel) ⟨rfl, rfl, rfl⟩ (by decide) ?_
  refine iw_aload_n (i := 2) (pc' := 498) 2 rfl (by decide +kernel) ?_
  refine iw_callV (pc' := 501) (S0 := [.int v]) (S1 := [.int v, .int v]) (c1 := 106) (s1 := 2181) (k := 0) (ct_X9_spring l κ sw μ1 hm) cO_90 ⟨rfl, rfl⟩ mv_X9_spring llm_65 ⟨rfl, rfl⟩ (ic_sum8 ⟨rfl, trivial⟩ (Nat.le_of_ble_eq_true rfl)) (by unfold ic_rm; decide +kernel) ⟨rfl, rfl, rfl⟩ (by decide) ?_
  refine iw_eqT (off := 617) (tg := 1118) (pc' := 504) (by decide +kernel) ?_
  exact next sw μ2 hI2
set_option maxRecDepth 100000 in
set_option maxHeartbeats 4000000 in
theorem lc_drift {l : Launch} {κ : ic_K} {b Ls : Nat} {xs : Nat → Int32} {i : Int32} {sw : Nat} {μ : ic_M} (hI : ic_I sw μ) (hin1 : vp_in (i + (1 : Int32)) Ls) (hin2 : vp_in (i + (2 : Int32)) Ls) (hin3 : vp_in (i + (3 : Int32)) Ls) (hin4 : vp_in (i + (4 : Int32)) Ls) (hin5 : vp_in (i + (5 : Int32)) Ls) (next : ∀ (sw : Nat) (μ : ic_M), ic_I sw μ → ic_W l κ ic_law (ic_XL κ b Ls xs) ic_ZL 1118 [(0, .ref b), (1, ic_rv κ.1 1), (2, ic_rv κ.1 90), (3, .int i)] [] 106 (ic_rs sw) μ 106 2181) : ic_W l κ ic_law (ic_XL κ b Ls xs) ic_ZL 506 [(0, .ref b), (1, ic_rv κ.1 1), (2, ic_rv κ.1 90), (3, .int i)] [] 106 (ic_rs sw) μ 106 2181 := by
  obtain ⟨v, μ1, μ2, hx, hm, hI2⟩ := pu_drift hI (xs (Int32.toNatClampNeg (i + (1 : Int32))))
  refine iw_aload_n (i := 1) (pc' := 507) 1 rfl (by decide +kernel) ?_
  refine iw_aloadb (i := 0) (pc' := 508) 0 rfl (by decide +kernel) ?_
  refine iw_iload_n (i := 3) (pc' := 509) 3 rfl (by decide +kernel) ?_
  refine iw_iconst (i := 1) (v := (1 : Int32)) (pc' := 510) (by decide +kernel) ?_
  refine iw_iadd (pc' := 511) (by decide +kernel) ?_
  refine iw_sld (pc' := 512) hin1 (by decide +kernel) ?_
  refine iw_callV (pc' := 515) (S0 := []) (S1 := [.int v]) (c1 := 106) (s1 := 2181) (k := 1) (ct_X8_drift l κ sw μ (xs (Int32.toNatClampNeg (i + (1 : Int32)))) hx) cO_1 ⟨rfl, rfl⟩ mv_X8_drift llm_66 ⟨rfl, rfl⟩ (ic_sum8 trivial (Nat.le_of_ble_eq_true rfl)) (by unfold ic_rm; decide +kernel) ⟨rfl, rfl, rfl⟩ (by decide) ?_
  refine iw_aload_n (i := 2) (pc' := 516) 2 rfl (by decide +kernel) ?_
  refine iw_aloadb (i := 0) (pc' := 517) 0 rfl (by decide +kernel) ?_
  refine iw_iload_n (i := 3) (pc' := 518) 3 rfl (by decide +kernel) ?_
  refine iw_iconst (i := 1) (v := (1 : Int32)) (pc' := 519) (by decide +kernel) ?_
  refine iw_iadd (pc' := 520) (by decide +kernel) ?_
  refine iw_sld (pc' := 521) hin1 (by decide +kernel) ?_
  refine iw_callV (pc' := 524) (S0 := [.int v]) (S1 := [.int v, .int v]) (c1 := 106) (s1 := 2181) (k := 1) (ct_X9_drift l κ sw μ1 (xs (Int32.toNatClampNeg (i + (1 : Int32)))) hm) cO_90 ⟨rfl, rfl⟩ mv_X9_drift llm_69 ⟨rfl, rfl⟩ (ic_sum8 ⟨rfl, trivial⟩ (Nat.le_of_ble_eq_true rfl)) (by unfold ic_rm; decide +kernel) ⟨rfl, rfl, rfl⟩ (by decide) ?_
  refine iw_eqT (off := 594) (tg := 1118) (pc' := 527) (by decide +kernel) ?_
  exact next sw μ2 hI2
set_option maxRecDepth 100000 in
set_option maxHeartbeats 4000000 in
theorem lc_undo {l : Launch} {κ : ic_K} {b Ls : Nat} {xs : Nat → Int32} {i : Int32} {sw : Nat} {μ : ic_M} (hI : ic_I sw μ) (hin1 : vp_in (i + (1 : Int32)) Ls) (hin2 : vp_in (i + (2 : Int32)) Ls) (hin3 : vp_in (i + (3 : Int32)) Ls) (hin4 : vp_in (i + (4 : Int32)) Ls) (hin5 : vp_in (i + (5 : Int32)) Ls) (next : ∀ (sw : Nat) (μ : ic_M), ic_I sw μ → ic_W l κ ic_law (ic_XL κ b Ls xs) ic_ZL 1118 [(0, .ref b), (1, ic_rv κ.1 1), (2, ic_rv κ.1 90), (3, .int i)] [] 106 (ic_rs sw) μ 106 2181) : ic_W l κ ic_law (ic_XL κ b Ls xs) ic_ZL 529 [(0, .ref b), (1, ic_rv κ.1 1), (2, ic_rv κ.1 90), (3, .int i)] [] 106 (ic_rs sw) μ 106 2181 := by
  obtain ⟨v, μ1, μ2, hx, hm, hI2⟩ := pu_undo hI
  refine iw_aload_n (i := 1) (pc' := 530) 1 rfl (by decide +kernel) ?_
  refine iw_callV (pc' := 533) (S0 := []) (S1 := [.int v]) (c1 := 106) (s1 := 2181) (k := 0) (ct_X8_undo l κ sw μ hx) cO_1 ⟨rfl, rfl⟩ mv_X8_undo llm_70 ⟨rfl, rfl⟩ (ic_sum8 trivial (Nat.le_of_ble_eq_true rfl)) (by unfold ic_rm; decide +kernel) ⟨rfl, rfl, rfl⟩ (by decide) ?_
  refine iw_aload_n (i := 2) (pc' := 534) 2 rfl (by decide +kernel) ?_
  refine iw_callV (pc' := 537) (S0 := [.int v]) (S1 := [.int v, .int v]) (c1 := 106) (s1 := 2181) (k := 0) (ct_X9_undo l κ sw μ1 hm) cO_90 ⟨rfl, rfl⟩ mv_X9_undo llm_73 ⟨rfl, rfl⟩ (ic_sum8 ⟨rfl, trivial⟩ (Nat.le_of_ble_eq_true rfl)) (by unfold ic_rm; decide +kernel) ⟨rfl, rfl, rfl⟩ (by decide) ?_
  refine iw_eqT (off := 581) (tg := 1118) (pc' := 540) (by decide +kernel) ?_
  exact next sw μ2 hI2
set_option maxRecDepth 100000 in
set_option maxHeartbeats 4000000 in
theorem lc_then {l : Launch} {κ : ic_K} {b Ls : Nat} {xs : Nat → Int32} {i : Int32} {sw : Nat} {μ : ic_M} (hI : ic_I sw μ) (hin1 : vp_in (i + (1 : Int32)) Ls) (hin2 : vp_in (i + (2 : Int32)) Ls) (hin3 : vp_in (i + (3 : Int32)) Ls) (hin4 : vp_in (i + (4 : Int32)) Ls) (hin5 : vp_in (i + (5 : Int32)) Ls) (next : ∀ (sw : Nat) (μ : ic_M), ic_I sw μ → ic_W l κ ic_law (ic_XL κ b Ls xs) ic_ZL 1118 [(0, .ref b), (1, ic_rv κ.1 1), (2, ic_rv κ.1 90), (3, .int i)] [] 106 (ic_rs sw) μ 106 2181) : ic_W l κ ic_law (ic_XL κ b Ls xs) ic_ZL 542 [(0, .ref b), (1, ic_rv κ.1 1), (2, ic_rv κ.1 90), (3, .int i)] [] 106 (ic_rs sw) μ 106 2181 := by
  obtain ⟨v, μ2, hx, hm, hI2⟩ := pu_then hI (xs (Int32.toNatClampNeg (i + (1 : Int32)))) (xs (Int32.toNatClampNeg (i + (2 : Int32))))
  refine iw_aload_n (i := 1) (pc' := 543) 1 rfl (by decide +kernel) ?_
  refine iw_aloadb (i := 0) (pc' := 544) 0 rfl (by decide +kernel) ?_
  refine iw_iload_n (i := 3) (pc' := 545) 3 rfl (by decide +kernel) ?_
  refine iw_iconst (i := 1) (v := (1 : Int32)) (pc' := 546) (by decide +kernel) ?_
  refine iw_iadd (pc' := 547) (by decide +kernel) ?_
  refine iw_sld (pc' := 548) hin1 (by decide +kernel) ?_
  refine iw_aloadb (i := 0) (pc' := 549) 0 rfl (by decide +kernel) ?_
  refine iw_iload_n (i := 3) (pc' := 550) 3 rfl (by decide +kernel) ?_
  refine iw_iconst (i := 2) (v := (2 : Int32)) (pc' := 551) (by decide +kernel) ?_
  refine iw_iadd (pc' := 552) (by decide +kernel) ?_
  refine iw_sld (pc' := 553) hin2 (by decide +kernel) ?_
  refine iw_callV (pc' := 556) (S0 := []) (S1 := [.int v]) (c1 := 106) (s1 := 2181) (k := 2) (ct_X8_then l κ sw μ (xs (Int32.toNatClampNeg (i + (1 : Int32)))) (xs (Int32.toNatClampNeg (i + (2 : Int32)))) hx) cO_1 ⟨rfl, rfl⟩ mv_X8_then llm_74 ⟨rfl, rfl⟩ (ic_sum8 trivial (Nat.le_of_ble_eq_true rfl)) (by unfold ic_rm; decide +kernel) ⟨rfl, rfl, rfl⟩ (by decide) ?_
  refine iw_aload_n (i := 2) (pc' := 557) 2 rfl (by decide +kernel) ?_
  refine iw_aloadb (i := 0) (pc' := 558) 0 rfl (by decide +kernel) ?_
  refine iw_iload_n (i := 3) (pc' := 559) 3 rfl (by decide +kernel) ?_
  refine iw_iconst (i := 1) (v := (1 : Int32)) (pc' := 560) (by decide +kernel) ?_
  refine iw_iadd (pc' := 561) (by decide +kernel) ?_
  refine iw_sld (pc' := 562) hin1 (by decide +kernel) ?_
  refine iw_aloadb (i := 0) (pc' := 563) 0 rfl (by decide +kernel) ?_
  refine iw_iload_n (i := 3) (pc' := 564) 3 rfl (by decide +kernel) ?_
  refine iw_iconst (i := 2) (v := (2 : Int32)) (pc' := 565) (by decide +kernel) ?_
  refine iw_iadd (pc' := 566) (by decide +kernel) ?_
  refine iw_sld (pc' := 567) hin2 (by decide +kernel) ?_
  refine iw_callV (pc' := 570) (S0 := [.int v]) (S1 := [.int v, .int v]) (c1 := 106) (s1 := 2181) (k := 2) (ct_X9_then l κ sw μ (xs (Int32.toNatClampNeg (i + (1 : Int32)))) (xs (Int32.toNatClampNeg (i + (2 : Int32)))) hm) cO_90 ⟨rfl, rfl⟩ mv_X9_then llm_77 ⟨rfl, rfl⟩ (ic_sum8 ⟨rfl, trivial⟩ (Nat.le_of_ble_eq_true rfl)) (by unfold ic_rm; decide +kernel) ⟨rfl, rfl, rfl⟩ (by decide) ?_
  refine iw_eqT (off := 548) (tg := 1118) (pc' := 573) (by decide +kernel) ?_
  exact next sw μ2 hI2
set_option maxRecDepth 100000 in
set_option maxHeartbeats 4000000 in
theorem lc_when {l : Launch} {κ : ic_K} {b Ls : Nat} {xs : Nat → Int32} {i : Int32} {sw : Nat} {μ : ic_M} (hI : ic_I sw μ) (hin1 : vp_in (i + (1 : Int32)) Ls) (hin2 : vp_in (i + (2 : Int32)) Ls) (hin3 : vp_in (i + (3 : Int32)) Ls) (hin4 : vp_in (i + (4 : Int32)) Ls) (hin5 : vp_in (i + (5 : Int32)) Ls) (next : ∀ (sw : Nat) (μ : ic_M), ic_I sw μ → ic_W l κ ic_law (ic_XL κ b Ls xs) ic_ZL 1118 [(0, .ref b), (1, ic_rv κ.1 1), (2, ic_rv κ.1 90), (3, .int i)] [] 106 (ic_rs sw) μ 106 2181) : ic_W l κ ic_law (ic_XL κ b Ls xs) ic_ZL 575 [(0, .ref b), (1, ic_rv κ.1 1), (2, ic_rv κ.1 90), (3, .int i)] [] 106 (ic_rs sw) μ 106 2181 := by
  obtain ⟨v, μ2, hx, hm, hI2⟩ := pu_when hI (xs (Int32.toNatClampNeg (i + (1 : Int32)))) (xs (Int32.toNatClampNeg (i + (2 : Int32))))
  refine iw_aload_n (i := 1) (pc' := 576) 1 rfl (by decide +kernel) ?_
  refine iw_aloadb (i := 0) (pc' := 577) 0 rfl (by decide +kernel) ?_
  refine iw_iload_n (i := 3) (pc' := 578) 3 rfl (by decide +kernel) ?_
  refine iw_iconst (i := 1) (v := (1 : Int32)) (pc' := 579) (by decide +kernel) ?_
  refine iw_iadd (pc' := 580) (by decide +kernel) ?_
  refine iw_sld (pc' := 581) hin1 (by decide +kernel) ?_
  refine iw_aloadb (i := 0) (pc' := 582) 0 rfl (by decide +kernel) ?_
  refine iw_iload_n (i := 3) (pc' := 583) 3 rfl (by decide +kernel) ?_
  refine iw_iconst (i := 2) (v := (2 : Int32)) (pc' := 584) (by decide +kernel) ?_
  refine iw_iadd (pc' := 585) (by decide +kernel) ?_
  refine iw_sld (pc' := 586) hin2 (by decide +kernel) ?_
  refine iw_callV (pc' := 589) (S0 := []) (S1 := [.int v]) (c1 := 106) (s1 := 2181) (k := 2) (ct_X8_when l κ sw μ (xs (Int32.toNatClampNeg (i + (1 : Int32)))) (xs (Int32.toNatClampNeg (i + (2 : Int32)))) hx) cO_1 ⟨rfl, rfl⟩ mv_X8_when llm_78 ⟨rfl, rfl⟩ (ic_sum8 trivial (Nat.le_of_ble_eq_true rfl)) (by unfold ic_rm; decide +kernel) ⟨rfl, rfl, rfl⟩ (by decide) ?_
  refine iw_aload_n (i := 2) (pc' := 590) 2 rfl (by decide +kernel) ?_
  refine iw_aloadb (i := 0) (pc' := 591) 0 rfl (by decide +kernel) ?_
  refine iw_iload_n (i := 3) (pc' := 592) 3 rfl (by decide +kernel) ?_
  refine iw_iconst (i := 1) (v := (1 : Int32)) (pc' := 593) (by decide +kernel) ?_
  refine iw_iadd (pc' := 594) (by decide +kernel) ?_
  refine iw_sld (pc' := 595) hin1 (by decide +kernel) ?_
  refine iw_aloadb (i := 0) (pc' := 596) 0 rfl (by decide +kernel) ?_
  refine iw_iload_n (i := 3) (pc' := 597) 3 rfl (by decide +kernel) ?_
  refine iw_iconst (i := 2) (v := (2 : Int32)) (pc' := 598) (by decide +kernel) ?_
  refine iw_iadd (pc' := 599) (by decide +kernel) ?_
  refine iw_sld (pc' := 600) hin2 (by decide +kernel) ?_
  refine iw_callV (pc' := 603) (S0 := [.int v]) (S1 := [.int v, .int v]) (c1 := 106) (s1 := 2181) (k := 2) (ct_X9_when l κ sw μ (xs (Int32.toNatClampNeg (i + (1 : Int32)))) (xs (Int32.toNatClampNeg (i + (2 : Int32)))) hm) cO_90 ⟨rfl, rfl⟩ mv_X9_when llm_81 ⟨rfl, rfl⟩ (ic_sum8 ⟨rfl, trivial⟩ (Nat.le_of_ble_eq_true rfl)) (by unfold ic_rm; decide +kernel) ⟨rfl, rfl, rfl⟩ (by decide) ?_
  refine iw_eqT (off := 515) (tg := 1118) (pc' := 606) (by decide +kernel) ?_
  exact next sw μ2 hI2
set_option maxRecDepth 100000 in
set_option maxHeartbeats 4000000 in
theorem lc_noMore {l : Launch} {κ : ic_K} {b Ls : Nat} {xs : Nat → Int32} {i : Int32} {sw : Nat} {μ : ic_M} (hI : ic_I sw μ) (hin1 : vp_in (i + (1 : Int32)) Ls) (hin2 : vp_in (i + (2 : Int32)) Ls) (hin3 : vp_in (i + (3 : Int32)) Ls) (hin4 : vp_in (i + (4 : Int32)) Ls) (hin5 : vp_in (i + (5 : Int32)) Ls) (next : ∀ (sw : Nat) (μ : ic_M), ic_I sw μ → ic_W l κ ic_law (ic_XL κ b Ls xs) ic_ZL 1118 [(0, .ref b), (1, ic_rv κ.1 1), (2, ic_rv κ.1 90), (3, .int i)] [] 106 (ic_rs sw) μ 106 2181) : ic_W l κ ic_law (ic_XL κ b Ls xs) ic_ZL 608 [(0, .ref b), (1, ic_rv κ.1 1), (2, ic_rv κ.1 90), (3, .int i)] [] 106 (ic_rs sw) μ 106 2181 := by
  obtain ⟨v, μ2, hx, hm, hI2⟩ := pu_noMore hI (xs (Int32.toNatClampNeg (i + (1 : Int32)))) (xs (Int32.toNatClampNeg (i + (2 : Int32))))
  refine iw_aload_n (i := 1) (pc' := 609) 1 rfl (by decide +kernel) ?_
  refine iw_aloadb (i := 0) (pc' := 610) 0 rfl (by decide +kernel) ?_
  refine iw_iload_n (i := 3) (pc' := 611) 3 rfl (by decide +kernel) ?_
  refine iw_iconst (i := 1) (v := (1 : Int32)) (pc' := 612) (by decide +kernel) ?_
  refine iw_iadd (pc' := 613) (by decide +kernel) ?_
  refine iw_sld (pc' := 614) hin1 (by decide +kernel) ?_
  refine iw_aloadb (i := 0) (pc' := 615) 0 rfl (by decide +kernel) ?_
  refine iw_iload_n (i := 3) (pc' := 616) 3 rfl (by decide +kernel) ?_
  refine iw_iconst (i := 2) (v := (2 : Int32)) (pc' := 617) (by decide +kernel) ?_
  refine iw_iadd (pc' := 618) (by decide +kernel) ?_
  refine iw_sld (pc' := 619) hin2 (by decide +kernel) ?_
  refine iw_callV (pc' := 622) (S0 := []) (S1 := [.int v]) (c1 := 106) (s1 := 2181) (k := 2) (ct_X8_noMore l κ sw μ (xs (Int32.toNatClampNeg (i + (1 : Int32)))) (xs (Int32.toNatClampNeg (i + (2 : Int32)))) hx) cO_1 ⟨rfl, rfl⟩ mv_X8_noMore llm_82 ⟨rfl, rfl⟩ (ic_sum8 trivial (Nat.le_of_ble_eq_true rfl)) (by unfold ic_rm; decide +kernel) ⟨rfl, rfl, rfl⟩ (by decide) ?_
  refine iw_aload_n (i := 2) (pc' := 623) 2 rfl (by decide +kernel) ?_
  refine iw_aloadb (i := 0) (pc' := 624) 0 rfl (by decide +kernel) ?_
  refine iw_iload_n (i := 3) (pc' := 625) 3 rfl (by decide +kernel) ?_
  refine iw_iconst (i := 1) (v := (1 : Int32)) (pc' := 626) (by decide +kernel) ?_
  refine iw_iadd (pc' := 627) (by decide +kernel) ?_
  refine iw_sld (pc' := 628) hin1 (by decide +kernel) ?_
  refine iw_aloadb (i := 0) (pc' := 629) 0 rfl (by decide +kernel) ?_
  refine iw_iload_n (i := 3) (pc' := 630) 3 rfl (by decide +kernel) ?_
  refine iw_iconst (i := 2) (v := (2 : Int32)) (pc' := 631) (by decide +kernel) ?_
  refine iw_iadd (pc' := 632) (by decide +kernel) ?_
  refine iw_sld (pc' := 633) hin2 (by decide +kernel) ?_
  refine iw_callV (pc' := 636) (S0 := [.int v]) (S1 := [.int v, .int v]) (c1 := 106) (s1 := 2181) (k := 2) (ct_X9_noMore l κ sw μ (xs (Int32.toNatClampNeg (i + (1 : Int32)))) (xs (Int32.toNatClampNeg (i + (2 : Int32)))) hm) cO_90 ⟨rfl, rfl⟩ mv_X9_noMore llm_85 ⟨rfl, rfl⟩ (ic_sum8 ⟨rfl, trivial⟩ (Nat.le_of_ble_eq_true rfl)) (by unfold ic_rm; decide +kernel) ⟨rfl, rfl, rfl⟩ (by decide) ?_
  refine iw_eqT (off := 482) (tg := 1118) (pc' := 639) (by decide +kernel) ?_
  exact next sw μ2 hI2
set_option maxRecDepth 100000 in
set_option maxHeartbeats 4000000 in
theorem lc_over {l : Launch} {κ : ic_K} {b Ls : Nat} {xs : Nat → Int32} {i : Int32} {sw : Nat} {μ : ic_M} (hI : ic_I sw μ) (hin1 : vp_in (i + (1 : Int32)) Ls) (hin2 : vp_in (i + (2 : Int32)) Ls) (hin3 : vp_in (i + (3 : Int32)) Ls) (hin4 : vp_in (i + (4 : Int32)) Ls) (hin5 : vp_in (i + (5 : Int32)) Ls) (next : ∀ (sw : Nat) (μ : ic_M), ic_I sw μ → ic_W l κ ic_law (ic_XL κ b Ls xs) ic_ZL 1118 [(0, .ref b), (1, ic_rv κ.1 1), (2, ic_rv κ.1 90), (3, .int i)] [] 106 (ic_rs sw) μ 106 2181) : ic_W l κ ic_law (ic_XL κ b Ls xs) ic_ZL 641 [(0, .ref b), (1, ic_rv κ.1 1), (2, ic_rv κ.1 90), (3, .int i)] [] 106 (ic_rs sw) μ 106 2181 := by
  obtain ⟨v, μ1, μ2, hx, hm, hI2⟩ := pu_over hI (xs (Int32.toNatClampNeg (i + (1 : Int32)))) (xs (Int32.toNatClampNeg (i + (2 : Int32))))
  refine iw_aload_n (i := 1) (pc' := 642) 1 rfl (by decide +kernel) ?_
  refine iw_aloadb (i := 0) (pc' := 643) 0 rfl (by decide +kernel) ?_
  refine iw_iload_n (i := 3) (pc' := 644) 3 rfl (by decide +kernel) ?_
  refine iw_iconst (i := 1) (v := (1 : Int32)) (pc' := 645) (by decide +kernel) ?_
  refine iw_iadd (pc' := 646) (by decide +kernel) ?_
  refine iw_sld (pc' := 647) hin1 (by decide +kernel) ?_
  refine iw_aloadb (i := 0) (pc' := 648) 0 rfl (by decide +kernel) ?_
  refine iw_iload_n (i := 3) (pc' := 649) 3 rfl (by decide +kernel) ?_
  refine iw_iconst (i := 2) (v := (2 : Int32)) (pc' := 650) (by decide +kernel) ?_
  refine iw_iadd (pc' := 651) (by decide +kernel) ?_
  refine iw_sld (pc' := 652) hin2 (by decide +kernel) ?_
  refine iw_callV (pc' := 655) (S0 := []) (S1 := [.int v]) (c1 := 106) (s1 := 2181) (k := 2) (ct_X8_over l κ sw μ (xs (Int32.toNatClampNeg (i + (1 : Int32)))) (xs (Int32.toNatClampNeg (i + (2 : Int32)))) hx) cO_1 ⟨rfl, rfl⟩ mv_X8_over llm_86 ⟨rfl, rfl⟩ (ic_sum8 trivial (Nat.le_of_ble_eq_true rfl)) (by unfold ic_rm; decide +kernel) ⟨rfl, rfl, rfl⟩ (by decide) ?_
  refine iw_aload_n (i := 2) (pc' := 656) 2 rfl (by decide +kernel) ?_
  refine iw_aloadb (i := 0) (pc' := 657) 0 rfl (by decide +kernel) ?_
  refine iw_iload_n (i := 3) (pc' := 658) 3 rfl (by decide +kernel) ?_
  refine iw_iconst (i := 1) (v := (1 : Int32)) (pc' := 659) (by decide +kernel) ?_
  refine iw_iadd (pc' := 660) (by decide +kernel) ?_
  refine iw_sld (pc' := 661) hin1 (by decide +kernel) ?_
  refine iw_aloadb (i := 0) (pc' := 662) 0 rfl (by decide +kernel) ?_
  refine iw_iload_n (i := 3) (pc' := 663) 3 rfl (by decide +kernel) ?_
  refine iw_iconst (i := 2) (v := (2 : Int32)) (pc' := 664) (by decide +kernel) ?_
  refine iw_iadd (pc' := 665) (by decide +kernel) ?_
  refine iw_sld (pc' := 666) hin2 (by decide +kernel) ?_
  refine iw_callV (pc' := 669) (S0 := [.int v]) (S1 := [.int v, .int v]) (c1 := 106) (s1 := 2181) (k := 2) (ct_X9_over l κ sw μ1 (xs (Int32.toNatClampNeg (i + (1 : Int32)))) (xs (Int32.toNatClampNeg (i + (2 : Int32)))) hm) cO_90 ⟨rfl, rfl⟩ mv_X9_over llm_89 ⟨rfl, rfl⟩ (ic_sum8 ⟨rfl, trivial⟩ (Nat.le_of_ble_eq_true rfl)) (by unfold ic_rm; decide +kernel) ⟨rfl, rfl, rfl⟩ (by decide) ?_
  refine iw_eqT (off := 449) (tg := 1118) (pc' := 672) (by decide +kernel) ?_
  exact next sw μ2 hI2
set_option maxRecDepth 100000 in
set_option maxHeartbeats 4000000 in
theorem lc_fewest {l : Launch} {κ : ic_K} {b Ls : Nat} {xs : Nat → Int32} {i : Int32} {sw : Nat} {μ : ic_M} (hI : ic_I sw μ) (hin1 : vp_in (i + (1 : Int32)) Ls) (hin2 : vp_in (i + (2 : Int32)) Ls) (hin3 : vp_in (i + (3 : Int32)) Ls) (hin4 : vp_in (i + (4 : Int32)) Ls) (hin5 : vp_in (i + (5 : Int32)) Ls) (next : ∀ (sw : Nat) (μ : ic_M), ic_I sw μ → ic_W l κ ic_law (ic_XL κ b Ls xs) ic_ZL 1118 [(0, .ref b), (1, ic_rv κ.1 1), (2, ic_rv κ.1 90), (3, .int i)] [] 106 (ic_rs sw) μ 106 2181) : ic_W l κ ic_law (ic_XL κ b Ls xs) ic_ZL 674 [(0, .ref b), (1, ic_rv κ.1 1), (2, ic_rv κ.1 90), (3, .int i)] [] 106 (ic_rs sw) μ 106 2181 := by
  obtain ⟨v, μ1, μ2, hx, hm, hI2⟩ := pu_fewest hI (xs (Int32.toNatClampNeg (i + (1 : Int32))))
  refine iw_aload_n (i := 1) (pc' := 675) 1 rfl (by decide +kernel) ?_
  refine iw_aloadb (i := 0) (pc' := 676) 0 rfl (by decide +kernel) ?_
  refine iw_iload_n (i := 3) (pc' := 677) 3 rfl (by decide +kernel) ?_
  refine iw_iconst (i := 1) (v := (1 : Int32)) (pc' := 678) (by decide +kernel) ?_
  refine iw_iadd (pc' := 679) (by decide +kernel) ?_
  refine iw_sld (pc' := 680) hin1 (by decide +kernel) ?_
  refine iw_callV (pc' := 683) (S0 := []) (S1 := [.int v]) (c1 := 106) (s1 := 2181) (k := 1) (ct_X8_fewest l κ sw μ (xs (Int32.toNatClampNeg (i + (1 : Int32)))) hx) cO_1 ⟨rfl, rfl⟩ mv_X8_fewest llm_90 ⟨rfl, rfl⟩ (ic_sum8 trivial (Nat.le_of_ble_eq_true rfl)) (by unfold ic_rm; decide +kernel) ⟨rfl, rfl, rfl⟩ (by decide) ?_
  refine iw_aload_n (i := 2) (pc' := 684) 2 rfl (by decide +kernel) ?_
  refine iw_aloadb (i := 0) (pc' := 685) 0 rfl (by decide +kernel) ?_
  refine iw_iload_n (i := 3) (pc' := 686) 3 rfl (by decide +kernel) ?_
  refine iw_iconst (i := 1) (v := (1 : Int32)) (pc' := 687) (by decide +kernel) ?_
  refine iw_iadd (pc' := 688) (by decide +kernel) ?_
  refine iw_sld (pc' := 689) hin1 (by decide +kernel) ?_
  refine iw_callV (pc' := 692) (S0 := [.int v]) (S1 := [.int v, .int v]) (c1 := 106) (s1 := 2181) (k := 1) (ct_X9_fewest l κ sw μ1 (xs (Int32.toNatClampNeg (i + (1 : Int32)))) hm) cO_90 ⟨rfl, rfl⟩ mv_X9_fewest llm_93 ⟨rfl, rfl⟩ (ic_sum8 ⟨rfl, trivial⟩ (Nat.le_of_ble_eq_true rfl)) (by unfold ic_rm; decide +kernel) ⟨rfl, rfl, rfl⟩ (by decide) ?_
  refine iw_eqT (off := 426) (tg := 1118) (pc' := 695) (by decide +kernel) ?_
  exact next sw μ2 hI2
set_option maxRecDepth 100000 in
set_option maxHeartbeats 4000000 in
theorem lc_leastSalt {l : Launch} {κ : ic_K} {b Ls : Nat} {xs : Nat → Int32} {i : Int32} {sw : Nat} {μ : ic_M} (hI : ic_I sw μ) (hin1 : vp_in (i + (1 : Int32)) Ls) (hin2 : vp_in (i + (2 : Int32)) Ls) (hin3 : vp_in (i + (3 : Int32)) Ls) (hin4 : vp_in (i + (4 : Int32)) Ls) (hin5 : vp_in (i + (5 : Int32)) Ls) (next : ∀ (sw : Nat) (μ : ic_M), ic_I sw μ → ic_W l κ ic_law (ic_XL κ b Ls xs) ic_ZL 1118 [(0, .ref b), (1, ic_rv κ.1 1), (2, ic_rv κ.1 90), (3, .int i)] [] 106 (ic_rs sw) μ 106 2181) : ic_W l κ ic_law (ic_XL κ b Ls xs) ic_ZL 697 [(0, .ref b), (1, ic_rv κ.1 1), (2, ic_rv κ.1 90), (3, .int i)] [] 106 (ic_rs sw) μ 106 2181 := by
  obtain ⟨v, hx, hm, hI2⟩ := pu_leastSalt hI (xs (Int32.toNatClampNeg (i + (1 : Int32))))
  refine iw_aload_n (i := 1) (pc' := 698) 1 rfl (by decide +kernel) ?_
  refine iw_aloadb (i := 0) (pc' := 699) 0 rfl (by decide +kernel) ?_
  refine iw_iload_n (i := 3) (pc' := 700) 3 rfl (by decide +kernel) ?_
  refine iw_iconst (i := 1) (v := (1 : Int32)) (pc' := 701) (by decide +kernel) ?_
  refine iw_iadd (pc' := 702) (by decide +kernel) ?_
  refine iw_sld (pc' := 703) hin1 (by decide +kernel) ?_
  refine iw_callV (pc' := 706) (S0 := []) (S1 := [.int v]) (c1 := 106) (s1 := 2181) (k := 1) (ct_X8_leastSalt l κ sw μ (xs (Int32.toNatClampNeg (i + (1 : Int32)))) hx) cO_1 ⟨rfl, rfl⟩ mv_X8_leastSalt llm_94 ⟨rfl, rfl⟩ (ic_sum8 trivial (Nat.le_of_ble_eq_true rfl)) (by unfold ic_rm; decide +kernel) ⟨rfl, rfl, rfl⟩ (by decide) ?_
  refine iw_aload_n (i := 2) (pc' := 707) 2 rfl (by decide +kernel) ?_
  refine iw_aloadb (i := 0) (pc' := 708) 0 rfl (by decide +kernel) ?_
  refine iw_iload_n (i := 3) (pc' := 709) 3 rfl (by decide +kernel) ?_
  refine iw_iconst (i := 1) (v := (1 : Int32)) (pc' := 710) (by decide +kernel) ?_
  refine iw_iadd (pc' := 711) (by decide +kernel) ?_
  refine iw_sld (pc' := 712) hin1 (by decide +kernel) ?_
  refine iw_callV (pc' := 715) (S0 := [.int v]) (S1 := [.int v, .int v]) (c1 := 106) (s1 := 2181) (k := 1) (ct_X9_leastSalt l κ sw μ (xs (Int32.toNatClampNeg (i + (1 : Int32)))) hm) cO_90 ⟨rfl, rfl⟩ mv_X9_leastSalt llm_97 ⟨rfl, rfl⟩ (ic_sum8 ⟨rfl, trivial⟩ (Nat.le_of_ble_eq_true rfl)) (by unfold ic_rm; decide +kernel) ⟨rfl, rfl, rfl⟩ (by decide) ?_
  refine iw_eqT (off := 403) (tg := 1118) (pc' := 718) (by decide +kernel) ?_
  exact next sw μ hI2
set_option maxRecDepth 100000 in
set_option maxHeartbeats 4000000 in
theorem lc_lives {l : Launch} {κ : ic_K} {b Ls : Nat} {xs : Nat → Int32} {i : Int32} {sw : Nat} {μ : ic_M} (hI : ic_I sw μ) (hin1 : vp_in (i + (1 : Int32)) Ls) (hin2 : vp_in (i + (2 : Int32)) Ls) (hin3 : vp_in (i + (3 : Int32)) Ls) (hin4 : vp_in (i + (4 : Int32)) Ls) (hin5 : vp_in (i + (5 : Int32)) Ls) (next : ∀ (sw : Nat) (μ : ic_M), ic_I sw μ → ic_W l κ ic_law (ic_XL κ b Ls xs) ic_ZL 1118 [(0, .ref b), (1, ic_rv κ.1 1), (2, ic_rv κ.1 90), (3, .int i)] [] 106 (ic_rs sw) μ 106 2181) : ic_W l κ ic_law (ic_XL κ b Ls xs) ic_ZL 720 [(0, .ref b), (1, ic_rv κ.1 1), (2, ic_rv κ.1 90), (3, .int i)] [] 106 (ic_rs sw) μ 106 2181 := by
  obtain ⟨v, μ1, μ2, hx, hm, hI2⟩ := pu_lives hI (xs (Int32.toNatClampNeg (i + (1 : Int32)))) (xs (Int32.toNatClampNeg (i + (2 : Int32))))
  refine iw_aload_n (i := 1) (pc' := 721) 1 rfl (by decide +kernel) ?_
  refine iw_aloadb (i := 0) (pc' := 722) 0 rfl (by decide +kernel) ?_
  refine iw_iload_n (i := 3) (pc' := 723) 3 rfl (by decide +kernel) ?_
  refine iw_iconst (i := 1) (v := (1 : Int32)) (pc' := 724) (by decide +kernel) ?_
  refine iw_iadd (pc' := 725) (by decide +kernel) ?_
  refine iw_sld (pc' := 726) hin1 (by decide +kernel) ?_
  refine iw_aloadb (i := 0) (pc' := 727) 0 rfl (by decide +kernel) ?_
  refine iw_iload_n (i := 3) (pc' := 728) 3 rfl (by decide +kernel) ?_
  refine iw_iconst (i := 2) (v := (2 : Int32)) (pc' := 729) (by decide +kernel) ?_
  refine iw_iadd (pc' := 730) (by decide +kernel) ?_
  refine iw_sld (pc' := 731) hin2 (by decide +kernel) ?_
  refine iw_callV (pc' := 734) (S0 := []) (S1 := [.int v]) (c1 := 106) (s1 := 2181) (k := 2) (ct_X8_lives l κ sw μ (xs (Int32.toNatClampNeg (i + (1 : Int32)))) (xs (Int32.toNatClampNeg (i + (2 : Int32)))) hx) cO_1 ⟨rfl, rfl⟩ mv_X8_lives llm_98 ⟨rfl, rfl⟩ (ic_sum8 trivial (Nat.le_of_ble_eq_true rfl)) (by unfold ic_rm; decide +kernel) ⟨rfl, rfl, rfl⟩ (by decide) ?_
  refine iw_aload_n (i := 2) (pc' := 735) 2 rfl (by decide +kernel) ?_
  refine iw_aloadb (i := 0) (pc' := 736) 0 rfl (by decide +kernel) ?_
  refine iw_iload_n (i := 3) (pc' := 737) 3 rfl (by decide +kernel) ?_
  refine iw_iconst (i := 1) (v := (1 : Int32)) (pc' := 738) (by decide +kernel) ?_
  refine iw_iadd (pc' := 739) (by decide +kernel) ?_
  refine iw_sld (pc' := 740) hin1 (by decide +kernel) ?_
  refine iw_aloadb (i := 0) (pc' := 741) 0 rfl (by decide +kernel) ?_
  refine iw_iload_n (i := 3) (pc' := 742) 3 rfl (by decide +kernel) ?_
  refine iw_iconst (i := 2) (v := (2 : Int32)) (pc' := 743) (by decide +kernel) ?_
  refine iw_iadd (pc' := 744) (by decide +kernel) ?_
  refine iw_sld (pc' := 745) hin2 (by decide +kernel) ?_
  refine iw_callV (pc' := 748) (S0 := [.int v]) (S1 := [.int v, .int v]) (c1 := 106) (s1 := 2181) (k := 2) (ct_X9_lives l κ sw μ1 (xs (Int32.toNatClampNeg (i + (1 : Int32)))) (xs (Int32.toNatClampNeg (i + (2 : Int32)))) hm) cO_90 ⟨rfl, rfl⟩ mv_X9_lives llm_101 ⟨rfl, rfl⟩ (ic_sum8 ⟨rfl, trivial⟩ (Nat.le_of_ble_eq_true rfl)) (by unfold ic_rm; decide +kernel) ⟨rfl, rfl, rfl⟩ (by decide) ?_
  refine iw_eqT (off := 370) (tg := 1118) (pc' := 751) (by decide +kernel) ?_
  exact next sw μ2 hI2
set_option maxRecDepth 100000 in
set_option maxHeartbeats 4000000 in
theorem lc_heard {l : Launch} {κ : ic_K} {b Ls : Nat} {xs : Nat → Int32} {i : Int32} {sw : Nat} {μ : ic_M} (hI : ic_I sw μ) (hin1 : vp_in (i + (1 : Int32)) Ls) (hin2 : vp_in (i + (2 : Int32)) Ls) (hin3 : vp_in (i + (3 : Int32)) Ls) (hin4 : vp_in (i + (4 : Int32)) Ls) (hin5 : vp_in (i + (5 : Int32)) Ls) (next : ∀ (sw : Nat) (μ : ic_M), ic_I sw μ → ic_W l κ ic_law (ic_XL κ b Ls xs) ic_ZL 1118 [(0, .ref b), (1, ic_rv κ.1 1), (2, ic_rv κ.1 90), (3, .int i)] [] 106 (ic_rs sw) μ 106 2181) : ic_W l κ ic_law (ic_XL κ b Ls xs) ic_ZL 753 [(0, .ref b), (1, ic_rv κ.1 1), (2, ic_rv κ.1 90), (3, .int i)] [] 106 (ic_rs sw) μ 106 2181 := by
  obtain ⟨v, hx, hm, hI2⟩ := pu_heard hI (xs (Int32.toNatClampNeg (i + (1 : Int32))))
  refine iw_aload_n (i := 1) (pc' := 754) 1 rfl (by decide +kernel) ?_
  refine iw_aloadb (i := 0) (pc' := 755) 0 rfl (by decide +kernel) ?_
  refine iw_iload_n (i := 3) (pc' := 756) 3 rfl (by decide +kernel) ?_
  refine iw_iconst (i := 1) (v := (1 : Int32)) (pc' := 757) (by decide +kernel) ?_
  refine iw_iadd (pc' := 758) (by decide +kernel) ?_
  refine iw_sld (pc' := 759) hin1 (by decide +kernel) ?_
  refine iw_callV (pc' := 762) (S0 := []) (S1 := [.int v]) (c1 := 106) (s1 := 2181) (k := 1) (ct_X8_heard l κ sw μ (xs (Int32.toNatClampNeg (i + (1 : Int32)))) hx) cO_1 ⟨rfl, rfl⟩ mv_X8_heard llm_102 ⟨rfl, rfl⟩ (ic_sum8 trivial (Nat.le_of_ble_eq_true rfl)) (by unfold ic_rm; decide +kernel) ⟨rfl, rfl, rfl⟩ (by decide) ?_
  refine iw_aload_n (i := 2) (pc' := 763) 2 rfl (by decide +kernel) ?_
  refine iw_aloadb (i := 0) (pc' := 764) 0 rfl (by decide +kernel) ?_
  refine iw_iload_n (i := 3) (pc' := 765) 3 rfl (by decide +kernel) ?_
  refine iw_iconst (i := 1) (v := (1 : Int32)) (pc' := 766) (by decide +kernel) ?_
  refine iw_iadd (pc' := 767) (by decide +kernel) ?_
  refine iw_sld (pc' := 768) hin1 (by decide +kernel) ?_
  refine iw_callV (pc' := 771) (S0 := [.int v]) (S1 := [.int v, .int v]) (c1 := 106) (s1 := 2181) (k := 1) (ct_X9_heard l κ sw μ (xs (Int32.toNatClampNeg (i + (1 : Int32)))) hm) cO_90 ⟨rfl, rfl⟩ mv_X9_heard llm_105 ⟨rfl, rfl⟩ (ic_sum8 ⟨rfl, trivial⟩ (Nat.le_of_ble_eq_true rfl)) (by unfold ic_rm; decide +kernel) ⟨rfl, rfl, rfl⟩ (by decide) ?_
  refine iw_eqT (off := 347) (tg := 1118) (pc' := 774) (by decide +kernel) ?_
  exact next sw μ hI2
set_option maxRecDepth 100000 in
set_option maxHeartbeats 4000000 in
theorem lc_game {l : Launch} {κ : ic_K} {b Ls : Nat} {xs : Nat → Int32} {i : Int32} {sw : Nat} {μ : ic_M} (hI : ic_I sw μ) (hin1 : vp_in (i + (1 : Int32)) Ls) (hin2 : vp_in (i + (2 : Int32)) Ls) (hin3 : vp_in (i + (3 : Int32)) Ls) (hin4 : vp_in (i + (4 : Int32)) Ls) (hin5 : vp_in (i + (5 : Int32)) Ls) (next : ∀ (sw : Nat) (μ : ic_M), ic_I sw μ → ic_W l κ ic_law (ic_XL κ b Ls xs) ic_ZL 1118 [(0, .ref b), (1, ic_rv κ.1 1), (2, ic_rv κ.1 90), (3, .int i)] [] 106 (ic_rs sw) μ 106 2181) : ic_W l κ ic_law (ic_XL κ b Ls xs) ic_ZL 776 [(0, .ref b), (1, ic_rv κ.1 1), (2, ic_rv κ.1 90), (3, .int i)] [] 106 (ic_rs sw) μ 106 2181 := by
  obtain ⟨v, hx, hm, hI2⟩ := pu_game hI (xs (Int32.toNatClampNeg (i + (1 : Int32)))) (xs (Int32.toNatClampNeg (i + (2 : Int32)))) (xs (Int32.toNatClampNeg (i + (3 : Int32)))) (xs (Int32.toNatClampNeg (i + (4 : Int32)))) (xs (Int32.toNatClampNeg (i + (5 : Int32))))
  refine iw_aload_n (i := 1) (pc' := 777) 1 rfl (by decide +kernel) ?_
  refine iw_aloadb (i := 0) (pc' := 778) 0 rfl (by decide +kernel) ?_
  refine iw_iload_n (i := 3) (pc' := 779) 3 rfl (by decide +kernel) ?_
  refine iw_iconst (i := 1) (v := (1 : Int32)) (pc' := 780) (by decide +kernel) ?_
  refine iw_iadd (pc' := 781) (by decide +kernel) ?_
  refine iw_sld (pc' := 782) hin1 (by decide +kernel) ?_
  refine iw_aloadb (i := 0) (pc' := 783) 0 rfl (by decide +kernel) ?_
  refine iw_iload_n (i := 3) (pc' := 784) 3 rfl (by decide +kernel) ?_
  refine iw_iconst (i := 2) (v := (2 : Int32)) (pc' := 785) (by decide +kernel) ?_
  refine iw_iadd (pc' := 786) (by decide +kernel) ?_
  refine iw_sld (pc' := 787) hin2 (by decide +kernel) ?_
  refine iw_aloadb (i := 0) (pc' := 788) 0 rfl (by decide +kernel) ?_
  refine iw_iload_n (i := 3) (pc' := 789) 3 rfl (by decide +kernel) ?_
  refine iw_iconst (i := 3) (v := (3 : Int32)) (pc' := 790) (by decide +kernel) ?_
  refine iw_iadd (pc' := 791) (by decide +kernel) ?_
  refine iw_sld (pc' := 792) hin3 (by decide +kernel) ?_
  refine iw_aloadb (i := 0) (pc' := 793) 0 rfl (by decide +kernel) ?_
  refine iw_iload_n (i := 3) (pc' := 794) 3 rfl (by decide +kernel) ?_
  refine iw_iconst (i := 4) (v := (4 : Int32)) (pc' := 795) (by decide +kernel) ?_
  refine iw_iadd (pc' := 796) (by decide +kernel) ?_
  refine iw_sld (pc' := 797) hin4 (by decide +kernel) ?_
  refine iw_aloadb (i := 0) (pc' := 798) 0 rfl (by decide +kernel) ?_
  refine iw_iload_n (i := 3) (pc' := 799) 3 rfl (by decide +kernel) ?_
  refine iw_iconst (i := 5) (v := (5 : Int32)) (pc' := 800) (by decide +kernel) ?_
  refine iw_iadd (pc' := 801) (by decide +kernel) ?_
  refine iw_sld (pc' := 802) hin5 (by decide +kernel) ?_
  refine iw_callV (pc' := 805) (S0 := []) (S1 := [.int v]) (c1 := 106) (s1 := 2181) (k := 5) (ct_X8_game l κ sw μ (xs (Int32.toNatClampNeg (i + (1 : Int32)))) (xs (Int32.toNatClampNeg (i + (2 : Int32)))) (xs (Int32.toNatClampNeg (i + (3 : Int32)))) (xs (Int32.toNatClampNeg (i + (4 : Int32)))) (xs (Int32.toNatClampNeg (i + (5 : Int32)))) hx) cO_1 ⟨rfl, rfl⟩ mv_X8_game llm_106 ⟨rfl, rfl⟩ (ic_sum8 trivial (Nat.le_of_ble_eq_true rfl)) (by unfold ic_rm; decide +kernel) ⟨rfl, rfl, rfl⟩ (by decide) ?_
  refine iw_aload_n (i := 2) (pc' := 806) 2 rfl (by decide +kernel) ?_
  refine iw_aloadb (i := 0) (pc' := 807) 0 rfl (by decide +kernel) ?_
  refine iw_iload_n (i := 3) (pc' := 808) 3 rfl (by decide +kernel) ?_
  refine iw_iconst (i := 1) (v := (1 : Int32)) (pc' := 809) (by decide +kernel) ?_
  refine iw_iadd (pc' := 810) (by decide +kernel) ?_
  refine iw_sld (pc' := 811) hin1 (by decide +kernel) ?_
  refine iw_aloadb (i := 0) (pc' := 812) 0 rfl (by decide +kernel) ?_
  refine iw_iload_n (i := 3) (pc' := 813) 3 rfl (by decide +kernel) ?_
  refine iw_iconst (i := 2) (v := (2 : Int32)) (pc' := 814) (by decide +kernel) ?_
  refine iw_iadd (pc' := 815) (by decide +kernel) ?_
  refine iw_sld (pc' := 816) hin2 (by decide +kernel) ?_
  refine iw_aloadb (i := 0) (pc' := 817) 0 rfl (by decide +kernel) ?_
  refine iw_iload_n (i := 3) (pc' := 818) 3 rfl (by decide +kernel) ?_
  refine iw_iconst (i := 3) (v := (3 : Int32)) (pc' := 819) (by decide +kernel) ?_
  refine iw_iadd (pc' := 820) (by decide +kernel) ?_
  refine iw_sld (pc' := 821) hin3 (by decide +kernel) ?_
  refine iw_aloadb (i := 0) (pc' := 822) 0 rfl (by decide +kernel) ?_
  refine iw_iload_n (i := 3) (pc' := 823) 3 rfl (by decide +kernel) ?_
  refine iw_iconst (i := 4) (v := (4 : Int32)) (pc' := 824) (by decide +kernel) ?_
  refine iw_iadd (pc' := 825) (by decide +kernel) ?_
  refine iw_sld (pc' := 826) hin4 (by decide +kernel) ?_
  refine iw_aloadb (i := 0) (pc' := 827) 0 rfl (by decide +kernel) ?_
  refine iw_iload_n (i := 3) (pc' := 828) 3 rfl (by decide +kernel) ?_
  refine iw_iconst (i := 5) (v := (5 : Int32)) (pc' := 829) (by decide +kernel) ?_
  refine iw_iadd (pc' := 830) (by decide +kernel) ?_
  refine iw_sld (pc' := 831) hin5 (by decide +kernel) ?_
  refine iw_callV (pc' := 834) (S0 := [.int v]) (S1 := [.int v, .int v]) (c1 := 106) (s1 := 2181) (k := 5) (ct_X9_game l κ sw μ (xs (Int32.toNatClampNeg (i + (1 : Int32)))) (xs (Int32.toNatClampNeg (i + (2 : Int32)))) (xs (Int32.toNatClampNeg (i + (3 : Int32)))) (xs (Int32.toNatClampNeg (i + (4 : Int32)))) (xs (Int32.toNatClampNeg (i + (5 : Int32)))) hm) cO_90 ⟨rfl, rfl⟩ mv_X9_game llm_110 ⟨rfl, rfl⟩ (ic_sum8 ⟨rfl, trivial⟩ (Nat.le_of_ble_eq_true rfl)) (by unfold ic_rm; decide +kernel) ⟨rfl, rfl, rfl⟩ (by decide) ?_
  refine iw_eqT (off := 284) (tg := 1118) (pc' := 837) (by decide +kernel) ?_
  exact next sw μ hI2
set_option maxRecDepth 100000 in
set_option maxHeartbeats 4000000 in
theorem lc_tolls {l : Launch} {κ : ic_K} {b Ls : Nat} {xs : Nat → Int32} {i : Int32} {sw : Nat} {μ : ic_M} (hI : ic_I sw μ) (hin1 : vp_in (i + (1 : Int32)) Ls) (hin2 : vp_in (i + (2 : Int32)) Ls) (hin3 : vp_in (i + (3 : Int32)) Ls) (hin4 : vp_in (i + (4 : Int32)) Ls) (hin5 : vp_in (i + (5 : Int32)) Ls) (next : ∀ (sw : Nat) (μ : ic_M), ic_I sw μ → ic_W l κ ic_law (ic_XL κ b Ls xs) ic_ZL 1118 [(0, .ref b), (1, ic_rv κ.1 1), (2, ic_rv κ.1 90), (3, .int i)] [] 106 (ic_rs sw) μ 106 2181) : ic_W l κ ic_law (ic_XL κ b Ls xs) ic_ZL 839 [(0, .ref b), (1, ic_rv κ.1 1), (2, ic_rv κ.1 90), (3, .int i)] [] 106 (ic_rs sw) μ 106 2181 := by
  obtain ⟨v, hx, hm, hI2⟩ := pu_tolls hI (xs (Int32.toNatClampNeg (i + (1 : Int32)))) (xs (Int32.toNatClampNeg (i + (2 : Int32))))
  refine iw_aload_n (i := 1) (pc' := 840) 1 rfl (by decide +kernel) ?_
  refine iw_aloadb (i := 0) (pc' := 841) 0 rfl (by decide +kernel) ?_
  refine iw_iload_n (i := 3) (pc' := 842) 3 rfl (by decide +kernel) ?_
  refine iw_iconst (i := 1) (v := (1 : Int32)) (pc' := 843) (by decide +kernel) ?_
  refine iw_iadd (pc' := 844) (by decide +kernel) ?_
  refine iw_sld (pc' := 845) hin1 (by decide +kernel) ?_
  refine iw_aloadb (i := 0) (pc' := 846) 0 rfl (by decide +kernel) ?_
  refine iw_iload_n (i := 3) (pc' := 847) 3 rfl (by decide +kernel) ?_
  refine iw_iconst (i := 2) (v := (2 : Int32)) (pc' := 848) (by decide +kernel) ?_
  refine iw_iadd (pc' := 849) (by decide +kernel) ?_
  refine iw_sld (pc' := 850) hin2 (by decide +kernel) ?_
  refine iw_callV (pc' := 853) (S0 := []) (S1 := [.int v]) (c1 := 106) (s1 := 2181) (k := 2) (ct_X8_tolls l κ sw μ (xs (Int32.toNatClampNeg (i + (1 : Int32)))) (xs (Int32.toNatClampNeg (i + (2 : Int32)))) hx) cO_1 ⟨rfl, rfl⟩ mv_X8_tolls llm_111 ⟨rfl, rfl⟩ (ic_sum8 trivial (Nat.le_of_ble_eq_true rfl)) (by unfold ic_rm; decide +kernel) ⟨rfl, rfl, rfl⟩ (by decide) ?_
  refine iw_aload_n (i := 2) (pc' := 854) 2 rfl (by decide +kernel) ?_
  refine iw_aloadb (i := 0) (pc' := 855) 0 rfl (by decide +kernel) ?_
  refine iw_iload_n (i := 3) (pc' := 856) 3 rfl (by decide +kernel) ?_
  refine iw_iconst (i := 1) (v := (1 : Int32)) (pc' := 857) (by decide +kernel) ?_
  refine iw_iadd (pc' := 858) (by decide +kernel) ?_
  refine iw_sld (pc' := 859) hin1 (by decide +kernel) ?_
  refine iw_aloadb (i := 0) (pc' := 860) 0 rfl (by decide +kernel) ?_
  refine iw_iload_n (i := 3) (pc' := 861) 3 rfl (by decide +kernel) ?_
  refine iw_iconst (i := 2) (v := (2 : Int32)) (pc' := 862) (by decide +kernel) ?_
  refine iw_iadd (pc' := 863) (by decide +kernel) ?_
  refine iw_sld (pc' := 864) hin2 (by decide +kernel) ?_
  refine iw_callV (pc' := 867) (S0 := [.int v]) (S1 := [.int v, .int v]) (c1 := 106) (s1 := 2181) (k := 2) (ct_X9_tolls l κ sw μ (xs (Int32.toNatClampNeg (i + (1 : Int32)))) (xs (Int32.toNatClampNeg (i + (2 : Int32)))) hm) cO_90 ⟨rfl, rfl⟩ mv_X9_tolls llm_114 ⟨rfl, rfl⟩ (ic_sum8 ⟨rfl, trivial⟩ (Nat.le_of_ble_eq_true rfl)) (by unfold ic_rm; decide +kernel) ⟨rfl, rfl, rfl⟩ (by decide) ?_
  refine iw_eqT (off := 251) (tg := 1118) (pc' := 870) (by decide +kernel) ?_
  exact next sw μ hI2
set_option maxRecDepth 100000 in
set_option maxHeartbeats 4000000 in
theorem lc_thaw {l : Launch} {κ : ic_K} {b Ls : Nat} {xs : Nat → Int32} {i : Int32} {sw : Nat} {μ : ic_M} (hI : ic_I sw μ) (hin1 : vp_in (i + (1 : Int32)) Ls) (hin2 : vp_in (i + (2 : Int32)) Ls) (hin3 : vp_in (i + (3 : Int32)) Ls) (hin4 : vp_in (i + (4 : Int32)) Ls) (hin5 : vp_in (i + (5 : Int32)) Ls) (next : ∀ (sw : Nat) (μ : ic_M), ic_I sw μ → ic_W l κ ic_law (ic_XL κ b Ls xs) ic_ZL 1118 [(0, .ref b), (1, ic_rv κ.1 1), (2, ic_rv κ.1 90), (3, .int i)] [] 106 (ic_rs sw) μ 106 2181) : ic_W l κ ic_law (ic_XL κ b Ls xs) ic_ZL 872 [(0, .ref b), (1, ic_rv κ.1 1), (2, ic_rv κ.1 90), (3, .int i)] [] 106 (ic_rs sw) μ 106 2181 := by
  obtain ⟨v, hx, hm, hI2⟩ := pu_thaw hI (xs (Int32.toNatClampNeg (i + (1 : Int32)))) (xs (Int32.toNatClampNeg (i + (2 : Int32))))
  refine iw_aload_n (i := 1) (pc' := 873) 1 rfl (by decide +kernel) ?_
  refine iw_aloadb (i := 0) (pc' := 874) 0 rfl (by decide +kernel) ?_
  refine iw_iload_n (i := 3) (pc' := 875) 3 rfl (by decide +kernel) ?_
  refine iw_iconst (i := 1) (v := (1 : Int32)) (pc' := 876) (by decide +kernel) ?_
  refine iw_iadd (pc' := 877) (by decide +kernel) ?_
  refine iw_sld (pc' := 878) hin1 (by decide +kernel) ?_
  refine iw_aloadb (i := 0) (pc' := 879) 0 rfl (by decide +kernel) ?_
  refine iw_iload_n (i := 3) (pc' := 880) 3 rfl (by decide +kernel) ?_
  refine iw_iconst (i := 2) (v := (2 : Int32)) (pc' := 881) (by decide +kernel) ?_
  refine iw_iadd (pc' := 882) (by decide +kernel) ?_
  refine iw_sld (pc' := 883) hin2 (by decide +kernel) ?_
  refine iw_callV (pc' := 886) (S0 := []) (S1 := [.int v]) (c1 := 106) (s1 := 2181) (k := 2) (ct_X8_thaw l κ sw μ (xs (Int32.toNatClampNeg (i + (1 : Int32)))) (xs (Int32.toNatClampNeg (i + (2 : Int32)))) hx) cO_1 ⟨rfl, rfl⟩ mv_X8_thaw llm_115 ⟨rfl, rfl⟩ (ic_sum8 trivial (Nat.le_of_ble_eq_true rfl)) (by unfold ic_rm; decide +kernel) ⟨rfl, rfl, rfl⟩ (by decide) ?_
  refine iw_aload_n (i := 2) (pc' := 887) 2 rfl (by decide +kernel) ?_
  refine iw_aloadb (i := 0) (pc' := 888) 0 rfl (by decide +kernel) ?_
  refine iw_iload_n (i := 3) (pc' := 889) 3 rfl (by decide +kernel) ?_
  refine iw_iconst (i := 1) (v := (1 : Int32)) (pc' := 890) (by decide +kernel) ?_
  refine iw_iadd (pc' := 891) (by decide +kernel) ?_
  refine iw_sld (pc' := 892) hin1 (by decide +kernel) ?_
  refine iw_aloadb (i := 0) (pc' := 893) 0 rfl (by decide +kernel) ?_
  refine iw_iload_n (i := 3) (pc' := 894) 3 rfl (by decide +kernel) ?_
  refine iw_iconst (i := 2) (v := (2 : Int32)) (pc' := 895) (by decide +kernel) ?_
  refine iw_iadd (pc' := 896) (by decide +kernel) ?_
  refine iw_sld (pc' := 897) hin2 (by decide +kernel) ?_
  refine iw_callV (pc' := 900) (S0 := [.int v]) (S1 := [.int v, .int v]) (c1 := 106) (s1 := 2181) (k := 2) (ct_X9_thaw l κ sw μ (xs (Int32.toNatClampNeg (i + (1 : Int32)))) (xs (Int32.toNatClampNeg (i + (2 : Int32)))) hm) cO_90 ⟨rfl, rfl⟩ mv_X9_thaw llm_118 ⟨rfl, rfl⟩ (ic_sum8 ⟨rfl, trivial⟩ (Nat.le_of_ble_eq_true rfl)) (by unfold ic_rm; decide +kernel) ⟨rfl, rfl, rfl⟩ (by decide) ?_
  refine iw_eqT (off := 218) (tg := 1118) (pc' := 903) (by decide +kernel) ?_
  exact next sw μ hI2
set_option maxRecDepth 100000 in
set_option maxHeartbeats 4000000 in
theorem lc_see {l : Launch} {κ : ic_K} {b Ls : Nat} {xs : Nat → Int32} {i : Int32} {sw : Nat} {μ : ic_M} (hI : ic_I sw μ) (hin1 : vp_in (i + (1 : Int32)) Ls) (hin2 : vp_in (i + (2 : Int32)) Ls) (hin3 : vp_in (i + (3 : Int32)) Ls) (hin4 : vp_in (i + (4 : Int32)) Ls) (hin5 : vp_in (i + (5 : Int32)) Ls) (next : ∀ (sw : Nat) (μ : ic_M), ic_I sw μ → ic_W l κ ic_law (ic_XL κ b Ls xs) ic_ZL 1118 [(0, .ref b), (1, ic_rv κ.1 1), (2, ic_rv κ.1 90), (3, .int i)] [] 106 (ic_rs sw) μ 106 2181) : ic_W l κ ic_law (ic_XL κ b Ls xs) ic_ZL 905 [(0, .ref b), (1, ic_rv κ.1 1), (2, ic_rv κ.1 90), (3, .int i)] [] 106 (ic_rs sw) μ 106 2181 := by
  obtain ⟨v, μ1, μ2, hx, hm, hI2⟩ := pu_see hI (xs (Int32.toNatClampNeg (i + (1 : Int32)))) (ic_nz (xs (Int32.toNatClampNeg (i + (2 : Int32))))) (ic_nz_b _)
  refine iw_aload_n (i := 1) (pc' := 906) 1 rfl (by decide +kernel) ?_
  refine iw_aloadb (i := 0) (pc' := 907) 0 rfl (by decide +kernel) ?_
  refine iw_iload_n (i := 3) (pc' := 908) 3 rfl (by decide +kernel) ?_
  refine iw_iconst (i := 1) (v := (1 : Int32)) (pc' := 909) (by decide +kernel) ?_
  refine iw_iadd (pc' := 910) (by decide +kernel) ?_
  refine iw_sld (pc' := 911) hin1 (by decide +kernel) ?_
  refine iw_aloadb (i := 0) (pc' := 912) 0 rfl (by decide +kernel) ?_
  refine iw_iload_n (i := 3) (pc' := 913) 3 rfl (by decide +kernel) ?_
  refine iw_iconst (i := 2) (v := (2 : Int32)) (pc' := 914) (by decide +kernel) ?_
  refine iw_iadd (pc' := 915) (by decide +kernel) ?_
  refine iw_sld (pc' := 916) hin2 (by decide +kernel) ?_
  refine iw_nz (tg := 923) (pc1 := 919) (pc2 := 920) (pc3 := 924) (off := 7) (off2 := 4) (by decide +kernel) ?_
  refine iw_callV (pc' := 927) (S0 := []) (S1 := [.int v]) (c1 := 106) (s1 := 2181) (k := 2) (ct_X8_see l κ sw μ (xs (Int32.toNatClampNeg (i + (1 : Int32)))) (ic_nz (xs (Int32.toNatClampNeg (i + (2 : Int32))))) hx) cO_1 ⟨rfl, rfl⟩ mv_X8_see llm_119 ⟨rfl, rfl⟩ (ic_sum8 trivial (Nat.le_of_ble_eq_true rfl)) (by unfold ic_rm; decide +kernel) ⟨rfl, rfl, rfl⟩ (by decide) ?_
  refine iw_aload_n (i := 2) (pc' := 928) 2 rfl (by decide +kernel) ?_
  refine iw_aloadb (i := 0) (pc' := 929) 0 rfl (by decide +kernel) ?_
  refine iw_iload_n (i := 3) (pc' := 930) 3 rfl (by decide +kernel) ?_
  refine iw_iconst (i := 1) (v := (1 : Int32)) (pc' := 931) (by decide +kernel) ?_
  refine iw_iadd (pc' := 932) (by decide +kernel) ?_
  refine iw_sld (pc' := 933) hin1 (by decide +kernel) ?_
  refine iw_aloadb (i := 0) (pc' := 934) 0 rfl (by decide +kernel) ?_
  refine iw_iload_n (i := 3) (pc' := 935) 3 rfl (by decide +kernel) ?_
  refine iw_iconst (i := 2) (v := (2 : Int32)) (pc' := 936) (by decide +kernel) ?_
  refine iw_iadd (pc' := 937) (by decide +kernel) ?_
  refine iw_sld (pc' := 938) hin2 (by decide +kernel) ?_
  refine iw_nz (tg := 945) (pc1 := 941) (pc2 := 942) (pc3 := 946) (off := 7) (off2 := 4) (by decide +kernel) ?_
  refine iw_callV (pc' := 949) (S0 := [.int v]) (S1 := [.int v, .int v]) (c1 := 106) (s1 := 2181) (k := 2) (ct_X9_see l κ sw μ1 (xs (Int32.toNatClampNeg (i + (1 : Int32)))) (ic_nz (xs (Int32.toNatClampNeg (i + (2 : Int32))))) hm) cO_90 ⟨rfl, rfl⟩ mv_X9_see llm_122 ⟨rfl, rfl⟩ (ic_sum8 ⟨rfl, trivial⟩ (Nat.le_of_ble_eq_true rfl)) (by unfold ic_rm; decide +kernel) ⟨rfl, rfl, rfl⟩ (by decide) ?_
  refine iw_eqT (off := 169) (tg := 1118) (pc' := 952) (by decide +kernel) ?_
  exact next sw μ2 hI2
set_option maxRecDepth 100000 in
set_option maxHeartbeats 4000000 in
theorem lc_who {l : Launch} {κ : ic_K} {b Ls : Nat} {xs : Nat → Int32} {i : Int32} {sw : Nat} {μ : ic_M} (hI : ic_I sw μ) (hin1 : vp_in (i + (1 : Int32)) Ls) (hin2 : vp_in (i + (2 : Int32)) Ls) (hin3 : vp_in (i + (3 : Int32)) Ls) (hin4 : vp_in (i + (4 : Int32)) Ls) (hin5 : vp_in (i + (5 : Int32)) Ls) (next : ∀ (sw : Nat) (μ : ic_M), ic_I sw μ → ic_W l κ ic_law (ic_XL κ b Ls xs) ic_ZL 1118 [(0, .ref b), (1, ic_rv κ.1 1), (2, ic_rv κ.1 90), (3, .int i)] [] 106 (ic_rs sw) μ 106 2181) : ic_W l κ ic_law (ic_XL κ b Ls xs) ic_ZL 954 [(0, .ref b), (1, ic_rv κ.1 1), (2, ic_rv κ.1 90), (3, .int i)] [] 106 (ic_rs sw) μ 106 2181 := by
  obtain ⟨v, μ1, hx, hm, hI2⟩ := pu_who hI (xs (Int32.toNatClampNeg (i + (1 : Int32))))
  refine iw_aload_n (i := 1) (pc' := 955) 1 rfl (by decide +kernel) ?_
  refine iw_aloadb (i := 0) (pc' := 956) 0 rfl (by decide +kernel) ?_
  refine iw_iload_n (i := 3) (pc' := 957) 3 rfl (by decide +kernel) ?_
  refine iw_iconst (i := 1) (v := (1 : Int32)) (pc' := 958) (by decide +kernel) ?_
  refine iw_iadd (pc' := 959) (by decide +kernel) ?_
  refine iw_sld (pc' := 960) hin1 (by decide +kernel) ?_
  refine iw_callV (pc' := 963) (S0 := []) (S1 := [.int v]) (c1 := 106) (s1 := 2181) (k := 1) (ct_X8_who l κ sw μ (xs (Int32.toNatClampNeg (i + (1 : Int32)))) hx) cO_1 ⟨rfl, rfl⟩ mv_X8_who llm_123 ⟨rfl, rfl⟩ (ic_sum8 trivial (Nat.le_of_ble_eq_true rfl)) (by unfold ic_rm; decide +kernel) ⟨rfl, rfl, rfl⟩ (by decide) ?_
  refine iw_aload_n (i := 2) (pc' := 964) 2 rfl (by decide +kernel) ?_
  refine iw_aloadb (i := 0) (pc' := 965) 0 rfl (by decide +kernel) ?_
  refine iw_iload_n (i := 3) (pc' := 966) 3 rfl (by decide +kernel) ?_
  refine iw_iconst (i := 1) (v := (1 : Int32)) (pc' := 967) (by decide +kernel) ?_
  refine iw_iadd (pc' := 968) (by decide +kernel) ?_
  refine iw_sld (pc' := 969) hin1 (by decide +kernel) ?_
  refine iw_callV (pc' := 972) (S0 := [.int v]) (S1 := [.int v, .int v]) (c1 := 106) (s1 := 2181) (k := 1) (ct_X9_who l κ sw μ1 (xs (Int32.toNatClampNeg (i + (1 : Int32)))) hm) cO_90 ⟨rfl, rfl⟩ mv_X9_who llm_126 ⟨rfl, rfl⟩ (ic_sum8 ⟨rfl, trivial⟩ (Nat.le_of_ble_eq_true rfl)) (by unfold ic_rm; decide +kernel) ⟨rfl, rfl, rfl⟩ (by decide) ?_
  refine iw_eqT (off := 146) (tg := 1118) (pc' := 975) (by decide +kernel) ?_
  exact next sw μ1 hI2
set_option maxRecDepth 100000 in
set_option maxHeartbeats 4000000 in
theorem lc_ask {l : Launch} {κ : ic_K} {b Ls : Nat} {xs : Nat → Int32} {i : Int32} {sw : Nat} {μ : ic_M} (hI : ic_I sw μ) (hin1 : vp_in (i + (1 : Int32)) Ls) (hin2 : vp_in (i + (2 : Int32)) Ls) (hin3 : vp_in (i + (3 : Int32)) Ls) (hin4 : vp_in (i + (4 : Int32)) Ls) (hin5 : vp_in (i + (5 : Int32)) Ls) (next : ∀ (sw : Nat) (μ : ic_M), ic_I sw μ → ic_W l κ ic_law (ic_XL κ b Ls xs) ic_ZL 1118 [(0, .ref b), (1, ic_rv κ.1 1), (2, ic_rv κ.1 90), (3, .int i)] [] 106 (ic_rs sw) μ 106 2181) : ic_W l κ ic_law (ic_XL κ b Ls xs) ic_ZL 977 [(0, .ref b), (1, ic_rv κ.1 1), (2, ic_rv κ.1 90), (3, .int i)] [] 106 (ic_rs sw) μ 106 2181 := by
  obtain ⟨v, μ1, hx, hm, hI2⟩ := pu_ask hI
  refine iw_aload_n (i := 1) (pc' := 978) 1 rfl (by decide +kernel) ?_
  refine iw_callV (pc' := 981) (S0 := []) (S1 := [.int v]) (c1 := 106) (s1 := 2181) (k := 0) (ct_X8_ask l κ sw μ hx) cO_1 ⟨rfl, rfl⟩ mv_X8_ask llm_127 ⟨rfl, rfl⟩ (ic_sum8 trivial (Nat.le_of_ble_eq_true rfl)) (by unfold ic_rm; decide +kernel) ⟨rfl, rfl, rfl⟩ (by decide) ?_
  refine iw_aload_n (i := 2) (pc' := 982) 2 rfl (by decide +kernel) ?_
  refine iw_callV (pc' := 985) (S0 := [.int v]) (S1 := [.int v, .int v]) (c1 := 106) (s1 := 2181) (k := 0) (ct_X9_ask l κ sw μ1 hm) cO_90 ⟨rfl, rfl⟩ mv_X9_ask llm_130 ⟨rfl, rfl⟩ (ic_sum8 ⟨rfl, trivial⟩ (Nat.le_of_ble_eq_true rfl)) (by unfold ic_rm; decide +kernel) ⟨rfl, rfl, rfl⟩ (by decide) ?_
  refine iw_eqT (off := 133) (tg := 1118) (pc' := 988) (by decide +kernel) ?_
  exact next sw μ1 hI2
set_option maxRecDepth 100000 in
set_option maxHeartbeats 4000000 in
theorem lc_write {l : Launch} {κ : ic_K} {b Ls : Nat} {xs : Nat → Int32} {i : Int32} {sw : Nat} {μ : ic_M} (hI : ic_I sw μ) (hin1 : vp_in (i + (1 : Int32)) Ls) (hin2 : vp_in (i + (2 : Int32)) Ls) (hin3 : vp_in (i + (3 : Int32)) Ls) (hin4 : vp_in (i + (4 : Int32)) Ls) (hin5 : vp_in (i + (5 : Int32)) Ls) (next : ∀ (sw : Nat) (μ : ic_M), ic_I sw μ → ic_W l κ ic_law (ic_XL κ b Ls xs) ic_ZL 1118 [(0, .ref b), (1, ic_rv κ.1 1), (2, ic_rv κ.1 90), (3, .int i)] [] 106 (ic_rs sw) μ 106 2181) : ic_W l κ ic_law (ic_XL κ b Ls xs) ic_ZL 990 [(0, .ref b), (1, ic_rv κ.1 1), (2, ic_rv κ.1 90), (3, .int i)] [] 106 (ic_rs sw) μ 106 2181 := by
  obtain ⟨v, μ1, μ2, hx, hm, hI2⟩ := pu_write hI (xs (Int32.toNatClampNeg (i + (1 : Int32)))) (xs (Int32.toNatClampNeg (i + (2 : Int32))))
  refine iw_aload_n (i := 1) (pc' := 991) 1 rfl (by decide +kernel) ?_
  refine iw_aloadb (i := 0) (pc' := 992) 0 rfl (by decide +kernel) ?_
  refine iw_iload_n (i := 3) (pc' := 993) 3 rfl (by decide +kernel) ?_
  refine iw_iconst (i := 1) (v := (1 : Int32)) (pc' := 994) (by decide +kernel) ?_
  refine iw_iadd (pc' := 995) (by decide +kernel) ?_
  refine iw_sld (pc' := 996) hin1 (by decide +kernel) ?_
  refine iw_aloadb (i := 0) (pc' := 997) 0 rfl (by decide +kernel) ?_
  refine iw_iload_n (i := 3) (pc' := 998) 3 rfl (by decide +kernel) ?_
  refine iw_iconst (i := 2) (v := (2 : Int32)) (pc' := 999) (by decide +kernel) ?_
  refine iw_iadd (pc' := 1000) (by decide +kernel) ?_
  refine iw_sld (pc' := 1001) hin2 (by decide +kernel) ?_
  refine iw_callV (pc' := 1004) (S0 := []) (S1 := [.int v]) (c1 := 106) (s1 := 2181) (k := 2) (ct_X8_write l κ sw μ (xs (Int32.toNatClampNeg (i + (1 : Int32)))) (xs (Int32.toNatClampNeg (i + (2 : Int32)))) hx) cO_1 ⟨rfl, rfl⟩ mv_X8_write llm_131 ⟨rfl, rfl⟩ (ic_sum8 trivial (Nat.le_of_ble_eq_true rfl)) (by unfold ic_rm; decide +kernel) ⟨rfl, rfl, rfl⟩ (by decide) ?_
  refine iw_aload_n (i := 2) (pc' := 1005) 2 rfl (by decide +kernel) ?_
  refine iw_aloadb (i := 0) (pc' := 1006) 0 rfl (by decide +kernel) ?_
  refine iw_iload_n (i := 3) (pc' := 1007) 3 rfl (by decide +kernel) ?_
  refine iw_iconst (i := 1) (v := (1 : Int32)) (pc' := 1008) (by decide +kernel) ?_
  refine iw_iadd (pc' := 1009) (by decide +kernel) ?_
  refine iw_sld (pc' := 1010) hin1 (by decide +kernel) ?_
  refine iw_aloadb (i := 0) (pc' := 1011) 0 rfl (by decide +kernel) ?_
  refine iw_iload_n (i := 3) (pc' := 1012) 3 rfl (by decide +kernel) ?_
  refine iw_iconst (i := 2) (v := (2 : Int32)) (pc' := 1013) (by decide +kernel) ?_
  refine iw_iadd (pc' := 1014) (by decide +kernel) ?_
  refine iw_sld (pc' := 1015) hin2 (by decide +kernel) ?_
  refine iw_callV (pc' := 1018) (S0 := [.int v]) (S1 := [.int v, .int v]) (c1 := 106) (s1 := 2181) (k := 2) (ct_X9_write l κ sw μ1 (xs (Int32.toNatClampNeg (i + (1 : Int32)))) (xs (Int32.toNatClampNeg (i + (2 : Int32)))) hm) cO_90 ⟨rfl, rfl⟩ mv_X9_write llm_134 ⟨rfl, rfl⟩ (ic_sum8 ⟨rfl, trivial⟩ (Nat.le_of_ble_eq_true rfl)) (by unfold ic_rm; decide +kernel) ⟨rfl, rfl, rfl⟩ (by decide) ?_
  refine iw_eqT (off := 100) (tg := 1118) (pc' := 1021) (by decide +kernel) ?_
  exact next sw μ2 hI2
set_option maxRecDepth 100000 in
set_option maxHeartbeats 4000000 in
theorem lc_tear {l : Launch} {κ : ic_K} {b Ls : Nat} {xs : Nat → Int32} {i : Int32} {sw : Nat} {μ : ic_M} (hI : ic_I sw μ) (hin1 : vp_in (i + (1 : Int32)) Ls) (hin2 : vp_in (i + (2 : Int32)) Ls) (hin3 : vp_in (i + (3 : Int32)) Ls) (hin4 : vp_in (i + (4 : Int32)) Ls) (hin5 : vp_in (i + (5 : Int32)) Ls) (next : ∀ (sw : Nat) (μ : ic_M), ic_I sw μ → ic_W l κ ic_law (ic_XL κ b Ls xs) ic_ZL 1118 [(0, .ref b), (1, ic_rv κ.1 1), (2, ic_rv κ.1 90), (3, .int i)] [] 106 (ic_rs sw) μ 106 2181) : ic_W l κ ic_law (ic_XL κ b Ls xs) ic_ZL 1023 [(0, .ref b), (1, ic_rv κ.1 1), (2, ic_rv κ.1 90), (3, .int i)] [] 106 (ic_rs sw) μ 106 2181 := by
  obtain ⟨v, μ1, μ2, hx, hm, hI2⟩ := pu_tear hI
  refine iw_aload_n (i := 1) (pc' := 1024) 1 rfl (by decide +kernel) ?_
  refine iw_callV (pc' := 1027) (S0 := []) (S1 := [.int v]) (c1 := 106) (s1 := 2181) (k := 0) (ct_X8_tear l κ sw μ hx) cO_1 ⟨rfl, rfl⟩ mv_X8_tear llm_135 ⟨rfl, rfl⟩ (ic_sum8 trivial (Nat.le_of_ble_eq_true rfl)) (by unfold ic_rm; decide +kernel) ⟨rfl, rfl, rfl⟩ (by decide) ?_
  refine iw_aload_n (i := 2) (pc' := 1028) 2 rfl (by decide +kernel) ?_
  refine iw_callV (pc' := 1031) (S0 := [.int v]) (S1 := [.int v, .int v]) (c1 := 106) (s1 := 2181) (k := 0) (ct_X9_tear l κ sw μ1 hm) cO_90 ⟨rfl, rfl⟩ mv_X9_tear llm_138 ⟨rfl, rfl⟩ (ic_sum8 ⟨rfl, trivial⟩ (Nat.le_of_ble_eq_true rfl)) (by unfold ic_rm; decide +kernel) ⟨rfl, rfl, rfl⟩ (by decide) ?_
  refine iw_eqT (off := 87) (tg := 1118) (pc' := 1034) (by decide +kernel) ?_
  exact next sw μ2 hI2
set_option maxRecDepth 100000 in
set_option maxHeartbeats 4000000 in
theorem lc_judge {l : Launch} {κ : ic_K} {b Ls : Nat} {xs : Nat → Int32} {i : Int32} {sw : Nat} {μ : ic_M} (hI : ic_I sw μ) (hin1 : vp_in (i + (1 : Int32)) Ls) (hin2 : vp_in (i + (2 : Int32)) Ls) (hin3 : vp_in (i + (3 : Int32)) Ls) (hin4 : vp_in (i + (4 : Int32)) Ls) (hin5 : vp_in (i + (5 : Int32)) Ls) (next : ∀ (sw : Nat) (μ : ic_M), ic_I sw μ → ic_W l κ ic_law (ic_XL κ b Ls xs) ic_ZL 1118 [(0, .ref b), (1, ic_rv κ.1 1), (2, ic_rv κ.1 90), (3, .int i)] [] 106 (ic_rs sw) μ 106 2181) : ic_W l κ ic_law (ic_XL κ b Ls xs) ic_ZL 1036 [(0, .ref b), (1, ic_rv κ.1 1), (2, ic_rv κ.1 90), (3, .int i)] [] 106 (ic_rs sw) μ 106 2181 := by
  obtain ⟨v, hx, hm, hI2⟩ := pu_judge hI
  refine iw_aload_n (i := 1) (pc' := 1037) 1 rfl (by decide +kernel) ?_
  refine iw_callV (pc' := 1040) (S0 := []) (S1 := [.int v]) (c1 := 106) (s1 := 2181) (k := 0) (ct_X8_judge l κ sw μ hx) cO_1 ⟨rfl, rfl⟩ mv_X8_judge llm_139 ⟨rfl, rfl⟩ (ic_sum8 trivial (Nat.le_of_ble_eq_true rfl)) (by unfold ic_rm; decide +kernel) ⟨rfl, rfl, rfl⟩ (by decide) ?_
  refine iw_aload_n (i := 2) (pc' := 1041) 2 rfl (by decide +kernel) ?_
  refine iw_callV (pc' := 1044) (S0 := [.int v]) (S1 := [.int v, .int v]) (c1 := 106) (s1 := 2181) (k := 0) (ct_X9_judge l κ sw μ hm) cO_90 ⟨rfl, rfl⟩ mv_X9_judge llm_142 ⟨rfl, rfl⟩ (ic_sum8 ⟨rfl, trivial⟩ (Nat.le_of_ble_eq_true rfl)) (by unfold ic_rm; decide +kernel) ⟨rfl, rfl, rfl⟩ (by decide) ?_
  refine iw_eqT (off := 74) (tg := 1118) (pc' := 1047) (by decide +kernel) ?_
  exact next sw μ hI2
set_option maxRecDepth 100000 in
set_option maxHeartbeats 4000000 in
theorem lc_seed {l : Launch} {κ : ic_K} {b Ls : Nat} {xs : Nat → Int32} {i : Int32} {sw : Nat} {μ : ic_M} (hI : ic_I sw μ) (hin1 : vp_in (i + (1 : Int32)) Ls) (hin2 : vp_in (i + (2 : Int32)) Ls) (hin3 : vp_in (i + (3 : Int32)) Ls) (hin4 : vp_in (i + (4 : Int32)) Ls) (hin5 : vp_in (i + (5 : Int32)) Ls) (next : ∀ (sw : Nat) (μ : ic_M), ic_I sw μ → ic_W l κ ic_law (ic_XL κ b Ls xs) ic_ZL 1118 [(0, .ref b), (1, ic_rv κ.1 1), (2, ic_rv κ.1 90), (3, .int i)] [] 106 (ic_rs sw) μ 106 2181) : ic_W l κ ic_law (ic_XL κ b Ls xs) ic_ZL 1049 [(0, .ref b), (1, ic_rv κ.1 1), (2, ic_rv κ.1 90), (3, .int i)] [] 106 (ic_rs sw) μ 106 2181 := by
  obtain ⟨v, μ1, μ2, hx, hm, hI2⟩ := pu_seed hI (xs (Int32.toNatClampNeg (i + (1 : Int32))))
  refine iw_aload_n (i := 1) (pc' := 1050) 1 rfl (by decide +kernel) ?_
  refine iw_aloadb (i := 0) (pc' := 1051) 0 rfl (by decide +kernel) ?_
  refine iw_iload_n (i := 3) (pc' := 1052) 3 rfl (by decide +kernel) ?_
  refine iw_iconst (i := 1) (v := (1 : Int32)) (pc' := 1053) (by decide +kernel) ?_
  refine iw_iadd (pc' := 1054) (by decide +kernel) ?_
  refine iw_sld (pc' := 1055) hin1 (by decide +kernel) ?_
  refine iw_callV (pc' := 1058) (S0 := []) (S1 := [.int v]) (c1 := 106) (s1 := 2181) (k := 1) (ct_X8_seed l κ sw μ (xs (Int32.toNatClampNeg (i + (1 : Int32)))) hx) cO_1 ⟨rfl, rfl⟩ mv_X8_seed llm_143 ⟨rfl, rfl⟩ (ic_sum8 trivial (Nat.le_of_ble_eq_true rfl)) (by unfold ic_rm; decide +kernel) ⟨rfl, rfl, rfl⟩ (by decide) ?_
  refine iw_aload_n (i := 2) (pc' := 1059) 2 rfl (by decide +kernel) ?_
  refine iw_aloadb (i := 0) (pc' := 1060) 0 rfl (by decide +kernel) ?_
  refine iw_iload_n (i := 3) (pc' := 1061) 3 rfl (by decide +kernel) ?_
  refine iw_iconst (i := 1) (v := (1 : Int32)) (pc' := 1062) (by decide +kernel) ?_
  refine iw_iadd (pc' := 1063) (by decide +kernel) ?_
  refine iw_sld (pc' := 1064) hin1 (by decide +kernel) ?_
  refine iw_callV (pc' := 1067) (S0 := [.int v]) (S1 := [.int v, .int v]) (c1 := 106) (s1 := 2181) (k := 1) (ct_X9_seed l κ sw μ1 (xs (Int32.toNatClampNeg (i + (1 : Int32)))) hm) cO_90 ⟨rfl, rfl⟩ mv_X9_seed llm_146 ⟨rfl, rfl⟩ (ic_sum8 ⟨rfl, trivial⟩ (Nat.le_of_ble_eq_true rfl)) (by unfold ic_rm; decide +kernel) ⟨rfl, rfl, rfl⟩ (by decide) ?_
  refine iw_eqT (off := 51) (tg := 1118) (pc' := 1070) (by decide +kernel) ?_
  exact next sw μ2 hI2
set_option maxRecDepth 100000 in
set_option maxHeartbeats 4000000 in
theorem lc_keep {l : Launch} {κ : ic_K} {b Ls : Nat} {xs : Nat → Int32} {i : Int32} {sw : Nat} {μ : ic_M} (hI : ic_I sw μ) (hin1 : vp_in (i + (1 : Int32)) Ls) (hin2 : vp_in (i + (2 : Int32)) Ls) (hin3 : vp_in (i + (3 : Int32)) Ls) (hin4 : vp_in (i + (4 : Int32)) Ls) (hin5 : vp_in (i + (5 : Int32)) Ls) (next : ∀ (sw : Nat) (μ : ic_M), ic_I sw μ → ic_W l κ ic_law (ic_XL κ b Ls xs) ic_ZL 1118 [(0, .ref b), (1, ic_rv κ.1 1), (2, ic_rv κ.1 90), (3, .int i)] [] 106 (ic_rs sw) μ 106 2181) : ic_W l κ ic_law (ic_XL κ b Ls xs) ic_ZL 1072 [(0, .ref b), (1, ic_rv κ.1 1), (2, ic_rv κ.1 90), (3, .int i)] [] 106 (ic_rs sw) μ 106 2181 := by
  obtain ⟨v, μ1, μ2, hx, hm, hI2⟩ := pu_keep hI (xs (Int32.toNatClampNeg (i + (1 : Int32))))
  refine iw_aload_n (i := 1) (pc' := 1073) 1 rfl (by decide +kernel) ?_
  refine iw_aloadb (i := 0) (pc' := 1074) 0 rfl (by decide +kernel) ?_
  refine iw_iload_n (i := 3) (pc' := 1075) 3 rfl (by decide +kernel) ?_
  refine iw_iconst (i := 1) (v := (1 : Int32)) (pc' := 1076) (by decide +kernel) ?_
  refine iw_iadd (pc' := 1077) (by decide +kernel) ?_
  refine iw_sld (pc' := 1078) hin1 (by decide +kernel) ?_
  refine iw_callV (pc' := 1081) (S0 := []) (S1 := [.int v]) (c1 := 106) (s1 := 2181) (k := 1) (ct_X8_keep l κ sw μ (xs (Int32.toNatClampNeg (i + (1 : Int32)))) hx) cO_1 ⟨rfl, rfl⟩ mv_X8_keep llm_147 ⟨rfl, rfl⟩ (ic_sum8 trivial (Nat.le_of_ble_eq_true rfl)) (by unfold ic_rm; decide +kernel) ⟨rfl, rfl, rfl⟩ (by decide) ?_
  refine iw_aload_n (i := 2) (pc' := 1082) 2 rfl (by decide +kernel) ?_
  refine iw_aloadb (i := 0) (pc' := 1083) 0 rfl (by decide +kernel) ?_
  refine iw_iload_n (i := 3) (pc' := 1084) 3 rfl (by decide +kernel) ?_
  refine iw_iconst (i := 1) (v := (1 : Int32)) (pc' := 1085) (by decide +kernel) ?_
  refine iw_iadd (pc' := 1086) (by decide +kernel) ?_
  refine iw_sld (pc' := 1087) hin1 (by decide +kernel) ?_
  refine iw_callV (pc' := 1090) (S0 := [.int v]) (S1 := [.int v, .int v]) (c1 := 106) (s1 := 2181) (k := 1) (ct_X9_keep l κ sw μ1 (xs (Int32.toNatClampNeg (i + (1 : Int32)))) hm) cO_90 ⟨rfl, rfl⟩ mv_X9_keep llm_150 ⟨rfl, rfl⟩ (ic_sum8 ⟨rfl, trivial⟩ (Nat.le_of_ble_eq_true rfl)) (by unfold ic_rm; decide +kernel) ⟨rfl, rfl, rfl⟩ (by decide) ?_
  refine iw_eqT (off := 28) (tg := 1118) (pc' := 1093) (by decide +kernel) ?_
  exact next sw μ2 hI2
set_option maxRecDepth 100000 in
set_option maxHeartbeats 4000000 in
theorem lc_goBack {l : Launch} {κ : ic_K} {b Ls : Nat} {xs : Nat → Int32} {i : Int32} {sw : Nat} {μ : ic_M} (hI : ic_I sw μ) (hin1 : vp_in (i + (1 : Int32)) Ls) (hin2 : vp_in (i + (2 : Int32)) Ls) (hin3 : vp_in (i + (3 : Int32)) Ls) (hin4 : vp_in (i + (4 : Int32)) Ls) (hin5 : vp_in (i + (5 : Int32)) Ls) (next : ∀ (sw : Nat) (μ : ic_M), ic_I sw μ → ic_W l κ ic_law (ic_XL κ b Ls xs) ic_ZL 1118 [(0, .ref b), (1, ic_rv κ.1 1), (2, ic_rv κ.1 90), (3, .int i)] [] 106 (ic_rs sw) μ 106 2181) : ic_W l κ ic_law (ic_XL κ b Ls xs) ic_ZL 1095 [(0, .ref b), (1, ic_rv κ.1 1), (2, ic_rv κ.1 90), (3, .int i)] [] 106 (ic_rs sw) μ 106 2181 := by
  obtain ⟨v, μ1, μ2, hx, hm, hI2⟩ := pu_goBack hI (xs (Int32.toNatClampNeg (i + (1 : Int32))))
  refine iw_aload_n (i := 1) (pc' := 1096) 1 rfl (by decide +kernel) ?_
  refine iw_aloadb (i := 0) (pc' := 1097) 0 rfl (by decide +kernel) ?_
  refine iw_iload_n (i := 3) (pc' := 1098) 3 rfl (by decide +kernel) ?_
  refine iw_iconst (i := 1) (v := (1 : Int32)) (pc' := 1099) (by decide +kernel) ?_
  refine iw_iadd (pc' := 1100) (by decide +kernel) ?_
  refine iw_sld (pc' := 1101) hin1 (by decide +kernel) ?_
  refine iw_callV (pc' := 1104) (S0 := []) (S1 := [.int v]) (c1 := 106) (s1 := 2181) (k := 1) (ct_X8_goBack l κ sw μ (xs (Int32.toNatClampNeg (i + (1 : Int32)))) hx) cO_1 ⟨rfl, rfl⟩ mv_X8_goBack llm_151 ⟨rfl, rfl⟩ (ic_sum8 trivial (Nat.le_of_ble_eq_true rfl)) (by unfold ic_rm; decide +kernel) ⟨rfl, rfl, rfl⟩ (by decide) ?_
  refine iw_aload_n (i := 2) (pc' := 1105) 2 rfl (by decide +kernel) ?_
  refine iw_aloadb (i := 0) (pc' := 1106) 0 rfl (by decide +kernel) ?_
  refine iw_iload_n (i := 3) (pc' := 1107) 3 rfl (by decide +kernel) ?_
  refine iw_iconst (i := 1) (v := (1 : Int32)) (pc' := 1108) (by decide +kernel) ?_
  refine iw_iadd (pc' := 1109) (by decide +kernel) ?_
  refine iw_sld (pc' := 1110) hin1 (by decide +kernel) ?_
  refine iw_callV (pc' := 1113) (S0 := [.int v]) (S1 := [.int v, .int v]) (c1 := 106) (s1 := 2181) (k := 1) (ct_X9_goBack l κ sw μ1 (xs (Int32.toNatClampNeg (i + (1 : Int32)))) hm) cO_90 ⟨rfl, rfl⟩ mv_X9_goBack llm_154 ⟨rfl, rfl⟩ (ic_sum8 ⟨rfl, trivial⟩ (Nat.le_of_ble_eq_true rfl)) (by unfold ic_rm; decide +kernel) ⟨rfl, rfl, rfl⟩ (by decide) ?_
  refine iw_eqT (off := 5) (tg := 1118) (pc' := 1116) (by decide +kernel) ?_
  exact next sw μ2 hI2
