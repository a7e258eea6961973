def MX1_init : ic_Md := (yX1_init, cX1_init, 1, none, { frames := 1, cells := 2, slots := 24, locals := 20 })
theorem mi_X1_init : ic_MI MX1_init := ⟨ic_in 120 (by decide +kernel), ic_in 72 (by decide +kernel), ic_in 121 (by decide +kernel), by decide +kernel, rfl, rfl⟩
theorem lif_X1_9 : Cond.fieldLink RX1 9 RX1 (TX1 0).2.1 (TX1 0).2.2.1 ∈ ic_tb := ic_in 123 (by decide +kernel)
theorem lif_X1_15 : Cond.fieldLink RX1 15 RX1 (TX1 1).2.1 (TX1 1).2.2.1 ∈ ic_tb := ic_in 124 (by decide +kernel)
theorem lif_X1_18 : Cond.fieldLink RX1 18 RX1 (TX1 4).2.1 (TX1 4).2.2.1 ∈ ic_tb := ic_in 130 (by decide +kernel)
def gX1_init (w : ic_S) (r0 : Nat) : Option ic_S := ic_lk w r0 (0, 1) (ic_nw w 1 18 (fun w1 => ic_lk w1 r0 (0, 1) (ic_jr w1 r0 0 (w.1 + 1) (fun w3 => ic_nw w3 1 6 (fun w4 => ic_lk w4 r0 (0, 1) (ic_jr w4 r0 1 (w3.1 + 1) (fun w6 => ic_lk w6 r0 (0, 1) (ic_ji w6 r0 4 (-1 : Int32) (fun w8 => some w8)))))))))
set_option maxRecDepth 100000 in
set_option maxHeartbeats 8000000 in
theorem ct_X1_init (l : Launch) (κ : ic_K) (w : ic_S) (r0 : Nat) {R : ic_S} (hf : gX1_init w r0 = some R) : ic_C l κ MX1_init [ic_rv κ.1 r0] w.1 w.2.1 w.2.2 none R.1 R.2.1 R.2.2 := by
  refine ic_C.of (L := [(0, ic_rv κ.1 r0)]) ⟨ic_cat _ _, trivial⟩ ⟨by decide +kernel, Nat.le_of_ble_eq_true rfl⟩ rfl ?_
  unfold gX1_init at hf
  obtain ⟨h0, hf⟩ := ic_lk_of hf
  have ho : ∃ a, r0 = a + 1 := h0.imp fun a h => h.1
  refine iw_aload_n (i := 0) (pc' := 1) 0 rfl (by decide +kernel) ?_
  refine iw_obj (i := 3) (r := r0) (pc' := 4) (ic_in 122 (by decide +kernel)) (ic_in 89 (by decide +kernel)) (ic_in 90 (by decide +kernel)) ho (ic_sum8 trivial (Nat.le_of_ble_eq_true rfl)) (by decide +kernel) ?_
  refine iw_aload_n (i := 0) (pc' := 5) 0 rfl (by decide +kernel) ?_
  refine iw_bipush (i := 18) (v := (18 : Int32)) (pc' := 7) (by decide +kernel) ?_
  refine iw_newi (pc' := 9) (c1 := 1) (s1 := 18) hf (ic_in 116 (by decide +kernel)) (by decide +kernel) (by decide +kernel) (fun w1 hf => ?_)
  obtain ⟨h2, hf⟩ := ic_lk_of hf
  refine iw_jputr (pc' := 12) hf ic_fk1 h2 lif_X1_9 ic_fitA (by decide +kernel) (fun w3 hf => ?_)
  refine iw_aload_n (i := 0) (pc' := 13) 0 rfl (by decide +kernel) ?_
  refine iw_bipush (i := 6) (v := (6 : Int32)) (pc' := 15) (by decide +kernel) ?_
  refine iw_newi (pc' := 17) (c1 := 2) (s1 := 24) hf (ic_in 116 (by decide +kernel)) (by decide +kernel) (by decide +kernel) (fun w4 hf => ?_)
  obtain ⟨h5, hf⟩ := ic_lk_of hf
  refine iw_jputr (pc' := 20) hf ic_fk1 h5 lif_X1_15 ic_fitA (by decide +kernel) (fun w6 hf => ?_)
  refine iw_aload_n (i := 0) (pc' := 21) 0 rfl (by decide +kernel) ?_
  refine iw_iconst (i := (-1)) (v := (-1 : Int32)) (pc' := 22) (by decide +kernel) ?_
  obtain ⟨h7, hf⟩ := ic_lk_of hf
  refine iw_jput (pc' := 25) hf ic_fk1 h7 lif_X1_18 (by decide +kernel) (fun w8 hf => ?_)
  exact iw_jret hf (by decide +kernel)
def MX4_init : ic_Md := (yX4_init, cX4_init, 1, none, { frames := 1, cells := 1, slots := 240, locals := 20 })
theorem mi_X4_init : ic_MI MX4_init := ⟨ic_in 94 (by decide +kernel), ic_in 71 (by decide +kernel), ic_in 95 (by decide +kernel), by decide +kernel, rfl, rfl⟩
theorem lif_X4_9 : Cond.fieldLink RX4 9 RX4 (TX4 0).2.1 (TX4 0).2.2.1 ∈ ic_tb := ic_in 97 (by decide +kernel)
def gX4_init (w : ic_S) (r0 : Nat) : Option ic_S := ic_lk w r0 (0, 4) (ic_nw w 1 240 (fun w1 => ic_lk w1 r0 (0, 4) (ic_jr w1 r0 0 (w.1 + 1) (fun w3 => some w3))))
set_option maxRecDepth 100000 in
set_option maxHeartbeats 8000000 in
theorem ct_X4_init (l : Launch) (κ : ic_K) (w : ic_S) (r0 : Nat) {R : ic_S} (hf : gX4_init w r0 = some R) : ic_C l κ MX4_init [ic_rv κ.1 r0] w.1 w.2.1 w.2.2 none R.1 R.2.1 R.2.2 := by
  refine ic_C.of (L := [(0, ic_rv κ.1 r0)]) ⟨ic_cat _ _, trivial⟩ ⟨by decide +kernel, Nat.le_of_ble_eq_true rfl⟩ rfl ?_
  unfold gX4_init at hf
  obtain ⟨h0, hf⟩ := ic_lk_of hf
  have ho : ∃ a, r0 = a + 1 := h0.imp fun a h => h.1
  refine iw_aload_n (i := 0) (pc' := 1) 0 rfl (by decide +kernel) ?_
  refine iw_obj (i := 3) (r := r0) (pc' := 4) (ic_in 96 (by decide +kernel)) (ic_in 89 (by decide +kernel)) (ic_in 90 (by decide +kernel)) ho (ic_sum8 trivial (Nat.le_of_ble_eq_true rfl)) (by decide +kernel) ?_
  refine iw_aload_n (i := 0) (pc' := 5) 0 rfl (by decide +kernel) ?_
  refine iw_sipush (i := 240) (v := (240 : Int32)) (pc' := 8) (by decide +kernel) ?_
  refine iw_newi (pc' := 10) (c1 := 1) (s1 := 240) hf (ic_in 116 (by decide +kernel)) (by decide +kernel) (by decide +kernel) (fun w1 hf => ?_)
  obtain ⟨h2, hf⟩ := ic_lk_of hf
  refine iw_jputr (pc' := 13) hf ic_fk4 h2 lif_X4_9 ic_fitA (by decide +kernel) (fun w3 hf => ?_)
  exact iw_jret hf (by decide +kernel)
def MX2_init : ic_Md := (yX2_init, cX2_init, 1, none, { frames := 2, cells := 3, slots := 30, locals := 40 })
theorem mi_X2_init : ic_MI MX2_init := ⟨ic_in 224 (by decide +kernel), ic_in 77 (by decide +kernel), ic_in 225 (by decide +kernel), by decide +kernel, rfl, rfl⟩
theorem lik_X2_7 : Cond.classLink RX2 7 RX1 ∈ ic_tb := ic_in 227 (by decide +kernel)
theorem lim_X2_9 : Cond.methodLinkNest RX2 9 yX1_init "IceLaw" ∈ ic_tb := ic_in 228 (by decide +kernel)
theorem lif_X2_10 : Cond.fieldLink RX2 10 RX2 (TX2 0).2.1 (TX2 0).2.2.1 ∈ ic_tb := ic_in 229 (by decide +kernel)
def gX2_init (w : ic_S) (r0 : Nat) : Option ic_S := ic_lk w r0 (0, 2) (ic_nw w 0 1 (fun w1 => Option.bind (gX1_init w1 (w.1 + 1)) (fun w2 => ic_lk w2 r0 (0, 2) (ic_jr w2 r0 0 (w.1 + 1) (fun w4 => some w4)))))
set_option maxRecDepth 100000 in
set_option maxHeartbeats 8000000 in
theorem ct_X2_init (l : Launch) (κ : ic_K) (w : ic_S) (r0 : Nat) {R : ic_S} (hf : gX2_init w r0 = some R) : ic_C l κ MX2_init [ic_rv κ.1 r0] w.1 w.2.1 w.2.2 none R.1 R.2.1 R.2.2 := by
  refine ic_C.of (L := [(0, ic_rv κ.1 r0)]) ⟨ic_cat _ _, trivial⟩ ⟨by decide +kernel, Nat.le_of_ble_eq_true rfl⟩ rfl ?_
  unfold gX2_init at hf
  obtain ⟨h0, hf⟩ := ic_lk_of hf
  have ho : ∃ a, r0 = a + 1 := h0.imp fun a h => h.1
  refine iw_aload_n (i := 0) (pc' := 1) 0 rfl (by decide +kernel) ?_
  refine iw_obj (i := 1) (r := r0) (pc' := 4) (ic_in 226 (by decide +kernel)) (ic_in 89 (by decide +kernel)) (ic_in 90 (by decide +kernel)) ho (ic_sum8 trivial (Nat.le_of_ble_eq_true rfl)) (by decide +kernel) ?_
  refine iw_aload_n (i := 0) (pc' := 5) 0 rfl (by decide +kernel) ?_
  refine iw_new (pc' := 8) (c1 := 1) (s1 := 6) hf ic_fk1 lik_X2_7 (ic_in 118 (by decide +kernel)) (ic_in 72 (by decide +kernel)) (by decide +kernel) (by decide +kernel) (fun w1 hf => ?_)
  refine iw_dup (pc' := 9) (ic_cat _ _) (by decide +kernel) ?_
  obtain ⟨w2, hc, hf⟩ := ic_bd hf
  refine iw_callIN (S1 := []) (w1 := w2) (pc' := 12) (c1 := 3) (s1 := 30) (ct_X1_init l κ w1 (w.1 + 1) hc) ⟨_, rfl⟩ mi_X1_init lim_X2_9 (ic_sum8 ⟨ic_cat _ _, ic_cat _ _, trivial⟩ (Nat.le_of_ble_eq_true rfl)) (by unfold ic_rm; decide +kernel) ?_
  obtain ⟨h3, hf⟩ := ic_lk_of hf
  refine iw_jputr (pc' := 15) hf ic_fk2 h3 lif_X2_10 ic_fitO (by decide +kernel) (fun w4 hf => ?_)
  exact iw_jret hf (by decide +kernel)
def MX0_init : ic_Md := (yX0_init, cX0_init, 1, none, { frames := 1, cells := 2, slots := 30, locals := 20 })
theorem mi_X0_init : ic_MI MX0_init := ⟨ic_in 206 (by decide +kernel), ic_in 76 (by decide +kernel), ic_in 207 (by decide +kernel), by decide +kernel, rfl, rfl⟩
theorem lif_X0_9 : Cond.fieldLink RX0 9 RX0 (TX0 0).2.1 (TX0 0).2.2.1 ∈ ic_tb := ic_in 209 (by decide +kernel)
theorem lif_X0_15 : Cond.fieldLink RX0 15 RX0 (TX0 1).2.1 (TX0 1).2.2.1 ∈ ic_tb := ic_in 210 (by decide +kernel)
def gX0_init (w : ic_S) (r0 : Nat) : Option ic_S := ic_lk w r0 (0, 0) (ic_nw w 1 15 (fun w1 => ic_lk w1 r0 (0, 0) (ic_jr w1 r0 0 (w.1 + 1) (fun w3 => ic_nw w3 1 15 (fun w4 => ic_lk w4 r0 (0, 0) (ic_jr w4 r0 1 (w3.1 + 1) (fun w6 => some w6)))))))
set_option maxRecDepth 100000 in
set_option maxHeartbeats 8000000 in
theorem ct_X0_init (l : Launch) (κ : ic_K) (w : ic_S) (r0 : Nat) {R : ic_S} (hf : gX0_init w r0 = some R) : ic_C l κ MX0_init [ic_rv κ.1 r0] w.1 w.2.1 w.2.2 none R.1 R.2.1 R.2.2 := by
  refine ic_C.of (L := [(0, ic_rv κ.1 r0)]) ⟨ic_cat _ _, trivial⟩ ⟨by decide +kernel, Nat.le_of_ble_eq_true rfl⟩ rfl ?_
  unfold gX0_init at hf
  obtain ⟨h0, hf⟩ := ic_lk_of hf
  have ho : ∃ a, r0 = a + 1 := h0.imp fun a h => h.1
  refine iw_aload_n (i := 0) (pc' := 1) 0 rfl (by decide +kernel) ?_
  refine iw_obj (i := 3) (r := r0) (pc' := 4) (ic_in 208 (by decide +kernel)) (ic_in 89 (by decide +kernel)) (ic_in 90 (by decide +kernel)) ho (ic_sum8 trivial (Nat.le_of_ble_eq_true rfl)) (by decide +kernel) ?_
  refine iw_aload_n (i := 0) (pc' := 5) 0 rfl (by decide +kernel) ?_
  refine iw_bipush (i := 15) (v := (15 : Int32)) (pc' := 7) (by decide +kernel) ?_
  refine iw_newi (pc' := 9) (c1 := 1) (s1 := 15) hf (ic_in 116 (by decide +kernel)) (by decide +kernel) (by decide +kernel) (fun w1 hf => ?_)
  obtain ⟨h2, hf⟩ := ic_lk_of hf
  refine iw_jputr (pc' := 12) hf ic_fk0 h2 lif_X0_9 ic_fitA (by decide +kernel) (fun w3 hf => ?_)
  refine iw_aload_n (i := 0) (pc' := 13) 0 rfl (by decide +kernel) ?_
  refine iw_bipush (i := 15) (v := (15 : Int32)) (pc' := 15) (by decide +kernel) ?_
  refine iw_newi (pc' := 17) (c1 := 2) (s1 := 30) hf (ic_in 116 (by decide +kernel)) (by decide +kernel) (by decide +kernel) (fun w4 hf => ?_)
  obtain ⟨h5, hf⟩ := ic_lk_of hf
  refine iw_jputr (pc' := 20) hf ic_fk0 h5 lif_X0_15 ic_fitA (by decide +kernel) (fun w6 hf => ?_)
  exact iw_jret hf (by decide +kernel)
def MX5_init : ic_Md := (yX5_init, cX5_init, 1, none, { frames := 1, cells := 5, slots := 48, locals := 20 })
theorem mi_X5_init : ic_MI MX5_init := ⟨ic_in 240 (by decide +kernel), ic_in 78 (by decide +kernel), ic_in 241 (by decide +kernel), by decide +kernel, rfl, rfl⟩
theorem lif_X5_9 : Cond.fieldLink RX5 9 RX5 (TX5 0).2.1 (TX5 0).2.2.1 ∈ ic_tb := ic_in 243 (by decide +kernel)
theorem lif_X5_15 : Cond.fieldLink RX5 15 RX5 (TX5 1).2.1 (TX5 1).2.2.1 ∈ ic_tb := ic_in 245 (by decide +kernel)
theorem lif_X5_18 : Cond.fieldLink RX5 18 RX5 (TX5 2).2.1 (TX5 2).2.2.1 ∈ ic_tb := ic_in 247 (by decide +kernel)
theorem lif_X5_21 : Cond.fieldLink RX5 21 RX5 (TX5 3).2.1 (TX5 3).2.2.1 ∈ ic_tb := ic_in 249 (by decide +kernel)
theorem lif_X5_24 : Cond.fieldLink RX5 24 RX5 (TX5 4).2.1 (TX5 4).2.2.1 ∈ ic_tb := ic_in 250 (by decide +kernel)
def gX5_init (w : ic_S) (r0 : Nat) : Option ic_S := ic_lk w r0 (0, 5) (ic_nw w 1 18 (fun w1 => ic_lk w1 r0 (0, 5) (ic_jr w1 r0 0 (w.1 + 1) (fun w3 => ic_nw w3 1 6 (fun w4 => ic_lk w4 r0 (0, 5) (ic_jr w4 r0 1 (w3.1 + 1) (fun w6 => ic_nw w6 1 12 (fun w7 => ic_lk w7 r0 (0, 5) (ic_jr w7 r0 2 (w6.1 + 1) (fun w9 => ic_nw w9 1 6 (fun w10 => ic_lk w10 r0 (0, 5) (ic_jr w10 r0 3 (w9.1 + 1) (fun w12 => ic_nw w12 1 6 (fun w13 => ic_lk w13 r0 (0, 5) (ic_jr w13 r0 4 (w12.1 + 1) (fun w15 => some w15))))))))))))))))
set_option maxRecDepth 100000 in
set_option maxHeartbeats 8000000 in
theorem ct_X5_init (l : Launch) (κ : ic_K) (w : ic_S) (r0 : Nat) {R : ic_S} (hf : gX5_init w r0 = some R) : ic_C l κ MX5_init [ic_rv κ.1 r0] w.1 w.2.1 w.2.2 none R.1 R.2.1 R.2.2 := by
  refine ic_C.of (L := [(0, ic_rv κ.1 r0)]) ⟨ic_cat _ _, trivial⟩ ⟨by decide +kernel, Nat.le_of_ble_eq_true rfl⟩ rfl ?_
  unfold gX5_init at hf
  obtain ⟨h0, hf⟩ := ic_lk_of hf
  have ho : ∃ a, r0 = a + 1 := h0.imp fun a h => h.1
  refine iw_aload_n (i := 0) (pc' := 1) 0 rfl (by decide +kernel) ?_
  refine iw_obj (i := 3) (r := r0) (pc' := 4) (ic_in 242 (by decide +kernel)) (ic_in 89 (by decide +kernel)) (ic_in 90 (by decide +kernel)) ho (ic_sum8 trivial (Nat.le_of_ble_eq_true rfl)) (by decide +kernel) ?_
  refine iw_aload_n (i := 0) (pc' := 5) 0 rfl (by decide +kernel) ?_
  refine iw_bipush (i := 18) (v := (18 : Int32)) (pc' := 7) (by decide +kernel) ?_
  refine iw_newi (pc' := 9) (c1 := 1) (s1 := 18) hf (ic_in 116 (by decide +kernel)) (by decide +kernel) (by decide +kernel) (fun w1 hf => ?_)
  obtain ⟨h2, hf⟩ := ic_lk_of hf
  refine iw_jputr (pc' := 12) hf ic_fk5 h2 lif_X5_9 ic_fitA (by decide +kernel) (fun w3 hf => ?_)
  refine iw_aload_n (i := 0) (pc' := 13) 0 rfl (by decide +kernel) ?_
  refine iw_bipush (i := 6) (v := (6 : Int32)) (pc' := 15) (by decide +kernel) ?_
  refine iw_newi (pc' := 17) (c1 := 2) (s1 := 24) hf (ic_in 116 (by decide +kernel)) (by decide +kernel) (by decide +kernel) (fun w4 hf => ?_)
  obtain ⟨h5, hf⟩ := ic_lk_of hf
  refine iw_jputr (pc' := 20) hf ic_fk5 h5 lif_X5_15 ic_fitA (by decide +kernel) (fun w6 hf => ?_)
  refine iw_aload_n (i := 0) (pc' := 21) 0 rfl (by decide +kernel) ?_
  refine iw_bipush (i := 12) (v := (12 : Int32)) (pc' := 23) (by decide +kernel) ?_
  refine iw_newi (pc' := 25) (c1 := 3) (s1 := 36) hf (ic_in 116 (by decide +kernel)) (by decide +kernel) (by decide +kernel) (fun w7 hf => ?_)
  obtain ⟨h8, hf⟩ := ic_lk_of hf
  refine iw_jputr (pc' := 28) hf ic_fk5 h8 lif_X5_18 ic_fitA (by decide +kernel) (fun w9 hf => ?_)
  refine iw_aload_n (i := 0) (pc' := 29) 0 rfl (by decide +kernel) ?_
  refine iw_bipush (i := 6) (v := (6 : Int32)) (pc' := 31) (by decide +kernel) ?_
  refine iw_newi (pc' := 33) (c1 := 4) (s1 := 42) hf (ic_in 116 (by decide +kernel)) (by decide +kernel) (by decide +kernel) (fun w10 hf => ?_)
  obtain ⟨h11, hf⟩ := ic_lk_of hf
  refine iw_jputr (pc' := 36) hf ic_fk5 h11 lif_X5_21 ic_fitA (by decide +kernel) (fun w12 hf => ?_)
  refine iw_aload_n (i := 0) (pc' := 37) 0 rfl (by decide +kernel) ?_
  refine iw_bipush (i := 6) (v := (6 : Int32)) (pc' := 39) (by decide +kernel) ?_
  refine iw_newi (pc' := 41) (c1 := 5) (s1 := 48) hf (ic_in 116 (by decide +kernel)) (by decide +kernel) (by decide +kernel) (fun w13 hf => ?_)
  obtain ⟨h14, hf⟩ := ic_lk_of hf
  refine iw_jputr (pc' := 44) hf ic_fk5 h14 lif_X5_24 ic_fitA (by decide +kernel) (fun w15 hf => ?_)
  exact iw_jret hf (by decide +kernel)
def MX6_init : ic_Md := (yX6_init, cX6_init, 1, none, { frames := 1, cells := 4, slots := 140, locals := 20 })
theorem mi_X6_init : ic_MI MX6_init := ⟨ic_in 182 (by decide +kernel), ic_in 75 (by decide +kernel), ic_in 183 (by decide +kernel), by decide +kernel, rfl, rfl⟩
theorem lif_X6_9 : Cond.fieldLink RX6 9 RX6 (TX6 0).2.1 (TX6 0).2.2.1 ∈ ic_tb := ic_in 185 (by decide +kernel)
theorem lif_X6_15 : Cond.fieldLink RX6 15 RX6 (TX6 1).2.1 (TX6 1).2.2.1 ∈ ic_tb := ic_in 186 (by decide +kernel)
theorem lif_X6_19 : Cond.fieldLink RX6 19 RX6 (TX6 2).2.1 (TX6 2).2.2.1 ∈ ic_tb := ic_in 187 (by decide +kernel)
theorem lif_X6_22 : Cond.fieldLink RX6 22 RX6 (TX6 3).2.1 (TX6 3).2.2.1 ∈ ic_tb := ic_in 188 (by decide +kernel)
def gX6_init (w : ic_S) (r0 : Nat) : Option ic_S := ic_lk w r0 (0, 6) (ic_nw w 1 6 (fun w1 => ic_lk w1 r0 (0, 6) (ic_jr w1 r0 0 (w.1 + 1) (fun w3 => ic_nw w3 2 6 (fun w4 => ic_lk w4 r0 (0, 6) (ic_jr w4 r0 1 (w3.1 + 1) (fun w6 => ic_nw w6 1 64 (fun w7 => ic_lk w7 r0 (0, 6) (ic_jr w7 r0 2 (w6.1 + 1) (fun w9 => ic_nw w9 1 64 (fun w10 => ic_lk w10 r0 (0, 6) (ic_jr w10 r0 3 (w9.1 + 1) (fun w12 => some w12)))))))))))))
set_option maxRecDepth 100000 in
set_option maxHeartbeats 8000000 in
theorem ct_X6_init (l : Launch) (κ : ic_K) (w : ic_S) (r0 : Nat) {R : ic_S} (hf : gX6_init w r0 = some R) : ic_C l κ MX6_init [ic_rv κ.1 r0] w.1 w.2.1 w.2.2 none R.1 R.2.1 R.2.2 := by
  refine ic_C.of (L := [(0, ic_rv κ.1 r0)]) ⟨ic_cat _ _, trivial⟩ ⟨by decide +kernel, Nat.le_of_ble_eq_true rfl⟩ rfl ?_
  unfold gX6_init at hf
  obtain ⟨h0, hf⟩ := ic_lk_of hf
  have ho : ∃ a, r0 = a + 1 := h0.imp fun a h => h.1
  refine iw_aload_n (i := 0) (pc' := 1) 0 rfl (by decide +kernel) ?_
  refine iw_obj (i := 3) (r := r0) (pc' := 4) (ic_in 184 (by decide +kernel)) (ic_in 89 (by decide +kernel)) (ic_in 90 (by decide +kernel)) ho (ic_sum8 trivial (Nat.le_of_ble_eq_true rfl)) (by decide +kernel) ?_
  refine iw_aload_n (i := 0) (pc' := 5) 0 rfl (by decide +kernel) ?_
  refine iw_bipush (i := 6) (v := (6 : Int32)) (pc' := 7) (by decide +kernel) ?_
  refine iw_newi (pc' := 9) (c1 := 1) (s1 := 6) hf (ic_in 116 (by decide +kernel)) (by decide +kernel) (by decide +kernel) (fun w1 hf => ?_)
  obtain ⟨h2, hf⟩ := ic_lk_of hf
  refine iw_jputr (pc' := 12) hf ic_fk6 h2 lif_X6_9 ic_fitA (by decide +kernel) (fun w3 hf => ?_)
  refine iw_aload_n (i := 0) (pc' := 13) 0 rfl (by decide +kernel) ?_
  refine iw_bipush (i := 6) (v := (6 : Int32)) (pc' := 15) (by decide +kernel) ?_
  refine iw_newz (pc' := 17) (c1 := 2) (s1 := 12) hf (ic_in 202 (by decide +kernel)) (by decide +kernel) (by decide +kernel) (fun w4 hf => ?_)
  obtain ⟨h5, hf⟩ := ic_lk_of hf
  refine iw_jputr (pc' := 20) hf ic_fk6 h5 lif_X6_15 ic_fitA (by decide +kernel) (fun w6 hf => ?_)
  refine iw_aload_n (i := 0) (pc' := 21) 0 rfl (by decide +kernel) ?_
  refine iw_bipush (i := 64) (v := (64 : Int32)) (pc' := 23) (by decide +kernel) ?_
  refine iw_newi (pc' := 25) (c1 := 3) (s1 := 76) hf (ic_in 116 (by decide +kernel)) (by decide +kernel) (by decide +kernel) (fun w7 hf => ?_)
  obtain ⟨h8, hf⟩ := ic_lk_of hf
  refine iw_jputr (pc' := 28) hf ic_fk6 h8 lif_X6_19 ic_fitA (by decide +kernel) (fun w9 hf => ?_)
  refine iw_aload_n (i := 0) (pc' := 29) 0 rfl (by decide +kernel) ?_
  refine iw_bipush (i := 64) (v := (64 : Int32)) (pc' := 31) (by decide +kernel) ?_
  refine iw_newi (pc' := 33) (c1 := 4) (s1 := 140) hf (ic_in 116 (by decide +kernel)) (by decide +kernel) (by decide +kernel) (fun w10 hf => ?_)
  obtain ⟨h11, hf⟩ := ic_lk_of hf
  refine iw_jputr (pc' := 36) hf ic_fk6 h11 lif_X6_22 ic_fitA (by decide +kernel) (fun w12 hf => ?_)
  exact iw_jret hf (by decide +kernel)
def MX7_init : ic_Md := (yX7_init, cX7_init, 1, none, { frames := 2, cells := 3, slots := 30, locals := 40 })
theorem mi_X7_init : ic_MI MX7_init := ⟨ic_in 170 (by decide +kernel), ic_in 74 (by decide +kernel), ic_in 171 (by decide +kernel), by decide +kernel, rfl, rfl⟩
theorem lik_X7_9 : Cond.classLink RX7 9 RX1 ∈ ic_tb := ic_in 173 (by decide +kernel)
theorem lim_X7_11 : Cond.methodLinkNest RX7 11 yX1_init "IceLaw" ∈ ic_tb := ic_in 174 (by decide +kernel)
theorem lif_X7_12 : Cond.fieldLink RX7 12 RX7 (TX7 0).2.1 (TX7 0).2.2.1 ∈ ic_tb := ic_in 175 (by decide +kernel)
def gX7_init (w : ic_S) (r0 : Nat) : Option ic_S := ic_lk w r0 (0, 7) (ic_nw w 0 1 (fun w1 => Option.bind (gX1_init w1 (w.1 + 1)) (fun w2 => ic_lk w2 r0 (0, 7) (ic_jr w2 r0 0 (w.1 + 1) (fun w4 => some w4)))))
set_option maxRecDepth 100000 in
set_option maxHeartbeats 8000000 in
theorem ct_X7_init (l : Launch) (κ : ic_K) (w : ic_S) (r0 : Nat) {R : ic_S} (hf : gX7_init w r0 = some R) : ic_C l κ MX7_init [ic_rv κ.1 r0] w.1 w.2.1 w.2.2 none R.1 R.2.1 R.2.2 := by
  refine ic_C.of (L := [(0, ic_rv κ.1 r0)]) ⟨ic_cat _ _, trivial⟩ ⟨by decide +kernel, Nat.le_of_ble_eq_true rfl⟩ rfl ?_
  unfold gX7_init at hf
  obtain ⟨h0, hf⟩ := ic_lk_of hf
  have ho : ∃ a, r0 = a + 1 := h0.imp fun a h => h.1
  refine iw_aload_n (i := 0) (pc' := 1) 0 rfl (by decide +kernel) ?_
  refine iw_obj (i := 3) (r := r0) (pc' := 4) (ic_in 172 (by decide +kernel)) (ic_in 89 (by decide +kernel)) (ic_in 90 (by decide +kernel)) ho (ic_sum8 trivial (Nat.le_of_ble_eq_true rfl)) (by decide +kernel) ?_
  refine iw_aload_n (i := 0) (pc' := 5) 0 rfl (by decide +kernel) ?_
  refine iw_new (pc' := 8) (c1 := 1) (s1 := 6) hf ic_fk1 lik_X7_9 (ic_in 118 (by decide +kernel)) (ic_in 72 (by decide +kernel)) (by decide +kernel) (by decide +kernel) (fun w1 hf => ?_)
  refine iw_dup (pc' := 9) (ic_cat _ _) (by decide +kernel) ?_
  obtain ⟨w2, hc, hf⟩ := ic_bd hf
  refine iw_callIN (S1 := []) (w1 := w2) (pc' := 12) (c1 := 3) (s1 := 30) (ct_X1_init l κ w1 (w.1 + 1) hc) ⟨_, rfl⟩ mi_X1_init lim_X7_11 (ic_sum8 ⟨ic_cat _ _, ic_cat _ _, trivial⟩ (Nat.le_of_ble_eq_true rfl)) (by unfold ic_rm; decide +kernel) ?_
  obtain ⟨h3, hf⟩ := ic_lk_of hf
  refine iw_jputr (pc' := 15) hf ic_fk7 h3 lif_X7_12 ic_fitO (by decide +kernel) (fun w4 hf => ?_)
  exact iw_jret hf (by decide +kernel)
def MX3_init : ic_Md := (yX3_init, cX3_init, 2, none, { frames := 2, cells := 49, slots := 496, locals := 40 })
theorem mi_X3_init : ic_MI MX3_init := ⟨ic_in 150 (by decide +kernel), ic_in 73 (by decide +kernel), ic_in 151 (by decide +kernel), by decide +kernel, rfl, rfl⟩
theorem lik_X3_9 : Cond.classLink RX3 9 RX1 ∈ ic_tb := ic_in 153 (by decide +kernel)
theorem lif_X3_11 : Cond.fieldLink RX3 11 RX3 (TX3 0).2.1 (TX3 0).2.2.1 ∈ ic_tb := ic_in 156 (by decide +kernel)
theorem lim_X3_17 : Cond.methodLinkNest RX3 17 yX1_init "IceLaw" ∈ ic_tb := ic_in 155 (by decide +kernel)
def gX3_init (w : ic_S) (r0 : Nat) : Option ic_S := ic_lk w r0 (0, 3) (ic_nw w 3 16 (fun w1 => ic_lk w1 r0 (0, 3) (ic_jr w1 r0 0 (w.1 + 1) (fun w3 => ic_lk w3 r0 (0, 3) (ic_lk w3 (w3.2.1 r0 0) (3, 16) (ic_lk w3 r0 (0, 3) (ic_nw w3 0 1 (fun w7 => Option.bind (gX1_init w7 (w3.1 + 1)) (fun w8 => ic_lk w8 (w3.2.1 r0 0) (3, 16) (ic_lk w8 (w3.1 + 1) (0, 1) (ic_jr w8 (w3.2.1 r0 0) (Int32.toNatClampNeg (0 : Int32)) (w3.1 + 1) (fun w11 => ic_lk w11 r0 (0, 3) (ic_lk w11 (w11.2.1 r0 0) (3, 16) (ic_lk w11 r0 (0, 3) (ic_nw w11 0 1 (fun w15 => Option.bind (gX1_init w15 (w11.1 + 1)) (fun w16 => ic_lk w16 (w11.2.1 r0 0) (3, 16) (ic_lk w16 (w11.1 + 1) (0, 1) (ic_jr w16 (w11.2.1 r0 0) (Int32.toNatClampNeg (1 : Int32)) (w11.1 + 1) (fun w19 => ic_lk w19 r0 (0, 3) (ic_lk w19 (w19.2.1 r0 0) (3, 16) (ic_lk w19 r0 (0, 3) (ic_nw w19 0 1 (fun w23 => Option.bind (gX1_init w23 (w19.1 + 1)) (fun w24 => ic_lk w24 (w19.2.1 r0 0) (3, 16) (ic_lk w24 (w19.1 + 1) (0, 1) (ic_jr w24 (w19.2.1 r0 0) (Int32.toNatClampNeg (2 : Int32)) (w19.1 + 1) (fun w27 => ic_lk w27 r0 (0, 3) (ic_lk w27 (w27.2.1 r0 0) (3, 16) (ic_lk w27 r0 (0, 3) (ic_nw w27 0 1 (fun w31 => Option.bind (gX1_init w31 (w27.1 + 1)) (fun w32 => ic_lk w32 (w27.2.1 r0 0) (3, 16) (ic_lk w32 (w27.1 + 1) (0, 1) (ic_jr w32 (w27.2.1 r0 0) (Int32.toNatClampNeg (3 : Int32)) (w27.1 + 1) (fun w35 => ic_lk w35 r0 (0, 3) (ic_lk w35 (w35.2.1 r0 0) (3, 16) (ic_lk w35 r0 (0, 3) (ic_nw w35 0 1 (fun w39 => Option.bind (gX1_init w39 (w35.1 + 1)) (fun w40 => ic_lk w40 (w35.2.1 r0 0) (3, 16) (ic_lk w40 (w35.1 + 1) (0, 1) (ic_jr w40 (w35.2.1 r0 0) (Int32.toNatClampNeg (4 : Int32)) (w35.1 + 1) (fun w43 => ic_lk w43 r0 (0, 3) (ic_lk w43 (w43.2.1 r0 0) (3, 16) (ic_lk w43 r0 (0, 3) (ic_nw w43 0 1 (fun w47 => Option.bind (gX1_init w47 (w43.1 + 1)) (fun w48 => ic_lk w48 (w43.2.1 r0 0) (3, 16) (ic_lk w48 (w43.1 + 1) (0, 1) (ic_jr w48 (w43.2.1 r0 0) (Int32.toNatClampNeg (5 : Int32)) (w43.1 + 1) (fun w51 => ic_lk w51 r0 (0, 3) (ic_lk w51 (w51.2.1 r0 0) (3, 16) (ic_lk w51 r0 (0, 3) (ic_nw w51 0 1 (fun w55 => Option.bind (gX1_init w55 (w51.1 + 1)) (fun w56 => ic_lk w56 (w51.2.1 r0 0) (3, 16) (ic_lk w56 (w51.1 + 1) (0, 1) (ic_jr w56 (w51.2.1 r0 0) (Int32.toNatClampNeg (6 : Int32)) (w51.1 + 1) (fun w59 => ic_lk w59 r0 (0, 3) (ic_lk w59 (w59.2.1 r0 0) (3, 16) (ic_lk w59 r0 (0, 3) (ic_nw w59 0 1 (fun w63 => Option.bind (gX1_init w63 (w59.1 + 1)) (fun w64 => ic_lk w64 (w59.2.1 r0 0) (3, 16) (ic_lk w64 (w59.1 + 1) (0, 1) (ic_jr w64 (w59.2.1 r0 0) (Int32.toNatClampNeg (7 : Int32)) (w59.1 + 1) (fun w67 => ic_lk w67 r0 (0, 3) (ic_lk w67 (w67.2.1 r0 0) (3, 16) (ic_lk w67 r0 (0, 3) (ic_nw w67 0 1 (fun w71 => Option.bind (gX1_init w71 (w67.1 + 1)) (fun w72 => ic_lk w72 (w67.2.1 r0 0) (3, 16) (ic_lk w72 (w67.1 + 1) (0, 1) (ic_jr w72 (w67.2.1 r0 0) (Int32.toNatClampNeg (8 : Int32)) (w67.1 + 1) (fun w75 => ic_lk w75 r0 (0, 3) (ic_lk w75 (w75.2.1 r0 0) (3, 16) (ic_lk w75 r0 (0, 3) (ic_nw w75 0 1 (fun w79 => Option.bind (gX1_init w79 (w75.1 + 1)) (fun w80 => ic_lk w80 (w75.2.1 r0 0) (3, 16) (ic_lk w80 (w75.1 + 1) (0, 1) (ic_jr w80 (w75.2.1 r0 0) (Int32.toNatClampNeg (9 : Int32)) (w75.1 + 1) (fun w83 => ic_lk w83 r0 (0, 3) (ic_lk w83 (w83.2.1 r0 0) (3, 16) (ic_lk w83 r0 (0, 3) (ic_nw w83 0 1 (fun w87 => Option.bind (gX1_init w87 (w83.1 + 1)) (fun w88 => ic_lk w88 (w83.2.1 r0 0) (3, 16) (ic_lk w88 (w83.1 + 1) (0, 1) (ic_jr w88 (w83.2.1 r0 0) (Int32.toNatClampNeg (10 : Int32)) (w83.1 + 1) (fun w91 => ic_lk w91 r0 (0, 3) (ic_lk w91 (w91.2.1 r0 0) (3, 16) (ic_lk w91 r0 (0, 3) (ic_nw w91 0 1 (fun w95 => Option.bind (gX1_init w95 (w91.1 + 1)) (fun w96 => ic_lk w96 (w91.2.1 r0 0) (3, 16) (ic_lk w96 (w91.1 + 1) (0, 1) (ic_jr w96 (w91.2.1 r0 0) (Int32.toNatClampNeg (11 : Int32)) (w91.1 + 1) (fun w99 => ic_lk w99 r0 (0, 3) (ic_lk w99 (w99.2.1 r0 0) (3, 16) (ic_lk w99 r0 (0, 3) (ic_nw w99 0 1 (fun w103 => Option.bind (gX1_init w103 (w99.1 + 1)) (fun w104 => ic_lk w104 (w99.2.1 r0 0) (3, 16) (ic_lk w104 (w99.1 + 1) (0, 1) (ic_jr w104 (w99.2.1 r0 0) (Int32.toNatClampNeg (12 : Int32)) (w99.1 + 1) (fun w107 => ic_lk w107 r0 (0, 3) (ic_lk w107 (w107.2.1 r0 0) (3, 16) (ic_lk w107 r0 (0, 3) (ic_nw w107 0 1 (fun w111 => Option.bind (gX1_init w111 (w107.1 + 1)) (fun w112 => ic_lk w112 (w107.2.1 r0 0) (3, 16) (ic_lk w112 (w107.1 + 1) (0, 1) (ic_jr w112 (w107.2.1 r0 0) (Int32.toNatClampNeg (13 : Int32)) (w107.1 + 1) (fun w115 => ic_lk w115 r0 (0, 3) (ic_lk w115 (w115.2.1 r0 0) (3, 16) (ic_lk w115 r0 (0, 3) (ic_nw w115 0 1 (fun w119 => Option.bind (gX1_init w119 (w115.1 + 1)) (fun w120 => ic_lk w120 (w115.2.1 r0 0) (3, 16) (ic_lk w120 (w115.1 + 1) (0, 1) (ic_jr w120 (w115.2.1 r0 0) (Int32.toNatClampNeg (14 : Int32)) (w115.1 + 1) (fun w123 => ic_lk w123 r0 (0, 3) (ic_lk w123 (w123.2.1 r0 0) (3, 16) (ic_lk w123 r0 (0, 3) (ic_nw w123 0 1 (fun w127 => Option.bind (gX1_init w127 (w123.1 + 1)) (fun w128 => ic_lk w128 (w123.2.1 r0 0) (3, 16) (ic_lk w128 (w123.1 + 1) (0, 1) (ic_jr w128 (w123.2.1 r0 0) (Int32.toNatClampNeg (15 : Int32)) (w123.1 + 1) (fun w131 => ic_lk w131 r0 (0, 3) (ic_lk w131 (w131.2.1 r0 0) (3, 16) (some w131))))))))))))))))))))))))))))))))))))))))))))))))))))))))))))))))))))))))))))))))))))))))))))))))))))))))))))))))))))))))))))))))))))))
set_option maxRecDepth 100000 in
set_option maxHeartbeats 8000000 in
theorem ct_X3_init (l : Launch) (κ : ic_K) (w : ic_S) (r0 : Nat) {R : ic_S} (hf : gX3_init w r0 = some R) : ic_C l κ MX3_init [ic_rv κ.1 r0] w.1 w.2.1 w.2.2 none R.1 R.2.1 R.2.2 := by
  refine ic_C.of (L := [(0, ic_rv κ.1 r0)]) ⟨ic_cat _ _, trivial⟩ ⟨by decide +kernel, Nat.le_of_ble_eq_true rfl⟩ rfl ?_
  unfold gX3_init at hf
  obtain ⟨h0, hf⟩ := ic_lk_of hf
  have ho : ∃ a, r0 = a + 1 := h0.imp fun a h => h.1
  refine iw_aload_n (i := 0) (pc' := 1) 0 rfl (by decide +kernel) ?_
  refine iw_obj (i := 3) (r := r0) (pc' := 4) (ic_in 152 (by decide +kernel)) (ic_in 89 (by decide +kernel)) (ic_in 90 (by decide +kernel)) ho (ic_sum8 trivial (Nat.le_of_ble_eq_true rfl)) (by decide +kernel) ?_
  refine iw_aload_n (i := 0) (pc' := 5) 0 rfl (by decide +kernel) ?_
  refine iw_bipush (i := 16) (v := (16 : Int32)) (pc' := 7) (by decide +kernel) ?_
  refine iw_newq (pc' := 10) (c1 := 1) (s1 := 16) (C := RX1) (by decide) hf lik_X3_9 (ic_in 154 (by decide +kernel)) (by decide +kernel) (by decide +kernel) (fun w1 hf => ?_)
  obtain ⟨h2, hf⟩ := ic_lk_of hf
  refine iw_jputr (pc' := 13) hf ic_fk3 h2 lif_X3_11 ic_fitA (by decide +kernel) (fun w3 hf => ?_)
  refine iw_iconst (i := 0) (v := (0 : Int32)) (pc' := 14) (by decide +kernel) ?_
  refine iw_istore_n0 (i := 1) (pc' := 15) (L' := [(0, ic_rv κ.1 r0), (1, .int (0 : Int32))]) rfl (by decide +kernel) ?_
  refine iw_iload_n (i := 1) (pc' := 16) 1 rfl (by decide +kernel) ?_
  refine iw_aload_n (i := 0) (pc' := 17) 0 rfl (by decide +kernel) ?_
  obtain ⟨h4, hf⟩ := ic_lk_of hf
  refine iw_getr (pc' := 20) (q := (w3.2.1 r0 0)) ic_fk3 h4 rfl lif_X3_11 (by decide +kernel) ?_
  obtain ⟨h5, hf⟩ := ic_lk_of hf
  refine iw_qlen (pc' := 21) (t := 2) (N := 16) (v := (16 : Int32)) (h5.imp fun a h => ⟨h.1, h.2.1, Or.inl ⟨rfl, h.2.2⟩⟩) rfl (by decide +kernel) ?_
  refine iw_geF (off := 22) (tg := 43) (pc' := 24) (by decide) (by decide +kernel) ?_
  refine iw_aload_n (i := 0) (pc' := 25) 0 rfl (by decide +kernel) ?_
  obtain ⟨h6, hf⟩ := ic_lk_of hf
  refine iw_getr (pc' := 28) (q := (w3.2.1 r0 0)) ic_fk3 h6 rfl lif_X3_11 (by decide +kernel) ?_
  refine iw_iload_n (i := 1) (pc' := 29) 1 rfl (by decide +kernel) ?_
  refine iw_new (pc' := 32) (c1 := 2) (s1 := 22) hf ic_fk1 lik_X3_9 (ic_in 118 (by decide +kernel)) (ic_in 72 (by decide +kernel)) (by decide +kernel) (by decide +kernel) (fun w7 hf => ?_)
  refine iw_dup (pc' := 33) (ic_cat _ _) (by decide +kernel) ?_
  obtain ⟨w8, hc, hf⟩ := ic_bd hf
  refine iw_callIN (S1 := []) (w1 := w8) (pc' := 36) (c1 := 4) (s1 := 46) (ct_X1_init l κ w7 (w3.1 + 1) hc) ⟨_, rfl⟩ mi_X1_init lim_X3_17 (ic_sum8 ⟨ic_cat _ _, rfl, ic_cat _ _, trivial⟩ (Nat.le_of_ble_eq_true rfl)) (by unfold ic_rm; decide +kernel) ?_
  obtain ⟨h9, hf⟩ := ic_lk_of hf
  obtain ⟨h10, hf⟩ := ic_lk_of hf
  refine iw_aast (pc' := 37) (t := 3) (ci := 1) (by decide) hf h9 h10 (by decide) (by decide +kernel) (fun w11 hf => ?_)
  refine iw_iinc0 (i := 1) (d := 1) (pc' := 40) (v := (1 : Int32)) (y := (1 : Int32)) (L' := [(0, ic_rv κ.1 r0), (1, .int (1 : Int32))]) 1 rfl (by decide) rfl (by decide +kernel) ?_
  refine iw_goto (off := (-25)) (pc' := 15) (by decide +kernel) ?_
  refine iw_iload_n (i := 1) (pc' := 16) 1 rfl (by decide +kernel) ?_
  refine iw_aload_n (i := 0) (pc' := 17) 0 rfl (by decide +kernel) ?_
  obtain ⟨h12, hf⟩ := ic_lk_of hf
  refine iw_getr (pc' := 20) (q := (w11.2.1 r0 0)) ic_fk3 h12 rfl lif_X3_11 (by decide +kernel) ?_
  obtain ⟨h13, hf⟩ := ic_lk_of hf
  refine iw_qlen (pc' := 21) (t := 2) (N := 16) (v := (16 : Int32)) (h13.imp fun a h => ⟨h.1, h.2.1, Or.inl ⟨rfl, h.2.2⟩⟩) rfl (by decide +kernel) ?_
  refine iw_geF (off := 22) (tg := 43) (pc' := 24) (by decide) (by decide +kernel) ?_
  refine iw_aload_n (i := 0) (pc' := 25) 0 rfl (by decide +kernel) ?_
  obtain ⟨h14, hf⟩ := ic_lk_of hf
  refine iw_getr (pc' := 28) (q := (w11.2.1 r0 0)) ic_fk3 h14 rfl lif_X3_11 (by decide +kernel) ?_
  refine iw_iload_n (i := 1) (pc' := 29) 1 rfl (by decide +kernel) ?_
  refine iw_new (pc' := 32) (c1 := 5) (s1 := 52) hf ic_fk1 lik_X3_9 (ic_in 118 (by decide +kernel)) (ic_in 72 (by decide +kernel)) (by decide +kernel) (by decide +kernel) (fun w15 hf => ?_)
  refine iw_dup (pc' := 33) (ic_cat _ _) (by decide +kernel) ?_
  obtain ⟨w16, hc, hf⟩ := ic_bd hf
  refine iw_callIN (S1 := []) (w1 := w16) (pc' := 36) (c1 := 7) (s1 := 76) (ct_X1_init l κ w15 (w11.1 + 1) hc) ⟨_, rfl⟩ mi_X1_init lim_X3_17 (ic_sum8 ⟨ic_cat _ _, rfl, ic_cat _ _, trivial⟩ (Nat.le_of_ble_eq_true rfl)) (by unfold ic_rm; decide +kernel) ?_
  obtain ⟨h17, hf⟩ := ic_lk_of hf
  obtain ⟨h18, hf⟩ := ic_lk_of hf
  refine iw_aast (pc' := 37) (t := 3) (ci := 1) (by decide) hf h17 h18 (by decide) (by decide +kernel) (fun w19 hf => ?_)
  refine iw_iinc0 (i := 1) (d := 1) (pc' := 40) (v := (1 : Int32)) (y := (2 : Int32)) (L' := [(0, ic_rv κ.1 r0), (1, .int (2 : Int32))]) 1 rfl (by decide) rfl (by decide +kernel) ?_
  refine iw_goto (off := (-25)) (pc' := 15) (by decide +kernel) ?_
  refine iw_iload_n (i := 1) (pc' := 16) 1 rfl (by decide +kernel) ?_
  refine iw_aload_n (i := 0) (pc' := 17) 0 rfl (by decide +kernel) ?_
  obtain ⟨h20, hf⟩ := ic_lk_of hf
  refine iw_getr (pc' := 20) (q := (w19.2.1 r0 0)) ic_fk3 h20 rfl lif_X3_11 (by decide +kernel) ?_
  obtain ⟨h21, hf⟩ := ic_lk_of hf
  refine iw_qlen (pc' := 21) (t := 2) (N := 16) (v := (16 : Int32)) (h21.imp fun a h => ⟨h.1, h.2.1, Or.inl ⟨rfl, h.2.2⟩⟩) rfl (by decide +kernel) ?_
  refine iw_geF (off := 22) (tg := 43) (pc' := 24) (by decide) (by decide +kernel) ?_
  refine iw_aload_n (i := 0) (pc' := 25) 0 rfl (by decide +kernel) ?_
  obtain ⟨h22, hf⟩ := ic_lk_of hf
  refine iw_getr (pc' := 28) (q := (w19.2.1 r0 0)) ic_fk3 h22 rfl lif_X3_11 (by decide +kernel) ?_
  refine iw_iload_n (i := 1) (pc' := 29) 1 rfl (by decide +kernel) ?_
  refine iw_new (pc' := 32) (c1 := 8) (s1 := 82) hf ic_fk1 lik_X3_9 (ic_in 118 (by decide +kernel)) (ic_in 72 (by decide +kernel)) (by decide +kernel) (by decide +kernel) (fun w23 hf => ?_)
  refine iw_dup (pc' := 33) (ic_cat _ _) (by decide +kernel) ?_
  obtain ⟨w24, hc, hf⟩ := ic_bd hf
  refine iw_callIN (S1 := []) (w1 := w24) (pc' := 36) (c1 := 10) (s1 := 106) (ct_X1_init l κ w23 (w19.1 + 1) hc) ⟨_, rfl⟩ mi_X1_init lim_X3_17 (ic_sum8 ⟨ic_cat _ _, rfl, ic_cat _ _, trivial⟩ (Nat.le_of_ble_eq_true rfl)) (by unfold ic_rm; decide +kernel) ?_
  obtain ⟨h25, hf⟩ := ic_lk_of hf
  obtain ⟨h26, hf⟩ := ic_lk_of hf
  refine iw_aast (pc' := 37) (t := 3) (ci := 1) (by decide) hf h25 h26 (by decide) (by decide +kernel) (fun w27 hf => ?_)
  refine iw_iinc0 (i := 1) (d := 1) (pc' := 40) (v := (1 : Int32)) (y := (3 : Int32)) (L' := [(0, ic_rv κ.1 r0), (1, .int (3 : Int32))]) 1 rfl (by decide) rfl (by decide +kernel) ?_
  refine iw_goto (off := (-25)) (pc' := 15) (by decide +kernel) ?_
  refine iw_iload_n (i := 1) (pc' := 16) 1 rfl (by decide +kernel) ?_
  refine iw_aload_n (i := 0) (pc' := 17) 0 rfl (by decide +kernel) ?_
  obtain ⟨h28, hf⟩ := ic_lk_of hf
  refine iw_getr (pc' := 20) (q := (w27.2.1 r0 0)) ic_fk3 h28 rfl lif_X3_11 (by decide +kernel) ?_
  obtain ⟨h29, hf⟩ := ic_lk_of hf
  refine iw_qlen (pc' := 21) (t := 2) (N := 16) (v := (16 : Int32)) (h29.imp fun a h => ⟨h.1, h.2.1, Or.inl ⟨rfl, h.2.2⟩⟩) rfl (by decide +kernel) ?_
  refine iw_geF (off := 22) (tg := 43) (pc' := 24) (by decide) (by decide +kernel) ?_
  refine iw_aload_n (i := 0) (pc' := 25) 0 rfl (by decide +kernel) ?_
  obtain ⟨h30, hf⟩ := ic_lk_of hf
  refine iw_getr (pc' := 28) (q := (w27.2.1 r0 0)) ic_fk3 h30 rfl lif_X3_11 (by decide +kernel) ?_
  refine iw_iload_n (i := 1) (pc' := 29) 1 rfl (by decide +kernel) ?_
  refine iw_new (pc' := 32) (c1 := 11) (s1 := 112) hf ic_fk1 lik_X3_9 (ic_in 118 (by decide +kernel)) (ic_in 72 (by decide +kernel)) (by decide +kernel) (by decide +kernel) (fun w31 hf => ?_)
  refine iw_dup (pc' := 33) (ic_cat _ _) (by decide +kernel) ?_
  obtain ⟨w32, hc, hf⟩ := ic_bd hf
  refine iw_callIN (S1 := []) (w1 := w32) (pc' := 36) (c1 := 13) (s1 := 136) (ct_X1_init l κ w31 (w27.1 + 1) hc) ⟨_, rfl⟩ mi_X1_init lim_X3_17 (ic_sum8 ⟨ic_cat _ _, rfl, ic_cat _ _, trivial⟩ (Nat.le_of_ble_eq_true rfl)) (by unfold ic_rm; decide +kernel) ?_
  obtain ⟨h33, hf⟩ := ic_lk_of hf
  obtain ⟨h34, hf⟩ := ic_lk_of hf
  refine iw_aast (pc' := 37) (t := 3) (ci := 1) (by decide) hf h33 h34 (by decide) (by decide +kernel) (fun w35 hf => ?_)
  refine iw_iinc0 (i := 1) (d := 1) (pc' := 40) (v := (1 : Int32)) (y := (4 : Int32)) (L' := [(0, ic_rv κ.1 r0), (1, .int (4 : Int32))]) 1 rfl (by decide) rfl (by decide +kernel) ?_
  refine iw_goto (off := (-25)) (pc' := 15) (by decide +kernel) ?_
  refine iw_iload_n (i := 1) (pc' := 16) 1 rfl (by decide +kernel) ?_
  refine iw_aload_n (i := 0) (pc' := 17) 0 rfl (by decide +kernel) ?_
  obtain ⟨h36, hf⟩ := ic_lk_of hf
  refine iw_getr (pc' := 20) (q := (w35.2.1 r0 0)) ic_fk3 h36 rfl lif_X3_11 (by decide +kernel) ?_
  obtain ⟨h37, hf⟩ := ic_lk_of hf
  refine iw_qlen (pc' := 21) (t := 2) (N := 16) (v := (16 : Int32)) (h37.imp fun a h => ⟨h.1, h.2.1, Or.inl ⟨rfl, h.2.2⟩⟩) rfl (by decide +kernel) ?_
  refine iw_geF (off := 22) (tg := 43) (pc' := 24) (by decide) (by decide +kernel) ?_
  refine iw_aload_n (i := 0) (pc' := 25) 0 rfl (by decide +kernel) ?_
  obtain ⟨h38, hf⟩ := ic_lk_of hf
  refine iw_getr (pc' := 28) (q := (w35.2.1 r0 0)) ic_fk3 h38 rfl lif_X3_11 (by decide +kernel) ?_
  refine iw_iload_n (i := 1) (pc' := 29) 1 rfl (by decide +kernel) ?_
  refine iw_new (pc' := 32) (c1 := 14) (s1 := 142) hf ic_fk1 lik_X3_9 (ic_in 118 (by decide +kernel)) (ic_in 72 (by decide +kernel)) (by decide +kernel) (by decide +kernel) (fun w39 hf => ?_)
  refine iw_dup (pc' := 33) (ic_cat _ _) (by decide +kernel) ?_
  obtain ⟨w40, hc, hf⟩ := ic_bd hf
  refine iw_callIN (S1 := []) (w1 := w40) (pc' := 36) (c1 := 16) (s1 := 166) (ct_X1_init l κ w39 (w35.1 + 1) hc) ⟨_, rfl⟩ mi_X1_init lim_X3_17 (ic_sum8 ⟨ic_cat _ _, rfl, ic_cat _ _, trivial⟩ (Nat.le_of_ble_eq_true rfl)) (by unfold ic_rm; decide +kernel) ?_
  obtain ⟨h41, hf⟩ := ic_lk_of hf
  obtain ⟨h42, hf⟩ := ic_lk_of hf
  refine iw_aast (pc' := 37) (t := 3) (ci := 1) (by decide) hf h41 h42 (by decide) (by decide +kernel) (fun w43 hf => ?_)
  refine iw_iinc0 (i := 1) (d := 1) (pc' := 40) (v := (1 : Int32)) (y := (5 : Int32)) (L' := [(0, ic_rv κ.1 r0), (1, .int (5 : Int32))]) 1 rfl (by decide) rfl (by decide +kernel) ?_
  refine iw_goto (off := (-25)) (pc' := 15) (by decide +kernel) ?_
  refine iw_iload_n (i := 1) (pc' := 16) 1 rfl (by decide +kernel) ?_
  refine iw_aload_n (i := 0) (pc' := 17) 0 rfl (by decide +kernel) ?_
  obtain ⟨h44, hf⟩ := ic_lk_of hf
  refine iw_getr (pc' := 20) (q := (w43.2.1 r0 0)) ic_fk3 h44 rfl lif_X3_11 (by decide +kernel) ?_
  obtain ⟨h45, hf⟩ := ic_lk_of hf
  refine iw_qlen (pc' := 21) (t := 2) (N := 16) (v := (16 : Int32)) (h45.imp fun a h => ⟨h.1, h.2.1, Or.inl ⟨rfl, h.2.2⟩⟩) rfl (by decide +kernel) ?_
  refine iw_geF (off := 22) (tg := 43) (pc' := 24) (by decide) (by decide +kernel) ?_
  refine iw_aload_n (i := 0) (pc' := 25) 0 rfl (by decide +kernel) ?_
  obtain ⟨h46, hf⟩ := ic_lk_of hf
  refine iw_getr (pc' := 28) (q := (w43.2.1 r0 0)) ic_fk3 h46 rfl lif_X3_11 (by decide +kernel) ?_
  refine iw_iload_n (i := 1) (pc' := 29) 1 rfl (by decide +kernel) ?_
  refine iw_new (pc' := 32) (c1 := 17) (s1 := 172) hf ic_fk1 lik_X3_9 (ic_in 118 (by decide +kernel)) (ic_in 72 (by decide +kernel)) (by decide +kernel) (by decide +kernel) (fun w47 hf => ?_)
  refine iw_dup (pc' := 33) (ic_cat _ _) (by decide +kernel) ?_
  obtain ⟨w48, hc, hf⟩ := ic_bd hf
  refine iw_callIN (S1 := []) (w1 := w48) (pc' := 36) (c1 := 19) (s1 := 196) (ct_X1_init l κ w47 (w43.1 + 1) hc) ⟨_, rfl⟩ mi_X1_init lim_X3_17 (ic_sum8 ⟨ic_cat _ _, rfl, ic_cat _ _, trivial⟩ (Nat.le_of_ble_eq_true rfl)) (by unfold ic_rm; decide +kernel) ?_
  obtain ⟨h49, hf⟩ := ic_lk_of hf
  obtain ⟨h50, hf⟩ := ic_lk_of hf
  refine iw_aast (pc' := 37) (t := 3) (ci := 1) (by decide) hf h49 h50 (by decide) (by decide +kernel) (fun w51 hf => ?_)
  refine iw_iinc0 (i := 1) (d := 1) (pc' := 40) (v := (1 : Int32)) (y := (6 : Int32)) (L' := [(0, ic_rv κ.1 r0), (1, .int (6 : Int32))]) 1 rfl (by decide) rfl (by decide +kernel) ?_
  refine iw_goto (off := (-25)) (pc' := 15) (by decide +kernel) ?_
  refine iw_iload_n (i := 1) (pc' := 16) 1 rfl (by decide +kernel) ?_
  refine iw_aload_n (i := 0) (pc' := 17) 0 rfl (by decide +kernel) ?_
  obtain ⟨h52, hf⟩ := ic_lk_of hf
  refine iw_getr (pc' := 20) (q := (w51.2.1 r0 0)) ic_fk3 h52 rfl lif_X3_11 (by decide +kernel) ?_
  obtain ⟨h53, hf⟩ := ic_lk_of hf
  refine iw_qlen (pc' := 21) (t := 2) (N := 16) (v := (16 : Int32)) (h53.imp fun a h => ⟨h.1, h.2.1, Or.inl ⟨rfl, h.2.2⟩⟩) rfl (by decide +kernel) ?_
  refine iw_geF (off := 22) (tg := 43) (pc' := 24) (by decide) (by decide +kernel) ?_
  refine iw_aload_n (i := 0) (pc' := 25) 0 rfl (by decide +kernel) ?_
  obtain ⟨h54, hf⟩ := ic_lk_of hf
  refine iw_getr (pc' := 28) (q := (w51.2.1 r0 0)) ic_fk3 h54 rfl lif_X3_11 (by decide +kernel) ?_
  refine iw_iload_n (i := 1) (pc' := 29) 1 rfl (by decide +kernel) ?_
  refine iw_new (pc' := 32) (c1 := 20) (s1 := 202) hf ic_fk1 lik_X3_9 (ic_in 118 (by decide +kernel)) (ic_in 72 (by decide +kernel)) (by decide +kernel) (by decide +kernel) (fun w55 hf => ?_)
  refine iw_dup (pc' := 33) (ic_cat _ _) (by decide +kernel) ?_
  obtain ⟨w56, hc, hf⟩ := ic_bd hf
  refine iw_callIN (S1 := []) (w1 := w56) (pc' := 36) (c1 := 22) (s1 := 226) (ct_X1_init l κ w55 (w51.1 + 1) hc) ⟨_, rfl⟩ mi_X1_init lim_X3_17 (ic_sum8 ⟨ic_cat _ _, rfl, ic_cat _ _, trivial⟩ (Nat.le_of_ble_eq_true rfl)) (by unfold ic_rm; decide +kernel) ?_
  obtain ⟨h57, hf⟩ := ic_lk_of hf
  obtain ⟨h58, hf⟩ := ic_lk_of hf
  refine iw_aast (pc' := 37) (t := 3) (ci := 1) (by decide) hf h57 h58 (by decide) (by decide +kernel) (fun w59 hf => ?_)
  refine iw_iinc0 (i := 1) (d := 1) (pc' := 40) (v := (1 : Int32)) (y := (7 : Int32)) (L' := [(0, ic_rv κ.1 r0), (1, .int (7 : Int32))]) 1 rfl (by decide) rfl (by decide +kernel) ?_
  refine iw_goto (off := (-25)) (pc' := 15) (by decide +kernel) ?_
  refine iw_iload_n (i := 1) (pc' := 16) 1 rfl (by decide +kernel) ?_
  refine iw_aload_n (i := 0) (pc' := 17) 0 rfl (by decide +kernel) ?_
  obtain ⟨h60, hf⟩ := ic_lk_of hf
  refine iw_getr (pc' := 20) (q := (w59.2.1 r0 0)) ic_fk3 h60 rfl lif_X3_11 (by decide +kernel) ?_
  obtain ⟨h61, hf⟩ := ic_lk_of hf
  refine iw_qlen (pc' := 21) (t := 2) (N := 16) (v := (16 : Int32)) (h61.imp fun a h => ⟨h.1, h.2.1, Or.inl ⟨rfl, h.2.2⟩⟩) rfl (by decide +kernel) ?_
  refine iw_geF (off := 22) (tg := 43) (pc' := 24) (by decide) (by decide +kernel) ?_
  refine iw_aload_n (i := 0) (pc' := 25) 0 rfl (by decide +kernel) ?_
  obtain ⟨h62, hf⟩ := ic_lk_of hf
  refine iw_getr (pc' := 28) (q := (w59.2.1 r0 0)) ic_fk3 h62 rfl lif_X3_11 (by decide +kernel) ?_
  refine iw_iload_n (i := 1) (pc' := 29) 1 rfl (by decide +kernel) ?_
  refine iw_new (pc' := 32) (c1 := 23) (s1 := 232) hf ic_fk1 lik_X3_9 (ic_in 118 (by decide +kernel)) (ic_in 72 (by decide +kernel)) (by decide +kernel) (by decide +kernel) (fun w63 hf => ?_)
  refine iw_dup (pc' := 33) (ic_cat _ _) (by decide +kernel) ?_
  obtain ⟨w64, hc, hf⟩ := ic_bd hf
  refine iw_callIN (S1 := []) (w1 := w64) (pc' := 36) (c1 := 25) (s1 := 256) (ct_X1_init l κ w63 (w59.1 + 1) hc) ⟨_, rfl⟩ mi_X1_init lim_X3_17 (ic_sum8 ⟨ic_cat _ _, rfl, ic_cat _ _, trivial⟩ (Nat.le_of_ble_eq_true rfl)) (by unfold ic_rm; decide +kernel) ?_
  obtain ⟨h65, hf⟩ := ic_lk_of hf
  obtain ⟨h66, hf⟩ := ic_lk_of hf
  refine iw_aast (pc' := 37) (t := 3) (ci := 1) (by decide) hf h65 h66 (by decide) (by decide +kernel) (fun w67 hf => ?_)
  refine iw_iinc0 (i := 1) (d := 1) (pc' := 40) (v := (1 : Int32)) (y := (8 : Int32)) (L' := [(0, ic_rv κ.1 r0), (1, .int (8 : Int32))]) 1 rfl (by decide) rfl (by decide +kernel) ?_
  refine iw_goto (off := (-25)) (pc' := 15) (by decide +kernel) ?_
  refine iw_iload_n (i := 1) (pc' := 16) 1 rfl (by decide +kernel) ?_
  refine iw_aload_n (i := 0) (pc' := 17) 0 rfl (by decide +kernel) ?_
  obtain ⟨h68, hf⟩ := ic_lk_of hf
  refine iw_getr (pc' := 20) (q := (w67.2.1 r0 0)) ic_fk3 h68 rfl lif_X3_11 (by decide +kernel) ?_
  obtain ⟨h69, hf⟩ := ic_lk_of hf
  refine iw_qlen (pc' := 21) (t := 2) (N := 16) (v := (16 : Int32)) (h69.imp fun a h => ⟨h.1, h.2.1, Or.inl ⟨rfl, h.2.2⟩⟩) rfl (by decide +kernel) ?_
  refine iw_geF (off := 22) (tg := 43) (pc' := 24) (by decide) (by decide +kernel) ?_
  refine iw_aload_n (i := 0) (pc' := 25) 0 rfl (by decide +kernel) ?_
  obtain ⟨h70, hf⟩ := ic_lk_of hf
  refine iw_getr (pc' := 28) (q := (w67.2.1 r0 0)) ic_fk3 h70 rfl lif_X3_11 (by decide +kernel) ?_
  refine iw_iload_n (i := 1) (pc' := 29) 1 rfl (by decide +kernel) ?_
  refine iw_new (pc' := 32) (c1 := 26) (s1 := 262) hf ic_fk1 lik_X3_9 (ic_in 118 (by decide +kernel)) (ic_in 72 (by decide +kernel)) (by decide +kernel) (by decide +kernel) (fun w71 hf => ?_)
  refine iw_dup (pc' := 33) (ic_cat _ _) (by decide +kernel) ?_
  obtain ⟨w72, hc, hf⟩ := ic_bd hf
  refine iw_callIN (S1 := []) (w1 := w72) (pc' := 36) (c1 := 28) (s1 := 286) (ct_X1_init l κ w71 (w67.1 + 1) hc) ⟨_, rfl⟩ mi_X1_init lim_X3_17 (ic_sum8 ⟨ic_cat _ _, rfl, ic_cat _ _, trivial⟩ (Nat.le_of_ble_eq_true rfl)) (by unfold ic_rm; decide +kernel) ?_
  obtain ⟨h73, hf⟩ := ic_lk_of hf
  obtain ⟨h74, hf⟩ := ic_lk_of hf
  refine iw_aast (pc' := 37) (t := 3) (ci := 1) (by decide) hf h73 h74 (by decide) (by decide +kernel) (fun w75 hf => ?_)
  refine iw_iinc0 (i := 1) (d := 1) (pc' := 40) (v := (1 : Int32)) (y := (9 : Int32)) (L' := [(0, ic_rv κ.1 r0), (1, .int (9 : Int32))]) 1 rfl (by decide) rfl (by decide +kernel) ?_
  refine iw_goto (off := (-25)) (pc' := 15) (by decide +kernel) ?_
  refine iw_iload_n (i := 1) (pc' := 16) 1 rfl (by decide +kernel) ?_
  refine iw_aload_n (i := 0) (pc' := 17) 0 rfl (by decide +kernel) ?_
  obtain ⟨h76, hf⟩ := ic_lk_of hf
  refine iw_getr (pc' := 20) (q := (w75.2.1 r0 0)) ic_fk3 h76 rfl lif_X3_11 (by decide +kernel) ?_
  obtain ⟨h77, hf⟩ := ic_lk_of hf
  refine iw_qlen (pc' := 21) (t := 2) (N := 16) (v := (16 : Int32)) (h77.imp fun a h => ⟨h.1, h.2.1, Or.inl ⟨rfl, h.2.2⟩⟩) rfl (by decide +kernel) ?_
  refine iw_geF (off := 22) (tg := 43) (pc' := 24) (by decide) (by decide +kernel) ?_
  refine iw_aload_n (i := 0) (pc' := 25) 0 rfl (by decide +kernel) ?_
  obtain ⟨h78, hf⟩ := ic_lk_of hf
  refine iw_getr (pc' := 28) (q := (w75.2.1 r0 0)) ic_fk3 h78 rfl lif_X3_11 (by decide +kernel) ?_
  refine iw_iload_n (i := 1) (pc' := 29) 1 rfl (by decide +kernel) ?_
  refine iw_new (pc' := 32) (c1 := 29) (s1 := 292) hf ic_fk1 lik_X3_9 (ic_in 118 (by decide +kernel)) (ic_in 72 (by decide +kernel)) (by decide +kernel) (by decide +kernel) (fun w79 hf => ?_)
  refine iw_dup (pc' := 33) (ic_cat _ _) (by decide +kernel) ?_
  obtain ⟨w80, hc, hf⟩ := ic_bd hf
  refine iw_callIN (S1 := []) (w1 := w80) (pc' := 36) (c1 := 31) (s1 := 316) (ct_X1_init l κ w79 (w75.1 + 1) hc) ⟨_, rfl⟩ mi_X1_init lim_X3_17 (ic_sum8 ⟨ic_cat _ _, rfl, ic_cat _ _, trivial⟩ (Nat.le_of_ble_eq_true rfl)) (by unfold ic_rm; decide +kernel) ?_
  obtain ⟨h81, hf⟩ := ic_lk_of hf
  obtain ⟨h82, hf⟩ := ic_lk_of hf
  refine iw_aast (pc' := 37) (t := 3) (ci := 1) (by decide) hf h81 h82 (by decide) (by decide +kernel) (fun w83 hf => ?_)
  refine iw_iinc0 (i := 1) (d := 1) (pc' := 40) (v := (1 : Int32)) (y := (10 : Int32)) (L' := [(0, ic_rv κ.1 r0), (1, .int (10 : Int32))]) 1 rfl (by decide) rfl (by decide +kernel) ?_
  refine iw_goto (off := (-25)) (pc' := 15) (by decide +kernel) ?_
  refine iw_iload_n (i := 1) (pc' := 16) 1 rfl (by decide +kernel) ?_
  refine iw_aload_n (i := 0) (pc' := 17) 0 rfl (by decide +kernel) ?_
  obtain ⟨h84, hf⟩ := ic_lk_of hf
  refine iw_getr (pc' := 20) (q := (w83.2.1 r0 0)) ic_fk3 h84 rfl lif_X3_11 (by decide +kernel) ?_
  obtain ⟨h85, hf⟩ := ic_lk_of hf
  refine iw_qlen (pc' := 21) (t := 2) (N := 16) (v := (16 : Int32)) (h85.imp fun a h => ⟨h.1, h.2.1, Or.inl ⟨rfl, h.2.2⟩⟩) rfl (by decide +kernel) ?_
  refine iw_geF (off := 22) (tg := 43) (pc' := 24) (by decide) (by decide +kernel) ?_
  refine iw_aload_n (i := 0) (pc' := 25) 0 rfl (by decide +kernel) ?_
  obtain ⟨h86, hf⟩ := ic_lk_of hf
  refine iw_getr (pc' := 28) (q := (w83.2.1 r0 0)) ic_fk3 h86 rfl lif_X3_11 (by decide +kernel) ?_
  refine iw_iload_n (i := 1) (pc' := 29) 1 rfl (by decide +kernel) ?_
  refine iw_new (pc' := 32) (c1 := 32) (s1 := 322) hf ic_fk1 lik_X3_9 (ic_in 118 (by decide +kernel)) (ic_in 72 (by decide +kernel)) (by decide +kernel) (by decide +kernel) (fun w87 hf => ?_)
  refine iw_dup (pc' := 33) (ic_cat _ _) (by decide +kernel) ?_
  obtain ⟨w88, hc, hf⟩ := ic_bd hf
  refine iw_callIN (S1 := []) (w1 := w88) (pc' := 36) (c1 := 34) (s1 := 346) (ct_X1_init l κ w87 (w83.1 + 1) hc) ⟨_, rfl⟩ mi_X1_init lim_X3_17 (ic_sum8 ⟨ic_cat _ _, rfl, ic_cat _ _, trivial⟩ (Nat.le_of_ble_eq_true rfl)) (by unfold ic_rm; decide +kernel) ?_
  obtain ⟨h89, hf⟩ := ic_lk_of hf
  obtain ⟨h90, hf⟩ := ic_lk_of hf
  refine iw_aast (pc' := 37) (t := 3) (ci := 1) (by decide) hf h89 h90 (by decide) (by decide +kernel) (fun w91 hf => ?_)
  refine iw_iinc0 (i := 1) (d := 1) (pc' := 40) (v := (1 : Int32)) (y := (11 : Int32)) (L' := [(0, ic_rv κ.1 r0), (1, .int (11 : Int32))]) 1 rfl (by decide) rfl (by decide +kernel) ?_
  refine iw_goto (off := (-25)) (pc' := 15) (by decide +kernel) ?_
  refine iw_iload_n (i := 1) (pc' := 16) 1 rfl (by decide +kernel) ?_
  refine iw_aload_n (i := 0) (pc' := 17) 0 rfl (by decide +kernel) ?_
  obtain ⟨h92, hf⟩ := ic_lk_of hf
  refine iw_getr (pc' := 20) (q := (w91.2.1 r0 0)) ic_fk3 h92 rfl lif_X3_11 (by decide +kernel) ?_
  obtain ⟨h93, hf⟩ := ic_lk_of hf
  refine iw_qlen (pc' := 21) (t := 2) (N := 16) (v := (16 : Int32)) (h93.imp fun a h => ⟨h.1, h.2.1, Or.inl ⟨rfl, h.2.2⟩⟩) rfl (by decide +kernel) ?_
  refine iw_geF (off := 22) (tg := 43) (pc' := 24) (by decide) (by decide +kernel) ?_
  refine iw_aload_n (i := 0) (pc' := 25) 0 rfl (by decide +kernel) ?_
  obtain ⟨h94, hf⟩ := ic_lk_of hf
  refine iw_getr (pc' := 28) (q := (w91.2.1 r0 0)) ic_fk3 h94 rfl lif_X3_11 (by decide +kernel) ?_
  refine iw_iload_n (i := 1) (pc' := 29) 1 rfl (by decide +kernel) ?_
  refine iw_new (pc' := 32) (c1 := 35) (s1 := 352) hf ic_fk1 lik_X3_9 (ic_in 118 (by decide +kernel)) (ic_in 72 (by decide +kernel)) (by decide +kernel) (by decide +kernel) (fun w95 hf => ?_)
  refine iw_dup (pc' := 33) (ic_cat _ _) (by decide +kernel) ?_
  obtain ⟨w96, hc, hf⟩ := ic_bd hf
  refine iw_callIN (S1 := []) (w1 := w96) (pc' := 36) (c1 := 37) (s1 := 376) (ct_X1_init l κ w95 (w91.1 + 1) hc) ⟨_, rfl⟩ mi_X1_init lim_X3_17 (ic_sum8 ⟨ic_cat _ _, rfl, ic_cat _ _, trivial⟩ (Nat.le_of_ble_eq_true rfl)) (by unfold ic_rm; decide +kernel) ?_
  obtain ⟨h97, hf⟩ := ic_lk_of hf
  obtain ⟨h98, hf⟩ := ic_lk_of hf
  refine iw_aast (pc' := 37) (t := 3) (ci := 1) (by decide) hf h97 h98 (by decide) (by decide +kernel) (fun w99 hf => ?_)
  refine iw_iinc0 (i := 1) (d := 1) (pc' := 40) (v := (1 : Int32)) (y := (12 : Int32)) (L' := [(0, ic_rv κ.1 r0), (1, .int (12 : Int32))]) 1 rfl (by decide) rfl (by decide +kernel) ?_
  refine iw_goto (off := (-25)) (pc' := 15) (by decide +kernel) ?_
  refine iw_iload_n (i := 1) (pc' := 16) 1 rfl (by decide +kernel) ?_
  refine iw_aload_n (i := 0) (pc' := 17) 0 rfl (by decide +kernel) ?_
  obtain ⟨h100, hf⟩ := ic_lk_of hf
  refine iw_getr (pc' := 20) (q := (w99.2.1 r0 0)) ic_fk3 h100 rfl lif_X3_11 (by decide +kernel) ?_
  obtain ⟨h101, hf⟩ := ic_lk_of hf
  refine iw_qlen (pc' := 21) (t := 2) (N := 16) (v := (16 : Int32)) (h101.imp fun a h => ⟨h.1, h.2.1, Or.inl ⟨rfl, h.2.2⟩⟩) rfl (by decide +kernel) ?_
  refine iw_geF (off := 22) (tg := 43) (pc' := 24) (by decide) (by decide +kernel) ?_
  refine iw_aload_n (i := 0) (pc' := 25) 0 rfl (by decide +kernel) ?_
  obtain ⟨h102, hf⟩ := ic_lk_of hf
  refine iw_getr (pc' := 28) (q := (w99.2.1 r0 0)) ic_fk3 h102 rfl lif_X3_11 (by decide +kernel) ?_
  refine iw_iload_n (i := 1) (pc' := 29) 1 rfl (by decide +kernel) ?_
  refine iw_new (pc' := 32) (c1 := 38) (s1 := 382) hf ic_fk1 lik_X3_9 (ic_in 118 (by decide +kernel)) (ic_in 72 (by decide +kernel)) (by decide +kernel) (by decide +kernel) (fun w103 hf => ?_)
  refine iw_dup (pc' := 33) (ic_cat _ _) (by decide +kernel) ?_
  obtain ⟨w104, hc, hf⟩ := ic_bd hf
  refine iw_callIN (S1 := []) (w1 := w104) (pc' := 36) (c1 := 40) (s1 := 406) (ct_X1_init l κ w103 (w99.1 + 1) hc) ⟨_, rfl⟩ mi_X1_init lim_X3_17 (ic_sum8 ⟨ic_cat _ _, rfl, ic_cat _ _, trivial⟩ (Nat.le_of_ble_eq_true rfl)) (by unfold ic_rm; decide +kernel) ?_
  obtain ⟨h105, hf⟩ := ic_lk_of hf
  obtain ⟨h106, hf⟩ := ic_lk_of hf
  refine iw_aast (pc' := 37) (t := 3) (ci := 1) (by decide) hf h105 h106 (by decide) (by decide +kernel) (fun w107 hf => ?_)
  refine iw_iinc0 (i := 1) (d := 1) (pc' := 40) (v := (1 : Int32)) (y := (13 : Int32)) (L' := [(0, ic_rv κ.1 r0), (1, .int (13 : Int32))]) 1 rfl (by decide) rfl (by decide +kernel) ?_
  refine iw_goto (off := (-25)) (pc' := 15) (by decide +kernel) ?_
  refine iw_iload_n (i := 1) (pc' := 16) 1 rfl (by decide +kernel) ?_
  refine iw_aload_n (i := 0) (pc' := 17) 0 rfl (by decide +kernel) ?_
  obtain ⟨h108, hf⟩ := ic_lk_of hf
  refine iw_getr (pc' := 20) (q := (w107.2.1 r0 0)) ic_fk3 h108 rfl lif_X3_11 (by decide +kernel) ?_
  obtain ⟨h109, hf⟩ := ic_lk_of hf
  refine iw_qlen (pc' := 21) (t := 2) (N := 16) (v := (16 : Int32)) (h109.imp fun a h => ⟨h.1, h.2.1, Or.inl ⟨rfl, h.2.2⟩⟩) rfl (by decide +kernel) ?_
  refine iw_geF (off := 22) (tg := 43) (pc' := 24) (by decide) (by decide +kernel) ?_
  refine iw_aload_n (i := 0) (pc' := 25) 0 rfl (by decide +kernel) ?_
  obtain ⟨h110, hf⟩ := ic_lk_of hf
  refine iw_getr (pc' := 28) (q := (w107.2.1 r0 0)) ic_fk3 h110 rfl lif_X3_11 (by decide +kernel) ?_
  refine iw_iload_n (i := 1) (pc' := 29) 1 rfl (by decide +kernel) ?_
  refine iw_new (pc' := 32) (c1 := 41) (s1 := 412) hf ic_fk1 lik_X3_9 (ic_in 118 (by decide +kernel)) (ic_in 72 (by decide +kernel)) (by decide +kernel) (by decide +kernel) (fun w111 hf => ?_)
  refine iw_dup (pc' := 33) (ic_cat _ _) (by decide +kernel) ?_
  obtain ⟨w112, hc, hf⟩ := ic_bd hf
  refine iw_callIN (S1 := []) (w1 := w112) (pc' := 36) (c1 := 43) (s1 := 436) (ct_X1_init l κ w111 (w107.1 + 1) hc) ⟨_, rfl⟩ mi_X1_init lim_X3_17 (ic_sum8 ⟨ic_cat _ _, rfl, ic_cat _ _, trivial⟩ (Nat.le_of_ble_eq_true rfl)) (by unfold ic_rm; decide +kernel) ?_
  obtain ⟨h113, hf⟩ := ic_lk_of hf
  obtain ⟨h114, hf⟩ := ic_lk_of hf
  refine iw_aast (pc' := 37) (t := 3) (ci := 1) (by decide) hf h113 h114 (by decide) (by decide +kernel) (fun w115 hf => ?_)
  refine iw_iinc0 (i := 1) (d := 1) (pc' := 40) (v := (1 : Int32)) (y := (14 : Int32)) (L' := [(0, ic_rv κ.1 r0), (1, .int (14 : Int32))]) 1 rfl (by decide) rfl (by decide +kernel) ?_
  refine iw_goto (off := (-25)) (pc' := 15) (by decide +kernel) ?_
  refine iw_iload_n (i := 1) (pc' := 16) 1 rfl (by decide +kernel) ?_
  refine iw_aload_n (i := 0) (pc' := 17) 0 rfl (by decide +kernel) ?_
  obtain ⟨h116, hf⟩ := ic_lk_of hf
  refine iw_getr (pc' := 20) (q := (w115.2.1 r0 0)) ic_fk3 h116 rfl lif_X3_11 (by decide +kernel) ?_
  obtain ⟨h117, hf⟩ := ic_lk_of hf
  refine iw_qlen (pc' := 21) (t := 2) (N := 16) (v := (16 : Int32)) (h117.imp fun a h => ⟨h.1, h.2.1, Or.inl ⟨rfl, h.2.2⟩⟩) rfl (by decide +kernel) ?_
  refine iw_geF (off := 22) (tg := 43) (pc' := 24) (by decide) (by decide +kernel) ?_
  refine iw_aload_n (i := 0) (pc' := 25) 0 rfl (by decide +kernel) ?_
  obtain ⟨h118, hf⟩ := ic_lk_of hf
  refine iw_getr (pc' := 28) (q := (w115.2.1 r0 0)) ic_fk3 h118 rfl lif_X3_11 (by decide +kernel) ?_
  refine iw_iload_n (i := 1) (pc' := 29) 1 rfl (by decide +kernel) ?_
  refine iw_new (pc' := 32) (c1 := 44) (s1 := 442) hf ic_fk1 lik_X3_9 (ic_in 118 (by decide +kernel)) (ic_in 72 (by decide +kernel)) (by decide +kernel) (by decide +kernel) (fun w119 hf => ?_)
  refine iw_dup (pc' := 33) (ic_cat _ _) (by decide +kernel) ?_
  obtain ⟨w120, hc, hf⟩ := ic_bd hf
  refine iw_callIN (S1 := []) (w1 := w120) (pc' := 36) (c1 := 46) (s1 := 466) (ct_X1_init l κ w119 (w115.1 + 1) hc) ⟨_, rfl⟩ mi_X1_init lim_X3_17 (ic_sum8 ⟨ic_cat _ _, rfl, ic_cat _ _, trivial⟩ (Nat.le_of_ble_eq_true rfl)) (by unfold ic_rm; decide +kernel) ?_
  obtain ⟨h121, hf⟩ := ic_lk_of hf
  obtain ⟨h122, hf⟩ := ic_lk_of hf
  refine iw_aast (pc' := 37) (t := 3) (ci := 1) (by decide) hf h121 h122 (by decide) (by decide +kernel) (fun w123 hf => ?_)
  refine iw_iinc0 (i := 1) (d := 1) (pc' := 40) (v := (1 : Int32)) (y := (15 : Int32)) (L' := [(0, ic_rv κ.1 r0), (1, .int (15 : Int32))]) 1 rfl (by decide) rfl (by decide +kernel) ?_
  refine iw_goto (off := (-25)) (pc' := 15) (by decide +kernel) ?_
  refine iw_iload_n (i := 1) (pc' := 16) 1 rfl (by decide +kernel) ?_
  refine iw_aload_n (i := 0) (pc' := 17) 0 rfl (by decide +kernel) ?_
  obtain ⟨h124, hf⟩ := ic_lk_of hf
  refine iw_getr (pc' := 20) (q := (w123.2.1 r0 0)) ic_fk3 h124 rfl lif_X3_11 (by decide +kernel) ?_
  obtain ⟨h125, hf⟩ := ic_lk_of hf
  refine iw_qlen (pc' := 21) (t := 2) (N := 16) (v := (16 : Int32)) (h125.imp fun a h => ⟨h.1, h.2.1, Or.inl ⟨rfl, h.2.2⟩⟩) rfl (by decide +kernel) ?_
  refine iw_geF (off := 22) (tg := 43) (pc' := 24) (by decide) (by decide +kernel) ?_
  refine iw_aload_n (i := 0) (pc' := 25) 0 rfl (by decide +kernel) ?_
  obtain ⟨h126, hf⟩ := ic_lk_of hf
  refine iw_getr (pc' := 28) (q := (w123.2.1 r0 0)) ic_fk3 h126 rfl lif_X3_11 (by decide +kernel) ?_
  refine iw_iload_n (i := 1) (pc' := 29) 1 rfl (by decide +kernel) ?_
  refine iw_new (pc' := 32) (c1 := 47) (s1 := 472) hf ic_fk1 lik_X3_9 (ic_in 118 (by decide +kernel)) (ic_in 72 (by decide +kernel)) (by decide +kernel) (by decide +kernel) (fun w127 hf => ?_)
  refine iw_dup (pc' := 33) (ic_cat _ _) (by decide +kernel) ?_
  obtain ⟨w128, hc, hf⟩ := ic_bd hf
  refine iw_callIN (S1 := []) (w1 := w128) (pc' := 36) (c1 := 49) (s1 := 496) (ct_X1_init l κ w127 (w123.1 + 1) hc) ⟨_, rfl⟩ mi_X1_init lim_X3_17 (ic_sum8 ⟨ic_cat _ _, rfl, ic_cat _ _, trivial⟩ (Nat.le_of_ble_eq_true rfl)) (by unfold ic_rm; decide +kernel) ?_
  obtain ⟨h129, hf⟩ := ic_lk_of hf
  obtain ⟨h130, hf⟩ := ic_lk_of hf
  refine iw_aast (pc' := 37) (t := 3) (ci := 1) (by decide) hf h129 h130 (by decide) (by decide +kernel) (fun w131 hf => ?_)
  refine iw_iinc0 (i := 1) (d := 1) (pc' := 40) (v := (1 : Int32)) (y := (16 : Int32)) (L' := [(0, ic_rv κ.1 r0), (1, .int (16 : Int32))]) 1 rfl (by decide) rfl (by decide +kernel) ?_
  refine iw_goto (off := (-25)) (pc' := 15) (by decide +kernel) ?_
  refine iw_iload_n (i := 1) (pc' := 16) 1 rfl (by decide +kernel) ?_
  refine iw_aload_n (i := 0) (pc' := 17) 0 rfl (by decide +kernel) ?_
  obtain ⟨h132, hf⟩ := ic_lk_of hf
  refine iw_getr (pc' := 20) (q := (w131.2.1 r0 0)) ic_fk3 h132 rfl lif_X3_11 (by decide +kernel) ?_
  obtain ⟨h133, hf⟩ := ic_lk_of hf
  refine iw_qlen (pc' := 21) (t := 2) (N := 16) (v := (16 : Int32)) (h133.imp fun a h => ⟨h.1, h.2.1, Or.inl ⟨rfl, h.2.2⟩⟩) rfl (by decide +kernel) ?_
  refine iw_geT (off := 22) (tg := 43) (pc' := 24) (by decide) (by decide +kernel) ?_
  exact iw_jret hf (by decide +kernel)
def MX8_init : ic_Md := (yX8_init, cX8_init, 2, none, { frames := 3, cells := 88, slots := 1171, locals := 61 })
theorem mi_X8_init : ic_MI MX8_init := ⟨ic_in 86 (by decide +kernel), ic_in 70 (by decide +kernel), ic_in 87 (by decide +kernel), by decide +kernel, rfl, rfl⟩
theorem lik_X8_7 : Cond.classLink RX8 7 RX4 ∈ ic_tb := ic_in 91 (by decide +kernel)
theorem lim_X8_9 : Cond.methodLinkNest RX8 9 yX4_init "IceLaw" ∈ ic_tb := ic_in 93 (by decide +kernel)
theorem lif_X8_10 : Cond.fieldLink RX8 10 RX8 (TX8 0).2.1 (TX8 0).2.2.1 ∈ ic_tb := ic_in 306 (by decide +kernel)
theorem lik_X8_16 : Cond.classLink RX8 16 RX1 ∈ ic_tb := ic_in 117 (by decide +kernel)
theorem lim_X8_18 : Cond.methodLinkNest RX8 18 yX1_init "IceLaw" ∈ ic_tb := ic_in 119 (by decide +kernel)
theorem lif_X8_19 : Cond.fieldLink RX8 19 RX8 (TX8 1).2.1 (TX8 1).2.2.1 ∈ ic_tb := ic_in 307 (by decide +kernel)
theorem lik_X8_23 : Cond.classLink RX8 23 RX3 ∈ ic_tb := ic_in 147 (by decide +kernel)
theorem lim_X8_25 : Cond.methodLink RX8 25 yX3_init ∈ ic_tb := ic_in 149 (by decide +kernel)
theorem lif_X8_26 : Cond.fieldLink RX8 26 RX8 (TX8 2).2.1 (TX8 2).2.2.1 ∈ ic_tb := ic_in 308 (by decide +kernel)
theorem lik_X8_30 : Cond.classLink RX8 30 RX7 ∈ ic_tb := ic_in 167 (by decide +kernel)
theorem lim_X8_32 : Cond.methodLinkNest RX8 32 yX7_init "IceLaw" ∈ ic_tb := ic_in 169 (by decide +kernel)
theorem lif_X8_33 : Cond.fieldLink RX8 33 RX8 (TX8 3).2.1 (TX8 3).2.2.1 ∈ ic_tb := ic_in 309 (by decide +kernel)
theorem lik_X8_37 : Cond.classLink RX8 37 RX6 ∈ ic_tb := ic_in 179 (by decide +kernel)
theorem lim_X8_39 : Cond.methodLinkNest RX8 39 yX6_init "IceLaw" ∈ ic_tb := ic_in 181 (by decide +kernel)
theorem lif_X8_40 : Cond.fieldLink RX8 40 RX8 (TX8 4).2.1 (TX8 4).2.2.1 ∈ ic_tb := ic_in 310 (by decide +kernel)
theorem lik_X8_44 : Cond.classLink RX8 44 RX0 ∈ ic_tb := ic_in 203 (by decide +kernel)
theorem lim_X8_46 : Cond.methodLinkNest RX8 46 yX0_init "IceLaw" ∈ ic_tb := ic_in 205 (by decide +kernel)
theorem lif_X8_47 : Cond.fieldLink RX8 47 RX8 (TX8 5).2.1 (TX8 5).2.2.1 ∈ ic_tb := ic_in 311 (by decide +kernel)
theorem lik_X8_51 : Cond.classLink RX8 51 RX2 ∈ ic_tb := ic_in 220 (by decide +kernel)
theorem lif_X8_53 : Cond.fieldLink RX8 53 RX8 (TX8 6).2.1 (TX8 6).2.2.1 ∈ ic_tb := ic_in 312 (by decide +kernel)
theorem lim_X8_57 : Cond.methodLinkNest RX8 57 yX2_init "IceLaw" ∈ ic_tb := ic_in 223 (by decide +kernel)
theorem lik_X8_58 : Cond.classLink RX8 58 RX5 ∈ ic_tb := ic_in 237 (by decide +kernel)
theorem lim_X8_60 : Cond.methodLinkNest RX8 60 yX5_init "IceLaw" ∈ ic_tb := ic_in 239 (by decide +kernel)
theorem lif_X8_61 : Cond.fieldLink RX8 61 RX8 (TX8 7).2.1 (TX8 7).2.2.1 ∈ ic_tb := ic_in 313 (by decide +kernel)
theorem lif_X8_65 : Cond.fieldLink RX8 65 RX8 (TX8 8).2.1 (TX8 8).2.2.1 ∈ ic_tb := ic_in 314 (by decide +kernel)
theorem lif_X8_68 : Cond.fieldLink RX8 68 RX8 (TX8 9).2.1 (TX8 9).2.2.1 ∈ ic_tb := ic_in 315 (by decide +kernel)
theorem lif_X8_72 : Cond.fieldLink RX8 72 RX8 (TX8 10).2.1 (TX8 10).2.2.1 ∈ ic_tb := ic_in 316 (by decide +kernel)
theorem lif_X8_75 : Cond.fieldLink RX8 75 RX8 (TX8 11).2.1 (TX8 11).2.2.1 ∈ ic_tb := ic_in 317 (by decide +kernel)
def gX8_init (w : ic_S) (r0 : Nat) : Option ic_S := ic_lk w r0 (0, 8) (ic_nw w 0 4 (fun w1 => Option.bind (gX4_init w1 (w.1 + 1)) (fun w2 => ic_lk w2 r0 (0, 8) (ic_jr w2 r0 0 (w.1 + 1) (fun w4 => ic_nw w4 0 1 (fun w5 => Option.bind (gX1_init w5 (w4.1 + 1)) (fun w6 => ic_lk w6 r0 (0, 8) (ic_jr w6 r0 1 (w4.1 + 1) (fun w8 => ic_nw w8 0 3 (fun w9 => Option.bind (gX3_init w9 (w8.1 + 1)) (fun w10 => ic_lk w10 r0 (0, 8) (ic_jr w10 r0 2 (w8.1 + 1) (fun w12 => ic_nw w12 0 7 (fun w13 => Option.bind (gX7_init w13 (w12.1 + 1)) (fun w14 => ic_lk w14 r0 (0, 8) (ic_jr w14 r0 3 (w12.1 + 1) (fun w16 => ic_nw w16 0 6 (fun w17 => Option.bind (gX6_init w17 (w16.1 + 1)) (fun w18 => ic_lk w18 r0 (0, 8) (ic_jr w18 r0 4 (w16.1 + 1) (fun w20 => ic_nw w20 0 0 (fun w21 => Option.bind (gX0_init w21 (w20.1 + 1)) (fun w22 => ic_lk w22 r0 (0, 8) (ic_jr w22 r0 5 (w20.1 + 1) (fun w24 => ic_nw w24 4 2 (fun w25 => ic_lk w25 r0 (0, 8) (ic_jr w25 r0 6 (w24.1 + 1) (fun w27 => ic_lk w27 r0 (0, 8) (ic_lk w27 (w27.2.1 r0 6) (4, 2) (ic_lk w27 r0 (0, 8) (ic_nw w27 0 2 (fun w31 => Option.bind (gX2_init w31 (w27.1 + 1)) (fun w32 => ic_lk w32 (w27.2.1 r0 6) (4, 2) (ic_lk w32 (w27.1 + 1) (0, 2) (ic_jr w32 (w27.2.1 r0 6) (Int32.toNatClampNeg (0 : Int32)) (w27.1 + 1) (fun w35 => ic_lk w35 r0 (0, 8) (ic_lk w35 (w35.2.1 r0 6) (4, 2) (ic_lk w35 r0 (0, 8) (ic_nw w35 0 2 (fun w39 => Option.bind (gX2_init w39 (w35.1 + 1)) (fun w40 => ic_lk w40 (w35.2.1 r0 6) (4, 2) (ic_lk w40 (w35.1 + 1) (0, 2) (ic_jr w40 (w35.2.1 r0 6) (Int32.toNatClampNeg (1 : Int32)) (w35.1 + 1) (fun w43 => ic_lk w43 r0 (0, 8) (ic_lk w43 (w43.2.1 r0 6) (4, 2) (ic_nw w43 0 5 (fun w46 => Option.bind (gX5_init w46 (w43.1 + 1)) (fun w47 => ic_lk w47 r0 (0, 8) (ic_jr w47 r0 7 (w43.1 + 1) (fun w49 => ic_nw w49 0 5 (fun w50 => Option.bind (gX5_init w50 (w49.1 + 1)) (fun w51 => ic_lk w51 r0 (0, 8) (ic_jr w51 r0 8 (w49.1 + 1) (fun w53 => ic_lk w53 r0 (0, 8) (ic_ji w53 r0 9 (0 : Int32) (fun w55 => ic_lk w55 r0 (0, 8) (ic_ji w55 r0 10 (0 : Int32) (fun w57 => ic_lk w57 r0 (0, 8) (ic_ji w57 r0 11 (-1 : Int32) (fun w59 => some w59))))))))))))))))))))))))))))))))))))))))))))))))))))))))))))
set_option maxRecDepth 100000 in
set_option maxHeartbeats 8000000 in
theorem ct_X8_init (l : Launch) (κ : ic_K) (w : ic_S) (r0 : Nat) {R : ic_S} (hf : gX8_init w r0 = some R) : ic_C l κ MX8_init [ic_rv κ.1 r0] w.1 w.2.1 w.2.2 none R.1 R.2.1 R.2.2 := by
  refine ic_C.of (L := [(0, ic_rv κ.1 r0)]) ⟨ic_cat _ _, trivial⟩ ⟨by decide +kernel, Nat.le_of_ble_eq_true rfl⟩ rfl ?_
  unfold gX8_init at hf
  obtain ⟨h0, hf⟩ := ic_lk_of hf
  have ho : ∃ a, r0 = a + 1 := h0.imp fun a h => h.1
  refine iw_aload_n (i := 0) (pc' := 1) 0 rfl (by decide +kernel) ?_
  refine iw_obj (i := 1) (r := r0) (pc' := 4) (ic_in 88 (by decide +kernel)) (ic_in 89 (by decide +kernel)) (ic_in 90 (by decide +kernel)) ho (ic_sum8 trivial (Nat.le_of_ble_eq_true rfl)) (by decide +kernel) ?_
  refine iw_aload_n (i := 0) (pc' := 5) 0 rfl (by decide +kernel) ?_
  refine iw_new (pc' := 8) (c1 := 1) (s1 := 5) hf ic_fk4 lik_X8_7 (ic_in 92 (by decide +kernel)) (ic_in 71 (by decide +kernel)) (by decide +kernel) (by decide +kernel) (fun w1 hf => ?_)
  refine iw_dup (pc' := 9) (ic_cat _ _) (by decide +kernel) ?_
  obtain ⟨w2, hc, hf⟩ := ic_bd hf
  refine iw_callIN (S1 := []) (w1 := w2) (pc' := 12) (c1 := 2) (s1 := 245) (ct_X4_init l κ w1 (w.1 + 1) hc) ⟨_, rfl⟩ mi_X4_init lim_X8_9 (ic_sum8 ⟨ic_cat _ _, ic_cat _ _, trivial⟩ (Nat.le_of_ble_eq_true rfl)) (by unfold ic_rm; decide +kernel) ?_
  obtain ⟨h3, hf⟩ := ic_lk_of hf
  refine iw_jputr (pc' := 15) hf ic_fk8 h3 lif_X8_10 ic_fitO (by decide +kernel) (fun w4 hf => ?_)
  refine iw_aload_n (i := 0) (pc' := 16) 0 rfl (by decide +kernel) ?_
  refine iw_new (pc' := 19) (c1 := 3) (s1 := 251) hf ic_fk1 lik_X8_16 (ic_in 118 (by decide +kernel)) (ic_in 72 (by decide +kernel)) (by decide +kernel) (by decide +kernel) (fun w5 hf => ?_)
  refine iw_dup (pc' := 20) (ic_cat _ _) (by decide +kernel) ?_
  obtain ⟨w6, hc, hf⟩ := ic_bd hf
  refine iw_callIN (S1 := []) (w1 := w6) (pc' := 23) (c1 := 5) (s1 := 275) (ct_X1_init l κ w5 (w4.1 + 1) hc) ⟨_, rfl⟩ mi_X1_init lim_X8_18 (ic_sum8 ⟨ic_cat _ _, ic_cat _ _, trivial⟩ (Nat.le_of_ble_eq_true rfl)) (by unfold ic_rm; decide +kernel) ?_
  obtain ⟨h7, hf⟩ := ic_lk_of hf
  refine iw_jputr (pc' := 26) hf ic_fk8 h7 lif_X8_19 ic_fitO (by decide +kernel) (fun w8 hf => ?_)
  refine iw_aload_n (i := 0) (pc' := 27) 0 rfl (by decide +kernel) ?_
  refine iw_new (pc' := 30) (c1 := 6) (s1 := 278) hf ic_fk3 lik_X8_23 (ic_in 148 (by decide +kernel)) (ic_in 73 (by decide +kernel)) (by decide +kernel) (by decide +kernel) (fun w9 hf => ?_)
  refine iw_dup (pc' := 31) (ic_cat _ _) (by decide +kernel) ?_
  obtain ⟨w10, hc, hf⟩ := ic_bd hf
  refine iw_callI (S1 := []) (w1 := w10) (pc' := 34) (c1 := 55) (s1 := 774) (ct_X3_init l κ w9 (w8.1 + 1) hc) ⟨_, rfl⟩ mi_X3_init lim_X8_25 (ic_sum8 ⟨ic_cat _ _, ic_cat _ _, trivial⟩ (Nat.le_of_ble_eq_true rfl)) (by unfold ic_rm; decide +kernel) ?_
  obtain ⟨h11, hf⟩ := ic_lk_of hf
  refine iw_jputr (pc' := 37) hf ic_fk8 h11 lif_X8_26 ic_fitO (by decide +kernel) (fun w12 hf => ?_)
  refine iw_aload_n (i := 0) (pc' := 38) 0 rfl (by decide +kernel) ?_
  refine iw_new (pc' := 41) (c1 := 56) (s1 := 775) hf ic_fk7 lik_X8_30 (ic_in 168 (by decide +kernel)) (ic_in 74 (by decide +kernel)) (by decide +kernel) (by decide +kernel) (fun w13 hf => ?_)
  refine iw_dup (pc' := 42) (ic_cat _ _) (by decide +kernel) ?_
  obtain ⟨w14, hc, hf⟩ := ic_bd hf
  refine iw_callIN (S1 := []) (w1 := w14) (pc' := 45) (c1 := 59) (s1 := 805) (ct_X7_init l κ w13 (w12.1 + 1) hc) ⟨_, rfl⟩ mi_X7_init lim_X8_32 (ic_sum8 ⟨ic_cat _ _, ic_cat _ _, trivial⟩ (Nat.le_of_ble_eq_true rfl)) (by unfold ic_rm; decide +kernel) ?_
  obtain ⟨h15, hf⟩ := ic_lk_of hf
  refine iw_jputr (pc' := 48) hf ic_fk8 h15 lif_X8_33 ic_fitO (by decide +kernel) (fun w16 hf => ?_)
  refine iw_aload_n (i := 0) (pc' := 49) 0 rfl (by decide +kernel) ?_
  refine iw_new (pc' := 52) (c1 := 60) (s1 := 810) hf ic_fk6 lik_X8_37 (ic_in 180 (by decide +kernel)) (ic_in 75 (by decide +kernel)) (by decide +kernel) (by decide +kernel) (fun w17 hf => ?_)
  refine iw_dup (pc' := 53) (ic_cat _ _) (by decide +kernel) ?_
  obtain ⟨w18, hc, hf⟩ := ic_bd hf
  refine iw_callIN (S1 := []) (w1 := w18) (pc' := 56) (c1 := 64) (s1 := 950) (ct_X6_init l κ w17 (w16.1 + 1) hc) ⟨_, rfl⟩ mi_X6_init lim_X8_39 (ic_sum8 ⟨ic_cat _ _, ic_cat _ _, trivial⟩ (Nat.le_of_ble_eq_true rfl)) (by unfold ic_rm; decide +kernel) ?_
  obtain ⟨h19, hf⟩ := ic_lk_of hf
  refine iw_jputr (pc' := 59) hf ic_fk8 h19 lif_X8_40 ic_fitO (by decide +kernel) (fun w20 hf => ?_)
  refine iw_aload_n (i := 0) (pc' := 60) 0 rfl (by decide +kernel) ?_
  refine iw_new (pc' := 63) (c1 := 65) (s1 := 953) hf ic_fk0 lik_X8_44 (ic_in 204 (by decide +kernel)) (ic_in 76 (by decide +kernel)) (by decide +kernel) (by decide +kernel) (fun w21 hf => ?_)
  refine iw_dup (pc' := 64) (ic_cat _ _) (by decide +kernel) ?_
  obtain ⟨w22, hc, hf⟩ := ic_bd hf
  refine iw_callIN (S1 := []) (w1 := w22) (pc' := 67) (c1 := 67) (s1 := 983) (ct_X0_init l κ w21 (w20.1 + 1) hc) ⟨_, rfl⟩ mi_X0_init lim_X8_46 (ic_sum8 ⟨ic_cat _ _, ic_cat _ _, trivial⟩ (Nat.le_of_ble_eq_true rfl)) (by unfold ic_rm; decide +kernel) ?_
  obtain ⟨h23, hf⟩ := ic_lk_of hf
  refine iw_jputr (pc' := 70) hf ic_fk8 h23 lif_X8_47 ic_fitO (by decide +kernel) (fun w24 hf => ?_)
  refine iw_aload_n (i := 0) (pc' := 71) 0 rfl (by decide +kernel) ?_
  refine iw_iconst (i := 2) (v := (2 : Int32)) (pc' := 72) (by decide +kernel) ?_
  refine iw_newq (pc' := 75) (c1 := 68) (s1 := 985) (C := RX2) (by decide) hf lik_X8_51 (ic_in 221 (by decide +kernel)) (by decide +kernel) (by decide +kernel) (fun w25 hf => ?_)
  obtain ⟨h26, hf⟩ := ic_lk_of hf
  refine iw_jputr (pc' := 78) hf ic_fk8 h26 lif_X8_53 ic_fitA (by decide +kernel) (fun w27 hf => ?_)
  refine iw_iconst (i := 0) (v := (0 : Int32)) (pc' := 79) (by decide +kernel) ?_
  refine iw_istore_n0 (i := 1) (pc' := 80) (L' := [(0, ic_rv κ.1 r0), (1, .int (0 : Int32))]) rfl (by decide +kernel) ?_
  refine iw_iload_n (i := 1) (pc' := 81) 1 rfl (by decide +kernel) ?_
  refine iw_aload_n (i := 0) (pc' := 82) 0 rfl (by decide +kernel) ?_
  obtain ⟨h28, hf⟩ := ic_lk_of hf
  refine iw_getr (pc' := 85) (q := (w27.2.1 r0 6)) ic_fk8 h28 rfl lif_X8_53 (by decide +kernel) ?_
  obtain ⟨h29, hf⟩ := ic_lk_of hf
  refine iw_qlen (pc' := 86) (t := 3) (N := 2) (v := (2 : Int32)) (h29.imp fun a h => ⟨h.1, h.2.1, Or.inr ⟨rfl, h.2.2⟩⟩) rfl (by decide +kernel) ?_
  refine iw_geF (off := 22) (tg := 108) (pc' := 89) (by decide) (by decide +kernel) ?_
  refine iw_aload_n (i := 0) (pc' := 90) 0 rfl (by decide +kernel) ?_
  obtain ⟨h30, hf⟩ := ic_lk_of hf
  refine iw_getr (pc' := 93) (q := (w27.2.1 r0 6)) ic_fk8 h30 rfl lif_X8_53 (by decide +kernel) ?_
  refine iw_iload_n (i := 1) (pc' := 94) 1 rfl (by decide +kernel) ?_
  refine iw_new (pc' := 97) (c1 := 69) (s1 := 987) hf ic_fk2 lik_X8_51 (ic_in 222 (by decide +kernel)) (ic_in 77 (by decide +kernel)) (by decide +kernel) (by decide +kernel) (fun w31 hf => ?_)
  refine iw_dup (pc' := 98) (ic_cat _ _) (by decide +kernel) ?_
  obtain ⟨w32, hc, hf⟩ := ic_bd hf
  refine iw_callIN (S1 := []) (w1 := w32) (pc' := 101) (c1 := 72) (s1 := 1017) (ct_X2_init l κ w31 (w27.1 + 1) hc) ⟨_, rfl⟩ mi_X2_init lim_X8_57 (ic_sum8 ⟨ic_cat _ _, rfl, ic_cat _ _, trivial⟩ (Nat.le_of_ble_eq_true rfl)) (by unfold ic_rm; decide +kernel) ?_
  obtain ⟨h33, hf⟩ := ic_lk_of hf
  obtain ⟨h34, hf⟩ := ic_lk_of hf
  refine iw_aast (pc' := 102) (t := 4) (ci := 2) (by decide) hf h33 h34 (by decide) (by decide +kernel) (fun w35 hf => ?_)
  refine iw_iinc0 (i := 1) (d := 1) (pc' := 105) (v := (1 : Int32)) (y := (1 : Int32)) (L' := [(0, ic_rv κ.1 r0), (1, .int (1 : Int32))]) 1 rfl (by decide) rfl (by decide +kernel) ?_
  refine iw_goto (off := (-25)) (pc' := 80) (by decide +kernel) ?_
  refine iw_iload_n (i := 1) (pc' := 81) 1 rfl (by decide +kernel) ?_
  refine iw_aload_n (i := 0) (pc' := 82) 0 rfl (by decide +kernel) ?_
  obtain ⟨h36, hf⟩ := ic_lk_of hf
  refine iw_getr (pc' := 85) (q := (w35.2.1 r0 6)) ic_fk8 h36 rfl lif_X8_53 (by decide +kernel) ?_
  obtain ⟨h37, hf⟩ := ic_lk_of hf
  refine iw_qlen (pc' := 86) (t := 3) (N := 2) (v := (2 : Int32)) (h37.imp fun a h => ⟨h.1, h.2.1, Or.inr ⟨rfl, h.2.2⟩⟩) rfl (by decide +kernel) ?_
  refine iw_geF (off := 22) (tg := 108) (pc' := 89) (by decide) (by decide +kernel) ?_
  refine iw_aload_n (i := 0) (pc' := 90) 0 rfl (by decide +kernel) ?_
  obtain ⟨h38, hf⟩ := ic_lk_of hf
  refine iw_getr (pc' := 93) (q := (w35.2.1 r0 6)) ic_fk8 h38 rfl lif_X8_53 (by decide +kernel) ?_
  refine iw_iload_n (i := 1) (pc' := 94) 1 rfl (by decide +kernel) ?_
  refine iw_new (pc' := 97) (c1 := 73) (s1 := 1019) hf ic_fk2 lik_X8_51 (ic_in 222 (by decide +kernel)) (ic_in 77 (by decide +kernel)) (by decide +kernel) (by decide +kernel) (fun w39 hf => ?_)
  refine iw_dup (pc' := 98) (ic_cat _ _) (by decide +kernel) ?_
  obtain ⟨w40, hc, hf⟩ := ic_bd hf
  refine iw_callIN (S1 := []) (w1 := w40) (pc' := 101) (c1 := 76) (s1 := 1049) (ct_X2_init l κ w39 (w35.1 + 1) hc) ⟨_, rfl⟩ mi_X2_init lim_X8_57 (ic_sum8 ⟨ic_cat _ _, rfl, ic_cat _ _, trivial⟩ (Nat.le_of_ble_eq_true rfl)) (by unfold ic_rm; decide +kernel) ?_
  obtain ⟨h41, hf⟩ := ic_lk_of hf
  obtain ⟨h42, hf⟩ := ic_lk_of hf
  refine iw_aast (pc' := 102) (t := 4) (ci := 2) (by decide) hf h41 h42 (by decide) (by decide +kernel) (fun w43 hf => ?_)
  refine iw_iinc0 (i := 1) (d := 1) (pc' := 105) (v := (1 : Int32)) (y := (2 : Int32)) (L' := [(0, ic_rv κ.1 r0), (1, .int (2 : Int32))]) 1 rfl (by decide) rfl (by decide +kernel) ?_
  refine iw_goto (off := (-25)) (pc' := 80) (by decide +kernel) ?_
  refine iw_iload_n (i := 1) (pc' := 81) 1 rfl (by decide +kernel) ?_
  refine iw_aload_n (i := 0) (pc' := 82) 0 rfl (by decide +kernel) ?_
  obtain ⟨h44, hf⟩ := ic_lk_of hf
  refine iw_getr (pc' := 85) (q := (w43.2.1 r0 6)) ic_fk8 h44 rfl lif_X8_53 (by decide +kernel) ?_
  obtain ⟨h45, hf⟩ := ic_lk_of hf
  refine iw_qlen (pc' := 86) (t := 3) (N := 2) (v := (2 : Int32)) (h45.imp fun a h => ⟨h.1, h.2.1, Or.inr ⟨rfl, h.2.2⟩⟩) rfl (by decide +kernel) ?_
  refine iw_geT (off := 22) (tg := 108) (pc' := 89) (by decide) (by decide +kernel) ?_
  refine iw_aload_n (i := 0) (pc' := 109) 0 rfl (by decide +kernel) ?_
  refine iw_new (pc' := 112) (c1 := 77) (s1 := 1062) hf ic_fk5 lik_X8_58 (ic_in 238 (by decide +kernel)) (ic_in 78 (by decide +kernel)) (by decide +kernel) (by decide +kernel) (fun w46 hf => ?_)
  refine iw_dup (pc' := 113) (ic_cat _ _) (by decide +kernel) ?_
  obtain ⟨w47, hc, hf⟩ := ic_bd hf
  refine iw_callIN (S1 := []) (w1 := w47) (pc' := 116) (c1 := 82) (s1 := 1110) (ct_X5_init l κ w46 (w43.1 + 1) hc) ⟨_, rfl⟩ mi_X5_init lim_X8_60 (ic_sum8 ⟨ic_cat _ _, ic_cat _ _, trivial⟩ (Nat.le_of_ble_eq_true rfl)) (by unfold ic_rm; decide +kernel) ?_
  obtain ⟨h48, hf⟩ := ic_lk_of hf
  refine iw_jputr (pc' := 119) hf ic_fk8 h48 lif_X8_61 ic_fitO (by decide +kernel) (fun w49 hf => ?_)
  refine iw_aload_n (i := 0) (pc' := 120) 0 rfl (by decide +kernel) ?_
  refine iw_new (pc' := 123) (c1 := 83) (s1 := 1123) hf ic_fk5 lik_X8_58 (ic_in 238 (by decide +kernel)) (ic_in 78 (by decide +kernel)) (by decide +kernel) (by decide +kernel) (fun w50 hf => ?_)
  refine iw_dup (pc' := 124) (ic_cat _ _) (by decide +kernel) ?_
  obtain ⟨w51, hc, hf⟩ := ic_bd hf
  refine iw_callIN (S1 := []) (w1 := w51) (pc' := 127) (c1 := 88) (s1 := 1171) (ct_X5_init l κ w50 (w49.1 + 1) hc) ⟨_, rfl⟩ mi_X5_init lim_X8_60 (ic_sum8 ⟨ic_cat _ _, ic_cat _ _, trivial⟩ (Nat.le_of_ble_eq_true rfl)) (by unfold ic_rm; decide +kernel) ?_
  obtain ⟨h52, hf⟩ := ic_lk_of hf
  refine iw_jputr (pc' := 130) hf ic_fk8 h52 lif_X8_65 ic_fitO (by decide +kernel) (fun w53 hf => ?_)
  refine iw_aload_n (i := 0) (pc' := 131) 0 rfl (by decide +kernel) ?_
  refine iw_iconst (i := 0) (v := (0 : Int32)) (pc' := 132) (by decide +kernel) ?_
  obtain ⟨h54, hf⟩ := ic_lk_of hf
  refine iw_jput (pc' := 135) hf ic_fk8 h54 lif_X8_68 (by decide +kernel) (fun w55 hf => ?_)
  refine iw_aload_n (i := 0) (pc' := 136) 0 rfl (by decide +kernel) ?_
  refine iw_iconst (i := 0) (v := (0 : Int32)) (pc' := 137) (by decide +kernel) ?_
  obtain ⟨h56, hf⟩ := ic_lk_of hf
  refine iw_jput (pc' := 140) hf ic_fk8 h56 lif_X8_72 (by decide +kernel) (fun w57 hf => ?_)
  refine iw_aload_n (i := 0) (pc' := 141) 0 rfl (by decide +kernel) ?_
  refine iw_iconst (i := (-1)) (v := (-1 : Int32)) (pc' := 142) (by decide +kernel) ?_
  obtain ⟨h58, hf⟩ := ic_lk_of hf
  refine iw_jput (pc' := 145) hf ic_fk8 h58 lif_X8_75 (by decide +kernel) (fun w59 hf => ?_)
  exact iw_jret hf (by decide +kernel)
def MX9_init : ic_Md := (yX9_init, cX9_init, 1, none, { frames := 1, cells := 16, slots := 974, locals := 20 })
theorem mi_X9_init : ic_MI MX9_init := ⟨ic_in 890 (by decide +kernel), ic_in 79 (by decide +kernel), ic_in 891 (by decide +kernel), by decide +kernel, rfl, rfl⟩
theorem lif_X9_7 : Cond.fieldLink RX9 7 RX9 (TX9 0).2.1 (TX9 0).2.2.1 ∈ ic_tb := ic_in 893 (by decide +kernel)
theorem lif_X9_13 : Cond.fieldLink RX9 13 RX9 (TX9 2).2.1 (TX9 2).2.2.1 ∈ ic_tb := ic_in 895 (by decide +kernel)
theorem lif_X9_17 : Cond.fieldLink RX9 17 RX9 (TX9 3).2.1 (TX9 3).2.2.1 ∈ ic_tb := ic_in 896 (by decide +kernel)
theorem lif_X9_20 : Cond.fieldLink RX9 20 RX9 (TX9 4).2.1 (TX9 4).2.2.1 ∈ ic_tb := ic_in 897 (by decide +kernel)
theorem lif_X9_23 : Cond.fieldLink RX9 23 RX9 (TX9 5).2.1 (TX9 5).2.2.1 ∈ ic_tb := ic_in 898 (by decide +kernel)
theorem lif_X9_26 : Cond.fieldLink RX9 26 RX9 (TX9 6).2.1 (TX9 6).2.2.1 ∈ ic_tb := ic_in 899 (by decide +kernel)
theorem lif_X9_29 : Cond.fieldLink RX9 29 RX9 (TX9 7).2.1 (TX9 7).2.2.1 ∈ ic_tb := ic_in 900 (by decide +kernel)
theorem lif_X9_32 : Cond.fieldLink RX9 32 RX9 (TX9 8).2.1 (TX9 8).2.2.1 ∈ ic_tb := ic_in 901 (by decide +kernel)
theorem lif_X9_35 : Cond.fieldLink RX9 35 RX9 (TX9 9).2.1 (TX9 9).2.2.1 ∈ ic_tb := ic_in 902 (by decide +kernel)
theorem lif_X9_38 : Cond.fieldLink RX9 38 RX9 (TX9 10).2.1 (TX9 10).2.2.1 ∈ ic_tb := ic_in 903 (by decide +kernel)
theorem lif_X9_41 : Cond.fieldLink RX9 41 RX9 (TX9 11).2.1 (TX9 11).2.2.1 ∈ ic_tb := ic_in 904 (by decide +kernel)
theorem lif_X9_44 : Cond.fieldLink RX9 44 RX9 (TX9 13).2.1 (TX9 13).2.2.1 ∈ ic_tb := ic_in 906 (by decide +kernel)
theorem lif_X9_47 : Cond.fieldLink RX9 47 RX9 (TX9 14).2.1 (TX9 14).2.2.1 ∈ ic_tb := ic_in 907 (by decide +kernel)
theorem lif_X9_50 : Cond.fieldLink RX9 50 RX9 (TX9 15).2.1 (TX9 15).2.2.1 ∈ ic_tb := ic_in 908 (by decide +kernel)
theorem lif_X9_54 : Cond.fieldLink RX9 54 RX9 (TX9 17).2.1 (TX9 17).2.2.1 ∈ ic_tb := ic_in 910 (by decide +kernel)
theorem lif_X9_57 : Cond.fieldLink RX9 57 RX9 (TX9 19).2.1 (TX9 19).2.2.1 ∈ ic_tb := ic_in 912 (by decide +kernel)
theorem lif_X9_60 : Cond.fieldLink RX9 60 RX9 (TX9 23).2.1 (TX9 23).2.2.1 ∈ ic_tb := ic_in 916 (by decide +kernel)
def gX9_init (w : ic_S) (r0 : Nat) : Option ic_S := ic_lk w r0 (0, 9) (ic_nw w 1 240 (fun w1 => ic_lk w1 r0 (0, 9) (ic_jr w1 r0 0 (w.1 + 1) (fun w3 => ic_lk w3 r0 (0, 9) (ic_ji w3 r0 2 (-1 : Int32) (fun w5 => ic_nw w5 1 7 (fun w6 => ic_lk w6 r0 (0, 9) (ic_jr w6 r0 3 (w5.1 + 1) (fun w8 => ic_nw w8 1 36 (fun w9 => ic_lk w9 r0 (0, 9) (ic_jr w9 r0 4 (w8.1 + 1) (fun w11 => ic_nw w11 1 12 (fun w12 => ic_lk w12 r0 (0, 9) (ic_jr w12 r0 5 (w11.1 + 1) (fun w14 => ic_nw w14 1 7 (fun w15 => ic_lk w15 r0 (0, 9) (ic_jr w15 r0 6 (w14.1 + 1) (fun w17 => ic_nw w17 1 36 (fun w18 => ic_lk w18 r0 (0, 9) (ic_jr w18 r0 7 (w17.1 + 1) (fun w20 => ic_nw w20 1 12 (fun w21 => ic_lk w21 r0 (0, 9) (ic_jr w21 r0 8 (w20.1 + 1) (fun w23 => ic_nw w23 1 28 (fun w24 => ic_lk w24 r0 (0, 9) (ic_jr w24 r0 9 (w23.1 + 1) (fun w26 => ic_nw w26 1 28 (fun w27 => ic_lk w27 r0 (0, 9) (ic_jr w27 r0 10 (w26.1 + 1) (fun w29 => ic_nw w29 1 448 (fun w30 => ic_lk w30 r0 (0, 9) (ic_jr w30 r0 11 (w29.1 + 1) (fun w32 => ic_nw w32 1 56 (fun w33 => ic_lk w33 r0 (0, 9) (ic_jr w33 r0 13 (w32.1 + 1) (fun w35 => ic_nw w35 1 2 (fun w36 => ic_lk w36 r0 (0, 9) (ic_jr w36 r0 14 (w35.1 + 1) (fun w38 => ic_nw w38 2 2 (fun w39 => ic_lk w39 r0 (0, 9) (ic_jr w39 r0 15 (w38.1 + 1) (fun w41 => ic_nw w41 1 12 (fun w42 => ic_lk w42 r0 (0, 9) (ic_jr w42 r0 17 (w41.1 + 1) (fun w44 => ic_nw w44 1 30 (fun w45 => ic_lk w45 r0 (0, 9) (ic_jr w45 r0 19 (w44.1 + 1) (fun w47 => ic_nw w47 1 18 (fun w48 => ic_lk w48 r0 (0, 9) (ic_jr w48 r0 23 (w47.1 + 1) (fun w50 => ic_lk w50 r0 (0, 9) (ic_lk w50 (w50.2.1 r0 9) (1, 28) (ic_ji w50 (w50.2.1 r0 9) (Int32.toNatClampNeg (25 : Int32)) (-1 : Int32) (fun w53 => some w53))))))))))))))))))))))))))))))))))))))))))))))))))))))
set_option maxRecDepth 100000 in
set_option maxHeartbeats 8000000 in
theorem ct_X9_init (l : Launch) (κ : ic_K) (w : ic_S) (r0 : Nat) {R : ic_S} (hf : gX9_init w r0 = some R) : ic_C l κ MX9_init [ic_rv κ.1 r0] w.1 w.2.1 w.2.2 none R.1 R.2.1 R.2.2 := by
  refine ic_C.of (L := [(0, ic_rv κ.1 r0)]) ⟨ic_cat _ _, trivial⟩ ⟨by decide +kernel, Nat.le_of_ble_eq_true rfl⟩ rfl ?_
  unfold gX9_init at hf
  obtain ⟨h0, hf⟩ := ic_lk_of hf
  have ho : ∃ a, r0 = a + 1 := h0.imp fun a h => h.1
  refine iw_aload_n (i := 0) (pc' := 1) 0 rfl (by decide +kernel) ?_
  refine iw_obj (i := 1) (r := r0) (pc' := 4) (ic_in 892 (by decide +kernel)) (ic_in 89 (by decide +kernel)) (ic_in 90 (by decide +kernel)) ho (ic_sum8 trivial (Nat.le_of_ble_eq_true rfl)) (by decide +kernel) ?_
  refine iw_aload_n (i := 0) (pc' := 5) 0 rfl (by decide +kernel) ?_
  refine iw_sipush (i := 240) (v := (240 : Int32)) (pc' := 8) (by decide +kernel) ?_
  refine iw_newi (pc' := 10) (c1 := 1) (s1 := 240) hf (ic_in 116 (by decide +kernel)) (by decide +kernel) (by decide +kernel) (fun w1 hf => ?_)
  obtain ⟨h2, hf⟩ := ic_lk_of hf
  refine iw_jputr (pc' := 13) hf ic_fk9 h2 lif_X9_7 ic_fitA (by decide +kernel) (fun w3 hf => ?_)
  refine iw_aload_n (i := 0) (pc' := 14) 0 rfl (by decide +kernel) ?_
  refine iw_iconst (i := (-1)) (v := (-1 : Int32)) (pc' := 15) (by decide +kernel) ?_
  obtain ⟨h4, hf⟩ := ic_lk_of hf
  refine iw_jput (pc' := 18) hf ic_fk9 h4 lif_X9_13 (by decide +kernel) (fun w5 hf => ?_)
  refine iw_aload_n (i := 0) (pc' := 19) 0 rfl (by decide +kernel) ?_
  refine iw_bipush (i := 7) (v := (7 : Int32)) (pc' := 21) (by decide +kernel) ?_
  refine iw_newi (pc' := 23) (c1 := 2) (s1 := 247) hf (ic_in 116 (by decide +kernel)) (by decide +kernel) (by decide +kernel) (fun w6 hf => ?_)
  obtain ⟨h7, hf⟩ := ic_lk_of hf
  refine iw_jputr (pc' := 26) hf ic_fk9 h7 lif_X9_17 ic_fitA (by decide +kernel) (fun w8 hf => ?_)
  refine iw_aload_n (i := 0) (pc' := 27) 0 rfl (by decide +kernel) ?_
  refine iw_bipush (i := 36) (v := (36 : Int32)) (pc' := 29) (by decide +kernel) ?_
  refine iw_newi (pc' := 31) (c1 := 3) (s1 := 283) hf (ic_in 116 (by decide +kernel)) (by decide +kernel) (by decide +kernel) (fun w9 hf => ?_)
  obtain ⟨h10, hf⟩ := ic_lk_of hf
  refine iw_jputr (pc' := 34) hf ic_fk9 h10 lif_X9_20 ic_fitA (by decide +kernel) (fun w11 hf => ?_)
  refine iw_aload_n (i := 0) (pc' := 35) 0 rfl (by decide +kernel) ?_
  refine iw_bipush (i := 12) (v := (12 : Int32)) (pc' := 37) (by decide +kernel) ?_
  refine iw_newi (pc' := 39) (c1 := 4) (s1 := 295) hf (ic_in 116 (by decide +kernel)) (by decide +kernel) (by decide +kernel) (fun w12 hf => ?_)
  obtain ⟨h13, hf⟩ := ic_lk_of hf
  refine iw_jputr (pc' := 42) hf ic_fk9 h13 lif_X9_23 ic_fitA (by decide +kernel) (fun w14 hf => ?_)
  refine iw_aload_n (i := 0) (pc' := 43) 0 rfl (by decide +kernel) ?_
  refine iw_bipush (i := 7) (v := (7 : Int32)) (pc' := 45) (by decide +kernel) ?_
  refine iw_newi (pc' := 47) (c1 := 5) (s1 := 302) hf (ic_in 116 (by decide +kernel)) (by decide +kernel) (by decide +kernel) (fun w15 hf => ?_)
  obtain ⟨h16, hf⟩ := ic_lk_of hf
  refine iw_jputr (pc' := 50) hf ic_fk9 h16 lif_X9_26 ic_fitA (by decide +kernel) (fun w17 hf => ?_)
  refine iw_aload_n (i := 0) (pc' := 51) 0 rfl (by decide +kernel) ?_
  refine iw_bipush (i := 36) (v := (36 : Int32)) (pc' := 53) (by decide +kernel) ?_
  refine iw_newi (pc' := 55) (c1 := 6) (s1 := 338) hf (ic_in 116 (by decide +kernel)) (by decide +kernel) (by decide +kernel) (fun w18 hf => ?_)
  obtain ⟨h19, hf⟩ := ic_lk_of hf
  refine iw_jputr (pc' := 58) hf ic_fk9 h19 lif_X9_29 ic_fitA (by decide +kernel) (fun w20 hf => ?_)
  refine iw_aload_n (i := 0) (pc' := 59) 0 rfl (by decide +kernel) ?_
  refine iw_bipush (i := 12) (v := (12 : Int32)) (pc' := 61) (by decide +kernel) ?_
  refine iw_newi (pc' := 63) (c1 := 7) (s1 := 350) hf (ic_in 116 (by decide +kernel)) (by decide +kernel) (by decide +kernel) (fun w21 hf => ?_)
  obtain ⟨h22, hf⟩ := ic_lk_of hf
  refine iw_jputr (pc' := 66) hf ic_fk9 h22 lif_X9_32 ic_fitA (by decide +kernel) (fun w23 hf => ?_)
  refine iw_aload_n (i := 0) (pc' := 67) 0 rfl (by decide +kernel) ?_
  refine iw_bipush (i := 28) (v := (28 : Int32)) (pc' := 69) (by decide +kernel) ?_
  refine iw_newi (pc' := 71) (c1 := 8) (s1 := 378) hf (ic_in 116 (by decide +kernel)) (by decide +kernel) (by decide +kernel) (fun w24 hf => ?_)
  obtain ⟨h25, hf⟩ := ic_lk_of hf
  refine iw_jputr (pc' := 74) hf ic_fk9 h25 lif_X9_35 ic_fitA (by decide +kernel) (fun w26 hf => ?_)
  refine iw_aload_n (i := 0) (pc' := 75) 0 rfl (by decide +kernel) ?_
  refine iw_bipush (i := 28) (v := (28 : Int32)) (pc' := 77) (by decide +kernel) ?_
  refine iw_newi (pc' := 79) (c1 := 9) (s1 := 406) hf (ic_in 116 (by decide +kernel)) (by decide +kernel) (by decide +kernel) (fun w27 hf => ?_)
  obtain ⟨h28, hf⟩ := ic_lk_of hf
  refine iw_jputr (pc' := 82) hf ic_fk9 h28 lif_X9_38 ic_fitA (by decide +kernel) (fun w29 hf => ?_)
  refine iw_aload_n (i := 0) (pc' := 83) 0 rfl (by decide +kernel) ?_
  refine iw_sipush (i := 448) (v := (448 : Int32)) (pc' := 86) (by decide +kernel) ?_
  refine iw_newi (pc' := 88) (c1 := 10) (s1 := 854) hf (ic_in 116 (by decide +kernel)) (by decide +kernel) (by decide +kernel) (fun w30 hf => ?_)
  obtain ⟨h31, hf⟩ := ic_lk_of hf
  refine iw_jputr (pc' := 91) hf ic_fk9 h31 lif_X9_41 ic_fitA (by decide +kernel) (fun w32 hf => ?_)
  refine iw_aload_n (i := 0) (pc' := 92) 0 rfl (by decide +kernel) ?_
  refine iw_bipush (i := 56) (v := (56 : Int32)) (pc' := 94) (by decide +kernel) ?_
  refine iw_newi (pc' := 96) (c1 := 11) (s1 := 910) hf (ic_in 116 (by decide +kernel)) (by decide +kernel) (by decide +kernel) (fun w33 hf => ?_)
  obtain ⟨h34, hf⟩ := ic_lk_of hf
  refine iw_jputr (pc' := 99) hf ic_fk9 h34 lif_X9_44 ic_fitA (by decide +kernel) (fun w35 hf => ?_)
  refine iw_aload_n (i := 0) (pc' := 100) 0 rfl (by decide +kernel) ?_
  refine iw_iconst (i := 2) (v := (2 : Int32)) (pc' := 101) (by decide +kernel) ?_
  refine iw_newi (pc' := 103) (c1 := 12) (s1 := 912) hf (ic_in 116 (by decide +kernel)) (by decide +kernel) (by decide +kernel) (fun w36 hf => ?_)
  obtain ⟨h37, hf⟩ := ic_lk_of hf
  refine iw_jputr (pc' := 106) hf ic_fk9 h37 lif_X9_47 ic_fitA (by decide +kernel) (fun w38 hf => ?_)
  refine iw_aload_n (i := 0) (pc' := 107) 0 rfl (by decide +kernel) ?_
  refine iw_iconst (i := 2) (v := (2 : Int32)) (pc' := 108) (by decide +kernel) ?_
  refine iw_newz (pc' := 110) (c1 := 13) (s1 := 914) hf (ic_in 202 (by decide +kernel)) (by decide +kernel) (by decide +kernel) (fun w39 hf => ?_)
  obtain ⟨h40, hf⟩ := ic_lk_of hf
  refine iw_jputr (pc' := 113) hf ic_fk9 h40 lif_X9_50 ic_fitA (by decide +kernel) (fun w41 hf => ?_)
  refine iw_aload_n (i := 0) (pc' := 114) 0 rfl (by decide +kernel) ?_
  refine iw_bipush (i := 12) (v := (12 : Int32)) (pc' := 116) (by decide +kernel) ?_
  refine iw_newi (pc' := 118) (c1 := 14) (s1 := 926) hf (ic_in 116 (by decide +kernel)) (by decide +kernel) (by decide +kernel) (fun w42 hf => ?_)
  obtain ⟨h43, hf⟩ := ic_lk_of hf
  refine iw_jputr (pc' := 121) hf ic_fk9 h43 lif_X9_54 ic_fitA (by decide +kernel) (fun w44 hf => ?_)
  refine iw_aload_n (i := 0) (pc' := 122) 0 rfl (by decide +kernel) ?_
  refine iw_bipush (i := 30) (v := (30 : Int32)) (pc' := 124) (by decide +kernel) ?_
  refine iw_newi (pc' := 126) (c1 := 15) (s1 := 956) hf (ic_in 116 (by decide +kernel)) (by decide +kernel) (by decide +kernel) (fun w45 hf => ?_)
  obtain ⟨h46, hf⟩ := ic_lk_of hf
  refine iw_jputr (pc' := 129) hf ic_fk9 h46 lif_X9_57 ic_fitA (by decide +kernel) (fun w47 hf => ?_)
  refine iw_aload_n (i := 0) (pc' := 130) 0 rfl (by decide +kernel) ?_
  refine iw_bipush (i := 18) (v := (18 : Int32)) (pc' := 132) (by decide +kernel) ?_
  refine iw_newi (pc' := 134) (c1 := 16) (s1 := 974) hf (ic_in 116 (by decide +kernel)) (by decide +kernel) (by decide +kernel) (fun w48 hf => ?_)
  obtain ⟨h49, hf⟩ := ic_lk_of hf
  refine iw_jputr (pc' := 137) hf ic_fk9 h49 lif_X9_60 ic_fitA (by decide +kernel) (fun w50 hf => ?_)
  refine iw_aload_n (i := 0) (pc' := 138) 0 rfl (by decide +kernel) ?_
  obtain ⟨h51, hf⟩ := ic_lk_of hf
  refine iw_getr (pc' := 141) (q := (w50.2.1 r0 9)) ic_fk9 h51 rfl lif_X9_35 (by decide +kernel) ?_
  refine iw_bipush (i := 25) (v := (25 : Int32)) (pc' := 143) (by decide +kernel) ?_
  refine iw_iconst (i := (-1)) (v := (-1 : Int32)) (pc' := 144) (by decide +kernel) ?_
  obtain ⟨h52, hf⟩ := ic_lk_of hf
  refine iw_jast (pc' := 145) hf h52 (by decide) (by decide +kernel) (fun w53 hf => ?_)
  exact iw_jret hf (by decide +kernel)
