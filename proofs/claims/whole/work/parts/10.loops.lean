set_option maxHeartbeats 4000000 in
set_option maxRecDepth 100000 in
theorem c_X4_isLabel (l : Launch) (D : va_G) (cI cZ : ClassId) (ad : Nat → Nat)  (a0 : Int32) (res : Int32) (h : fn_X4_isLabel a0 = some res) : mc_C l yX4_isLabel wv_X4_isLabel { frames := 0, cells := 0, slots := 0, locals := 0 } D [(cI, .int), (cZ, .boolean)] [.int a0] [] (some (.int res)) [] := by
  refine mc_ofz (own := RX4) (by decide) rfl rfl (Nat.le_of_ble_eq_true rfl) ?_
  intro p e s m below meth c A Q ls hx hb hml hown hts hK hP hD hA hl hend
  have hS : va_S A s.heap s.heap [] := va_S.rf
  have hl : lv_has ls 1 [(0, .int a0)] := hl
  obtain ⟨H, hH⟩ : ∃ H, H = s.heap := ⟨_, rfl⟩
  obtain ⟨locs, hlo⟩ : ∃ locs : List Loc, locs = [] := ⟨_, rfl⟩
  have hS : va_S A s.heap H locs := by rw [hH, hlo]; exact hS
  have hP : va_P D vwCl [] H := by rw [hH]; exact hP
  suffices h9 : W p l e { frames := 0, cells := 0, slots := 0, locals := 0 } s m ([.int a0] : List Value).toArray below meth c H locs 0 0 Q (F0 m 0 ls []) by rw [hH, hlo] at h9; exact h9
  clear hH hlo
  refine lv_iload_n hx hb dX4_isLabel_0 rfl (lv_at hl 0 rfl) ?_
  refine lv_if_lt (tgt := 14) hx hb dX4_isLabel_1 (by decide) (fun c_1 => ?_) (fun c_1 => ?_)
  · have h := ox_t c_1 h
    refine lv_iconst (v := 0) hx hb dX4_isLabel_14 (by decide) ?_
    have h := Option.some.inj h
    subst h
    exact hend H locs _ ls hP hD hS dX4_isLabel_15 nb_0
  · have h := ox_f c_1 h
    refine lv_iload_n hx hb dX4_isLabel_4 rfl (lv_at hl 0 rfl) ?_
    refine lv_bipush (v := 16) hx hb dX4_isLabel_5 (by decide) ?_
    refine lv_icmp_ge (tgt := 14) hx hb dX4_isLabel_7 (by decide) (fun c_7 => ?_) (fun c_7 => ?_)
    · have h := ox_t c_7 h
      refine lv_iconst (v := 0) hx hb dX4_isLabel_14 (by decide) ?_
      have h := Option.some.inj h
      subst h
      exact hend H locs _ ls hP hD hS dX4_isLabel_15 nb_0
    · have h := ox_f c_7 h
      refine lv_iconst (v := 1) hx hb dX4_isLabel_10 (by decide) ?_
      refine lv_goto (tgt := 15) hx hb dX4_isLabel_11 (by decide) ?_
      have h := Option.some.inj h
      subst h
      exact hend H locs _ ls hP hD hS dX4_isLabel_15 nb_1
set_option maxHeartbeats 4000000 in
set_option maxRecDepth 100000 in
theorem c_X4_labelsOfKind (l : Launch) (D : va_G) (cI cZ : ClassId) (ad : Nat → Nat) (F_kinds : Nat → Int32) (a1 : Int32) (res : Int32) (h : fn_X4_labelsOfKind F_kinds a1 = some res) : mc_C l yX4_labelsOfKind wv_X4_labelsOfKind { frames := 0, cells := 0, slots := 0, locals := 0 } D [(cI, .int), (cZ, .boolean)] [.ref (ad 0), .int a1] [(kF ad), (kI cI (ad 6) 16 F_kinds)] (some (.int res)) [(kF ad), (kI cI (ad 6) 16 F_kinds)] := by
  refine mc_ofi (own := RX4) (by decide) rfl rfl (Nat.le_of_ble_eq_true rfl) ?_
  intro p e s m below meth c A Q ls hx hb hml hown hts hK hP hD hA hl hend
  have hS : va_S A s.heap s.heap [] := va_S.rf
  have hl : lv_has ls 4 [(0, .ref (ad 0)), (1, .int a1)] := hl
  obtain ⟨H, hH⟩ : ∃ H, H = s.heap := ⟨_, rfl⟩
  obtain ⟨locs, hlo⟩ : ∃ locs : List Loc, locs = [] := ⟨_, rfl⟩
  have hS : va_S A s.heap H locs := by rw [hH, hlo]; exact hS
  have hP : va_P D vwCl [(kF ad), (kI cI (ad 6) 16 F_kinds)] H := by rw [hH]; exact hP
  suffices h9 : W p l e { frames := 0, cells := 0, slots := 0, locals := 0 } s m ([.ref (ad 0), .int a1] : List Value).toArray below meth c H locs 0 0 Q (F0 m 0 ls []) by rw [hH, hlo] at h9; exact h9
  clear hH hlo
  have hiX4 : ∀ w ∈ wsX40, w ∈ wv_X4_labelsOfKind := fun w h => List.mem_cons_of_mem _ (inlX4 w h)
  have hk0 := hts (.fieldLink RX4 16 "FairLoops" "kinds" "[I") (List.mem_cons_of_mem _ wk_18)
  refine lv_iconst (v := 0) hx hb dX4_labelsOfKind_0 (by decide) ?_
  refine lv_istore_n (lv' := [(2, .int 0), (0, .ref (ad 0)), (1, .int a1)]) hx hb dX4_labelsOfKind_1 rfl hl (by decide) rfl (fun ls hl => ?_)
  refine lv_iconst (v := 0) hx hb dX4_labelsOfKind_2 (by decide) ?_
  refine lv_istore_n (lv' := [(3, .int 0), (2, .int 0), (0, .ref (ad 0)), (1, .int a1)]) hx hb dX4_labelsOfKind_3 rfl hl (by decide) rfl (fun ls hl => ?_)
  obtain ⟨ex_4, hex_4, h_4⟩ := ox_b_of h
  have hX_4 : ∀ (v2_4 : Int32) (v3_4 : Int32) (H : Heap) (locs : List Loc) (ls : Array Slot), (v2_4, v3_4) = ex_4 → va_P D vwCl [(kF ad), (kI cI (ad 6) 16 F_kinds)] H → va_D A [(kF ad), (kI cI (ad 6) 16 F_kinds)] → va_S A s.heap H locs → lv_has ls 4 [(2, .int v2_4)] → W p l e { frames := 0, cells := 0, slots := 0, locals := 0 } s m ([.ref (ad 0), .int a1] : List Value).toArray below meth c H locs 0 0 Q (F0 m 32 ls []) := by
    intro v2_4 v3_4 H locs ls hex_4 hP hD hS hl
    subst hex_4
    have h := h_4
    refine lv_iload_n hx hb dX4_labelsOfKind_32 rfl (lv_at hl 0 rfl) ?_
    have h := Option.some.inj h
    subst h
    exact hend H locs _ ls hP hD hS dX4_labelsOfKind_33 trivial
  have hL_4 : ∀ (n : Nat) (v2_4 : Int32) (v3_4 : Int32) (H : Heap) (locs : List Loc) (ls : Array Slot), ox_l (fn_X4_labelsOfKind_l4 F_kinds a1) n (v2_4, v3_4) = some ex_4 → va_P D vwCl [(kF ad), (kI cI (ad 6) 16 F_kinds)] H → va_D A [(kF ad), (kI cI (ad 6) 16 F_kinds)] → va_S A s.heap H locs → lv_has ls 4 [(0, .ref (ad 0)), (1, .int a1), (2, .int v2_4), (3, .int v3_4)] → W p l e { frames := 0, cells := 0, slots := 0, locals := 0 } s m ([.ref (ad 0), .int a1] : List Value).toArray below meth c H locs 0 0 Q (F0 m 4 ls []) := by
    intro n
    induction n with
    | zero => intro v2_4 v3_4 H locs ls hlp; exact ox_l_0 hlp
    | succ n ih_4 =>
      intro v2_4 v3_4 H locs ls hlp_4 hP hD hS hl
      obtain ⟨z_4, h, hlp_4⟩ := ox_l_of hlp_4
      refine lv_iload_n hx hb dX4_labelsOfKind_4 rfl (lv_at hl 3 rfl) ?_
      refine lv_bipush (v := 16) hx hb dX4_labelsOfKind_5 (by decide) ?_
      refine lv_icmp_ge (tgt := 32) hx hb dX4_labelsOfKind_7 (by decide) (fun c_7 => ?_) (fun c_7 => ?_)
      · have h := ox_t c_7 h
        obtain rfl := Option.some.inj h
        exact hX_4 v2_4 v3_4 H locs ls hlp_4 hP hD hS (lv_sub hl [2] rfl)
      · have h := ox_f c_7 h
        refine lv_aload_n hx hb dX4_labelsOfKind_10 rfl (lv_at hl 0 rfl) ?_
        refine va_get (D := D) (ci := 4) (v := .ref (ad 6)) (C := RX4) (T := TX4) (N := 6) hx hb hts hiX4 hown hK hP 0 rfl rfl 1 (by decide) hk0 (fun _ h9 => h9) rfl dX4_labelsOfKind_11 ?_
        refine lv_iload_n hx hb dX4_labelsOfKind_14 rfl (lv_at hl 3 rfl) ?_
        obtain ⟨hi_15, h⟩ := ox_i_of h
        refine va_iald hx hb hK hP 1 0 rfl rfl hi_15 dX4_labelsOfKind_15 ?_
        refine lv_iload_n hx hb dX4_labelsOfKind_16 rfl (lv_at hl 1 rfl) ?_
        refine lv_icmp_ne (tgt := 26) hx hb dX4_labelsOfKind_17 (by decide) (fun c_17 => ?_) (fun c_17 => ?_)
        · have h := ox_f c_17 h
          refine lv_iinc (v := v3_4 + 1) (lv' := [(3, .int (v3_4 + 1)), (0, .ref (ad 0)), (1, .int a1), (2, .int v2_4)]) hx hb dX4_labelsOfKind_26 hl (k := 3) rfl rfl (by decide) rfl (fun ls hl => ?_)
          refine lv_goto (tgt := 4) hx hb dX4_labelsOfKind_29 (by decide) ?_
          obtain rfl := Option.some.inj h
          exact ih_4 v2_4 (v3_4 + 1) H locs ls hlp_4 hP hD hS (lv_sub hl [1, 2, 3, 0] rfl)
        · have h := ox_t c_17 h
          refine lv_iload_n hx hb dX4_labelsOfKind_20 rfl (lv_at hl 2 rfl) ?_
          refine lv_iconst (v := 1) hx hb dX4_labelsOfKind_21 (by decide) ?_
          refine lv_iload_n hx hb dX4_labelsOfKind_22 rfl (lv_at hl 3 rfl) ?_
          refine lv_ishl hx hb dX4_labelsOfKind_23 ?_
          refine lv_ior hx hb dX4_labelsOfKind_24 ?_
          refine lv_istore_n (lv' := [(2, .int (v2_4 ||| (1 <<< (v3_4 &&& 31)))), (0, .ref (ad 0)), (1, .int a1), (3, .int v3_4)]) hx hb dX4_labelsOfKind_25 rfl hl (by decide) rfl (fun ls hl => ?_)
          refine lv_iinc (v := v3_4 + 1) (lv' := [(3, .int (v3_4 + 1)), (2, .int (v2_4 ||| (1 <<< (v3_4 &&& 31)))), (0, .ref (ad 0)), (1, .int a1)]) hx hb dX4_labelsOfKind_26 hl (k := 3) rfl rfl (by decide) rfl (fun ls hl => ?_)
          refine lv_goto (tgt := 4) hx hb dX4_labelsOfKind_29 (by decide) ?_
          obtain rfl := Option.some.inj h
          exact ih_4 (v2_4 ||| (1 <<< (v3_4 &&& 31))) (v3_4 + 1) H locs ls hlp_4 hP hD hS (lv_sub hl [2, 3, 1, 0] rfl)
  exact hL_4 1000000 0 0 H locs ls hex_4 hP hD hS (lv_sub hl [2, 3, 1, 0] rfl)
set_option maxHeartbeats 4000000 in
set_option maxRecDepth 100000 in
theorem c_X4_chooseStatesOf (l : Launch) (D : va_G) (cI cZ : ClassId) (ad : Nat → Nat) (G_states : Int32) (G_moves : Int32) (G_ends : Int32) (R_found : Int32) (K_found : Int32) (K_closed : Int32) (K_entries : Int32) (K_depth : Int32) (K_opened : Int32) (G_asks : Nat → Int32) (G_to : Nat → Int32) (G_out : Nat → Int32) (G_start : Nat → Int32) (R_line : Nat → Int32) (R_far : Nat → Int32) (R_lastMove : Nat → Int32) (K_chosen : Nat → Int32) (a1 : Int32) (res : Int32 × (Nat → Int32) × (Nat → Int32) × (Nat → Int32) × (Nat → Int32)) (h : fn_X4_chooseStatesOf G_states R_found G_asks G_to G_out G_start R_line R_far R_lastMove K_chosen a1 = some res) : mc_C l yX4_chooseStatesOf wv_X4_chooseStatesOf { frames := 2, cells := 0, slots := 0, locals := 48 } D [(cI, .int), (cZ, .boolean)] [.ref (ad 0), .int a1] [(kF ad), (kG ad G_states G_moves G_ends), (kR ad R_found), (kK ad K_found K_closed K_entries K_depth K_opened), (kI cI (ad 8) 200 G_asks), (kI cI (ad 12) 600 G_to), (kI cI (ad 14) 600 G_out), (kI cI (ad 15) 201 G_start), (kI cI (ad 16) 200 R_line), (kI cI (ad 17) 200 R_far), (kI cI (ad 18) 200 R_lastMove), (kZ cZ (ad 19) 200 K_chosen)] (none) [(kF ad), (kG ad G_states G_moves G_ends), (kR ad res.1), (kK ad K_found K_closed K_entries K_depth K_opened), (kI cI (ad 8) 200 G_asks), (kI cI (ad 12) 600 G_to), (kI cI (ad 14) 600 G_out), (kI cI (ad 15) 201 G_start), (kI cI (ad 16) 200 res.2.1), (kI cI (ad 17) 200 res.2.2.1), (kI cI (ad 18) 200 res.2.2.2.1), (kZ cZ (ad 19) 200 res.2.2.2.2)] := by
  refine mc_ofv (own := RX4) (by decide) rfl rfl (Nat.le_of_ble_eq_true rfl) ?_
  intro p e s m below meth c A Q ls hx hb hml hown hts hK hP hD hA hl hend
  have hS : va_S A s.heap s.heap [] := va_S.rf
  have hl : lv_has ls 3 [(0, .ref (ad 0)), (1, .int a1)] := hl
  obtain ⟨H, hH⟩ : ∃ H, H = s.heap := ⟨_, rfl⟩
  obtain ⟨locs, hlo⟩ : ∃ locs : List Loc, locs = [] := ⟨_, rfl⟩
  have hS : va_S A s.heap H locs := by rw [hH, hlo]; exact hS
  have hP : va_P D vwCl [(kF ad), (kG ad G_states G_moves G_ends), (kR ad R_found), (kK ad K_found K_closed K_entries K_depth K_opened), (kI cI (ad 8) 200 G_asks), (kI cI (ad 12) 600 G_to), (kI cI (ad 14) 600 G_out), (kI cI (ad 15) 201 G_start), (kI cI (ad 16) 200 R_line), (kI cI (ad 17) 200 R_far), (kI cI (ad 18) 200 R_lastMove), (kZ cZ (ad 19) 200 K_chosen)] H := by rw [hH]; exact hP
  suffices h9 : W p l e { frames := 2, cells := 0, slots := 0, locals := 48 } s m ([.ref (ad 0), .int a1] : List Value).toArray below meth c H locs 0 0 Q (F0 m 0 ls []) by rw [hH, hlo] at h9; exact h9
  clear hH hlo
  have hiX0 : ∀ w ∈ wsX00, w ∈ wv_X4_chooseStatesOf := fun w h => List.mem_cons_of_mem _ (inlX0 w h)
  have hiX1 : ∀ w ∈ wsX10, w ∈ wv_X4_chooseStatesOf := fun w h => List.mem_cons_of_mem _ (inlX1 w h)
  have hiX2 : ∀ w ∈ wsX20, w ∈ wv_X4_chooseStatesOf := fun w h => List.mem_cons_of_mem _ (inlX2 w h)
  have hiX4 : ∀ w ∈ wsX40, w ∈ wv_X4_chooseStatesOf := fun w h => List.mem_cons_of_mem _ (inlX4 w h)
  have hk0 := hts (.fieldLink RX4 23 "FairLoops" "reach" "LFairLoops$Reach;") (List.mem_cons_of_mem _ wk_22)
  have hk1 := hts (.fieldLink RX4 10 "FairLoops" "graph" "LFairLoops$Graph;") (List.mem_cons_of_mem _ wk_16)
  have hk2 := hts (.fieldLink RX4 51 "FairLoops$Graph" "states" "I") (List.mem_cons_of_mem _ wk_108)
  have hk3 := hts (.fieldLink RX4 30 "FairLoops" "knots" "LFairLoops$Knots;") (List.mem_cons_of_mem _ wk_26)
  have hk4 := hts (.fieldLink RX4 138 "FairLoops$Knots" "chosen" "[Z") (List.mem_cons_of_mem _ wk_219)
  have hk5 := hts (.fieldLink RX4 167 "FairLoops$Reach" "far" "[I") (List.mem_cons_of_mem _ wk_220)
  have hk6 := hts (.fieldLink RX4 170 "FairLoops$Graph" "asks" "[I") (List.mem_cons_of_mem _ wk_221)
  refine lv_aload_n hx hb dX4_chooseStatesOf_0 rfl (lv_at hl 0 rfl) ?_
  refine va_get (D := D) (ci := 4) (v := .ref (ad 2)) (C := RX4) (T := TX4) (N := 6) hx hb hts hiX4 hown hK hP 0 rfl rfl 2 (by decide) hk0 (fun _ h9 => h9) rfl dX4_chooseStatesOf_1 ?_
  refine lv_aload_n hx hb dX4_chooseStatesOf_4 rfl (lv_at hl 0 rfl) ?_
  refine va_get (D := D) (ci := 4) (v := .ref (ad 1)) (C := RX4) (T := TX4) (N := 6) hx hb hts hiX4 hown hK hP 0 rfl rfl 0 (by decide) hk1 (fun _ h9 => h9) rfl dX4_chooseStatesOf_5 ?_
  obtain ⟨⟨R_found_8, R_line_8, R_far_8, R_lastMove_8⟩, hc_8, h⟩ := ox_b_of h
  refine mc_callV (As := [.ref (ad 1)]) (rest := []) (b := ad 2) (Wc := [(kG ad G_states G_moves G_ends), (kR ad R_found), (kI cI (ad 12) 600 G_to), (kI cI (ad 14) 600 G_out), (kI cI (ad 15) 201 G_start), (kI cI (ad 16) 200 R_line), (kI cI (ad 17) 200 R_far), (kI cI (ad 18) 200 R_lastMove)]) (wr := [(kF ad), (kK ad K_found K_closed K_entries K_depth K_opened), (kI cI (ad 8) 200 G_asks), (kZ cZ (ad 19) 200 K_chosen)]) (W1 := [(kG ad G_states G_moves G_ends), (kR ad R_found_8), (kI cI (ad 12) 600 G_to), (kI cI (ad 14) 600 G_out), (kI cI (ad 15) 201 G_start), (kI cI (ad 16) 200 R_line_8), (kI cI (ad 17) 200 R_far_8), (kI cI (ad 18) 200 R_lastMove_8)]) (wn := [(kF ad), (kG ad G_states G_moves G_ends), (kR ad R_found_8), (kK ad K_found K_closed K_entries K_depth K_opened), (kI cI (ad 8) 200 G_asks), (kI cI (ad 12) 600 G_to), (kI cI (ad 14) 600 G_out), (kI cI (ad 15) 201 G_start), (kI cI (ad 16) 200 R_line_8), (kI cI (ad 17) 200 R_far_8), (kI cI (ad 18) 200 R_lastMove_8), (kZ cZ (ad 19) 200 K_chosen)]) (rv := none) ⟨hx, hb, hml, hown, hts⟩ (c_X2_walk l D cI cZ ad G_states G_moves G_ends R_found G_to G_out G_start R_line R_far R_lastMove  _ hc_8) (cwV 1 hts (gl_V wk_178 wk_179 wk_180 wk_21 wk_181) rfl rfl rfl (by decide +kernel) ⟨Nat.le_of_ble_eq_true rfl, Nat.le_of_ble_eq_true rfl⟩) hK hP hD hS hA 2 1 rfl rfl rfl [1, 2, 5, 6, 7, 8, 9, 10] [0, 3, 4, 11] [0, 4, 5, 1, 2, 6, 7, 8, 9, 10, 11, 3] rfl rfl (by decide) rfl (by decide) (by decide) rfl rfl (by decide) rfl rfl hl.1 (Nat.le_of_ble_eq_true rfl) dX4_chooseStatesOf_8 ⟨Nat.zero_le _, Nat.zero_le _⟩ (fun H locs hP hD hS => ?_)
  show W p l e { frames := 2, cells := 0, slots := 0, locals := 48 } s m ([.ref (ad 0), .int a1] : List Value).toArray below meth c H locs 0 0 Q (F0 m 11 ls [])
  refine lv_iconst (v := 0) hx hb dX4_chooseStatesOf_11 (by decide) ?_
  refine lv_istore_n (lv' := [(2, .int 0), (0, .ref (ad 0)), (1, .int a1)]) hx hb dX4_chooseStatesOf_12 rfl hl (by decide) rfl (fun ls hl => ?_)
  obtain ⟨ex_13, hex_13, h_13⟩ := ox_b_of h
  have hX_13 : ∀ (v2_13 : Int32) (K_chosen_13 : Nat → Int32) (H : Heap) (locs : List Loc) (ls : Array Slot), (v2_13, K_chosen_13) = ex_13 → va_P D vwCl [(kF ad), (kG ad G_states G_moves G_ends), (kR ad R_found_8), (kK ad K_found K_closed K_entries K_depth K_opened), (kI cI (ad 8) 200 G_asks), (kI cI (ad 12) 600 G_to), (kI cI (ad 14) 600 G_out), (kI cI (ad 15) 201 G_start), (kI cI (ad 16) 200 R_line_8), (kI cI (ad 17) 200 R_far_8), (kI cI (ad 18) 200 R_lastMove_8), (kZ cZ (ad 19) 200 K_chosen_13)] H → va_D A [(kF ad), (kG ad G_states G_moves G_ends), (kR ad R_found_8), (kK ad K_found K_closed K_entries K_depth K_opened), (kI cI (ad 8) 200 G_asks), (kI cI (ad 12) 600 G_to), (kI cI (ad 14) 600 G_out), (kI cI (ad 15) 201 G_start), (kI cI (ad 16) 200 R_line_8), (kI cI (ad 17) 200 R_far_8), (kI cI (ad 18) 200 R_lastMove_8), (kZ cZ (ad 19) 200 K_chosen_13)] → va_S A s.heap H locs → lv_has ls 3 [] → W p l e { frames := 2, cells := 0, slots := 0, locals := 48 } s m ([.ref (ad 0), .int a1] : List Value).toArray below meth c H locs 0 0 Q (F0 m 74 ls []) := by
    intro v2_13 K_chosen_13 H locs ls hex_13 hP hD hS hl
    subst hex_13
    have h := h_13
    have h := Option.some.inj h
    subst h
    exact hend H locs _ ls hP hD hS dX4_chooseStatesOf_74 trivial
  have hL_13 : ∀ (n : Nat) (v2_13 : Int32) (K_chosen_13 : Nat → Int32) (H : Heap) (locs : List Loc) (ls : Array Slot), ox_l (fn_X4_chooseStatesOf_l13 G_states R_far_8 G_asks a1) n (v2_13, K_chosen_13) = some ex_13 → va_P D vwCl [(kF ad), (kG ad G_states G_moves G_ends), (kR ad R_found_8), (kK ad K_found K_closed K_entries K_depth K_opened), (kI cI (ad 8) 200 G_asks), (kI cI (ad 12) 600 G_to), (kI cI (ad 14) 600 G_out), (kI cI (ad 15) 201 G_start), (kI cI (ad 16) 200 R_line_8), (kI cI (ad 17) 200 R_far_8), (kI cI (ad 18) 200 R_lastMove_8), (kZ cZ (ad 19) 200 K_chosen_13)] H → va_D A [(kF ad), (kG ad G_states G_moves G_ends), (kR ad R_found_8), (kK ad K_found K_closed K_entries K_depth K_opened), (kI cI (ad 8) 200 G_asks), (kI cI (ad 12) 600 G_to), (kI cI (ad 14) 600 G_out), (kI cI (ad 15) 201 G_start), (kI cI (ad 16) 200 R_line_8), (kI cI (ad 17) 200 R_far_8), (kI cI (ad 18) 200 R_lastMove_8), (kZ cZ (ad 19) 200 K_chosen_13)] → va_S A s.heap H locs → lv_has ls 3 [(0, .ref (ad 0)), (1, .int a1), (2, .int v2_13)] → W p l e { frames := 2, cells := 0, slots := 0, locals := 48 } s m ([.ref (ad 0), .int a1] : List Value).toArray below meth c H locs 0 0 Q (F0 m 13 ls []) := by
    intro n
    induction n with
    | zero => intro v2_13 K_chosen_13 H locs ls hlp; exact ox_l_0 hlp
    | succ n ih_13 =>
      intro v2_13 K_chosen_13 H locs ls hlp_13 hP hD hS hl
      obtain ⟨z_13, h, hlp_13⟩ := ox_l_of hlp_13
      refine lv_iload_n hx hb dX4_chooseStatesOf_13 rfl (lv_at hl 2 rfl) ?_
      refine lv_aload_n hx hb dX4_chooseStatesOf_14 rfl (lv_at hl 0 rfl) ?_
      refine va_get (D := D) (ci := 4) (v := .ref (ad 1)) (C := RX4) (T := TX4) (N := 6) hx hb hts hiX4 hown hK hP 0 rfl rfl 0 (by decide) hk1 (fun _ h9 => h9) rfl dX4_chooseStatesOf_15 ?_
      refine va_get (D := D) (ci := 0) (v := .int G_states) (C := RX0) (T := TX0) (N := 11) hx hb hts hiX0 hown hK hP 1 rfl rfl 0 (by decide) hk2 (fun _ h9 => h9) rfl dX4_chooseStatesOf_18 ?_
      refine lv_icmp_ge (tgt := 74) hx hb dX4_chooseStatesOf_21 (by decide) (fun c_21 => ?_) (fun c_21 => ?_)
      · have h := ox_t c_21 h
        obtain rfl := Option.some.inj h
        exact hX_13 v2_13 K_chosen_13 H locs ls hlp_13 hP hD hS (lv_sub hl [] rfl)
      · have h := ox_f c_21 h
        refine lv_aload_n hx hb dX4_chooseStatesOf_24 rfl (lv_at hl 0 rfl) ?_
        refine va_get (D := D) (ci := 4) (v := .ref (ad 3)) (C := RX4) (T := TX4) (N := 6) hx hb hts hiX4 hown hK hP 0 rfl rfl 3 (by decide) hk3 (fun _ h9 => h9) rfl dX4_chooseStatesOf_25 ?_
        refine va_get (D := D) (ci := 1) (v := .ref (ad 19)) (C := RX1) (T := TX1) (N := 13) hx hb hts hiX1 hown hK hP 3 rfl rfl 0 (by decide) hk4 (fun _ h9 => h9) rfl dX4_chooseStatesOf_28 ?_
        refine lv_iload_n hx hb dX4_chooseStatesOf_31 rfl (lv_at hl 2 rfl) ?_
        refine lv_aload_n hx hb dX4_chooseStatesOf_32 rfl (lv_at hl 0 rfl) ?_
        refine va_get (D := D) (ci := 4) (v := .ref (ad 2)) (C := RX4) (T := TX4) (N := 6) hx hb hts hiX4 hown hK hP 0 rfl rfl 2 (by decide) hk0 (fun _ h9 => h9) rfl dX4_chooseStatesOf_33 ?_
        refine va_get (D := D) (ci := 2) (v := .ref (ad 17)) (C := RX2) (T := TX2) (N := 4) hx hb hts hiX2 hown hK hP 2 rfl rfl 2 (by decide) hk5 (fun _ h9 => h9) rfl dX4_chooseStatesOf_36 ?_
        refine lv_iload_n hx hb dX4_chooseStatesOf_39 rfl (lv_at hl 2 rfl) ?_
        obtain ⟨hi_40, h⟩ := ox_i_of h
        refine va_iald hx hb hK hP 9 0 rfl rfl hi_40 dX4_chooseStatesOf_40 ?_
        refine lv_iconst (v := (-1)) hx hb dX4_chooseStatesOf_41 (by decide) ?_
        refine lv_icmp_eq (tgt := 66) hx hb dX4_chooseStatesOf_42 (by decide) (fun c_42 => ?_) (fun c_42 => ?_)
        · have h := ox_t c_42 h
          refine lv_iconst (v := 0) hx hb dX4_chooseStatesOf_66 (by decide) ?_
          obtain ⟨hi_67, h⟩ := ox_i_of h
          refine va_zast hx hb hK hP hD hS 11 1 rfl rfl hi_67 dX4_chooseStatesOf_67 (fun H locs hP hD hS => ?_)
          have hP : va_P D vwCl [(kF ad), (kG ad G_states G_moves G_ends), (kR ad R_found_8), (kK ad K_found K_closed K_entries K_depth K_opened), (kI cI (ad 8) 200 G_asks), (kI cI (ad 12) 600 G_to), (kI cI (ad 14) 600 G_out), (kI cI (ad 15) 201 G_start), (kI cI (ad 16) 200 R_line_8), (kI cI (ad 17) 200 R_far_8), (kI cI (ad 18) 200 R_lastMove_8), (kZ cZ (ad 19) 200 (upd K_chosen_13 v2_13.toNatClampNeg (vp_nar .boolean 0)))] H := hP
          have hD : va_D A [(kF ad), (kG ad G_states G_moves G_ends), (kR ad R_found_8), (kK ad K_found K_closed K_entries K_depth K_opened), (kI cI (ad 8) 200 G_asks), (kI cI (ad 12) 600 G_to), (kI cI (ad 14) 600 G_out), (kI cI (ad 15) 201 G_start), (kI cI (ad 16) 200 R_line_8), (kI cI (ad 17) 200 R_far_8), (kI cI (ad 18) 200 R_lastMove_8), (kZ cZ (ad 19) 200 (upd K_chosen_13 v2_13.toNatClampNeg (vp_nar .boolean 0)))] := hD
          refine lv_iinc (v := v2_13 + 1) (lv' := [(2, .int (v2_13 + 1)), (0, .ref (ad 0)), (1, .int a1)]) hx hb dX4_chooseStatesOf_68 hl (k := 2) rfl rfl (by decide) rfl (fun ls hl => ?_)
          refine lv_goto (tgt := 13) hx hb dX4_chooseStatesOf_71 (by decide) ?_
          obtain rfl := Option.some.inj h
          exact ih_13 (v2_13 + 1) (upd K_chosen_13 v2_13.toNatClampNeg (vp_nar .boolean 0)) H locs ls hlp_13 hP hD hS (lv_sub hl [1, 2, 0] rfl)
        · have h := ox_f c_42 h
          refine lv_aload_n hx hb dX4_chooseStatesOf_45 rfl (lv_at hl 0 rfl) ?_
          refine va_get (D := D) (ci := 4) (v := .ref (ad 1)) (C := RX4) (T := TX4) (N := 6) hx hb hts hiX4 hown hK hP 0 rfl rfl 0 (by decide) hk1 (fun _ h9 => h9) rfl dX4_chooseStatesOf_46 ?_
          refine va_get (D := D) (ci := 0) (v := .ref (ad 8)) (C := RX0) (T := TX0) (N := 11) hx hb hts hiX0 hown hK hP 1 rfl rfl 3 (by decide) hk6 (fun _ h9 => h9) rfl dX4_chooseStatesOf_49 ?_
          refine lv_iload_n hx hb dX4_chooseStatesOf_52 rfl (lv_at hl 2 rfl) ?_
          obtain ⟨hi_53, h⟩ := ox_i_of h
          refine va_iald hx hb hK hP 4 0 rfl rfl hi_53 dX4_chooseStatesOf_53 ?_
          refine lv_iload_n hx hb dX4_chooseStatesOf_54 rfl (lv_at hl 1 rfl) ?_
          refine lv_ishr hx hb dX4_chooseStatesOf_55 ?_
          refine lv_iconst (v := 1) hx hb dX4_chooseStatesOf_56 (by decide) ?_
          refine lv_iand hx hb dX4_chooseStatesOf_57 ?_
          refine lv_iconst (v := 1) hx hb dX4_chooseStatesOf_58 (by decide) ?_
          refine lv_icmp_ne (tgt := 66) hx hb dX4_chooseStatesOf_59 (by decide) (fun c_59 => ?_) (fun c_59 => ?_)
          · have h := ox_f c_59 h
            refine lv_iconst (v := 0) hx hb dX4_chooseStatesOf_66 (by decide) ?_
            obtain ⟨hi_67, h⟩ := ox_i_of h
            refine va_zast hx hb hK hP hD hS 11 1 rfl rfl hi_67 dX4_chooseStatesOf_67 (fun H locs hP hD hS => ?_)
            have hP : va_P D vwCl [(kF ad), (kG ad G_states G_moves G_ends), (kR ad R_found_8), (kK ad K_found K_closed K_entries K_depth K_opened), (kI cI (ad 8) 200 G_asks), (kI cI (ad 12) 600 G_to), (kI cI (ad 14) 600 G_out), (kI cI (ad 15) 201 G_start), (kI cI (ad 16) 200 R_line_8), (kI cI (ad 17) 200 R_far_8), (kI cI (ad 18) 200 R_lastMove_8), (kZ cZ (ad 19) 200 (upd K_chosen_13 v2_13.toNatClampNeg (vp_nar .boolean 0)))] H := hP
            have hD : va_D A [(kF ad), (kG ad G_states G_moves G_ends), (kR ad R_found_8), (kK ad K_found K_closed K_entries K_depth K_opened), (kI cI (ad 8) 200 G_asks), (kI cI (ad 12) 600 G_to), (kI cI (ad 14) 600 G_out), (kI cI (ad 15) 201 G_start), (kI cI (ad 16) 200 R_line_8), (kI cI (ad 17) 200 R_far_8), (kI cI (ad 18) 200 R_lastMove_8), (kZ cZ (ad 19) 200 (upd K_chosen_13 v2_13.toNatClampNeg (vp_nar .boolean 0)))] := hD
            refine lv_iinc (v := v2_13 + 1) (lv' := [(2, .int (v2_13 + 1)), (0, .ref (ad 0)), (1, .int a1)]) hx hb dX4_chooseStatesOf_68 hl (k := 2) rfl rfl (by decide) rfl (fun ls hl => ?_)
            refine lv_goto (tgt := 13) hx hb dX4_chooseStatesOf_71 (by decide) ?_
            obtain rfl := Option.some.inj h
            exact ih_13 (v2_13 + 1) (upd K_chosen_13 v2_13.toNatClampNeg (vp_nar .boolean 0)) H locs ls hlp_13 hP hD hS (lv_sub hl [1, 2, 0] rfl)
          · have h := ox_t c_59 h
            refine lv_iconst (v := 1) hx hb dX4_chooseStatesOf_62 (by decide) ?_
            refine lv_goto (tgt := 67) hx hb dX4_chooseStatesOf_63 (by decide) ?_
            obtain ⟨hi_67, h⟩ := ox_i_of h
            refine va_zast hx hb hK hP hD hS 11 1 rfl rfl hi_67 dX4_chooseStatesOf_67 (fun H locs hP hD hS => ?_)
            have hP : va_P D vwCl [(kF ad), (kG ad G_states G_moves G_ends), (kR ad R_found_8), (kK ad K_found K_closed K_entries K_depth K_opened), (kI cI (ad 8) 200 G_asks), (kI cI (ad 12) 600 G_to), (kI cI (ad 14) 600 G_out), (kI cI (ad 15) 201 G_start), (kI cI (ad 16) 200 R_line_8), (kI cI (ad 17) 200 R_far_8), (kI cI (ad 18) 200 R_lastMove_8), (kZ cZ (ad 19) 200 (upd K_chosen_13 v2_13.toNatClampNeg (vp_nar .boolean 1)))] H := hP
            have hD : va_D A [(kF ad), (kG ad G_states G_moves G_ends), (kR ad R_found_8), (kK ad K_found K_closed K_entries K_depth K_opened), (kI cI (ad 8) 200 G_asks), (kI cI (ad 12) 600 G_to), (kI cI (ad 14) 600 G_out), (kI cI (ad 15) 201 G_start), (kI cI (ad 16) 200 R_line_8), (kI cI (ad 17) 200 R_far_8), (kI cI (ad 18) 200 R_lastMove_8), (kZ cZ (ad 19) 200 (upd K_chosen_13 v2_13.toNatClampNeg (vp_nar .boolean 1)))] := hD
            refine lv_iinc (v := v2_13 + 1) (lv' := [(2, .int (v2_13 + 1)), (0, .ref (ad 0)), (1, .int a1)]) hx hb dX4_chooseStatesOf_68 hl (k := 2) rfl rfl (by decide) rfl (fun ls hl => ?_)
            refine lv_goto (tgt := 13) hx hb dX4_chooseStatesOf_71 (by decide) ?_
            obtain rfl := Option.some.inj h
            exact ih_13 (v2_13 + 1) (upd K_chosen_13 v2_13.toNatClampNeg (vp_nar .boolean 1)) H locs ls hlp_13 hP hD hS (lv_sub hl [1, 2, 0] rfl)
  exact hL_13 1000000 0 K_chosen H locs ls hex_13 hP hD hS (lv_sub hl [1, 2, 0] rfl)
set_option maxHeartbeats 4000000 in
set_option maxRecDepth 100000 in
theorem c_X4_isUnfair (l : Launch) (D : va_G) (cI cZ : ClassId) (ad : Nat → Nat) (G_states : Int32) (G_moves : Int32) (G_ends : Int32) (K_found : Int32) (K_closed : Int32) (K_entries : Int32) (K_depth : Int32) (K_opened : Int32) (G_able : Nat → Int32) (K_knotOf : Nat → Int32) (S_ableInAll : Nat → Int32) (S_inside : Nat → Int32) (S_goesRound : Nat → Int32) (a1 : Int32) (a2 : Int32) (a3 : Int32) (res : Int32) (h : fn_X4_isUnfair G_able K_knotOf S_ableInAll S_inside S_goesRound a1 a2 a3 = some res) : mc_C l yX4_isUnfair wv_X4_isUnfair { frames := 0, cells := 0, slots := 0, locals := 0 } D [(cI, .int), (cZ, .boolean)] [.ref (ad 0), .int a1, .int a2, .int a3] [(kF ad), (kG ad G_states G_moves G_ends), (kK ad K_found K_closed K_entries K_depth K_opened), (kS ad), (kI cI (ad 10) 200 G_able), (kI cI (ad 20) 200 K_knotOf), (kI cI (ad 29) 200 S_ableInAll), (kI cI (ad 30) 200 S_inside), (kZ cZ (ad 31) 200 S_goesRound)] (some (.int res)) [(kF ad), (kG ad G_states G_moves G_ends), (kK ad K_found K_closed K_entries K_depth K_opened), (kS ad), (kI cI (ad 10) 200 G_able), (kI cI (ad 20) 200 K_knotOf), (kI cI (ad 29) 200 S_ableInAll), (kI cI (ad 30) 200 S_inside), (kZ cZ (ad 31) 200 S_goesRound)] := by
  refine mc_ofz (own := RX4) (by decide) rfl rfl (Nat.le_of_ble_eq_true rfl) ?_
  intro p e s m below meth c A Q ls hx hb hml hown hts hK hP hD hA hl hend
  have hS : va_S A s.heap s.heap [] := va_S.rf
  have hl : lv_has ls 6 [(0, .ref (ad 0)), (1, .int a1), (2, .int a2), (3, .int a3)] := hl
  obtain ⟨H, hH⟩ : ∃ H, H = s.heap := ⟨_, rfl⟩
  obtain ⟨locs, hlo⟩ : ∃ locs : List Loc, locs = [] := ⟨_, rfl⟩
  have hS : va_S A s.heap H locs := by rw [hH, hlo]; exact hS
  have hP : va_P D vwCl [(kF ad), (kG ad G_states G_moves G_ends), (kK ad K_found K_closed K_entries K_depth K_opened), (kS ad), (kI cI (ad 10) 200 G_able), (kI cI (ad 20) 200 K_knotOf), (kI cI (ad 29) 200 S_ableInAll), (kI cI (ad 30) 200 S_inside), (kZ cZ (ad 31) 200 S_goesRound)] H := by rw [hH]; exact hP
  suffices h9 : W p l e { frames := 0, cells := 0, slots := 0, locals := 0 } s m ([.ref (ad 0), .int a1, .int a2, .int a3] : List Value).toArray below meth c H locs 0 0 Q (F0 m 0 ls []) by rw [hH, hlo] at h9; exact h9
  clear hH hlo
  have hiX0 : ∀ w ∈ wsX00, w ∈ wv_X4_isUnfair := fun w h => List.mem_cons_of_mem _ (inlX0 w h)
  have hiX1 : ∀ w ∈ wsX10, w ∈ wv_X4_isUnfair := fun w h => List.mem_cons_of_mem _ (inlX1 w h)
  have hiX3 : ∀ w ∈ wsX30, w ∈ wv_X4_isUnfair := fun w h => List.mem_cons_of_mem _ (inlX3 w h)
  have hiX4 : ∀ w ∈ wsX40, w ∈ wv_X4_isUnfair := fun w h => List.mem_cons_of_mem _ (inlX4 w h)
  have hk0 := hts (.fieldLink RX4 30 "FairLoops" "knots" "LFairLoops$Knots;") (List.mem_cons_of_mem _ wk_26)
  have hk1 := hts (.fieldLink RX4 188 "FairLoops$Knots" "knotOf" "[I") (List.mem_cons_of_mem _ wk_301)
  have hk2 := hts (.fieldLink RX4 37 "FairLoops" "sums" "LFairLoops$Sums;") (List.mem_cons_of_mem _ wk_30)
  have hk3 := hts (.fieldLink RX4 191 "FairLoops$Sums" "inside" "[I") (List.mem_cons_of_mem _ wk_302)
  have hk4 := hts (.fieldLink RX4 194 "FairLoops$Sums" "goesRound" "[Z") (List.mem_cons_of_mem _ wk_303)
  have hk5 := hts (.fieldLink RX4 197 "FairLoops$Sums" "ableInAll" "[I") (List.mem_cons_of_mem _ wk_304)
  have hk6 := hts (.fieldLink RX4 10 "FairLoops" "graph" "LFairLoops$Graph;") (List.mem_cons_of_mem _ wk_16)
  have hk7 := hts (.fieldLink RX4 200 "FairLoops$Graph" "able" "[I") (List.mem_cons_of_mem _ wk_305)
  refine lv_aload_n hx hb dX4_isUnfair_0 rfl (lv_at hl 0 rfl) ?_
  refine va_get (D := D) (ci := 4) (v := .ref (ad 3)) (C := RX4) (T := TX4) (N := 6) hx hb hts hiX4 hown hK hP 0 rfl rfl 3 (by decide) hk0 (fun _ h9 => h9) rfl dX4_isUnfair_1 ?_
  refine va_get (D := D) (ci := 1) (v := .ref (ad 20)) (C := RX1) (T := TX1) (N := 13) hx hb hts hiX1 hown hK hP 2 rfl rfl 2 (by decide) hk1 (fun _ h9 => h9) rfl dX4_isUnfair_4 ?_
  refine lv_iload_n hx hb dX4_isUnfair_7 rfl (lv_at hl 1 rfl) ?_
  obtain ⟨hi_8, h⟩ := ox_i_of h
  refine va_iald hx hb hK hP 5 0 rfl rfl hi_8 dX4_isUnfair_8 ?_
  refine lv_istore (lv' := [(4, .int (K_knotOf a1.toNatClampNeg)), (0, .ref (ad 0)), (1, .int a1), (2, .int a2), (3, .int a3)]) hx hb dX4_isUnfair_9 hl (by decide) rfl (fun ls hl => ?_)
  refine lv_aload_n hx hb dX4_isUnfair_11 rfl (lv_at hl 1 rfl) ?_
  refine va_get (D := D) (ci := 4) (v := .ref (ad 4)) (C := RX4) (T := TX4) (N := 6) hx hb hts hiX4 hown hK hP 0 rfl rfl 4 (by decide) hk2 (fun _ h9 => h9) rfl dX4_isUnfair_12 ?_
  refine va_get (D := D) (ci := 3) (v := .ref (ad 30)) (C := RX3) (T := TX3) (N := 5) hx hb hts hiX3 hown hK hP 3 rfl rfl 3 (by decide) hk3 (fun _ h9 => h9) rfl dX4_isUnfair_15 ?_
  refine lv_iload hx hb dX4_isUnfair_18 (lv_at hl 0 rfl) ?_
  obtain ⟨hi_20, h⟩ := ox_i_of h
  refine va_iald hx hb hK hP 7 0 rfl rfl hi_20 dX4_isUnfair_20 ?_
  refine lv_iconst (v := (-1)) hx hb dX4_isUnfair_21 (by decide) ?_
  refine lv_ixor hx hb dX4_isUnfair_22 ?_
  refine lv_istore (lv' := [(5, .int ((S_inside (K_knotOf a1.toNatClampNeg).toNatClampNeg) ^^^ (-1))), (4, .int (K_knotOf a1.toNatClampNeg)), (0, .ref (ad 0)), (1, .int a1), (2, .int a2), (3, .int a3)]) hx hb dX4_isUnfair_23 hl (by decide) rfl (fun ls hl => ?_)
  refine lv_aload_n hx hb dX4_isUnfair_25 rfl (lv_at hl 2 rfl) ?_
  refine va_get (D := D) (ci := 4) (v := .ref (ad 4)) (C := RX4) (T := TX4) (N := 6) hx hb hts hiX4 hown hK hP 0 rfl rfl 4 (by decide) hk2 (fun _ h9 => h9) rfl dX4_isUnfair_26 ?_
  refine va_get (D := D) (ci := 3) (v := .ref (ad 31)) (C := RX3) (T := TX3) (N := 5) hx hb hts hiX3 hown hK hP 3 rfl rfl 4 (by decide) hk4 (fun _ h9 => h9) rfl dX4_isUnfair_29 ?_
  refine lv_iload hx hb dX4_isUnfair_32 (lv_at hl 1 rfl) ?_
  obtain ⟨hi_34, h⟩ := ox_i_of h
  refine va_zald hx hb hK hP 8 1 rfl rfl hi_34 dX4_isUnfair_34 ?_
  refine lv_if_eq (tgt := 73) hx hb dX4_isUnfair_35 (by decide) (fun c_35 => ?_) (fun c_35 => ?_)
  · have h := ox_t c_35 h
    refine lv_iconst (v := 1) hx hb dX4_isUnfair_73 (by decide) ?_
    refine lv_goto (tgt := 78) hx hb dX4_isUnfair_74 (by decide) ?_
    have h := Option.some.inj h
    subst h
    exact hend H locs _ ls hP hD hS dX4_isUnfair_78 nb_1
  · have h := ox_f c_35 h
    refine lv_iload_n hx hb dX4_isUnfair_38 rfl (lv_at hl 4 rfl) ?_
    refine lv_aload_n hx hb dX4_isUnfair_39 rfl (lv_at hl 2 rfl) ?_
    refine va_get (D := D) (ci := 4) (v := .ref (ad 4)) (C := RX4) (T := TX4) (N := 6) hx hb hts hiX4 hown hK hP 0 rfl rfl 4 (by decide) hk2 (fun _ h9 => h9) rfl dX4_isUnfair_40 ?_
    refine va_get (D := D) (ci := 3) (v := .ref (ad 29)) (C := RX3) (T := TX3) (N := 5) hx hb hts hiX3 hown hK hP 3 rfl rfl 2 (by decide) hk5 (fun _ h9 => h9) rfl dX4_isUnfair_43 ?_
    refine lv_iload hx hb dX4_isUnfair_46 (lv_at hl 1 rfl) ?_
    obtain ⟨hi_48, h⟩ := ox_i_of h
    refine va_iald hx hb hK hP 6 0 rfl rfl hi_48 dX4_isUnfair_48 ?_
    refine lv_iand hx hb dX4_isUnfair_49 ?_
    refine lv_iload hx hb dX4_isUnfair_50 (lv_at hl 0 rfl) ?_
    refine lv_iand hx hb dX4_isUnfair_52 ?_
    refine lv_if_ne (tgt := 73) hx hb dX4_isUnfair_53 (by decide) (fun c_53 => ?_) (fun c_53 => ?_)
    · have h := ox_f c_53 h
      refine lv_iconst (v := 1) hx hb dX4_isUnfair_73 (by decide) ?_
      refine lv_goto (tgt := 78) hx hb dX4_isUnfair_74 (by decide) ?_
      have h := Option.some.inj h
      subst h
      exact hend H locs _ ls hP hD hS dX4_isUnfair_78 nb_1
    · have h := ox_t c_53 h
      refine lv_iload_n hx hb dX4_isUnfair_56 rfl (lv_at hl 5 rfl) ?_
      refine lv_aload_n hx hb dX4_isUnfair_57 rfl (lv_at hl 2 rfl) ?_
      refine va_get (D := D) (ci := 4) (v := .ref (ad 1)) (C := RX4) (T := TX4) (N := 6) hx hb hts hiX4 hown hK hP 0 rfl rfl 0 (by decide) hk6 (fun _ h9 => h9) rfl dX4_isUnfair_58 ?_
      refine va_get (D := D) (ci := 0) (v := .ref (ad 10)) (C := RX0) (T := TX0) (N := 11) hx hb hts hiX0 hown hK hP 1 rfl rfl 5 (by decide) hk7 (fun _ h9 => h9) rfl dX4_isUnfair_61 ?_
      refine lv_iload_n hx hb dX4_isUnfair_64 rfl (lv_at hl 3 rfl) ?_
      obtain ⟨hi_65, h⟩ := ox_i_of h
      refine va_iald hx hb hK hP 4 0 rfl rfl hi_65 dX4_isUnfair_65 ?_
      refine lv_iand hx hb dX4_isUnfair_66 ?_
      refine lv_iload hx hb dX4_isUnfair_67 (lv_at hl 0 rfl) ?_
      refine lv_iand hx hb dX4_isUnfair_69 ?_
      refine lv_if_eq (tgt := 77) hx hb dX4_isUnfair_70 (by decide) (fun c_70 => ?_) (fun c_70 => ?_)
      · have h := ox_t c_70 h
        refine lv_iconst (v := 0) hx hb dX4_isUnfair_77 (by decide) ?_
        have h := Option.some.inj h
        subst h
        exact hend H locs _ ls hP hD hS dX4_isUnfair_78 nb_0
      · have h := ox_f c_70 h
        refine lv_iconst (v := 1) hx hb dX4_isUnfair_73 (by decide) ?_
        refine lv_goto (tgt := 78) hx hb dX4_isUnfair_74 (by decide) ?_
        have h := Option.some.inj h
        subst h
        exact hend H locs _ ls hP hD hS dX4_isUnfair_78 nb_1
set_option maxHeartbeats 4000000 in
set_option maxRecDepth 100000 in
theorem c_X4_dropUnfairStates (l : Launch) (D : va_G) (cI cZ : ClassId) (ad : Nat → Nat) (G_states : Int32) (G_moves : Int32) (G_ends : Int32) (K_found : Int32) (K_closed : Int32) (K_entries : Int32) (K_depth : Int32) (K_opened : Int32) (G_able : Nat → Int32) (K_chosen : Nat → Int32) (K_knotOf : Nat → Int32) (S_ableInAll : Nat → Int32) (S_inside : Nat → Int32) (S_goesRound : Nat → Int32) (a1 : Int32) (a2 : Int32) (res : Int32 × (Nat → Int32)) (h : fn_X4_dropUnfairStates G_states G_able K_chosen K_knotOf S_ableInAll S_inside S_goesRound a1 a2 = some res) : mc_C l yX4_dropUnfairStates wv_X4_dropUnfairStates { frames := 1, cells := 0, slots := 0, locals := 25 } D [(cI, .int), (cZ, .boolean)] [.ref (ad 0), .int a1, .int a2] [(kF ad), (kG ad G_states G_moves G_ends), (kK ad K_found K_closed K_entries K_depth K_opened), (kS ad), (kI cI (ad 10) 200 G_able), (kZ cZ (ad 19) 200 K_chosen), (kI cI (ad 20) 200 K_knotOf), (kI cI (ad 29) 200 S_ableInAll), (kI cI (ad 30) 200 S_inside), (kZ cZ (ad 31) 200 S_goesRound)] (some (.int res.1)) [(kF ad), (kG ad G_states G_moves G_ends), (kK ad K_found K_closed K_entries K_depth K_opened), (kS ad), (kI cI (ad 10) 200 G_able), (kZ cZ (ad 19) 200 res.2), (kI cI (ad 20) 200 K_knotOf), (kI cI (ad 29) 200 S_ableInAll), (kI cI (ad 30) 200 S_inside), (kZ cZ (ad 31) 200 S_goesRound)] := by
  refine mc_ofz (own := RX4) (by decide) rfl rfl (Nat.le_of_ble_eq_true rfl) ?_
  intro p e s m below meth c A Q ls hx hb hml hown hts hK hP hD hA hl hend
  have hS : va_S A s.heap s.heap [] := va_S.rf
  have hl : lv_has ls 5 [(0, .ref (ad 0)), (1, .int a1), (2, .int a2)] := hl
  obtain ⟨H, hH⟩ : ∃ H, H = s.heap := ⟨_, rfl⟩
  obtain ⟨locs, hlo⟩ : ∃ locs : List Loc, locs = [] := ⟨_, rfl⟩
  have hS : va_S A s.heap H locs := by rw [hH, hlo]; exact hS
  have hP : va_P D vwCl [(kF ad), (kG ad G_states G_moves G_ends), (kK ad K_found K_closed K_entries K_depth K_opened), (kS ad), (kI cI (ad 10) 200 G_able), (kZ cZ (ad 19) 200 K_chosen), (kI cI (ad 20) 200 K_knotOf), (kI cI (ad 29) 200 S_ableInAll), (kI cI (ad 30) 200 S_inside), (kZ cZ (ad 31) 200 S_goesRound)] H := by rw [hH]; exact hP
  suffices h9 : W p l e { frames := 1, cells := 0, slots := 0, locals := 25 } s m ([.ref (ad 0), .int a1, .int a2] : List Value).toArray below meth c H locs 0 0 Q (F0 m 0 ls []) by rw [hH, hlo] at h9; exact h9
  clear hH hlo
  have hiX0 : ∀ w ∈ wsX00, w ∈ wv_X4_dropUnfairStates := fun w h => List.mem_cons_of_mem _ (inlX0 w h)
  have hiX1 : ∀ w ∈ wsX10, w ∈ wv_X4_dropUnfairStates := fun w h => List.mem_cons_of_mem _ (inlX1 w h)
  have hiX4 : ∀ w ∈ wsX40, w ∈ wv_X4_dropUnfairStates := fun w h => List.mem_cons_of_mem _ (inlX4 w h)
  have hk0 := hts (.fieldLink RX4 10 "FairLoops" "graph" "LFairLoops$Graph;") (List.mem_cons_of_mem _ wk_16)
  have hk1 := hts (.fieldLink RX4 51 "FairLoops$Graph" "states" "I") (List.mem_cons_of_mem _ wk_108)
  have hk2 := hts (.fieldLink RX4 30 "FairLoops" "knots" "LFairLoops$Knots;") (List.mem_cons_of_mem _ wk_26)
  have hk3 := hts (.fieldLink RX4 138 "FairLoops$Knots" "chosen" "[Z") (List.mem_cons_of_mem _ wk_219)
  refine lv_iconst (v := 0) hx hb dX4_dropUnfairStates_0 (by decide) ?_
  refine lv_istore_n (lv' := [(3, .int 0), (0, .ref (ad 0)), (1, .int a1), (2, .int a2)]) hx hb dX4_dropUnfairStates_1 rfl hl (by decide) rfl (fun ls hl => ?_)
  refine lv_iconst (v := 0) hx hb dX4_dropUnfairStates_2 (by decide) ?_
  refine lv_istore (lv' := [(4, .int 0), (3, .int 0), (0, .ref (ad 0)), (1, .int a1), (2, .int a2)]) hx hb dX4_dropUnfairStates_3 hl (by decide) rfl (fun ls hl => ?_)
  obtain ⟨ex_5, hex_5, h_5⟩ := ox_b_of h
  have hX_5 : ∀ (v3_5 : Int32) (v4_5 : Int32) (K_chosen_5 : Nat → Int32) (H : Heap) (locs : List Loc) (ls : Array Slot), (v3_5, v4_5, K_chosen_5) = ex_5 → va_P D vwCl [(kF ad), (kG ad G_states G_moves G_ends), (kK ad K_found K_closed K_entries K_depth K_opened), (kS ad), (kI cI (ad 10) 200 G_able), (kZ cZ (ad 19) 200 K_chosen_5), (kI cI (ad 20) 200 K_knotOf), (kI cI (ad 29) 200 S_ableInAll), (kI cI (ad 30) 200 S_inside), (kZ cZ (ad 31) 200 S_goesRound)] H → va_D A [(kF ad), (kG ad G_states G_moves G_ends), (kK ad K_found K_closed K_entries K_depth K_opened), (kS ad), (kI cI (ad 10) 200 G_able), (kZ cZ (ad 19) 200 K_chosen_5), (kI cI (ad 20) 200 K_knotOf), (kI cI (ad 29) 200 S_ableInAll), (kI cI (ad 30) 200 S_inside), (kZ cZ (ad 31) 200 S_goesRound)] → va_S A s.heap H locs → lv_has ls 5 [(3, .int v3_5)] → W p l e { frames := 1, cells := 0, slots := 0, locals := 25 } s m ([.ref (ad 0), .int a1, .int a2] : List Value).toArray below meth c H locs 0 0 Q (F0 m 60 ls []) := by
    intro v3_5 v4_5 K_chosen_5 H locs ls hex_5 hP hD hS hl
    subst hex_5
    have h := h_5
    refine lv_iload_n hx hb dX4_dropUnfairStates_60 rfl (lv_at hl 0 rfl) ?_
    obtain ⟨hz_61, h⟩ := ox_z_of h
    have h := Option.some.inj h
    subst h
    exact hend H locs _ ls hP hD hS dX4_dropUnfairStates_61 hz_61
  have hL_5 : ∀ (n : Nat) (v3_5 : Int32) (v4_5 : Int32) (K_chosen_5 : Nat → Int32) (H : Heap) (locs : List Loc) (ls : Array Slot), ox_l (fn_X4_dropUnfairStates_l5 G_states G_able K_knotOf S_ableInAll S_inside S_goesRound a1 a2) n (v3_5, v4_5, K_chosen_5) = some ex_5 → va_P D vwCl [(kF ad), (kG ad G_states G_moves G_ends), (kK ad K_found K_closed K_entries K_depth K_opened), (kS ad), (kI cI (ad 10) 200 G_able), (kZ cZ (ad 19) 200 K_chosen_5), (kI cI (ad 20) 200 K_knotOf), (kI cI (ad 29) 200 S_ableInAll), (kI cI (ad 30) 200 S_inside), (kZ cZ (ad 31) 200 S_goesRound)] H → va_D A [(kF ad), (kG ad G_states G_moves G_ends), (kK ad K_found K_closed K_entries K_depth K_opened), (kS ad), (kI cI (ad 10) 200 G_able), (kZ cZ (ad 19) 200 K_chosen_5), (kI cI (ad 20) 200 K_knotOf), (kI cI (ad 29) 200 S_ableInAll), (kI cI (ad 30) 200 S_inside), (kZ cZ (ad 31) 200 S_goesRound)] → va_S A s.heap H locs → lv_has ls 5 [(0, .ref (ad 0)), (1, .int a1), (2, .int a2), (3, .int v3_5), (4, .int v4_5)] → W p l e { frames := 1, cells := 0, slots := 0, locals := 25 } s m ([.ref (ad 0), .int a1, .int a2] : List Value).toArray below meth c H locs 0 0 Q (F0 m 5 ls []) := by
    intro n
    induction n with
    | zero => intro v3_5 v4_5 K_chosen_5 H locs ls hlp; exact ox_l_0 hlp
    | succ n ih_5 =>
      intro v3_5 v4_5 K_chosen_5 H locs ls hlp_5 hP hD hS hl
      obtain ⟨z_5, h, hlp_5⟩ := ox_l_of hlp_5
      refine lv_iload hx hb dX4_dropUnfairStates_5 (lv_at hl 4 rfl) ?_
      refine lv_aload_n hx hb dX4_dropUnfairStates_7 rfl (lv_at hl 0 rfl) ?_
      refine va_get (D := D) (ci := 4) (v := .ref (ad 1)) (C := RX4) (T := TX4) (N := 6) hx hb hts hiX4 hown hK hP 0 rfl rfl 0 (by decide) hk0 (fun _ h9 => h9) rfl dX4_dropUnfairStates_8 ?_
      refine va_get (D := D) (ci := 0) (v := .int G_states) (C := RX0) (T := TX0) (N := 11) hx hb hts hiX0 hown hK hP 1 rfl rfl 0 (by decide) hk1 (fun _ h9 => h9) rfl dX4_dropUnfairStates_11 ?_
      refine lv_icmp_ge (tgt := 60) hx hb dX4_dropUnfairStates_14 (by decide) (fun c_14 => ?_) (fun c_14 => ?_)
      · have h := ox_t c_14 h
        obtain rfl := Option.some.inj h
        exact hX_5 v3_5 v4_5 K_chosen_5 H locs ls hlp_5 hP hD hS (lv_sub hl [3] rfl)
      · have h := ox_f c_14 h
        refine lv_aload_n hx hb dX4_dropUnfairStates_17 rfl (lv_at hl 0 rfl) ?_
        refine va_get (D := D) (ci := 4) (v := .ref (ad 3)) (C := RX4) (T := TX4) (N := 6) hx hb hts hiX4 hown hK hP 0 rfl rfl 3 (by decide) hk2 (fun _ h9 => h9) rfl dX4_dropUnfairStates_18 ?_
        refine va_get (D := D) (ci := 1) (v := .ref (ad 19)) (C := RX1) (T := TX1) (N := 13) hx hb hts hiX1 hown hK hP 2 rfl rfl 0 (by decide) hk3 (fun _ h9 => h9) rfl dX4_dropUnfairStates_21 ?_
        refine lv_iload hx hb dX4_dropUnfairStates_24 (lv_at hl 4 rfl) ?_
        obtain ⟨hi_26, h⟩ := ox_i_of h
        refine va_zald hx hb hK hP 5 1 rfl rfl hi_26 dX4_dropUnfairStates_26 ?_
        refine lv_if_eq (tgt := 54) hx hb dX4_dropUnfairStates_27 (by decide) (fun c_27 => ?_) (fun c_27 => ?_)
        · have h := ox_t c_27 h
          refine lv_iinc (v := v4_5 + 1) (lv' := [(4, .int (v4_5 + 1)), (0, .ref (ad 0)), (1, .int a1), (2, .int a2), (3, .int v3_5)]) hx hb dX4_dropUnfairStates_54 hl (k := 4) rfl rfl (by decide) rfl (fun ls hl => ?_)
          refine lv_goto (tgt := 5) hx hb dX4_dropUnfairStates_57 (by decide) ?_
          obtain rfl := Option.some.inj h
          exact ih_5 v3_5 (v4_5 + 1) K_chosen_5 H locs ls hlp_5 hP hD hS (lv_sub hl [1, 2, 3, 4, 0] rfl)
        · have h := ox_f c_27 h
          refine lv_aload_n hx hb dX4_dropUnfairStates_30 rfl (lv_at hl 0 rfl) ?_
          refine lv_iload hx hb dX4_dropUnfairStates_31 (lv_at hl 4 rfl) ?_
          refine lv_iload_n hx hb dX4_dropUnfairStates_33 rfl (lv_at hl 1 rfl) ?_
          refine lv_iload_n hx hb dX4_dropUnfairStates_34 rfl (lv_at hl 2 rfl) ?_
          obtain ⟨r_35, hc_35, h⟩ := ox_b_of h
          refine mc_callV (As := [.int v4_5, .int a1, .int a2]) (rest := []) (b := ad 0) (Wc := [(kF ad), (kG ad G_states G_moves G_ends), (kK ad K_found K_closed K_entries K_depth K_opened), (kS ad), (kI cI (ad 10) 200 G_able), (kI cI (ad 20) 200 K_knotOf), (kI cI (ad 29) 200 S_ableInAll), (kI cI (ad 30) 200 S_inside), (kZ cZ (ad 31) 200 S_goesRound)]) (wr := [(kZ cZ (ad 19) 200 K_chosen_5)]) (W1 := [(kF ad), (kG ad G_states G_moves G_ends), (kK ad K_found K_closed K_entries K_depth K_opened), (kS ad), (kI cI (ad 10) 200 G_able), (kI cI (ad 20) 200 K_knotOf), (kI cI (ad 29) 200 S_ableInAll), (kI cI (ad 30) 200 S_inside), (kZ cZ (ad 31) 200 S_goesRound)]) (wn := [(kF ad), (kG ad G_states G_moves G_ends), (kK ad K_found K_closed K_entries K_depth K_opened), (kS ad), (kI cI (ad 10) 200 G_able), (kZ cZ (ad 19) 200 K_chosen_5), (kI cI (ad 20) 200 K_knotOf), (kI cI (ad 29) 200 S_ableInAll), (kI cI (ad 30) 200 S_inside), (kZ cZ (ad 31) 200 S_goesRound)]) (rv := some (.int r_35)) ⟨hx, hb, hml, hown, hts⟩ (c_X4_isUnfair l D cI cZ ad G_states G_moves G_ends K_found K_closed K_entries K_depth K_opened G_able K_knotOf S_ableInAll S_inside S_goesRound v4_5 a1 a2 _ hc_35) (cwV 3 hts (gl_V wk_297 wk_298 wk_299 wk_2 wk_300) rfl rfl rfl (by decide +kernel) ⟨Nat.le_of_ble_eq_true rfl, Nat.le_of_ble_eq_true rfl⟩) hK hP hD hS hA 4 0 rfl rfl rfl [0, 1, 2, 3, 4, 6, 7, 8, 9] [5] [1, 2, 3, 4, 5, 0, 6, 7, 8, 9] rfl rfl (by decide) rfl (by decide) (by decide) rfl rfl (by decide) rfl rfl hl.1 (Nat.le_of_ble_eq_true rfl) dX4_dropUnfairStates_35 ⟨Nat.zero_le _, Nat.zero_le _⟩ (fun H locs hP hD hS => ?_)
          show W p l e { frames := 1, cells := 0, slots := 0, locals := 25 } s m ([.ref (ad 0), .int a1, .int a2] : List Value).toArray below meth c H locs 0 0 Q (F0 m 38 ls [.int r_35])
          refine lv_if_eq (tgt := 54) hx hb dX4_dropUnfairStates_38 (by decide) (fun c_38 => ?_) (fun c_38 => ?_)
          · have h := ox_t c_38 h
            refine lv_iinc (v := v4_5 + 1) (lv' := [(4, .int (v4_5 + 1)), (0, .ref (ad 0)), (1, .int a1), (2, .int a2), (3, .int v3_5)]) hx hb dX4_dropUnfairStates_54 hl (k := 4) rfl rfl (by decide) rfl (fun ls hl => ?_)
            refine lv_goto (tgt := 5) hx hb dX4_dropUnfairStates_57 (by decide) ?_
            obtain rfl := Option.some.inj h
            exact ih_5 v3_5 (v4_5 + 1) K_chosen_5 H locs ls hlp_5 hP hD hS (lv_sub hl [1, 2, 3, 4, 0] rfl)
          · have h := ox_f c_38 h
            refine lv_aload_n hx hb dX4_dropUnfairStates_41 rfl (lv_at hl 0 rfl) ?_
            refine va_get (D := D) (ci := 4) (v := .ref (ad 3)) (C := RX4) (T := TX4) (N := 6) hx hb hts hiX4 hown hK hP 0 rfl rfl 3 (by decide) hk2 (fun _ h9 => h9) rfl dX4_dropUnfairStates_42 ?_
            refine va_get (D := D) (ci := 1) (v := .ref (ad 19)) (C := RX1) (T := TX1) (N := 13) hx hb hts hiX1 hown hK hP 2 rfl rfl 0 (by decide) hk3 (fun _ h9 => h9) rfl dX4_dropUnfairStates_45 ?_
            refine lv_iload hx hb dX4_dropUnfairStates_48 (lv_at hl 4 rfl) ?_
            refine lv_iconst (v := 0) hx hb dX4_dropUnfairStates_50 (by decide) ?_
            obtain ⟨hi_51, h⟩ := ox_i_of h
            refine va_zast hx hb hK hP hD hS 5 1 rfl rfl hi_51 dX4_dropUnfairStates_51 (fun H locs hP hD hS => ?_)
            have hP : va_P D vwCl [(kF ad), (kG ad G_states G_moves G_ends), (kK ad K_found K_closed K_entries K_depth K_opened), (kS ad), (kI cI (ad 10) 200 G_able), (kZ cZ (ad 19) 200 (upd K_chosen_5 v4_5.toNatClampNeg (vp_nar .boolean 0))), (kI cI (ad 20) 200 K_knotOf), (kI cI (ad 29) 200 S_ableInAll), (kI cI (ad 30) 200 S_inside), (kZ cZ (ad 31) 200 S_goesRound)] H := hP
            have hD : va_D A [(kF ad), (kG ad G_states G_moves G_ends), (kK ad K_found K_closed K_entries K_depth K_opened), (kS ad), (kI cI (ad 10) 200 G_able), (kZ cZ (ad 19) 200 (upd K_chosen_5 v4_5.toNatClampNeg (vp_nar .boolean 0))), (kI cI (ad 20) 200 K_knotOf), (kI cI (ad 29) 200 S_ableInAll), (kI cI (ad 30) 200 S_inside), (kZ cZ (ad 31) 200 S_goesRound)] := hD
            refine lv_iconst (v := 1) hx hb dX4_dropUnfairStates_52 (by decide) ?_
            refine lv_istore_n (lv' := [(3, .int 1), (0, .ref (ad 0)), (1, .int a1), (2, .int a2), (4, .int v4_5)]) hx hb dX4_dropUnfairStates_53 rfl hl (by decide) rfl (fun ls hl => ?_)
            refine lv_iinc (v := v4_5 + 1) (lv' := [(4, .int (v4_5 + 1)), (3, .int 1), (0, .ref (ad 0)), (1, .int a1), (2, .int a2)]) hx hb dX4_dropUnfairStates_54 hl (k := 4) rfl rfl (by decide) rfl (fun ls hl => ?_)
            refine lv_goto (tgt := 5) hx hb dX4_dropUnfairStates_57 (by decide) ?_
            obtain rfl := Option.some.inj h
            exact ih_5 1 (v4_5 + 1) (upd K_chosen_5 v4_5.toNatClampNeg (vp_nar .boolean 0)) H locs ls hlp_5 hP hD hS (lv_sub hl [2, 3, 4, 1, 0] rfl)
  exact hL_5 1000000 0 0 K_chosen H locs ls hex_5 hP hD hS (lv_sub hl [2, 3, 4, 1, 0] rfl)
set_option maxHeartbeats 4000000 in
set_option maxRecDepth 100000 in
theorem c_X4_deadEnd (l : Launch) (D : va_G) (cI cZ : ClassId) (ad : Nat → Nat) (G_states : Int32) (G_moves : Int32) (G_ends : Int32) (K_found : Int32) (K_closed : Int32) (K_entries : Int32) (K_depth : Int32) (K_opened : Int32) (G_isEnd : Nat → Int32) (G_start : Nat → Int32) (K_chosen : Nat → Int32) (a1 : Int32) (res : Int32) (h : fn_X4_deadEnd G_states G_isEnd G_start K_chosen a1 = some res) : mc_C l yX4_deadEnd wv_X4_deadEnd { frames := 1, cells := 0, slots := 0, locals := 21 } D [(cI, .int), (cZ, .boolean)] [.ref (ad 0), .int a1] [(kF ad), (kG ad G_states G_moves G_ends), (kK ad K_found K_closed K_entries K_depth K_opened), (kZ cZ (ad 9) 200 G_isEnd), (kI cI (ad 15) 201 G_start), (kZ cZ (ad 19) 200 K_chosen)] (some (.int res)) [(kF ad), (kG ad G_states G_moves G_ends), (kK ad K_found K_closed K_entries K_depth K_opened), (kZ cZ (ad 9) 200 G_isEnd), (kI cI (ad 15) 201 G_start), (kZ cZ (ad 19) 200 K_chosen)] := by
  refine mc_ofi (own := RX4) (by decide) rfl rfl (Nat.le_of_ble_eq_true rfl) ?_
  intro p e s m below meth c A Q ls hx hb hml hown hts hK hP hD hA hl hend
  have hS : va_S A s.heap s.heap [] := va_S.rf
  have hl : lv_has ls 4 [(0, .ref (ad 0)), (1, .int a1)] := hl
  obtain ⟨H, hH⟩ : ∃ H, H = s.heap := ⟨_, rfl⟩
  obtain ⟨locs, hlo⟩ : ∃ locs : List Loc, locs = [] := ⟨_, rfl⟩
  have hS : va_S A s.heap H locs := by rw [hH, hlo]; exact hS
  have hP : va_P D vwCl [(kF ad), (kG ad G_states G_moves G_ends), (kK ad K_found K_closed K_entries K_depth K_opened), (kZ cZ (ad 9) 200 G_isEnd), (kI cI (ad 15) 201 G_start), (kZ cZ (ad 19) 200 K_chosen)] H := by rw [hH]; exact hP
  suffices h9 : W p l e { frames := 1, cells := 0, slots := 0, locals := 21 } s m ([.ref (ad 0), .int a1] : List Value).toArray below meth c H locs 0 0 Q (F0 m 0 ls []) by rw [hH, hlo] at h9; exact h9
  clear hH hlo
  have hiX0 : ∀ w ∈ wsX00, w ∈ wv_X4_deadEnd := fun w h => List.mem_cons_of_mem _ (inlX0 w h)
  have hiX1 : ∀ w ∈ wsX10, w ∈ wv_X4_deadEnd := fun w h => List.mem_cons_of_mem _ (inlX1 w h)
  have hiX4 : ∀ w ∈ wsX40, w ∈ wv_X4_deadEnd := fun w h => List.mem_cons_of_mem _ (inlX4 w h)
  have hk0 := hts (.fieldLink RX4 10 "FairLoops" "graph" "LFairLoops$Graph;") (List.mem_cons_of_mem _ wk_16)
  have hk1 := hts (.fieldLink RX4 51 "FairLoops$Graph" "states" "I") (List.mem_cons_of_mem _ wk_108)
  have hk2 := hts (.fieldLink RX4 30 "FairLoops" "knots" "LFairLoops$Knots;") (List.mem_cons_of_mem _ wk_26)
  have hk3 := hts (.fieldLink RX4 138 "FairLoops$Knots" "chosen" "[Z") (List.mem_cons_of_mem _ wk_219)
  refine lv_iconst (v := 0) hx hb dX4_deadEnd_0 (by decide) ?_
  refine lv_istore_n (lv' := [(2, .int 0), (0, .ref (ad 0)), (1, .int a1)]) hx hb dX4_deadEnd_1 rfl hl (by decide) rfl (fun ls hl => ?_)
  refine lv_iconst (v := 0) hx hb dX4_deadEnd_2 (by decide) ?_
  refine lv_istore_n (lv' := [(3, .int 0), (2, .int 0), (0, .ref (ad 0)), (1, .int a1)]) hx hb dX4_deadEnd_3 rfl hl (by decide) rfl (fun ls hl => ?_)
  obtain ⟨ex_4, hex_4, h_4⟩ := ox_b_of h
  have hX_4 : ∀ (v2_4 : Int32) (v3_4 : Int32) (H : Heap) (locs : List Loc) (ls : Array Slot), Sum.inl (v2_4, v3_4) = ex_4 → va_P D vwCl [(kF ad), (kG ad G_states G_moves G_ends), (kK ad K_found K_closed K_entries K_depth K_opened), (kZ cZ (ad 9) 200 G_isEnd), (kI cI (ad 15) 201 G_start), (kZ cZ (ad 19) 200 K_chosen)] H → va_D A [(kF ad), (kG ad G_states G_moves G_ends), (kK ad K_found K_closed K_entries K_depth K_opened), (kZ cZ (ad 9) 200 G_isEnd), (kI cI (ad 15) 201 G_start), (kZ cZ (ad 19) 200 K_chosen)] → va_S A s.heap H locs → lv_has ls 4 [] → W p l e { frames := 1, cells := 0, slots := 0, locals := 21 } s m ([.ref (ad 0), .int a1] : List Value).toArray below meth c H locs 0 0 Q (F0 m 54 ls []) := by
    intro v2_4 v3_4 H locs ls hex_4 hP hD hS hl
    subst hex_4
    have h := h_4
    refine lv_iconst (v := (-1)) hx hb dX4_deadEnd_54 (by decide) ?_
    have h := Option.some.inj h
    subst h
    exact hend H locs _ ls hP hD hS dX4_deadEnd_55 trivial
  have hL_4 : ∀ (n : Nat) (v2_4 : Int32) (v3_4 : Int32) (H : Heap) (locs : List Loc) (ls : Array Slot), ox_l (fn_X4_deadEnd_l4 G_states K_chosen G_isEnd G_start a1) n (v2_4, v3_4) = some ex_4 → va_P D vwCl [(kF ad), (kG ad G_states G_moves G_ends), (kK ad K_found K_closed K_entries K_depth K_opened), (kZ cZ (ad 9) 200 G_isEnd), (kI cI (ad 15) 201 G_start), (kZ cZ (ad 19) 200 K_chosen)] H → va_D A [(kF ad), (kG ad G_states G_moves G_ends), (kK ad K_found K_closed K_entries K_depth K_opened), (kZ cZ (ad 9) 200 G_isEnd), (kI cI (ad 15) 201 G_start), (kZ cZ (ad 19) 200 K_chosen)] → va_S A s.heap H locs → lv_has ls 4 [(0, .ref (ad 0)), (1, .int a1), (2, .int v2_4), (3, .int v3_4)] → W p l e { frames := 1, cells := 0, slots := 0, locals := 21 } s m ([.ref (ad 0), .int a1] : List Value).toArray below meth c H locs 0 0 Q (F0 m 4 ls []) := by
    intro n
    induction n with
    | zero => intro v2_4 v3_4 H locs ls hlp; exact ox_l_0 hlp
    | succ n ih_4 =>
      intro v2_4 v3_4 H locs ls hlp_4 hP hD hS hl
      obtain ⟨z_4, h, hlp_4⟩ := ox_l_of hlp_4
      refine lv_iload_n hx hb dX4_deadEnd_4 rfl (lv_at hl 3 rfl) ?_
      refine lv_aload_n hx hb dX4_deadEnd_5 rfl (lv_at hl 0 rfl) ?_
      refine va_get (D := D) (ci := 4) (v := .ref (ad 1)) (C := RX4) (T := TX4) (N := 6) hx hb hts hiX4 hown hK hP 0 rfl rfl 0 (by decide) hk0 (fun _ h9 => h9) rfl dX4_deadEnd_6 ?_
      refine va_get (D := D) (ci := 0) (v := .int G_states) (C := RX0) (T := TX0) (N := 11) hx hb hts hiX0 hown hK hP 1 rfl rfl 0 (by decide) hk1 (fun _ h9 => h9) rfl dX4_deadEnd_9 ?_
      refine lv_icmp_ge (tgt := 54) hx hb dX4_deadEnd_12 (by decide) (fun c_12 => ?_) (fun c_12 => ?_)
      · have h := ox_t c_12 h
        obtain rfl := Option.some.inj h
        exact hX_4 v2_4 v3_4 H locs ls hlp_4 hP hD hS (lv_sub hl [] rfl)
      · have h := ox_f c_12 h
        refine lv_aload_n hx hb dX4_deadEnd_15 rfl (lv_at hl 0 rfl) ?_
        refine va_get (D := D) (ci := 4) (v := .ref (ad 3)) (C := RX4) (T := TX4) (N := 6) hx hb hts hiX4 hown hK hP 0 rfl rfl 3 (by decide) hk2 (fun _ h9 => h9) rfl dX4_deadEnd_16 ?_
        refine va_get (D := D) (ci := 1) (v := .ref (ad 19)) (C := RX1) (T := TX1) (N := 13) hx hb hts hiX1 hown hK hP 2 rfl rfl 0 (by decide) hk3 (fun _ h9 => h9) rfl dX4_deadEnd_19 ?_
        refine lv_iload_n hx hb dX4_deadEnd_22 rfl (lv_at hl 3 rfl) ?_
        obtain ⟨hi_23, h⟩ := ox_i_of h
        refine va_zald hx hb hK hP 5 1 rfl rfl hi_23 dX4_deadEnd_23 ?_
        refine lv_if_eq (tgt := 48) hx hb dX4_deadEnd_24 (by decide) (fun c_24 => ?_) (fun c_24 => ?_)
        · have h := ox_t c_24 h
          refine lv_iinc (v := v3_4 + 1) (lv' := [(3, .int (v3_4 + 1)), (0, .ref (ad 0)), (1, .int a1), (2, .int v2_4)]) hx hb dX4_deadEnd_48 hl (k := 3) rfl rfl (by decide) rfl (fun ls hl => ?_)
          refine lv_goto (tgt := 4) hx hb dX4_deadEnd_51 (by decide) ?_
          obtain rfl := Option.some.inj h
          exact ih_4 v2_4 (v3_4 + 1) H locs ls hlp_4 hP hD hS (lv_sub hl [1, 2, 3, 0] rfl)
        · have h := ox_f c_24 h
          refine lv_aload_n hx hb dX4_deadEnd_27 rfl (lv_at hl 0 rfl) ?_
          refine va_get (D := D) (ci := 4) (v := .ref (ad 1)) (C := RX4) (T := TX4) (N := 6) hx hb hts hiX4 hown hK hP 0 rfl rfl 0 (by decide) hk0 (fun _ h9 => h9) rfl dX4_deadEnd_28 ?_
          refine lv_iload_n hx hb dX4_deadEnd_31 rfl (lv_at hl 3 rfl) ?_
          obtain ⟨r_32, hc_32, h⟩ := ox_b_of h
          refine mc_callV (As := [.int v3_4]) (rest := []) (b := ad 1) (Wc := [(kG ad G_states G_moves G_ends), (kZ cZ (ad 9) 200 G_isEnd), (kI cI (ad 15) 201 G_start)]) (wr := [(kF ad), (kK ad K_found K_closed K_entries K_depth K_opened), (kZ cZ (ad 19) 200 K_chosen)]) (W1 := [(kG ad G_states G_moves G_ends), (kZ cZ (ad 9) 200 G_isEnd), (kI cI (ad 15) 201 G_start)]) (wn := [(kF ad), (kG ad G_states G_moves G_ends), (kK ad K_found K_closed K_entries K_depth K_opened), (kZ cZ (ad 9) 200 G_isEnd), (kI cI (ad 15) 201 G_start), (kZ cZ (ad 19) 200 K_chosen)]) (rv := some (.int r_32)) ⟨hx, hb, hml, hown, hts⟩ (c_X0_isStuck l D cI cZ ad G_states G_moves G_ends G_isEnd G_start v3_4 _ hc_32) (cwV 1 hts (gl_V wk_226 wk_227 wk_228 wk_15 wk_229) rfl rfl rfl (by decide +kernel) ⟨Nat.le_of_ble_eq_true rfl, Nat.le_of_ble_eq_true rfl⟩) hK hP hD hS hA 0 0 rfl rfl rfl [1, 3, 4] [0, 2, 5] [0, 3, 1, 4, 5, 2] rfl rfl (by decide) rfl (by decide) (by decide) rfl rfl (by decide) rfl rfl hl.1 (Nat.le_of_ble_eq_true rfl) dX4_deadEnd_32 ⟨Nat.zero_le _, Nat.zero_le _⟩ (fun H locs hP hD hS => ?_)
          show W p l e { frames := 1, cells := 0, slots := 0, locals := 21 } s m ([.ref (ad 0), .int a1] : List Value).toArray below meth c H locs 0 0 Q (F0 m 35 ls [.int r_32])
          refine lv_if_eq (tgt := 48) hx hb dX4_deadEnd_35 (by decide) (fun c_35 => ?_) (fun c_35 => ?_)
          · have h := ox_t c_35 h
            refine lv_iinc (v := v3_4 + 1) (lv' := [(3, .int (v3_4 + 1)), (0, .ref (ad 0)), (1, .int a1), (2, .int v2_4)]) hx hb dX4_deadEnd_48 hl (k := 3) rfl rfl (by decide) rfl (fun ls hl => ?_)
            refine lv_goto (tgt := 4) hx hb dX4_deadEnd_51 (by decide) ?_
            obtain rfl := Option.some.inj h
            exact ih_4 v2_4 (v3_4 + 1) H locs ls hlp_4 hP hD hS (lv_sub hl [1, 2, 3, 0] rfl)
          · have h := ox_f c_35 h
            refine lv_iload_n hx hb dX4_deadEnd_38 rfl (lv_at hl 2 rfl) ?_
            refine lv_iload_n hx hb dX4_deadEnd_39 rfl (lv_at hl 1 rfl) ?_
            refine lv_icmp_ne (tgt := 45) hx hb dX4_deadEnd_40 (by decide) (fun c_40 => ?_) (fun c_40 => ?_)
            · have h := ox_f c_40 h
              refine lv_iinc (v := v2_4 + 1) (lv' := [(2, .int (v2_4 + 1)), (0, .ref (ad 0)), (1, .int a1), (3, .int v3_4)]) hx hb dX4_deadEnd_45 hl (k := 2) rfl rfl (by decide) rfl (fun ls hl => ?_)
              refine lv_iinc (v := v3_4 + 1) (lv' := [(3, .int (v3_4 + 1)), (2, .int (v2_4 + 1)), (0, .ref (ad 0)), (1, .int a1)]) hx hb dX4_deadEnd_48 hl (k := 3) rfl rfl (by decide) rfl (fun ls hl => ?_)
              refine lv_goto (tgt := 4) hx hb dX4_deadEnd_51 (by decide) ?_
              obtain rfl := Option.some.inj h
              exact ih_4 (v2_4 + 1) (v3_4 + 1) H locs ls hlp_4 hP hD hS (lv_sub hl [2, 3, 1, 0] rfl)
            · have h := ox_t c_40 h
              refine lv_iload_n hx hb dX4_deadEnd_43 rfl (lv_at hl 3 rfl) ?_
              have h := Option.some.inj h
              subst h
              have hlp_4 : _ = ex_4 := hlp_4
              subst hlp_4
              have h_4 := Option.some.inj h_4
              subst h_4
              exact hend H locs _ ls hP hD hS dX4_deadEnd_44 trivial
  exact hL_4 1000000 0 0 H locs ls hex_4 hP hD hS (lv_sub hl [2, 3, 1, 0] rfl)
set_option maxHeartbeats 4000000 in
set_option maxRecDepth 100000 in
theorem c_X4_keepFairStates (l : Launch) (D : va_G) (cI cZ : ClassId) (ad : Nat → Nat) (G_states : Int32) (G_moves : Int32) (G_ends : Int32) (K_found : Int32) (K_closed : Int32) (K_entries : Int32) (K_depth : Int32) (K_opened : Int32) (F_kinds : Nat → Int32) (G_able : Nat → Int32) (G_from : Nat → Int32) (G_to : Nat → Int32) (G_labelOf : Nat → Int32) (G_out : Nat → Int32) (G_start : Nat → Int32) (K_chosen : Nat → Int32) (K_knotOf : Nat → Int32) (K_order : Nat → Int32) (K_entered : Nat → Int32) (K_low : Nat → Int32) (K_nextOut : Nat → Int32) (K_path : Nat → Int32) (K_open : Nat → Int32) (S_size : Nat → Int32) (S_lowest : Nat → Int32) (S_ableInAll : Nat → Int32) (S_inside : Nat → Int32) (S_goesRound : Nat → Int32) (res : Int32 × Int32 × Int32 × Int32 × Int32 × (Nat → Int32) × (Nat → Int32) × (Nat → Int32) × (Nat → Int32) × (Nat → Int32) × (Nat → Int32) × (Nat → Int32) × (Nat → Int32) × (Nat → Int32) × (Nat → Int32) × (Nat → Int32) × (Nat → Int32) × (Nat → Int32)) (h : fn_X4_keepFairStates G_states G_moves K_found K_closed K_entries K_depth K_opened F_kinds G_able G_from G_to G_labelOf G_out G_start K_chosen K_knotOf K_order K_entered K_low K_nextOut K_path K_open S_size S_lowest S_ableInAll S_inside S_goesRound = some res) : mc_C l yX4_keepFairStates wv_X4_keepFairStates { frames := 4, cells := 0, slots := 0, locals := 91 } D [(cI, .int), (cZ, .boolean)] [.ref (ad 0)] [(kF ad), (kG ad G_states G_moves G_ends), (kK ad K_found K_closed K_entries K_depth K_opened), (kS ad), (kI cI (ad 6) 16 F_kinds), (kI cI (ad 10) 200 G_able), (kI cI (ad 11) 600 G_from), (kI cI (ad 12) 600 G_to), (kI cI (ad 13) 600 G_labelOf), (kI cI (ad 14) 600 G_out), (kI cI (ad 15) 201 G_start), (kZ cZ (ad 19) 200 K_chosen), (kI cI (ad 20) 200 K_knotOf), (kI cI (ad 21) 200 K_order), (kI cI (ad 22) 200 K_entered), (kI cI (ad 23) 200 K_low), (kI cI (ad 24) 200 K_nextOut), (kI cI (ad 25) 200 K_path), (kI cI (ad 26) 200 K_open), (kI cI (ad 27) 200 S_size), (kI cI (ad 28) 200 S_lowest), (kI cI (ad 29) 200 S_ableInAll), (kI cI (ad 30) 200 S_inside), (kZ cZ (ad 31) 200 S_goesRound)] (none) [(kF ad), (kG ad G_states G_moves G_ends), (kK ad res.1 res.2.1 res.2.2.1 res.2.2.2.1 res.2.2.2.2.1), (kS ad), (kI cI (ad 6) 16 F_kinds), (kI cI (ad 10) 200 G_able), (kI cI (ad 11) 600 G_from), (kI cI (ad 12) 600 G_to), (kI cI (ad 13) 600 G_labelOf), (kI cI (ad 14) 600 G_out), (kI cI (ad 15) 201 G_start), (kZ cZ (ad 19) 200 res.2.2.2.2.2.1), (kI cI (ad 20) 200 res.2.2.2.2.2.2.1), (kI cI (ad 21) 200 res.2.2.2.2.2.2.2.1), (kI cI (ad 22) 200 res.2.2.2.2.2.2.2.2.1), (kI cI (ad 23) 200 res.2.2.2.2.2.2.2.2.2.1), (kI cI (ad 24) 200 res.2.2.2.2.2.2.2.2.2.2.1), (kI cI (ad 25) 200 res.2.2.2.2.2.2.2.2.2.2.2.1), (kI cI (ad 26) 200 res.2.2.2.2.2.2.2.2.2.2.2.2.1), (kI cI (ad 27) 200 res.2.2.2.2.2.2.2.2.2.2.2.2.2.1), (kI cI (ad 28) 200 res.2.2.2.2.2.2.2.2.2.2.2.2.2.2.1), (kI cI (ad 29) 200 res.2.2.2.2.2.2.2.2.2.2.2.2.2.2.2.1), (kI cI (ad 30) 200 res.2.2.2.2.2.2.2.2.2.2.2.2.2.2.2.2.1), (kZ cZ (ad 31) 200 res.2.2.2.2.2.2.2.2.2.2.2.2.2.2.2.2.2)] := by
  refine mc_ofv (own := RX4) (by decide) rfl rfl (Nat.le_of_ble_eq_true rfl) ?_
  intro p e s m below meth c A Q ls hx hb hml hown hts hK hP hD hA hl hend
  have hS : va_S A s.heap s.heap [] := va_S.rf
  have hl : lv_has ls 5 [(0, .ref (ad 0))] := hl
  obtain ⟨H, hH⟩ : ∃ H, H = s.heap := ⟨_, rfl⟩
  obtain ⟨locs, hlo⟩ : ∃ locs : List Loc, locs = [] := ⟨_, rfl⟩
  have hS : va_S A s.heap H locs := by rw [hH, hlo]; exact hS
  have hP : va_P D vwCl [(kF ad), (kG ad G_states G_moves G_ends), (kK ad K_found K_closed K_entries K_depth K_opened), (kS ad), (kI cI (ad 6) 16 F_kinds), (kI cI (ad 10) 200 G_able), (kI cI (ad 11) 600 G_from), (kI cI (ad 12) 600 G_to), (kI cI (ad 13) 600 G_labelOf), (kI cI (ad 14) 600 G_out), (kI cI (ad 15) 201 G_start), (kZ cZ (ad 19) 200 K_chosen), (kI cI (ad 20) 200 K_knotOf), (kI cI (ad 21) 200 K_order), (kI cI (ad 22) 200 K_entered), (kI cI (ad 23) 200 K_low), (kI cI (ad 24) 200 K_nextOut), (kI cI (ad 25) 200 K_path), (kI cI (ad 26) 200 K_open), (kI cI (ad 27) 200 S_size), (kI cI (ad 28) 200 S_lowest), (kI cI (ad 29) 200 S_ableInAll), (kI cI (ad 30) 200 S_inside), (kZ cZ (ad 31) 200 S_goesRound)] H := by rw [hH]; exact hP
  suffices h9 : W p l e { frames := 4, cells := 0, slots := 0, locals := 91 } s m ([.ref (ad 0)] : List Value).toArray below meth c H locs 0 0 Q (F0 m 0 ls []) by rw [hH, hlo] at h9; exact h9
  clear hH hlo
  have hiX0 : ∀ w ∈ wsX00, w ∈ wv_X4_keepFairStates := fun w h => List.mem_cons_of_mem _ (inlX0 w h)
  have hiX4 : ∀ w ∈ wsX40, w ∈ wv_X4_keepFairStates := fun w h => List.mem_cons_of_mem _ (inlX4 w h)
  have hk0 := hts (.fieldLink RX4 10 "FairLoops" "graph" "LFairLoops$Graph;") (List.mem_cons_of_mem _ wk_16)
  have hk1 := hts (.fieldLink RX4 51 "FairLoops$Graph" "states" "I") (List.mem_cons_of_mem _ wk_108)
  have hk2 := hts (.fieldLink RX4 30 "FairLoops" "knots" "LFairLoops$Knots;") (List.mem_cons_of_mem _ wk_26)
  have hk3 := hts (.fieldLink RX4 37 "FairLoops" "sums" "LFairLoops$Sums;") (List.mem_cons_of_mem _ wk_30)
  refine lv_aload_n hx hb dX4_keepFairStates_0 rfl (lv_at hl 0 rfl) ?_
  refine lv_iconst (v := 1) hx hb dX4_keepFairStates_1 (by decide) ?_
  obtain ⟨r_2, hc_2, h⟩ := ox_b_of h
  refine mc_callV (As := [.int 1]) (rest := []) (b := ad 0) (Wc := [(kF ad), (kI cI (ad 6) 16 F_kinds)]) (wr := [(kG ad G_states G_moves G_ends), (kK ad K_found K_closed K_entries K_depth K_opened), (kS ad), (kI cI (ad 10) 200 G_able), (kI cI (ad 11) 600 G_from), (kI cI (ad 12) 600 G_to), (kI cI (ad 13) 600 G_labelOf), (kI cI (ad 14) 600 G_out), (kI cI (ad 15) 201 G_start), (kZ cZ (ad 19) 200 K_chosen), (kI cI (ad 20) 200 K_knotOf), (kI cI (ad 21) 200 K_order), (kI cI (ad 22) 200 K_entered), (kI cI (ad 23) 200 K_low), (kI cI (ad 24) 200 K_nextOut), (kI cI (ad 25) 200 K_path), (kI cI (ad 26) 200 K_open), (kI cI (ad 27) 200 S_size), (kI cI (ad 28) 200 S_lowest), (kI cI (ad 29) 200 S_ableInAll), (kI cI (ad 30) 200 S_inside), (kZ cZ (ad 31) 200 S_goesRound)]) (W1 := [(kF ad), (kI cI (ad 6) 16 F_kinds)]) (wn := [(kF ad), (kG ad G_states G_moves G_ends), (kK ad K_found K_closed K_entries K_depth K_opened), (kS ad), (kI cI (ad 6) 16 F_kinds), (kI cI (ad 10) 200 G_able), (kI cI (ad 11) 600 G_from), (kI cI (ad 12) 600 G_to), (kI cI (ad 13) 600 G_labelOf), (kI cI (ad 14) 600 G_out), (kI cI (ad 15) 201 G_start), (kZ cZ (ad 19) 200 K_chosen), (kI cI (ad 20) 200 K_knotOf), (kI cI (ad 21) 200 K_order), (kI cI (ad 22) 200 K_entered), (kI cI (ad 23) 200 K_low), (kI cI (ad 24) 200 K_nextOut), (kI cI (ad 25) 200 K_path), (kI cI (ad 26) 200 K_open), (kI cI (ad 27) 200 S_size), (kI cI (ad 28) 200 S_lowest), (kI cI (ad 29) 200 S_ableInAll), (kI cI (ad 30) 200 S_inside), (kZ cZ (ad 31) 200 S_goesRound)]) (rv := some (.int r_2)) ⟨hx, hb, hml, hown, hts⟩ (c_X4_labelsOfKind l D cI cZ ad F_kinds 1 _ hc_2) (cwV 1 hts (gl_V wk_234 wk_235 wk_236 wk_2 wk_237) rfl rfl rfl (by decide +kernel) ⟨Nat.le_of_ble_eq_true rfl, Nat.le_of_ble_eq_true rfl⟩) hK hP hD hS hA 4 0 rfl rfl rfl [0, 4] [1, 2, 3, 5, 6, 7, 8, 9, 10, 11, 12, 13, 14, 15, 16, 17, 18, 19, 20, 21, 22, 23] [22, 0, 1, 2, 23, 3, 4, 5, 6, 7, 8, 9, 10, 11, 12, 13, 14, 15, 16, 17, 18, 19, 20, 21] rfl rfl (by decide) rfl (by decide) (by decide) rfl rfl (by decide) rfl rfl hl.1 (Nat.le_of_ble_eq_true rfl) dX4_keepFairStates_2 ⟨Nat.zero_le _, Nat.zero_le _⟩ (fun H locs hP hD hS => ?_)
  show W p l e { frames := 4, cells := 0, slots := 0, locals := 91 } s m ([.ref (ad 0)] : List Value).toArray below meth c H locs 0 0 Q (F0 m 5 ls [.int r_2])
  refine lv_istore_n (lv' := [(1, .int r_2), (0, .ref (ad 0))]) hx hb dX4_keepFairStates_5 rfl hl (by decide) rfl (fun ls hl => ?_)
  refine lv_aload_n hx hb dX4_keepFairStates_6 rfl (lv_at hl 1 rfl) ?_
  refine lv_iconst (v := 2) hx hb dX4_keepFairStates_7 (by decide) ?_
  obtain ⟨r_8, hc_8, h⟩ := ox_b_of h
  refine mc_callV (As := [.int 2]) (rest := []) (b := ad 0) (Wc := [(kF ad), (kI cI (ad 6) 16 F_kinds)]) (wr := [(kG ad G_states G_moves G_ends), (kK ad K_found K_closed K_entries K_depth K_opened), (kS ad), (kI cI (ad 10) 200 G_able), (kI cI (ad 11) 600 G_from), (kI cI (ad 12) 600 G_to), (kI cI (ad 13) 600 G_labelOf), (kI cI (ad 14) 600 G_out), (kI cI (ad 15) 201 G_start), (kZ cZ (ad 19) 200 K_chosen), (kI cI (ad 20) 200 K_knotOf), (kI cI (ad 21) 200 K_order), (kI cI (ad 22) 200 K_entered), (kI cI (ad 23) 200 K_low), (kI cI (ad 24) 200 K_nextOut), (kI cI (ad 25) 200 K_path), (kI cI (ad 26) 200 K_open), (kI cI (ad 27) 200 S_size), (kI cI (ad 28) 200 S_lowest), (kI cI (ad 29) 200 S_ableInAll), (kI cI (ad 30) 200 S_inside), (kZ cZ (ad 31) 200 S_goesRound)]) (W1 := [(kF ad), (kI cI (ad 6) 16 F_kinds)]) (wn := [(kF ad), (kG ad G_states G_moves G_ends), (kK ad K_found K_closed K_entries K_depth K_opened), (kS ad), (kI cI (ad 6) 16 F_kinds), (kI cI (ad 10) 200 G_able), (kI cI (ad 11) 600 G_from), (kI cI (ad 12) 600 G_to), (kI cI (ad 13) 600 G_labelOf), (kI cI (ad 14) 600 G_out), (kI cI (ad 15) 201 G_start), (kZ cZ (ad 19) 200 K_chosen), (kI cI (ad 20) 200 K_knotOf), (kI cI (ad 21) 200 K_order), (kI cI (ad 22) 200 K_entered), (kI cI (ad 23) 200 K_low), (kI cI (ad 24) 200 K_nextOut), (kI cI (ad 25) 200 K_path), (kI cI (ad 26) 200 K_open), (kI cI (ad 27) 200 S_size), (kI cI (ad 28) 200 S_lowest), (kI cI (ad 29) 200 S_ableInAll), (kI cI (ad 30) 200 S_inside), (kZ cZ (ad 31) 200 S_goesRound)]) (rv := some (.int r_8)) ⟨hx, hb, hml, hown, hts⟩ (c_X4_labelsOfKind l D cI cZ ad F_kinds 2 _ hc_8) (cwV 1 hts (gl_V wk_234 wk_235 wk_236 wk_2 wk_237) rfl rfl rfl (by decide +kernel) ⟨Nat.le_of_ble_eq_true rfl, Nat.le_of_ble_eq_true rfl⟩) hK hP hD hS hA 4 0 rfl rfl rfl [0, 4] [1, 2, 3, 5, 6, 7, 8, 9, 10, 11, 12, 13, 14, 15, 16, 17, 18, 19, 20, 21, 22, 23] [22, 0, 1, 2, 23, 3, 4, 5, 6, 7, 8, 9, 10, 11, 12, 13, 14, 15, 16, 17, 18, 19, 20, 21] rfl rfl (by decide) rfl (by decide) (by decide) rfl rfl (by decide) rfl rfl hl.1 (Nat.le_of_ble_eq_true rfl) dX4_keepFairStates_8 ⟨Nat.zero_le _, Nat.zero_le _⟩ (fun H locs hP hD hS => ?_)
  show W p l e { frames := 4, cells := 0, slots := 0, locals := 91 } s m ([.ref (ad 0)] : List Value).toArray below meth c H locs 0 0 Q (F0 m 11 ls [.int r_8])
  refine lv_istore_n (lv' := [(2, .int r_8), (1, .int r_2), (0, .ref (ad 0))]) hx hb dX4_keepFairStates_11 rfl hl (by decide) rfl (fun ls hl => ?_)
  refine lv_iconst (v := 1) hx hb dX4_keepFairStates_12 (by decide) ?_
  refine lv_istore_n (lv' := [(3, .int 1), (2, .int r_8), (1, .int r_2), (0, .ref (ad 0))]) hx hb dX4_keepFairStates_13 rfl hl (by decide) rfl (fun ls hl => ?_)
  refine lv_iconst (v := 0) hx hb dX4_keepFairStates_14 (by decide) ?_
  refine lv_istore (lv' := [(4, .int 0), (3, .int 1), (2, .int r_8), (1, .int r_2), (0, .ref (ad 0))]) hx hb dX4_keepFairStates_15 hl (by decide) rfl (fun ls hl => ?_)
  obtain ⟨ex_17, hex_17, h_17⟩ := ox_b_of h
  have hX_17 : ∀ (v3_17 : Int32) (v4_17 : Int32) (K_found_17 : Int32) (K_closed_17 : Int32) (K_entries_17 : Int32) (K_depth_17 : Int32) (K_opened_17 : Int32) (K_chosen_17 : Nat → Int32) (K_knotOf_17 : Nat → Int32) (K_order_17 : Nat → Int32) (K_entered_17 : Nat → Int32) (K_low_17 : Nat → Int32) (K_nextOut_17 : Nat → Int32) (K_path_17 : Nat → Int32) (K_open_17 : Nat → Int32) (S_size_17 : Nat → Int32) (S_lowest_17 : Nat → Int32) (S_ableInAll_17 : Nat → Int32) (S_inside_17 : Nat → Int32) (S_goesRound_17 : Nat → Int32) (H : Heap) (locs : List Loc) (ls : Array Slot), (v3_17, v4_17, K_found_17, K_closed_17, K_entries_17, K_depth_17, K_opened_17, K_chosen_17, K_knotOf_17, K_order_17, K_entered_17, K_low_17, K_nextOut_17, K_path_17, K_open_17, S_size_17, S_lowest_17, S_ableInAll_17, S_inside_17, S_goesRound_17) = ex_17 → va_P D vwCl [(kF ad), (kG ad G_states G_moves G_ends), (kK ad K_found_17 K_closed_17 K_entries_17 K_depth_17 K_opened_17), (kS ad), (kI cI (ad 6) 16 F_kinds), (kI cI (ad 10) 200 G_able), (kI cI (ad 11) 600 G_from), (kI cI (ad 12) 600 G_to), (kI cI (ad 13) 600 G_labelOf), (kI cI (ad 14) 600 G_out), (kI cI (ad 15) 201 G_start), (kZ cZ (ad 19) 200 K_chosen_17), (kI cI (ad 20) 200 K_knotOf_17), (kI cI (ad 21) 200 K_order_17), (kI cI (ad 22) 200 K_entered_17), (kI cI (ad 23) 200 K_low_17), (kI cI (ad 24) 200 K_nextOut_17), (kI cI (ad 25) 200 K_path_17), (kI cI (ad 26) 200 K_open_17), (kI cI (ad 27) 200 S_size_17), (kI cI (ad 28) 200 S_lowest_17), (kI cI (ad 29) 200 S_ableInAll_17), (kI cI (ad 30) 200 S_inside_17), (kZ cZ (ad 31) 200 S_goesRound_17)] H → va_D A [(kF ad), (kG ad G_states G_moves G_ends), (kK ad K_found_17 K_closed_17 K_entries_17 K_depth_17 K_opened_17), (kS ad), (kI cI (ad 6) 16 F_kinds), (kI cI (ad 10) 200 G_able), (kI cI (ad 11) 600 G_from), (kI cI (ad 12) 600 G_to), (kI cI (ad 13) 600 G_labelOf), (kI cI (ad 14) 600 G_out), (kI cI (ad 15) 201 G_start), (kZ cZ (ad 19) 200 K_chosen_17), (kI cI (ad 20) 200 K_knotOf_17), (kI cI (ad 21) 200 K_order_17), (kI cI (ad 22) 200 K_entered_17), (kI cI (ad 23) 200 K_low_17), (kI cI (ad 24) 200 K_nextOut_17), (kI cI (ad 25) 200 K_path_17), (kI cI (ad 26) 200 K_open_17), (kI cI (ad 27) 200 S_size_17), (kI cI (ad 28) 200 S_lowest_17), (kI cI (ad 29) 200 S_ableInAll_17), (kI cI (ad 30) 200 S_inside_17), (kZ cZ (ad 31) 200 S_goesRound_17)] → va_S A s.heap H locs → lv_has ls 5 [] → W p l e { frames := 4, cells := 0, slots := 0, locals := 91 } s m ([.ref (ad 0)] : List Value).toArray below meth c H locs 0 0 Q (F0 m 72 ls []) := by
    intro v3_17 v4_17 K_found_17 K_closed_17 K_entries_17 K_depth_17 K_opened_17 K_chosen_17 K_knotOf_17 K_order_17 K_entered_17 K_low_17 K_nextOut_17 K_path_17 K_open_17 S_size_17 S_lowest_17 S_ableInAll_17 S_inside_17 S_goesRound_17 H locs ls hex_17 hP hD hS hl
    subst hex_17
    have h := h_17
    have h := Option.some.inj h
    subst h
    exact hend H locs _ ls hP hD hS dX4_keepFairStates_72 trivial
  have hL_17 : ∀ (n : Nat) (v3_17 : Int32) (v4_17 : Int32) (K_found_17 : Int32) (K_closed_17 : Int32) (K_entries_17 : Int32) (K_depth_17 : Int32) (K_opened_17 : Int32) (K_chosen_17 : Nat → Int32) (K_knotOf_17 : Nat → Int32) (K_order_17 : Nat → Int32) (K_entered_17 : Nat → Int32) (K_low_17 : Nat → Int32) (K_nextOut_17 : Nat → Int32) (K_path_17 : Nat → Int32) (K_open_17 : Nat → Int32) (S_size_17 : Nat → Int32) (S_lowest_17 : Nat → Int32) (S_ableInAll_17 : Nat → Int32) (S_inside_17 : Nat → Int32) (S_goesRound_17 : Nat → Int32) (H : Heap) (locs : List Loc) (ls : Array Slot), ox_l (fn_X4_keepFairStates_l17 G_states G_moves G_to G_out G_start G_able G_from G_labelOf r_2 r_8) n (v3_17, v4_17, K_found_17, K_closed_17, K_entries_17, K_depth_17, K_opened_17, K_chosen_17, K_knotOf_17, K_order_17, K_entered_17, K_low_17, K_nextOut_17, K_path_17, K_open_17, S_size_17, S_lowest_17, S_ableInAll_17, S_inside_17, S_goesRound_17) = some ex_17 → va_P D vwCl [(kF ad), (kG ad G_states G_moves G_ends), (kK ad K_found_17 K_closed_17 K_entries_17 K_depth_17 K_opened_17), (kS ad), (kI cI (ad 6) 16 F_kinds), (kI cI (ad 10) 200 G_able), (kI cI (ad 11) 600 G_from), (kI cI (ad 12) 600 G_to), (kI cI (ad 13) 600 G_labelOf), (kI cI (ad 14) 600 G_out), (kI cI (ad 15) 201 G_start), (kZ cZ (ad 19) 200 K_chosen_17), (kI cI (ad 20) 200 K_knotOf_17), (kI cI (ad 21) 200 K_order_17), (kI cI (ad 22) 200 K_entered_17), (kI cI (ad 23) 200 K_low_17), (kI cI (ad 24) 200 K_nextOut_17), (kI cI (ad 25) 200 K_path_17), (kI cI (ad 26) 200 K_open_17), (kI cI (ad 27) 200 S_size_17), (kI cI (ad 28) 200 S_lowest_17), (kI cI (ad 29) 200 S_ableInAll_17), (kI cI (ad 30) 200 S_inside_17), (kZ cZ (ad 31) 200 S_goesRound_17)] H → va_D A [(kF ad), (kG ad G_states G_moves G_ends), (kK ad K_found_17 K_closed_17 K_entries_17 K_depth_17 K_opened_17), (kS ad), (kI cI (ad 6) 16 F_kinds), (kI cI (ad 10) 200 G_able), (kI cI (ad 11) 600 G_from), (kI cI (ad 12) 600 G_to), (kI cI (ad 13) 600 G_labelOf), (kI cI (ad 14) 600 G_out), (kI cI (ad 15) 201 G_start), (kZ cZ (ad 19) 200 K_chosen_17), (kI cI (ad 20) 200 K_knotOf_17), (kI cI (ad 21) 200 K_order_17), (kI cI (ad 22) 200 K_entered_17), (kI cI (ad 23) 200 K_low_17), (kI cI (ad 24) 200 K_nextOut_17), (kI cI (ad 25) 200 K_path_17), (kI cI (ad 26) 200 K_open_17), (kI cI (ad 27) 200 S_size_17), (kI cI (ad 28) 200 S_lowest_17), (kI cI (ad 29) 200 S_ableInAll_17), (kI cI (ad 30) 200 S_inside_17), (kZ cZ (ad 31) 200 S_goesRound_17)] → va_S A s.heap H locs → lv_has ls 5 [(0, .ref (ad 0)), (1, .int r_2), (2, .int r_8), (3, .int v3_17), (4, .int v4_17)] → W p l e { frames := 4, cells := 0, slots := 0, locals := 91 } s m ([.ref (ad 0)] : List Value).toArray below meth c H locs 0 0 Q (F0 m 17 ls []) := by
    intro n
    induction n with
    | zero => intro v3_17 v4_17 K_found_17 K_closed_17 K_entries_17 K_depth_17 K_opened_17 K_chosen_17 K_knotOf_17 K_order_17 K_entered_17 K_low_17 K_nextOut_17 K_path_17 K_open_17 S_size_17 S_lowest_17 S_ableInAll_17 S_inside_17 S_goesRound_17 H locs ls hlp; exact ox_l_0 hlp
    | succ n ih_17 =>
      intro v3_17 v4_17 K_found_17 K_closed_17 K_entries_17 K_depth_17 K_opened_17 K_chosen_17 K_knotOf_17 K_order_17 K_entered_17 K_low_17 K_nextOut_17 K_path_17 K_open_17 S_size_17 S_lowest_17 S_ableInAll_17 S_inside_17 S_goesRound_17 H locs ls hlp_17 hP hD hS hl
      obtain ⟨z_17, h, hlp_17⟩ := ox_l_of hlp_17
      refine lv_iload hx hb dX4_keepFairStates_17 (lv_at hl 4 rfl) ?_
      refine lv_aload_n hx hb dX4_keepFairStates_19 rfl (lv_at hl 0 rfl) ?_
      refine va_get (D := D) (ci := 4) (v := .ref (ad 1)) (C := RX4) (T := TX4) (N := 6) hx hb hts hiX4 hown hK hP 0 rfl rfl 0 (by decide) hk0 (fun _ h9 => h9) rfl dX4_keepFairStates_20 ?_
      refine va_get (D := D) (ci := 0) (v := .int G_states) (C := RX0) (T := TX0) (N := 11) hx hb hts hiX0 hown hK hP 1 rfl rfl 0 (by decide) hk1 (fun _ h9 => h9) rfl dX4_keepFairStates_23 ?_
      refine lv_icmp_gt (tgt := 72) hx hb dX4_keepFairStates_26 (by decide) (fun c_26 => ?_) (fun c_26 => ?_)
      · have h := ox_t c_26 h
        obtain rfl := Option.some.inj h
        exact hX_17 v3_17 v4_17 K_found_17 K_closed_17 K_entries_17 K_depth_17 K_opened_17 K_chosen_17 K_knotOf_17 K_order_17 K_entered_17 K_low_17 K_nextOut_17 K_path_17 K_open_17 S_size_17 S_lowest_17 S_ableInAll_17 S_inside_17 S_goesRound_17 H locs ls hlp_17 hP hD hS (lv_sub hl [] rfl)
      · have h := ox_f c_26 h
        refine lv_iload_n hx hb dX4_keepFairStates_29 rfl (lv_at hl 3 rfl) ?_
        refine lv_if_eq (tgt := 72) hx hb dX4_keepFairStates_30 (by decide) (fun c_30 => ?_) (fun c_30 => ?_)
        · have h := ox_t c_30 h
          obtain rfl := Option.some.inj h
          exact hX_17 v3_17 v4_17 K_found_17 K_closed_17 K_entries_17 K_depth_17 K_opened_17 K_chosen_17 K_knotOf_17 K_order_17 K_entered_17 K_low_17 K_nextOut_17 K_path_17 K_open_17 S_size_17 S_lowest_17 S_ableInAll_17 S_inside_17 S_goesRound_17 H locs ls hlp_17 hP hD hS (lv_sub hl [] rfl)
        · have h := ox_f c_30 h
          refine lv_aload_n hx hb dX4_keepFairStates_33 rfl (lv_at hl 0 rfl) ?_
          refine va_get (D := D) (ci := 4) (v := .ref (ad 3)) (C := RX4) (T := TX4) (N := 6) hx hb hts hiX4 hown hK hP 0 rfl rfl 3 (by decide) hk2 (fun _ h9 => h9) rfl dX4_keepFairStates_34 ?_
          refine lv_aload_n hx hb dX4_keepFairStates_37 rfl (lv_at hl 0 rfl) ?_
          refine va_get (D := D) (ci := 4) (v := .ref (ad 1)) (C := RX4) (T := TX4) (N := 6) hx hb hts hiX4 hown hK hP 0 rfl rfl 0 (by decide) hk0 (fun _ h9 => h9) rfl dX4_keepFairStates_38 ?_
          obtain ⟨⟨K_found_41, K_closed_41, K_entries_41, K_depth_41, K_opened_41, K_knotOf_41, K_order_41, K_entered_41, K_low_41, K_nextOut_41, K_path_41, K_open_41⟩, hc_41, h⟩ := ox_b_of h
          refine mc_callV (As := [.ref (ad 1)]) (rest := []) (b := ad 3) (Wc := [(kG ad G_states G_moves G_ends), (kK ad K_found_17 K_closed_17 K_entries_17 K_depth_17 K_opened_17), (kI cI (ad 12) 600 G_to), (kI cI (ad 14) 600 G_out), (kI cI (ad 15) 201 G_start), (kZ cZ (ad 19) 200 K_chosen_17), (kI cI (ad 20) 200 K_knotOf_17), (kI cI (ad 21) 200 K_order_17), (kI cI (ad 22) 200 K_entered_17), (kI cI (ad 23) 200 K_low_17), (kI cI (ad 24) 200 K_nextOut_17), (kI cI (ad 25) 200 K_path_17), (kI cI (ad 26) 200 K_open_17)]) (wr := [(kF ad), (kS ad), (kI cI (ad 6) 16 F_kinds), (kI cI (ad 10) 200 G_able), (kI cI (ad 11) 600 G_from), (kI cI (ad 13) 600 G_labelOf), (kI cI (ad 27) 200 S_size_17), (kI cI (ad 28) 200 S_lowest_17), (kI cI (ad 29) 200 S_ableInAll_17), (kI cI (ad 30) 200 S_inside_17), (kZ cZ (ad 31) 200 S_goesRound_17)]) (W1 := [(kG ad G_states G_moves G_ends), (kK ad K_found_41 K_closed_41 K_entries_41 K_depth_41 K_opened_41), (kI cI (ad 12) 600 G_to), (kI cI (ad 14) 600 G_out), (kI cI (ad 15) 201 G_start), (kZ cZ (ad 19) 200 K_chosen_17), (kI cI (ad 20) 200 K_knotOf_41), (kI cI (ad 21) 200 K_order_41), (kI cI (ad 22) 200 K_entered_41), (kI cI (ad 23) 200 K_low_41), (kI cI (ad 24) 200 K_nextOut_41), (kI cI (ad 25) 200 K_path_41), (kI cI (ad 26) 200 K_open_41)]) (wn := [(kF ad), (kG ad G_states G_moves G_ends), (kK ad K_found_41 K_closed_41 K_entries_41 K_depth_41 K_opened_41), (kS ad), (kI cI (ad 6) 16 F_kinds), (kI cI (ad 10) 200 G_able), (kI cI (ad 11) 600 G_from), (kI cI (ad 12) 600 G_to), (kI cI (ad 13) 600 G_labelOf), (kI cI (ad 14) 600 G_out), (kI cI (ad 15) 201 G_start), (kZ cZ (ad 19) 200 K_chosen_17), (kI cI (ad 20) 200 K_knotOf_41), (kI cI (ad 21) 200 K_order_41), (kI cI (ad 22) 200 K_entered_41), (kI cI (ad 23) 200 K_low_41), (kI cI (ad 24) 200 K_nextOut_41), (kI cI (ad 25) 200 K_path_41), (kI cI (ad 26) 200 K_open_41), (kI cI (ad 27) 200 S_size_17), (kI cI (ad 28) 200 S_lowest_17), (kI cI (ad 29) 200 S_ableInAll_17), (kI cI (ad 30) 200 S_inside_17), (kZ cZ (ad 31) 200 S_goesRound_17)]) (rv := none) ⟨hx, hb, hml, hown, hts⟩ (c_X1_find l D cI cZ ad G_states G_moves G_ends K_found_17 K_closed_17 K_entries_17 K_depth_17 K_opened_17 G_to G_out G_start K_chosen_17 K_knotOf_17 K_order_17 K_entered_17 K_low_17 K_nextOut_17 K_path_17 K_open_17  _ hc_41) (cwV 1 hts (gl_V wk_238 wk_239 wk_240 wk_25 wk_241) rfl rfl rfl (by decide +kernel) ⟨Nat.le_of_ble_eq_true rfl, Nat.le_of_ble_eq_true rfl⟩) hK hP hD hS hA 1 1 rfl rfl rfl [1, 2, 7, 9, 10, 11, 12, 13, 14, 15, 16, 17, 18] [0, 3, 4, 5, 6, 8, 19, 20, 21, 22, 23] [0, 11, 12, 1, 2, 3, 4, 13, 5, 14, 15, 16, 17, 18, 19, 20, 21, 22, 23, 6, 7, 8, 9, 10] rfl rfl (by decide) rfl (by decide) (by decide) rfl rfl (by decide) rfl rfl hl.1 (Nat.le_of_ble_eq_true rfl) dX4_keepFairStates_41 ⟨Nat.zero_le _, Nat.zero_le _⟩ (fun H locs hP hD hS => ?_)
          show W p l e { frames := 4, cells := 0, slots := 0, locals := 91 } s m ([.ref (ad 0)] : List Value).toArray below meth c H locs 0 0 Q (F0 m 44 ls [])
          refine lv_aload_n hx hb dX4_keepFairStates_44 rfl (lv_at hl 0 rfl) ?_
          refine va_get (D := D) (ci := 4) (v := .ref (ad 4)) (C := RX4) (T := TX4) (N := 6) hx hb hts hiX4 hown hK hP 0 rfl rfl 4 (by decide) hk3 (fun _ h9 => h9) rfl dX4_keepFairStates_45 ?_
          refine lv_aload_n hx hb dX4_keepFairStates_48 rfl (lv_at hl 0 rfl) ?_
          refine va_get (D := D) (ci := 4) (v := .ref (ad 1)) (C := RX4) (T := TX4) (N := 6) hx hb hts hiX4 hown hK hP 0 rfl rfl 0 (by decide) hk0 (fun _ h9 => h9) rfl dX4_keepFairStates_49 ?_
          refine lv_aload_n hx hb dX4_keepFairStates_52 rfl (lv_at hl 0 rfl) ?_
          refine va_get (D := D) (ci := 4) (v := .ref (ad 3)) (C := RX4) (T := TX4) (N := 6) hx hb hts hiX4 hown hK hP 0 rfl rfl 3 (by decide) hk2 (fun _ h9 => h9) rfl dX4_keepFairStates_53 ?_
          obtain ⟨⟨S_size_56, S_lowest_56, S_ableInAll_56, S_inside_56, S_goesRound_56⟩, hc_56, h⟩ := ox_b_of h
          refine mc_callV (As := [.ref (ad 1), .ref (ad 3)]) (rest := []) (b := ad 4) (Wc := [(kG ad G_states G_moves G_ends), (kK ad K_found_41 K_closed_41 K_entries_41 K_depth_41 K_opened_41), (kS ad), (kI cI (ad 10) 200 G_able), (kI cI (ad 11) 600 G_from), (kI cI (ad 12) 600 G_to), (kI cI (ad 13) 600 G_labelOf), (kZ cZ (ad 19) 200 K_chosen_17), (kI cI (ad 20) 200 K_knotOf_41), (kI cI (ad 27) 200 S_size_17), (kI cI (ad 28) 200 S_lowest_17), (kI cI (ad 29) 200 S_ableInAll_17), (kI cI (ad 30) 200 S_inside_17), (kZ cZ (ad 31) 200 S_goesRound_17)]) (wr := [(kF ad), (kI cI (ad 6) 16 F_kinds), (kI cI (ad 14) 600 G_out), (kI cI (ad 15) 201 G_start), (kI cI (ad 21) 200 K_order_41), (kI cI (ad 22) 200 K_entered_41), (kI cI (ad 23) 200 K_low_41), (kI cI (ad 24) 200 K_nextOut_41), (kI cI (ad 25) 200 K_path_41), (kI cI (ad 26) 200 K_open_41)]) (W1 := [(kG ad G_states G_moves G_ends), (kK ad K_found_41 K_closed_41 K_entries_41 K_depth_41 K_opened_41), (kS ad), (kI cI (ad 10) 200 G_able), (kI cI (ad 11) 600 G_from), (kI cI (ad 12) 600 G_to), (kI cI (ad 13) 600 G_labelOf), (kZ cZ (ad 19) 200 K_chosen_17), (kI cI (ad 20) 200 K_knotOf_41), (kI cI (ad 27) 200 S_size_56), (kI cI (ad 28) 200 S_lowest_56), (kI cI (ad 29) 200 S_ableInAll_56), (kI cI (ad 30) 200 S_inside_56), (kZ cZ (ad 31) 200 S_goesRound_56)]) (wn := [(kF ad), (kG ad G_states G_moves G_ends), (kK ad K_found_41 K_closed_41 K_entries_41 K_depth_41 K_opened_41), (kS ad), (kI cI (ad 6) 16 F_kinds), (kI cI (ad 10) 200 G_able), (kI cI (ad 11) 600 G_from), (kI cI (ad 12) 600 G_to), (kI cI (ad 13) 600 G_labelOf), (kI cI (ad 14) 600 G_out), (kI cI (ad 15) 201 G_start), (kZ cZ (ad 19) 200 K_chosen_17), (kI cI (ad 20) 200 K_knotOf_41), (kI cI (ad 21) 200 K_order_41), (kI cI (ad 22) 200 K_entered_41), (kI cI (ad 23) 200 K_low_41), (kI cI (ad 24) 200 K_nextOut_41), (kI cI (ad 25) 200 K_path_41), (kI cI (ad 26) 200 K_open_41), (kI cI (ad 27) 200 S_size_56), (kI cI (ad 28) 200 S_lowest_56), (kI cI (ad 29) 200 S_ableInAll_56), (kI cI (ad 30) 200 S_inside_56), (kZ cZ (ad 31) 200 S_goesRound_56)]) (rv := none) ⟨hx, hb, hml, hown, hts⟩ (c_X3_take l D cI cZ ad G_states G_moves G_ends K_found_41 K_closed_41 K_entries_41 K_depth_41 K_opened_41 G_able G_from G_to G_labelOf K_chosen_17 K_knotOf_41 S_size_17 S_lowest_17 S_ableInAll_17 S_inside_17 S_goesRound_17  _ hc_56) (cwV 2 hts (gl_V wk_272 wk_273 wk_274 wk_29 wk_275) rfl rfl rfl (by decide +kernel) ⟨Nat.le_of_ble_eq_true rfl, Nat.le_of_ble_eq_true rfl⟩) hK hP hD hS hA 3 2 rfl rfl rfl [1, 2, 3, 5, 6, 7, 8, 11, 12, 19, 20, 21, 22, 23] [0, 4, 9, 10, 13, 14, 15, 16, 17, 18] [0, 10, 11, 12, 1, 13, 14, 15, 16, 2, 3, 17, 18, 4, 5, 6, 7, 8, 9, 19, 20, 21, 22, 23] rfl rfl (by decide) rfl (by decide) (by decide) rfl rfl (by decide) rfl rfl hl.1 (Nat.le_of_ble_eq_true rfl) dX4_keepFairStates_56 ⟨Nat.zero_le _, Nat.zero_le _⟩ (fun H locs hP hD hS => ?_)
          show W p l e { frames := 4, cells := 0, slots := 0, locals := 91 } s m ([.ref (ad 0)] : List Value).toArray below meth c H locs 0 0 Q (F0 m 59 ls [])
          refine lv_aload_n hx hb dX4_keepFairStates_59 rfl (lv_at hl 0 rfl) ?_
          refine lv_iload_n hx hb dX4_keepFairStates_60 rfl (lv_at hl 1 rfl) ?_
          refine lv_iload_n hx hb dX4_keepFairStates_61 rfl (lv_at hl 2 rfl) ?_
          obtain ⟨⟨r_62, K_chosen_62⟩, hc_62, h⟩ := ox_b_of h
          refine mc_callV (As := [.int r_2, .int r_8]) (rest := []) (b := ad 0) (Wc := [(kF ad), (kG ad G_states G_moves G_ends), (kK ad K_found_41 K_closed_41 K_entries_41 K_depth_41 K_opened_41), (kS ad), (kI cI (ad 10) 200 G_able), (kZ cZ (ad 19) 200 K_chosen_17), (kI cI (ad 20) 200 K_knotOf_41), (kI cI (ad 29) 200 S_ableInAll_56), (kI cI (ad 30) 200 S_inside_56), (kZ cZ (ad 31) 200 S_goesRound_56)]) (wr := [(kI cI (ad 6) 16 F_kinds), (kI cI (ad 11) 600 G_from), (kI cI (ad 12) 600 G_to), (kI cI (ad 13) 600 G_labelOf), (kI cI (ad 14) 600 G_out), (kI cI (ad 15) 201 G_start), (kI cI (ad 21) 200 K_order_41), (kI cI (ad 22) 200 K_entered_41), (kI cI (ad 23) 200 K_low_41), (kI cI (ad 24) 200 K_nextOut_41), (kI cI (ad 25) 200 K_path_41), (kI cI (ad 26) 200 K_open_41), (kI cI (ad 27) 200 S_size_56), (kI cI (ad 28) 200 S_lowest_56)]) (W1 := [(kF ad), (kG ad G_states G_moves G_ends), (kK ad K_found_41 K_closed_41 K_entries_41 K_depth_41 K_opened_41), (kS ad), (kI cI (ad 10) 200 G_able), (kZ cZ (ad 19) 200 K_chosen_62), (kI cI (ad 20) 200 K_knotOf_41), (kI cI (ad 29) 200 S_ableInAll_56), (kI cI (ad 30) 200 S_inside_56), (kZ cZ (ad 31) 200 S_goesRound_56)]) (wn := [(kF ad), (kG ad G_states G_moves G_ends), (kK ad K_found_41 K_closed_41 K_entries_41 K_depth_41 K_opened_41), (kS ad), (kI cI (ad 6) 16 F_kinds), (kI cI (ad 10) 200 G_able), (kI cI (ad 11) 600 G_from), (kI cI (ad 12) 600 G_to), (kI cI (ad 13) 600 G_labelOf), (kI cI (ad 14) 600 G_out), (kI cI (ad 15) 201 G_start), (kZ cZ (ad 19) 200 K_chosen_62), (kI cI (ad 20) 200 K_knotOf_41), (kI cI (ad 21) 200 K_order_41), (kI cI (ad 22) 200 K_entered_41), (kI cI (ad 23) 200 K_low_41), (kI cI (ad 24) 200 K_nextOut_41), (kI cI (ad 25) 200 K_path_41), (kI cI (ad 26) 200 K_open_41), (kI cI (ad 27) 200 S_size_56), (kI cI (ad 28) 200 S_lowest_56), (kI cI (ad 29) 200 S_ableInAll_56), (kI cI (ad 30) 200 S_inside_56), (kZ cZ (ad 31) 200 S_goesRound_56)]) (rv := some (.int r_62)) ⟨hx, hb, hml, hown, hts⟩ (c_X4_dropUnfairStates l D cI cZ ad G_states G_moves G_ends K_found_41 K_closed_41 K_entries_41 K_depth_41 K_opened_41 G_able K_chosen_17 K_knotOf_41 S_ableInAll_56 S_inside_56 S_goesRound_56 r_2 r_8 _ hc_62) (cwV 2 hts (gl_V wk_293 wk_294 wk_295 wk_2 wk_296) rfl rfl rfl (by decide +kernel) ⟨Nat.le_of_ble_eq_true rfl, Nat.le_of_ble_eq_true rfl⟩) hK hP hD hS hA 4 0 rfl rfl rfl [0, 1, 2, 3, 5, 11, 12, 21, 22, 23] [4, 6, 7, 8, 9, 10, 13, 14, 15, 16, 17, 18, 19, 20] [14, 15, 16, 17, 0, 18, 1, 2, 3, 4, 5, 19, 20, 6, 7, 8, 9, 10, 11, 12, 13, 21, 22, 23] rfl rfl (by decide) rfl (by decide) (by decide) rfl rfl (by decide) rfl rfl hl.1 (Nat.le_of_ble_eq_true rfl) dX4_keepFairStates_62 ⟨Nat.zero_le _, Nat.zero_le _⟩ (fun H locs hP hD hS => ?_)
          show W p l e { frames := 4, cells := 0, slots := 0, locals := 91 } s m ([.ref (ad 0)] : List Value).toArray below meth c H locs 0 0 Q (F0 m 65 ls [.int r_62])
          refine lv_istore_n (lv' := [(3, .int r_62), (0, .ref (ad 0)), (1, .int r_2), (2, .int r_8), (4, .int v4_17)]) hx hb dX4_keepFairStates_65 rfl hl (by decide) rfl (fun ls hl => ?_)
          refine lv_iinc (v := v4_17 + 1) (lv' := [(4, .int (v4_17 + 1)), (3, .int r_62), (0, .ref (ad 0)), (1, .int r_2), (2, .int r_8)]) hx hb dX4_keepFairStates_66 hl (k := 4) rfl rfl (by decide) rfl (fun ls hl => ?_)
          refine lv_goto (tgt := 17) hx hb dX4_keepFairStates_69 (by decide) ?_
          obtain rfl := Option.some.inj h
          exact ih_17 r_62 (v4_17 + 1) K_found_41 K_closed_41 K_entries_41 K_depth_41 K_opened_41 K_chosen_62 K_knotOf_41 K_order_41 K_entered_41 K_low_41 K_nextOut_41 K_path_41 K_open_41 S_size_56 S_lowest_56 S_ableInAll_56 S_inside_56 S_goesRound_56 H locs ls hlp_17 hP hD hS (lv_sub hl [2, 3, 4, 1, 0] rfl)
  exact hL_17 1000000 1 0 K_found K_closed K_entries K_depth K_opened K_chosen K_knotOf K_order K_entered K_low K_nextOut K_path K_open S_size S_lowest S_ableInAll S_inside S_goesRound H locs ls hex_17 hP hD hS (lv_sub hl [4, 3, 2, 1, 0] rfl)
set_option maxHeartbeats 4000000 in
set_option maxRecDepth 100000 in
theorem c_X4_alwaysServed (l : Launch) (D : va_G) (cI cZ : ClassId) (ad : Nat → Nat) (G_states : Int32) (G_moves : Int32) (G_ends : Int32) (R_found : Int32) (K_found : Int32) (K_closed : Int32) (K_entries : Int32) (K_depth : Int32) (K_opened : Int32) (F_kinds : Nat → Int32) (G_asks : Nat → Int32) (G_isEnd : Nat → Int32) (G_able : Nat → Int32) (G_from : Nat → Int32) (G_to : Nat → Int32) (G_labelOf : Nat → Int32) (G_out : Nat → Int32) (G_start : Nat → Int32) (R_line : Nat → Int32) (R_far : Nat → Int32) (R_lastMove : Nat → Int32) (K_chosen : Nat → Int32) (K_knotOf : Nat → Int32) (K_order : Nat → Int32) (K_entered : Nat → Int32) (K_low : Nat → Int32) (K_nextOut : Nat → Int32) (K_path : Nat → Int32) (K_open : Nat → Int32) (S_size : Nat → Int32) (S_lowest : Nat → Int32) (S_ableInAll : Nat → Int32) (S_inside : Nat → Int32) (S_goesRound : Nat → Int32) (a1 : Int32) (res : Int32 × Int32 × Int32 × Int32 × Int32 × Int32 × Int32 × (Nat → Int32) × (Nat → Int32) × (Nat → Int32) × (Nat → Int32) × (Nat → Int32) × (Nat → Int32) × (Nat → Int32) × (Nat → Int32) × (Nat → Int32) × (Nat → Int32) × (Nat → Int32) × (Nat → Int32) × (Nat → Int32) × (Nat → Int32) × (Nat → Int32) × (Nat → Int32)) (h : fn_X4_alwaysServed G_states G_moves R_found K_found K_closed K_entries K_depth K_opened F_kinds G_asks G_isEnd G_able G_from G_to G_labelOf G_out G_start R_line R_far R_lastMove K_chosen K_knotOf K_order K_entered K_low K_nextOut K_path K_open S_size S_lowest S_ableInAll S_inside S_goesRound a1 = some res) : mc_C l yX4_alwaysServed wv_X4_alwaysServed { frames := 5, cells := 0, slots := 0, locals := 115 } D [(cI, .int), (cZ, .boolean)] [.ref (ad 0), .int a1] [(kF ad), (kG ad G_states G_moves G_ends), (kR ad R_found), (kK ad K_found K_closed K_entries K_depth K_opened), (kS ad), (kI cI (ad 6) 16 F_kinds), (kI cI (ad 8) 200 G_asks), (kZ cZ (ad 9) 200 G_isEnd), (kI cI (ad 10) 200 G_able), (kI cI (ad 11) 600 G_from), (kI cI (ad 12) 600 G_to), (kI cI (ad 13) 600 G_labelOf), (kI cI (ad 14) 600 G_out), (kI cI (ad 15) 201 G_start), (kI cI (ad 16) 200 R_line), (kI cI (ad 17) 200 R_far), (kI cI (ad 18) 200 R_lastMove), (kZ cZ (ad 19) 200 K_chosen), (kI cI (ad 20) 200 K_knotOf), (kI cI (ad 21) 200 K_order), (kI cI (ad 22) 200 K_entered), (kI cI (ad 23) 200 K_low), (kI cI (ad 24) 200 K_nextOut), (kI cI (ad 25) 200 K_path), (kI cI (ad 26) 200 K_open), (kI cI (ad 27) 200 S_size), (kI cI (ad 28) 200 S_lowest), (kI cI (ad 29) 200 S_ableInAll), (kI cI (ad 30) 200 S_inside), (kZ cZ (ad 31) 200 S_goesRound)] (some (.int res.1)) [(kF ad), (kG ad G_states G_moves G_ends), (kR ad res.2.1), (kK ad res.2.2.1 res.2.2.2.1 res.2.2.2.2.1 res.2.2.2.2.2.1 res.2.2.2.2.2.2.1), (kS ad), (kI cI (ad 6) 16 F_kinds), (kI cI (ad 8) 200 G_asks), (kZ cZ (ad 9) 200 G_isEnd), (kI cI (ad 10) 200 G_able), (kI cI (ad 11) 600 G_from), (kI cI (ad 12) 600 G_to), (kI cI (ad 13) 600 G_labelOf), (kI cI (ad 14) 600 G_out), (kI cI (ad 15) 201 G_start), (kI cI (ad 16) 200 res.2.2.2.2.2.2.2.1), (kI cI (ad 17) 200 res.2.2.2.2.2.2.2.2.1), (kI cI (ad 18) 200 res.2.2.2.2.2.2.2.2.2.1), (kZ cZ (ad 19) 200 res.2.2.2.2.2.2.2.2.2.2.1), (kI cI (ad 20) 200 res.2.2.2.2.2.2.2.2.2.2.2.1), (kI cI (ad 21) 200 res.2.2.2.2.2.2.2.2.2.2.2.2.1), (kI cI (ad 22) 200 res.2.2.2.2.2.2.2.2.2.2.2.2.2.1), (kI cI (ad 23) 200 res.2.2.2.2.2.2.2.2.2.2.2.2.2.2.1), (kI cI (ad 24) 200 res.2.2.2.2.2.2.2.2.2.2.2.2.2.2.2.1), (kI cI (ad 25) 200 res.2.2.2.2.2.2.2.2.2.2.2.2.2.2.2.2.1), (kI cI (ad 26) 200 res.2.2.2.2.2.2.2.2.2.2.2.2.2.2.2.2.2.1), (kI cI (ad 27) 200 res.2.2.2.2.2.2.2.2.2.2.2.2.2.2.2.2.2.2.1), (kI cI (ad 28) 200 res.2.2.2.2.2.2.2.2.2.2.2.2.2.2.2.2.2.2.2.1), (kI cI (ad 29) 200 res.2.2.2.2.2.2.2.2.2.2.2.2.2.2.2.2.2.2.2.2.1), (kI cI (ad 30) 200 res.2.2.2.2.2.2.2.2.2.2.2.2.2.2.2.2.2.2.2.2.2.1), (kZ cZ (ad 31) 200 res.2.2.2.2.2.2.2.2.2.2.2.2.2.2.2.2.2.2.2.2.2.2)] := by
  refine mc_ofz (own := RX4) (by decide) rfl rfl (Nat.le_of_ble_eq_true rfl) ?_
  intro p e s m below meth c A Q ls hx hb hml hown hts hK hP hD hA hl hend
  have hS : va_S A s.heap s.heap [] := va_S.rf
  have hl : lv_has ls 2 [(0, .ref (ad 0)), (1, .int a1)] := hl
  obtain ⟨H, hH⟩ : ∃ H, H = s.heap := ⟨_, rfl⟩
  obtain ⟨locs, hlo⟩ : ∃ locs : List Loc, locs = [] := ⟨_, rfl⟩
  have hS : va_S A s.heap H locs := by rw [hH, hlo]; exact hS
  have hP : va_P D vwCl [(kF ad), (kG ad G_states G_moves G_ends), (kR ad R_found), (kK ad K_found K_closed K_entries K_depth K_opened), (kS ad), (kI cI (ad 6) 16 F_kinds), (kI cI (ad 8) 200 G_asks), (kZ cZ (ad 9) 200 G_isEnd), (kI cI (ad 10) 200 G_able), (kI cI (ad 11) 600 G_from), (kI cI (ad 12) 600 G_to), (kI cI (ad 13) 600 G_labelOf), (kI cI (ad 14) 600 G_out), (kI cI (ad 15) 201 G_start), (kI cI (ad 16) 200 R_line), (kI cI (ad 17) 200 R_far), (kI cI (ad 18) 200 R_lastMove), (kZ cZ (ad 19) 200 K_chosen), (kI cI (ad 20) 200 K_knotOf), (kI cI (ad 21) 200 K_order), (kI cI (ad 22) 200 K_entered), (kI cI (ad 23) 200 K_low), (kI cI (ad 24) 200 K_nextOut), (kI cI (ad 25) 200 K_path), (kI cI (ad 26) 200 K_open), (kI cI (ad 27) 200 S_size), (kI cI (ad 28) 200 S_lowest), (kI cI (ad 29) 200 S_ableInAll), (kI cI (ad 30) 200 S_inside), (kZ cZ (ad 31) 200 S_goesRound)] H := by rw [hH]; exact hP
  suffices h9 : W p l e { frames := 5, cells := 0, slots := 0, locals := 115 } s m ([.ref (ad 0), .int a1] : List Value).toArray below meth c H locs 0 0 Q (F0 m 0 ls []) by rw [hH, hlo] at h9; exact h9
  clear hH hlo
  have hiX1 : ∀ w ∈ wsX10, w ∈ wv_X4_alwaysServed := fun w h => List.mem_cons_of_mem _ (inlX1 w h)
  have hiX4 : ∀ w ∈ wsX40, w ∈ wv_X4_alwaysServed := fun w h => List.mem_cons_of_mem _ (inlX4 w h)
  have hk0 := hts (.fieldLink RX4 30 "FairLoops" "knots" "LFairLoops$Knots;") (List.mem_cons_of_mem _ wk_26)
  have hk1 := hts (.fieldLink RX4 106 "FairLoops$Knots" "found" "I") (List.mem_cons_of_mem _ wk_214)
  refine lv_aload_n hx hb dX4_alwaysServed_0 rfl (lv_at hl 0 rfl) ?_
  refine lv_iload_n hx hb dX4_alwaysServed_1 rfl (lv_at hl 1 rfl) ?_
  obtain ⟨⟨R_found_2, R_line_2, R_far_2, R_lastMove_2, K_chosen_2⟩, hc_2, h⟩ := ox_b_of h
  refine mc_callV (As := [.int a1]) (rest := []) (b := ad 0) (Wc := [(kF ad), (kG ad G_states G_moves G_ends), (kR ad R_found), (kK ad K_found K_closed K_entries K_depth K_opened), (kI cI (ad 8) 200 G_asks), (kI cI (ad 12) 600 G_to), (kI cI (ad 14) 600 G_out), (kI cI (ad 15) 201 G_start), (kI cI (ad 16) 200 R_line), (kI cI (ad 17) 200 R_far), (kI cI (ad 18) 200 R_lastMove), (kZ cZ (ad 19) 200 K_chosen)]) (wr := [(kS ad), (kI cI (ad 6) 16 F_kinds), (kZ cZ (ad 9) 200 G_isEnd), (kI cI (ad 10) 200 G_able), (kI cI (ad 11) 600 G_from), (kI cI (ad 13) 600 G_labelOf), (kI cI (ad 20) 200 K_knotOf), (kI cI (ad 21) 200 K_order), (kI cI (ad 22) 200 K_entered), (kI cI (ad 23) 200 K_low), (kI cI (ad 24) 200 K_nextOut), (kI cI (ad 25) 200 K_path), (kI cI (ad 26) 200 K_open), (kI cI (ad 27) 200 S_size), (kI cI (ad 28) 200 S_lowest), (kI cI (ad 29) 200 S_ableInAll), (kI cI (ad 30) 200 S_inside), (kZ cZ (ad 31) 200 S_goesRound)]) (W1 := [(kF ad), (kG ad G_states G_moves G_ends), (kR ad R_found_2), (kK ad K_found K_closed K_entries K_depth K_opened), (kI cI (ad 8) 200 G_asks), (kI cI (ad 12) 600 G_to), (kI cI (ad 14) 600 G_out), (kI cI (ad 15) 201 G_start), (kI cI (ad 16) 200 R_line_2), (kI cI (ad 17) 200 R_far_2), (kI cI (ad 18) 200 R_lastMove_2), (kZ cZ (ad 19) 200 K_chosen_2)]) (wn := [(kF ad), (kG ad G_states G_moves G_ends), (kR ad R_found_2), (kK ad K_found K_closed K_entries K_depth K_opened), (kS ad), (kI cI (ad 6) 16 F_kinds), (kI cI (ad 8) 200 G_asks), (kZ cZ (ad 9) 200 G_isEnd), (kI cI (ad 10) 200 G_able), (kI cI (ad 11) 600 G_from), (kI cI (ad 12) 600 G_to), (kI cI (ad 13) 600 G_labelOf), (kI cI (ad 14) 600 G_out), (kI cI (ad 15) 201 G_start), (kI cI (ad 16) 200 R_line_2), (kI cI (ad 17) 200 R_far_2), (kI cI (ad 18) 200 R_lastMove_2), (kZ cZ (ad 19) 200 K_chosen_2), (kI cI (ad 20) 200 K_knotOf), (kI cI (ad 21) 200 K_order), (kI cI (ad 22) 200 K_entered), (kI cI (ad 23) 200 K_low), (kI cI (ad 24) 200 K_nextOut), (kI cI (ad 25) 200 K_path), (kI cI (ad 26) 200 K_open), (kI cI (ad 27) 200 S_size), (kI cI (ad 28) 200 S_lowest), (kI cI (ad 29) 200 S_ableInAll), (kI cI (ad 30) 200 S_inside), (kZ cZ (ad 31) 200 S_goesRound)]) (rv := none) ⟨hx, hb, hml, hown, hts⟩ (c_X4_chooseStatesOf l D cI cZ ad G_states G_moves G_ends R_found K_found K_closed K_entries K_depth K_opened G_asks G_to G_out G_start R_line R_far R_lastMove K_chosen a1 _ hc_2) (cwV 1 hts (gl_V wk_215 wk_216 wk_217 wk_2 wk_218) rfl rfl rfl (by decide +kernel) ⟨Nat.le_of_ble_eq_true rfl, Nat.le_of_ble_eq_true rfl⟩) hK hP hD hS hA 4 0 rfl rfl rfl [0, 1, 2, 3, 6, 10, 12, 13, 14, 15, 16, 17] [4, 5, 7, 8, 9, 11, 18, 19, 20, 21, 22, 23, 24, 25, 26, 27, 28, 29] [18, 19, 20, 21, 0, 1, 22, 2, 3, 4, 23, 5, 24, 25, 26, 27, 28, 29, 6, 7, 8, 9, 10, 11, 12, 13, 14, 15, 16, 17] rfl rfl (by decide) rfl (by decide) (by decide) rfl rfl (by decide) rfl rfl hl.1 (Nat.le_of_ble_eq_true rfl) dX4_alwaysServed_2 ⟨Nat.zero_le _, Nat.zero_le _⟩ (fun H locs hP hD hS => ?_)
  show W p l e { frames := 5, cells := 0, slots := 0, locals := 115 } s m ([.ref (ad 0), .int a1] : List Value).toArray below meth c H locs 0 0 Q (F0 m 5 ls [])
  refine lv_aload_n hx hb dX4_alwaysServed_5 rfl (lv_at hl 0 rfl) ?_
  refine lv_iconst (v := 0) hx hb dX4_alwaysServed_6 (by decide) ?_
  obtain ⟨r_7, hc_7, h⟩ := ox_b_of h
  refine mc_callV (As := [.int 0]) (rest := []) (b := ad 0) (Wc := [(kF ad), (kG ad G_states G_moves G_ends), (kK ad K_found K_closed K_entries K_depth K_opened), (kZ cZ (ad 9) 200 G_isEnd), (kI cI (ad 15) 201 G_start), (kZ cZ (ad 19) 200 K_chosen_2)]) (wr := [(kR ad R_found_2), (kS ad), (kI cI (ad 6) 16 F_kinds), (kI cI (ad 8) 200 G_asks), (kI cI (ad 10) 200 G_able), (kI cI (ad 11) 600 G_from), (kI cI (ad 12) 600 G_to), (kI cI (ad 13) 600 G_labelOf), (kI cI (ad 14) 600 G_out), (kI cI (ad 16) 200 R_line_2), (kI cI (ad 17) 200 R_far_2), (kI cI (ad 18) 200 R_lastMove_2), (kI cI (ad 20) 200 K_knotOf), (kI cI (ad 21) 200 K_order), (kI cI (ad 22) 200 K_entered), (kI cI (ad 23) 200 K_low), (kI cI (ad 24) 200 K_nextOut), (kI cI (ad 25) 200 K_path), (kI cI (ad 26) 200 K_open), (kI cI (ad 27) 200 S_size), (kI cI (ad 28) 200 S_lowest), (kI cI (ad 29) 200 S_ableInAll), (kI cI (ad 30) 200 S_inside), (kZ cZ (ad 31) 200 S_goesRound)]) (W1 := [(kF ad), (kG ad G_states G_moves G_ends), (kK ad K_found K_closed K_entries K_depth K_opened), (kZ cZ (ad 9) 200 G_isEnd), (kI cI (ad 15) 201 G_start), (kZ cZ (ad 19) 200 K_chosen_2)]) (wn := [(kF ad), (kG ad G_states G_moves G_ends), (kR ad R_found_2), (kK ad K_found K_closed K_entries K_depth K_opened), (kS ad), (kI cI (ad 6) 16 F_kinds), (kI cI (ad 8) 200 G_asks), (kZ cZ (ad 9) 200 G_isEnd), (kI cI (ad 10) 200 G_able), (kI cI (ad 11) 600 G_from), (kI cI (ad 12) 600 G_to), (kI cI (ad 13) 600 G_labelOf), (kI cI (ad 14) 600 G_out), (kI cI (ad 15) 201 G_start), (kI cI (ad 16) 200 R_line_2), (kI cI (ad 17) 200 R_far_2), (kI cI (ad 18) 200 R_lastMove_2), (kZ cZ (ad 19) 200 K_chosen_2), (kI cI (ad 20) 200 K_knotOf), (kI cI (ad 21) 200 K_order), (kI cI (ad 22) 200 K_entered), (kI cI (ad 23) 200 K_low), (kI cI (ad 24) 200 K_nextOut), (kI cI (ad 25) 200 K_path), (kI cI (ad 26) 200 K_open), (kI cI (ad 27) 200 S_size), (kI cI (ad 28) 200 S_lowest), (kI cI (ad 29) 200 S_ableInAll), (kI cI (ad 30) 200 S_inside), (kZ cZ (ad 31) 200 S_goesRound)]) (rv := some (.int r_7)) ⟨hx, hb, hml, hown, hts⟩ (c_X4_deadEnd l D cI cZ ad G_states G_moves G_ends K_found K_closed K_entries K_depth K_opened G_isEnd G_start K_chosen_2 0 _ hc_7) (cwV 1 hts (gl_V wk_222 wk_223 wk_224 wk_2 wk_225) rfl rfl rfl (by decide +kernel) ⟨Nat.le_of_ble_eq_true rfl, Nat.le_of_ble_eq_true rfl⟩) hK hP hD hS hA 4 0 rfl rfl rfl [0, 1, 3, 7, 13, 17] [2, 4, 5, 6, 8, 9, 10, 11, 12, 14, 15, 16, 18, 19, 20, 21, 22, 23, 24, 25, 26, 27, 28, 29] [24, 25, 0, 26, 1, 2, 3, 27, 4, 5, 6, 7, 8, 28, 9, 10, 11, 29, 12, 13, 14, 15, 16, 17, 18, 19, 20, 21, 22, 23] rfl rfl (by decide) rfl (by decide) (by decide) rfl rfl (by decide) rfl rfl hl.1 (Nat.le_of_ble_eq_true rfl) dX4_alwaysServed_7 ⟨Nat.zero_le _, Nat.zero_le _⟩ (fun H locs hP hD hS => ?_)
  show W p l e { frames := 5, cells := 0, slots := 0, locals := 115 } s m ([.ref (ad 0), .int a1] : List Value).toArray below meth c H locs 0 0 Q (F0 m 10 ls [.int r_7])
  refine lv_iconst (v := (-1)) hx hb dX4_alwaysServed_10 (by decide) ?_
  refine lv_icmp_eq (tgt := 16) hx hb dX4_alwaysServed_11 (by decide) (fun c_11 => ?_) (fun c_11 => ?_)
  · have h := ox_t c_11 h
    refine lv_aload_n hx hb dX4_alwaysServed_16 rfl (lv_at hl 0 rfl) ?_
    obtain ⟨⟨K_found_17, K_closed_17, K_entries_17, K_depth_17, K_opened_17, K_chosen_17, K_knotOf_17, K_order_17, K_entered_17, K_low_17, K_nextOut_17, K_path_17, K_open_17, S_size_17, S_lowest_17, S_ableInAll_17, S_inside_17, S_goesRound_17⟩, hc_17, h⟩ := ox_b_of h
    refine mc_callV (As := []) (rest := []) (b := ad 0) (Wc := [(kF ad), (kG ad G_states G_moves G_ends), (kK ad K_found K_closed K_entries K_depth K_opened), (kS ad), (kI cI (ad 6) 16 F_kinds), (kI cI (ad 10) 200 G_able), (kI cI (ad 11) 600 G_from), (kI cI (ad 12) 600 G_to), (kI cI (ad 13) 600 G_labelOf), (kI cI (ad 14) 600 G_out), (kI cI (ad 15) 201 G_start), (kZ cZ (ad 19) 200 K_chosen_2), (kI cI (ad 20) 200 K_knotOf), (kI cI (ad 21) 200 K_order), (kI cI (ad 22) 200 K_entered), (kI cI (ad 23) 200 K_low), (kI cI (ad 24) 200 K_nextOut), (kI cI (ad 25) 200 K_path), (kI cI (ad 26) 200 K_open), (kI cI (ad 27) 200 S_size), (kI cI (ad 28) 200 S_lowest), (kI cI (ad 29) 200 S_ableInAll), (kI cI (ad 30) 200 S_inside), (kZ cZ (ad 31) 200 S_goesRound)]) (wr := [(kR ad R_found_2), (kI cI (ad 8) 200 G_asks), (kZ cZ (ad 9) 200 G_isEnd), (kI cI (ad 16) 200 R_line_2), (kI cI (ad 17) 200 R_far_2), (kI cI (ad 18) 200 R_lastMove_2)]) (W1 := [(kF ad), (kG ad G_states G_moves G_ends), (kK ad K_found_17 K_closed_17 K_entries_17 K_depth_17 K_opened_17), (kS ad), (kI cI (ad 6) 16 F_kinds), (kI cI (ad 10) 200 G_able), (kI cI (ad 11) 600 G_from), (kI cI (ad 12) 600 G_to), (kI cI (ad 13) 600 G_labelOf), (kI cI (ad 14) 600 G_out), (kI cI (ad 15) 201 G_start), (kZ cZ (ad 19) 200 K_chosen_17), (kI cI (ad 20) 200 K_knotOf_17), (kI cI (ad 21) 200 K_order_17), (kI cI (ad 22) 200 K_entered_17), (kI cI (ad 23) 200 K_low_17), (kI cI (ad 24) 200 K_nextOut_17), (kI cI (ad 25) 200 K_path_17), (kI cI (ad 26) 200 K_open_17), (kI cI (ad 27) 200 S_size_17), (kI cI (ad 28) 200 S_lowest_17), (kI cI (ad 29) 200 S_ableInAll_17), (kI cI (ad 30) 200 S_inside_17), (kZ cZ (ad 31) 200 S_goesRound_17)]) (wn := [(kF ad), (kG ad G_states G_moves G_ends), (kR ad R_found_2), (kK ad K_found_17 K_closed_17 K_entries_17 K_depth_17 K_opened_17), (kS ad), (kI cI (ad 6) 16 F_kinds), (kI cI (ad 8) 200 G_asks), (kZ cZ (ad 9) 200 G_isEnd), (kI cI (ad 10) 200 G_able), (kI cI (ad 11) 600 G_from), (kI cI (ad 12) 600 G_to), (kI cI (ad 13) 600 G_labelOf), (kI cI (ad 14) 600 G_out), (kI cI (ad 15) 201 G_start), (kI cI (ad 16) 200 R_line_2), (kI cI (ad 17) 200 R_far_2), (kI cI (ad 18) 200 R_lastMove_2), (kZ cZ (ad 19) 200 K_chosen_17), (kI cI (ad 20) 200 K_knotOf_17), (kI cI (ad 21) 200 K_order_17), (kI cI (ad 22) 200 K_entered_17), (kI cI (ad 23) 200 K_low_17), (kI cI (ad 24) 200 K_nextOut_17), (kI cI (ad 25) 200 K_path_17), (kI cI (ad 26) 200 K_open_17), (kI cI (ad 27) 200 S_size_17), (kI cI (ad 28) 200 S_lowest_17), (kI cI (ad 29) 200 S_ableInAll_17), (kI cI (ad 30) 200 S_inside_17), (kZ cZ (ad 31) 200 S_goesRound_17)]) (rv := none) ⟨hx, hb, hml, hown, hts⟩ (c_X4_keepFairStates l D cI cZ ad G_states G_moves G_ends K_found K_closed K_entries K_depth K_opened F_kinds G_able G_from G_to G_labelOf G_out G_start K_chosen_2 K_knotOf K_order K_entered K_low K_nextOut K_path K_open S_size S_lowest S_ableInAll S_inside S_goesRound  _ hc_17) (cwV 0 hts (gl_V wk_230 wk_231 wk_232 wk_2 wk_233) rfl rfl rfl (by decide +kernel) ⟨Nat.le_of_ble_eq_true rfl, Nat.le_of_ble_eq_true rfl⟩) hK hP hD hS hA 4 0 rfl rfl rfl [0, 1, 3, 4, 5, 8, 9, 10, 11, 12, 13, 17, 18, 19, 20, 21, 22, 23, 24, 25, 26, 27, 28, 29] [2, 6, 7, 14, 15, 16] [6, 7, 0, 8, 9, 10, 1, 2, 11, 12, 13, 14, 15, 16, 3, 4, 5, 17, 18, 19, 20, 21, 22, 23, 24, 25, 26, 27, 28, 29] rfl rfl (by decide) rfl (by decide) (by decide) rfl rfl (by decide) rfl rfl hl.1 (Nat.le_of_ble_eq_true rfl) dX4_alwaysServed_17 ⟨Nat.zero_le _, Nat.zero_le _⟩ (fun H locs hP hD hS => ?_)
    show W p l e { frames := 5, cells := 0, slots := 0, locals := 115 } s m ([.ref (ad 0), .int a1] : List Value).toArray below meth c H locs 0 0 Q (F0 m 20 ls [])
    refine lv_aload_n hx hb dX4_alwaysServed_20 rfl (lv_at hl 0 rfl) ?_
    refine va_get (D := D) (ci := 4) (v := .ref (ad 3)) (C := RX4) (T := TX4) (N := 6) hx hb hts hiX4 hown hK hP 0 rfl rfl 3 (by decide) hk0 (fun _ h9 => h9) rfl dX4_alwaysServed_21 ?_
    refine va_get (D := D) (ci := 1) (v := .int K_found_17) (C := RX1) (T := TX1) (N := 13) hx hb hts hiX1 hown hK hP 3 rfl rfl 1 (by decide) hk1 (fun _ h9 => h9) rfl dX4_alwaysServed_24 ?_
    refine lv_if_ne (tgt := 34) hx hb dX4_alwaysServed_27 (by decide) (fun c_27 => ?_) (fun c_27 => ?_)
    · have h := ox_f c_27 h
      refine lv_iconst (v := 0) hx hb dX4_alwaysServed_34 (by decide) ?_
      have h := Option.some.inj h
      subst h
      exact hend H locs _ ls hP hD hS dX4_alwaysServed_35 nb_0
    · have h := ox_t c_27 h
      refine lv_iconst (v := 1) hx hb dX4_alwaysServed_30 (by decide) ?_
      refine lv_goto (tgt := 35) hx hb dX4_alwaysServed_31 (by decide) ?_
      have h := Option.some.inj h
      subst h
      exact hend H locs _ ls hP hD hS dX4_alwaysServed_35 nb_1
  · have h := ox_f c_11 h
    refine lv_iconst (v := 0) hx hb dX4_alwaysServed_14 (by decide) ?_
    have h := Option.some.inj h
    subst h
    exact hend H locs _ ls hP hD hS dX4_alwaysServed_15 nb_0
set_option maxHeartbeats 4000000 in
set_option maxRecDepth 100000 in
theorem c_X4_findParts (l : Launch) (D : va_G) (cI cZ : ClassId) (ad : Nat → Nat) (G_states : Int32) (G_moves : Int32) (G_ends : Int32) (R_found : Int32) (K_found : Int32) (K_closed : Int32) (K_entries : Int32) (K_depth : Int32) (K_opened : Int32) (G_asks : Nat → Int32) (G_able : Nat → Int32) (G_from : Nat → Int32) (G_to : Nat → Int32) (G_labelOf : Nat → Int32) (G_out : Nat → Int32) (G_start : Nat → Int32) (R_line : Nat → Int32) (R_far : Nat → Int32) (R_lastMove : Nat → Int32) (K_chosen : Nat → Int32) (K_knotOf : Nat → Int32) (K_order : Nat → Int32) (K_entered : Nat → Int32) (K_low : Nat → Int32) (K_nextOut : Nat → Int32) (K_path : Nat → Int32) (K_open : Nat → Int32) (S_size : Nat → Int32) (S_lowest : Nat → Int32) (S_ableInAll : Nat → Int32) (S_inside : Nat → Int32) (S_goesRound : Nat → Int32) (a1 : Int32) (res : Int32 × Int32 × Int32 × Int32 × Int32 × Int32 × (Nat → Int32) × (Nat → Int32) × (Nat → Int32) × (Nat → Int32) × (Nat → Int32) × (Nat → Int32) × (Nat → Int32) × (Nat → Int32) × (Nat → Int32) × (Nat → Int32) × (Nat → Int32) × (Nat → Int32) × (Nat → Int32) × (Nat → Int32) × (Nat → Int32) × (Nat → Int32)) (h : fn_X4_findParts G_states G_moves R_found K_found K_closed K_entries K_depth K_opened G_asks G_able G_from G_to G_labelOf G_out G_start R_line R_far R_lastMove K_chosen K_knotOf K_order K_entered K_low K_nextOut K_path K_open S_size S_lowest S_ableInAll S_inside S_goesRound a1 = some res) : mc_C l yX4_findParts wv_X4_findParts { frames := 4, cells := 0, slots := 0, locals := 91 } D [(cI, .int), (cZ, .boolean)] [.ref (ad 0), .int a1] [(kF ad), (kG ad G_states G_moves G_ends), (kR ad R_found), (kK ad K_found K_closed K_entries K_depth K_opened), (kS ad), (kI cI (ad 8) 200 G_asks), (kI cI (ad 10) 200 G_able), (kI cI (ad 11) 600 G_from), (kI cI (ad 12) 600 G_to), (kI cI (ad 13) 600 G_labelOf), (kI cI (ad 14) 600 G_out), (kI cI (ad 15) 201 G_start), (kI cI (ad 16) 200 R_line), (kI cI (ad 17) 200 R_far), (kI cI (ad 18) 200 R_lastMove), (kZ cZ (ad 19) 200 K_chosen), (kI cI (ad 20) 200 K_knotOf), (kI cI (ad 21) 200 K_order), (kI cI (ad 22) 200 K_entered), (kI cI (ad 23) 200 K_low), (kI cI (ad 24) 200 K_nextOut), (kI cI (ad 25) 200 K_path), (kI cI (ad 26) 200 K_open), (kI cI (ad 27) 200 S_size), (kI cI (ad 28) 200 S_lowest), (kI cI (ad 29) 200 S_ableInAll), (kI cI (ad 30) 200 S_inside), (kZ cZ (ad 31) 200 S_goesRound)] (none) [(kF ad), (kG ad G_states G_moves G_ends), (kR ad res.1), (kK ad res.2.1 res.2.2.1 res.2.2.2.1 res.2.2.2.2.1 res.2.2.2.2.2.1), (kS ad), (kI cI (ad 8) 200 G_asks), (kI cI (ad 10) 200 G_able), (kI cI (ad 11) 600 G_from), (kI cI (ad 12) 600 G_to), (kI cI (ad 13) 600 G_labelOf), (kI cI (ad 14) 600 G_out), (kI cI (ad 15) 201 G_start), (kI cI (ad 16) 200 res.2.2.2.2.2.2.1), (kI cI (ad 17) 200 res.2.2.2.2.2.2.2.1), (kI cI (ad 18) 200 res.2.2.2.2.2.2.2.2.1), (kZ cZ (ad 19) 200 res.2.2.2.2.2.2.2.2.2.1), (kI cI (ad 20) 200 res.2.2.2.2.2.2.2.2.2.2.1), (kI cI (ad 21) 200 res.2.2.2.2.2.2.2.2.2.2.2.1), (kI cI (ad 22) 200 res.2.2.2.2.2.2.2.2.2.2.2.2.1), (kI cI (ad 23) 200 res.2.2.2.2.2.2.2.2.2.2.2.2.2.1), (kI cI (ad 24) 200 res.2.2.2.2.2.2.2.2.2.2.2.2.2.2.1), (kI cI (ad 25) 200 res.2.2.2.2.2.2.2.2.2.2.2.2.2.2.2.1), (kI cI (ad 26) 200 res.2.2.2.2.2.2.2.2.2.2.2.2.2.2.2.2.1), (kI cI (ad 27) 200 res.2.2.2.2.2.2.2.2.2.2.2.2.2.2.2.2.2.1), (kI cI (ad 28) 200 res.2.2.2.2.2.2.2.2.2.2.2.2.2.2.2.2.2.2.1), (kI cI (ad 29) 200 res.2.2.2.2.2.2.2.2.2.2.2.2.2.2.2.2.2.2.2.1), (kI cI (ad 30) 200 res.2.2.2.2.2.2.2.2.2.2.2.2.2.2.2.2.2.2.2.2.1), (kZ cZ (ad 31) 200 res.2.2.2.2.2.2.2.2.2.2.2.2.2.2.2.2.2.2.2.2.2)] := by
  refine mc_ofv (own := RX4) (by decide) rfl rfl (Nat.le_of_ble_eq_true rfl) ?_
  intro p e s m below meth c A Q ls hx hb hml hown hts hK hP hD hA hl hend
  have hS : va_S A s.heap s.heap [] := va_S.rf
  have hl : lv_has ls 2 [(0, .ref (ad 0)), (1, .int a1)] := hl
  obtain ⟨H, hH⟩ : ∃ H, H = s.heap := ⟨_, rfl⟩
  obtain ⟨locs, hlo⟩ : ∃ locs : List Loc, locs = [] := ⟨_, rfl⟩
  have hS : va_S A s.heap H locs := by rw [hH, hlo]; exact hS
  have hP : va_P D vwCl [(kF ad), (kG ad G_states G_moves G_ends), (kR ad R_found), (kK ad K_found K_closed K_entries K_depth K_opened), (kS ad), (kI cI (ad 8) 200 G_asks), (kI cI (ad 10) 200 G_able), (kI cI (ad 11) 600 G_from), (kI cI (ad 12) 600 G_to), (kI cI (ad 13) 600 G_labelOf), (kI cI (ad 14) 600 G_out), (kI cI (ad 15) 201 G_start), (kI cI (ad 16) 200 R_line), (kI cI (ad 17) 200 R_far), (kI cI (ad 18) 200 R_lastMove), (kZ cZ (ad 19) 200 K_chosen), (kI cI (ad 20) 200 K_knotOf), (kI cI (ad 21) 200 K_order), (kI cI (ad 22) 200 K_entered), (kI cI (ad 23) 200 K_low), (kI cI (ad 24) 200 K_nextOut), (kI cI (ad 25) 200 K_path), (kI cI (ad 26) 200 K_open), (kI cI (ad 27) 200 S_size), (kI cI (ad 28) 200 S_lowest), (kI cI (ad 29) 200 S_ableInAll), (kI cI (ad 30) 200 S_inside), (kZ cZ (ad 31) 200 S_goesRound)] H := by rw [hH]; exact hP
  suffices h9 : W p l e { frames := 4, cells := 0, slots := 0, locals := 91 } s m ([.ref (ad 0), .int a1] : List Value).toArray below meth c H locs 0 0 Q (F0 m 0 ls []) by rw [hH, hlo] at h9; exact h9
  clear hH hlo
  have hiX4 : ∀ w ∈ wsX40, w ∈ wv_X4_findParts := fun w h => List.mem_cons_of_mem _ (inlX4 w h)
  have hk0 := hts (.fieldLink RX4 30 "FairLoops" "knots" "LFairLoops$Knots;") (List.mem_cons_of_mem _ wk_26)
  have hk1 := hts (.fieldLink RX4 10 "FairLoops" "graph" "LFairLoops$Graph;") (List.mem_cons_of_mem _ wk_16)
  have hk2 := hts (.fieldLink RX4 37 "FairLoops" "sums" "LFairLoops$Sums;") (List.mem_cons_of_mem _ wk_30)
  refine lv_aload_n hx hb dX4_findParts_0 rfl (lv_at hl 0 rfl) ?_
  refine lv_iload_n hx hb dX4_findParts_1 rfl (lv_at hl 1 rfl) ?_
  obtain ⟨⟨R_found_2, R_line_2, R_far_2, R_lastMove_2, K_chosen_2⟩, hc_2, h⟩ := ox_b_of h
  refine mc_callV (As := [.int a1]) (rest := []) (b := ad 0) (Wc := [(kF ad), (kG ad G_states G_moves G_ends), (kR ad R_found), (kK ad K_found K_closed K_entries K_depth K_opened), (kI cI (ad 8) 200 G_asks), (kI cI (ad 12) 600 G_to), (kI cI (ad 14) 600 G_out), (kI cI (ad 15) 201 G_start), (kI cI (ad 16) 200 R_line), (kI cI (ad 17) 200 R_far), (kI cI (ad 18) 200 R_lastMove), (kZ cZ (ad 19) 200 K_chosen)]) (wr := [(kS ad), (kI cI (ad 10) 200 G_able), (kI cI (ad 11) 600 G_from), (kI cI (ad 13) 600 G_labelOf), (kI cI (ad 20) 200 K_knotOf), (kI cI (ad 21) 200 K_order), (kI cI (ad 22) 200 K_entered), (kI cI (ad 23) 200 K_low), (kI cI (ad 24) 200 K_nextOut), (kI cI (ad 25) 200 K_path), (kI cI (ad 26) 200 K_open), (kI cI (ad 27) 200 S_size), (kI cI (ad 28) 200 S_lowest), (kI cI (ad 29) 200 S_ableInAll), (kI cI (ad 30) 200 S_inside), (kZ cZ (ad 31) 200 S_goesRound)]) (W1 := [(kF ad), (kG ad G_states G_moves G_ends), (kR ad R_found_2), (kK ad K_found K_closed K_entries K_depth K_opened), (kI cI (ad 8) 200 G_asks), (kI cI (ad 12) 600 G_to), (kI cI (ad 14) 600 G_out), (kI cI (ad 15) 201 G_start), (kI cI (ad 16) 200 R_line_2), (kI cI (ad 17) 200 R_far_2), (kI cI (ad 18) 200 R_lastMove_2), (kZ cZ (ad 19) 200 K_chosen_2)]) (wn := [(kF ad), (kG ad G_states G_moves G_ends), (kR ad R_found_2), (kK ad K_found K_closed K_entries K_depth K_opened), (kS ad), (kI cI (ad 8) 200 G_asks), (kI cI (ad 10) 200 G_able), (kI cI (ad 11) 600 G_from), (kI cI (ad 12) 600 G_to), (kI cI (ad 13) 600 G_labelOf), (kI cI (ad 14) 600 G_out), (kI cI (ad 15) 201 G_start), (kI cI (ad 16) 200 R_line_2), (kI cI (ad 17) 200 R_far_2), (kI cI (ad 18) 200 R_lastMove_2), (kZ cZ (ad 19) 200 K_chosen_2), (kI cI (ad 20) 200 K_knotOf), (kI cI (ad 21) 200 K_order), (kI cI (ad 22) 200 K_entered), (kI cI (ad 23) 200 K_low), (kI cI (ad 24) 200 K_nextOut), (kI cI (ad 25) 200 K_path), (kI cI (ad 26) 200 K_open), (kI cI (ad 27) 200 S_size), (kI cI (ad 28) 200 S_lowest), (kI cI (ad 29) 200 S_ableInAll), (kI cI (ad 30) 200 S_inside), (kZ cZ (ad 31) 200 S_goesRound)]) (rv := none) ⟨hx, hb, hml, hown, hts⟩ (c_X4_chooseStatesOf l D cI cZ ad G_states G_moves G_ends R_found K_found K_closed K_entries K_depth K_opened G_asks G_to G_out G_start R_line R_far R_lastMove K_chosen a1 _ hc_2) (cwV 1 hts (gl_V wk_215 wk_216 wk_217 wk_2 wk_218) rfl rfl rfl (by decide +kernel) ⟨Nat.le_of_ble_eq_true rfl, Nat.le_of_ble_eq_true rfl⟩) hK hP hD hS hA 4 0 rfl rfl rfl [0, 1, 2, 3, 5, 8, 10, 11, 12, 13, 14, 15] [4, 6, 7, 9, 16, 17, 18, 19, 20, 21, 22, 23, 24, 25, 26, 27] [16, 17, 18, 19, 0, 20, 1, 2, 21, 3, 22, 23, 24, 25, 26, 27, 4, 5, 6, 7, 8, 9, 10, 11, 12, 13, 14, 15] rfl rfl (by decide) rfl (by decide) (by decide) rfl rfl (by decide) rfl rfl hl.1 (Nat.le_of_ble_eq_true rfl) dX4_findParts_2 ⟨Nat.zero_le _, Nat.zero_le _⟩ (fun H locs hP hD hS => ?_)
  show W p l e { frames := 4, cells := 0, slots := 0, locals := 91 } s m ([.ref (ad 0), .int a1] : List Value).toArray below meth c H locs 0 0 Q (F0 m 5 ls [])
  refine lv_aload_n hx hb dX4_findParts_5 rfl (lv_at hl 0 rfl) ?_
  refine va_get (D := D) (ci := 4) (v := .ref (ad 3)) (C := RX4) (T := TX4) (N := 6) hx hb hts hiX4 hown hK hP 0 rfl rfl 3 (by decide) hk0 (fun _ h9 => h9) rfl dX4_findParts_6 ?_
  refine lv_aload_n hx hb dX4_findParts_9 rfl (lv_at hl 0 rfl) ?_
  refine va_get (D := D) (ci := 4) (v := .ref (ad 1)) (C := RX4) (T := TX4) (N := 6) hx hb hts hiX4 hown hK hP 0 rfl rfl 0 (by decide) hk1 (fun _ h9 => h9) rfl dX4_findParts_10 ?_
  obtain ⟨⟨K_found_13, K_closed_13, K_entries_13, K_depth_13, K_opened_13, K_knotOf_13, K_order_13, K_entered_13, K_low_13, K_nextOut_13, K_path_13, K_open_13⟩, hc_13, h⟩ := ox_b_of h
  refine mc_callV (As := [.ref (ad 1)]) (rest := []) (b := ad 3) (Wc := [(kG ad G_states G_moves G_ends), (kK ad K_found K_closed K_entries K_depth K_opened), (kI cI (ad 12) 600 G_to), (kI cI (ad 14) 600 G_out), (kI cI (ad 15) 201 G_start), (kZ cZ (ad 19) 200 K_chosen_2), (kI cI (ad 20) 200 K_knotOf), (kI cI (ad 21) 200 K_order), (kI cI (ad 22) 200 K_entered), (kI cI (ad 23) 200 K_low), (kI cI (ad 24) 200 K_nextOut), (kI cI (ad 25) 200 K_path), (kI cI (ad 26) 200 K_open)]) (wr := [(kF ad), (kR ad R_found_2), (kS ad), (kI cI (ad 8) 200 G_asks), (kI cI (ad 10) 200 G_able), (kI cI (ad 11) 600 G_from), (kI cI (ad 13) 600 G_labelOf), (kI cI (ad 16) 200 R_line_2), (kI cI (ad 17) 200 R_far_2), (kI cI (ad 18) 200 R_lastMove_2), (kI cI (ad 27) 200 S_size), (kI cI (ad 28) 200 S_lowest), (kI cI (ad 29) 200 S_ableInAll), (kI cI (ad 30) 200 S_inside), (kZ cZ (ad 31) 200 S_goesRound)]) (W1 := [(kG ad G_states G_moves G_ends), (kK ad K_found_13 K_closed_13 K_entries_13 K_depth_13 K_opened_13), (kI cI (ad 12) 600 G_to), (kI cI (ad 14) 600 G_out), (kI cI (ad 15) 201 G_start), (kZ cZ (ad 19) 200 K_chosen_2), (kI cI (ad 20) 200 K_knotOf_13), (kI cI (ad 21) 200 K_order_13), (kI cI (ad 22) 200 K_entered_13), (kI cI (ad 23) 200 K_low_13), (kI cI (ad 24) 200 K_nextOut_13), (kI cI (ad 25) 200 K_path_13), (kI cI (ad 26) 200 K_open_13)]) (wn := [(kF ad), (kG ad G_states G_moves G_ends), (kR ad R_found_2), (kK ad K_found_13 K_closed_13 K_entries_13 K_depth_13 K_opened_13), (kS ad), (kI cI (ad 8) 200 G_asks), (kI cI (ad 10) 200 G_able), (kI cI (ad 11) 600 G_from), (kI cI (ad 12) 600 G_to), (kI cI (ad 13) 600 G_labelOf), (kI cI (ad 14) 600 G_out), (kI cI (ad 15) 201 G_start), (kI cI (ad 16) 200 R_line_2), (kI cI (ad 17) 200 R_far_2), (kI cI (ad 18) 200 R_lastMove_2), (kZ cZ (ad 19) 200 K_chosen_2), (kI cI (ad 20) 200 K_knotOf_13), (kI cI (ad 21) 200 K_order_13), (kI cI (ad 22) 200 K_entered_13), (kI cI (ad 23) 200 K_low_13), (kI cI (ad 24) 200 K_nextOut_13), (kI cI (ad 25) 200 K_path_13), (kI cI (ad 26) 200 K_open_13), (kI cI (ad 27) 200 S_size), (kI cI (ad 28) 200 S_lowest), (kI cI (ad 29) 200 S_ableInAll), (kI cI (ad 30) 200 S_inside), (kZ cZ (ad 31) 200 S_goesRound)]) (rv := none) ⟨hx, hb, hml, hown, hts⟩ (c_X1_find l D cI cZ ad G_states G_moves G_ends K_found K_closed K_entries K_depth K_opened G_to G_out G_start K_chosen_2 K_knotOf K_order K_entered K_low K_nextOut K_path K_open  _ hc_13) (cwV 1 hts (gl_V wk_238 wk_239 wk_240 wk_25 wk_241) rfl rfl rfl (by decide +kernel) ⟨Nat.le_of_ble_eq_true rfl, Nat.le_of_ble_eq_true rfl⟩) hK hP hD hS hA 1 1 rfl rfl rfl [1, 3, 8, 10, 11, 15, 16, 17, 18, 19, 20, 21, 22] [0, 2, 4, 5, 6, 7, 9, 12, 13, 14, 23, 24, 25, 26, 27] [0, 15, 1, 16, 2, 3, 4, 5, 17, 6, 18, 19, 7, 8, 9, 20, 21, 22, 23, 24, 25, 26, 27, 10, 11, 12, 13, 14] rfl rfl (by decide) rfl (by decide) (by decide) rfl rfl (by decide) rfl rfl hl.1 (Nat.le_of_ble_eq_true rfl) dX4_findParts_13 ⟨Nat.zero_le _, Nat.zero_le _⟩ (fun H locs hP hD hS => ?_)
  show W p l e { frames := 4, cells := 0, slots := 0, locals := 91 } s m ([.ref (ad 0), .int a1] : List Value).toArray below meth c H locs 0 0 Q (F0 m 16 ls [])
  refine lv_aload_n hx hb dX4_findParts_16 rfl (lv_at hl 0 rfl) ?_
  refine va_get (D := D) (ci := 4) (v := .ref (ad 4)) (C := RX4) (T := TX4) (N := 6) hx hb hts hiX4 hown hK hP 0 rfl rfl 4 (by decide) hk2 (fun _ h9 => h9) rfl dX4_findParts_17 ?_
  refine lv_aload_n hx hb dX4_findParts_20 rfl (lv_at hl 0 rfl) ?_
  refine va_get (D := D) (ci := 4) (v := .ref (ad 1)) (C := RX4) (T := TX4) (N := 6) hx hb hts hiX4 hown hK hP 0 rfl rfl 0 (by decide) hk1 (fun _ h9 => h9) rfl dX4_findParts_21 ?_
  refine lv_aload_n hx hb dX4_findParts_24 rfl (lv_at hl 0 rfl) ?_
  refine va_get (D := D) (ci := 4) (v := .ref (ad 3)) (C := RX4) (T := TX4) (N := 6) hx hb hts hiX4 hown hK hP 0 rfl rfl 3 (by decide) hk0 (fun _ h9 => h9) rfl dX4_findParts_25 ?_
  obtain ⟨⟨S_size_28, S_lowest_28, S_ableInAll_28, S_inside_28, S_goesRound_28⟩, hc_28, h⟩ := ox_b_of h
  refine mc_callV (As := [.ref (ad 1), .ref (ad 3)]) (rest := []) (b := ad 4) (Wc := [(kG ad G_states G_moves G_ends), (kK ad K_found_13 K_closed_13 K_entries_13 K_depth_13 K_opened_13), (kS ad), (kI cI (ad 10) 200 G_able), (kI cI (ad 11) 600 G_from), (kI cI (ad 12) 600 G_to), (kI cI (ad 13) 600 G_labelOf), (kZ cZ (ad 19) 200 K_chosen_2), (kI cI (ad 20) 200 K_knotOf_13), (kI cI (ad 27) 200 S_size), (kI cI (ad 28) 200 S_lowest), (kI cI (ad 29) 200 S_ableInAll), (kI cI (ad 30) 200 S_inside), (kZ cZ (ad 31) 200 S_goesRound)]) (wr := [(kF ad), (kR ad R_found_2), (kI cI (ad 8) 200 G_asks), (kI cI (ad 14) 600 G_out), (kI cI (ad 15) 201 G_start), (kI cI (ad 16) 200 R_line_2), (kI cI (ad 17) 200 R_far_2), (kI cI (ad 18) 200 R_lastMove_2), (kI cI (ad 21) 200 K_order_13), (kI cI (ad 22) 200 K_entered_13), (kI cI (ad 23) 200 K_low_13), (kI cI (ad 24) 200 K_nextOut_13), (kI cI (ad 25) 200 K_path_13), (kI cI (ad 26) 200 K_open_13)]) (W1 := [(kG ad G_states G_moves G_ends), (kK ad K_found_13 K_closed_13 K_entries_13 K_depth_13 K_opened_13), (kS ad), (kI cI (ad 10) 200 G_able), (kI cI (ad 11) 600 G_from), (kI cI (ad 12) 600 G_to), (kI cI (ad 13) 600 G_labelOf), (kZ cZ (ad 19) 200 K_chosen_2), (kI cI (ad 20) 200 K_knotOf_13), (kI cI (ad 27) 200 S_size_28), (kI cI (ad 28) 200 S_lowest_28), (kI cI (ad 29) 200 S_ableInAll_28), (kI cI (ad 30) 200 S_inside_28), (kZ cZ (ad 31) 200 S_goesRound_28)]) (wn := [(kF ad), (kG ad G_states G_moves G_ends), (kR ad R_found_2), (kK ad K_found_13 K_closed_13 K_entries_13 K_depth_13 K_opened_13), (kS ad), (kI cI (ad 8) 200 G_asks), (kI cI (ad 10) 200 G_able), (kI cI (ad 11) 600 G_from), (kI cI (ad 12) 600 G_to), (kI cI (ad 13) 600 G_labelOf), (kI cI (ad 14) 600 G_out), (kI cI (ad 15) 201 G_start), (kI cI (ad 16) 200 R_line_2), (kI cI (ad 17) 200 R_far_2), (kI cI (ad 18) 200 R_lastMove_2), (kZ cZ (ad 19) 200 K_chosen_2), (kI cI (ad 20) 200 K_knotOf_13), (kI cI (ad 21) 200 K_order_13), (kI cI (ad 22) 200 K_entered_13), (kI cI (ad 23) 200 K_low_13), (kI cI (ad 24) 200 K_nextOut_13), (kI cI (ad 25) 200 K_path_13), (kI cI (ad 26) 200 K_open_13), (kI cI (ad 27) 200 S_size_28), (kI cI (ad 28) 200 S_lowest_28), (kI cI (ad 29) 200 S_ableInAll_28), (kI cI (ad 30) 200 S_inside_28), (kZ cZ (ad 31) 200 S_goesRound_28)]) (rv := none) ⟨hx, hb, hml, hown, hts⟩ (c_X3_take l D cI cZ ad G_states G_moves G_ends K_found_13 K_closed_13 K_entries_13 K_depth_13 K_opened_13 G_able G_from G_to G_labelOf K_chosen_2 K_knotOf_13 S_size S_lowest S_ableInAll S_inside S_goesRound  _ hc_28) (cwV 2 hts (gl_V wk_272 wk_273 wk_274 wk_29 wk_275) rfl rfl rfl (by decide +kernel) ⟨Nat.le_of_ble_eq_true rfl, Nat.le_of_ble_eq_true rfl⟩) hK hP hD hS hA 3 2 rfl rfl rfl [1, 3, 4, 6, 7, 8, 9, 15, 16, 23, 24, 25, 26, 27] [0, 2, 5, 10, 11, 12, 13, 14, 17, 18, 19, 20, 21, 22] [0, 14, 1, 15, 16, 2, 17, 18, 19, 20, 3, 4, 5, 6, 7, 21, 22, 8, 9, 10, 11, 12, 13, 23, 24, 25, 26, 27] rfl rfl (by decide) rfl (by decide) (by decide) rfl rfl (by decide) rfl rfl hl.1 (Nat.le_of_ble_eq_true rfl) dX4_findParts_28 ⟨Nat.zero_le _, Nat.zero_le _⟩ (fun H locs hP hD hS => ?_)
  show W p l e { frames := 4, cells := 0, slots := 0, locals := 91 } s m ([.ref (ad 0), .int a1] : List Value).toArray below meth c H locs 0 0 Q (F0 m 31 ls [])
  have h := Option.some.inj h
  subst h
  exact hend H locs _ ls hP hD hS dX4_findParts_31 trivial
set_option maxHeartbeats 4000000 in
set_option maxRecDepth 100000 in
theorem c_X4_findFairParts (l : Launch) (D : va_G) (cI cZ : ClassId) (ad : Nat → Nat) (G_states : Int32) (G_moves : Int32) (G_ends : Int32) (R_found : Int32) (K_found : Int32) (K_closed : Int32) (K_entries : Int32) (K_depth : Int32) (K_opened : Int32) (F_kinds : Nat → Int32) (G_asks : Nat → Int32) (G_able : Nat → Int32) (G_from : Nat → Int32) (G_to : Nat → Int32) (G_labelOf : Nat → Int32) (G_out : Nat → Int32) (G_start : Nat → Int32) (R_line : Nat → Int32) (R_far : Nat → Int32) (R_lastMove : Nat → Int32) (K_chosen : Nat → Int32) (K_knotOf : Nat → Int32) (K_order : Nat → Int32) (K_entered : Nat → Int32) (K_low : Nat → Int32) (K_nextOut : Nat → Int32) (K_path : Nat → Int32) (K_open : Nat → Int32) (S_size : Nat → Int32) (S_lowest : Nat → Int32) (S_ableInAll : Nat → Int32) (S_inside : Nat → Int32) (S_goesRound : Nat → Int32) (a1 : Int32) (res : Int32 × Int32 × Int32 × Int32 × Int32 × Int32 × (Nat → Int32) × (Nat → Int32) × (Nat → Int32) × (Nat → Int32) × (Nat → Int32) × (Nat → Int32) × (Nat → Int32) × (Nat → Int32) × (Nat → Int32) × (Nat → Int32) × (Nat → Int32) × (Nat → Int32) × (Nat → Int32) × (Nat → Int32) × (Nat → Int32) × (Nat → Int32)) (h : fn_X4_findFairParts G_states G_moves R_found K_found K_closed K_entries K_depth K_opened F_kinds G_asks G_able G_from G_to G_labelOf G_out G_start R_line R_far R_lastMove K_chosen K_knotOf K_order K_entered K_low K_nextOut K_path K_open S_size S_lowest S_ableInAll S_inside S_goesRound a1 = some res) : mc_C l yX4_findFairParts wv_X4_findFairParts { frames := 5, cells := 0, slots := 0, locals := 115 } D [(cI, .int), (cZ, .boolean)] [.ref (ad 0), .int a1] [(kF ad), (kG ad G_states G_moves G_ends), (kR ad R_found), (kK ad K_found K_closed K_entries K_depth K_opened), (kS ad), (kI cI (ad 6) 16 F_kinds), (kI cI (ad 8) 200 G_asks), (kI cI (ad 10) 200 G_able), (kI cI (ad 11) 600 G_from), (kI cI (ad 12) 600 G_to), (kI cI (ad 13) 600 G_labelOf), (kI cI (ad 14) 600 G_out), (kI cI (ad 15) 201 G_start), (kI cI (ad 16) 200 R_line), (kI cI (ad 17) 200 R_far), (kI cI (ad 18) 200 R_lastMove), (kZ cZ (ad 19) 200 K_chosen), (kI cI (ad 20) 200 K_knotOf), (kI cI (ad 21) 200 K_order), (kI cI (ad 22) 200 K_entered), (kI cI (ad 23) 200 K_low), (kI cI (ad 24) 200 K_nextOut), (kI cI (ad 25) 200 K_path), (kI cI (ad 26) 200 K_open), (kI cI (ad 27) 200 S_size), (kI cI (ad 28) 200 S_lowest), (kI cI (ad 29) 200 S_ableInAll), (kI cI (ad 30) 200 S_inside), (kZ cZ (ad 31) 200 S_goesRound)] (none) [(kF ad), (kG ad G_states G_moves G_ends), (kR ad res.1), (kK ad res.2.1 res.2.2.1 res.2.2.2.1 res.2.2.2.2.1 res.2.2.2.2.2.1), (kS ad), (kI cI (ad 6) 16 F_kinds), (kI cI (ad 8) 200 G_asks), (kI cI (ad 10) 200 G_able), (kI cI (ad 11) 600 G_from), (kI cI (ad 12) 600 G_to), (kI cI (ad 13) 600 G_labelOf), (kI cI (ad 14) 600 G_out), (kI cI (ad 15) 201 G_start), (kI cI (ad 16) 200 res.2.2.2.2.2.2.1), (kI cI (ad 17) 200 res.2.2.2.2.2.2.2.1), (kI cI (ad 18) 200 res.2.2.2.2.2.2.2.2.1), (kZ cZ (ad 19) 200 res.2.2.2.2.2.2.2.2.2.1), (kI cI (ad 20) 200 res.2.2.2.2.2.2.2.2.2.2.1), (kI cI (ad 21) 200 res.2.2.2.2.2.2.2.2.2.2.2.1), (kI cI (ad 22) 200 res.2.2.2.2.2.2.2.2.2.2.2.2.1), (kI cI (ad 23) 200 res.2.2.2.2.2.2.2.2.2.2.2.2.2.1), (kI cI (ad 24) 200 res.2.2.2.2.2.2.2.2.2.2.2.2.2.2.1), (kI cI (ad 25) 200 res.2.2.2.2.2.2.2.2.2.2.2.2.2.2.2.1), (kI cI (ad 26) 200 res.2.2.2.2.2.2.2.2.2.2.2.2.2.2.2.2.1), (kI cI (ad 27) 200 res.2.2.2.2.2.2.2.2.2.2.2.2.2.2.2.2.2.1), (kI cI (ad 28) 200 res.2.2.2.2.2.2.2.2.2.2.2.2.2.2.2.2.2.2.1), (kI cI (ad 29) 200 res.2.2.2.2.2.2.2.2.2.2.2.2.2.2.2.2.2.2.2.1), (kI cI (ad 30) 200 res.2.2.2.2.2.2.2.2.2.2.2.2.2.2.2.2.2.2.2.2.1), (kZ cZ (ad 31) 200 res.2.2.2.2.2.2.2.2.2.2.2.2.2.2.2.2.2.2.2.2.2)] := by
  refine mc_ofv (own := RX4) (by decide) rfl rfl (Nat.le_of_ble_eq_true rfl) ?_
  intro p e s m below meth c A Q ls hx hb hml hown hts hK hP hD hA hl hend
  have hS : va_S A s.heap s.heap [] := va_S.rf
  have hl : lv_has ls 2 [(0, .ref (ad 0)), (1, .int a1)] := hl
  obtain ⟨H, hH⟩ : ∃ H, H = s.heap := ⟨_, rfl⟩
  obtain ⟨locs, hlo⟩ : ∃ locs : List Loc, locs = [] := ⟨_, rfl⟩
  have hS : va_S A s.heap H locs := by rw [hH, hlo]; exact hS
  have hP : va_P D vwCl [(kF ad), (kG ad G_states G_moves G_ends), (kR ad R_found), (kK ad K_found K_closed K_entries K_depth K_opened), (kS ad), (kI cI (ad 6) 16 F_kinds), (kI cI (ad 8) 200 G_asks), (kI cI (ad 10) 200 G_able), (kI cI (ad 11) 600 G_from), (kI cI (ad 12) 600 G_to), (kI cI (ad 13) 600 G_labelOf), (kI cI (ad 14) 600 G_out), (kI cI (ad 15) 201 G_start), (kI cI (ad 16) 200 R_line), (kI cI (ad 17) 200 R_far), (kI cI (ad 18) 200 R_lastMove), (kZ cZ (ad 19) 200 K_chosen), (kI cI (ad 20) 200 K_knotOf), (kI cI (ad 21) 200 K_order), (kI cI (ad 22) 200 K_entered), (kI cI (ad 23) 200 K_low), (kI cI (ad 24) 200 K_nextOut), (kI cI (ad 25) 200 K_path), (kI cI (ad 26) 200 K_open), (kI cI (ad 27) 200 S_size), (kI cI (ad 28) 200 S_lowest), (kI cI (ad 29) 200 S_ableInAll), (kI cI (ad 30) 200 S_inside), (kZ cZ (ad 31) 200 S_goesRound)] H := by rw [hH]; exact hP
  suffices h9 : W p l e { frames := 5, cells := 0, slots := 0, locals := 115 } s m ([.ref (ad 0), .int a1] : List Value).toArray below meth c H locs 0 0 Q (F0 m 0 ls []) by rw [hH, hlo] at h9; exact h9
  clear hH hlo
  refine lv_aload_n hx hb dX4_findFairParts_0 rfl (lv_at hl 0 rfl) ?_
  refine lv_iload_n hx hb dX4_findFairParts_1 rfl (lv_at hl 1 rfl) ?_
  obtain ⟨⟨R_found_2, R_line_2, R_far_2, R_lastMove_2, K_chosen_2⟩, hc_2, h⟩ := ox_b_of h
  refine mc_callV (As := [.int a1]) (rest := []) (b := ad 0) (Wc := [(kF ad), (kG ad G_states G_moves G_ends), (kR ad R_found), (kK ad K_found K_closed K_entries K_depth K_opened), (kI cI (ad 8) 200 G_asks), (kI cI (ad 12) 600 G_to), (kI cI (ad 14) 600 G_out), (kI cI (ad 15) 201 G_start), (kI cI (ad 16) 200 R_line), (kI cI (ad 17) 200 R_far), (kI cI (ad 18) 200 R_lastMove), (kZ cZ (ad 19) 200 K_chosen)]) (wr := [(kS ad), (kI cI (ad 6) 16 F_kinds), (kI cI (ad 10) 200 G_able), (kI cI (ad 11) 600 G_from), (kI cI (ad 13) 600 G_labelOf), (kI cI (ad 20) 200 K_knotOf), (kI cI (ad 21) 200 K_order), (kI cI (ad 22) 200 K_entered), (kI cI (ad 23) 200 K_low), (kI cI (ad 24) 200 K_nextOut), (kI cI (ad 25) 200 K_path), (kI cI (ad 26) 200 K_open), (kI cI (ad 27) 200 S_size), (kI cI (ad 28) 200 S_lowest), (kI cI (ad 29) 200 S_ableInAll), (kI cI (ad 30) 200 S_inside), (kZ cZ (ad 31) 200 S_goesRound)]) (W1 := [(kF ad), (kG ad G_states G_moves G_ends), (kR ad R_found_2), (kK ad K_found K_closed K_entries K_depth K_opened), (kI cI (ad 8) 200 G_asks), (kI cI (ad 12) 600 G_to), (kI cI (ad 14) 600 G_out), (kI cI (ad 15) 201 G_start), (kI cI (ad 16) 200 R_line_2), (kI cI (ad 17) 200 R_far_2), (kI cI (ad 18) 200 R_lastMove_2), (kZ cZ (ad 19) 200 K_chosen_2)]) (wn := [(kF ad), (kG ad G_states G_moves G_ends), (kR ad R_found_2), (kK ad K_found K_closed K_entries K_depth K_opened), (kS ad), (kI cI (ad 6) 16 F_kinds), (kI cI (ad 8) 200 G_asks), (kI cI (ad 10) 200 G_able), (kI cI (ad 11) 600 G_from), (kI cI (ad 12) 600 G_to), (kI cI (ad 13) 600 G_labelOf), (kI cI (ad 14) 600 G_out), (kI cI (ad 15) 201 G_start), (kI cI (ad 16) 200 R_line_2), (kI cI (ad 17) 200 R_far_2), (kI cI (ad 18) 200 R_lastMove_2), (kZ cZ (ad 19) 200 K_chosen_2), (kI cI (ad 20) 200 K_knotOf), (kI cI (ad 21) 200 K_order), (kI cI (ad 22) 200 K_entered), (kI cI (ad 23) 200 K_low), (kI cI (ad 24) 200 K_nextOut), (kI cI (ad 25) 200 K_path), (kI cI (ad 26) 200 K_open), (kI cI (ad 27) 200 S_size), (kI cI (ad 28) 200 S_lowest), (kI cI (ad 29) 200 S_ableInAll), (kI cI (ad 30) 200 S_inside), (kZ cZ (ad 31) 200 S_goesRound)]) (rv := none) ⟨hx, hb, hml, hown, hts⟩ (c_X4_chooseStatesOf l D cI cZ ad G_states G_moves G_ends R_found K_found K_closed K_entries K_depth K_opened G_asks G_to G_out G_start R_line R_far R_lastMove K_chosen a1 _ hc_2) (cwV 1 hts (gl_V wk_215 wk_216 wk_217 wk_2 wk_218) rfl rfl rfl (by decide +kernel) ⟨Nat.le_of_ble_eq_true rfl, Nat.le_of_ble_eq_true rfl⟩) hK hP hD hS hA 4 0 rfl rfl rfl [0, 1, 2, 3, 6, 9, 11, 12, 13, 14, 15, 16] [4, 5, 7, 8, 10, 17, 18, 19, 20, 21, 22, 23, 24, 25, 26, 27, 28] [17, 18, 19, 20, 0, 1, 21, 2, 3, 22, 4, 23, 24, 25, 26, 27, 28, 5, 6, 7, 8, 9, 10, 11, 12, 13, 14, 15, 16] rfl rfl (by decide) rfl (by decide) (by decide) rfl rfl (by decide) rfl rfl hl.1 (Nat.le_of_ble_eq_true rfl) dX4_findFairParts_2 ⟨Nat.zero_le _, Nat.zero_le _⟩ (fun H locs hP hD hS => ?_)
  show W p l e { frames := 5, cells := 0, slots := 0, locals := 115 } s m ([.ref (ad 0), .int a1] : List Value).toArray below meth c H locs 0 0 Q (F0 m 5 ls [])
  refine lv_aload_n hx hb dX4_findFairParts_5 rfl (lv_at hl 0 rfl) ?_
  obtain ⟨⟨K_found_6, K_closed_6, K_entries_6, K_depth_6, K_opened_6, K_chosen_6, K_knotOf_6, K_order_6, K_entered_6, K_low_6, K_nextOut_6, K_path_6, K_open_6, S_size_6, S_lowest_6, S_ableInAll_6, S_inside_6, S_goesRound_6⟩, hc_6, h⟩ := ox_b_of h
  refine mc_callV (As := []) (rest := []) (b := ad 0) (Wc := [(kF ad), (kG ad G_states G_moves G_ends), (kK ad K_found K_closed K_entries K_depth K_opened), (kS ad), (kI cI (ad 6) 16 F_kinds), (kI cI (ad 10) 200 G_able), (kI cI (ad 11) 600 G_from), (kI cI (ad 12) 600 G_to), (kI cI (ad 13) 600 G_labelOf), (kI cI (ad 14) 600 G_out), (kI cI (ad 15) 201 G_start), (kZ cZ (ad 19) 200 K_chosen_2), (kI cI (ad 20) 200 K_knotOf), (kI cI (ad 21) 200 K_order), (kI cI (ad 22) 200 K_entered), (kI cI (ad 23) 200 K_low), (kI cI (ad 24) 200 K_nextOut), (kI cI (ad 25) 200 K_path), (kI cI (ad 26) 200 K_open), (kI cI (ad 27) 200 S_size), (kI cI (ad 28) 200 S_lowest), (kI cI (ad 29) 200 S_ableInAll), (kI cI (ad 30) 200 S_inside), (kZ cZ (ad 31) 200 S_goesRound)]) (wr := [(kR ad R_found_2), (kI cI (ad 8) 200 G_asks), (kI cI (ad 16) 200 R_line_2), (kI cI (ad 17) 200 R_far_2), (kI cI (ad 18) 200 R_lastMove_2)]) (W1 := [(kF ad), (kG ad G_states G_moves G_ends), (kK ad K_found_6 K_closed_6 K_entries_6 K_depth_6 K_opened_6), (kS ad), (kI cI (ad 6) 16 F_kinds), (kI cI (ad 10) 200 G_able), (kI cI (ad 11) 600 G_from), (kI cI (ad 12) 600 G_to), (kI cI (ad 13) 600 G_labelOf), (kI cI (ad 14) 600 G_out), (kI cI (ad 15) 201 G_start), (kZ cZ (ad 19) 200 K_chosen_6), (kI cI (ad 20) 200 K_knotOf_6), (kI cI (ad 21) 200 K_order_6), (kI cI (ad 22) 200 K_entered_6), (kI cI (ad 23) 200 K_low_6), (kI cI (ad 24) 200 K_nextOut_6), (kI cI (ad 25) 200 K_path_6), (kI cI (ad 26) 200 K_open_6), (kI cI (ad 27) 200 S_size_6), (kI cI (ad 28) 200 S_lowest_6), (kI cI (ad 29) 200 S_ableInAll_6), (kI cI (ad 30) 200 S_inside_6), (kZ cZ (ad 31) 200 S_goesRound_6)]) (wn := [(kF ad), (kG ad G_states G_moves G_ends), (kR ad R_found_2), (kK ad K_found_6 K_closed_6 K_entries_6 K_depth_6 K_opened_6), (kS ad), (kI cI (ad 6) 16 F_kinds), (kI cI (ad 8) 200 G_asks), (kI cI (ad 10) 200 G_able), (kI cI (ad 11) 600 G_from), (kI cI (ad 12) 600 G_to), (kI cI (ad 13) 600 G_labelOf), (kI cI (ad 14) 600 G_out), (kI cI (ad 15) 201 G_start), (kI cI (ad 16) 200 R_line_2), (kI cI (ad 17) 200 R_far_2), (kI cI (ad 18) 200 R_lastMove_2), (kZ cZ (ad 19) 200 K_chosen_6), (kI cI (ad 20) 200 K_knotOf_6), (kI cI (ad 21) 200 K_order_6), (kI cI (ad 22) 200 K_entered_6), (kI cI (ad 23) 200 K_low_6), (kI cI (ad 24) 200 K_nextOut_6), (kI cI (ad 25) 200 K_path_6), (kI cI (ad 26) 200 K_open_6), (kI cI (ad 27) 200 S_size_6), (kI cI (ad 28) 200 S_lowest_6), (kI cI (ad 29) 200 S_ableInAll_6), (kI cI (ad 30) 200 S_inside_6), (kZ cZ (ad 31) 200 S_goesRound_6)]) (rv := none) ⟨hx, hb, hml, hown, hts⟩ (c_X4_keepFairStates l D cI cZ ad G_states G_moves G_ends K_found K_closed K_entries K_depth K_opened F_kinds G_able G_from G_to G_labelOf G_out G_start K_chosen_2 K_knotOf K_order K_entered K_low K_nextOut K_path K_open S_size S_lowest S_ableInAll S_inside S_goesRound  _ hc_6) (cwV 0 hts (gl_V wk_230 wk_231 wk_232 wk_2 wk_233) rfl rfl rfl (by decide +kernel) ⟨Nat.le_of_ble_eq_true rfl, Nat.le_of_ble_eq_true rfl⟩) hK hP hD hS hA 4 0 rfl rfl rfl [0, 1, 3, 4, 5, 7, 8, 9, 10, 11, 12, 16, 17, 18, 19, 20, 21, 22, 23, 24, 25, 26, 27, 28] [2, 6, 13, 14, 15] [5, 6, 0, 7, 8, 9, 1, 10, 11, 12, 13, 14, 15, 2, 3, 4, 16, 17, 18, 19, 20, 21, 22, 23, 24, 25, 26, 27, 28] rfl rfl (by decide) rfl (by decide) (by decide) rfl rfl (by decide) rfl rfl hl.1 (Nat.le_of_ble_eq_true rfl) dX4_findFairParts_6 ⟨Nat.zero_le _, Nat.zero_le _⟩ (fun H locs hP hD hS => ?_)
  show W p l e { frames := 5, cells := 0, slots := 0, locals := 115 } s m ([.ref (ad 0), .int a1] : List Value).toArray below meth c H locs 0 0 Q (F0 m 9 ls [])
  have h := Option.some.inj h
  subst h
  exact hend H locs _ ls hP hD hS dX4_findFairParts_9 trivial
set_option maxHeartbeats 4000000 in
set_option maxRecDepth 100000 in
theorem c_X4_knotByLowestState (l : Launch) (D : va_G) (cI cZ : ClassId) (ad : Nat → Nat) (G_states : Int32) (G_moves : Int32) (G_ends : Int32) (K_found : Int32) (K_closed : Int32) (K_entries : Int32) (K_depth : Int32) (K_opened : Int32) (K_chosen : Nat → Int32) (K_knotOf : Nat → Int32) (S_lowest : Nat → Int32) (a1 : Int32) (res : Int32) (h : fn_X4_knotByLowestState G_states K_chosen K_knotOf S_lowest a1 = some res) : mc_C l yX4_knotByLowestState wv_X4_knotByLowestState { frames := 0, cells := 0, slots := 0, locals := 0 } D [(cI, .int), (cZ, .boolean)] [.ref (ad 0), .int a1] [(kF ad), (kG ad G_states G_moves G_ends), (kK ad K_found K_closed K_entries K_depth K_opened), (kS ad), (kZ cZ (ad 19) 200 K_chosen), (kI cI (ad 20) 200 K_knotOf), (kI cI (ad 28) 200 S_lowest)] (some (.int res)) [(kF ad), (kG ad G_states G_moves G_ends), (kK ad K_found K_closed K_entries K_depth K_opened), (kS ad), (kZ cZ (ad 19) 200 K_chosen), (kI cI (ad 20) 200 K_knotOf), (kI cI (ad 28) 200 S_lowest)] := by
  refine mc_ofi (own := RX4) (by decide) rfl rfl (Nat.le_of_ble_eq_true rfl) ?_
  intro p e s m below meth c A Q ls hx hb hml hown hts hK hP hD hA hl hend
  have hS : va_S A s.heap s.heap [] := va_S.rf
  have hl : lv_has ls 4 [(0, .ref (ad 0)), (1, .int a1)] := hl
  obtain ⟨H, hH⟩ : ∃ H, H = s.heap := ⟨_, rfl⟩
  obtain ⟨locs, hlo⟩ : ∃ locs : List Loc, locs = [] := ⟨_, rfl⟩
  have hS : va_S A s.heap H locs := by rw [hH, hlo]; exact hS
  have hP : va_P D vwCl [(kF ad), (kG ad G_states G_moves G_ends), (kK ad K_found K_closed K_entries K_depth K_opened), (kS ad), (kZ cZ (ad 19) 200 K_chosen), (kI cI (ad 20) 200 K_knotOf), (kI cI (ad 28) 200 S_lowest)] H := by rw [hH]; exact hP
  suffices h9 : W p l e { frames := 0, cells := 0, slots := 0, locals := 0 } s m ([.ref (ad 0), .int a1] : List Value).toArray below meth c H locs 0 0 Q (F0 m 0 ls []) by rw [hH, hlo] at h9; exact h9
  clear hH hlo
  have hiX0 : ∀ w ∈ wsX00, w ∈ wv_X4_knotByLowestState := fun w h => List.mem_cons_of_mem _ (inlX0 w h)
  have hiX1 : ∀ w ∈ wsX10, w ∈ wv_X4_knotByLowestState := fun w h => List.mem_cons_of_mem _ (inlX1 w h)
  have hiX3 : ∀ w ∈ wsX30, w ∈ wv_X4_knotByLowestState := fun w h => List.mem_cons_of_mem _ (inlX3 w h)
  have hiX4 : ∀ w ∈ wsX40, w ∈ wv_X4_knotByLowestState := fun w h => List.mem_cons_of_mem _ (inlX4 w h)
  have hk0 := hts (.fieldLink RX4 10 "FairLoops" "graph" "LFairLoops$Graph;") (List.mem_cons_of_mem _ wk_16)
  have hk1 := hts (.fieldLink RX4 51 "FairLoops$Graph" "states" "I") (List.mem_cons_of_mem _ wk_108)
  have hk2 := hts (.fieldLink RX4 30 "FairLoops" "knots" "LFairLoops$Knots;") (List.mem_cons_of_mem _ wk_26)
  have hk3 := hts (.fieldLink RX4 138 "FairLoops$Knots" "chosen" "[Z") (List.mem_cons_of_mem _ wk_219)
  have hk4 := hts (.fieldLink RX4 37 "FairLoops" "sums" "LFairLoops$Sums;") (List.mem_cons_of_mem _ wk_30)
  have hk5 := hts (.fieldLink RX4 203 "FairLoops$Sums" "lowest" "[I") (List.mem_cons_of_mem _ wk_390)
  have hk6 := hts (.fieldLink RX4 188 "FairLoops$Knots" "knotOf" "[I") (List.mem_cons_of_mem _ wk_301)
  refine lv_iconst (v := 0) hx hb dX4_knotByLowestState_0 (by decide) ?_
  refine lv_istore_n (lv' := [(2, .int 0), (0, .ref (ad 0)), (1, .int a1)]) hx hb dX4_knotByLowestState_1 rfl hl (by decide) rfl (fun ls hl => ?_)
  refine lv_iconst (v := 0) hx hb dX4_knotByLowestState_2 (by decide) ?_
  refine lv_istore_n (lv' := [(3, .int 0), (2, .int 0), (0, .ref (ad 0)), (1, .int a1)]) hx hb dX4_knotByLowestState_3 rfl hl (by decide) rfl (fun ls hl => ?_)
  obtain ⟨ex_4, hex_4, h_4⟩ := ox_b_of h
  have hX_4 : ∀ (v2_4 : Int32) (v3_4 : Int32) (H : Heap) (locs : List Loc) (ls : Array Slot), Sum.inl (v2_4, v3_4) = ex_4 → va_P D vwCl [(kF ad), (kG ad G_states G_moves G_ends), (kK ad K_found K_closed K_entries K_depth K_opened), (kS ad), (kZ cZ (ad 19) 200 K_chosen), (kI cI (ad 20) 200 K_knotOf), (kI cI (ad 28) 200 S_lowest)] H → va_D A [(kF ad), (kG ad G_states G_moves G_ends), (kK ad K_found K_closed K_entries K_depth K_opened), (kS ad), (kZ cZ (ad 19) 200 K_chosen), (kI cI (ad 20) 200 K_knotOf), (kI cI (ad 28) 200 S_lowest)] → va_S A s.heap H locs → lv_has ls 4 [] → W p l e { frames := 0, cells := 0, slots := 0, locals := 0 } s m ([.ref (ad 0), .int a1] : List Value).toArray below meth c H locs 0 0 Q (F0 m 72 ls []) := by
    intro v2_4 v3_4 H locs ls hex_4 hP hD hS hl
    subst hex_4
    have h := h_4
    refine lv_iconst (v := (-1)) hx hb dX4_knotByLowestState_72 (by decide) ?_
    have h := Option.some.inj h
    subst h
    exact hend H locs _ ls hP hD hS dX4_knotByLowestState_73 trivial
  have hL_4 : ∀ (n : Nat) (v2_4 : Int32) (v3_4 : Int32) (H : Heap) (locs : List Loc) (ls : Array Slot), ox_l (fn_X4_knotByLowestState_l4 G_states K_chosen K_knotOf S_lowest a1) n (v2_4, v3_4) = some ex_4 → va_P D vwCl [(kF ad), (kG ad G_states G_moves G_ends), (kK ad K_found K_closed K_entries K_depth K_opened), (kS ad), (kZ cZ (ad 19) 200 K_chosen), (kI cI (ad 20) 200 K_knotOf), (kI cI (ad 28) 200 S_lowest)] H → va_D A [(kF ad), (kG ad G_states G_moves G_ends), (kK ad K_found K_closed K_entries K_depth K_opened), (kS ad), (kZ cZ (ad 19) 200 K_chosen), (kI cI (ad 20) 200 K_knotOf), (kI cI (ad 28) 200 S_lowest)] → va_S A s.heap H locs → lv_has ls 4 [(0, .ref (ad 0)), (1, .int a1), (2, .int v2_4), (3, .int v3_4)] → W p l e { frames := 0, cells := 0, slots := 0, locals := 0 } s m ([.ref (ad 0), .int a1] : List Value).toArray below meth c H locs 0 0 Q (F0 m 4 ls []) := by
    intro n
    induction n with
    | zero => intro v2_4 v3_4 H locs ls hlp; exact ox_l_0 hlp
    | succ n ih_4 =>
      intro v2_4 v3_4 H locs ls hlp_4 hP hD hS hl
      obtain ⟨z_4, h, hlp_4⟩ := ox_l_of hlp_4
      refine lv_iload_n hx hb dX4_knotByLowestState_4 rfl (lv_at hl 3 rfl) ?_
      refine lv_aload_n hx hb dX4_knotByLowestState_5 rfl (lv_at hl 0 rfl) ?_
      refine va_get (D := D) (ci := 4) (v := .ref (ad 1)) (C := RX4) (T := TX4) (N := 6) hx hb hts hiX4 hown hK hP 0 rfl rfl 0 (by decide) hk0 (fun _ h9 => h9) rfl dX4_knotByLowestState_6 ?_
      refine va_get (D := D) (ci := 0) (v := .int G_states) (C := RX0) (T := TX0) (N := 11) hx hb hts hiX0 hown hK hP 1 rfl rfl 0 (by decide) hk1 (fun _ h9 => h9) rfl dX4_knotByLowestState_9 ?_
      refine lv_icmp_ge (tgt := 72) hx hb dX4_knotByLowestState_12 (by decide) (fun c_12 => ?_) (fun c_12 => ?_)
      · have h := ox_t c_12 h
        obtain rfl := Option.some.inj h
        exact hX_4 v2_4 v3_4 H locs ls hlp_4 hP hD hS (lv_sub hl [] rfl)
      · have h := ox_f c_12 h
        refine lv_aload_n hx hb dX4_knotByLowestState_15 rfl (lv_at hl 0 rfl) ?_
        refine va_get (D := D) (ci := 4) (v := .ref (ad 3)) (C := RX4) (T := TX4) (N := 6) hx hb hts hiX4 hown hK hP 0 rfl rfl 3 (by decide) hk2 (fun _ h9 => h9) rfl dX4_knotByLowestState_16 ?_
        refine va_get (D := D) (ci := 1) (v := .ref (ad 19)) (C := RX1) (T := TX1) (N := 13) hx hb hts hiX1 hown hK hP 2 rfl rfl 0 (by decide) hk3 (fun _ h9 => h9) rfl dX4_knotByLowestState_19 ?_
        refine lv_iload_n hx hb dX4_knotByLowestState_22 rfl (lv_at hl 3 rfl) ?_
        obtain ⟨hi_23, h⟩ := ox_i_of h
        refine va_zald hx hb hK hP 4 1 rfl rfl hi_23 dX4_knotByLowestState_23 ?_
        refine lv_if_eq (tgt := 66) hx hb dX4_knotByLowestState_24 (by decide) (fun c_24 => ?_) (fun c_24 => ?_)
        · have h := ox_t c_24 h
          refine lv_iinc (v := v3_4 + 1) (lv' := [(3, .int (v3_4 + 1)), (0, .ref (ad 0)), (1, .int a1), (2, .int v2_4)]) hx hb dX4_knotByLowestState_66 hl (k := 3) rfl rfl (by decide) rfl (fun ls hl => ?_)
          refine lv_goto (tgt := 4) hx hb dX4_knotByLowestState_69 (by decide) ?_
          obtain rfl := Option.some.inj h
          exact ih_4 v2_4 (v3_4 + 1) H locs ls hlp_4 hP hD hS (lv_sub hl [1, 2, 3, 0] rfl)
        · have h := ox_f c_24 h
          refine lv_aload_n hx hb dX4_knotByLowestState_27 rfl (lv_at hl 0 rfl) ?_
          refine va_get (D := D) (ci := 4) (v := .ref (ad 4)) (C := RX4) (T := TX4) (N := 6) hx hb hts hiX4 hown hK hP 0 rfl rfl 4 (by decide) hk4 (fun _ h9 => h9) rfl dX4_knotByLowestState_28 ?_
          refine va_get (D := D) (ci := 3) (v := .ref (ad 28)) (C := RX3) (T := TX3) (N := 5) hx hb hts hiX3 hown hK hP 3 rfl rfl 1 (by decide) hk5 (fun _ h9 => h9) rfl dX4_knotByLowestState_31 ?_
          refine lv_aload_n hx hb dX4_knotByLowestState_34 rfl (lv_at hl 0 rfl) ?_
          refine va_get (D := D) (ci := 4) (v := .ref (ad 3)) (C := RX4) (T := TX4) (N := 6) hx hb hts hiX4 hown hK hP 0 rfl rfl 3 (by decide) hk2 (fun _ h9 => h9) rfl dX4_knotByLowestState_35 ?_
          refine va_get (D := D) (ci := 1) (v := .ref (ad 20)) (C := RX1) (T := TX1) (N := 13) hx hb hts hiX1 hown hK hP 2 rfl rfl 2 (by decide) hk6 (fun _ h9 => h9) rfl dX4_knotByLowestState_38 ?_
          refine lv_iload_n hx hb dX4_knotByLowestState_41 rfl (lv_at hl 3 rfl) ?_
          obtain ⟨hi_42, h⟩ := ox_i_of h
          refine va_iald hx hb hK hP 5 0 rfl rfl hi_42 dX4_knotByLowestState_42 ?_
          obtain ⟨hi_43, h⟩ := ox_i_of h
          refine va_iald hx hb hK hP 6 0 rfl rfl hi_43 dX4_knotByLowestState_43 ?_
          refine lv_iload_n hx hb dX4_knotByLowestState_44 rfl (lv_at hl 3 rfl) ?_
          refine lv_icmp_ne (tgt := 66) hx hb dX4_knotByLowestState_45 (by decide) (fun c_45 => ?_) (fun c_45 => ?_)
          · have h := ox_f c_45 h
            refine lv_iinc (v := v3_4 + 1) (lv' := [(3, .int (v3_4 + 1)), (0, .ref (ad 0)), (1, .int a1), (2, .int v2_4)]) hx hb dX4_knotByLowestState_66 hl (k := 3) rfl rfl (by decide) rfl (fun ls hl => ?_)
            refine lv_goto (tgt := 4) hx hb dX4_knotByLowestState_69 (by decide) ?_
            obtain rfl := Option.some.inj h
            exact ih_4 v2_4 (v3_4 + 1) H locs ls hlp_4 hP hD hS (lv_sub hl [1, 2, 3, 0] rfl)
          · have h := ox_t c_45 h
            refine lv_iload_n hx hb dX4_knotByLowestState_48 rfl (lv_at hl 2 rfl) ?_
            refine lv_iload_n hx hb dX4_knotByLowestState_49 rfl (lv_at hl 1 rfl) ?_
            refine lv_icmp_ne (tgt := 63) hx hb dX4_knotByLowestState_50 (by decide) (fun c_50 => ?_) (fun c_50 => ?_)
            · have h := ox_f c_50 h
              refine lv_iinc (v := v2_4 + 1) (lv' := [(2, .int (v2_4 + 1)), (0, .ref (ad 0)), (1, .int a1), (3, .int v3_4)]) hx hb dX4_knotByLowestState_63 hl (k := 2) rfl rfl (by decide) rfl (fun ls hl => ?_)
              refine lv_iinc (v := v3_4 + 1) (lv' := [(3, .int (v3_4 + 1)), (2, .int (v2_4 + 1)), (0, .ref (ad 0)), (1, .int a1)]) hx hb dX4_knotByLowestState_66 hl (k := 3) rfl rfl (by decide) rfl (fun ls hl => ?_)
              refine lv_goto (tgt := 4) hx hb dX4_knotByLowestState_69 (by decide) ?_
              obtain rfl := Option.some.inj h
              exact ih_4 (v2_4 + 1) (v3_4 + 1) H locs ls hlp_4 hP hD hS (lv_sub hl [2, 3, 1, 0] rfl)
            · have h := ox_t c_50 h
              refine lv_aload_n hx hb dX4_knotByLowestState_53 rfl (lv_at hl 0 rfl) ?_
              refine va_get (D := D) (ci := 4) (v := .ref (ad 3)) (C := RX4) (T := TX4) (N := 6) hx hb hts hiX4 hown hK hP 0 rfl rfl 3 (by decide) hk2 (fun _ h9 => h9) rfl dX4_knotByLowestState_54 ?_
              refine va_get (D := D) (ci := 1) (v := .ref (ad 20)) (C := RX1) (T := TX1) (N := 13) hx hb hts hiX1 hown hK hP 2 rfl rfl 2 (by decide) hk6 (fun _ h9 => h9) rfl dX4_knotByLowestState_57 ?_
              refine lv_iload_n hx hb dX4_knotByLowestState_60 rfl (lv_at hl 3 rfl) ?_
              obtain ⟨hi_61, h⟩ := ox_i_of h
              refine va_iald hx hb hK hP 5 0 rfl rfl hi_61 dX4_knotByLowestState_61 ?_
              have h := Option.some.inj h
              subst h
              have hlp_4 : _ = ex_4 := hlp_4
              subst hlp_4
              have h_4 := Option.some.inj h_4
              subst h_4
              exact hend H locs _ ls hP hD hS dX4_knotByLowestState_62 trivial
  exact hL_4 1000000 0 0 H locs ls hex_4 hP hD hS (lv_sub hl [2, 3, 1, 0] rfl)
set_option maxHeartbeats 4000000 in
set_option maxRecDepth 100000 in
theorem c_X4_stateOfKnot (l : Launch) (D : va_G) (cI cZ : ClassId) (ad : Nat → Nat) (G_states : Int32) (G_moves : Int32) (G_ends : Int32) (K_found : Int32) (K_closed : Int32) (K_entries : Int32) (K_depth : Int32) (K_opened : Int32) (K_chosen : Nat → Int32) (K_knotOf : Nat → Int32) (a1 : Int32) (a2 : Int32) (res : Int32) (h : fn_X4_stateOfKnot G_states K_chosen K_knotOf a1 a2 = some res) : mc_C l yX4_stateOfKnot wv_X4_stateOfKnot { frames := 0, cells := 0, slots := 0, locals := 0 } D [(cI, .int), (cZ, .boolean)] [.ref (ad 0), .int a1, .int a2] [(kF ad), (kG ad G_states G_moves G_ends), (kK ad K_found K_closed K_entries K_depth K_opened), (kZ cZ (ad 19) 200 K_chosen), (kI cI (ad 20) 200 K_knotOf)] (some (.int res)) [(kF ad), (kG ad G_states G_moves G_ends), (kK ad K_found K_closed K_entries K_depth K_opened), (kZ cZ (ad 19) 200 K_chosen), (kI cI (ad 20) 200 K_knotOf)] := by
  refine mc_ofi (own := RX4) (by decide) rfl rfl (Nat.le_of_ble_eq_true rfl) ?_
  intro p e s m below meth c A Q ls hx hb hml hown hts hK hP hD hA hl hend
  have hS : va_S A s.heap s.heap [] := va_S.rf
  have hl : lv_has ls 5 [(0, .ref (ad 0)), (1, .int a1), (2, .int a2)] := hl
  obtain ⟨H, hH⟩ : ∃ H, H = s.heap := ⟨_, rfl⟩
  obtain ⟨locs, hlo⟩ : ∃ locs : List Loc, locs = [] := ⟨_, rfl⟩
  have hS : va_S A s.heap H locs := by rw [hH, hlo]; exact hS
  have hP : va_P D vwCl [(kF ad), (kG ad G_states G_moves G_ends), (kK ad K_found K_closed K_entries K_depth K_opened), (kZ cZ (ad 19) 200 K_chosen), (kI cI (ad 20) 200 K_knotOf)] H := by rw [hH]; exact hP
  suffices h9 : W p l e { frames := 0, cells := 0, slots := 0, locals := 0 } s m ([.ref (ad 0), .int a1, .int a2] : List Value).toArray below meth c H locs 0 0 Q (F0 m 0 ls []) by rw [hH, hlo] at h9; exact h9
  clear hH hlo
  have hiX0 : ∀ w ∈ wsX00, w ∈ wv_X4_stateOfKnot := fun w h => List.mem_cons_of_mem _ (inlX0 w h)
  have hiX1 : ∀ w ∈ wsX10, w ∈ wv_X4_stateOfKnot := fun w h => List.mem_cons_of_mem _ (inlX1 w h)
  have hiX4 : ∀ w ∈ wsX40, w ∈ wv_X4_stateOfKnot := fun w h => List.mem_cons_of_mem _ (inlX4 w h)
  have hk0 := hts (.fieldLink RX4 10 "FairLoops" "graph" "LFairLoops$Graph;") (List.mem_cons_of_mem _ wk_16)
  have hk1 := hts (.fieldLink RX4 51 "FairLoops$Graph" "states" "I") (List.mem_cons_of_mem _ wk_108)
  have hk2 := hts (.fieldLink RX4 30 "FairLoops" "knots" "LFairLoops$Knots;") (List.mem_cons_of_mem _ wk_26)
  have hk3 := hts (.fieldLink RX4 138 "FairLoops$Knots" "chosen" "[Z") (List.mem_cons_of_mem _ wk_219)
  have hk4 := hts (.fieldLink RX4 188 "FairLoops$Knots" "knotOf" "[I") (List.mem_cons_of_mem _ wk_301)
  refine lv_iconst (v := 0) hx hb dX4_stateOfKnot_0 (by decide) ?_
  refine lv_istore_n (lv' := [(3, .int 0), (0, .ref (ad 0)), (1, .int a1), (2, .int a2)]) hx hb dX4_stateOfKnot_1 rfl hl (by decide) rfl (fun ls hl => ?_)
  refine lv_iconst (v := 0) hx hb dX4_stateOfKnot_2 (by decide) ?_
  refine lv_istore (lv' := [(4, .int 0), (3, .int 0), (0, .ref (ad 0)), (1, .int a1), (2, .int a2)]) hx hb dX4_stateOfKnot_3 hl (by decide) rfl (fun ls hl => ?_)
  obtain ⟨ex_5, hex_5, h_5⟩ := ox_b_of h
  have hX_5 : ∀ (v3_5 : Int32) (v4_5 : Int32) (H : Heap) (locs : List Loc) (ls : Array Slot), Sum.inl (v3_5, v4_5) = ex_5 → va_P D vwCl [(kF ad), (kG ad G_states G_moves G_ends), (kK ad K_found K_closed K_entries K_depth K_opened), (kZ cZ (ad 19) 200 K_chosen), (kI cI (ad 20) 200 K_knotOf)] H → va_D A [(kF ad), (kG ad G_states G_moves G_ends), (kK ad K_found K_closed K_entries K_depth K_opened), (kZ cZ (ad 19) 200 K_chosen), (kI cI (ad 20) 200 K_knotOf)] → va_S A s.heap H locs → lv_has ls 5 [] → W p l e { frames := 0, cells := 0, slots := 0, locals := 0 } s m ([.ref (ad 0), .int a1, .int a2] : List Value).toArray below meth c H locs 0 0 Q (F0 m 61 ls []) := by
    intro v3_5 v4_5 H locs ls hex_5 hP hD hS hl
    subst hex_5
    have h := h_5
    refine lv_iconst (v := (-1)) hx hb dX4_stateOfKnot_61 (by decide) ?_
    have h := Option.some.inj h
    subst h
    exact hend H locs _ ls hP hD hS dX4_stateOfKnot_62 trivial
  have hL_5 : ∀ (n : Nat) (v3_5 : Int32) (v4_5 : Int32) (H : Heap) (locs : List Loc) (ls : Array Slot), ox_l (fn_X4_stateOfKnot_l5 G_states K_chosen K_knotOf a1 a2) n (v3_5, v4_5) = some ex_5 → va_P D vwCl [(kF ad), (kG ad G_states G_moves G_ends), (kK ad K_found K_closed K_entries K_depth K_opened), (kZ cZ (ad 19) 200 K_chosen), (kI cI (ad 20) 200 K_knotOf)] H → va_D A [(kF ad), (kG ad G_states G_moves G_ends), (kK ad K_found K_closed K_entries K_depth K_opened), (kZ cZ (ad 19) 200 K_chosen), (kI cI (ad 20) 200 K_knotOf)] → va_S A s.heap H locs → lv_has ls 5 [(0, .ref (ad 0)), (1, .int a1), (2, .int a2), (3, .int v3_5), (4, .int v4_5)] → W p l e { frames := 0, cells := 0, slots := 0, locals := 0 } s m ([.ref (ad 0), .int a1, .int a2] : List Value).toArray below meth c H locs 0 0 Q (F0 m 5 ls []) := by
    intro n
    induction n with
    | zero => intro v3_5 v4_5 H locs ls hlp; exact ox_l_0 hlp
    | succ n ih_5 =>
      intro v3_5 v4_5 H locs ls hlp_5 hP hD hS hl
      obtain ⟨z_5, h, hlp_5⟩ := ox_l_of hlp_5
      refine lv_iload hx hb dX4_stateOfKnot_5 (lv_at hl 4 rfl) ?_
      refine lv_aload_n hx hb dX4_stateOfKnot_7 rfl (lv_at hl 0 rfl) ?_
      refine va_get (D := D) (ci := 4) (v := .ref (ad 1)) (C := RX4) (T := TX4) (N := 6) hx hb hts hiX4 hown hK hP 0 rfl rfl 0 (by decide) hk0 (fun _ h9 => h9) rfl dX4_stateOfKnot_8 ?_
      refine va_get (D := D) (ci := 0) (v := .int G_states) (C := RX0) (T := TX0) (N := 11) hx hb hts hiX0 hown hK hP 1 rfl rfl 0 (by decide) hk1 (fun _ h9 => h9) rfl dX4_stateOfKnot_11 ?_
      refine lv_icmp_ge (tgt := 61) hx hb dX4_stateOfKnot_14 (by decide) (fun c_14 => ?_) (fun c_14 => ?_)
      · have h := ox_t c_14 h
        obtain rfl := Option.some.inj h
        exact hX_5 v3_5 v4_5 H locs ls hlp_5 hP hD hS (lv_sub hl [] rfl)
      · have h := ox_f c_14 h
        refine lv_aload_n hx hb dX4_stateOfKnot_17 rfl (lv_at hl 0 rfl) ?_
        refine va_get (D := D) (ci := 4) (v := .ref (ad 3)) (C := RX4) (T := TX4) (N := 6) hx hb hts hiX4 hown hK hP 0 rfl rfl 3 (by decide) hk2 (fun _ h9 => h9) rfl dX4_stateOfKnot_18 ?_
        refine va_get (D := D) (ci := 1) (v := .ref (ad 19)) (C := RX1) (T := TX1) (N := 13) hx hb hts hiX1 hown hK hP 2 rfl rfl 0 (by decide) hk3 (fun _ h9 => h9) rfl dX4_stateOfKnot_21 ?_
        refine lv_iload hx hb dX4_stateOfKnot_24 (lv_at hl 4 rfl) ?_
        obtain ⟨hi_26, h⟩ := ox_i_of h
        refine va_zald hx hb hK hP 3 1 rfl rfl hi_26 dX4_stateOfKnot_26 ?_
        refine lv_if_eq (tgt := 55) hx hb dX4_stateOfKnot_27 (by decide) (fun c_27 => ?_) (fun c_27 => ?_)
        · have h := ox_t c_27 h
          refine lv_iinc (v := v4_5 + 1) (lv' := [(4, .int (v4_5 + 1)), (0, .ref (ad 0)), (1, .int a1), (2, .int a2), (3, .int v3_5)]) hx hb dX4_stateOfKnot_55 hl (k := 4) rfl rfl (by decide) rfl (fun ls hl => ?_)
          refine lv_goto (tgt := 5) hx hb dX4_stateOfKnot_58 (by decide) ?_
          obtain rfl := Option.some.inj h
          exact ih_5 v3_5 (v4_5 + 1) H locs ls hlp_5 hP hD hS (lv_sub hl [1, 2, 3, 4, 0] rfl)
        · have h := ox_f c_27 h
          refine lv_aload_n hx hb dX4_stateOfKnot_30 rfl (lv_at hl 0 rfl) ?_
          refine va_get (D := D) (ci := 4) (v := .ref (ad 3)) (C := RX4) (T := TX4) (N := 6) hx hb hts hiX4 hown hK hP 0 rfl rfl 3 (by decide) hk2 (fun _ h9 => h9) rfl dX4_stateOfKnot_31 ?_
          refine va_get (D := D) (ci := 1) (v := .ref (ad 20)) (C := RX1) (T := TX1) (N := 13) hx hb hts hiX1 hown hK hP 2 rfl rfl 2 (by decide) hk4 (fun _ h9 => h9) rfl dX4_stateOfKnot_34 ?_
          refine lv_iload hx hb dX4_stateOfKnot_37 (lv_at hl 4 rfl) ?_
          obtain ⟨hi_39, h⟩ := ox_i_of h
          refine va_iald hx hb hK hP 4 0 rfl rfl hi_39 dX4_stateOfKnot_39 ?_
          refine lv_iload_n hx hb dX4_stateOfKnot_40 rfl (lv_at hl 1 rfl) ?_
          refine lv_icmp_ne (tgt := 55) hx hb dX4_stateOfKnot_41 (by decide) (fun c_41 => ?_) (fun c_41 => ?_)
          · have h := ox_f c_41 h
            refine lv_iinc (v := v4_5 + 1) (lv' := [(4, .int (v4_5 + 1)), (0, .ref (ad 0)), (1, .int a1), (2, .int a2), (3, .int v3_5)]) hx hb dX4_stateOfKnot_55 hl (k := 4) rfl rfl (by decide) rfl (fun ls hl => ?_)
            refine lv_goto (tgt := 5) hx hb dX4_stateOfKnot_58 (by decide) ?_
            obtain rfl := Option.some.inj h
            exact ih_5 v3_5 (v4_5 + 1) H locs ls hlp_5 hP hD hS (lv_sub hl [1, 2, 3, 4, 0] rfl)
          · have h := ox_t c_41 h
            refine lv_iload_n hx hb dX4_stateOfKnot_44 rfl (lv_at hl 3 rfl) ?_
            refine lv_iload_n hx hb dX4_stateOfKnot_45 rfl (lv_at hl 2 rfl) ?_
            refine lv_icmp_ne (tgt := 52) hx hb dX4_stateOfKnot_46 (by decide) (fun c_46 => ?_) (fun c_46 => ?_)
            · have h := ox_f c_46 h
              refine lv_iinc (v := v3_5 + 1) (lv' := [(3, .int (v3_5 + 1)), (0, .ref (ad 0)), (1, .int a1), (2, .int a2), (4, .int v4_5)]) hx hb dX4_stateOfKnot_52 hl (k := 3) rfl rfl (by decide) rfl (fun ls hl => ?_)
              refine lv_iinc (v := v4_5 + 1) (lv' := [(4, .int (v4_5 + 1)), (3, .int (v3_5 + 1)), (0, .ref (ad 0)), (1, .int a1), (2, .int a2)]) hx hb dX4_stateOfKnot_55 hl (k := 4) rfl rfl (by decide) rfl (fun ls hl => ?_)
              refine lv_goto (tgt := 5) hx hb dX4_stateOfKnot_58 (by decide) ?_
              obtain rfl := Option.some.inj h
              exact ih_5 (v3_5 + 1) (v4_5 + 1) H locs ls hlp_5 hP hD hS (lv_sub hl [2, 3, 4, 1, 0] rfl)
            · have h := ox_t c_46 h
              refine lv_iload hx hb dX4_stateOfKnot_49 (lv_at hl 4 rfl) ?_
              have h := Option.some.inj h
              subst h
              have hlp_5 : _ = ex_5 := hlp_5
              subst hlp_5
              have h_5 := Option.some.inj h_5
              subst h_5
              exact hend H locs _ ls hP hD hS dX4_stateOfKnot_51 trivial
  exact hL_5 1000000 0 0 H locs ls hex_5 hP hD hS (lv_sub hl [2, 3, 4, 1, 0] rfl)
set_option maxHeartbeats 4000000 in
set_option maxRecDepth 100000 in
theorem c_X4_rankAbove (l : Launch) (D : va_G) (cI cZ : ClassId) (ad : Nat → Nat) (G_states : Int32) (G_moves : Int32) (G_ends : Int32) (K_found : Int32) (K_closed : Int32) (K_entries : Int32) (K_depth : Int32) (K_opened : Int32) (F_ranks : Nat → Int32) (G_to : Nat → Int32) (G_out : Nat → Int32) (G_start : Nat → Int32) (K_chosen : Nat → Int32) (a1 : Int32) (res : Int32) (h : fn_X4_rankAbove F_ranks G_to G_out G_start K_chosen a1 = some res) : mc_C l yX4_rankAbove wv_X4_rankAbove { frames := 0, cells := 0, slots := 0, locals := 0 } D [(cI, .int), (cZ, .boolean)] [.ref (ad 0), .int a1] [(kF ad), (kG ad G_states G_moves G_ends), (kK ad K_found K_closed K_entries K_depth K_opened), (kI cI (ad 7) 200 F_ranks), (kI cI (ad 12) 600 G_to), (kI cI (ad 14) 600 G_out), (kI cI (ad 15) 201 G_start), (kZ cZ (ad 19) 200 K_chosen)] (some (.int res)) [(kF ad), (kG ad G_states G_moves G_ends), (kK ad K_found K_closed K_entries K_depth K_opened), (kI cI (ad 7) 200 F_ranks), (kI cI (ad 12) 600 G_to), (kI cI (ad 14) 600 G_out), (kI cI (ad 15) 201 G_start), (kZ cZ (ad 19) 200 K_chosen)] := by
  refine mc_ofi (own := RX4) (by decide) rfl rfl (Nat.le_of_ble_eq_true rfl) ?_
  intro p e s m below meth c A Q ls hx hb hml hown hts hK hP hD hA hl hend
  have hS : va_S A s.heap s.heap [] := va_S.rf
  have hl : lv_has ls 5 [(0, .ref (ad 0)), (1, .int a1)] := hl
  obtain ⟨H, hH⟩ : ∃ H, H = s.heap := ⟨_, rfl⟩
  obtain ⟨locs, hlo⟩ : ∃ locs : List Loc, locs = [] := ⟨_, rfl⟩
  have hS : va_S A s.heap H locs := by rw [hH, hlo]; exact hS
  have hP : va_P D vwCl [(kF ad), (kG ad G_states G_moves G_ends), (kK ad K_found K_closed K_entries K_depth K_opened), (kI cI (ad 7) 200 F_ranks), (kI cI (ad 12) 600 G_to), (kI cI (ad 14) 600 G_out), (kI cI (ad 15) 201 G_start), (kZ cZ (ad 19) 200 K_chosen)] H := by rw [hH]; exact hP
  suffices h9 : W p l e { frames := 0, cells := 0, slots := 0, locals := 0 } s m ([.ref (ad 0), .int a1] : List Value).toArray below meth c H locs 0 0 Q (F0 m 0 ls []) by rw [hH, hlo] at h9; exact h9
  clear hH hlo
  have hiX0 : ∀ w ∈ wsX00, w ∈ wv_X4_rankAbove := fun w h => List.mem_cons_of_mem _ (inlX0 w h)
  have hiX1 : ∀ w ∈ wsX10, w ∈ wv_X4_rankAbove := fun w h => List.mem_cons_of_mem _ (inlX1 w h)
  have hiX4 : ∀ w ∈ wsX40, w ∈ wv_X4_rankAbove := fun w h => List.mem_cons_of_mem _ (inlX4 w h)
  have hk0 := hts (.fieldLink RX4 10 "FairLoops" "graph" "LFairLoops$Graph;") (List.mem_cons_of_mem _ wk_16)
  have hk1 := hts (.fieldLink RX4 218 "FairLoops$Graph" "start" "[I") (List.mem_cons_of_mem _ wk_435)
  have hk2 := hts (.fieldLink RX4 221 "FairLoops$Graph" "to" "[I") (List.mem_cons_of_mem _ wk_436)
  have hk3 := hts (.fieldLink RX4 224 "FairLoops$Graph" "out" "[I") (List.mem_cons_of_mem _ wk_437)
  have hk4 := hts (.fieldLink RX4 30 "FairLoops" "knots" "LFairLoops$Knots;") (List.mem_cons_of_mem _ wk_26)
  have hk5 := hts (.fieldLink RX4 138 "FairLoops$Knots" "chosen" "[Z") (List.mem_cons_of_mem _ wk_219)
  have hk6 := hts (.fieldLink RX4 41 "FairLoops" "ranks" "[I") (List.mem_cons_of_mem _ wk_31)
  refine lv_iconst (v := 0) hx hb dX4_rankAbove_0 (by decide) ?_
  refine lv_istore_n (lv' := [(2, .int 0), (0, .ref (ad 0)), (1, .int a1)]) hx hb dX4_rankAbove_1 rfl hl (by decide) rfl (fun ls hl => ?_)
  refine lv_aload_n hx hb dX4_rankAbove_2 rfl (lv_at hl 1 rfl) ?_
  refine va_get (D := D) (ci := 4) (v := .ref (ad 1)) (C := RX4) (T := TX4) (N := 6) hx hb hts hiX4 hown hK hP 0 rfl rfl 0 (by decide) hk0 (fun _ h9 => h9) rfl dX4_rankAbove_3 ?_
  refine va_get (D := D) (ci := 0) (v := .ref (ad 15)) (C := RX0) (T := TX0) (N := 11) hx hb hts hiX0 hown hK hP 1 rfl rfl 10 (by decide) hk1 (fun _ h9 => h9) rfl dX4_rankAbove_6 ?_
  refine lv_iload_n hx hb dX4_rankAbove_9 rfl (lv_at hl 2 rfl) ?_
  obtain ⟨hi_10, h⟩ := ox_i_of h
  refine va_iald hx hb hK hP 6 0 rfl rfl hi_10 dX4_rankAbove_10 ?_
  refine lv_istore_n (lv' := [(3, .int (G_start a1.toNatClampNeg)), (2, .int 0), (0, .ref (ad 0)), (1, .int a1)]) hx hb dX4_rankAbove_11 rfl hl (by decide) rfl (fun ls hl => ?_)
  obtain ⟨ex_12, hex_12, h_12⟩ := ox_b_of h
  have hX_12 : ∀ (v2_12 : Int32) (v3_12 : Int32) (H : Heap) (locs : List Loc) (ls : Array Slot), (v2_12, v3_12) = ex_12 → va_P D vwCl [(kF ad), (kG ad G_states G_moves G_ends), (kK ad K_found K_closed K_entries K_depth K_opened), (kI cI (ad 7) 200 F_ranks), (kI cI (ad 12) 600 G_to), (kI cI (ad 14) 600 G_out), (kI cI (ad 15) 201 G_start), (kZ cZ (ad 19) 200 K_chosen)] H → va_D A [(kF ad), (kG ad G_states G_moves G_ends), (kK ad K_found K_closed K_entries K_depth K_opened), (kI cI (ad 7) 200 F_ranks), (kI cI (ad 12) 600 G_to), (kI cI (ad 14) 600 G_out), (kI cI (ad 15) 201 G_start), (kZ cZ (ad 19) 200 K_chosen)] → va_S A s.heap H locs → lv_has ls 5 [(2, .int v2_12)] → W p l e { frames := 0, cells := 0, slots := 0, locals := 0 } s m ([.ref (ad 0), .int a1] : List Value).toArray below meth c H locs 0 0 Q (F0 m 86 ls []) := by
    intro v2_12 v3_12 H locs ls hex_12 hP hD hS hl
    subst hex_12
    have h := h_12
    refine lv_iload_n hx hb dX4_rankAbove_86 rfl (lv_at hl 0 rfl) ?_
    have h := Option.some.inj h
    subst h
    exact hend H locs _ ls hP hD hS dX4_rankAbove_87 trivial
  have hL_12 : ∀ (n : Nat) (v2_12 : Int32) (v3_12 : Int32) (H : Heap) (locs : List Loc) (ls : Array Slot), ox_l (fn_X4_rankAbove_l12 a1 G_start G_out G_to K_chosen F_ranks) n (v2_12, v3_12) = some ex_12 → va_P D vwCl [(kF ad), (kG ad G_states G_moves G_ends), (kK ad K_found K_closed K_entries K_depth K_opened), (kI cI (ad 7) 200 F_ranks), (kI cI (ad 12) 600 G_to), (kI cI (ad 14) 600 G_out), (kI cI (ad 15) 201 G_start), (kZ cZ (ad 19) 200 K_chosen)] H → va_D A [(kF ad), (kG ad G_states G_moves G_ends), (kK ad K_found K_closed K_entries K_depth K_opened), (kI cI (ad 7) 200 F_ranks), (kI cI (ad 12) 600 G_to), (kI cI (ad 14) 600 G_out), (kI cI (ad 15) 201 G_start), (kZ cZ (ad 19) 200 K_chosen)] → va_S A s.heap H locs → lv_has ls 5 [(0, .ref (ad 0)), (1, .int a1), (2, .int v2_12), (3, .int v3_12)] → W p l e { frames := 0, cells := 0, slots := 0, locals := 0 } s m ([.ref (ad 0), .int a1] : List Value).toArray below meth c H locs 0 0 Q (F0 m 12 ls []) := by
    intro n
    induction n with
    | zero => intro v2_12 v3_12 H locs ls hlp; exact ox_l_0 hlp
    | succ n ih_12 =>
      intro v2_12 v3_12 H locs ls hlp_12 hP hD hS hl
      obtain ⟨z_12, h, hlp_12⟩ := ox_l_of hlp_12
      refine lv_iload_n hx hb dX4_rankAbove_12 rfl (lv_at hl 3 rfl) ?_
      refine lv_aload_n hx hb dX4_rankAbove_13 rfl (lv_at hl 0 rfl) ?_
      refine va_get (D := D) (ci := 4) (v := .ref (ad 1)) (C := RX4) (T := TX4) (N := 6) hx hb hts hiX4 hown hK hP 0 rfl rfl 0 (by decide) hk0 (fun _ h9 => h9) rfl dX4_rankAbove_14 ?_
      refine va_get (D := D) (ci := 0) (v := .ref (ad 15)) (C := RX0) (T := TX0) (N := 11) hx hb hts hiX0 hown hK hP 1 rfl rfl 10 (by decide) hk1 (fun _ h9 => h9) rfl dX4_rankAbove_17 ?_
      refine lv_iload_n hx hb dX4_rankAbove_20 rfl (lv_at hl 1 rfl) ?_
      refine lv_iconst (v := 1) hx hb dX4_rankAbove_21 (by decide) ?_
      refine lv_iadd hx hb dX4_rankAbove_22 ?_
      obtain ⟨hi_23, h⟩ := ox_i_of h
      refine va_iald hx hb hK hP 6 0 rfl rfl hi_23 dX4_rankAbove_23 ?_
      refine lv_icmp_ge (tgt := 86) hx hb dX4_rankAbove_24 (by decide) (fun c_24 => ?_) (fun c_24 => ?_)
      · have h := ox_t c_24 h
        obtain rfl := Option.some.inj h
        exact hX_12 v2_12 v3_12 H locs ls hlp_12 hP hD hS (lv_sub hl [2] rfl)
      · have h := ox_f c_24 h
        refine lv_aload_n hx hb dX4_rankAbove_27 rfl (lv_at hl 0 rfl) ?_
        refine va_get (D := D) (ci := 4) (v := .ref (ad 1)) (C := RX4) (T := TX4) (N := 6) hx hb hts hiX4 hown hK hP 0 rfl rfl 0 (by decide) hk0 (fun _ h9 => h9) rfl dX4_rankAbove_28 ?_
        refine va_get (D := D) (ci := 0) (v := .ref (ad 12)) (C := RX0) (T := TX0) (N := 11) hx hb hts hiX0 hown hK hP 1 rfl rfl 7 (by decide) hk2 (fun _ h9 => h9) rfl dX4_rankAbove_31 ?_
        refine lv_aload_n hx hb dX4_rankAbove_34 rfl (lv_at hl 0 rfl) ?_
        refine va_get (D := D) (ci := 4) (v := .ref (ad 1)) (C := RX4) (T := TX4) (N := 6) hx hb hts hiX4 hown hK hP 0 rfl rfl 0 (by decide) hk0 (fun _ h9 => h9) rfl dX4_rankAbove_35 ?_
        refine va_get (D := D) (ci := 0) (v := .ref (ad 14)) (C := RX0) (T := TX0) (N := 11) hx hb hts hiX0 hown hK hP 1 rfl rfl 9 (by decide) hk3 (fun _ h9 => h9) rfl dX4_rankAbove_38 ?_
        refine lv_iload_n hx hb dX4_rankAbove_41 rfl (lv_at hl 3 rfl) ?_
        obtain ⟨hi_42, h⟩ := ox_i_of h
        refine va_iald hx hb hK hP 5 0 rfl rfl hi_42 dX4_rankAbove_42 ?_
        obtain ⟨hi_43, h⟩ := ox_i_of h
        refine va_iald hx hb hK hP 4 0 rfl rfl hi_43 dX4_rankAbove_43 ?_
        refine lv_istore (lv' := [(4, .int (G_to (G_out v3_12.toNatClampNeg).toNatClampNeg)), (0, .ref (ad 0)), (1, .int a1), (2, .int v2_12), (3, .int v3_12)]) hx hb dX4_rankAbove_44 hl (by decide) rfl (fun ls hl => ?_)
        refine lv_aload_n hx hb dX4_rankAbove_46 rfl (lv_at hl 1 rfl) ?_
        refine va_get (D := D) (ci := 4) (v := .ref (ad 3)) (C := RX4) (T := TX4) (N := 6) hx hb hts hiX4 hown hK hP 0 rfl rfl 3 (by decide) hk4 (fun _ h9 => h9) rfl dX4_rankAbove_47 ?_
        refine va_get (D := D) (ci := 1) (v := .ref (ad 19)) (C := RX1) (T := TX1) (N := 13) hx hb hts hiX1 hown hK hP 2 rfl rfl 0 (by decide) hk5 (fun _ h9 => h9) rfl dX4_rankAbove_50 ?_
        refine lv_iload hx hb dX4_rankAbove_53 (lv_at hl 0 rfl) ?_
        obtain ⟨hi_55, h⟩ := ox_i_of h
        refine va_zald hx hb hK hP 7 1 rfl rfl hi_55 dX4_rankAbove_55 ?_
        refine lv_if_eq (tgt := 80) hx hb dX4_rankAbove_56 (by decide) (fun c_56 => ?_) (fun c_56 => ?_)
        · have h := ox_t c_56 h
          refine lv_iinc (v := v3_12 + 1) (lv' := [(3, .int (v3_12 + 1)), (4, .int (G_to (G_out v3_12.toNatClampNeg).toNatClampNeg)), (0, .ref (ad 0)), (1, .int a1), (2, .int v2_12)]) hx hb dX4_rankAbove_80 hl (k := 4) rfl rfl (by decide) rfl (fun ls hl => ?_)
          refine lv_goto (tgt := 12) hx hb dX4_rankAbove_83 (by decide) ?_
          obtain rfl := Option.some.inj h
          exact ih_12 v2_12 (v3_12 + 1) H locs ls hlp_12 hP hD hS (lv_sub hl [2, 3, 4, 0] rfl)
        · have h := ox_f c_56 h
          refine lv_aload_n hx hb dX4_rankAbove_59 rfl (lv_at hl 1 rfl) ?_
          refine va_get (D := D) (ci := 4) (v := .ref (ad 7)) (C := RX4) (T := TX4) (N := 6) hx hb hts hiX4 hown hK hP 0 rfl rfl 5 (by decide) hk6 (fun _ h9 => h9) rfl dX4_rankAbove_60 ?_
          refine lv_iload hx hb dX4_rankAbove_63 (lv_at hl 0 rfl) ?_
          obtain ⟨hi_65, h⟩ := ox_i_of h
          refine va_iald hx hb hK hP 3 0 rfl rfl hi_65 dX4_rankAbove_65 ?_
          refine lv_iload_n hx hb dX4_rankAbove_66 rfl (lv_at hl 3 rfl) ?_
          refine lv_icmp_lt (tgt := 80) hx hb dX4_rankAbove_67 (by decide) (fun c_67 => ?_) (fun c_67 => ?_)
          · have h := ox_t c_67 h
            refine lv_iinc (v := v3_12 + 1) (lv' := [(3, .int (v3_12 + 1)), (4, .int (G_to (G_out v3_12.toNatClampNeg).toNatClampNeg)), (0, .ref (ad 0)), (1, .int a1), (2, .int v2_12)]) hx hb dX4_rankAbove_80 hl (k := 4) rfl rfl (by decide) rfl (fun ls hl => ?_)
            refine lv_goto (tgt := 12) hx hb dX4_rankAbove_83 (by decide) ?_
            obtain rfl := Option.some.inj h
            exact ih_12 v2_12 (v3_12 + 1) H locs ls hlp_12 hP hD hS (lv_sub hl [2, 3, 4, 0] rfl)
          · have h := ox_f c_67 h
            refine lv_aload_n hx hb dX4_rankAbove_70 rfl (lv_at hl 1 rfl) ?_
            refine va_get (D := D) (ci := 4) (v := .ref (ad 7)) (C := RX4) (T := TX4) (N := 6) hx hb hts hiX4 hown hK hP 0 rfl rfl 5 (by decide) hk6 (fun _ h9 => h9) rfl dX4_rankAbove_71 ?_
            refine lv_iload hx hb dX4_rankAbove_74 (lv_at hl 0 rfl) ?_
            obtain ⟨hi_76, h⟩ := ox_i_of h
            refine va_iald hx hb hK hP 3 0 rfl rfl hi_76 dX4_rankAbove_76 ?_
            refine lv_iconst (v := 1) hx hb dX4_rankAbove_77 (by decide) ?_
            refine lv_iadd hx hb dX4_rankAbove_78 ?_
            refine lv_istore_n (lv' := [(2, .int ((F_ranks (G_to (G_out v3_12.toNatClampNeg).toNatClampNeg).toNatClampNeg) + 1)), (4, .int (G_to (G_out v3_12.toNatClampNeg).toNatClampNeg)), (0, .ref (ad 0)), (1, .int a1), (3, .int v3_12)]) hx hb dX4_rankAbove_79 rfl hl (by decide) rfl (fun ls hl => ?_)
            refine lv_iinc (v := v3_12 + 1) (lv' := [(3, .int (v3_12 + 1)), (2, .int ((F_ranks (G_to (G_out v3_12.toNatClampNeg).toNatClampNeg).toNatClampNeg) + 1)), (4, .int (G_to (G_out v3_12.toNatClampNeg).toNatClampNeg)), (0, .ref (ad 0)), (1, .int a1)]) hx hb dX4_rankAbove_80 hl (k := 4) rfl rfl (by decide) rfl (fun ls hl => ?_)
            refine lv_goto (tgt := 12) hx hb dX4_rankAbove_83 (by decide) ?_
            obtain rfl := Option.some.inj h
            exact ih_12 ((F_ranks (G_to (G_out v3_12.toNatClampNeg).toNatClampNeg).toNatClampNeg) + 1) (v3_12 + 1) H locs ls hlp_12 hP hD hS (lv_sub hl [3, 4, 1, 0] rfl)
  exact hL_12 1000000 0 (G_start a1.toNatClampNeg) H locs ls hex_12 hP hD hS (lv_sub hl [2, 3, 1, 0] rfl)
set_option maxHeartbeats 4000000 in
set_option maxRecDepth 100000 in
theorem c_X4_fillRanks (l : Launch) (D : va_G) (cI cZ : ClassId) (ad : Nat → Nat) (G_states : Int32) (G_moves : Int32) (G_ends : Int32) (K_found : Int32) (K_closed : Int32) (K_entries : Int32) (K_depth : Int32) (K_opened : Int32) (F_ranks : Nat → Int32) (G_to : Nat → Int32) (G_out : Nat → Int32) (G_start : Nat → Int32) (K_chosen : Nat → Int32) (K_order : Nat → Int32) (res : Int32 × (Nat → Int32)) (h : fn_X4_fillRanks K_closed F_ranks G_to G_out G_start K_chosen K_order = some res) : mc_C l yX4_fillRanks wv_X4_fillRanks { frames := 1, cells := 0, slots := 0, locals := 24 } D [(cI, .int), (cZ, .boolean)] [.ref (ad 0)] [(kF ad), (kG ad G_states G_moves G_ends), (kK ad K_found K_closed K_entries K_depth K_opened), (kI cI (ad 7) 200 F_ranks), (kI cI (ad 12) 600 G_to), (kI cI (ad 14) 600 G_out), (kI cI (ad 15) 201 G_start), (kZ cZ (ad 19) 200 K_chosen), (kI cI (ad 21) 200 K_order)] (some (.int res.1)) [(kF ad), (kG ad G_states G_moves G_ends), (kK ad K_found K_closed K_entries K_depth K_opened), (kI cI (ad 7) 200 res.2), (kI cI (ad 12) 600 G_to), (kI cI (ad 14) 600 G_out), (kI cI (ad 15) 201 G_start), (kZ cZ (ad 19) 200 K_chosen), (kI cI (ad 21) 200 K_order)] := by
  refine mc_ofi (own := RX4) (by decide) rfl rfl (Nat.le_of_ble_eq_true rfl) ?_
  intro p e s m below meth c A Q ls hx hb hml hown hts hK hP hD hA hl hend
  have hS : va_S A s.heap s.heap [] := va_S.rf
  have hl : lv_has ls 4 [(0, .ref (ad 0))] := hl
  obtain ⟨H, hH⟩ : ∃ H, H = s.heap := ⟨_, rfl⟩
  obtain ⟨locs, hlo⟩ : ∃ locs : List Loc, locs = [] := ⟨_, rfl⟩
  have hS : va_S A s.heap H locs := by rw [hH, hlo]; exact hS
  have hP : va_P D vwCl [(kF ad), (kG ad G_states G_moves G_ends), (kK ad K_found K_closed K_entries K_depth K_opened), (kI cI (ad 7) 200 F_ranks), (kI cI (ad 12) 600 G_to), (kI cI (ad 14) 600 G_out), (kI cI (ad 15) 201 G_start), (kZ cZ (ad 19) 200 K_chosen), (kI cI (ad 21) 200 K_order)] H := by rw [hH]; exact hP
  suffices h9 : W p l e { frames := 1, cells := 0, slots := 0, locals := 24 } s m ([.ref (ad 0)] : List Value).toArray below meth c H locs 0 0 Q (F0 m 0 ls []) by rw [hH, hlo] at h9; exact h9
  clear hH hlo
  have hiX1 : ∀ w ∈ wsX10, w ∈ wv_X4_fillRanks := fun w h => List.mem_cons_of_mem _ (inlX1 w h)
  have hiX4 : ∀ w ∈ wsX40, w ∈ wv_X4_fillRanks := fun w h => List.mem_cons_of_mem _ (inlX4 w h)
  have hk0 := hts (.fieldLink RX4 30 "FairLoops" "knots" "LFairLoops$Knots;") (List.mem_cons_of_mem _ wk_26)
  have hk1 := hts (.fieldLink RX4 209 "FairLoops$Knots" "closed" "I") (List.mem_cons_of_mem _ wk_429)
  have hk2 := hts (.fieldLink RX4 212 "FairLoops$Knots" "order" "[I") (List.mem_cons_of_mem _ wk_430)
  have hk3 := hts (.fieldLink RX4 41 "FairLoops" "ranks" "[I") (List.mem_cons_of_mem _ wk_31)
  refine lv_iconst (v := 0) hx hb dX4_fillRanks_0 (by decide) ?_
  refine lv_istore_n (lv' := [(1, .int 0), (0, .ref (ad 0))]) hx hb dX4_fillRanks_1 rfl hl (by decide) rfl (fun ls hl => ?_)
  refine lv_iconst (v := 0) hx hb dX4_fillRanks_2 (by decide) ?_
  refine lv_istore_n (lv' := [(2, .int 0), (1, .int 0), (0, .ref (ad 0))]) hx hb dX4_fillRanks_3 rfl hl (by decide) rfl (fun ls hl => ?_)
  obtain ⟨ex_4, hex_4, h_4⟩ := ox_b_of h
  have hX_4 : ∀ (v1_4 : Int32) (v2_4 : Int32) (F_ranks_4 : Nat → Int32) (H : Heap) (locs : List Loc) (ls : Array Slot), (v1_4, v2_4, F_ranks_4) = ex_4 → va_P D vwCl [(kF ad), (kG ad G_states G_moves G_ends), (kK ad K_found K_closed K_entries K_depth K_opened), (kI cI (ad 7) 200 F_ranks_4), (kI cI (ad 12) 600 G_to), (kI cI (ad 14) 600 G_out), (kI cI (ad 15) 201 G_start), (kZ cZ (ad 19) 200 K_chosen), (kI cI (ad 21) 200 K_order)] H → va_D A [(kF ad), (kG ad G_states G_moves G_ends), (kK ad K_found K_closed K_entries K_depth K_opened), (kI cI (ad 7) 200 F_ranks_4), (kI cI (ad 12) 600 G_to), (kI cI (ad 14) 600 G_out), (kI cI (ad 15) 201 G_start), (kZ cZ (ad 19) 200 K_chosen), (kI cI (ad 21) 200 K_order)] → va_S A s.heap H locs → lv_has ls 4 [(1, .int v1_4)] → W p l e { frames := 1, cells := 0, slots := 0, locals := 24 } s m ([.ref (ad 0)] : List Value).toArray below meth c H locs 0 0 Q (F0 m 59 ls []) := by
    intro v1_4 v2_4 F_ranks_4 H locs ls hex_4 hP hD hS hl
    subst hex_4
    have h := h_4
    refine lv_iload_n hx hb dX4_fillRanks_59 rfl (lv_at hl 0 rfl) ?_
    have h := Option.some.inj h
    subst h
    exact hend H locs _ ls hP hD hS dX4_fillRanks_60 trivial
  have hL_4 : ∀ (n : Nat) (v1_4 : Int32) (v2_4 : Int32) (F_ranks_4 : Nat → Int32) (H : Heap) (locs : List Loc) (ls : Array Slot), ox_l (fn_X4_fillRanks_l4 K_closed G_to G_out G_start K_chosen K_order) n (v1_4, v2_4, F_ranks_4) = some ex_4 → va_P D vwCl [(kF ad), (kG ad G_states G_moves G_ends), (kK ad K_found K_closed K_entries K_depth K_opened), (kI cI (ad 7) 200 F_ranks_4), (kI cI (ad 12) 600 G_to), (kI cI (ad 14) 600 G_out), (kI cI (ad 15) 201 G_start), (kZ cZ (ad 19) 200 K_chosen), (kI cI (ad 21) 200 K_order)] H → va_D A [(kF ad), (kG ad G_states G_moves G_ends), (kK ad K_found K_closed K_entries K_depth K_opened), (kI cI (ad 7) 200 F_ranks_4), (kI cI (ad 12) 600 G_to), (kI cI (ad 14) 600 G_out), (kI cI (ad 15) 201 G_start), (kZ cZ (ad 19) 200 K_chosen), (kI cI (ad 21) 200 K_order)] → va_S A s.heap H locs → lv_has ls 4 [(0, .ref (ad 0)), (1, .int v1_4), (2, .int v2_4)] → W p l e { frames := 1, cells := 0, slots := 0, locals := 24 } s m ([.ref (ad 0)] : List Value).toArray below meth c H locs 0 0 Q (F0 m 4 ls []) := by
    intro n
    induction n with
    | zero => intro v1_4 v2_4 F_ranks_4 H locs ls hlp; exact ox_l_0 hlp
    | succ n ih_4 =>
      intro v1_4 v2_4 F_ranks_4 H locs ls hlp_4 hP hD hS hl
      obtain ⟨z_4, h, hlp_4⟩ := ox_l_of hlp_4
      refine lv_iload_n hx hb dX4_fillRanks_4 rfl (lv_at hl 2 rfl) ?_
      refine lv_aload_n hx hb dX4_fillRanks_5 rfl (lv_at hl 0 rfl) ?_
      refine va_get (D := D) (ci := 4) (v := .ref (ad 3)) (C := RX4) (T := TX4) (N := 6) hx hb hts hiX4 hown hK hP 0 rfl rfl 3 (by decide) hk0 (fun _ h9 => h9) rfl dX4_fillRanks_6 ?_
      refine va_get (D := D) (ci := 1) (v := .int K_closed) (C := RX1) (T := TX1) (N := 13) hx hb hts hiX1 hown hK hP 2 rfl rfl 4 (by decide) hk1 (fun _ h9 => h9) rfl dX4_fillRanks_9 ?_
      refine lv_icmp_ge (tgt := 59) hx hb dX4_fillRanks_12 (by decide) (fun c_12 => ?_) (fun c_12 => ?_)
      · have h := ox_t c_12 h
        obtain rfl := Option.some.inj h
        exact hX_4 v1_4 v2_4 F_ranks_4 H locs ls hlp_4 hP hD hS (lv_sub hl [1] rfl)
      · have h := ox_f c_12 h
        refine lv_aload_n hx hb dX4_fillRanks_15 rfl (lv_at hl 0 rfl) ?_
        refine va_get (D := D) (ci := 4) (v := .ref (ad 3)) (C := RX4) (T := TX4) (N := 6) hx hb hts hiX4 hown hK hP 0 rfl rfl 3 (by decide) hk0 (fun _ h9 => h9) rfl dX4_fillRanks_16 ?_
        refine va_get (D := D) (ci := 1) (v := .ref (ad 21)) (C := RX1) (T := TX1) (N := 13) hx hb hts hiX1 hown hK hP 2 rfl rfl 3 (by decide) hk2 (fun _ h9 => h9) rfl dX4_fillRanks_19 ?_
        refine lv_iload_n hx hb dX4_fillRanks_22 rfl (lv_at hl 2 rfl) ?_
        obtain ⟨hi_23, h⟩ := ox_i_of h
        refine va_iald hx hb hK hP 8 0 rfl rfl hi_23 dX4_fillRanks_23 ?_
        refine lv_istore_n (lv' := [(3, .int (K_order v2_4.toNatClampNeg)), (0, .ref (ad 0)), (1, .int v1_4), (2, .int v2_4)]) hx hb dX4_fillRanks_24 rfl hl (by decide) rfl (fun ls hl => ?_)
        refine lv_aload_n hx hb dX4_fillRanks_25 rfl (lv_at hl 1 rfl) ?_
        refine va_get (D := D) (ci := 4) (v := .ref (ad 7)) (C := RX4) (T := TX4) (N := 6) hx hb hts hiX4 hown hK hP 0 rfl rfl 5 (by decide) hk3 (fun _ h9 => h9) rfl dX4_fillRanks_26 ?_
        refine lv_iload_n hx hb dX4_fillRanks_29 rfl (lv_at hl 0 rfl) ?_
        refine lv_aload_n hx hb dX4_fillRanks_30 rfl (lv_at hl 1 rfl) ?_
        refine lv_iload_n hx hb dX4_fillRanks_31 rfl (lv_at hl 0 rfl) ?_
        obtain ⟨r_32, hc_32, h⟩ := ox_b_of h
        refine mc_callV (As := [.int (K_order v2_4.toNatClampNeg)]) (rest := [.int (K_order v2_4.toNatClampNeg), .ref (ad 7)]) (b := ad 0) (Wc := [(kF ad), (kG ad G_states G_moves G_ends), (kK ad K_found K_closed K_entries K_depth K_opened), (kI cI (ad 7) 200 F_ranks_4), (kI cI (ad 12) 600 G_to), (kI cI (ad 14) 600 G_out), (kI cI (ad 15) 201 G_start), (kZ cZ (ad 19) 200 K_chosen)]) (wr := [(kI cI (ad 21) 200 K_order)]) (W1 := [(kF ad), (kG ad G_states G_moves G_ends), (kK ad K_found K_closed K_entries K_depth K_opened), (kI cI (ad 7) 200 F_ranks_4), (kI cI (ad 12) 600 G_to), (kI cI (ad 14) 600 G_out), (kI cI (ad 15) 201 G_start), (kZ cZ (ad 19) 200 K_chosen)]) (wn := [(kF ad), (kG ad G_states G_moves G_ends), (kK ad K_found K_closed K_entries K_depth K_opened), (kI cI (ad 7) 200 F_ranks_4), (kI cI (ad 12) 600 G_to), (kI cI (ad 14) 600 G_out), (kI cI (ad 15) 201 G_start), (kZ cZ (ad 19) 200 K_chosen), (kI cI (ad 21) 200 K_order)]) (rv := some (.int r_32)) ⟨hx, hb, hml, hown, hts⟩ (c_X4_rankAbove l D cI cZ ad G_states G_moves G_ends K_found K_closed K_entries K_depth K_opened F_ranks_4 G_to G_out G_start K_chosen (K_order v2_4.toNatClampNeg) _ hc_32) (cwV 1 hts (gl_V wk_431 wk_432 wk_433 wk_2 wk_434) rfl rfl rfl (by decide +kernel) ⟨Nat.le_of_ble_eq_true rfl, Nat.le_of_ble_eq_true rfl⟩) hK hP hD hS hA 4 0 rfl rfl rfl [0, 1, 2, 3, 4, 5, 6, 7] [8] [1, 2, 3, 4, 5, 6, 7, 8, 0] rfl rfl (by decide) rfl (by decide) (by decide) rfl rfl (by decide) rfl rfl hl.1 (Nat.le_of_ble_eq_true rfl) dX4_fillRanks_32 ⟨Nat.zero_le _, Nat.zero_le _⟩ (fun H locs hP hD hS => ?_)
        show W p l e { frames := 1, cells := 0, slots := 0, locals := 24 } s m ([.ref (ad 0)] : List Value).toArray below meth c H locs 0 0 Q (F0 m 35 ls [.int r_32, .int (K_order v2_4.toNatClampNeg), .ref (ad 7)])
        obtain ⟨hi_35, h⟩ := ox_i_of h
        refine va_iast hx hb hK hP hD hS 3 0 rfl rfl hi_35 dX4_fillRanks_35 (fun H locs hP hD hS => ?_)
        have hP : va_P D vwCl [(kF ad), (kG ad G_states G_moves G_ends), (kK ad K_found K_closed K_entries K_depth K_opened), (kI cI (ad 7) 200 (upd F_ranks_4 (K_order v2_4.toNatClampNeg).toNatClampNeg r_32)), (kI cI (ad 12) 600 G_to), (kI cI (ad 14) 600 G_out), (kI cI (ad 15) 201 G_start), (kZ cZ (ad 19) 200 K_chosen), (kI cI (ad 21) 200 K_order)] H := hP
        have hD : va_D A [(kF ad), (kG ad G_states G_moves G_ends), (kK ad K_found K_closed K_entries K_depth K_opened), (kI cI (ad 7) 200 (upd F_ranks_4 (K_order v2_4.toNatClampNeg).toNatClampNeg r_32)), (kI cI (ad 12) 600 G_to), (kI cI (ad 14) 600 G_out), (kI cI (ad 15) 201 G_start), (kZ cZ (ad 19) 200 K_chosen), (kI cI (ad 21) 200 K_order)] := hD
        refine lv_aload_n hx hb dX4_fillRanks_36 rfl (lv_at hl 1 rfl) ?_
        refine va_get (D := D) (ci := 4) (v := .ref (ad 7)) (C := RX4) (T := TX4) (N := 6) hx hb hts hiX4 hown hK hP 0 rfl rfl 5 (by decide) hk3 (fun _ h9 => h9) rfl dX4_fillRanks_37 ?_
        refine lv_iload_n hx hb dX4_fillRanks_40 rfl (lv_at hl 0 rfl) ?_
        obtain ⟨hi_41, h⟩ := ox_i_of h
        refine va_iald hx hb hK hP 3 0 rfl rfl hi_41 dX4_fillRanks_41 ?_
        refine lv_iload_n hx hb dX4_fillRanks_42 rfl (lv_at hl 2 rfl) ?_
        refine lv_icmp_le (tgt := 53) hx hb dX4_fillRanks_43 (by decide) (fun c_43 => ?_) (fun c_43 => ?_)
        · have h := ox_t c_43 h
          refine lv_iinc (v := v2_4 + 1) (lv' := [(2, .int (v2_4 + 1)), (3, .int (K_order v2_4.toNatClampNeg)), (0, .ref (ad 0)), (1, .int v1_4)]) hx hb dX4_fillRanks_53 hl (k := 3) rfl rfl (by decide) rfl (fun ls hl => ?_)
          refine lv_goto (tgt := 4) hx hb dX4_fillRanks_56 (by decide) ?_
          obtain rfl := Option.some.inj h
          exact ih_4 v1_4 (v2_4 + 1) (upd F_ranks_4 (K_order v2_4.toNatClampNeg).toNatClampNeg r_32) H locs ls hlp_4 hP hD hS (lv_sub hl [2, 3, 0] rfl)
        · have h := ox_f c_43 h
          refine lv_aload_n hx hb dX4_fillRanks_46 rfl (lv_at hl 1 rfl) ?_
          refine va_get (D := D) (ci := 4) (v := .ref (ad 7)) (C := RX4) (T := TX4) (N := 6) hx hb hts hiX4 hown hK hP 0 rfl rfl 5 (by decide) hk3 (fun _ h9 => h9) rfl dX4_fillRanks_47 ?_
          refine lv_iload_n hx hb dX4_fillRanks_50 rfl (lv_at hl 0 rfl) ?_
          obtain ⟨hi_51, h⟩ := ox_i_of h
          refine va_iald hx hb hK hP 3 0 rfl rfl hi_51 dX4_fillRanks_51 ?_
          refine lv_istore_n (lv' := [(1, .int ((upd F_ranks_4 (K_order v2_4.toNatClampNeg).toNatClampNeg r_32) (K_order v2_4.toNatClampNeg).toNatClampNeg)), (3, .int (K_order v2_4.toNatClampNeg)), (0, .ref (ad 0)), (2, .int v2_4)]) hx hb dX4_fillRanks_52 rfl hl (by decide) rfl (fun ls hl => ?_)
          refine lv_iinc (v := v2_4 + 1) (lv' := [(2, .int (v2_4 + 1)), (1, .int ((upd F_ranks_4 (K_order v2_4.toNatClampNeg).toNatClampNeg r_32) (K_order v2_4.toNatClampNeg).toNatClampNeg)), (3, .int (K_order v2_4.toNatClampNeg)), (0, .ref (ad 0))]) hx hb dX4_fillRanks_53 hl (k := 3) rfl rfl (by decide) rfl (fun ls hl => ?_)
          refine lv_goto (tgt := 4) hx hb dX4_fillRanks_56 (by decide) ?_
          obtain rfl := Option.some.inj h
          exact ih_4 ((upd F_ranks_4 (K_order v2_4.toNatClampNeg).toNatClampNeg r_32) (K_order v2_4.toNatClampNeg).toNatClampNeg) (v2_4 + 1) (upd F_ranks_4 (K_order v2_4.toNatClampNeg).toNatClampNeg r_32) H locs ls hlp_4 hP hD hS (lv_sub hl [3, 1, 0] rfl)
  exact hL_4 1000000 0 0 F_ranks H locs ls hex_4 hP hD hS (lv_sub hl [2, 1, 0] rfl)
set_option maxHeartbeats 4000000 in
set_option maxRecDepth 100000 in
theorem c_X4_liveAsks (l : Launch) (D : va_G) (cI cZ : ClassId) (ad : Nat → Nat) (G_states : Int32) (G_moves : Int32) (G_ends : Int32) (R_found : Int32) (K_found : Int32) (K_closed : Int32) (K_entries : Int32) (K_depth : Int32) (K_opened : Int32) (F_kinds : Nat → Int32) (G_asks : Nat → Int32) (G_isEnd : Nat → Int32) (G_able : Nat → Int32) (G_from : Nat → Int32) (G_to : Nat → Int32) (G_labelOf : Nat → Int32) (G_out : Nat → Int32) (G_start : Nat → Int32) (R_line : Nat → Int32) (R_far : Nat → Int32) (R_lastMove : Nat → Int32) (K_chosen : Nat → Int32) (K_knotOf : Nat → Int32) (K_order : Nat → Int32) (K_entered : Nat → Int32) (K_low : Nat → Int32) (K_nextOut : Nat → Int32) (K_path : Nat → Int32) (K_open : Nat → Int32) (S_size : Nat → Int32) (S_lowest : Nat → Int32) (S_ableInAll : Nat → Int32) (S_inside : Nat → Int32) (S_goesRound : Nat → Int32) (res : Int32 × Int32 × Int32 × Int32 × Int32 × Int32 × Int32 × (Nat → Int32) × (Nat → Int32) × (Nat → Int32) × (Nat → Int32) × (Nat → Int32) × (Nat → Int32) × (Nat → Int32) × (Nat → Int32) × (Nat → Int32) × (Nat → Int32) × (Nat → Int32) × (Nat → Int32) × (Nat → Int32) × (Nat → Int32) × (Nat → Int32) × (Nat → Int32)) (h : fn_X4_liveAsks G_states G_moves R_found K_found K_closed K_entries K_depth K_opened F_kinds G_asks G_isEnd G_able G_from G_to G_labelOf G_out G_start R_line R_far R_lastMove K_chosen K_knotOf K_order K_entered K_low K_nextOut K_path K_open S_size S_lowest S_ableInAll S_inside S_goesRound = some res) : mc_C l yX4_liveAsks wv_X4_liveAsks { frames := 6, cells := 0, slots := 0, locals := 136 } D [(cI, .int), (cZ, .boolean)] [.ref (ad 0)] [(kF ad), (kG ad G_states G_moves G_ends), (kR ad R_found), (kK ad K_found K_closed K_entries K_depth K_opened), (kS ad), (kI cI (ad 6) 16 F_kinds), (kI cI (ad 8) 200 G_asks), (kZ cZ (ad 9) 200 G_isEnd), (kI cI (ad 10) 200 G_able), (kI cI (ad 11) 600 G_from), (kI cI (ad 12) 600 G_to), (kI cI (ad 13) 600 G_labelOf), (kI cI (ad 14) 600 G_out), (kI cI (ad 15) 201 G_start), (kI cI (ad 16) 200 R_line), (kI cI (ad 17) 200 R_far), (kI cI (ad 18) 200 R_lastMove), (kZ cZ (ad 19) 200 K_chosen), (kI cI (ad 20) 200 K_knotOf), (kI cI (ad 21) 200 K_order), (kI cI (ad 22) 200 K_entered), (kI cI (ad 23) 200 K_low), (kI cI (ad 24) 200 K_nextOut), (kI cI (ad 25) 200 K_path), (kI cI (ad 26) 200 K_open), (kI cI (ad 27) 200 S_size), (kI cI (ad 28) 200 S_lowest), (kI cI (ad 29) 200 S_ableInAll), (kI cI (ad 30) 200 S_inside), (kZ cZ (ad 31) 200 S_goesRound)] (some (.int res.1)) [(kF ad), (kG ad G_states G_moves G_ends), (kR ad res.2.1), (kK ad res.2.2.1 res.2.2.2.1 res.2.2.2.2.1 res.2.2.2.2.2.1 res.2.2.2.2.2.2.1), (kS ad), (kI cI (ad 6) 16 F_kinds), (kI cI (ad 8) 200 G_asks), (kZ cZ (ad 9) 200 G_isEnd), (kI cI (ad 10) 200 G_able), (kI cI (ad 11) 600 G_from), (kI cI (ad 12) 600 G_to), (kI cI (ad 13) 600 G_labelOf), (kI cI (ad 14) 600 G_out), (kI cI (ad 15) 201 G_start), (kI cI (ad 16) 200 res.2.2.2.2.2.2.2.1), (kI cI (ad 17) 200 res.2.2.2.2.2.2.2.2.1), (kI cI (ad 18) 200 res.2.2.2.2.2.2.2.2.2.1), (kZ cZ (ad 19) 200 res.2.2.2.2.2.2.2.2.2.2.1), (kI cI (ad 20) 200 res.2.2.2.2.2.2.2.2.2.2.2.1), (kI cI (ad 21) 200 res.2.2.2.2.2.2.2.2.2.2.2.2.1), (kI cI (ad 22) 200 res.2.2.2.2.2.2.2.2.2.2.2.2.2.1), (kI cI (ad 23) 200 res.2.2.2.2.2.2.2.2.2.2.2.2.2.2.1), (kI cI (ad 24) 200 res.2.2.2.2.2.2.2.2.2.2.2.2.2.2.2.1), (kI cI (ad 25) 200 res.2.2.2.2.2.2.2.2.2.2.2.2.2.2.2.2.1), (kI cI (ad 26) 200 res.2.2.2.2.2.2.2.2.2.2.2.2.2.2.2.2.2.1), (kI cI (ad 27) 200 res.2.2.2.2.2.2.2.2.2.2.2.2.2.2.2.2.2.2.1), (kI cI (ad 28) 200 res.2.2.2.2.2.2.2.2.2.2.2.2.2.2.2.2.2.2.2.1), (kI cI (ad 29) 200 res.2.2.2.2.2.2.2.2.2.2.2.2.2.2.2.2.2.2.2.2.1), (kI cI (ad 30) 200 res.2.2.2.2.2.2.2.2.2.2.2.2.2.2.2.2.2.2.2.2.2.1), (kZ cZ (ad 31) 200 res.2.2.2.2.2.2.2.2.2.2.2.2.2.2.2.2.2.2.2.2.2.2)] := by
  refine mc_ofi (own := RX4) (by decide) rfl rfl (Nat.le_of_ble_eq_true rfl) ?_
  intro p e s m below meth c A Q ls hx hb hml hown hts hK hP hD hA hl hend
  have hS : va_S A s.heap s.heap [] := va_S.rf
  have hl : lv_has ls 3 [(0, .ref (ad 0))] := hl
  obtain ⟨H, hH⟩ : ∃ H, H = s.heap := ⟨_, rfl⟩
  obtain ⟨locs, hlo⟩ : ∃ locs : List Loc, locs = [] := ⟨_, rfl⟩
  have hS : va_S A s.heap H locs := by rw [hH, hlo]; exact hS
  have hP : va_P D vwCl [(kF ad), (kG ad G_states G_moves G_ends), (kR ad R_found), (kK ad K_found K_closed K_entries K_depth K_opened), (kS ad), (kI cI (ad 6) 16 F_kinds), (kI cI (ad 8) 200 G_asks), (kZ cZ (ad 9) 200 G_isEnd), (kI cI (ad 10) 200 G_able), (kI cI (ad 11) 600 G_from), (kI cI (ad 12) 600 G_to), (kI cI (ad 13) 600 G_labelOf), (kI cI (ad 14) 600 G_out), (kI cI (ad 15) 201 G_start), (kI cI (ad 16) 200 R_line), (kI cI (ad 17) 200 R_far), (kI cI (ad 18) 200 R_lastMove), (kZ cZ (ad 19) 200 K_chosen), (kI cI (ad 20) 200 K_knotOf), (kI cI (ad 21) 200 K_order), (kI cI (ad 22) 200 K_entered), (kI cI (ad 23) 200 K_low), (kI cI (ad 24) 200 K_nextOut), (kI cI (ad 25) 200 K_path), (kI cI (ad 26) 200 K_open), (kI cI (ad 27) 200 S_size), (kI cI (ad 28) 200 S_lowest), (kI cI (ad 29) 200 S_ableInAll), (kI cI (ad 30) 200 S_inside), (kZ cZ (ad 31) 200 S_goesRound)] H := by rw [hH]; exact hP
  suffices h9 : W p l e { frames := 6, cells := 0, slots := 0, locals := 136 } s m ([.ref (ad 0)] : List Value).toArray below meth c H locs 0 0 Q (F0 m 0 ls []) by rw [hH, hlo] at h9; exact h9
  clear hH hlo
  refine lv_iconst (v := 0) hx hb dX4_liveAsks_0 (by decide) ?_
  refine lv_istore_n (lv' := [(1, .int 0), (0, .ref (ad 0))]) hx hb dX4_liveAsks_1 rfl hl (by decide) rfl (fun ls hl => ?_)
  refine lv_iconst (v := 0) hx hb dX4_liveAsks_2 (by decide) ?_
  refine lv_istore_n (lv' := [(2, .int 0), (1, .int 0), (0, .ref (ad 0))]) hx hb dX4_liveAsks_3 rfl hl (by decide) rfl (fun ls hl => ?_)
  obtain ⟨ex_4, hex_4, h_4⟩ := ox_b_of h
  have hX_4 : ∀ (v1_4 : Int32) (v2_4 : Int32) (R_found_4 : Int32) (K_found_4 : Int32) (K_closed_4 : Int32) (K_entries_4 : Int32) (K_depth_4 : Int32) (K_opened_4 : Int32) (R_line_4 : Nat → Int32) (R_far_4 : Nat → Int32) (R_lastMove_4 : Nat → Int32) (K_chosen_4 : Nat → Int32) (K_knotOf_4 : Nat → Int32) (K_order_4 : Nat → Int32) (K_entered_4 : Nat → Int32) (K_low_4 : Nat → Int32) (K_nextOut_4 : Nat → Int32) (K_path_4 : Nat → Int32) (K_open_4 : Nat → Int32) (S_size_4 : Nat → Int32) (S_lowest_4 : Nat → Int32) (S_ableInAll_4 : Nat → Int32) (S_inside_4 : Nat → Int32) (S_goesRound_4 : Nat → Int32) (H : Heap) (locs : List Loc) (ls : Array Slot), (v1_4, v2_4, R_found_4, K_found_4, K_closed_4, K_entries_4, K_depth_4, K_opened_4, R_line_4, R_far_4, R_lastMove_4, K_chosen_4, K_knotOf_4, K_order_4, K_entered_4, K_low_4, K_nextOut_4, K_path_4, K_open_4, S_size_4, S_lowest_4, S_ableInAll_4, S_inside_4, S_goesRound_4) = ex_4 → va_P D vwCl [(kF ad), (kG ad G_states G_moves G_ends), (kR ad R_found_4), (kK ad K_found_4 K_closed_4 K_entries_4 K_depth_4 K_opened_4), (kS ad), (kI cI (ad 6) 16 F_kinds), (kI cI (ad 8) 200 G_asks), (kZ cZ (ad 9) 200 G_isEnd), (kI cI (ad 10) 200 G_able), (kI cI (ad 11) 600 G_from), (kI cI (ad 12) 600 G_to), (kI cI (ad 13) 600 G_labelOf), (kI cI (ad 14) 600 G_out), (kI cI (ad 15) 201 G_start), (kI cI (ad 16) 200 R_line_4), (kI cI (ad 17) 200 R_far_4), (kI cI (ad 18) 200 R_lastMove_4), (kZ cZ (ad 19) 200 K_chosen_4), (kI cI (ad 20) 200 K_knotOf_4), (kI cI (ad 21) 200 K_order_4), (kI cI (ad 22) 200 K_entered_4), (kI cI (ad 23) 200 K_low_4), (kI cI (ad 24) 200 K_nextOut_4), (kI cI (ad 25) 200 K_path_4), (kI cI (ad 26) 200 K_open_4), (kI cI (ad 27) 200 S_size_4), (kI cI (ad 28) 200 S_lowest_4), (kI cI (ad 29) 200 S_ableInAll_4), (kI cI (ad 30) 200 S_inside_4), (kZ cZ (ad 31) 200 S_goesRound_4)] H → va_D A [(kF ad), (kG ad G_states G_moves G_ends), (kR ad R_found_4), (kK ad K_found_4 K_closed_4 K_entries_4 K_depth_4 K_opened_4), (kS ad), (kI cI (ad 6) 16 F_kinds), (kI cI (ad 8) 200 G_asks), (kZ cZ (ad 9) 200 G_isEnd), (kI cI (ad 10) 200 G_able), (kI cI (ad 11) 600 G_from), (kI cI (ad 12) 600 G_to), (kI cI (ad 13) 600 G_labelOf), (kI cI (ad 14) 600 G_out), (kI cI (ad 15) 201 G_start), (kI cI (ad 16) 200 R_line_4), (kI cI (ad 17) 200 R_far_4), (kI cI (ad 18) 200 R_lastMove_4), (kZ cZ (ad 19) 200 K_chosen_4), (kI cI (ad 20) 200 K_knotOf_4), (kI cI (ad 21) 200 K_order_4), (kI cI (ad 22) 200 K_entered_4), (kI cI (ad 23) 200 K_low_4), (kI cI (ad 24) 200 K_nextOut_4), (kI cI (ad 25) 200 K_path_4), (kI cI (ad 26) 200 K_open_4), (kI cI (ad 27) 200 S_size_4), (kI cI (ad 28) 200 S_lowest_4), (kI cI (ad 29) 200 S_ableInAll_4), (kI cI (ad 30) 200 S_inside_4), (kZ cZ (ad 31) 200 S_goesRound_4)] → va_S A s.heap H locs → lv_has ls 3 [(1, .int v1_4)] → W p l e { frames := 6, cells := 0, slots := 0, locals := 136 } s m ([.ref (ad 0)] : List Value).toArray below meth c H locs 0 0 Q (F0 m 27 ls []) := by
    intro v1_4 v2_4 R_found_4 K_found_4 K_closed_4 K_entries_4 K_depth_4 K_opened_4 R_line_4 R_far_4 R_lastMove_4 K_chosen_4 K_knotOf_4 K_order_4 K_entered_4 K_low_4 K_nextOut_4 K_path_4 K_open_4 S_size_4 S_lowest_4 S_ableInAll_4 S_inside_4 S_goesRound_4 H locs ls hex_4 hP hD hS hl
    subst hex_4
    have h := h_4
    refine lv_iload_n hx hb dX4_liveAsks_27 rfl (lv_at hl 0 rfl) ?_
    have h := Option.some.inj h
    subst h
    exact hend H locs _ ls hP hD hS dX4_liveAsks_28 trivial
  have hL_4 : ∀ (n : Nat) (v1_4 : Int32) (v2_4 : Int32) (R_found_4 : Int32) (K_found_4 : Int32) (K_closed_4 : Int32) (K_entries_4 : Int32) (K_depth_4 : Int32) (K_opened_4 : Int32) (R_line_4 : Nat → Int32) (R_far_4 : Nat → Int32) (R_lastMove_4 : Nat → Int32) (K_chosen_4 : Nat → Int32) (K_knotOf_4 : Nat → Int32) (K_order_4 : Nat → Int32) (K_entered_4 : Nat → Int32) (K_low_4 : Nat → Int32) (K_nextOut_4 : Nat → Int32) (K_path_4 : Nat → Int32) (K_open_4 : Nat → Int32) (S_size_4 : Nat → Int32) (S_lowest_4 : Nat → Int32) (S_ableInAll_4 : Nat → Int32) (S_inside_4 : Nat → Int32) (S_goesRound_4 : Nat → Int32) (H : Heap) (locs : List Loc) (ls : Array Slot), ox_l (fn_X4_liveAsks_l4 G_states G_moves F_kinds G_asks G_isEnd G_able G_from G_to G_labelOf G_out G_start) n (v1_4, v2_4, R_found_4, K_found_4, K_closed_4, K_entries_4, K_depth_4, K_opened_4, R_line_4, R_far_4, R_lastMove_4, K_chosen_4, K_knotOf_4, K_order_4, K_entered_4, K_low_4, K_nextOut_4, K_path_4, K_open_4, S_size_4, S_lowest_4, S_ableInAll_4, S_inside_4, S_goesRound_4) = some ex_4 → va_P D vwCl [(kF ad), (kG ad G_states G_moves G_ends), (kR ad R_found_4), (kK ad K_found_4 K_closed_4 K_entries_4 K_depth_4 K_opened_4), (kS ad), (kI cI (ad 6) 16 F_kinds), (kI cI (ad 8) 200 G_asks), (kZ cZ (ad 9) 200 G_isEnd), (kI cI (ad 10) 200 G_able), (kI cI (ad 11) 600 G_from), (kI cI (ad 12) 600 G_to), (kI cI (ad 13) 600 G_labelOf), (kI cI (ad 14) 600 G_out), (kI cI (ad 15) 201 G_start), (kI cI (ad 16) 200 R_line_4), (kI cI (ad 17) 200 R_far_4), (kI cI (ad 18) 200 R_lastMove_4), (kZ cZ (ad 19) 200 K_chosen_4), (kI cI (ad 20) 200 K_knotOf_4), (kI cI (ad 21) 200 K_order_4), (kI cI (ad 22) 200 K_entered_4), (kI cI (ad 23) 200 K_low_4), (kI cI (ad 24) 200 K_nextOut_4), (kI cI (ad 25) 200 K_path_4), (kI cI (ad 26) 200 K_open_4), (kI cI (ad 27) 200 S_size_4), (kI cI (ad 28) 200 S_lowest_4), (kI cI (ad 29) 200 S_ableInAll_4), (kI cI (ad 30) 200 S_inside_4), (kZ cZ (ad 31) 200 S_goesRound_4)] H → va_D A [(kF ad), (kG ad G_states G_moves G_ends), (kR ad R_found_4), (kK ad K_found_4 K_closed_4 K_entries_4 K_depth_4 K_opened_4), (kS ad), (kI cI (ad 6) 16 F_kinds), (kI cI (ad 8) 200 G_asks), (kZ cZ (ad 9) 200 G_isEnd), (kI cI (ad 10) 200 G_able), (kI cI (ad 11) 600 G_from), (kI cI (ad 12) 600 G_to), (kI cI (ad 13) 600 G_labelOf), (kI cI (ad 14) 600 G_out), (kI cI (ad 15) 201 G_start), (kI cI (ad 16) 200 R_line_4), (kI cI (ad 17) 200 R_far_4), (kI cI (ad 18) 200 R_lastMove_4), (kZ cZ (ad 19) 200 K_chosen_4), (kI cI (ad 20) 200 K_knotOf_4), (kI cI (ad 21) 200 K_order_4), (kI cI (ad 22) 200 K_entered_4), (kI cI (ad 23) 200 K_low_4), (kI cI (ad 24) 200 K_nextOut_4), (kI cI (ad 25) 200 K_path_4), (kI cI (ad 26) 200 K_open_4), (kI cI (ad 27) 200 S_size_4), (kI cI (ad 28) 200 S_lowest_4), (kI cI (ad 29) 200 S_ableInAll_4), (kI cI (ad 30) 200 S_inside_4), (kZ cZ (ad 31) 200 S_goesRound_4)] → va_S A s.heap H locs → lv_has ls 3 [(0, .ref (ad 0)), (1, .int v1_4), (2, .int v2_4)] → W p l e { frames := 6, cells := 0, slots := 0, locals := 136 } s m ([.ref (ad 0)] : List Value).toArray below meth c H locs 0 0 Q (F0 m 4 ls []) := by
    intro n
    induction n with
    | zero => intro v1_4 v2_4 R_found_4 K_found_4 K_closed_4 K_entries_4 K_depth_4 K_opened_4 R_line_4 R_far_4 R_lastMove_4 K_chosen_4 K_knotOf_4 K_order_4 K_entered_4 K_low_4 K_nextOut_4 K_path_4 K_open_4 S_size_4 S_lowest_4 S_ableInAll_4 S_inside_4 S_goesRound_4 H locs ls hlp; exact ox_l_0 hlp
    | succ n ih_4 =>
      intro v1_4 v2_4 R_found_4 K_found_4 K_closed_4 K_entries_4 K_depth_4 K_opened_4 R_line_4 R_far_4 R_lastMove_4 K_chosen_4 K_knotOf_4 K_order_4 K_entered_4 K_low_4 K_nextOut_4 K_path_4 K_open_4 S_size_4 S_lowest_4 S_ableInAll_4 S_inside_4 S_goesRound_4 H locs ls hlp_4 hP hD hS hl
      obtain ⟨z_4, h, hlp_4⟩ := ox_l_of hlp_4
      refine lv_iload_n hx hb dX4_liveAsks_4 rfl (lv_at hl 2 rfl) ?_
      refine lv_bipush (v := 8) hx hb dX4_liveAsks_5 (by decide) ?_
      refine lv_icmp_ge (tgt := 27) hx hb dX4_liveAsks_7 (by decide) (fun c_7 => ?_) (fun c_7 => ?_)
      · have h := ox_t c_7 h
        obtain rfl := Option.some.inj h
        exact hX_4 v1_4 v2_4 R_found_4 K_found_4 K_closed_4 K_entries_4 K_depth_4 K_opened_4 R_line_4 R_far_4 R_lastMove_4 K_chosen_4 K_knotOf_4 K_order_4 K_entered_4 K_low_4 K_nextOut_4 K_path_4 K_open_4 S_size_4 S_lowest_4 S_ableInAll_4 S_inside_4 S_goesRound_4 H locs ls hlp_4 hP hD hS (lv_sub hl [1] rfl)
      · have h := ox_f c_7 h
        refine lv_aload_n hx hb dX4_liveAsks_10 rfl (lv_at hl 0 rfl) ?_
        refine lv_iload_n hx hb dX4_liveAsks_11 rfl (lv_at hl 2 rfl) ?_
        obtain ⟨⟨r_12, R_found_12, K_found_12, K_closed_12, K_entries_12, K_depth_12, K_opened_12, R_line_12, R_far_12, R_lastMove_12, K_chosen_12, K_knotOf_12, K_order_12, K_entered_12, K_low_12, K_nextOut_12, K_path_12, K_open_12, S_size_12, S_lowest_12, S_ableInAll_12, S_inside_12, S_goesRound_12⟩, hc_12, h⟩ := ox_b_of h
        refine mc_callV (As := [.int v2_4]) (rest := []) (b := ad 0) (Wc := [(kF ad), (kG ad G_states G_moves G_ends), (kR ad R_found_4), (kK ad K_found_4 K_closed_4 K_entries_4 K_depth_4 K_opened_4), (kS ad), (kI cI (ad 6) 16 F_kinds), (kI cI (ad 8) 200 G_asks), (kZ cZ (ad 9) 200 G_isEnd), (kI cI (ad 10) 200 G_able), (kI cI (ad 11) 600 G_from), (kI cI (ad 12) 600 G_to), (kI cI (ad 13) 600 G_labelOf), (kI cI (ad 14) 600 G_out), (kI cI (ad 15) 201 G_start), (kI cI (ad 16) 200 R_line_4), (kI cI (ad 17) 200 R_far_4), (kI cI (ad 18) 200 R_lastMove_4), (kZ cZ (ad 19) 200 K_chosen_4), (kI cI (ad 20) 200 K_knotOf_4), (kI cI (ad 21) 200 K_order_4), (kI cI (ad 22) 200 K_entered_4), (kI cI (ad 23) 200 K_low_4), (kI cI (ad 24) 200 K_nextOut_4), (kI cI (ad 25) 200 K_path_4), (kI cI (ad 26) 200 K_open_4), (kI cI (ad 27) 200 S_size_4), (kI cI (ad 28) 200 S_lowest_4), (kI cI (ad 29) 200 S_ableInAll_4), (kI cI (ad 30) 200 S_inside_4), (kZ cZ (ad 31) 200 S_goesRound_4)]) (wr := []) (W1 := [(kF ad), (kG ad G_states G_moves G_ends), (kR ad R_found_12), (kK ad K_found_12 K_closed_12 K_entries_12 K_depth_12 K_opened_12), (kS ad), (kI cI (ad 6) 16 F_kinds), (kI cI (ad 8) 200 G_asks), (kZ cZ (ad 9) 200 G_isEnd), (kI cI (ad 10) 200 G_able), (kI cI (ad 11) 600 G_from), (kI cI (ad 12) 600 G_to), (kI cI (ad 13) 600 G_labelOf), (kI cI (ad 14) 600 G_out), (kI cI (ad 15) 201 G_start), (kI cI (ad 16) 200 R_line_12), (kI cI (ad 17) 200 R_far_12), (kI cI (ad 18) 200 R_lastMove_12), (kZ cZ (ad 19) 200 K_chosen_12), (kI cI (ad 20) 200 K_knotOf_12), (kI cI (ad 21) 200 K_order_12), (kI cI (ad 22) 200 K_entered_12), (kI cI (ad 23) 200 K_low_12), (kI cI (ad 24) 200 K_nextOut_12), (kI cI (ad 25) 200 K_path_12), (kI cI (ad 26) 200 K_open_12), (kI cI (ad 27) 200 S_size_12), (kI cI (ad 28) 200 S_lowest_12), (kI cI (ad 29) 200 S_ableInAll_12), (kI cI (ad 30) 200 S_inside_12), (kZ cZ (ad 31) 200 S_goesRound_12)]) (wn := [(kF ad), (kG ad G_states G_moves G_ends), (kR ad R_found_12), (kK ad K_found_12 K_closed_12 K_entries_12 K_depth_12 K_opened_12), (kS ad), (kI cI (ad 6) 16 F_kinds), (kI cI (ad 8) 200 G_asks), (kZ cZ (ad 9) 200 G_isEnd), (kI cI (ad 10) 200 G_able), (kI cI (ad 11) 600 G_from), (kI cI (ad 12) 600 G_to), (kI cI (ad 13) 600 G_labelOf), (kI cI (ad 14) 600 G_out), (kI cI (ad 15) 201 G_start), (kI cI (ad 16) 200 R_line_12), (kI cI (ad 17) 200 R_far_12), (kI cI (ad 18) 200 R_lastMove_12), (kZ cZ (ad 19) 200 K_chosen_12), (kI cI (ad 20) 200 K_knotOf_12), (kI cI (ad 21) 200 K_order_12), (kI cI (ad 22) 200 K_entered_12), (kI cI (ad 23) 200 K_low_12), (kI cI (ad 24) 200 K_nextOut_12), (kI cI (ad 25) 200 K_path_12), (kI cI (ad 26) 200 K_open_12), (kI cI (ad 27) 200 S_size_12), (kI cI (ad 28) 200 S_lowest_12), (kI cI (ad 29) 200 S_ableInAll_12), (kI cI (ad 30) 200 S_inside_12), (kZ cZ (ad 31) 200 S_goesRound_12)]) (rv := some (.int r_12)) ⟨hx, hb, hml, hown, hts⟩ (c_X4_alwaysServed l D cI cZ ad G_states G_moves G_ends R_found_4 K_found_4 K_closed_4 K_entries_4 K_depth_4 K_opened_4 F_kinds G_asks G_isEnd G_able G_from G_to G_labelOf G_out G_start R_line_4 R_far_4 R_lastMove_4 K_chosen_4 K_knotOf_4 K_order_4 K_entered_4 K_low_4 K_nextOut_4 K_path_4 K_open_4 S_size_4 S_lowest_4 S_ableInAll_4 S_inside_4 S_goesRound_4 v2_4 _ hc_12) (cwV 1 hts (gl_V wk_210 wk_211 wk_212 wk_2 wk_213) rfl rfl rfl (by decide +kernel) ⟨Nat.le_of_ble_eq_true rfl, Nat.le_of_ble_eq_true rfl⟩) hK hP hD hS hA 4 0 rfl rfl rfl [0, 1, 2, 3, 4, 5, 6, 7, 8, 9, 10, 11, 12, 13, 14, 15, 16, 17, 18, 19, 20, 21, 22, 23, 24, 25, 26, 27, 28, 29] [] [0, 1, 2, 3, 4, 5, 6, 7, 8, 9, 10, 11, 12, 13, 14, 15, 16, 17, 18, 19, 20, 21, 22, 23, 24, 25, 26, 27, 28, 29] rfl rfl (by decide) rfl (by decide) (by decide) rfl rfl (by decide) rfl rfl hl.1 (Nat.le_of_ble_eq_true rfl) dX4_liveAsks_12 ⟨Nat.zero_le _, Nat.zero_le _⟩ (fun H locs hP hD hS => ?_)
        show W p l e { frames := 6, cells := 0, slots := 0, locals := 136 } s m ([.ref (ad 0)] : List Value).toArray below meth c H locs 0 0 Q (F0 m 15 ls [.int r_12])
        refine lv_if_eq (tgt := 21) hx hb dX4_liveAsks_15 (by decide) (fun c_15 => ?_) (fun c_15 => ?_)
        · have h := ox_t c_15 h
          refine lv_iinc (v := v2_4 + 1) (lv' := [(2, .int (v2_4 + 1)), (0, .ref (ad 0)), (1, .int v1_4)]) hx hb dX4_liveAsks_21 hl (k := 2) rfl rfl (by decide) rfl (fun ls hl => ?_)
          refine lv_goto (tgt := 4) hx hb dX4_liveAsks_24 (by decide) ?_
          obtain rfl := Option.some.inj h
          exact ih_4 v1_4 (v2_4 + 1) R_found_12 K_found_12 K_closed_12 K_entries_12 K_depth_12 K_opened_12 R_line_12 R_far_12 R_lastMove_12 K_chosen_12 K_knotOf_12 K_order_12 K_entered_12 K_low_12 K_nextOut_12 K_path_12 K_open_12 S_size_12 S_lowest_12 S_ableInAll_12 S_inside_12 S_goesRound_12 H locs ls hlp_4 hP hD hS (lv_sub hl [1, 2, 0] rfl)
        · have h := ox_f c_15 h
          refine lv_iinc (v := v1_4 + 1) (lv' := [(1, .int (v1_4 + 1)), (0, .ref (ad 0)), (2, .int v2_4)]) hx hb dX4_liveAsks_18 hl (k := 1) rfl rfl (by decide) rfl (fun ls hl => ?_)
          refine lv_iinc (v := v2_4 + 1) (lv' := [(2, .int (v2_4 + 1)), (1, .int (v1_4 + 1)), (0, .ref (ad 0))]) hx hb dX4_liveAsks_21 hl (k := 2) rfl rfl (by decide) rfl (fun ls hl => ?_)
          refine lv_goto (tgt := 4) hx hb dX4_liveAsks_24 (by decide) ?_
          obtain rfl := Option.some.inj h
          exact ih_4 (v1_4 + 1) (v2_4 + 1) R_found_12 K_found_12 K_closed_12 K_entries_12 K_depth_12 K_opened_12 R_line_12 R_far_12 R_lastMove_12 K_chosen_12 K_knotOf_12 K_order_12 K_entered_12 K_low_12 K_nextOut_12 K_path_12 K_open_12 S_size_12 S_lowest_12 S_ableInAll_12 S_inside_12 S_goesRound_12 H locs ls hlp_4 hP hD hS (lv_sub hl [2, 1, 0] rfl)
  exact hL_4 1000000 0 0 R_found K_found K_closed K_entries K_depth K_opened R_line R_far R_lastMove K_chosen K_knotOf K_order K_entered K_low K_nextOut K_path K_open S_size S_lowest S_ableInAll S_inside S_goesRound H locs ls hex_4 hP hD hS (lv_sub hl [2, 1, 0] rfl)
set_option maxHeartbeats 4000000 in
set_option maxRecDepth 100000 in
theorem c_X4_reached (l : Launch) (D : va_G) (cI cZ : ClassId) (ad : Nat → Nat) (G_states : Int32) (G_moves : Int32) (G_ends : Int32) (R_found : Int32) (G_to : Nat → Int32) (G_out : Nat → Int32) (G_start : Nat → Int32) (R_line : Nat → Int32) (R_far : Nat → Int32) (R_lastMove : Nat → Int32) (res : Int32 × Int32 × (Nat → Int32) × (Nat → Int32) × (Nat → Int32)) (h : fn_X4_reached G_states R_found G_to G_out G_start R_line R_far R_lastMove = some res) : mc_C l yX4_reached wv_X4_reached { frames := 2, cells := 0, slots := 0, locals := 48 } D [(cI, .int), (cZ, .boolean)] [.ref (ad 0)] [(kF ad), (kG ad G_states G_moves G_ends), (kR ad R_found), (kI cI (ad 12) 600 G_to), (kI cI (ad 14) 600 G_out), (kI cI (ad 15) 201 G_start), (kI cI (ad 16) 200 R_line), (kI cI (ad 17) 200 R_far), (kI cI (ad 18) 200 R_lastMove)] (some (.int res.1)) [(kF ad), (kG ad G_states G_moves G_ends), (kR ad res.2.1), (kI cI (ad 12) 600 G_to), (kI cI (ad 14) 600 G_out), (kI cI (ad 15) 201 G_start), (kI cI (ad 16) 200 res.2.2.1), (kI cI (ad 17) 200 res.2.2.2.1), (kI cI (ad 18) 200 res.2.2.2.2)] := by
  refine mc_ofi (own := RX4) (by decide) rfl rfl (Nat.le_of_ble_eq_true rfl) ?_
  intro p e s m below meth c A Q ls hx hb hml hown hts hK hP hD hA hl hend
  have hS : va_S A s.heap s.heap [] := va_S.rf
  have hl : lv_has ls 1 [(0, .ref (ad 0))] := hl
  obtain ⟨H, hH⟩ : ∃ H, H = s.heap := ⟨_, rfl⟩
  obtain ⟨locs, hlo⟩ : ∃ locs : List Loc, locs = [] := ⟨_, rfl⟩
  have hS : va_S A s.heap H locs := by rw [hH, hlo]; exact hS
  have hP : va_P D vwCl [(kF ad), (kG ad G_states G_moves G_ends), (kR ad R_found), (kI cI (ad 12) 600 G_to), (kI cI (ad 14) 600 G_out), (kI cI (ad 15) 201 G_start), (kI cI (ad 16) 200 R_line), (kI cI (ad 17) 200 R_far), (kI cI (ad 18) 200 R_lastMove)] H := by rw [hH]; exact hP
  suffices h9 : W p l e { frames := 2, cells := 0, slots := 0, locals := 48 } s m ([.ref (ad 0)] : List Value).toArray below meth c H locs 0 0 Q (F0 m 0 ls []) by rw [hH, hlo] at h9; exact h9
  clear hH hlo
  have hiX2 : ∀ w ∈ wsX20, w ∈ wv_X4_reached := fun w h => List.mem_cons_of_mem _ (inlX2 w h)
  have hiX4 : ∀ w ∈ wsX40, w ∈ wv_X4_reached := fun w h => List.mem_cons_of_mem _ (inlX4 w h)
  have hk0 := hts (.fieldLink RX4 23 "FairLoops" "reach" "LFairLoops$Reach;") (List.mem_cons_of_mem _ wk_22)
  have hk1 := hts (.fieldLink RX4 10 "FairLoops" "graph" "LFairLoops$Graph;") (List.mem_cons_of_mem _ wk_16)
  have hk2 := hts (.fieldLink RX4 93 "FairLoops$Reach" "found" "I") (List.mem_cons_of_mem _ wk_177)
  refine lv_aload_n hx hb dX4_reached_0 rfl (lv_at hl 0 rfl) ?_
  refine va_get (D := D) (ci := 4) (v := .ref (ad 2)) (C := RX4) (T := TX4) (N := 6) hx hb hts hiX4 hown hK hP 0 rfl rfl 2 (by decide) hk0 (fun _ h9 => h9) rfl dX4_reached_1 ?_
  refine lv_aload_n hx hb dX4_reached_4 rfl (lv_at hl 0 rfl) ?_
  refine va_get (D := D) (ci := 4) (v := .ref (ad 1)) (C := RX4) (T := TX4) (N := 6) hx hb hts hiX4 hown hK hP 0 rfl rfl 0 (by decide) hk1 (fun _ h9 => h9) rfl dX4_reached_5 ?_
  obtain ⟨⟨R_found_8, R_line_8, R_far_8, R_lastMove_8⟩, hc_8, h⟩ := ox_b_of h
  refine mc_callV (As := [.ref (ad 1)]) (rest := []) (b := ad 2) (Wc := [(kG ad G_states G_moves G_ends), (kR ad R_found), (kI cI (ad 12) 600 G_to), (kI cI (ad 14) 600 G_out), (kI cI (ad 15) 201 G_start), (kI cI (ad 16) 200 R_line), (kI cI (ad 17) 200 R_far), (kI cI (ad 18) 200 R_lastMove)]) (wr := [(kF ad)]) (W1 := [(kG ad G_states G_moves G_ends), (kR ad R_found_8), (kI cI (ad 12) 600 G_to), (kI cI (ad 14) 600 G_out), (kI cI (ad 15) 201 G_start), (kI cI (ad 16) 200 R_line_8), (kI cI (ad 17) 200 R_far_8), (kI cI (ad 18) 200 R_lastMove_8)]) (wn := [(kF ad), (kG ad G_states G_moves G_ends), (kR ad R_found_8), (kI cI (ad 12) 600 G_to), (kI cI (ad 14) 600 G_out), (kI cI (ad 15) 201 G_start), (kI cI (ad 16) 200 R_line_8), (kI cI (ad 17) 200 R_far_8), (kI cI (ad 18) 200 R_lastMove_8)]) (rv := none) ⟨hx, hb, hml, hown, hts⟩ (c_X2_walk l D cI cZ ad G_states G_moves G_ends R_found G_to G_out G_start R_line R_far R_lastMove  _ hc_8) (cwV 1 hts (gl_V wk_178 wk_179 wk_180 wk_21 wk_181) rfl rfl rfl (by decide +kernel) ⟨Nat.le_of_ble_eq_true rfl, Nat.le_of_ble_eq_true rfl⟩) hK hP hD hS hA 2 1 rfl rfl rfl [1, 2, 3, 4, 5, 6, 7, 8] [0] [0, 1, 2, 3, 4, 5, 6, 7, 8] rfl rfl (by decide) rfl (by decide) (by decide) rfl rfl (by decide) rfl rfl hl.1 (Nat.le_of_ble_eq_true rfl) dX4_reached_8 ⟨Nat.zero_le _, Nat.zero_le _⟩ (fun H locs hP hD hS => ?_)
  show W p l e { frames := 2, cells := 0, slots := 0, locals := 48 } s m ([.ref (ad 0)] : List Value).toArray below meth c H locs 0 0 Q (F0 m 11 ls [])
  refine lv_aload_n hx hb dX4_reached_11 rfl (lv_at hl 0 rfl) ?_
  refine va_get (D := D) (ci := 4) (v := .ref (ad 2)) (C := RX4) (T := TX4) (N := 6) hx hb hts hiX4 hown hK hP 0 rfl rfl 2 (by decide) hk0 (fun _ h9 => h9) rfl dX4_reached_12 ?_
  refine va_get (D := D) (ci := 2) (v := .int R_found_8) (C := RX2) (T := TX2) (N := 4) hx hb hts hiX2 hown hK hP 2 rfl rfl 0 (by decide) hk2 (fun _ h9 => h9) rfl dX4_reached_15 ?_
  have h := Option.some.inj h
  subst h
  exact hend H locs _ ls hP hD hS dX4_reached_18 trivial
set_option maxHeartbeats 4000000 in
set_option maxRecDepth 100000 in
theorem c_J6_bitCount_0f7a4 (l : Launch) (D : va_G) (cI cZ : ClassId) (ad : Nat → Nat)  (a0 : Int32) (res : Int32) (h : fn_J6_bitCount_0f7a4 a0 = some res) : mc_C l yJ6_bitCount_0f7a4 wv_J6_bitCount_0f7a4 { frames := 0, cells := 0, slots := 0, locals := 0 } D [(cI, .int), (cZ, .boolean)] [.int a0] [] (some (.int res)) [] := by
  refine mc_ofi (own := RJ6) (by decide) rfl rfl (Nat.le_of_ble_eq_true rfl) ?_
  intro p e s m below meth c A Q ls hx hb hml hown hts hK hP hD hA hl hend
  have hS : va_S A s.heap s.heap [] := va_S.rf
  have hl : lv_has ls 1 [(0, .int a0)] := hl
  obtain ⟨H, hH⟩ : ∃ H, H = s.heap := ⟨_, rfl⟩
  obtain ⟨locs, hlo⟩ : ∃ locs : List Loc, locs = [] := ⟨_, rfl⟩
  have hS : va_S A s.heap H locs := by rw [hH, hlo]; exact hS
  have hP : va_P D vwCl [] H := by rw [hH]; exact hP
  suffices h9 : W p l e { frames := 0, cells := 0, slots := 0, locals := 0 } s m ([.int a0] : List Value).toArray below meth c H locs 0 0 Q (F0 m 0 ls []) by rw [hH, hlo] at h9; exact h9
  clear hH hlo
  have hk0 := hts (.constant RJ6 265 (1431655765)) (List.mem_cons_of_mem _ wk_497)
  have hk1 := hts (.constant RJ6 266 (858993459)) (List.mem_cons_of_mem _ wk_498)
  have hk2 := hts (.constant RJ6 267 (252645135)) (List.mem_cons_of_mem _ wk_499)
  refine lv_iload_n hx hb dJ6_bitCount_0f7a4_0 rfl (lv_at hl 0 rfl) ?_
  refine lv_iload_n hx hb dJ6_bitCount_0f7a4_1 rfl (lv_at hl 0 rfl) ?_
  refine lv_iconst (v := 1) hx hb dJ6_bitCount_0f7a4_2 (by decide) ?_
  refine lv_iushr (v := (a0.toUInt32 >>> ((1 : Int32).toUInt32 &&& Int32.toUInt32 31)).toInt32) hx hb dJ6_bitCount_0f7a4_3 rfl ?_
  refine lv_ldcw (v := 1431655765) hx hb hown hk0 dJ6_bitCount_0f7a4_4 ?_
  refine lv_iand hx hb dJ6_bitCount_0f7a4_7 ?_
  refine lv_isub hx hb dJ6_bitCount_0f7a4_8 ?_
  refine lv_istore_n (lv' := [(0, .int (a0 - (((a0.toUInt32 >>> ((1 : Int32).toUInt32 &&& Int32.toUInt32 31)).toInt32) &&& 1431655765)))]) hx hb dJ6_bitCount_0f7a4_9 rfl hl (by decide) rfl (fun ls hl => ?_)
  refine lv_iload_n hx hb dJ6_bitCount_0f7a4_10 rfl (lv_at hl 0 rfl) ?_
  refine lv_ldcw (v := 858993459) hx hb hown hk1 dJ6_bitCount_0f7a4_11 ?_
  refine lv_iand hx hb dJ6_bitCount_0f7a4_14 ?_
  refine lv_iload_n hx hb dJ6_bitCount_0f7a4_15 rfl (lv_at hl 0 rfl) ?_
  refine lv_iconst (v := 2) hx hb dJ6_bitCount_0f7a4_16 (by decide) ?_
  refine lv_iushr (v := ((a0 - (((a0.toUInt32 >>> ((1 : Int32).toUInt32 &&& Int32.toUInt32 31)).toInt32) &&& 1431655765)).toUInt32 >>> ((2 : Int32).toUInt32 &&& Int32.toUInt32 31)).toInt32) hx hb dJ6_bitCount_0f7a4_17 rfl ?_
  refine lv_ldcw (v := 858993459) hx hb hown hk1 dJ6_bitCount_0f7a4_18 ?_
  refine lv_iand hx hb dJ6_bitCount_0f7a4_21 ?_
  refine lv_iadd hx hb dJ6_bitCount_0f7a4_22 ?_
  refine lv_istore_n (lv' := [(0, .int (((a0 - (((a0.toUInt32 >>> ((1 : Int32).toUInt32 &&& Int32.toUInt32 31)).toInt32) &&& 1431655765)) &&& 858993459) + ((((a0 - (((a0.toUInt32 >>> ((1 : Int32).toUInt32 &&& Int32.toUInt32 31)).toInt32) &&& 1431655765)).toUInt32 >>> ((2 : Int32).toUInt32 &&& Int32.toUInt32 31)).toInt32) &&& 858993459)))]) hx hb dJ6_bitCount_0f7a4_23 rfl hl (by decide) rfl (fun ls hl => ?_)
  refine lv_iload_n hx hb dJ6_bitCount_0f7a4_24 rfl (lv_at hl 0 rfl) ?_
  refine lv_iload_n hx hb dJ6_bitCount_0f7a4_25 rfl (lv_at hl 0 rfl) ?_
  refine lv_iconst (v := 4) hx hb dJ6_bitCount_0f7a4_26 (by decide) ?_
  refine lv_iushr (v := ((((a0 - (((a0.toUInt32 >>> ((1 : Int32).toUInt32 &&& Int32.toUInt32 31)).toInt32) &&& 1431655765)) &&& 858993459) + ((((a0 - (((a0.toUInt32 >>> ((1 : Int32).toUInt32 &&& Int32.toUInt32 31)).toInt32) &&& 1431655765)).toUInt32 >>> ((2 : Int32).toUInt32 &&& Int32.toUInt32 31)).toInt32) &&& 858993459)).toUInt32 >>> ((4 : Int32).toUInt32 &&& Int32.toUInt32 31)).toInt32) hx hb dJ6_bitCount_0f7a4_27 rfl ?_
  refine lv_iadd hx hb dJ6_bitCount_0f7a4_28 ?_
  refine lv_ldcw (v := 252645135) hx hb hown hk2 dJ6_bitCount_0f7a4_29 ?_
  refine lv_iand hx hb dJ6_bitCount_0f7a4_32 ?_
  refine lv_istore_n (lv' := [(0, .int (((((a0 - (((a0.toUInt32 >>> ((1 : Int32).toUInt32 &&& Int32.toUInt32 31)).toInt32) &&& 1431655765)) &&& 858993459) + ((((a0 - (((a0.toUInt32 >>> ((1 : Int32).toUInt32 &&& Int32.toUInt32 31)).toInt32) &&& 1431655765)).toUInt32 >>> ((2 : Int32).toUInt32 &&& Int32.toUInt32 31)).toInt32) &&& 858993459)) + (((((a0 - (((a0.toUInt32 >>> ((1 : Int32).toUInt32 &&& Int32.toUInt32 31)).toInt32) &&& 1431655765)) &&& 858993459) + ((((a0 - (((a0.toUInt32 >>> ((1 : Int32).toUInt32 &&& Int32.toUInt32 31)).toInt32) &&& 1431655765)).toUInt32 >>> ((2 : Int32).toUInt32 &&& Int32.toUInt32 31)).toInt32) &&& 858993459)).toUInt32 >>> ((4 : Int32).toUInt32 &&& Int32.toUInt32 31)).toInt32)) &&& 252645135))]) hx hb dJ6_bitCount_0f7a4_33 rfl hl (by decide) rfl (fun ls hl => ?_)
  refine lv_iload_n hx hb dJ6_bitCount_0f7a4_34 rfl (lv_at hl 0 rfl) ?_
  refine lv_iload_n hx hb dJ6_bitCount_0f7a4_35 rfl (lv_at hl 0 rfl) ?_
  refine lv_bipush (v := 8) hx hb dJ6_bitCount_0f7a4_36 (by decide) ?_
  refine lv_iushr (v := ((((((a0 - (((a0.toUInt32 >>> ((1 : Int32).toUInt32 &&& Int32.toUInt32 31)).toInt32) &&& 1431655765)) &&& 858993459) + ((((a0 - (((a0.toUInt32 >>> ((1 : Int32).toUInt32 &&& Int32.toUInt32 31)).toInt32) &&& 1431655765)).toUInt32 >>> ((2 : Int32).toUInt32 &&& Int32.toUInt32 31)).toInt32) &&& 858993459)) + (((((a0 - (((a0.toUInt32 >>> ((1 : Int32).toUInt32 &&& Int32.toUInt32 31)).toInt32) &&& 1431655765)) &&& 858993459) + ((((a0 - (((a0.toUInt32 >>> ((1 : Int32).toUInt32 &&& Int32.toUInt32 31)).toInt32) &&& 1431655765)).toUInt32 >>> ((2 : Int32).toUInt32 &&& Int32.toUInt32 31)).toInt32) &&& 858993459)).toUInt32 >>> ((4 : Int32).toUInt32 &&& Int32.toUInt32 31)).toInt32)) &&& 252645135).toUInt32 >>> ((8 : Int32).toUInt32 &&& Int32.toUInt32 31)).toInt32) hx hb dJ6_bitCount_0f7a4_38 rfl ?_
  refine lv_iadd hx hb dJ6_bitCount_0f7a4_39 ?_
  refine lv_istore_n (lv' := [(0, .int ((((((a0 - (((a0.toUInt32 >>> ((1 : Int32).toUInt32 &&& Int32.toUInt32 31)).toInt32) &&& 1431655765)) &&& 858993459) + ((((a0 - (((a0.toUInt32 >>> ((1 : Int32).toUInt32 &&& Int32.toUInt32 31)).toInt32) &&& 1431655765)).toUInt32 >>> ((2 : Int32).toUInt32 &&& Int32.toUInt32 31)).toInt32) &&& 858993459)) + (((((a0 - (((a0.toUInt32 >>> ((1 : Int32).toUInt32 &&& Int32.toUInt32 31)).toInt32) &&& 1431655765)) &&& 858993459) + ((((a0 - (((a0.toUInt32 >>> ((1 : Int32).toUInt32 &&& Int32.toUInt32 31)).toInt32) &&& 1431655765)).toUInt32 >>> ((2 : Int32).toUInt32 &&& Int32.toUInt32 31)).toInt32) &&& 858993459)).toUInt32 >>> ((4 : Int32).toUInt32 &&& Int32.toUInt32 31)).toInt32)) &&& 252645135) + (((((((a0 - (((a0.toUInt32 >>> ((1 : Int32).toUInt32 &&& Int32.toUInt32 31)).toInt32) &&& 1431655765)) &&& 858993459) + ((((a0 - (((a0.toUInt32 >>> ((1 : Int32).toUInt32 &&& Int32.toUInt32 31)).toInt32) &&& 1431655765)).toUInt32 >>> ((2 : Int32).toUInt32 &&& Int32.toUInt32 31)).toInt32) &&& 858993459)) + (((((a0 - (((a0.toUInt32 >>> ((1 : Int32).toUInt32 &&& Int32.toUInt32 31)).toInt32) &&& 1431655765)) &&& 858993459) + ((((a0 - (((a0.toUInt32 >>> ((1 : Int32).toUInt32 &&& Int32.toUInt32 31)).toInt32) &&& 1431655765)).toUInt32 >>> ((2 : Int32).toUInt32 &&& Int32.toUInt32 31)).toInt32) &&& 858993459)).toUInt32 >>> ((4 : Int32).toUInt32 &&& Int32.toUInt32 31)).toInt32)) &&& 252645135).toUInt32 >>> ((8 : Int32).toUInt32 &&& Int32.toUInt32 31)).toInt32)))]) hx hb dJ6_bitCount_0f7a4_40 rfl hl (by decide) rfl (fun ls hl => ?_)
  refine lv_iload_n hx hb dJ6_bitCount_0f7a4_41 rfl (lv_at hl 0 rfl) ?_
  refine lv_iload_n hx hb dJ6_bitCount_0f7a4_42 rfl (lv_at hl 0 rfl) ?_
  refine lv_bipush (v := 16) hx hb dJ6_bitCount_0f7a4_43 (by decide) ?_
  refine lv_iushr (v := (((((((a0 - (((a0.toUInt32 >>> ((1 : Int32).toUInt32 &&& Int32.toUInt32 31)).toInt32) &&& 1431655765)) &&& 858993459) + ((((a0 - (((a0.toUInt32 >>> ((1 : Int32).toUInt32 &&& Int32.toUInt32 31)).toInt32) &&& 1431655765)).toUInt32 >>> ((2 : Int32).toUInt32 &&& Int32.toUInt32 31)).toInt32) &&& 858993459)) + (((((a0 - (((a0.toUInt32 >>> ((1 : Int32).toUInt32 &&& Int32.toUInt32 31)).toInt32) &&& 1431655765)) &&& 858993459) + ((((a0 - (((a0.toUInt32 >>> ((1 : Int32).toUInt32 &&& Int32.toUInt32 31)).toInt32) &&& 1431655765)).toUInt32 >>> ((2 : Int32).toUInt32 &&& Int32.toUInt32 31)).toInt32) &&& 858993459)).toUInt32 >>> ((4 : Int32).toUInt32 &&& Int32.toUInt32 31)).toInt32)) &&& 252645135) + (((((((a0 - (((a0.toUInt32 >>> ((1 : Int32).toUInt32 &&& Int32.toUInt32 31)).toInt32) &&& 1431655765)) &&& 858993459) + ((((a0 - (((a0.toUInt32 >>> ((1 : Int32).toUInt32 &&& Int32.toUInt32 31)).toInt32) &&& 1431655765)).toUInt32 >>> ((2 : Int32).toUInt32 &&& Int32.toUInt32 31)).toInt32) &&& 858993459)) + (((((a0 - (((a0.toUInt32 >>> ((1 : Int32).toUInt32 &&& Int32.toUInt32 31)).toInt32) &&& 1431655765)) &&& 858993459) + ((((a0 - (((a0.toUInt32 >>> ((1 : Int32).toUInt32 &&& Int32.toUInt32 31)).toInt32) &&& 1431655765)).toUInt32 >>> ((2 : Int32).toUInt32 &&& Int32.toUInt32 31)).toInt32) &&& 858993459)).toUInt32 >>> ((4 : Int32).toUInt32 &&& Int32.toUInt32 31)).toInt32)) &&& 252645135).toUInt32 >>> ((8 : Int32).toUInt32 &&& Int32.toUInt32 31)).toInt32)).toUInt32 >>> ((16 : Int32).toUInt32 &&& Int32.toUInt32 31)).toInt32) hx hb dJ6_bitCount_0f7a4_45 rfl ?_
  refine lv_iadd hx hb dJ6_bitCount_0f7a4_46 ?_
  refine lv_istore_n (lv' := [(0, .int (((((((a0 - (((a0.toUInt32 >>> ((1 : Int32).toUInt32 &&& Int32.toUInt32 31)).toInt32) &&& 1431655765)) &&& 858993459) + ((((a0 - (((a0.toUInt32 >>> ((1 : Int32).toUInt32 &&& Int32.toUInt32 31)).toInt32) &&& 1431655765)).toUInt32 >>> ((2 : Int32).toUInt32 &&& Int32.toUInt32 31)).toInt32) &&& 858993459)) + (((((a0 - (((a0.toUInt32 >>> ((1 : Int32).toUInt32 &&& Int32.toUInt32 31)).toInt32) &&& 1431655765)) &&& 858993459) + ((((a0 - (((a0.toUInt32 >>> ((1 : Int32).toUInt32 &&& Int32.toUInt32 31)).toInt32) &&& 1431655765)).toUInt32 >>> ((2 : Int32).toUInt32 &&& Int32.toUInt32 31)).toInt32) &&& 858993459)).toUInt32 >>> ((4 : Int32).toUInt32 &&& Int32.toUInt32 31)).toInt32)) &&& 252645135) + (((((((a0 - (((a0.toUInt32 >>> ((1 : Int32).toUInt32 &&& Int32.toUInt32 31)).toInt32) &&& 1431655765)) &&& 858993459) + ((((a0 - (((a0.toUInt32 >>> ((1 : Int32).toUInt32 &&& Int32.toUInt32 31)).toInt32) &&& 1431655765)).toUInt32 >>> ((2 : Int32).toUInt32 &&& Int32.toUInt32 31)).toInt32) &&& 858993459)) + (((((a0 - (((a0.toUInt32 >>> ((1 : Int32).toUInt32 &&& Int32.toUInt32 31)).toInt32) &&& 1431655765)) &&& 858993459) + ((((a0 - (((a0.toUInt32 >>> ((1 : Int32).toUInt32 &&& Int32.toUInt32 31)).toInt32) &&& 1431655765)).toUInt32 >>> ((2 : Int32).toUInt32 &&& Int32.toUInt32 31)).toInt32) &&& 858993459)).toUInt32 >>> ((4 : Int32).toUInt32 &&& Int32.toUInt32 31)).toInt32)) &&& 252645135).toUInt32 >>> ((8 : Int32).toUInt32 &&& Int32.toUInt32 31)).toInt32)) + ((((((((a0 - (((a0.toUInt32 >>> ((1 : Int32).toUInt32 &&& Int32.toUInt32 31)).toInt32) &&& 1431655765)) &&& 858993459) + ((((a0 - (((a0.toUInt32 >>> ((1 : Int32).toUInt32 &&& Int32.toUInt32 31)).toInt32) &&& 1431655765)).toUInt32 >>> ((2 : Int32).toUInt32 &&& Int32.toUInt32 31)).toInt32) &&& 858993459)) + (((((a0 - (((a0.toUInt32 >>> ((1 : Int32).toUInt32 &&& Int32.toUInt32 31)).toInt32) &&& 1431655765)) &&& 858993459) + ((((a0 - (((a0.toUInt32 >>> ((1 : Int32).toUInt32 &&& Int32.toUInt32 31)).toInt32) &&& 1431655765)).toUInt32 >>> ((2 : Int32).toUInt32 &&& Int32.toUInt32 31)).toInt32) &&& 858993459)).toUInt32 >>> ((4 : Int32).toUInt32 &&& Int32.toUInt32 31)).toInt32)) &&& 252645135) + (((((((a0 - (((a0.toUInt32 >>> ((1 : Int32).toUInt32 &&& Int32.toUInt32 31)).toInt32) &&& 1431655765)) &&& 858993459) + ((((a0 - (((a0.toUInt32 >>> ((1 : Int32).toUInt32 &&& Int32.toUInt32 31)).toInt32) &&& 1431655765)).toUInt32 >>> ((2 : Int32).toUInt32 &&& Int32.toUInt32 31)).toInt32) &&& 858993459)) + (((((a0 - (((a0.toUInt32 >>> ((1 : Int32).toUInt32 &&& Int32.toUInt32 31)).toInt32) &&& 1431655765)) &&& 858993459) + ((((a0 - (((a0.toUInt32 >>> ((1 : Int32).toUInt32 &&& Int32.toUInt32 31)).toInt32) &&& 1431655765)).toUInt32 >>> ((2 : Int32).toUInt32 &&& Int32.toUInt32 31)).toInt32) &&& 858993459)).toUInt32 >>> ((4 : Int32).toUInt32 &&& Int32.toUInt32 31)).toInt32)) &&& 252645135).toUInt32 >>> ((8 : Int32).toUInt32 &&& Int32.toUInt32 31)).toInt32)).toUInt32 >>> ((16 : Int32).toUInt32 &&& Int32.toUInt32 31)).toInt32)))]) hx hb dJ6_bitCount_0f7a4_47 rfl hl (by decide) rfl (fun ls hl => ?_)
  refine lv_iload_n hx hb dJ6_bitCount_0f7a4_48 rfl (lv_at hl 0 rfl) ?_
  refine lv_bipush (v := 63) hx hb dJ6_bitCount_0f7a4_49 (by decide) ?_
  refine lv_iand hx hb dJ6_bitCount_0f7a4_51 ?_
  have h := Option.some.inj h
  subst h
  exact hend H locs _ ls hP hD hS dJ6_bitCount_0f7a4_52 trivial
set_option maxHeartbeats 4000000 in
set_option maxRecDepth 100000 in
theorem c_X4_count (l : Launch) (D : va_G) (cI cZ : ClassId) (ad : Nat → Nat) (G_states : Int32) (G_moves : Int32) (G_ends : Int32) (R_found : Int32) (K_found : Int32) (K_closed : Int32) (K_entries : Int32) (K_depth : Int32) (K_opened : Int32) (F_kinds : Nat → Int32) (G_asks : Nat → Int32) (G_isEnd : Nat → Int32) (G_able : Nat → Int32) (G_from : Nat → Int32) (G_to : Nat → Int32) (G_labelOf : Nat → Int32) (G_out : Nat → Int32) (G_start : Nat → Int32) (R_line : Nat → Int32) (R_far : Nat → Int32) (R_lastMove : Nat → Int32) (K_chosen : Nat → Int32) (K_knotOf : Nat → Int32) (K_order : Nat → Int32) (K_entered : Nat → Int32) (K_low : Nat → Int32) (K_nextOut : Nat → Int32) (K_path : Nat → Int32) (K_open : Nat → Int32) (S_size : Nat → Int32) (S_lowest : Nat → Int32) (S_ableInAll : Nat → Int32) (S_inside : Nat → Int32) (S_goesRound : Nat → Int32) (a1 : Int32) (res : Int32 × Int32 × Int32 × Int32 × Int32 × Int32 × Int32 × (Nat → Int32) × (Nat → Int32) × (Nat → Int32) × (Nat → Int32) × (Nat → Int32) × (Nat → Int32) × (Nat → Int32) × (Nat → Int32) × (Nat → Int32) × (Nat → Int32) × (Nat → Int32) × (Nat → Int32) × (Nat → Int32) × (Nat → Int32) × (Nat → Int32) × (Nat → Int32)) (h : fn_X4_count G_states G_moves G_ends R_found K_found K_closed K_entries K_depth K_opened F_kinds G_asks G_isEnd G_able G_from G_to G_labelOf G_out G_start R_line R_far R_lastMove K_chosen K_knotOf K_order K_entered K_low K_nextOut K_path K_open S_size S_lowest S_ableInAll S_inside S_goesRound a1 = some res) : mc_C l yX4_count wv_X4_count { frames := 7, cells := 0, slots := 0, locals := 158 } D [(cI, .int), (cZ, .boolean)] [.ref (ad 0), .int a1] [(kF ad), (kG ad G_states G_moves G_ends), (kR ad R_found), (kK ad K_found K_closed K_entries K_depth K_opened), (kS ad), (kI cI (ad 6) 16 F_kinds), (kI cI (ad 8) 200 G_asks), (kZ cZ (ad 9) 200 G_isEnd), (kI cI (ad 10) 200 G_able), (kI cI (ad 11) 600 G_from), (kI cI (ad 12) 600 G_to), (kI cI (ad 13) 600 G_labelOf), (kI cI (ad 14) 600 G_out), (kI cI (ad 15) 201 G_start), (kI cI (ad 16) 200 R_line), (kI cI (ad 17) 200 R_far), (kI cI (ad 18) 200 R_lastMove), (kZ cZ (ad 19) 200 K_chosen), (kI cI (ad 20) 200 K_knotOf), (kI cI (ad 21) 200 K_order), (kI cI (ad 22) 200 K_entered), (kI cI (ad 23) 200 K_low), (kI cI (ad 24) 200 K_nextOut), (kI cI (ad 25) 200 K_path), (kI cI (ad 26) 200 K_open), (kI cI (ad 27) 200 S_size), (kI cI (ad 28) 200 S_lowest), (kI cI (ad 29) 200 S_ableInAll), (kI cI (ad 30) 200 S_inside), (kZ cZ (ad 31) 200 S_goesRound)] (some (.int res.1)) [(kF ad), (kG ad G_states G_moves G_ends), (kR ad res.2.1), (kK ad res.2.2.1 res.2.2.2.1 res.2.2.2.2.1 res.2.2.2.2.2.1 res.2.2.2.2.2.2.1), (kS ad), (kI cI (ad 6) 16 F_kinds), (kI cI (ad 8) 200 G_asks), (kZ cZ (ad 9) 200 G_isEnd), (kI cI (ad 10) 200 G_able), (kI cI (ad 11) 600 G_from), (kI cI (ad 12) 600 G_to), (kI cI (ad 13) 600 G_labelOf), (kI cI (ad 14) 600 G_out), (kI cI (ad 15) 201 G_start), (kI cI (ad 16) 200 res.2.2.2.2.2.2.2.1), (kI cI (ad 17) 200 res.2.2.2.2.2.2.2.2.1), (kI cI (ad 18) 200 res.2.2.2.2.2.2.2.2.2.1), (kZ cZ (ad 19) 200 res.2.2.2.2.2.2.2.2.2.2.1), (kI cI (ad 20) 200 res.2.2.2.2.2.2.2.2.2.2.2.1), (kI cI (ad 21) 200 res.2.2.2.2.2.2.2.2.2.2.2.2.1), (kI cI (ad 22) 200 res.2.2.2.2.2.2.2.2.2.2.2.2.2.1), (kI cI (ad 23) 200 res.2.2.2.2.2.2.2.2.2.2.2.2.2.2.1), (kI cI (ad 24) 200 res.2.2.2.2.2.2.2.2.2.2.2.2.2.2.2.1), (kI cI (ad 25) 200 res.2.2.2.2.2.2.2.2.2.2.2.2.2.2.2.2.1), (kI cI (ad 26) 200 res.2.2.2.2.2.2.2.2.2.2.2.2.2.2.2.2.2.1), (kI cI (ad 27) 200 res.2.2.2.2.2.2.2.2.2.2.2.2.2.2.2.2.2.2.1), (kI cI (ad 28) 200 res.2.2.2.2.2.2.2.2.2.2.2.2.2.2.2.2.2.2.2.1), (kI cI (ad 29) 200 res.2.2.2.2.2.2.2.2.2.2.2.2.2.2.2.2.2.2.2.2.1), (kI cI (ad 30) 200 res.2.2.2.2.2.2.2.2.2.2.2.2.2.2.2.2.2.2.2.2.2.1), (kZ cZ (ad 31) 200 res.2.2.2.2.2.2.2.2.2.2.2.2.2.2.2.2.2.2.2.2.2.2)] := by
  refine mc_ofi (own := RX4) (by decide) rfl rfl (Nat.le_of_ble_eq_true rfl) ?_
  intro p e s m below meth c A Q ls hx hb hml hown hts hK hP hD hA hl hend
  have hS : va_S A s.heap s.heap [] := va_S.rf
  have hl : lv_has ls 2 [(0, .ref (ad 0)), (1, .int a1)] := hl
  obtain ⟨H, hH⟩ : ∃ H, H = s.heap := ⟨_, rfl⟩
  obtain ⟨locs, hlo⟩ : ∃ locs : List Loc, locs = [] := ⟨_, rfl⟩
  have hS : va_S A s.heap H locs := by rw [hH, hlo]; exact hS
  have hP : va_P D vwCl [(kF ad), (kG ad G_states G_moves G_ends), (kR ad R_found), (kK ad K_found K_closed K_entries K_depth K_opened), (kS ad), (kI cI (ad 6) 16 F_kinds), (kI cI (ad 8) 200 G_asks), (kZ cZ (ad 9) 200 G_isEnd), (kI cI (ad 10) 200 G_able), (kI cI (ad 11) 600 G_from), (kI cI (ad 12) 600 G_to), (kI cI (ad 13) 600 G_labelOf), (kI cI (ad 14) 600 G_out), (kI cI (ad 15) 201 G_start), (kI cI (ad 16) 200 R_line), (kI cI (ad 17) 200 R_far), (kI cI (ad 18) 200 R_lastMove), (kZ cZ (ad 19) 200 K_chosen), (kI cI (ad 20) 200 K_knotOf), (kI cI (ad 21) 200 K_order), (kI cI (ad 22) 200 K_entered), (kI cI (ad 23) 200 K_low), (kI cI (ad 24) 200 K_nextOut), (kI cI (ad 25) 200 K_path), (kI cI (ad 26) 200 K_open), (kI cI (ad 27) 200 S_size), (kI cI (ad 28) 200 S_lowest), (kI cI (ad 29) 200 S_ableInAll), (kI cI (ad 30) 200 S_inside), (kZ cZ (ad 31) 200 S_goesRound)] H := by rw [hH]; exact hP
  suffices h9 : W p l e { frames := 7, cells := 0, slots := 0, locals := 158 } s m ([.ref (ad 0), .int a1] : List Value).toArray below meth c H locs 0 0 Q (F0 m 0 ls []) by rw [hH, hlo] at h9; exact h9
  clear hH hlo
  have hiX0 : ∀ w ∈ wsX00, w ∈ wv_X4_count := fun w h => List.mem_cons_of_mem _ (inlX0 w h)
  have hiX4 : ∀ w ∈ wsX40, w ∈ wv_X4_count := fun w h => List.mem_cons_of_mem _ (inlX4 w h)
  have hk0 := hts (.fieldLink RX4 10 "FairLoops" "graph" "LFairLoops$Graph;") (List.mem_cons_of_mem _ wk_16)
  have hk1 := hts (.fieldLink RX4 51 "FairLoops$Graph" "states" "I") (List.mem_cons_of_mem _ wk_108)
  have hk2 := hts (.fieldLink RX4 75 "FairLoops$Graph" "moves" "I") (List.mem_cons_of_mem _ wk_138)
  have hk3 := hts (.fieldLink RX4 148 "FairLoops$Graph" "ends" "I") (List.mem_cons_of_mem _ wk_492)
  refine lv_iload_n hx hb dX4_count_0 rfl (lv_at hl 1 rfl) ?_
  by_cases c_1_0 : a1 = 0
  · have h := ox_t c_1_0 h
    refine lv_tableIn (tgt := 40) hx hb dX4_count_1 (by rw [c_1_0]; decide) (by rw [c_1_0]; decide) (by rw [c_1_0]; rfl) (by decide) ?_
    refine lv_aload_n hx hb dX4_count_40 rfl (lv_at hl 0 rfl) ?_
    refine va_get (D := D) (ci := 4) (v := .ref (ad 1)) (C := RX4) (T := TX4) (N := 6) hx hb hts hiX4 hown hK hP 0 rfl rfl 0 (by decide) hk0 (fun _ h9 => h9) rfl dX4_count_41 ?_
    refine va_get (D := D) (ci := 0) (v := .int G_states) (C := RX0) (T := TX0) (N := 11) hx hb hts hiX0 hown hK hP 1 rfl rfl 0 (by decide) hk1 (fun _ h9 => h9) rfl dX4_count_44 ?_
    have h := Option.some.inj h
    subst h
    exact hend H locs _ ls hP hD hS dX4_count_47 trivial
  have h := ox_f c_1_0 h
  by_cases c_1_1 : a1 = 1
  · have h := ox_t c_1_1 h
    refine lv_tableIn (tgt := 48) hx hb dX4_count_1 (by rw [c_1_1]; decide) (by rw [c_1_1]; decide) (by rw [c_1_1]; rfl) (by decide) ?_
    refine lv_aload_n hx hb dX4_count_48 rfl (lv_at hl 0 rfl) ?_
    refine va_get (D := D) (ci := 4) (v := .ref (ad 1)) (C := RX4) (T := TX4) (N := 6) hx hb hts hiX4 hown hK hP 0 rfl rfl 0 (by decide) hk0 (fun _ h9 => h9) rfl dX4_count_49 ?_
    refine va_get (D := D) (ci := 0) (v := .int G_moves) (C := RX0) (T := TX0) (N := 11) hx hb hts hiX0 hown hK hP 1 rfl rfl 1 (by decide) hk2 (fun _ h9 => h9) rfl dX4_count_52 ?_
    have h := Option.some.inj h
    subst h
    exact hend H locs _ ls hP hD hS dX4_count_55 trivial
  have h := ox_f c_1_1 h
  by_cases c_1_2 : a1 = 2
  · have h := ox_t c_1_2 h
    refine lv_tableIn (tgt := 56) hx hb dX4_count_1 (by rw [c_1_2]; decide) (by rw [c_1_2]; decide) (by rw [c_1_2]; rfl) (by decide) ?_
    refine lv_aload_n hx hb dX4_count_56 rfl (lv_at hl 0 rfl) ?_
    refine va_get (D := D) (ci := 4) (v := .ref (ad 1)) (C := RX4) (T := TX4) (N := 6) hx hb hts hiX4 hown hK hP 0 rfl rfl 0 (by decide) hk0 (fun _ h9 => h9) rfl dX4_count_57 ?_
    refine va_get (D := D) (ci := 0) (v := .int G_ends) (C := RX0) (T := TX0) (N := 11) hx hb hts hiX0 hown hK hP 1 rfl rfl 2 (by decide) hk3 (fun _ h9 => h9) rfl dX4_count_60 ?_
    have h := Option.some.inj h
    subst h
    exact hend H locs _ ls hP hD hS dX4_count_63 trivial
  have h := ox_f c_1_2 h
  by_cases c_1_3 : a1 = 3
  · have h := ox_t c_1_3 h
    refine lv_tableIn (tgt := 64) hx hb dX4_count_1 (by rw [c_1_3]; decide) (by rw [c_1_3]; decide) (by rw [c_1_3]; rfl) (by decide) ?_
    refine lv_aload_n hx hb dX4_count_64 rfl (lv_at hl 0 rfl) ?_
    refine lv_iconst (v := 1) hx hb dX4_count_65 (by decide) ?_
    obtain ⟨r_66, hc_66, h⟩ := ox_b_of h
    refine mc_callV (As := [.int 1]) (rest := []) (b := ad 0) (Wc := [(kF ad), (kI cI (ad 6) 16 F_kinds)]) (wr := [(kG ad G_states G_moves G_ends), (kR ad R_found), (kK ad K_found K_closed K_entries K_depth K_opened), (kS ad), (kI cI (ad 8) 200 G_asks), (kZ cZ (ad 9) 200 G_isEnd), (kI cI (ad 10) 200 G_able), (kI cI (ad 11) 600 G_from), (kI cI (ad 12) 600 G_to), (kI cI (ad 13) 600 G_labelOf), (kI cI (ad 14) 600 G_out), (kI cI (ad 15) 201 G_start), (kI cI (ad 16) 200 R_line), (kI cI (ad 17) 200 R_far), (kI cI (ad 18) 200 R_lastMove), (kZ cZ (ad 19) 200 K_chosen), (kI cI (ad 20) 200 K_knotOf), (kI cI (ad 21) 200 K_order), (kI cI (ad 22) 200 K_entered), (kI cI (ad 23) 200 K_low), (kI cI (ad 24) 200 K_nextOut), (kI cI (ad 25) 200 K_path), (kI cI (ad 26) 200 K_open), (kI cI (ad 27) 200 S_size), (kI cI (ad 28) 200 S_lowest), (kI cI (ad 29) 200 S_ableInAll), (kI cI (ad 30) 200 S_inside), (kZ cZ (ad 31) 200 S_goesRound)]) (W1 := [(kF ad), (kI cI (ad 6) 16 F_kinds)]) (wn := [(kF ad), (kG ad G_states G_moves G_ends), (kR ad R_found), (kK ad K_found K_closed K_entries K_depth K_opened), (kS ad), (kI cI (ad 6) 16 F_kinds), (kI cI (ad 8) 200 G_asks), (kZ cZ (ad 9) 200 G_isEnd), (kI cI (ad 10) 200 G_able), (kI cI (ad 11) 600 G_from), (kI cI (ad 12) 600 G_to), (kI cI (ad 13) 600 G_labelOf), (kI cI (ad 14) 600 G_out), (kI cI (ad 15) 201 G_start), (kI cI (ad 16) 200 R_line), (kI cI (ad 17) 200 R_far), (kI cI (ad 18) 200 R_lastMove), (kZ cZ (ad 19) 200 K_chosen), (kI cI (ad 20) 200 K_knotOf), (kI cI (ad 21) 200 K_order), (kI cI (ad 22) 200 K_entered), (kI cI (ad 23) 200 K_low), (kI cI (ad 24) 200 K_nextOut), (kI cI (ad 25) 200 K_path), (kI cI (ad 26) 200 K_open), (kI cI (ad 27) 200 S_size), (kI cI (ad 28) 200 S_lowest), (kI cI (ad 29) 200 S_ableInAll), (kI cI (ad 30) 200 S_inside), (kZ cZ (ad 31) 200 S_goesRound)]) (rv := some (.int r_66)) ⟨hx, hb, hml, hown, hts⟩ (c_X4_labelsOfKind l D cI cZ ad F_kinds 1 _ hc_66) (cwV 1 hts (gl_V wk_234 wk_235 wk_236 wk_2 wk_237) rfl rfl rfl (by decide +kernel) ⟨Nat.le_of_ble_eq_true rfl, Nat.le_of_ble_eq_true rfl⟩) hK hP hD hS hA 4 0 rfl rfl rfl [0, 5] [1, 2, 3, 4, 6, 7, 8, 9, 10, 11, 12, 13, 14, 15, 16, 17, 18, 19, 20, 21, 22, 23, 24, 25, 26, 27, 28, 29] [28, 0, 1, 2, 3, 29, 4, 5, 6, 7, 8, 9, 10, 11, 12, 13, 14, 15, 16, 17, 18, 19, 20, 21, 22, 23, 24, 25, 26, 27] rfl rfl (by decide) rfl (by decide) (by decide) rfl rfl (by decide) rfl rfl hl.1 (Nat.le_of_ble_eq_true rfl) dX4_count_66 ⟨Nat.zero_le _, Nat.zero_le _⟩ (fun H locs hP hD hS => ?_)
    show W p l e { frames := 7, cells := 0, slots := 0, locals := 158 } s m ([.ref (ad 0), .int a1] : List Value).toArray below meth c H locs 0 0 Q (F0 m 69 ls [.int r_66])
    obtain ⟨r_69, hc_69, h⟩ := ox_b_of h
    refine mc_callS (As := [.int r_66]) (rest := []) (Wc := []) (wr := [(kF ad), (kG ad G_states G_moves G_ends), (kR ad R_found), (kK ad K_found K_closed K_entries K_depth K_opened), (kS ad), (kI cI (ad 6) 16 F_kinds), (kI cI (ad 8) 200 G_asks), (kZ cZ (ad 9) 200 G_isEnd), (kI cI (ad 10) 200 G_able), (kI cI (ad 11) 600 G_from), (kI cI (ad 12) 600 G_to), (kI cI (ad 13) 600 G_labelOf), (kI cI (ad 14) 600 G_out), (kI cI (ad 15) 201 G_start), (kI cI (ad 16) 200 R_line), (kI cI (ad 17) 200 R_far), (kI cI (ad 18) 200 R_lastMove), (kZ cZ (ad 19) 200 K_chosen), (kI cI (ad 20) 200 K_knotOf), (kI cI (ad 21) 200 K_order), (kI cI (ad 22) 200 K_entered), (kI cI (ad 23) 200 K_low), (kI cI (ad 24) 200 K_nextOut), (kI cI (ad 25) 200 K_path), (kI cI (ad 26) 200 K_open), (kI cI (ad 27) 200 S_size), (kI cI (ad 28) 200 S_lowest), (kI cI (ad 29) 200 S_ableInAll), (kI cI (ad 30) 200 S_inside), (kZ cZ (ad 31) 200 S_goesRound)]) (W1 := []) (wn := [(kF ad), (kG ad G_states G_moves G_ends), (kR ad R_found), (kK ad K_found K_closed K_entries K_depth K_opened), (kS ad), (kI cI (ad 6) 16 F_kinds), (kI cI (ad 8) 200 G_asks), (kZ cZ (ad 9) 200 G_isEnd), (kI cI (ad 10) 200 G_able), (kI cI (ad 11) 600 G_from), (kI cI (ad 12) 600 G_to), (kI cI (ad 13) 600 G_labelOf), (kI cI (ad 14) 600 G_out), (kI cI (ad 15) 201 G_start), (kI cI (ad 16) 200 R_line), (kI cI (ad 17) 200 R_far), (kI cI (ad 18) 200 R_lastMove), (kZ cZ (ad 19) 200 K_chosen), (kI cI (ad 20) 200 K_knotOf), (kI cI (ad 21) 200 K_order), (kI cI (ad 22) 200 K_entered), (kI cI (ad 23) 200 K_low), (kI cI (ad 24) 200 K_nextOut), (kI cI (ad 25) 200 K_path), (kI cI (ad 26) 200 K_open), (kI cI (ad 27) 200 S_size), (kI cI (ad 28) 200 S_lowest), (kI cI (ad 29) 200 S_ableInAll), (kI cI (ad 30) 200 S_inside), (kZ cZ (ad 31) 200 S_goesRound)]) (rv := some (.int r_69)) ⟨hx, hb, hml, hown, hts⟩ (c_J6_bitCount_0f7a4 l D cI cZ ad  r_66 _ hc_69) (va_cwS 1 hts (gl_S wk_493 wk_494 wk_495 wk_496) rfl rfl rfl (by decide +kernel) ⟨Nat.le_of_ble_eq_true rfl, Nat.le_of_ble_eq_true rfl⟩) hK hP hD hS hA [] [0, 1, 2, 3, 4, 5, 6, 7, 8, 9, 10, 11, 12, 13, 14, 15, 16, 17, 18, 19, 20, 21, 22, 23, 24, 25, 26, 27, 28, 29] [0, 1, 2, 3, 4, 5, 6, 7, 8, 9, 10, 11, 12, 13, 14, 15, 16, 17, 18, 19, 20, 21, 22, 23, 24, 25, 26, 27, 28, 29] rfl rfl (by decide) rfl (by decide) (by decide) rfl rfl (by decide) rfl rfl hl.1 (Nat.le_of_ble_eq_true rfl) dX4_count_69 ⟨Nat.zero_le _, Nat.zero_le _⟩ (fun H locs hP hD hS => ?_)
    show W p l e { frames := 7, cells := 0, slots := 0, locals := 158 } s m ([.ref (ad 0), .int a1] : List Value).toArray below meth c H locs 0 0 Q (F0 m 72 ls [.int r_69])
    have h := Option.some.inj h
    subst h
    exact hend H locs _ ls hP hD hS dX4_count_72 trivial
  have h := ox_f c_1_3 h
  by_cases c_1_4 : a1 = 4
  · have h := ox_t c_1_4 h
    refine lv_tableIn (tgt := 73) hx hb dX4_count_1 (by rw [c_1_4]; decide) (by rw [c_1_4]; decide) (by rw [c_1_4]; rfl) (by decide) ?_
    refine lv_aload_n hx hb dX4_count_73 rfl (lv_at hl 0 rfl) ?_
    refine lv_iconst (v := 2) hx hb dX4_count_74 (by decide) ?_
    obtain ⟨r_75, hc_75, h⟩ := ox_b_of h
    refine mc_callV (As := [.int 2]) (rest := []) (b := ad 0) (Wc := [(kF ad), (kI cI (ad 6) 16 F_kinds)]) (wr := [(kG ad G_states G_moves G_ends), (kR ad R_found), (kK ad K_found K_closed K_entries K_depth K_opened), (kS ad), (kI cI (ad 8) 200 G_asks), (kZ cZ (ad 9) 200 G_isEnd), (kI cI (ad 10) 200 G_able), (kI cI (ad 11) 600 G_from), (kI cI (ad 12) 600 G_to), (kI cI (ad 13) 600 G_labelOf), (kI cI (ad 14) 600 G_out), (kI cI (ad 15) 201 G_start), (kI cI (ad 16) 200 R_line), (kI cI (ad 17) 200 R_far), (kI cI (ad 18) 200 R_lastMove), (kZ cZ (ad 19) 200 K_chosen), (kI cI (ad 20) 200 K_knotOf), (kI cI (ad 21) 200 K_order), (kI cI (ad 22) 200 K_entered), (kI cI (ad 23) 200 K_low), (kI cI (ad 24) 200 K_nextOut), (kI cI (ad 25) 200 K_path), (kI cI (ad 26) 200 K_open), (kI cI (ad 27) 200 S_size), (kI cI (ad 28) 200 S_lowest), (kI cI (ad 29) 200 S_ableInAll), (kI cI (ad 30) 200 S_inside), (kZ cZ (ad 31) 200 S_goesRound)]) (W1 := [(kF ad), (kI cI (ad 6) 16 F_kinds)]) (wn := [(kF ad), (kG ad G_states G_moves G_ends), (kR ad R_found), (kK ad K_found K_closed K_entries K_depth K_opened), (kS ad), (kI cI (ad 6) 16 F_kinds), (kI cI (ad 8) 200 G_asks), (kZ cZ (ad 9) 200 G_isEnd), (kI cI (ad 10) 200 G_able), (kI cI (ad 11) 600 G_from), (kI cI (ad 12) 600 G_to), (kI cI (ad 13) 600 G_labelOf), (kI cI (ad 14) 600 G_out), (kI cI (ad 15) 201 G_start), (kI cI (ad 16) 200 R_line), (kI cI (ad 17) 200 R_far), (kI cI (ad 18) 200 R_lastMove), (kZ cZ (ad 19) 200 K_chosen), (kI cI (ad 20) 200 K_knotOf), (kI cI (ad 21) 200 K_order), (kI cI (ad 22) 200 K_entered), (kI cI (ad 23) 200 K_low), (kI cI (ad 24) 200 K_nextOut), (kI cI (ad 25) 200 K_path), (kI cI (ad 26) 200 K_open), (kI cI (ad 27) 200 S_size), (kI cI (ad 28) 200 S_lowest), (kI cI (ad 29) 200 S_ableInAll), (kI cI (ad 30) 200 S_inside), (kZ cZ (ad 31) 200 S_goesRound)]) (rv := some (.int r_75)) ⟨hx, hb, hml, hown, hts⟩ (c_X4_labelsOfKind l D cI cZ ad F_kinds 2 _ hc_75) (cwV 1 hts (gl_V wk_234 wk_235 wk_236 wk_2 wk_237) rfl rfl rfl (by decide +kernel) ⟨Nat.le_of_ble_eq_true rfl, Nat.le_of_ble_eq_true rfl⟩) hK hP hD hS hA 4 0 rfl rfl rfl [0, 5] [1, 2, 3, 4, 6, 7, 8, 9, 10, 11, 12, 13, 14, 15, 16, 17, 18, 19, 20, 21, 22, 23, 24, 25, 26, 27, 28, 29] [28, 0, 1, 2, 3, 29, 4, 5, 6, 7, 8, 9, 10, 11, 12, 13, 14, 15, 16, 17, 18, 19, 20, 21, 22, 23, 24, 25, 26, 27] rfl rfl (by decide) rfl (by decide) (by decide) rfl rfl (by decide) rfl rfl hl.1 (Nat.le_of_ble_eq_true rfl) dX4_count_75 ⟨Nat.zero_le _, Nat.zero_le _⟩ (fun H locs hP hD hS => ?_)
    show W p l e { frames := 7, cells := 0, slots := 0, locals := 158 } s m ([.ref (ad 0), .int a1] : List Value).toArray below meth c H locs 0 0 Q (F0 m 78 ls [.int r_75])
    obtain ⟨r_78, hc_78, h⟩ := ox_b_of h
    refine mc_callS (As := [.int r_75]) (rest := []) (Wc := []) (wr := [(kF ad), (kG ad G_states G_moves G_ends), (kR ad R_found), (kK ad K_found K_closed K_entries K_depth K_opened), (kS ad), (kI cI (ad 6) 16 F_kinds), (kI cI (ad 8) 200 G_asks), (kZ cZ (ad 9) 200 G_isEnd), (kI cI (ad 10) 200 G_able), (kI cI (ad 11) 600 G_from), (kI cI (ad 12) 600 G_to), (kI cI (ad 13) 600 G_labelOf), (kI cI (ad 14) 600 G_out), (kI cI (ad 15) 201 G_start), (kI cI (ad 16) 200 R_line), (kI cI (ad 17) 200 R_far), (kI cI (ad 18) 200 R_lastMove), (kZ cZ (ad 19) 200 K_chosen), (kI cI (ad 20) 200 K_knotOf), (kI cI (ad 21) 200 K_order), (kI cI (ad 22) 200 K_entered), (kI cI (ad 23) 200 K_low), (kI cI (ad 24) 200 K_nextOut), (kI cI (ad 25) 200 K_path), (kI cI (ad 26) 200 K_open), (kI cI (ad 27) 200 S_size), (kI cI (ad 28) 200 S_lowest), (kI cI (ad 29) 200 S_ableInAll), (kI cI (ad 30) 200 S_inside), (kZ cZ (ad 31) 200 S_goesRound)]) (W1 := []) (wn := [(kF ad), (kG ad G_states G_moves G_ends), (kR ad R_found), (kK ad K_found K_closed K_entries K_depth K_opened), (kS ad), (kI cI (ad 6) 16 F_kinds), (kI cI (ad 8) 200 G_asks), (kZ cZ (ad 9) 200 G_isEnd), (kI cI (ad 10) 200 G_able), (kI cI (ad 11) 600 G_from), (kI cI (ad 12) 600 G_to), (kI cI (ad 13) 600 G_labelOf), (kI cI (ad 14) 600 G_out), (kI cI (ad 15) 201 G_start), (kI cI (ad 16) 200 R_line), (kI cI (ad 17) 200 R_far), (kI cI (ad 18) 200 R_lastMove), (kZ cZ (ad 19) 200 K_chosen), (kI cI (ad 20) 200 K_knotOf), (kI cI (ad 21) 200 K_order), (kI cI (ad 22) 200 K_entered), (kI cI (ad 23) 200 K_low), (kI cI (ad 24) 200 K_nextOut), (kI cI (ad 25) 200 K_path), (kI cI (ad 26) 200 K_open), (kI cI (ad 27) 200 S_size), (kI cI (ad 28) 200 S_lowest), (kI cI (ad 29) 200 S_ableInAll), (kI cI (ad 30) 200 S_inside), (kZ cZ (ad 31) 200 S_goesRound)]) (rv := some (.int r_78)) ⟨hx, hb, hml, hown, hts⟩ (c_J6_bitCount_0f7a4 l D cI cZ ad  r_75 _ hc_78) (va_cwS 1 hts (gl_S wk_493 wk_494 wk_495 wk_496) rfl rfl rfl (by decide +kernel) ⟨Nat.le_of_ble_eq_true rfl, Nat.le_of_ble_eq_true rfl⟩) hK hP hD hS hA [] [0, 1, 2, 3, 4, 5, 6, 7, 8, 9, 10, 11, 12, 13, 14, 15, 16, 17, 18, 19, 20, 21, 22, 23, 24, 25, 26, 27, 28, 29] [0, 1, 2, 3, 4, 5, 6, 7, 8, 9, 10, 11, 12, 13, 14, 15, 16, 17, 18, 19, 20, 21, 22, 23, 24, 25, 26, 27, 28, 29] rfl rfl (by decide) rfl (by decide) (by decide) rfl rfl (by decide) rfl rfl hl.1 (Nat.le_of_ble_eq_true rfl) dX4_count_78 ⟨Nat.zero_le _, Nat.zero_le _⟩ (fun H locs hP hD hS => ?_)
    show W p l e { frames := 7, cells := 0, slots := 0, locals := 158 } s m ([.ref (ad 0), .int a1] : List Value).toArray below meth c H locs 0 0 Q (F0 m 81 ls [.int r_78])
    have h := Option.some.inj h
    subst h
    exact hend H locs _ ls hP hD hS dX4_count_81 trivial
  have h := ox_f c_1_4 h
  by_cases c_1_5 : a1 = 5
  · have h := ox_t c_1_5 h
    refine lv_tableIn (tgt := 82) hx hb dX4_count_1 (by rw [c_1_5]; decide) (by rw [c_1_5]; decide) (by rw [c_1_5]; rfl) (by decide) ?_
    refine lv_aload_n hx hb dX4_count_82 rfl (lv_at hl 0 rfl) ?_
    obtain ⟨⟨r_83, R_found_83, K_found_83, K_closed_83, K_entries_83, K_depth_83, K_opened_83, R_line_83, R_far_83, R_lastMove_83, K_chosen_83, K_knotOf_83, K_order_83, K_entered_83, K_low_83, K_nextOut_83, K_path_83, K_open_83, S_size_83, S_lowest_83, S_ableInAll_83, S_inside_83, S_goesRound_83⟩, hc_83, h⟩ := ox_b_of h
    refine mc_callV (As := []) (rest := []) (b := ad 0) (Wc := [(kF ad), (kG ad G_states G_moves G_ends), (kR ad R_found), (kK ad K_found K_closed K_entries K_depth K_opened), (kS ad), (kI cI (ad 6) 16 F_kinds), (kI cI (ad 8) 200 G_asks), (kZ cZ (ad 9) 200 G_isEnd), (kI cI (ad 10) 200 G_able), (kI cI (ad 11) 600 G_from), (kI cI (ad 12) 600 G_to), (kI cI (ad 13) 600 G_labelOf), (kI cI (ad 14) 600 G_out), (kI cI (ad 15) 201 G_start), (kI cI (ad 16) 200 R_line), (kI cI (ad 17) 200 R_far), (kI cI (ad 18) 200 R_lastMove), (kZ cZ (ad 19) 200 K_chosen), (kI cI (ad 20) 200 K_knotOf), (kI cI (ad 21) 200 K_order), (kI cI (ad 22) 200 K_entered), (kI cI (ad 23) 200 K_low), (kI cI (ad 24) 200 K_nextOut), (kI cI (ad 25) 200 K_path), (kI cI (ad 26) 200 K_open), (kI cI (ad 27) 200 S_size), (kI cI (ad 28) 200 S_lowest), (kI cI (ad 29) 200 S_ableInAll), (kI cI (ad 30) 200 S_inside), (kZ cZ (ad 31) 200 S_goesRound)]) (wr := []) (W1 := [(kF ad), (kG ad G_states G_moves G_ends), (kR ad R_found_83), (kK ad K_found_83 K_closed_83 K_entries_83 K_depth_83 K_opened_83), (kS ad), (kI cI (ad 6) 16 F_kinds), (kI cI (ad 8) 200 G_asks), (kZ cZ (ad 9) 200 G_isEnd), (kI cI (ad 10) 200 G_able), (kI cI (ad 11) 600 G_from), (kI cI (ad 12) 600 G_to), (kI cI (ad 13) 600 G_labelOf), (kI cI (ad 14) 600 G_out), (kI cI (ad 15) 201 G_start), (kI cI (ad 16) 200 R_line_83), (kI cI (ad 17) 200 R_far_83), (kI cI (ad 18) 200 R_lastMove_83), (kZ cZ (ad 19) 200 K_chosen_83), (kI cI (ad 20) 200 K_knotOf_83), (kI cI (ad 21) 200 K_order_83), (kI cI (ad 22) 200 K_entered_83), (kI cI (ad 23) 200 K_low_83), (kI cI (ad 24) 200 K_nextOut_83), (kI cI (ad 25) 200 K_path_83), (kI cI (ad 26) 200 K_open_83), (kI cI (ad 27) 200 S_size_83), (kI cI (ad 28) 200 S_lowest_83), (kI cI (ad 29) 200 S_ableInAll_83), (kI cI (ad 30) 200 S_inside_83), (kZ cZ (ad 31) 200 S_goesRound_83)]) (wn := [(kF ad), (kG ad G_states G_moves G_ends), (kR ad R_found_83), (kK ad K_found_83 K_closed_83 K_entries_83 K_depth_83 K_opened_83), (kS ad), (kI cI (ad 6) 16 F_kinds), (kI cI (ad 8) 200 G_asks), (kZ cZ (ad 9) 200 G_isEnd), (kI cI (ad 10) 200 G_able), (kI cI (ad 11) 600 G_from), (kI cI (ad 12) 600 G_to), (kI cI (ad 13) 600 G_labelOf), (kI cI (ad 14) 600 G_out), (kI cI (ad 15) 201 G_start), (kI cI (ad 16) 200 R_line_83), (kI cI (ad 17) 200 R_far_83), (kI cI (ad 18) 200 R_lastMove_83), (kZ cZ (ad 19) 200 K_chosen_83), (kI cI (ad 20) 200 K_knotOf_83), (kI cI (ad 21) 200 K_order_83), (kI cI (ad 22) 200 K_entered_83), (kI cI (ad 23) 200 K_low_83), (kI cI (ad 24) 200 K_nextOut_83), (kI cI (ad 25) 200 K_path_83), (kI cI (ad 26) 200 K_open_83), (kI cI (ad 27) 200 S_size_83), (kI cI (ad 28) 200 S_lowest_83), (kI cI (ad 29) 200 S_ableInAll_83), (kI cI (ad 30) 200 S_inside_83), (kZ cZ (ad 31) 200 S_goesRound_83)]) (rv := some (.int r_83)) ⟨hx, hb, hml, hown, hts⟩ (c_X4_liveAsks l D cI cZ ad G_states G_moves G_ends R_found K_found K_closed K_entries K_depth K_opened F_kinds G_asks G_isEnd G_able G_from G_to G_labelOf G_out G_start R_line R_far R_lastMove K_chosen K_knotOf K_order K_entered K_low K_nextOut K_path K_open S_size S_lowest S_ableInAll S_inside S_goesRound  _ hc_83) (cwV 0 hts (gl_V wk_500 wk_501 wk_502 wk_2 wk_503) rfl rfl rfl (by decide +kernel) ⟨Nat.le_of_ble_eq_true rfl, Nat.le_of_ble_eq_true rfl⟩) hK hP hD hS hA 4 0 rfl rfl rfl [0, 1, 2, 3, 4, 5, 6, 7, 8, 9, 10, 11, 12, 13, 14, 15, 16, 17, 18, 19, 20, 21, 22, 23, 24, 25, 26, 27, 28, 29] [] [0, 1, 2, 3, 4, 5, 6, 7, 8, 9, 10, 11, 12, 13, 14, 15, 16, 17, 18, 19, 20, 21, 22, 23, 24, 25, 26, 27, 28, 29] rfl rfl (by decide) rfl (by decide) (by decide) rfl rfl (by decide) rfl rfl hl.1 (Nat.le_of_ble_eq_true rfl) dX4_count_83 ⟨Nat.zero_le _, Nat.zero_le _⟩ (fun H locs hP hD hS => ?_)
    show W p l e { frames := 7, cells := 0, slots := 0, locals := 158 } s m ([.ref (ad 0), .int a1] : List Value).toArray below meth c H locs 0 0 Q (F0 m 86 ls [.int r_83])
    have h := Option.some.inj h
    subst h
    exact hend H locs _ ls hP hD hS dX4_count_86 trivial
  have h := ox_f c_1_5 h
  refine lv_tableOut (tgt := 87) hx hb dX4_count_1 (ox_out c_1_0 c_1_1 c_1_2 c_1_3 c_1_4 c_1_5) (by decide) ?_
  refine lv_iconst (v := (-1)) hx hb dX4_count_87 (by decide) ?_
  have h := Option.some.inj h
  subst h
  exact hend H locs _ ls hP hD hS dX4_count_88 trivial
