set_option maxHeartbeats 4000000 in
set_option maxRecDepth 100000 in
theorem c_X3_addState (l : Launch) (D : va_G) (cI cZ : ClassId) (ad : Nat → Nat) (S_size : Nat → Int32) (S_lowest : Nat → Int32) (S_ableInAll : Nat → Int32) (a1 : Int32) (a2 : Int32) (a3 : Int32) (res : (Nat → Int32) × (Nat → Int32) × (Nat → Int32)) (h : fn_X3_addState S_size S_lowest S_ableInAll a1 a2 a3 = some res) : mc_C l yX3_addState wv_X3_addState { frames := 0, cells := 0, slots := 0, locals := 0 } D [(cI, .int), (cZ, .boolean)] [.ref (ad 4), .int a1, .int a2, .int a3] [(kS ad), (kI cI (ad 27) 200 S_size), (kI cI (ad 28) 200 S_lowest), (kI cI (ad 29) 200 S_ableInAll)] (none) [(kS ad), (kI cI (ad 27) 200 res.1), (kI cI (ad 28) 200 res.2.1), (kI cI (ad 29) 200 res.2.2)] := by
  refine mc_ofv (own := RX3) (by decide) rfl rfl (Nat.le_of_ble_eq_true rfl) ?_
  intro p e s m below meth c A Q ls hx hb hml hown hts hK hP hD hA hl hend
  have hS : va_S A s.heap s.heap [] := va_S.rf
  have hl : lv_has ls 4 [(0, .ref (ad 4)), (1, .int a1), (2, .int a2), (3, .int a3)] := hl
  obtain ⟨H, hH⟩ : ∃ H, H = s.heap := ⟨_, rfl⟩
  obtain ⟨locs, hlo⟩ : ∃ locs : List Loc, locs = [] := ⟨_, rfl⟩
  have hS : va_S A s.heap H locs := by rw [hH, hlo]; exact hS
  have hP : va_P D vwCl [(kS ad), (kI cI (ad 27) 200 S_size), (kI cI (ad 28) 200 S_lowest), (kI cI (ad 29) 200 S_ableInAll)] H := by rw [hH]; exact hP
  suffices h9 : W p l e { frames := 0, cells := 0, slots := 0, locals := 0 } s m ([.ref (ad 4), .int a1, .int a2, .int a3] : List Value).toArray below meth c H locs 0 0 Q (F0 m 0 ls []) by rw [hH, hlo] at h9; exact h9
  clear hH hlo
  have hiX3 : ∀ w ∈ wsX30, w ∈ wv_X3_addState := fun w h => List.mem_cons_of_mem _ (inlX3 w h)
  have hk0 := hts (.fieldLink RX3 9 "FairLoops$Sums" "size" "[I") (List.mem_cons_of_mem _ wk_64)
  have hk1 := hts (.fieldLink RX3 18 "FairLoops$Sums" "ableInAll" "[I") (List.mem_cons_of_mem _ wk_66)
  have hk2 := hts (.fieldLink RX3 15 "FairLoops$Sums" "lowest" "[I") (List.mem_cons_of_mem _ wk_65)
  refine lv_aload_n hx hb dX3_addState_0 rfl (lv_at hl 0 rfl) ?_
  refine va_get (D := D) (ci := 3) (v := .ref (ad 27)) (C := RX3) (T := TX3) (N := 5) hx hb hts hiX3 hown hK hP 0 rfl rfl 0 (by decide) hk0 (fun _ h9 => h9) rfl dX3_addState_1 ?_
  refine lv_iload_n hx hb dX3_addState_4 rfl (lv_at hl 2 rfl) ?_
  obtain ⟨hi_5, h⟩ := ox_i_of h
  refine va_iald hx hb hK hP 1 0 rfl rfl hi_5 dX3_addState_5 ?_
  have hJ_16 : ∀ (S_lowest_16 : Nat → Int32) (H : Heap) (locs : List Loc) (ls : Array Slot), fn_X3_addState_j16 a2 S_size S_ableInAll a3 S_lowest_16 = some res → va_P D vwCl [(kS ad), (kI cI (ad 27) 200 S_size), (kI cI (ad 28) 200 S_lowest_16), (kI cI (ad 29) 200 S_ableInAll)] H → va_D A [(kS ad), (kI cI (ad 27) 200 S_size), (kI cI (ad 28) 200 S_lowest_16), (kI cI (ad 29) 200 S_ableInAll)] → va_S A s.heap H locs → lv_has ls 4 [(0, .ref (ad 4)), (2, .int a2), (3, .int a3)] → W p l e { frames := 0, cells := 0, slots := 0, locals := 0 } s m ([.ref (ad 4), .int a1, .int a2, .int a3] : List Value).toArray below meth c H locs 0 0 Q (F0 m 16 ls []) := by
    intro S_lowest_16 H locs ls h hP hD hS hl
    refine lv_aload_n hx hb dX3_addState_16 rfl (lv_at hl 0 rfl) ?_
    refine va_get (D := D) (ci := 3) (v := .ref (ad 27)) (C := RX3) (T := TX3) (N := 5) hx hb hts hiX3 hown hK hP 0 rfl rfl 0 (by decide) hk0 (fun _ h9 => h9) rfl dX3_addState_17 ?_
    refine lv_iload_n hx hb dX3_addState_20 rfl (lv_at hl 1 rfl) ?_
    refine lv_dup2_11 hx hb dX3_addState_21 rfl rfl ?_
    obtain ⟨hi_22, h⟩ := ox_i_of h
    refine va_iald hx hb hK hP 1 0 rfl rfl hi_22 dX3_addState_22 ?_
    refine lv_iconst (v := 1) hx hb dX3_addState_23 (by decide) ?_
    refine lv_iadd hx hb dX3_addState_24 ?_
    obtain ⟨hi_25, h⟩ := ox_i_of h
    refine va_iast hx hb hK hP hD hS 1 0 rfl rfl hi_25 dX3_addState_25 (fun H locs hP hD hS => ?_)
    have hP : va_P D vwCl [(kS ad), (kI cI (ad 27) 200 (upd S_size a2.toNatClampNeg ((S_size a2.toNatClampNeg) + 1))), (kI cI (ad 28) 200 S_lowest_16), (kI cI (ad 29) 200 S_ableInAll)] H := hP
    have hD : va_D A [(kS ad), (kI cI (ad 27) 200 (upd S_size a2.toNatClampNeg ((S_size a2.toNatClampNeg) + 1))), (kI cI (ad 28) 200 S_lowest_16), (kI cI (ad 29) 200 S_ableInAll)] := hD
    refine lv_aload_n hx hb dX3_addState_26 rfl (lv_at hl 0 rfl) ?_
    refine va_get (D := D) (ci := 3) (v := .ref (ad 29)) (C := RX3) (T := TX3) (N := 5) hx hb hts hiX3 hown hK hP 0 rfl rfl 2 (by decide) hk1 (fun _ h9 => h9) rfl dX3_addState_27 ?_
    refine lv_iload_n hx hb dX3_addState_30 rfl (lv_at hl 1 rfl) ?_
    refine lv_dup2_11 hx hb dX3_addState_31 rfl rfl ?_
    obtain ⟨hi_32, h⟩ := ox_i_of h
    refine va_iald hx hb hK hP 3 0 rfl rfl hi_32 dX3_addState_32 ?_
    refine lv_iload_n hx hb dX3_addState_33 rfl (lv_at hl 2 rfl) ?_
    refine lv_iand hx hb dX3_addState_34 ?_
    obtain ⟨hi_35, h⟩ := ox_i_of h
    refine va_iast hx hb hK hP hD hS 3 0 rfl rfl hi_35 dX3_addState_35 (fun H locs hP hD hS => ?_)
    have hP : va_P D vwCl [(kS ad), (kI cI (ad 27) 200 (upd S_size a2.toNatClampNeg ((S_size a2.toNatClampNeg) + 1))), (kI cI (ad 28) 200 S_lowest_16), (kI cI (ad 29) 200 (upd S_ableInAll a2.toNatClampNeg ((S_ableInAll a2.toNatClampNeg) &&& a3)))] H := hP
    have hD : va_D A [(kS ad), (kI cI (ad 27) 200 (upd S_size a2.toNatClampNeg ((S_size a2.toNatClampNeg) + 1))), (kI cI (ad 28) 200 S_lowest_16), (kI cI (ad 29) 200 (upd S_ableInAll a2.toNatClampNeg ((S_ableInAll a2.toNatClampNeg) &&& a3)))] := hD
    have h := Option.some.inj h
    subst h
    exact hend H locs _ ls hP hD hS dX3_addState_36 trivial
  refine lv_if_ne (tgt := 16) hx hb dX3_addState_6 (by decide) (fun c_6 => ?_) (fun c_6 => ?_)
  · have h := ox_f c_6 h
    exact hJ_16 S_lowest H locs ls h hP hD hS (lv_sub hl [0, 2, 3] rfl)
  · have h := ox_t c_6 h
    refine lv_aload_n hx hb dX3_addState_9 rfl (lv_at hl 0 rfl) ?_
    refine va_get (D := D) (ci := 3) (v := .ref (ad 28)) (C := RX3) (T := TX3) (N := 5) hx hb hts hiX3 hown hK hP 0 rfl rfl 1 (by decide) hk2 (fun _ h9 => h9) rfl dX3_addState_10 ?_
    refine lv_iload_n hx hb dX3_addState_13 rfl (lv_at hl 2 rfl) ?_
    refine lv_iload_n hx hb dX3_addState_14 rfl (lv_at hl 1 rfl) ?_
    obtain ⟨hi_15, h⟩ := ox_i_of h
    refine va_iast hx hb hK hP hD hS 2 0 rfl rfl hi_15 dX3_addState_15 (fun H locs hP hD hS => ?_)
    have hP : va_P D vwCl [(kS ad), (kI cI (ad 27) 200 S_size), (kI cI (ad 28) 200 (upd S_lowest a2.toNatClampNeg a1)), (kI cI (ad 29) 200 S_ableInAll)] H := hP
    have hD : va_D A [(kS ad), (kI cI (ad 27) 200 S_size), (kI cI (ad 28) 200 (upd S_lowest a2.toNatClampNeg a1)), (kI cI (ad 29) 200 S_ableInAll)] := hD
    exact hJ_16 (upd S_lowest a2.toNatClampNeg a1) H locs ls h hP hD hS (lv_sub hl [0, 2, 3] rfl)
set_option maxHeartbeats 4000000 in
set_option maxRecDepth 100000 in
theorem c_X3_addMove (l : Launch) (D : va_G) (cI cZ : ClassId) (ad : Nat → Nat) (S_inside : Nat → Int32) (S_goesRound : Nat → Int32) (a1 : Int32) (a2 : Int32) (res : (Nat → Int32) × (Nat → Int32)) (h : fn_X3_addMove S_inside S_goesRound a1 a2 = some res) : mc_C l yX3_addMove wv_X3_addMove { frames := 0, cells := 0, slots := 0, locals := 0 } D [(cI, .int), (cZ, .boolean)] [.ref (ad 4), .int a1, .int a2] [(kS ad), (kI cI (ad 30) 200 S_inside), (kZ cZ (ad 31) 200 S_goesRound)] (none) [(kS ad), (kI cI (ad 30) 200 res.1), (kZ cZ (ad 31) 200 res.2)] := by
  refine mc_ofv (own := RX3) (by decide) rfl rfl (Nat.le_of_ble_eq_true rfl) ?_
  intro p e s m below meth c A Q ls hx hb hml hown hts hK hP hD hA hl hend
  have hS : va_S A s.heap s.heap [] := va_S.rf
  have hl : lv_has ls 3 [(0, .ref (ad 4)), (1, .int a1), (2, .int a2)] := hl
  obtain ⟨H, hH⟩ : ∃ H, H = s.heap := ⟨_, rfl⟩
  obtain ⟨locs, hlo⟩ : ∃ locs : List Loc, locs = [] := ⟨_, rfl⟩
  have hS : va_S A s.heap H locs := by rw [hH, hlo]; exact hS
  have hP : va_P D vwCl [(kS ad), (kI cI (ad 30) 200 S_inside), (kZ cZ (ad 31) 200 S_goesRound)] H := by rw [hH]; exact hP
  suffices h9 : W p l e { frames := 0, cells := 0, slots := 0, locals := 0 } s m ([.ref (ad 4), .int a1, .int a2] : List Value).toArray below meth c H locs 0 0 Q (F0 m 0 ls []) by rw [hH, hlo] at h9; exact h9
  clear hH hlo
  have hiX3 : ∀ w ∈ wsX30, w ∈ wv_X3_addMove := fun w h => List.mem_cons_of_mem _ (inlX3 w h)
  have hk0 := hts (.fieldLink RX3 24 "FairLoops$Sums" "goesRound" "[Z") (List.mem_cons_of_mem _ wk_68)
  have hk1 := hts (.fieldLink RX3 21 "FairLoops$Sums" "inside" "[I") (List.mem_cons_of_mem _ wk_67)
  refine lv_aload_n hx hb dX3_addMove_0 rfl (lv_at hl 0 rfl) ?_
  refine va_get (D := D) (ci := 3) (v := .ref (ad 31)) (C := RX3) (T := TX3) (N := 5) hx hb hts hiX3 hown hK hP 0 rfl rfl 4 (by decide) hk0 (fun _ h9 => h9) rfl dX3_addMove_1 ?_
  refine lv_iload_n hx hb dX3_addMove_4 rfl (lv_at hl 1 rfl) ?_
  refine lv_iconst (v := 1) hx hb dX3_addMove_5 (by decide) ?_
  obtain ⟨hi_6, h⟩ := ox_i_of h
  refine va_zast hx hb hK hP hD hS 2 1 rfl rfl hi_6 dX3_addMove_6 (fun H locs hP hD hS => ?_)
  have hP : va_P D vwCl [(kS ad), (kI cI (ad 30) 200 S_inside), (kZ cZ (ad 31) 200 (upd S_goesRound a1.toNatClampNeg (vp_nar .boolean 1)))] H := hP
  have hD : va_D A [(kS ad), (kI cI (ad 30) 200 S_inside), (kZ cZ (ad 31) 200 (upd S_goesRound a1.toNatClampNeg (vp_nar .boolean 1)))] := hD
  refine lv_iload_n hx hb dX3_addMove_7 rfl (lv_at hl 2 rfl) ?_
  refine lv_iconst (v := (-1)) hx hb dX3_addMove_8 (by decide) ?_
  refine lv_icmp_eq (tgt := 24) hx hb dX3_addMove_9 (by decide) (fun c_9 => ?_) (fun c_9 => ?_)
  · have h := ox_t c_9 h
    have h := Option.some.inj h
    subst h
    exact hend H locs _ ls hP hD hS dX3_addMove_24 trivial
  · have h := ox_f c_9 h
    refine lv_aload_n hx hb dX3_addMove_12 rfl (lv_at hl 0 rfl) ?_
    refine va_get (D := D) (ci := 3) (v := .ref (ad 30)) (C := RX3) (T := TX3) (N := 5) hx hb hts hiX3 hown hK hP 0 rfl rfl 3 (by decide) hk1 (fun _ h9 => h9) rfl dX3_addMove_13 ?_
    refine lv_iload_n hx hb dX3_addMove_16 rfl (lv_at hl 1 rfl) ?_
    refine lv_dup2_11 hx hb dX3_addMove_17 rfl rfl ?_
    obtain ⟨hi_18, h⟩ := ox_i_of h
    refine va_iald hx hb hK hP 1 0 rfl rfl hi_18 dX3_addMove_18 ?_
    refine lv_iconst (v := 1) hx hb dX3_addMove_19 (by decide) ?_
    refine lv_iload_n hx hb dX3_addMove_20 rfl (lv_at hl 2 rfl) ?_
    refine lv_ishl hx hb dX3_addMove_21 ?_
    refine lv_ior hx hb dX3_addMove_22 ?_
    obtain ⟨hi_23, h⟩ := ox_i_of h
    refine va_iast hx hb hK hP hD hS 1 0 rfl rfl hi_23 dX3_addMove_23 (fun H locs hP hD hS => ?_)
    have hP : va_P D vwCl [(kS ad), (kI cI (ad 30) 200 (upd S_inside a1.toNatClampNeg ((S_inside a1.toNatClampNeg) ||| (1 <<< (a2 &&& 31))))), (kZ cZ (ad 31) 200 (upd S_goesRound a1.toNatClampNeg (vp_nar .boolean 1)))] H := hP
    have hD : va_D A [(kS ad), (kI cI (ad 30) 200 (upd S_inside a1.toNatClampNeg ((S_inside a1.toNatClampNeg) ||| (1 <<< (a2 &&& 31))))), (kZ cZ (ad 31) 200 (upd S_goesRound a1.toNatClampNeg (vp_nar .boolean 1)))] := hD
    have h := Option.some.inj h
    subst h
    exact hend H locs _ ls hP hD hS dX3_addMove_24 trivial
set_option maxHeartbeats 4000000 in
set_option maxRecDepth 100000 in
theorem c_X3_take (l : Launch) (D : va_G) (cI cZ : ClassId) (ad : Nat → Nat) (G_states : Int32) (G_moves : Int32) (G_ends : Int32) (K_found : Int32) (K_closed : Int32) (K_entries : Int32) (K_depth : Int32) (K_opened : Int32) (G_able : Nat → Int32) (G_from : Nat → Int32) (G_to : Nat → Int32) (G_labelOf : Nat → Int32) (K_chosen : Nat → Int32) (K_knotOf : Nat → Int32) (S_size : Nat → Int32) (S_lowest : Nat → Int32) (S_ableInAll : Nat → Int32) (S_inside : Nat → Int32) (S_goesRound : Nat → Int32) (res : (Nat → Int32) × (Nat → Int32) × (Nat → Int32) × (Nat → Int32) × (Nat → Int32)) (h : fn_X3_take G_states G_moves K_found G_able G_from G_to G_labelOf K_chosen K_knotOf S_size S_lowest S_ableInAll S_inside S_goesRound = some res) : mc_C l yX3_take wv_X3_take { frames := 1, cells := 0, slots := 0, locals := 23 } D [(cI, .int), (cZ, .boolean)] [.ref (ad 4), .ref (ad 1), .ref (ad 3)] [(kG ad G_states G_moves G_ends), (kK ad K_found K_closed K_entries K_depth K_opened), (kS ad), (kI cI (ad 10) 200 G_able), (kI cI (ad 11) 600 G_from), (kI cI (ad 12) 600 G_to), (kI cI (ad 13) 600 G_labelOf), (kZ cZ (ad 19) 200 K_chosen), (kI cI (ad 20) 200 K_knotOf), (kI cI (ad 27) 200 S_size), (kI cI (ad 28) 200 S_lowest), (kI cI (ad 29) 200 S_ableInAll), (kI cI (ad 30) 200 S_inside), (kZ cZ (ad 31) 200 S_goesRound)] (none) [(kG ad G_states G_moves G_ends), (kK ad K_found K_closed K_entries K_depth K_opened), (kS ad), (kI cI (ad 10) 200 G_able), (kI cI (ad 11) 600 G_from), (kI cI (ad 12) 600 G_to), (kI cI (ad 13) 600 G_labelOf), (kZ cZ (ad 19) 200 K_chosen), (kI cI (ad 20) 200 K_knotOf), (kI cI (ad 27) 200 res.1), (kI cI (ad 28) 200 res.2.1), (kI cI (ad 29) 200 res.2.2.1), (kI cI (ad 30) 200 res.2.2.2.1), (kZ cZ (ad 31) 200 res.2.2.2.2)] := by
  refine mc_ofv (own := RX3) (by decide) rfl rfl (Nat.le_of_ble_eq_true rfl) ?_
  intro p e s m below meth c A Q ls hx hb hml hown hts hK hP hD hA hl hend
  have hS : va_S A s.heap s.heap [] := va_S.rf
  have hl : lv_has ls 6 [(0, .ref (ad 4)), (1, .ref (ad 1)), (2, .ref (ad 3))] := hl
  obtain ⟨H, hH⟩ : ∃ H, H = s.heap := ⟨_, rfl⟩
  obtain ⟨locs, hlo⟩ : ∃ locs : List Loc, locs = [] := ⟨_, rfl⟩
  have hS : va_S A s.heap H locs := by rw [hH, hlo]; exact hS
  have hP : va_P D vwCl [(kG ad G_states G_moves G_ends), (kK ad K_found K_closed K_entries K_depth K_opened), (kS ad), (kI cI (ad 10) 200 G_able), (kI cI (ad 11) 600 G_from), (kI cI (ad 12) 600 G_to), (kI cI (ad 13) 600 G_labelOf), (kZ cZ (ad 19) 200 K_chosen), (kI cI (ad 20) 200 K_knotOf), (kI cI (ad 27) 200 S_size), (kI cI (ad 28) 200 S_lowest), (kI cI (ad 29) 200 S_ableInAll), (kI cI (ad 30) 200 S_inside), (kZ cZ (ad 31) 200 S_goesRound)] H := by rw [hH]; exact hP
  suffices h9 : W p l e { frames := 1, cells := 0, slots := 0, locals := 23 } s m ([.ref (ad 4), .ref (ad 1), .ref (ad 3)] : List Value).toArray below meth c H locs 0 0 Q (F0 m 0 ls []) by rw [hH, hlo] at h9; exact h9
  clear hH hlo
  have hiX0 : ∀ w ∈ wsX00, w ∈ wv_X3_take := fun w h => List.mem_cons_of_mem _ (inlX0 w h)
  have hiX1 : ∀ w ∈ wsX10, w ∈ wv_X3_take := fun w h => List.mem_cons_of_mem _ (inlX1 w h)
  have hiX3 : ∀ w ∈ wsX30, w ∈ wv_X3_take := fun w h => List.mem_cons_of_mem _ (inlX3 w h)
  have hk0 := hts (.fieldLink RX3 52 "FairLoops$Graph" "moves" "I") (List.mem_cons_of_mem _ wk_281)
  have hk1 := hts (.fieldLink RX3 55 "FairLoops$Graph" "from" "[I") (List.mem_cons_of_mem _ wk_282)
  have hk2 := hts (.fieldLink RX3 58 "FairLoops$Graph" "to" "[I") (List.mem_cons_of_mem _ wk_283)
  have hk3 := hts (.fieldLink RX3 39 "FairLoops$Knots" "chosen" "[Z") (List.mem_cons_of_mem _ wk_278)
  have hk4 := hts (.fieldLink RX3 42 "FairLoops$Knots" "knotOf" "[I") (List.mem_cons_of_mem _ wk_279)
  have hk5 := hts (.fieldLink RX3 61 "FairLoops$Graph" "labelOf" "[I") (List.mem_cons_of_mem _ wk_284)
  have hk6 := hts (.fieldLink RX3 34 "FairLoops$Graph" "states" "I") (List.mem_cons_of_mem _ wk_277)
  have hk7 := hts (.fieldLink RX3 45 "FairLoops$Graph" "able" "[I") (List.mem_cons_of_mem _ wk_280)
  have hk8 := hts (.fieldLink RX3 28 "FairLoops$Knots" "found" "I") (List.mem_cons_of_mem _ wk_276)
  have hk9 := hts (.fieldLink RX3 9 "FairLoops$Sums" "size" "[I") (List.mem_cons_of_mem _ wk_64)
  have hk10 := hts (.fieldLink RX3 18 "FairLoops$Sums" "ableInAll" "[I") (List.mem_cons_of_mem _ wk_66)
  have hk11 := hts (.fieldLink RX3 21 "FairLoops$Sums" "inside" "[I") (List.mem_cons_of_mem _ wk_67)
  have hk12 := hts (.fieldLink RX3 24 "FairLoops$Sums" "goesRound" "[Z") (List.mem_cons_of_mem _ wk_68)
  refine lv_iconst (v := 0) hx hb dX3_take_0 (by decide) ?_
  refine lv_istore_n (lv' := [(3, .int 0), (0, .ref (ad 4)), (1, .ref (ad 1)), (2, .ref (ad 3))]) hx hb dX3_take_1 rfl hl (by decide) rfl (fun ls hl => ?_)
  obtain ⟨ex_2, hex_2, h_2⟩ := ox_b_of h
  have hX_2 : ∀ (v3_2 : Int32) (S_size_2 : Nat → Int32) (S_ableInAll_2 : Nat → Int32) (S_inside_2 : Nat → Int32) (S_goesRound_2 : Nat → Int32) (H : Heap) (locs : List Loc) (ls : Array Slot), (v3_2, S_size_2, S_ableInAll_2, S_inside_2, S_goesRound_2) = ex_2 → va_P D vwCl [(kG ad G_states G_moves G_ends), (kK ad K_found K_closed K_entries K_depth K_opened), (kS ad), (kI cI (ad 10) 200 G_able), (kI cI (ad 11) 600 G_from), (kI cI (ad 12) 600 G_to), (kI cI (ad 13) 600 G_labelOf), (kZ cZ (ad 19) 200 K_chosen), (kI cI (ad 20) 200 K_knotOf), (kI cI (ad 27) 200 S_size_2), (kI cI (ad 28) 200 S_lowest), (kI cI (ad 29) 200 S_ableInAll_2), (kI cI (ad 30) 200 S_inside_2), (kZ cZ (ad 31) 200 S_goesRound_2)] H → va_D A [(kG ad G_states G_moves G_ends), (kK ad K_found K_closed K_entries K_depth K_opened), (kS ad), (kI cI (ad 10) 200 G_able), (kI cI (ad 11) 600 G_from), (kI cI (ad 12) 600 G_to), (kI cI (ad 13) 600 G_labelOf), (kZ cZ (ad 19) 200 K_chosen), (kI cI (ad 20) 200 K_knotOf), (kI cI (ad 27) 200 S_size_2), (kI cI (ad 28) 200 S_lowest), (kI cI (ad 29) 200 S_ableInAll_2), (kI cI (ad 30) 200 S_inside_2), (kZ cZ (ad 31) 200 S_goesRound_2)] → va_S A s.heap H locs → lv_has ls 6 [(0, .ref (ad 4)), (1, .ref (ad 1)), (2, .ref (ad 3))] → W p l e { frames := 1, cells := 0, slots := 0, locals := 23 } s m ([.ref (ad 4), .ref (ad 1), .ref (ad 3)] : List Value).toArray below meth c H locs 0 0 Q (F0 m 44 ls []) := by
    intro v3_2 S_size_2 S_ableInAll_2 S_inside_2 S_goesRound_2 H locs ls hex_2 hP hD hS hl
    subst hex_2
    have h := h_2
    refine lv_iconst (v := 0) hx hb dX3_take_44 (by decide) ?_
    refine lv_istore_n (lv' := [(3, .int 0), (0, .ref (ad 4)), (1, .ref (ad 1)), (2, .ref (ad 3))]) hx hb dX3_take_45 rfl hl (by decide) rfl (fun ls hl => ?_)
    obtain ⟨ex_46, hex_46, h_46⟩ := ox_b_of h
    have hX_46 : ∀ (v3_46 : Int32) (S_size_46 : Nat → Int32) (S_lowest_46 : Nat → Int32) (S_ableInAll_46 : Nat → Int32) (H : Heap) (locs : List Loc) (ls : Array Slot), (v3_46, S_size_46, S_lowest_46, S_ableInAll_46) = ex_46 → va_P D vwCl [(kG ad G_states G_moves G_ends), (kK ad K_found K_closed K_entries K_depth K_opened), (kS ad), (kI cI (ad 10) 200 G_able), (kI cI (ad 11) 600 G_from), (kI cI (ad 12) 600 G_to), (kI cI (ad 13) 600 G_labelOf), (kZ cZ (ad 19) 200 K_chosen), (kI cI (ad 20) 200 K_knotOf), (kI cI (ad 27) 200 S_size_46), (kI cI (ad 28) 200 S_lowest_46), (kI cI (ad 29) 200 S_ableInAll_46), (kI cI (ad 30) 200 S_inside_2), (kZ cZ (ad 31) 200 S_goesRound_2)] H → va_D A [(kG ad G_states G_moves G_ends), (kK ad K_found K_closed K_entries K_depth K_opened), (kS ad), (kI cI (ad 10) 200 G_able), (kI cI (ad 11) 600 G_from), (kI cI (ad 12) 600 G_to), (kI cI (ad 13) 600 G_labelOf), (kZ cZ (ad 19) 200 K_chosen), (kI cI (ad 20) 200 K_knotOf), (kI cI (ad 27) 200 S_size_46), (kI cI (ad 28) 200 S_lowest_46), (kI cI (ad 29) 200 S_ableInAll_46), (kI cI (ad 30) 200 S_inside_2), (kZ cZ (ad 31) 200 S_goesRound_2)] → va_S A s.heap H locs → lv_has ls 6 [(0, .ref (ad 4)), (1, .ref (ad 1)), (2, .ref (ad 3))] → W p l e { frames := 1, cells := 0, slots := 0, locals := 23 } s m ([.ref (ad 4), .ref (ad 1), .ref (ad 3)] : List Value).toArray below meth c H locs 0 0 Q (F0 m 86 ls []) := by
      intro v3_46 S_size_46 S_lowest_46 S_ableInAll_46 H locs ls hex_46 hP hD hS hl
      subst hex_46
      have h := h_46
      refine lv_iconst (v := 0) hx hb dX3_take_86 (by decide) ?_
      refine lv_istore_n (lv' := [(3, .int 0), (0, .ref (ad 4)), (1, .ref (ad 1)), (2, .ref (ad 3))]) hx hb dX3_take_87 rfl hl (by decide) rfl (fun ls hl => ?_)
      obtain ⟨ex_88, hex_88, h_88⟩ := ox_b_of h
      have hX_88 : ∀ (v3_88 : Int32) (S_inside_88 : Nat → Int32) (S_goesRound_88 : Nat → Int32) (H : Heap) (locs : List Loc) (ls : Array Slot), (v3_88, S_inside_88, S_goesRound_88) = ex_88 → va_P D vwCl [(kG ad G_states G_moves G_ends), (kK ad K_found K_closed K_entries K_depth K_opened), (kS ad), (kI cI (ad 10) 200 G_able), (kI cI (ad 11) 600 G_from), (kI cI (ad 12) 600 G_to), (kI cI (ad 13) 600 G_labelOf), (kZ cZ (ad 19) 200 K_chosen), (kI cI (ad 20) 200 K_knotOf), (kI cI (ad 27) 200 S_size_46), (kI cI (ad 28) 200 S_lowest_46), (kI cI (ad 29) 200 S_ableInAll_46), (kI cI (ad 30) 200 S_inside_88), (kZ cZ (ad 31) 200 S_goesRound_88)] H → va_D A [(kG ad G_states G_moves G_ends), (kK ad K_found K_closed K_entries K_depth K_opened), (kS ad), (kI cI (ad 10) 200 G_able), (kI cI (ad 11) 600 G_from), (kI cI (ad 12) 600 G_to), (kI cI (ad 13) 600 G_labelOf), (kZ cZ (ad 19) 200 K_chosen), (kI cI (ad 20) 200 K_knotOf), (kI cI (ad 27) 200 S_size_46), (kI cI (ad 28) 200 S_lowest_46), (kI cI (ad 29) 200 S_ableInAll_46), (kI cI (ad 30) 200 S_inside_88), (kZ cZ (ad 31) 200 S_goesRound_88)] → va_S A s.heap H locs → lv_has ls 6 [] → W p l e { frames := 1, cells := 0, slots := 0, locals := 23 } s m ([.ref (ad 4), .ref (ad 1), .ref (ad 3)] : List Value).toArray below meth c H locs 0 0 Q (F0 m 172 ls []) := by
        intro v3_88 S_inside_88 S_goesRound_88 H locs ls hex_88 hP hD hS hl
        subst hex_88
        have h := h_88
        have h := Option.some.inj h
        subst h
        exact hend H locs _ ls hP hD hS dX3_take_172 trivial
      have hL_88 : ∀ (n : Nat) (v3_88 : Int32) (S_inside_88 : Nat → Int32) (S_goesRound_88 : Nat → Int32) (H : Heap) (locs : List Loc) (ls : Array Slot), ox_l (fn_X3_take_l88 G_moves G_from K_chosen G_to K_knotOf G_labelOf) n (v3_88, S_inside_88, S_goesRound_88) = some ex_88 → va_P D vwCl [(kG ad G_states G_moves G_ends), (kK ad K_found K_closed K_entries K_depth K_opened), (kS ad), (kI cI (ad 10) 200 G_able), (kI cI (ad 11) 600 G_from), (kI cI (ad 12) 600 G_to), (kI cI (ad 13) 600 G_labelOf), (kZ cZ (ad 19) 200 K_chosen), (kI cI (ad 20) 200 K_knotOf), (kI cI (ad 27) 200 S_size_46), (kI cI (ad 28) 200 S_lowest_46), (kI cI (ad 29) 200 S_ableInAll_46), (kI cI (ad 30) 200 S_inside_88), (kZ cZ (ad 31) 200 S_goesRound_88)] H → va_D A [(kG ad G_states G_moves G_ends), (kK ad K_found K_closed K_entries K_depth K_opened), (kS ad), (kI cI (ad 10) 200 G_able), (kI cI (ad 11) 600 G_from), (kI cI (ad 12) 600 G_to), (kI cI (ad 13) 600 G_labelOf), (kZ cZ (ad 19) 200 K_chosen), (kI cI (ad 20) 200 K_knotOf), (kI cI (ad 27) 200 S_size_46), (kI cI (ad 28) 200 S_lowest_46), (kI cI (ad 29) 200 S_ableInAll_46), (kI cI (ad 30) 200 S_inside_88), (kZ cZ (ad 31) 200 S_goesRound_88)] → va_S A s.heap H locs → lv_has ls 6 [(0, .ref (ad 4)), (1, .ref (ad 1)), (2, .ref (ad 3)), (3, .int v3_88)] → W p l e { frames := 1, cells := 0, slots := 0, locals := 23 } s m ([.ref (ad 4), .ref (ad 1), .ref (ad 3)] : List Value).toArray below meth c H locs 0 0 Q (F0 m 88 ls []) := by
        intro n
        induction n with
        | zero => intro v3_88 S_inside_88 S_goesRound_88 H locs ls hlp; exact ox_l_0 hlp
        | succ n ih_88 =>
          intro v3_88 S_inside_88 S_goesRound_88 H locs ls hlp_88 hP hD hS hl
          obtain ⟨z_88, h, hlp_88⟩ := ox_l_of hlp_88
          refine lv_iload_n hx hb dX3_take_88 rfl (lv_at hl 3 rfl) ?_
          refine lv_aload_n hx hb dX3_take_89 rfl (lv_at hl 1 rfl) ?_
          refine va_get (D := D) (ci := 0) (v := .int G_moves) (C := RX0) (T := TX0) (N := 11) hx hb hts hiX0 hown hK hP 0 rfl rfl 1 (by decide) hk0 (fun _ h9 => h9) rfl dX3_take_90 ?_
          refine lv_icmp_ge (tgt := 172) hx hb dX3_take_93 (by decide) (fun c_93 => ?_) (fun c_93 => ?_)
          · have h := ox_t c_93 h
            obtain rfl := Option.some.inj h
            exact hX_88 v3_88 S_inside_88 S_goesRound_88 H locs ls hlp_88 hP hD hS (lv_sub hl [] rfl)
          · have h := ox_f c_93 h
            refine lv_aload_n hx hb dX3_take_96 rfl (lv_at hl 1 rfl) ?_
            refine va_get (D := D) (ci := 0) (v := .ref (ad 11)) (C := RX0) (T := TX0) (N := 11) hx hb hts hiX0 hown hK hP 0 rfl rfl 6 (by decide) hk1 (fun _ h9 => h9) rfl dX3_take_97 ?_
            refine lv_iload_n hx hb dX3_take_100 rfl (lv_at hl 3 rfl) ?_
            obtain ⟨hi_101, h⟩ := ox_i_of h
            refine va_iald hx hb hK hP 4 0 rfl rfl hi_101 dX3_take_101 ?_
            refine lv_istore (lv' := [(4, .int (G_from v3_88.toNatClampNeg)), (0, .ref (ad 4)), (1, .ref (ad 1)), (2, .ref (ad 3)), (3, .int v3_88)]) hx hb dX3_take_102 hl (by decide) rfl (fun ls hl => ?_)
            refine lv_aload_n hx hb dX3_take_104 rfl (lv_at hl 2 rfl) ?_
            refine va_get (D := D) (ci := 0) (v := .ref (ad 12)) (C := RX0) (T := TX0) (N := 11) hx hb hts hiX0 hown hK hP 0 rfl rfl 7 (by decide) hk2 (fun _ h9 => h9) rfl dX3_take_105 ?_
            refine lv_iload_n hx hb dX3_take_108 rfl (lv_at hl 4 rfl) ?_
            obtain ⟨hi_109, h⟩ := ox_i_of h
            refine va_iald hx hb hK hP 5 0 rfl rfl hi_109 dX3_take_109 ?_
            refine lv_istore (lv' := [(5, .int (G_to v3_88.toNatClampNeg)), (4, .int (G_from v3_88.toNatClampNeg)), (0, .ref (ad 4)), (1, .ref (ad 1)), (2, .ref (ad 3)), (3, .int v3_88)]) hx hb dX3_take_110 hl (by decide) rfl (fun ls hl => ?_)
            refine lv_aload_n hx hb dX3_take_112 rfl (lv_at hl 4 rfl) ?_
            refine va_get (D := D) (ci := 1) (v := .ref (ad 19)) (C := RX1) (T := TX1) (N := 13) hx hb hts hiX1 hown hK hP 1 rfl rfl 0 (by decide) hk3 (fun _ h9 => h9) rfl dX3_take_113 ?_
            refine lv_iload hx hb dX3_take_116 (lv_at hl 1 rfl) ?_
            obtain ⟨hi_118, h⟩ := ox_i_of h
            refine va_zald hx hb hK hP 7 1 rfl rfl hi_118 dX3_take_118 ?_
            refine lv_if_eq (tgt := 166) hx hb dX3_take_119 (by decide) (fun c_119 => ?_) (fun c_119 => ?_)
            · have h := ox_t c_119 h
              refine lv_iinc (v := v3_88 + 1) (lv' := [(3, .int (v3_88 + 1)), (5, .int (G_to v3_88.toNatClampNeg)), (4, .int (G_from v3_88.toNatClampNeg)), (0, .ref (ad 4)), (1, .ref (ad 1)), (2, .ref (ad 3))]) hx hb dX3_take_166 hl (k := 5) rfl rfl (by decide) rfl (fun ls hl => ?_)
              refine lv_goto (tgt := 88) hx hb dX3_take_169 (by decide) ?_
              obtain rfl := Option.some.inj h
              exact ih_88 (v3_88 + 1) S_inside_88 S_goesRound_88 H locs ls hlp_88 hP hD hS (lv_sub hl [3, 4, 5, 0] rfl)
            · have h := ox_f c_119 h
              refine lv_aload_n hx hb dX3_take_122 rfl (lv_at hl 4 rfl) ?_
              refine va_get (D := D) (ci := 1) (v := .ref (ad 19)) (C := RX1) (T := TX1) (N := 13) hx hb hts hiX1 hown hK hP 1 rfl rfl 0 (by decide) hk3 (fun _ h9 => h9) rfl dX3_take_123 ?_
              refine lv_iload hx hb dX3_take_126 (lv_at hl 0 rfl) ?_
              obtain ⟨hi_128, h⟩ := ox_i_of h
              refine va_zald hx hb hK hP 7 1 rfl rfl hi_128 dX3_take_128 ?_
              refine lv_if_eq (tgt := 166) hx hb dX3_take_129 (by decide) (fun c_129 => ?_) (fun c_129 => ?_)
              · have h := ox_t c_129 h
                refine lv_iinc (v := v3_88 + 1) (lv' := [(3, .int (v3_88 + 1)), (5, .int (G_to v3_88.toNatClampNeg)), (4, .int (G_from v3_88.toNatClampNeg)), (0, .ref (ad 4)), (1, .ref (ad 1)), (2, .ref (ad 3))]) hx hb dX3_take_166 hl (k := 5) rfl rfl (by decide) rfl (fun ls hl => ?_)
                refine lv_goto (tgt := 88) hx hb dX3_take_169 (by decide) ?_
                obtain rfl := Option.some.inj h
                exact ih_88 (v3_88 + 1) S_inside_88 S_goesRound_88 H locs ls hlp_88 hP hD hS (lv_sub hl [3, 4, 5, 0] rfl)
              · have h := ox_f c_129 h
                refine lv_aload_n hx hb dX3_take_132 rfl (lv_at hl 4 rfl) ?_
                refine va_get (D := D) (ci := 1) (v := .ref (ad 20)) (C := RX1) (T := TX1) (N := 13) hx hb hts hiX1 hown hK hP 1 rfl rfl 2 (by decide) hk4 (fun _ h9 => h9) rfl dX3_take_133 ?_
                refine lv_iload hx hb dX3_take_136 (lv_at hl 1 rfl) ?_
                obtain ⟨hi_138, h⟩ := ox_i_of h
                refine va_iald hx hb hK hP 8 0 rfl rfl hi_138 dX3_take_138 ?_
                refine lv_aload_n hx hb dX3_take_139 rfl (lv_at hl 4 rfl) ?_
                refine va_get (D := D) (ci := 1) (v := .ref (ad 20)) (C := RX1) (T := TX1) (N := 13) hx hb hts hiX1 hown hK hP 1 rfl rfl 2 (by decide) hk4 (fun _ h9 => h9) rfl dX3_take_140 ?_
                refine lv_iload hx hb dX3_take_143 (lv_at hl 0 rfl) ?_
                obtain ⟨hi_145, h⟩ := ox_i_of h
                refine va_iald hx hb hK hP 8 0 rfl rfl hi_145 dX3_take_145 ?_
                refine lv_icmp_ne (tgt := 166) hx hb dX3_take_146 (by decide) (fun c_146 => ?_) (fun c_146 => ?_)
                · have h := ox_f c_146 h
                  refine lv_iinc (v := v3_88 + 1) (lv' := [(3, .int (v3_88 + 1)), (5, .int (G_to v3_88.toNatClampNeg)), (4, .int (G_from v3_88.toNatClampNeg)), (0, .ref (ad 4)), (1, .ref (ad 1)), (2, .ref (ad 3))]) hx hb dX3_take_166 hl (k := 5) rfl rfl (by decide) rfl (fun ls hl => ?_)
                  refine lv_goto (tgt := 88) hx hb dX3_take_169 (by decide) ?_
                  obtain rfl := Option.some.inj h
                  exact ih_88 (v3_88 + 1) S_inside_88 S_goesRound_88 H locs ls hlp_88 hP hD hS (lv_sub hl [3, 4, 5, 0] rfl)
                · have h := ox_t c_146 h
                  refine lv_aload_n hx hb dX3_take_149 rfl (lv_at hl 2 rfl) ?_
                  refine lv_aload_n hx hb dX3_take_150 rfl (lv_at hl 4 rfl) ?_
                  refine va_get (D := D) (ci := 1) (v := .ref (ad 20)) (C := RX1) (T := TX1) (N := 13) hx hb hts hiX1 hown hK hP 1 rfl rfl 2 (by decide) hk4 (fun _ h9 => h9) rfl dX3_take_151 ?_
                  refine lv_iload hx hb dX3_take_154 (lv_at hl 1 rfl) ?_
                  obtain ⟨hi_156, h⟩ := ox_i_of h
                  refine va_iald hx hb hK hP 8 0 rfl rfl hi_156 dX3_take_156 ?_
                  refine lv_aload_n hx hb dX3_take_157 rfl (lv_at hl 3 rfl) ?_
                  refine va_get (D := D) (ci := 0) (v := .ref (ad 13)) (C := RX0) (T := TX0) (N := 11) hx hb hts hiX0 hown hK hP 0 rfl rfl 8 (by decide) hk5 (fun _ h9 => h9) rfl dX3_take_158 ?_
                  refine lv_iload_n hx hb dX3_take_161 rfl (lv_at hl 5 rfl) ?_
                  obtain ⟨hi_162, h⟩ := ox_i_of h
                  refine va_iald hx hb hK hP 6 0 rfl rfl hi_162 dX3_take_162 ?_
                  obtain ⟨⟨S_inside_163, S_goesRound_163⟩, hc_163, h⟩ := ox_b_of h
                  refine mc_callV (As := [.int (K_knotOf (G_from v3_88.toNatClampNeg).toNatClampNeg), .int (G_labelOf v3_88.toNatClampNeg)]) (rest := []) (b := ad 4) (Wc := [(kS ad), (kI cI (ad 30) 200 S_inside_88), (kZ cZ (ad 31) 200 S_goesRound_88)]) (wr := [(kG ad G_states G_moves G_ends), (kK ad K_found K_closed K_entries K_depth K_opened), (kI cI (ad 10) 200 G_able), (kI cI (ad 11) 600 G_from), (kI cI (ad 12) 600 G_to), (kI cI (ad 13) 600 G_labelOf), (kZ cZ (ad 19) 200 K_chosen), (kI cI (ad 20) 200 K_knotOf), (kI cI (ad 27) 200 S_size_46), (kI cI (ad 28) 200 S_lowest_46), (kI cI (ad 29) 200 S_ableInAll_46)]) (W1 := [(kS ad), (kI cI (ad 30) 200 S_inside_163), (kZ cZ (ad 31) 200 S_goesRound_163)]) (wn := [(kG ad G_states G_moves G_ends), (kK ad K_found K_closed K_entries K_depth K_opened), (kS ad), (kI cI (ad 10) 200 G_able), (kI cI (ad 11) 600 G_from), (kI cI (ad 12) 600 G_to), (kI cI (ad 13) 600 G_labelOf), (kZ cZ (ad 19) 200 K_chosen), (kI cI (ad 20) 200 K_knotOf), (kI cI (ad 27) 200 S_size_46), (kI cI (ad 28) 200 S_lowest_46), (kI cI (ad 29) 200 S_ableInAll_46), (kI cI (ad 30) 200 S_inside_163), (kZ cZ (ad 31) 200 S_goesRound_163)]) (rv := none) ⟨hx, hb, hml, hown, hts⟩ (c_X3_addMove l D cI cZ ad S_inside_88 S_goesRound_88 (K_knotOf (G_from v3_88.toNatClampNeg).toNatClampNeg) (G_labelOf v3_88.toNatClampNeg) _ hc_163) (cwV 2 hts (gl_V wk_289 wk_290 wk_291 wk_29 wk_292) rfl rfl rfl (by decide +kernel) ⟨Nat.le_of_ble_eq_true rfl, Nat.le_of_ble_eq_true rfl⟩) hK hP hD hS hA 3 0 rfl rfl rfl [2, 12, 13] [0, 1, 3, 4, 5, 6, 7, 8, 9, 10, 11] [0, 1, 11, 2, 3, 4, 5, 6, 7, 8, 9, 10, 12, 13] rfl rfl (by decide) rfl (by decide) (by decide) rfl rfl (by decide) rfl rfl hl.1 (Nat.le_of_ble_eq_true rfl) dX3_take_163 ⟨Nat.zero_le _, Nat.zero_le _⟩ (fun H locs hP hD hS => ?_)
                  show W p l e { frames := 1, cells := 0, slots := 0, locals := 23 } s m ([.ref (ad 4), .ref (ad 1), .ref (ad 3)] : List Value).toArray below meth c H locs 0 0 Q (F0 m 166 ls [])
                  refine lv_iinc (v := v3_88 + 1) (lv' := [(3, .int (v3_88 + 1)), (5, .int (G_to v3_88.toNatClampNeg)), (4, .int (G_from v3_88.toNatClampNeg)), (0, .ref (ad 4)), (1, .ref (ad 1)), (2, .ref (ad 3))]) hx hb dX3_take_166 hl (k := 5) rfl rfl (by decide) rfl (fun ls hl => ?_)
                  refine lv_goto (tgt := 88) hx hb dX3_take_169 (by decide) ?_
                  obtain rfl := Option.some.inj h
                  exact ih_88 (v3_88 + 1) S_inside_163 S_goesRound_163 H locs ls hlp_88 hP hD hS (lv_sub hl [3, 4, 5, 0] rfl)
      exact hL_88 1000000 0 S_inside_2 S_goesRound_2 H locs ls hex_88 hP hD hS (lv_sub hl [1, 2, 3, 0] rfl)
    have hL_46 : ∀ (n : Nat) (v3_46 : Int32) (S_size_46 : Nat → Int32) (S_lowest_46 : Nat → Int32) (S_ableInAll_46 : Nat → Int32) (H : Heap) (locs : List Loc) (ls : Array Slot), ox_l (fn_X3_take_l46 G_states K_chosen K_knotOf G_able) n (v3_46, S_size_46, S_lowest_46, S_ableInAll_46) = some ex_46 → va_P D vwCl [(kG ad G_states G_moves G_ends), (kK ad K_found K_closed K_entries K_depth K_opened), (kS ad), (kI cI (ad 10) 200 G_able), (kI cI (ad 11) 600 G_from), (kI cI (ad 12) 600 G_to), (kI cI (ad 13) 600 G_labelOf), (kZ cZ (ad 19) 200 K_chosen), (kI cI (ad 20) 200 K_knotOf), (kI cI (ad 27) 200 S_size_46), (kI cI (ad 28) 200 S_lowest_46), (kI cI (ad 29) 200 S_ableInAll_46), (kI cI (ad 30) 200 S_inside_2), (kZ cZ (ad 31) 200 S_goesRound_2)] H → va_D A [(kG ad G_states G_moves G_ends), (kK ad K_found K_closed K_entries K_depth K_opened), (kS ad), (kI cI (ad 10) 200 G_able), (kI cI (ad 11) 600 G_from), (kI cI (ad 12) 600 G_to), (kI cI (ad 13) 600 G_labelOf), (kZ cZ (ad 19) 200 K_chosen), (kI cI (ad 20) 200 K_knotOf), (kI cI (ad 27) 200 S_size_46), (kI cI (ad 28) 200 S_lowest_46), (kI cI (ad 29) 200 S_ableInAll_46), (kI cI (ad 30) 200 S_inside_2), (kZ cZ (ad 31) 200 S_goesRound_2)] → va_S A s.heap H locs → lv_has ls 6 [(0, .ref (ad 4)), (1, .ref (ad 1)), (2, .ref (ad 3)), (3, .int v3_46)] → W p l e { frames := 1, cells := 0, slots := 0, locals := 23 } s m ([.ref (ad 4), .ref (ad 1), .ref (ad 3)] : List Value).toArray below meth c H locs 0 0 Q (F0 m 46 ls []) := by
      intro n
      induction n with
      | zero => intro v3_46 S_size_46 S_lowest_46 S_ableInAll_46 H locs ls hlp; exact ox_l_0 hlp
      | succ n ih_46 =>
        intro v3_46 S_size_46 S_lowest_46 S_ableInAll_46 H locs ls hlp_46 hP hD hS hl
        obtain ⟨z_46, h, hlp_46⟩ := ox_l_of hlp_46
        refine lv_iload_n hx hb dX3_take_46 rfl (lv_at hl 3 rfl) ?_
        refine lv_aload_n hx hb dX3_take_47 rfl (lv_at hl 1 rfl) ?_
        refine va_get (D := D) (ci := 0) (v := .int G_states) (C := RX0) (T := TX0) (N := 11) hx hb hts hiX0 hown hK hP 0 rfl rfl 0 (by decide) hk6 (fun _ h9 => h9) rfl dX3_take_48 ?_
        refine lv_icmp_ge (tgt := 86) hx hb dX3_take_51 (by decide) (fun c_51 => ?_) (fun c_51 => ?_)
        · have h := ox_t c_51 h
          obtain rfl := Option.some.inj h
          exact hX_46 v3_46 S_size_46 S_lowest_46 S_ableInAll_46 H locs ls hlp_46 hP hD hS (lv_sub hl [0, 1, 2] rfl)
        · have h := ox_f c_51 h
          refine lv_aload_n hx hb dX3_take_54 rfl (lv_at hl 2 rfl) ?_
          refine va_get (D := D) (ci := 1) (v := .ref (ad 19)) (C := RX1) (T := TX1) (N := 13) hx hb hts hiX1 hown hK hP 1 rfl rfl 0 (by decide) hk3 (fun _ h9 => h9) rfl dX3_take_55 ?_
          refine lv_iload_n hx hb dX3_take_58 rfl (lv_at hl 3 rfl) ?_
          obtain ⟨hi_59, h⟩ := ox_i_of h
          refine va_zald hx hb hK hP 7 1 rfl rfl hi_59 dX3_take_59 ?_
          refine lv_if_eq (tgt := 80) hx hb dX3_take_60 (by decide) (fun c_60 => ?_) (fun c_60 => ?_)
          · have h := ox_t c_60 h
            refine lv_iinc (v := v3_46 + 1) (lv' := [(3, .int (v3_46 + 1)), (0, .ref (ad 4)), (1, .ref (ad 1)), (2, .ref (ad 3))]) hx hb dX3_take_80 hl (k := 3) rfl rfl (by decide) rfl (fun ls hl => ?_)
            refine lv_goto (tgt := 46) hx hb dX3_take_83 (by decide) ?_
            obtain rfl := Option.some.inj h
            exact ih_46 (v3_46 + 1) S_size_46 S_lowest_46 S_ableInAll_46 H locs ls hlp_46 hP hD hS (lv_sub hl [1, 2, 3, 0] rfl)
          · have h := ox_f c_60 h
            refine lv_aload_n hx hb dX3_take_63 rfl (lv_at hl 0 rfl) ?_
            refine lv_iload_n hx hb dX3_take_64 rfl (lv_at hl 3 rfl) ?_
            refine lv_aload_n hx hb dX3_take_65 rfl (lv_at hl 2 rfl) ?_
            refine va_get (D := D) (ci := 1) (v := .ref (ad 20)) (C := RX1) (T := TX1) (N := 13) hx hb hts hiX1 hown hK hP 1 rfl rfl 2 (by decide) hk4 (fun _ h9 => h9) rfl dX3_take_66 ?_
            refine lv_iload_n hx hb dX3_take_69 rfl (lv_at hl 3 rfl) ?_
            obtain ⟨hi_70, h⟩ := ox_i_of h
            refine va_iald hx hb hK hP 8 0 rfl rfl hi_70 dX3_take_70 ?_
            refine lv_aload_n hx hb dX3_take_71 rfl (lv_at hl 1 rfl) ?_
            refine va_get (D := D) (ci := 0) (v := .ref (ad 10)) (C := RX0) (T := TX0) (N := 11) hx hb hts hiX0 hown hK hP 0 rfl rfl 5 (by decide) hk7 (fun _ h9 => h9) rfl dX3_take_72 ?_
            refine lv_iload_n hx hb dX3_take_75 rfl (lv_at hl 3 rfl) ?_
            obtain ⟨hi_76, h⟩ := ox_i_of h
            refine va_iald hx hb hK hP 3 0 rfl rfl hi_76 dX3_take_76 ?_
            obtain ⟨⟨S_size_77, S_lowest_77, S_ableInAll_77⟩, hc_77, h⟩ := ox_b_of h
            refine mc_callV (As := [.int v3_46, .int (K_knotOf v3_46.toNatClampNeg), .int (G_able v3_46.toNatClampNeg)]) (rest := []) (b := ad 4) (Wc := [(kS ad), (kI cI (ad 27) 200 S_size_46), (kI cI (ad 28) 200 S_lowest_46), (kI cI (ad 29) 200 S_ableInAll_46)]) (wr := [(kG ad G_states G_moves G_ends), (kK ad K_found K_closed K_entries K_depth K_opened), (kI cI (ad 10) 200 G_able), (kI cI (ad 11) 600 G_from), (kI cI (ad 12) 600 G_to), (kI cI (ad 13) 600 G_labelOf), (kZ cZ (ad 19) 200 K_chosen), (kI cI (ad 20) 200 K_knotOf), (kI cI (ad 30) 200 S_inside_2), (kZ cZ (ad 31) 200 S_goesRound_2)]) (W1 := [(kS ad), (kI cI (ad 27) 200 S_size_77), (kI cI (ad 28) 200 S_lowest_77), (kI cI (ad 29) 200 S_ableInAll_77)]) (wn := [(kG ad G_states G_moves G_ends), (kK ad K_found K_closed K_entries K_depth K_opened), (kS ad), (kI cI (ad 10) 200 G_able), (kI cI (ad 11) 600 G_from), (kI cI (ad 12) 600 G_to), (kI cI (ad 13) 600 G_labelOf), (kZ cZ (ad 19) 200 K_chosen), (kI cI (ad 20) 200 K_knotOf), (kI cI (ad 27) 200 S_size_77), (kI cI (ad 28) 200 S_lowest_77), (kI cI (ad 29) 200 S_ableInAll_77), (kI cI (ad 30) 200 S_inside_2), (kZ cZ (ad 31) 200 S_goesRound_2)]) (rv := none) ⟨hx, hb, hml, hown, hts⟩ (c_X3_addState l D cI cZ ad S_size_46 S_lowest_46 S_ableInAll_46 v3_46 (K_knotOf v3_46.toNatClampNeg) (G_able v3_46.toNatClampNeg) _ hc_77) (cwV 3 hts (gl_V wk_285 wk_286 wk_287 wk_29 wk_288) rfl rfl rfl (by decide +kernel) ⟨Nat.le_of_ble_eq_true rfl, Nat.le_of_ble_eq_true rfl⟩) hK hP hD hS hA 3 0 rfl rfl rfl [2, 9, 10, 11] [0, 1, 3, 4, 5, 6, 7, 8, 12, 13] [0, 1, 10, 2, 3, 4, 5, 6, 7, 11, 12, 13, 8, 9] rfl rfl (by decide) rfl (by decide) (by decide) rfl rfl (by decide) rfl rfl hl.1 (Nat.le_of_ble_eq_true rfl) dX3_take_77 ⟨Nat.zero_le _, Nat.zero_le _⟩ (fun H locs hP hD hS => ?_)
            show W p l e { frames := 1, cells := 0, slots := 0, locals := 23 } s m ([.ref (ad 4), .ref (ad 1), .ref (ad 3)] : List Value).toArray below meth c H locs 0 0 Q (F0 m 80 ls [])
            refine lv_iinc (v := v3_46 + 1) (lv' := [(3, .int (v3_46 + 1)), (0, .ref (ad 4)), (1, .ref (ad 1)), (2, .ref (ad 3))]) hx hb dX3_take_80 hl (k := 3) rfl rfl (by decide) rfl (fun ls hl => ?_)
            refine lv_goto (tgt := 46) hx hb dX3_take_83 (by decide) ?_
            obtain rfl := Option.some.inj h
            exact ih_46 (v3_46 + 1) S_size_77 S_lowest_77 S_ableInAll_77 H locs ls hlp_46 hP hD hS (lv_sub hl [1, 2, 3, 0] rfl)
    exact hL_46 1000000 0 S_size_2 S_lowest S_ableInAll_2 H locs ls hex_46 hP hD hS (lv_sub hl [1, 2, 3, 0] rfl)
  have hL_2 : ∀ (n : Nat) (v3_2 : Int32) (S_size_2 : Nat → Int32) (S_ableInAll_2 : Nat → Int32) (S_inside_2 : Nat → Int32) (S_goesRound_2 : Nat → Int32) (H : Heap) (locs : List Loc) (ls : Array Slot), ox_l (fn_X3_take_l2 K_found) n (v3_2, S_size_2, S_ableInAll_2, S_inside_2, S_goesRound_2) = some ex_2 → va_P D vwCl [(kG ad G_states G_moves G_ends), (kK ad K_found K_closed K_entries K_depth K_opened), (kS ad), (kI cI (ad 10) 200 G_able), (kI cI (ad 11) 600 G_from), (kI cI (ad 12) 600 G_to), (kI cI (ad 13) 600 G_labelOf), (kZ cZ (ad 19) 200 K_chosen), (kI cI (ad 20) 200 K_knotOf), (kI cI (ad 27) 200 S_size_2), (kI cI (ad 28) 200 S_lowest), (kI cI (ad 29) 200 S_ableInAll_2), (kI cI (ad 30) 200 S_inside_2), (kZ cZ (ad 31) 200 S_goesRound_2)] H → va_D A [(kG ad G_states G_moves G_ends), (kK ad K_found K_closed K_entries K_depth K_opened), (kS ad), (kI cI (ad 10) 200 G_able), (kI cI (ad 11) 600 G_from), (kI cI (ad 12) 600 G_to), (kI cI (ad 13) 600 G_labelOf), (kZ cZ (ad 19) 200 K_chosen), (kI cI (ad 20) 200 K_knotOf), (kI cI (ad 27) 200 S_size_2), (kI cI (ad 28) 200 S_lowest), (kI cI (ad 29) 200 S_ableInAll_2), (kI cI (ad 30) 200 S_inside_2), (kZ cZ (ad 31) 200 S_goesRound_2)] → va_S A s.heap H locs → lv_has ls 6 [(0, .ref (ad 4)), (1, .ref (ad 1)), (2, .ref (ad 3)), (3, .int v3_2)] → W p l e { frames := 1, cells := 0, slots := 0, locals := 23 } s m ([.ref (ad 4), .ref (ad 1), .ref (ad 3)] : List Value).toArray below meth c H locs 0 0 Q (F0 m 2 ls []) := by
    intro n
    induction n with
    | zero => intro v3_2 S_size_2 S_ableInAll_2 S_inside_2 S_goesRound_2 H locs ls hlp; exact ox_l_0 hlp
    | succ n ih_2 =>
      intro v3_2 S_size_2 S_ableInAll_2 S_inside_2 S_goesRound_2 H locs ls hlp_2 hP hD hS hl
      obtain ⟨z_2, h, hlp_2⟩ := ox_l_of hlp_2
      refine lv_iload_n hx hb dX3_take_2 rfl (lv_at hl 3 rfl) ?_
      refine lv_aload_n hx hb dX3_take_3 rfl (lv_at hl 2 rfl) ?_
      refine va_get (D := D) (ci := 1) (v := .int K_found) (C := RX1) (T := TX1) (N := 13) hx hb hts hiX1 hown hK hP 1 rfl rfl 1 (by decide) hk8 (fun _ h9 => h9) rfl dX3_take_4 ?_
      refine lv_icmp_ge (tgt := 44) hx hb dX3_take_7 (by decide) (fun c_7 => ?_) (fun c_7 => ?_)
      · have h := ox_t c_7 h
        obtain rfl := Option.some.inj h
        exact hX_2 v3_2 S_size_2 S_ableInAll_2 S_inside_2 S_goesRound_2 H locs ls hlp_2 hP hD hS (lv_sub hl [0, 1, 2] rfl)
      · have h := ox_f c_7 h
        refine lv_aload_n hx hb dX3_take_10 rfl (lv_at hl 0 rfl) ?_
        refine va_get (D := D) (ci := 3) (v := .ref (ad 27)) (C := RX3) (T := TX3) (N := 5) hx hb hts hiX3 hown hK hP 2 rfl rfl 0 (by decide) hk9 (fun _ h9 => h9) rfl dX3_take_11 ?_
        refine lv_iload_n hx hb dX3_take_14 rfl (lv_at hl 3 rfl) ?_
        refine lv_iconst (v := 0) hx hb dX3_take_15 (by decide) ?_
        obtain ⟨hi_16, h⟩ := ox_i_of h
        refine va_iast hx hb hK hP hD hS 9 0 rfl rfl hi_16 dX3_take_16 (fun H locs hP hD hS => ?_)
        have hP : va_P D vwCl [(kG ad G_states G_moves G_ends), (kK ad K_found K_closed K_entries K_depth K_opened), (kS ad), (kI cI (ad 10) 200 G_able), (kI cI (ad 11) 600 G_from), (kI cI (ad 12) 600 G_to), (kI cI (ad 13) 600 G_labelOf), (kZ cZ (ad 19) 200 K_chosen), (kI cI (ad 20) 200 K_knotOf), (kI cI (ad 27) 200 (upd S_size_2 v3_2.toNatClampNeg 0)), (kI cI (ad 28) 200 S_lowest), (kI cI (ad 29) 200 S_ableInAll_2), (kI cI (ad 30) 200 S_inside_2), (kZ cZ (ad 31) 200 S_goesRound_2)] H := hP
        have hD : va_D A [(kG ad G_states G_moves G_ends), (kK ad K_found K_closed K_entries K_depth K_opened), (kS ad), (kI cI (ad 10) 200 G_able), (kI cI (ad 11) 600 G_from), (kI cI (ad 12) 600 G_to), (kI cI (ad 13) 600 G_labelOf), (kZ cZ (ad 19) 200 K_chosen), (kI cI (ad 20) 200 K_knotOf), (kI cI (ad 27) 200 (upd S_size_2 v3_2.toNatClampNeg 0)), (kI cI (ad 28) 200 S_lowest), (kI cI (ad 29) 200 S_ableInAll_2), (kI cI (ad 30) 200 S_inside_2), (kZ cZ (ad 31) 200 S_goesRound_2)] := hD
        refine lv_aload_n hx hb dX3_take_17 rfl (lv_at hl 0 rfl) ?_
        refine va_get (D := D) (ci := 3) (v := .ref (ad 29)) (C := RX3) (T := TX3) (N := 5) hx hb hts hiX3 hown hK hP 2 rfl rfl 2 (by decide) hk10 (fun _ h9 => h9) rfl dX3_take_18 ?_
        refine lv_iload_n hx hb dX3_take_21 rfl (lv_at hl 3 rfl) ?_
        refine lv_iconst (v := (-1)) hx hb dX3_take_22 (by decide) ?_
        obtain ⟨hi_23, h⟩ := ox_i_of h
        refine va_iast hx hb hK hP hD hS 11 0 rfl rfl hi_23 dX3_take_23 (fun H locs hP hD hS => ?_)
        have hP : va_P D vwCl [(kG ad G_states G_moves G_ends), (kK ad K_found K_closed K_entries K_depth K_opened), (kS ad), (kI cI (ad 10) 200 G_able), (kI cI (ad 11) 600 G_from), (kI cI (ad 12) 600 G_to), (kI cI (ad 13) 600 G_labelOf), (kZ cZ (ad 19) 200 K_chosen), (kI cI (ad 20) 200 K_knotOf), (kI cI (ad 27) 200 (upd S_size_2 v3_2.toNatClampNeg 0)), (kI cI (ad 28) 200 S_lowest), (kI cI (ad 29) 200 (upd S_ableInAll_2 v3_2.toNatClampNeg (-1))), (kI cI (ad 30) 200 S_inside_2), (kZ cZ (ad 31) 200 S_goesRound_2)] H := hP
        have hD : va_D A [(kG ad G_states G_moves G_ends), (kK ad K_found K_closed K_entries K_depth K_opened), (kS ad), (kI cI (ad 10) 200 G_able), (kI cI (ad 11) 600 G_from), (kI cI (ad 12) 600 G_to), (kI cI (ad 13) 600 G_labelOf), (kZ cZ (ad 19) 200 K_chosen), (kI cI (ad 20) 200 K_knotOf), (kI cI (ad 27) 200 (upd S_size_2 v3_2.toNatClampNeg 0)), (kI cI (ad 28) 200 S_lowest), (kI cI (ad 29) 200 (upd S_ableInAll_2 v3_2.toNatClampNeg (-1))), (kI cI (ad 30) 200 S_inside_2), (kZ cZ (ad 31) 200 S_goesRound_2)] := hD
        refine lv_aload_n hx hb dX3_take_24 rfl (lv_at hl 0 rfl) ?_
        refine va_get (D := D) (ci := 3) (v := .ref (ad 30)) (C := RX3) (T := TX3) (N := 5) hx hb hts hiX3 hown hK hP 2 rfl rfl 3 (by decide) hk11 (fun _ h9 => h9) rfl dX3_take_25 ?_
        refine lv_iload_n hx hb dX3_take_28 rfl (lv_at hl 3 rfl) ?_
        refine lv_iconst (v := 0) hx hb dX3_take_29 (by decide) ?_
        obtain ⟨hi_30, h⟩ := ox_i_of h
        refine va_iast hx hb hK hP hD hS 12 0 rfl rfl hi_30 dX3_take_30 (fun H locs hP hD hS => ?_)
        have hP : va_P D vwCl [(kG ad G_states G_moves G_ends), (kK ad K_found K_closed K_entries K_depth K_opened), (kS ad), (kI cI (ad 10) 200 G_able), (kI cI (ad 11) 600 G_from), (kI cI (ad 12) 600 G_to), (kI cI (ad 13) 600 G_labelOf), (kZ cZ (ad 19) 200 K_chosen), (kI cI (ad 20) 200 K_knotOf), (kI cI (ad 27) 200 (upd S_size_2 v3_2.toNatClampNeg 0)), (kI cI (ad 28) 200 S_lowest), (kI cI (ad 29) 200 (upd S_ableInAll_2 v3_2.toNatClampNeg (-1))), (kI cI (ad 30) 200 (upd S_inside_2 v3_2.toNatClampNeg 0)), (kZ cZ (ad 31) 200 S_goesRound_2)] H := hP
        have hD : va_D A [(kG ad G_states G_moves G_ends), (kK ad K_found K_closed K_entries K_depth K_opened), (kS ad), (kI cI (ad 10) 200 G_able), (kI cI (ad 11) 600 G_from), (kI cI (ad 12) 600 G_to), (kI cI (ad 13) 600 G_labelOf), (kZ cZ (ad 19) 200 K_chosen), (kI cI (ad 20) 200 K_knotOf), (kI cI (ad 27) 200 (upd S_size_2 v3_2.toNatClampNeg 0)), (kI cI (ad 28) 200 S_lowest), (kI cI (ad 29) 200 (upd S_ableInAll_2 v3_2.toNatClampNeg (-1))), (kI cI (ad 30) 200 (upd S_inside_2 v3_2.toNatClampNeg 0)), (kZ cZ (ad 31) 200 S_goesRound_2)] := hD
        refine lv_aload_n hx hb dX3_take_31 rfl (lv_at hl 0 rfl) ?_
        refine va_get (D := D) (ci := 3) (v := .ref (ad 31)) (C := RX3) (T := TX3) (N := 5) hx hb hts hiX3 hown hK hP 2 rfl rfl 4 (by decide) hk12 (fun _ h9 => h9) rfl dX3_take_32 ?_
        refine lv_iload_n hx hb dX3_take_35 rfl (lv_at hl 3 rfl) ?_
        refine lv_iconst (v := 0) hx hb dX3_take_36 (by decide) ?_
        obtain ⟨hi_37, h⟩ := ox_i_of h
        refine va_zast hx hb hK hP hD hS 13 1 rfl rfl hi_37 dX3_take_37 (fun H locs hP hD hS => ?_)
        have hP : va_P D vwCl [(kG ad G_states G_moves G_ends), (kK ad K_found K_closed K_entries K_depth K_opened), (kS ad), (kI cI (ad 10) 200 G_able), (kI cI (ad 11) 600 G_from), (kI cI (ad 12) 600 G_to), (kI cI (ad 13) 600 G_labelOf), (kZ cZ (ad 19) 200 K_chosen), (kI cI (ad 20) 200 K_knotOf), (kI cI (ad 27) 200 (upd S_size_2 v3_2.toNatClampNeg 0)), (kI cI (ad 28) 200 S_lowest), (kI cI (ad 29) 200 (upd S_ableInAll_2 v3_2.toNatClampNeg (-1))), (kI cI (ad 30) 200 (upd S_inside_2 v3_2.toNatClampNeg 0)), (kZ cZ (ad 31) 200 (upd S_goesRound_2 v3_2.toNatClampNeg (vp_nar .boolean 0)))] H := hP
        have hD : va_D A [(kG ad G_states G_moves G_ends), (kK ad K_found K_closed K_entries K_depth K_opened), (kS ad), (kI cI (ad 10) 200 G_able), (kI cI (ad 11) 600 G_from), (kI cI (ad 12) 600 G_to), (kI cI (ad 13) 600 G_labelOf), (kZ cZ (ad 19) 200 K_chosen), (kI cI (ad 20) 200 K_knotOf), (kI cI (ad 27) 200 (upd S_size_2 v3_2.toNatClampNeg 0)), (kI cI (ad 28) 200 S_lowest), (kI cI (ad 29) 200 (upd S_ableInAll_2 v3_2.toNatClampNeg (-1))), (kI cI (ad 30) 200 (upd S_inside_2 v3_2.toNatClampNeg 0)), (kZ cZ (ad 31) 200 (upd S_goesRound_2 v3_2.toNatClampNeg (vp_nar .boolean 0)))] := hD
        refine lv_iinc (v := v3_2 + 1) (lv' := [(3, .int (v3_2 + 1)), (0, .ref (ad 4)), (1, .ref (ad 1)), (2, .ref (ad 3))]) hx hb dX3_take_38 hl (k := 3) rfl rfl (by decide) rfl (fun ls hl => ?_)
        refine lv_goto (tgt := 2) hx hb dX3_take_41 (by decide) ?_
        obtain rfl := Option.some.inj h
        exact ih_2 (v3_2 + 1) (upd S_size_2 v3_2.toNatClampNeg 0) (upd S_ableInAll_2 v3_2.toNatClampNeg (-1)) (upd S_inside_2 v3_2.toNatClampNeg 0) (upd S_goesRound_2 v3_2.toNatClampNeg (vp_nar .boolean 0)) H locs ls hlp_2 hP hD hS (lv_sub hl [1, 2, 3, 0] rfl)
  exact hL_2 1000000 0 S_size S_ableInAll S_inside S_goesRound H locs ls hex_2 hP hD hS (lv_sub hl [1, 2, 3, 0] rfl)
set_option maxHeartbeats 4000000 in
set_option maxRecDepth 100000 in
theorem c_X3_largestSize (l : Launch) (D : va_G) (cI cZ : ClassId) (ad : Nat → Nat) (S_size : Nat → Int32) (S_goesRound : Nat → Int32) (a1 : Int32) (res : Int32) (h : fn_X3_largestSize S_size S_goesRound a1 = some res) : mc_C l yX3_largestSize wv_X3_largestSize { frames := 0, cells := 0, slots := 0, locals := 0 } D [(cI, .int), (cZ, .boolean)] [.ref (ad 4), .int a1] [(kS ad), (kI cI (ad 27) 200 S_size), (kZ cZ (ad 31) 200 S_goesRound)] (some (.int res)) [(kS ad), (kI cI (ad 27) 200 S_size), (kZ cZ (ad 31) 200 S_goesRound)] := by
  refine mc_ofi (own := RX3) (by decide) rfl rfl (Nat.le_of_ble_eq_true rfl) ?_
  intro p e s m below meth c A Q ls hx hb hml hown hts hK hP hD hA hl hend
  have hS : va_S A s.heap s.heap [] := va_S.rf
  have hl : lv_has ls 4 [(0, .ref (ad 4)), (1, .int a1)] := hl
  obtain ⟨H, hH⟩ : ∃ H, H = s.heap := ⟨_, rfl⟩
  obtain ⟨locs, hlo⟩ : ∃ locs : List Loc, locs = [] := ⟨_, rfl⟩
  have hS : va_S A s.heap H locs := by rw [hH, hlo]; exact hS
  have hP : va_P D vwCl [(kS ad), (kI cI (ad 27) 200 S_size), (kZ cZ (ad 31) 200 S_goesRound)] H := by rw [hH]; exact hP
  suffices h9 : W p l e { frames := 0, cells := 0, slots := 0, locals := 0 } s m ([.ref (ad 4), .int a1] : List Value).toArray below meth c H locs 0 0 Q (F0 m 0 ls []) by rw [hH, hlo] at h9; exact h9
  clear hH hlo
  have hiX3 : ∀ w ∈ wsX30, w ∈ wv_X3_largestSize := fun w h => List.mem_cons_of_mem _ (inlX3 w h)
  have hk0 := hts (.fieldLink RX3 24 "FairLoops$Sums" "goesRound" "[Z") (List.mem_cons_of_mem _ wk_68)
  have hk1 := hts (.fieldLink RX3 9 "FairLoops$Sums" "size" "[I") (List.mem_cons_of_mem _ wk_64)
  refine lv_iconst (v := 0) hx hb dX3_largestSize_0 (by decide) ?_
  refine lv_istore_n (lv' := [(2, .int 0), (0, .ref (ad 4)), (1, .int a1)]) hx hb dX3_largestSize_1 rfl hl (by decide) rfl (fun ls hl => ?_)
  refine lv_iconst (v := 0) hx hb dX3_largestSize_2 (by decide) ?_
  refine lv_istore_n (lv' := [(3, .int 0), (2, .int 0), (0, .ref (ad 4)), (1, .int a1)]) hx hb dX3_largestSize_3 rfl hl (by decide) rfl (fun ls hl => ?_)
  obtain ⟨ex_4, hex_4, h_4⟩ := ox_b_of h
  have hX_4 : ∀ (v2_4 : Int32) (v3_4 : Int32) (H : Heap) (locs : List Loc) (ls : Array Slot), (v2_4, v3_4) = ex_4 → va_P D vwCl [(kS ad), (kI cI (ad 27) 200 S_size), (kZ cZ (ad 31) 200 S_goesRound)] H → va_D A [(kS ad), (kI cI (ad 27) 200 S_size), (kZ cZ (ad 31) 200 S_goesRound)] → va_S A s.heap H locs → lv_has ls 4 [(2, .int v2_4)] → W p l e { frames := 0, cells := 0, slots := 0, locals := 0 } s m ([.ref (ad 4), .int a1] : List Value).toArray below meth c H locs 0 0 Q (F0 m 41 ls []) := by
    intro v2_4 v3_4 H locs ls hex_4 hP hD hS hl
    subst hex_4
    have h := h_4
    refine lv_iload_n hx hb dX3_largestSize_41 rfl (lv_at hl 0 rfl) ?_
    have h := Option.some.inj h
    subst h
    exact hend H locs _ ls hP hD hS dX3_largestSize_42 trivial
  have hL_4 : ∀ (n : Nat) (v2_4 : Int32) (v3_4 : Int32) (H : Heap) (locs : List Loc) (ls : Array Slot), ox_l (fn_X3_largestSize_l4 a1 S_goesRound S_size) n (v2_4, v3_4) = some ex_4 → va_P D vwCl [(kS ad), (kI cI (ad 27) 200 S_size), (kZ cZ (ad 31) 200 S_goesRound)] H → va_D A [(kS ad), (kI cI (ad 27) 200 S_size), (kZ cZ (ad 31) 200 S_goesRound)] → va_S A s.heap H locs → lv_has ls 4 [(0, .ref (ad 4)), (1, .int a1), (2, .int v2_4), (3, .int v3_4)] → W p l e { frames := 0, cells := 0, slots := 0, locals := 0 } s m ([.ref (ad 4), .int a1] : List Value).toArray below meth c H locs 0 0 Q (F0 m 4 ls []) := by
    intro n
    induction n with
    | zero => intro v2_4 v3_4 H locs ls hlp; exact ox_l_0 hlp
    | succ n ih_4 =>
      intro v2_4 v3_4 H locs ls hlp_4 hP hD hS hl
      obtain ⟨z_4, h, hlp_4⟩ := ox_l_of hlp_4
      refine lv_iload_n hx hb dX3_largestSize_4 rfl (lv_at hl 3 rfl) ?_
      refine lv_iload_n hx hb dX3_largestSize_5 rfl (lv_at hl 1 rfl) ?_
      refine lv_icmp_ge (tgt := 41) hx hb dX3_largestSize_6 (by decide) (fun c_6 => ?_) (fun c_6 => ?_)
      · have h := ox_t c_6 h
        obtain rfl := Option.some.inj h
        exact hX_4 v2_4 v3_4 H locs ls hlp_4 hP hD hS (lv_sub hl [2] rfl)
      · have h := ox_f c_6 h
        refine lv_aload_n hx hb dX3_largestSize_9 rfl (lv_at hl 0 rfl) ?_
        refine va_get (D := D) (ci := 3) (v := .ref (ad 31)) (C := RX3) (T := TX3) (N := 5) hx hb hts hiX3 hown hK hP 0 rfl rfl 4 (by decide) hk0 (fun _ h9 => h9) rfl dX3_largestSize_10 ?_
        refine lv_iload_n hx hb dX3_largestSize_13 rfl (lv_at hl 3 rfl) ?_
        obtain ⟨hi_14, h⟩ := ox_i_of h
        refine va_zald hx hb hK hP 2 1 rfl rfl hi_14 dX3_largestSize_14 ?_
        refine lv_if_eq (tgt := 35) hx hb dX3_largestSize_15 (by decide) (fun c_15 => ?_) (fun c_15 => ?_)
        · have h := ox_t c_15 h
          refine lv_iinc (v := v3_4 + 1) (lv' := [(3, .int (v3_4 + 1)), (0, .ref (ad 4)), (1, .int a1), (2, .int v2_4)]) hx hb dX3_largestSize_35 hl (k := 3) rfl rfl (by decide) rfl (fun ls hl => ?_)
          refine lv_goto (tgt := 4) hx hb dX3_largestSize_38 (by decide) ?_
          obtain rfl := Option.some.inj h
          exact ih_4 v2_4 (v3_4 + 1) H locs ls hlp_4 hP hD hS (lv_sub hl [1, 2, 3, 0] rfl)
        · have h := ox_f c_15 h
          refine lv_aload_n hx hb dX3_largestSize_18 rfl (lv_at hl 0 rfl) ?_
          refine va_get (D := D) (ci := 3) (v := .ref (ad 27)) (C := RX3) (T := TX3) (N := 5) hx hb hts hiX3 hown hK hP 0 rfl rfl 0 (by decide) hk1 (fun _ h9 => h9) rfl dX3_largestSize_19 ?_
          refine lv_iload_n hx hb dX3_largestSize_22 rfl (lv_at hl 3 rfl) ?_
          obtain ⟨hi_23, h⟩ := ox_i_of h
          refine va_iald hx hb hK hP 1 0 rfl rfl hi_23 dX3_largestSize_23 ?_
          refine lv_iload_n hx hb dX3_largestSize_24 rfl (lv_at hl 2 rfl) ?_
          refine lv_icmp_le (tgt := 35) hx hb dX3_largestSize_25 (by decide) (fun c_25 => ?_) (fun c_25 => ?_)
          · have h := ox_t c_25 h
            refine lv_iinc (v := v3_4 + 1) (lv' := [(3, .int (v3_4 + 1)), (0, .ref (ad 4)), (1, .int a1), (2, .int v2_4)]) hx hb dX3_largestSize_35 hl (k := 3) rfl rfl (by decide) rfl (fun ls hl => ?_)
            refine lv_goto (tgt := 4) hx hb dX3_largestSize_38 (by decide) ?_
            obtain rfl := Option.some.inj h
            exact ih_4 v2_4 (v3_4 + 1) H locs ls hlp_4 hP hD hS (lv_sub hl [1, 2, 3, 0] rfl)
          · have h := ox_f c_25 h
            refine lv_aload_n hx hb dX3_largestSize_28 rfl (lv_at hl 0 rfl) ?_
            refine va_get (D := D) (ci := 3) (v := .ref (ad 27)) (C := RX3) (T := TX3) (N := 5) hx hb hts hiX3 hown hK hP 0 rfl rfl 0 (by decide) hk1 (fun _ h9 => h9) rfl dX3_largestSize_29 ?_
            refine lv_iload_n hx hb dX3_largestSize_32 rfl (lv_at hl 3 rfl) ?_
            obtain ⟨hi_33, h⟩ := ox_i_of h
            refine va_iald hx hb hK hP 1 0 rfl rfl hi_33 dX3_largestSize_33 ?_
            refine lv_istore_n (lv' := [(2, .int (S_size v3_4.toNatClampNeg)), (0, .ref (ad 4)), (1, .int a1), (3, .int v3_4)]) hx hb dX3_largestSize_34 rfl hl (by decide) rfl (fun ls hl => ?_)
            refine lv_iinc (v := v3_4 + 1) (lv' := [(3, .int (v3_4 + 1)), (2, .int (S_size v3_4.toNatClampNeg)), (0, .ref (ad 4)), (1, .int a1)]) hx hb dX3_largestSize_35 hl (k := 3) rfl rfl (by decide) rfl (fun ls hl => ?_)
            refine lv_goto (tgt := 4) hx hb dX3_largestSize_38 (by decide) ?_
            obtain rfl := Option.some.inj h
            exact ih_4 (S_size v3_4.toNatClampNeg) (v3_4 + 1) H locs ls hlp_4 hP hD hS (lv_sub hl [2, 3, 1, 0] rfl)
  exact hL_4 1000000 0 0 H locs ls hex_4 hP hD hS (lv_sub hl [2, 3, 1, 0] rfl)
