set_option maxHeartbeats 4000000 in
set_option maxRecDepth 100000 in
theorem c_X1_lower (l : Launch) (D : va_G) (cI cZ : ClassId) (ad : Nat → Nat) (K_found : Int32) (K_closed : Int32) (K_entries : Int32) (K_depth : Int32) (K_opened : Int32) (K_low : Nat → Int32) (a1 : Int32) (a2 : Int32) (res : (Nat → Int32)) (h : fn_X1_lower K_low a1 a2 = some res) : mc_C l yX1_lower wv_X1_lower { frames := 0, cells := 0, slots := 0, locals := 0 } D [(cI, .int), (cZ, .boolean)] [.ref (ad 3), .int a1, .int a2] [(kK ad K_found K_closed K_entries K_depth K_opened), (kI cI (ad 23) 200 K_low)] (none) [(kK ad K_found K_closed K_entries K_depth K_opened), (kI cI (ad 23) 200 res)] := by
  refine mc_ofv (own := RX1) (by decide) rfl rfl (Nat.le_of_ble_eq_true rfl) ?_
  intro p e s m below meth c A Q ls hx hb hml hown hts hK hP hD hA hl hend
  have hS : va_S A s.heap s.heap [] := va_S.rf
  have hl : lv_has ls 3 [(0, .ref (ad 3)), (1, .int a1), (2, .int a2)] := hl
  obtain ⟨H, hH⟩ : ∃ H, H = s.heap := ⟨_, rfl⟩
  obtain ⟨locs, hlo⟩ : ∃ locs : List Loc, locs = [] := ⟨_, rfl⟩
  have hS : va_S A s.heap H locs := by rw [hH, hlo]; exact hS
  have hP : va_P D vwCl [(kK ad K_found K_closed K_entries K_depth K_opened), (kI cI (ad 23) 200 K_low)] H := by rw [hH]; exact hP
  suffices h9 : W p l e { frames := 0, cells := 0, slots := 0, locals := 0 } s m ([.ref (ad 3), .int a1, .int a2] : List Value).toArray below meth c H locs 0 0 Q (F0 m 0 ls []) by rw [hH, hlo] at h9; exact h9
  clear hH hlo
  have hiX1 : ∀ w ∈ wsX10, w ∈ wv_X1_lower := fun w h => List.mem_cons_of_mem _ (inlX1 w h)
  have hk0 := hts (.fieldLink RX1 25 "FairLoops$Knots" "low" "[I") (List.mem_cons_of_mem _ wk_57)
  refine lv_iload_n hx hb dX1_lower_0 rfl (lv_at hl 2 rfl) ?_
  refine lv_aload_n hx hb dX1_lower_1 rfl (lv_at hl 0 rfl) ?_
  refine va_get (D := D) (ci := 1) (v := .ref (ad 23)) (C := RX1) (T := TX1) (N := 13) hx hb hts hiX1 hown hK hP 0 rfl rfl 7 (by decide) hk0 (fun _ h9 => h9) rfl dX1_lower_2 ?_
  refine lv_iload_n hx hb dX1_lower_5 rfl (lv_at hl 1 rfl) ?_
  obtain ⟨hi_6, h⟩ := ox_i_of h
  refine va_iald hx hb hK hP 1 0 rfl rfl hi_6 dX1_lower_6 ?_
  refine lv_icmp_ge (tgt := 17) hx hb dX1_lower_7 (by decide) (fun c_7 => ?_) (fun c_7 => ?_)
  · have h := ox_t c_7 h
    have h := Option.some.inj h
    subst h
    exact hend H locs _ ls hP hD hS dX1_lower_17 trivial
  · have h := ox_f c_7 h
    refine lv_aload_n hx hb dX1_lower_10 rfl (lv_at hl 0 rfl) ?_
    refine va_get (D := D) (ci := 1) (v := .ref (ad 23)) (C := RX1) (T := TX1) (N := 13) hx hb hts hiX1 hown hK hP 0 rfl rfl 7 (by decide) hk0 (fun _ h9 => h9) rfl dX1_lower_11 ?_
    refine lv_iload_n hx hb dX1_lower_14 rfl (lv_at hl 1 rfl) ?_
    refine lv_iload_n hx hb dX1_lower_15 rfl (lv_at hl 2 rfl) ?_
    obtain ⟨hi_16, h⟩ := ox_i_of h
    refine va_iast hx hb hK hP hD hS 1 0 rfl rfl hi_16 dX1_lower_16 (fun H locs hP hD hS => ?_)
    have hP : va_P D vwCl [(kK ad K_found K_closed K_entries K_depth K_opened), (kI cI (ad 23) 200 (upd K_low a1.toNatClampNeg a2))] H := hP
    have hD : va_D A [(kK ad K_found K_closed K_entries K_depth K_opened), (kI cI (ad 23) 200 (upd K_low a1.toNatClampNeg a2))] := hD
    have h := Option.some.inj h
    subst h
    exact hend H locs _ ls hP hD hS dX1_lower_17 trivial
set_option maxHeartbeats 4000000 in
set_option maxRecDepth 100000 in
theorem c_X1_enter (l : Launch) (D : va_G) (cI cZ : ClassId) (ad : Nat → Nat) (G_states : Int32) (G_moves : Int32) (G_ends : Int32) (K_found : Int32) (K_closed : Int32) (K_entries : Int32) (K_depth : Int32) (K_opened : Int32) (G_start : Nat → Int32) (K_entered : Nat → Int32) (K_low : Nat → Int32) (K_nextOut : Nat → Int32) (K_path : Nat → Int32) (K_open : Nat → Int32) (a2 : Int32) (res : Int32 × Int32 × Int32 × (Nat → Int32) × (Nat → Int32) × (Nat → Int32) × (Nat → Int32) × (Nat → Int32)) (h : fn_X1_enter K_entries K_depth K_opened G_start K_entered K_low K_nextOut K_path K_open a2 = some res) : mc_C l yX1_enter wv_X1_enter { frames := 0, cells := 0, slots := 0, locals := 0 } D [(cI, .int), (cZ, .boolean)] [.ref (ad 3), .ref (ad 1), .int a2] [(kG ad G_states G_moves G_ends), (kK ad K_found K_closed K_entries K_depth K_opened), (kI cI (ad 15) 201 G_start), (kI cI (ad 22) 200 K_entered), (kI cI (ad 23) 200 K_low), (kI cI (ad 24) 200 K_nextOut), (kI cI (ad 25) 200 K_path), (kI cI (ad 26) 200 K_open)] (none) [(kG ad G_states G_moves G_ends), (kK ad K_found K_closed res.1 res.2.1 res.2.2.1), (kI cI (ad 15) 201 G_start), (kI cI (ad 22) 200 res.2.2.2.1), (kI cI (ad 23) 200 res.2.2.2.2.1), (kI cI (ad 24) 200 res.2.2.2.2.2.1), (kI cI (ad 25) 200 res.2.2.2.2.2.2.1), (kI cI (ad 26) 200 res.2.2.2.2.2.2.2)] := by
  refine mc_ofv (own := RX1) (by decide) rfl rfl (Nat.le_of_ble_eq_true rfl) ?_
  intro p e s m below meth c A Q ls hx hb hml hown hts hK hP hD hA hl hend
  have hS : va_S A s.heap s.heap [] := va_S.rf
  have hl : lv_has ls 3 [(0, .ref (ad 3)), (1, .ref (ad 1)), (2, .int a2)] := hl
  obtain ⟨H, hH⟩ : ∃ H, H = s.heap := ⟨_, rfl⟩
  obtain ⟨locs, hlo⟩ : ∃ locs : List Loc, locs = [] := ⟨_, rfl⟩
  have hS : va_S A s.heap H locs := by rw [hH, hlo]; exact hS
  have hP : va_P D vwCl [(kG ad G_states G_moves G_ends), (kK ad K_found K_closed K_entries K_depth K_opened), (kI cI (ad 15) 201 G_start), (kI cI (ad 22) 200 K_entered), (kI cI (ad 23) 200 K_low), (kI cI (ad 24) 200 K_nextOut), (kI cI (ad 25) 200 K_path), (kI cI (ad 26) 200 K_open)] H := by rw [hH]; exact hP
  suffices h9 : W p l e { frames := 0, cells := 0, slots := 0, locals := 0 } s m ([.ref (ad 3), .ref (ad 1), .int a2] : List Value).toArray below meth c H locs 0 0 Q (F0 m 0 ls []) by rw [hH, hlo] at h9; exact h9
  clear hH hlo
  have hiX0 : ∀ w ∈ wsX00, w ∈ wv_X1_enter := fun w h => List.mem_cons_of_mem _ (inlX0 w h)
  have hiX1 : ∀ w ∈ wsX10, w ∈ wv_X1_enter := fun w h => List.mem_cons_of_mem _ (inlX1 w h)
  have hk0 := hts (.fieldLink RX1 44 "FairLoops$Knots" "entries" "I") (List.mem_cons_of_mem _ wk_244)
  have hk1 := hts (.fieldLink RX1 22 "FairLoops$Knots" "entered" "[I") (List.mem_cons_of_mem _ wk_56)
  have hk2 := hts (.fieldLink RX1 25 "FairLoops$Knots" "low" "[I") (List.mem_cons_of_mem _ wk_57)
  have hk3 := hts (.fieldLink RX1 28 "FairLoops$Knots" "nextOut" "[I") (List.mem_cons_of_mem _ wk_58)
  have hk4 := hts (.fieldLink RX1 68 "FairLoops$Graph" "start" "[I") (List.mem_cons_of_mem _ wk_253)
  have hk5 := hts (.fieldLink RX1 31 "FairLoops$Knots" "path" "[I") (List.mem_cons_of_mem _ wk_59)
  have hk6 := hts (.fieldLink RX1 47 "FairLoops$Knots" "depth" "I") (List.mem_cons_of_mem _ wk_245)
  have hk7 := hts (.fieldLink RX1 34 "FairLoops$Knots" "open" "[I") (List.mem_cons_of_mem _ wk_60)
  have hk8 := hts (.fieldLink RX1 50 "FairLoops$Knots" "opened" "I") (List.mem_cons_of_mem _ wk_246)
  refine lv_aload_n hx hb dX1_enter_0 rfl (lv_at hl 0 rfl) ?_
  refine lv_dup hx hb dX1_enter_1 rfl ?_
  refine va_get (D := D) (ci := 1) (v := .int K_entries) (C := RX1) (T := TX1) (N := 13) hx hb hts hiX1 hown hK hP 1 rfl rfl 6 (by decide) hk0 (fun _ h9 => h9) rfl dX1_enter_2 ?_
  refine lv_iconst (v := 1) hx hb dX1_enter_5 (by decide) ?_
  refine lv_iadd hx hb dX1_enter_6 ?_
  refine va_put (D := D) (ci := 1) (v := .int (K_entries + 1)) (ty := .int) (C := RX1) (T := TX1) (N := 13) hx hb hts hiX1 tyX1 tyX1_ok nmX1 hown hK hP hD hS 1 rfl rfl 6 (by decide) hk0 (fun _ h9 => h9) rfl (by decide +kernel) rfl rfl (Nat.le_of_ble_eq_true rfl) dX1_enter_7 (fun H locs hP hD hS => ?_)
  have hP : va_P D vwCl [(kG ad G_states G_moves G_ends), (kK ad K_found K_closed (K_entries + 1) K_depth K_opened), (kI cI (ad 15) 201 G_start), (kI cI (ad 22) 200 K_entered), (kI cI (ad 23) 200 K_low), (kI cI (ad 24) 200 K_nextOut), (kI cI (ad 25) 200 K_path), (kI cI (ad 26) 200 K_open)] H := hP
  have hD : va_D A [(kG ad G_states G_moves G_ends), (kK ad K_found K_closed (K_entries + 1) K_depth K_opened), (kI cI (ad 15) 201 G_start), (kI cI (ad 22) 200 K_entered), (kI cI (ad 23) 200 K_low), (kI cI (ad 24) 200 K_nextOut), (kI cI (ad 25) 200 K_path), (kI cI (ad 26) 200 K_open)] := hD
  refine lv_aload_n hx hb dX1_enter_10 rfl (lv_at hl 0 rfl) ?_
  refine va_get (D := D) (ci := 1) (v := .ref (ad 22)) (C := RX1) (T := TX1) (N := 13) hx hb hts hiX1 hown hK hP 1 rfl rfl 5 (by decide) hk1 (fun _ h9 => h9) rfl dX1_enter_11 ?_
  refine lv_iload_n hx hb dX1_enter_14 rfl (lv_at hl 2 rfl) ?_
  refine lv_aload_n hx hb dX1_enter_15 rfl (lv_at hl 0 rfl) ?_
  refine va_get (D := D) (ci := 1) (v := .int (K_entries + 1)) (C := RX1) (T := TX1) (N := 13) hx hb hts hiX1 hown hK hP 1 rfl rfl 6 (by decide) hk0 (fun _ h9 => h9) rfl dX1_enter_16 ?_
  obtain ⟨hi_19, h⟩ := ox_i_of h
  refine va_iast hx hb hK hP hD hS 3 0 rfl rfl hi_19 dX1_enter_19 (fun H locs hP hD hS => ?_)
  have hP : va_P D vwCl [(kG ad G_states G_moves G_ends), (kK ad K_found K_closed (K_entries + 1) K_depth K_opened), (kI cI (ad 15) 201 G_start), (kI cI (ad 22) 200 (upd K_entered a2.toNatClampNeg (K_entries + 1))), (kI cI (ad 23) 200 K_low), (kI cI (ad 24) 200 K_nextOut), (kI cI (ad 25) 200 K_path), (kI cI (ad 26) 200 K_open)] H := hP
  have hD : va_D A [(kG ad G_states G_moves G_ends), (kK ad K_found K_closed (K_entries + 1) K_depth K_opened), (kI cI (ad 15) 201 G_start), (kI cI (ad 22) 200 (upd K_entered a2.toNatClampNeg (K_entries + 1))), (kI cI (ad 23) 200 K_low), (kI cI (ad 24) 200 K_nextOut), (kI cI (ad 25) 200 K_path), (kI cI (ad 26) 200 K_open)] := hD
  refine lv_aload_n hx hb dX1_enter_20 rfl (lv_at hl 0 rfl) ?_
  refine va_get (D := D) (ci := 1) (v := .ref (ad 23)) (C := RX1) (T := TX1) (N := 13) hx hb hts hiX1 hown hK hP 1 rfl rfl 7 (by decide) hk2 (fun _ h9 => h9) rfl dX1_enter_21 ?_
  refine lv_iload_n hx hb dX1_enter_24 rfl (lv_at hl 2 rfl) ?_
  refine lv_aload_n hx hb dX1_enter_25 rfl (lv_at hl 0 rfl) ?_
  refine va_get (D := D) (ci := 1) (v := .int (K_entries + 1)) (C := RX1) (T := TX1) (N := 13) hx hb hts hiX1 hown hK hP 1 rfl rfl 6 (by decide) hk0 (fun _ h9 => h9) rfl dX1_enter_26 ?_
  obtain ⟨hi_29, h⟩ := ox_i_of h
  refine va_iast hx hb hK hP hD hS 4 0 rfl rfl hi_29 dX1_enter_29 (fun H locs hP hD hS => ?_)
  have hP : va_P D vwCl [(kG ad G_states G_moves G_ends), (kK ad K_found K_closed (K_entries + 1) K_depth K_opened), (kI cI (ad 15) 201 G_start), (kI cI (ad 22) 200 (upd K_entered a2.toNatClampNeg (K_entries + 1))), (kI cI (ad 23) 200 (upd K_low a2.toNatClampNeg (K_entries + 1))), (kI cI (ad 24) 200 K_nextOut), (kI cI (ad 25) 200 K_path), (kI cI (ad 26) 200 K_open)] H := hP
  have hD : va_D A [(kG ad G_states G_moves G_ends), (kK ad K_found K_closed (K_entries + 1) K_depth K_opened), (kI cI (ad 15) 201 G_start), (kI cI (ad 22) 200 (upd K_entered a2.toNatClampNeg (K_entries + 1))), (kI cI (ad 23) 200 (upd K_low a2.toNatClampNeg (K_entries + 1))), (kI cI (ad 24) 200 K_nextOut), (kI cI (ad 25) 200 K_path), (kI cI (ad 26) 200 K_open)] := hD
  refine lv_aload_n hx hb dX1_enter_30 rfl (lv_at hl 0 rfl) ?_
  refine va_get (D := D) (ci := 1) (v := .ref (ad 24)) (C := RX1) (T := TX1) (N := 13) hx hb hts hiX1 hown hK hP 1 rfl rfl 8 (by decide) hk3 (fun _ h9 => h9) rfl dX1_enter_31 ?_
  refine lv_iload_n hx hb dX1_enter_34 rfl (lv_at hl 2 rfl) ?_
  refine lv_aload_n hx hb dX1_enter_35 rfl (lv_at hl 1 rfl) ?_
  refine va_get (D := D) (ci := 0) (v := .ref (ad 15)) (C := RX0) (T := TX0) (N := 11) hx hb hts hiX0 hown hK hP 0 rfl rfl 10 (by decide) hk4 (fun _ h9 => h9) rfl dX1_enter_36 ?_
  refine lv_iload_n hx hb dX1_enter_39 rfl (lv_at hl 2 rfl) ?_
  obtain ⟨hi_40, h⟩ := ox_i_of h
  refine va_iald hx hb hK hP 2 0 rfl rfl hi_40 dX1_enter_40 ?_
  obtain ⟨hi_41, h⟩ := ox_i_of h
  refine va_iast hx hb hK hP hD hS 5 0 rfl rfl hi_41 dX1_enter_41 (fun H locs hP hD hS => ?_)
  have hP : va_P D vwCl [(kG ad G_states G_moves G_ends), (kK ad K_found K_closed (K_entries + 1) K_depth K_opened), (kI cI (ad 15) 201 G_start), (kI cI (ad 22) 200 (upd K_entered a2.toNatClampNeg (K_entries + 1))), (kI cI (ad 23) 200 (upd K_low a2.toNatClampNeg (K_entries + 1))), (kI cI (ad 24) 200 (upd K_nextOut a2.toNatClampNeg (G_start a2.toNatClampNeg))), (kI cI (ad 25) 200 K_path), (kI cI (ad 26) 200 K_open)] H := hP
  have hD : va_D A [(kG ad G_states G_moves G_ends), (kK ad K_found K_closed (K_entries + 1) K_depth K_opened), (kI cI (ad 15) 201 G_start), (kI cI (ad 22) 200 (upd K_entered a2.toNatClampNeg (K_entries + 1))), (kI cI (ad 23) 200 (upd K_low a2.toNatClampNeg (K_entries + 1))), (kI cI (ad 24) 200 (upd K_nextOut a2.toNatClampNeg (G_start a2.toNatClampNeg))), (kI cI (ad 25) 200 K_path), (kI cI (ad 26) 200 K_open)] := hD
  refine lv_aload_n hx hb dX1_enter_42 rfl (lv_at hl 0 rfl) ?_
  refine va_get (D := D) (ci := 1) (v := .ref (ad 25)) (C := RX1) (T := TX1) (N := 13) hx hb hts hiX1 hown hK hP 1 rfl rfl 9 (by decide) hk5 (fun _ h9 => h9) rfl dX1_enter_43 ?_
  refine lv_aload_n hx hb dX1_enter_46 rfl (lv_at hl 0 rfl) ?_
  refine va_get (D := D) (ci := 1) (v := .int K_depth) (C := RX1) (T := TX1) (N := 13) hx hb hts hiX1 hown hK hP 1 rfl rfl 10 (by decide) hk6 (fun _ h9 => h9) rfl dX1_enter_47 ?_
  refine lv_iload_n hx hb dX1_enter_50 rfl (lv_at hl 2 rfl) ?_
  obtain ⟨hi_51, h⟩ := ox_i_of h
  refine va_iast hx hb hK hP hD hS 6 0 rfl rfl hi_51 dX1_enter_51 (fun H locs hP hD hS => ?_)
  have hP : va_P D vwCl [(kG ad G_states G_moves G_ends), (kK ad K_found K_closed (K_entries + 1) K_depth K_opened), (kI cI (ad 15) 201 G_start), (kI cI (ad 22) 200 (upd K_entered a2.toNatClampNeg (K_entries + 1))), (kI cI (ad 23) 200 (upd K_low a2.toNatClampNeg (K_entries + 1))), (kI cI (ad 24) 200 (upd K_nextOut a2.toNatClampNeg (G_start a2.toNatClampNeg))), (kI cI (ad 25) 200 (upd K_path K_depth.toNatClampNeg a2)), (kI cI (ad 26) 200 K_open)] H := hP
  have hD : va_D A [(kG ad G_states G_moves G_ends), (kK ad K_found K_closed (K_entries + 1) K_depth K_opened), (kI cI (ad 15) 201 G_start), (kI cI (ad 22) 200 (upd K_entered a2.toNatClampNeg (K_entries + 1))), (kI cI (ad 23) 200 (upd K_low a2.toNatClampNeg (K_entries + 1))), (kI cI (ad 24) 200 (upd K_nextOut a2.toNatClampNeg (G_start a2.toNatClampNeg))), (kI cI (ad 25) 200 (upd K_path K_depth.toNatClampNeg a2)), (kI cI (ad 26) 200 K_open)] := hD
  refine lv_aload_n hx hb dX1_enter_52 rfl (lv_at hl 0 rfl) ?_
  refine lv_dup hx hb dX1_enter_53 rfl ?_
  refine va_get (D := D) (ci := 1) (v := .int K_depth) (C := RX1) (T := TX1) (N := 13) hx hb hts hiX1 hown hK hP 1 rfl rfl 10 (by decide) hk6 (fun _ h9 => h9) rfl dX1_enter_54 ?_
  refine lv_iconst (v := 1) hx hb dX1_enter_57 (by decide) ?_
  refine lv_iadd hx hb dX1_enter_58 ?_
  refine va_put (D := D) (ci := 1) (v := .int (K_depth + 1)) (ty := .int) (C := RX1) (T := TX1) (N := 13) hx hb hts hiX1 tyX1 tyX1_ok nmX1 hown hK hP hD hS 1 rfl rfl 10 (by decide) hk6 (fun _ h9 => h9) rfl (by decide +kernel) rfl rfl (Nat.le_of_ble_eq_true rfl) dX1_enter_59 (fun H locs hP hD hS => ?_)
  have hP : va_P D vwCl [(kG ad G_states G_moves G_ends), (kK ad K_found K_closed (K_entries + 1) (K_depth + 1) K_opened), (kI cI (ad 15) 201 G_start), (kI cI (ad 22) 200 (upd K_entered a2.toNatClampNeg (K_entries + 1))), (kI cI (ad 23) 200 (upd K_low a2.toNatClampNeg (K_entries + 1))), (kI cI (ad 24) 200 (upd K_nextOut a2.toNatClampNeg (G_start a2.toNatClampNeg))), (kI cI (ad 25) 200 (upd K_path K_depth.toNatClampNeg a2)), (kI cI (ad 26) 200 K_open)] H := hP
  have hD : va_D A [(kG ad G_states G_moves G_ends), (kK ad K_found K_closed (K_entries + 1) (K_depth + 1) K_opened), (kI cI (ad 15) 201 G_start), (kI cI (ad 22) 200 (upd K_entered a2.toNatClampNeg (K_entries + 1))), (kI cI (ad 23) 200 (upd K_low a2.toNatClampNeg (K_entries + 1))), (kI cI (ad 24) 200 (upd K_nextOut a2.toNatClampNeg (G_start a2.toNatClampNeg))), (kI cI (ad 25) 200 (upd K_path K_depth.toNatClampNeg a2)), (kI cI (ad 26) 200 K_open)] := hD
  refine lv_aload_n hx hb dX1_enter_62 rfl (lv_at hl 0 rfl) ?_
  refine va_get (D := D) (ci := 1) (v := .ref (ad 26)) (C := RX1) (T := TX1) (N := 13) hx hb hts hiX1 hown hK hP 1 rfl rfl 11 (by decide) hk7 (fun _ h9 => h9) rfl dX1_enter_63 ?_
  refine lv_aload_n hx hb dX1_enter_66 rfl (lv_at hl 0 rfl) ?_
  refine va_get (D := D) (ci := 1) (v := .int K_opened) (C := RX1) (T := TX1) (N := 13) hx hb hts hiX1 hown hK hP 1 rfl rfl 12 (by decide) hk8 (fun _ h9 => h9) rfl dX1_enter_67 ?_
  refine lv_iload_n hx hb dX1_enter_70 rfl (lv_at hl 2 rfl) ?_
  obtain ⟨hi_71, h⟩ := ox_i_of h
  refine va_iast hx hb hK hP hD hS 7 0 rfl rfl hi_71 dX1_enter_71 (fun H locs hP hD hS => ?_)
  have hP : va_P D vwCl [(kG ad G_states G_moves G_ends), (kK ad K_found K_closed (K_entries + 1) (K_depth + 1) K_opened), (kI cI (ad 15) 201 G_start), (kI cI (ad 22) 200 (upd K_entered a2.toNatClampNeg (K_entries + 1))), (kI cI (ad 23) 200 (upd K_low a2.toNatClampNeg (K_entries + 1))), (kI cI (ad 24) 200 (upd K_nextOut a2.toNatClampNeg (G_start a2.toNatClampNeg))), (kI cI (ad 25) 200 (upd K_path K_depth.toNatClampNeg a2)), (kI cI (ad 26) 200 (upd K_open K_opened.toNatClampNeg a2))] H := hP
  have hD : va_D A [(kG ad G_states G_moves G_ends), (kK ad K_found K_closed (K_entries + 1) (K_depth + 1) K_opened), (kI cI (ad 15) 201 G_start), (kI cI (ad 22) 200 (upd K_entered a2.toNatClampNeg (K_entries + 1))), (kI cI (ad 23) 200 (upd K_low a2.toNatClampNeg (K_entries + 1))), (kI cI (ad 24) 200 (upd K_nextOut a2.toNatClampNeg (G_start a2.toNatClampNeg))), (kI cI (ad 25) 200 (upd K_path K_depth.toNatClampNeg a2)), (kI cI (ad 26) 200 (upd K_open K_opened.toNatClampNeg a2))] := hD
  refine lv_aload_n hx hb dX1_enter_72 rfl (lv_at hl 0 rfl) ?_
  refine lv_dup hx hb dX1_enter_73 rfl ?_
  refine va_get (D := D) (ci := 1) (v := .int K_opened) (C := RX1) (T := TX1) (N := 13) hx hb hts hiX1 hown hK hP 1 rfl rfl 12 (by decide) hk8 (fun _ h9 => h9) rfl dX1_enter_74 ?_
  refine lv_iconst (v := 1) hx hb dX1_enter_77 (by decide) ?_
  refine lv_iadd hx hb dX1_enter_78 ?_
  refine va_put (D := D) (ci := 1) (v := .int (K_opened + 1)) (ty := .int) (C := RX1) (T := TX1) (N := 13) hx hb hts hiX1 tyX1 tyX1_ok nmX1 hown hK hP hD hS 1 rfl rfl 12 (by decide) hk8 (fun _ h9 => h9) rfl (by decide +kernel) rfl rfl (Nat.le_of_ble_eq_true rfl) dX1_enter_79 (fun H locs hP hD hS => ?_)
  have hP : va_P D vwCl [(kG ad G_states G_moves G_ends), (kK ad K_found K_closed (K_entries + 1) (K_depth + 1) (K_opened + 1)), (kI cI (ad 15) 201 G_start), (kI cI (ad 22) 200 (upd K_entered a2.toNatClampNeg (K_entries + 1))), (kI cI (ad 23) 200 (upd K_low a2.toNatClampNeg (K_entries + 1))), (kI cI (ad 24) 200 (upd K_nextOut a2.toNatClampNeg (G_start a2.toNatClampNeg))), (kI cI (ad 25) 200 (upd K_path K_depth.toNatClampNeg a2)), (kI cI (ad 26) 200 (upd K_open K_opened.toNatClampNeg a2))] H := hP
  have hD : va_D A [(kG ad G_states G_moves G_ends), (kK ad K_found K_closed (K_entries + 1) (K_depth + 1) (K_opened + 1)), (kI cI (ad 15) 201 G_start), (kI cI (ad 22) 200 (upd K_entered a2.toNatClampNeg (K_entries + 1))), (kI cI (ad 23) 200 (upd K_low a2.toNatClampNeg (K_entries + 1))), (kI cI (ad 24) 200 (upd K_nextOut a2.toNatClampNeg (G_start a2.toNatClampNeg))), (kI cI (ad 25) 200 (upd K_path K_depth.toNatClampNeg a2)), (kI cI (ad 26) 200 (upd K_open K_opened.toNatClampNeg a2))] := hD
  have h := Option.some.inj h
  subst h
  exact hend H locs _ ls hP hD hS dX1_enter_82 trivial
set_option maxHeartbeats 4000000 in
set_option maxRecDepth 100000 in
theorem c_X1_leave (l : Launch) (D : va_G) (cI cZ : ClassId) (ad : Nat → Nat) (K_found : Int32) (K_closed : Int32) (K_entries : Int32) (K_depth : Int32) (K_opened : Int32) (K_low : Nat → Int32) (K_path : Nat → Int32) (a1 : Int32) (res : Int32 × (Nat → Int32)) (h : fn_X1_leave K_depth K_low K_path a1 = some res) : mc_C l yX1_leave wv_X1_leave { frames := 1, cells := 0, slots := 0, locals := 22 } D [(cI, .int), (cZ, .boolean)] [.ref (ad 3), .int a1] [(kK ad K_found K_closed K_entries K_depth K_opened), (kI cI (ad 23) 200 K_low), (kI cI (ad 25) 200 K_path)] (none) [(kK ad K_found K_closed K_entries res.1 K_opened), (kI cI (ad 23) 200 res.2), (kI cI (ad 25) 200 K_path)] := by
  refine mc_ofv (own := RX1) (by decide) rfl rfl (Nat.le_of_ble_eq_true rfl) ?_
  intro p e s m below meth c A Q ls hx hb hml hown hts hK hP hD hA hl hend
  have hS : va_S A s.heap s.heap [] := va_S.rf
  have hl : lv_has ls 2 [(0, .ref (ad 3)), (1, .int a1)] := hl
  obtain ⟨H, hH⟩ : ∃ H, H = s.heap := ⟨_, rfl⟩
  obtain ⟨locs, hlo⟩ : ∃ locs : List Loc, locs = [] := ⟨_, rfl⟩
  have hS : va_S A s.heap H locs := by rw [hH, hlo]; exact hS
  have hP : va_P D vwCl [(kK ad K_found K_closed K_entries K_depth K_opened), (kI cI (ad 23) 200 K_low), (kI cI (ad 25) 200 K_path)] H := by rw [hH]; exact hP
  suffices h9 : W p l e { frames := 1, cells := 0, slots := 0, locals := 22 } s m ([.ref (ad 3), .int a1] : List Value).toArray below meth c H locs 0 0 Q (F0 m 0 ls []) by rw [hH, hlo] at h9; exact h9
  clear hH hlo
  have hiX1 : ∀ w ∈ wsX10, w ∈ wv_X1_leave := fun w h => List.mem_cons_of_mem _ (inlX1 w h)
  have hk0 := hts (.fieldLink RX1 47 "FairLoops$Knots" "depth" "I") (List.mem_cons_of_mem _ wk_245)
  have hk1 := hts (.fieldLink RX1 31 "FairLoops$Knots" "path" "[I") (List.mem_cons_of_mem _ wk_59)
  have hk2 := hts (.fieldLink RX1 25 "FairLoops$Knots" "low" "[I") (List.mem_cons_of_mem _ wk_57)
  refine lv_aload_n hx hb dX1_leave_0 rfl (lv_at hl 0 rfl) ?_
  refine lv_dup hx hb dX1_leave_1 rfl ?_
  refine va_get (D := D) (ci := 1) (v := .int K_depth) (C := RX1) (T := TX1) (N := 13) hx hb hts hiX1 hown hK hP 0 rfl rfl 10 (by decide) hk0 (fun _ h9 => h9) rfl dX1_leave_2 ?_
  refine lv_iconst (v := 1) hx hb dX1_leave_5 (by decide) ?_
  refine lv_isub hx hb dX1_leave_6 ?_
  refine va_put (D := D) (ci := 1) (v := .int (K_depth - 1)) (ty := .int) (C := RX1) (T := TX1) (N := 13) hx hb hts hiX1 tyX1 tyX1_ok nmX1 hown hK hP hD hS 0 rfl rfl 10 (by decide) hk0 (fun _ h9 => h9) rfl (by decide +kernel) rfl rfl (Nat.le_of_ble_eq_true rfl) dX1_leave_7 (fun H locs hP hD hS => ?_)
  have hP : va_P D vwCl [(kK ad K_found K_closed K_entries (K_depth - 1) K_opened), (kI cI (ad 23) 200 K_low), (kI cI (ad 25) 200 K_path)] H := hP
  have hD : va_D A [(kK ad K_found K_closed K_entries (K_depth - 1) K_opened), (kI cI (ad 23) 200 K_low), (kI cI (ad 25) 200 K_path)] := hD
  refine lv_aload_n hx hb dX1_leave_10 rfl (lv_at hl 0 rfl) ?_
  refine va_get (D := D) (ci := 1) (v := .int (K_depth - 1)) (C := RX1) (T := TX1) (N := 13) hx hb hts hiX1 hown hK hP 0 rfl rfl 10 (by decide) hk0 (fun _ h9 => h9) rfl dX1_leave_11 ?_
  refine lv_if_le (tgt := 38) hx hb dX1_leave_14 (by decide) (fun c_14 => ?_) (fun c_14 => ?_)
  · have h := ox_t c_14 h
    have h := Option.some.inj h
    subst h
    exact hend H locs _ ls hP hD hS dX1_leave_38 trivial
  · have h := ox_f c_14 h
    refine lv_aload_n hx hb dX1_leave_17 rfl (lv_at hl 0 rfl) ?_
    refine lv_aload_n hx hb dX1_leave_18 rfl (lv_at hl 0 rfl) ?_
    refine va_get (D := D) (ci := 1) (v := .ref (ad 25)) (C := RX1) (T := TX1) (N := 13) hx hb hts hiX1 hown hK hP 0 rfl rfl 9 (by decide) hk1 (fun _ h9 => h9) rfl dX1_leave_19 ?_
    refine lv_aload_n hx hb dX1_leave_22 rfl (lv_at hl 0 rfl) ?_
    refine va_get (D := D) (ci := 1) (v := .int (K_depth - 1)) (C := RX1) (T := TX1) (N := 13) hx hb hts hiX1 hown hK hP 0 rfl rfl 10 (by decide) hk0 (fun _ h9 => h9) rfl dX1_leave_23 ?_
    refine lv_iconst (v := 1) hx hb dX1_leave_26 (by decide) ?_
    refine lv_isub hx hb dX1_leave_27 ?_
    obtain ⟨hi_28, h⟩ := ox_i_of h
    refine va_iald hx hb hK hP 2 0 rfl rfl hi_28 dX1_leave_28 ?_
    refine lv_aload_n hx hb dX1_leave_29 rfl (lv_at hl 0 rfl) ?_
    refine va_get (D := D) (ci := 1) (v := .ref (ad 23)) (C := RX1) (T := TX1) (N := 13) hx hb hts hiX1 hown hK hP 0 rfl rfl 7 (by decide) hk2 (fun _ h9 => h9) rfl dX1_leave_30 ?_
    refine lv_iload_n hx hb dX1_leave_33 rfl (lv_at hl 1 rfl) ?_
    obtain ⟨hi_34, h⟩ := ox_i_of h
    refine va_iald hx hb hK hP 1 0 rfl rfl hi_34 dX1_leave_34 ?_
    obtain ⟨K_low_35, hc_35, h⟩ := ox_b_of h
    refine mc_callV (As := [.int (K_path ((K_depth - 1) - 1).toNatClampNeg), .int (K_low a1.toNatClampNeg)]) (rest := []) (b := ad 3) (Wc := [(kK ad K_found K_closed K_entries (K_depth - 1) K_opened), (kI cI (ad 23) 200 K_low)]) (wr := [(kI cI (ad 25) 200 K_path)]) (W1 := [(kK ad K_found K_closed K_entries (K_depth - 1) K_opened), (kI cI (ad 23) 200 K_low_35)]) (wn := [(kK ad K_found K_closed K_entries (K_depth - 1) K_opened), (kI cI (ad 23) 200 K_low_35), (kI cI (ad 25) 200 K_path)]) (rv := none) ⟨hx, hb, hml, hown, hts⟩ (c_X1_lower l D cI cZ ad K_found K_closed K_entries (K_depth - 1) K_opened K_low (K_path ((K_depth - 1) - 1).toNatClampNeg) (K_low a1.toNatClampNeg) _ hc_35) (cwV 2 hts (gl_V wk_268 wk_269 wk_270 wk_25 wk_271) rfl rfl rfl (by decide +kernel) ⟨Nat.le_of_ble_eq_true rfl, Nat.le_of_ble_eq_true rfl⟩) hK hP hD hS hA 1 0 rfl rfl rfl [0, 1] [2] [1, 2, 0] rfl rfl (by decide) rfl (by decide) (by decide) rfl rfl (by decide) rfl rfl hl.1 (Nat.le_of_ble_eq_true rfl) dX1_leave_35 ⟨Nat.zero_le _, Nat.zero_le _⟩ (fun H locs hP hD hS => ?_)
    show W p l e { frames := 1, cells := 0, slots := 0, locals := 22 } s m ([.ref (ad 3), .int a1] : List Value).toArray below meth c H locs 0 0 Q (F0 m 38 ls [])
    have h := Option.some.inj h
    subst h
    exact hend H locs _ ls hP hD hS dX1_leave_38 trivial
set_option maxHeartbeats 4000000 in
set_option maxRecDepth 100000 in
theorem c_X1_closeKnotBegunBy (l : Launch) (D : va_G) (cI cZ : ClassId) (ad : Nat → Nat) (K_found : Int32) (K_closed : Int32) (K_entries : Int32) (K_depth : Int32) (K_opened : Int32) (K_knotOf : Nat → Int32) (K_order : Nat → Int32) (K_entered : Nat → Int32) (K_low : Nat → Int32) (K_open : Nat → Int32) (a1 : Int32) (res : Int32 × Int32 × Int32 × (Nat → Int32) × (Nat → Int32)) (h : fn_X1_closeKnotBegunBy K_found K_closed K_opened K_knotOf K_order K_entered K_low K_open a1 = some res) : mc_C l yX1_closeKnotBegunBy wv_X1_closeKnotBegunBy { frames := 0, cells := 0, slots := 0, locals := 0 } D [(cI, .int), (cZ, .boolean)] [.ref (ad 3), .int a1] [(kK ad K_found K_closed K_entries K_depth K_opened), (kI cI (ad 20) 200 K_knotOf), (kI cI (ad 21) 200 K_order), (kI cI (ad 22) 200 K_entered), (kI cI (ad 23) 200 K_low), (kI cI (ad 26) 200 K_open)] (none) [(kK ad res.1 res.2.1 K_entries K_depth res.2.2.1), (kI cI (ad 20) 200 res.2.2.2.1), (kI cI (ad 21) 200 res.2.2.2.2), (kI cI (ad 22) 200 K_entered), (kI cI (ad 23) 200 K_low), (kI cI (ad 26) 200 K_open)] := by
  refine mc_ofv (own := RX1) (by decide) rfl rfl (Nat.le_of_ble_eq_true rfl) ?_
  intro p e s m below meth c A Q ls hx hb hml hown hts hK hP hD hA hl hend
  have hS : va_S A s.heap s.heap [] := va_S.rf
  have hl : lv_has ls 3 [(0, .ref (ad 3)), (1, .int a1)] := hl
  obtain ⟨H, hH⟩ : ∃ H, H = s.heap := ⟨_, rfl⟩
  obtain ⟨locs, hlo⟩ : ∃ locs : List Loc, locs = [] := ⟨_, rfl⟩
  have hS : va_S A s.heap H locs := by rw [hH, hlo]; exact hS
  have hP : va_P D vwCl [(kK ad K_found K_closed K_entries K_depth K_opened), (kI cI (ad 20) 200 K_knotOf), (kI cI (ad 21) 200 K_order), (kI cI (ad 22) 200 K_entered), (kI cI (ad 23) 200 K_low), (kI cI (ad 26) 200 K_open)] H := by rw [hH]; exact hP
  suffices h9 : W p l e { frames := 0, cells := 0, slots := 0, locals := 0 } s m ([.ref (ad 3), .int a1] : List Value).toArray below meth c H locs 0 0 Q (F0 m 0 ls []) by rw [hH, hlo] at h9; exact h9
  clear hH hlo
  have hiX1 : ∀ w ∈ wsX10, w ∈ wv_X1_closeKnotBegunBy := fun w h => List.mem_cons_of_mem _ (inlX1 w h)
  have hk0 := hts (.fieldLink RX1 25 "FairLoops$Knots" "low" "[I") (List.mem_cons_of_mem _ wk_57)
  have hk1 := hts (.fieldLink RX1 22 "FairLoops$Knots" "entered" "[I") (List.mem_cons_of_mem _ wk_56)
  have hk2 := hts (.fieldLink RX1 37 "FairLoops$Knots" "found" "I") (List.mem_cons_of_mem _ wk_242)
  have hk3 := hts (.fieldLink RX1 50 "FairLoops$Knots" "opened" "I") (List.mem_cons_of_mem _ wk_246)
  have hk4 := hts (.fieldLink RX1 15 "FairLoops$Knots" "knotOf" "[I") (List.mem_cons_of_mem _ wk_54)
  have hk5 := hts (.fieldLink RX1 34 "FairLoops$Knots" "open" "[I") (List.mem_cons_of_mem _ wk_60)
  have hk6 := hts (.fieldLink RX1 19 "FairLoops$Knots" "order" "[I") (List.mem_cons_of_mem _ wk_55)
  have hk7 := hts (.fieldLink RX1 41 "FairLoops$Knots" "closed" "I") (List.mem_cons_of_mem _ wk_243)
  refine lv_aload_n hx hb dX1_closeKnotBegunBy_0 rfl (lv_at hl 0 rfl) ?_
  refine va_get (D := D) (ci := 1) (v := .ref (ad 23)) (C := RX1) (T := TX1) (N := 13) hx hb hts hiX1 hown hK hP 0 rfl rfl 7 (by decide) hk0 (fun _ h9 => h9) rfl dX1_closeKnotBegunBy_1 ?_
  refine lv_iload_n hx hb dX1_closeKnotBegunBy_4 rfl (lv_at hl 1 rfl) ?_
  obtain ⟨hi_5, h⟩ := ox_i_of h
  refine va_iald hx hb hK hP 4 0 rfl rfl hi_5 dX1_closeKnotBegunBy_5 ?_
  refine lv_aload_n hx hb dX1_closeKnotBegunBy_6 rfl (lv_at hl 0 rfl) ?_
  refine va_get (D := D) (ci := 1) (v := .ref (ad 22)) (C := RX1) (T := TX1) (N := 13) hx hb hts hiX1 hown hK hP 0 rfl rfl 5 (by decide) hk1 (fun _ h9 => h9) rfl dX1_closeKnotBegunBy_7 ?_
  refine lv_iload_n hx hb dX1_closeKnotBegunBy_10 rfl (lv_at hl 1 rfl) ?_
  obtain ⟨hi_11, h⟩ := ox_i_of h
  refine va_iald hx hb hK hP 3 0 rfl rfl hi_11 dX1_closeKnotBegunBy_11 ?_
  refine lv_icmp_eq (tgt := 16) hx hb dX1_closeKnotBegunBy_12 (by decide) (fun c_12 => ?_) (fun c_12 => ?_)
  · have h := ox_t c_12 h
    obtain ⟨ex_16, hex_16, h_16⟩ := ox_b_of h
    have hX_16 : ∀ (K_closed_16 : Int32) (K_opened_16 : Int32) (K_knotOf_16 : Nat → Int32) (K_order_16 : Nat → Int32) (H : Heap) (locs : List Loc) (ls : Array Slot), (K_closed_16, K_opened_16, K_knotOf_16, K_order_16) = ex_16 → va_P D vwCl [(kK ad K_found K_closed_16 K_entries K_depth K_opened_16), (kI cI (ad 20) 200 K_knotOf_16), (kI cI (ad 21) 200 K_order_16), (kI cI (ad 22) 200 K_entered), (kI cI (ad 23) 200 K_low), (kI cI (ad 26) 200 K_open)] H → va_D A [(kK ad K_found K_closed_16 K_entries K_depth K_opened_16), (kI cI (ad 20) 200 K_knotOf_16), (kI cI (ad 21) 200 K_order_16), (kI cI (ad 22) 200 K_entered), (kI cI (ad 23) 200 K_low), (kI cI (ad 26) 200 K_open)] → va_S A s.heap H locs → lv_has ls 3 [(0, .ref (ad 3))] → W p l e { frames := 0, cells := 0, slots := 0, locals := 0 } s m ([.ref (ad 3), .int a1] : List Value).toArray below meth c H locs 0 0 Q (F0 m 86 ls []) := by
      intro K_closed_16 K_opened_16 K_knotOf_16 K_order_16 H locs ls hex_16 hP hD hS hl
      subst hex_16
      have h := h_16
      refine lv_aload_n hx hb dX1_closeKnotBegunBy_86 rfl (lv_at hl 0 rfl) ?_
      refine lv_dup hx hb dX1_closeKnotBegunBy_87 rfl ?_
      refine va_get (D := D) (ci := 1) (v := .int K_found) (C := RX1) (T := TX1) (N := 13) hx hb hts hiX1 hown hK hP 0 rfl rfl 1 (by decide) hk2 (fun _ h9 => h9) rfl dX1_closeKnotBegunBy_88 ?_
      refine lv_iconst (v := 1) hx hb dX1_closeKnotBegunBy_91 (by decide) ?_
      refine lv_iadd hx hb dX1_closeKnotBegunBy_92 ?_
      refine va_put (D := D) (ci := 1) (v := .int (K_found + 1)) (ty := .int) (C := RX1) (T := TX1) (N := 13) hx hb hts hiX1 tyX1 tyX1_ok nmX1 hown hK hP hD hS 0 rfl rfl 1 (by decide) hk2 (fun _ h9 => h9) rfl (by decide +kernel) rfl rfl (Nat.le_of_ble_eq_true rfl) dX1_closeKnotBegunBy_93 (fun H locs hP hD hS => ?_)
      have hP : va_P D vwCl [(kK ad (K_found + 1) K_closed_16 K_entries K_depth K_opened_16), (kI cI (ad 20) 200 K_knotOf_16), (kI cI (ad 21) 200 K_order_16), (kI cI (ad 22) 200 K_entered), (kI cI (ad 23) 200 K_low), (kI cI (ad 26) 200 K_open)] H := hP
      have hD : va_D A [(kK ad (K_found + 1) K_closed_16 K_entries K_depth K_opened_16), (kI cI (ad 20) 200 K_knotOf_16), (kI cI (ad 21) 200 K_order_16), (kI cI (ad 22) 200 K_entered), (kI cI (ad 23) 200 K_low), (kI cI (ad 26) 200 K_open)] := hD
      have h := Option.some.inj h
      subst h
      exact hend H locs _ ls hP hD hS dX1_closeKnotBegunBy_96 trivial
    have hL_16 : ∀ (n : Nat) (K_closed_16 : Int32) (K_opened_16 : Int32) (K_knotOf_16 : Nat → Int32) (K_order_16 : Nat → Int32) (H : Heap) (locs : List Loc) (ls : Array Slot), ox_l (fn_X1_closeKnotBegunBy_l16 a1 K_open K_found) n (K_closed_16, K_opened_16, K_knotOf_16, K_order_16) = some ex_16 → va_P D vwCl [(kK ad K_found K_closed_16 K_entries K_depth K_opened_16), (kI cI (ad 20) 200 K_knotOf_16), (kI cI (ad 21) 200 K_order_16), (kI cI (ad 22) 200 K_entered), (kI cI (ad 23) 200 K_low), (kI cI (ad 26) 200 K_open)] H → va_D A [(kK ad K_found K_closed_16 K_entries K_depth K_opened_16), (kI cI (ad 20) 200 K_knotOf_16), (kI cI (ad 21) 200 K_order_16), (kI cI (ad 22) 200 K_entered), (kI cI (ad 23) 200 K_low), (kI cI (ad 26) 200 K_open)] → va_S A s.heap H locs → lv_has ls 3 [(0, .ref (ad 3)), (1, .int a1)] → W p l e { frames := 0, cells := 0, slots := 0, locals := 0 } s m ([.ref (ad 3), .int a1] : List Value).toArray below meth c H locs 0 0 Q (F0 m 16 ls []) := by
      intro n
      induction n with
      | zero => intro K_closed_16 K_opened_16 K_knotOf_16 K_order_16 H locs ls hlp; exact ox_l_0 hlp
      | succ n ih_16 =>
        intro K_closed_16 K_opened_16 K_knotOf_16 K_order_16 H locs ls hlp_16 hP hD hS hl
        obtain ⟨z_16, h, hlp_16⟩ := ox_l_of hlp_16
        refine lv_aload_n hx hb dX1_closeKnotBegunBy_16 rfl (lv_at hl 0 rfl) ?_
        refine va_get (D := D) (ci := 1) (v := .int K_opened_16) (C := RX1) (T := TX1) (N := 13) hx hb hts hiX1 hown hK hP 0 rfl rfl 12 (by decide) hk3 (fun _ h9 => h9) rfl dX1_closeKnotBegunBy_17 ?_
        refine lv_if_le (tgt := 86) hx hb dX1_closeKnotBegunBy_20 (by decide) (fun c_20 => ?_) (fun c_20 => ?_)
        · have h := ox_t c_20 h
          obtain rfl := Option.some.inj h
          exact hX_16 K_closed_16 K_opened_16 K_knotOf_16 K_order_16 H locs ls hlp_16 hP hD hS (lv_sub hl [0] rfl)
        · have h := ox_f c_20 h
          refine lv_aload_n hx hb dX1_closeKnotBegunBy_23 rfl (lv_at hl 0 rfl) ?_
          refine va_get (D := D) (ci := 1) (v := .ref (ad 20)) (C := RX1) (T := TX1) (N := 13) hx hb hts hiX1 hown hK hP 0 rfl rfl 2 (by decide) hk4 (fun _ h9 => h9) rfl dX1_closeKnotBegunBy_24 ?_
          refine lv_iload_n hx hb dX1_closeKnotBegunBy_27 rfl (lv_at hl 1 rfl) ?_
          obtain ⟨hi_28, h⟩ := ox_i_of h
          refine va_iald hx hb hK hP 1 0 rfl rfl hi_28 dX1_closeKnotBegunBy_28 ?_
          refine lv_iconst (v := (-1)) hx hb dX1_closeKnotBegunBy_29 (by decide) ?_
          refine lv_icmp_ne (tgt := 86) hx hb dX1_closeKnotBegunBy_30 (by decide) (fun c_30 => ?_) (fun c_30 => ?_)
          · have h := ox_f c_30 h
            obtain rfl := Option.some.inj h
            exact hX_16 K_closed_16 K_opened_16 K_knotOf_16 K_order_16 H locs ls hlp_16 hP hD hS (lv_sub hl [0] rfl)
          · have h := ox_t c_30 h
            refine lv_aload_n hx hb dX1_closeKnotBegunBy_33 rfl (lv_at hl 0 rfl) ?_
            refine lv_dup hx hb dX1_closeKnotBegunBy_34 rfl ?_
            refine va_get (D := D) (ci := 1) (v := .int K_opened_16) (C := RX1) (T := TX1) (N := 13) hx hb hts hiX1 hown hK hP 0 rfl rfl 12 (by decide) hk3 (fun _ h9 => h9) rfl dX1_closeKnotBegunBy_35 ?_
            refine lv_iconst (v := 1) hx hb dX1_closeKnotBegunBy_38 (by decide) ?_
            refine lv_isub hx hb dX1_closeKnotBegunBy_39 ?_
            refine va_put (D := D) (ci := 1) (v := .int (K_opened_16 - 1)) (ty := .int) (C := RX1) (T := TX1) (N := 13) hx hb hts hiX1 tyX1 tyX1_ok nmX1 hown hK hP hD hS 0 rfl rfl 12 (by decide) hk3 (fun _ h9 => h9) rfl (by decide +kernel) rfl rfl (Nat.le_of_ble_eq_true rfl) dX1_closeKnotBegunBy_40 (fun H locs hP hD hS => ?_)
            have hP : va_P D vwCl [(kK ad K_found K_closed_16 K_entries K_depth (K_opened_16 - 1)), (kI cI (ad 20) 200 K_knotOf_16), (kI cI (ad 21) 200 K_order_16), (kI cI (ad 22) 200 K_entered), (kI cI (ad 23) 200 K_low), (kI cI (ad 26) 200 K_open)] H := hP
            have hD : va_D A [(kK ad K_found K_closed_16 K_entries K_depth (K_opened_16 - 1)), (kI cI (ad 20) 200 K_knotOf_16), (kI cI (ad 21) 200 K_order_16), (kI cI (ad 22) 200 K_entered), (kI cI (ad 23) 200 K_low), (kI cI (ad 26) 200 K_open)] := hD
            refine lv_aload_n hx hb dX1_closeKnotBegunBy_43 rfl (lv_at hl 0 rfl) ?_
            refine va_get (D := D) (ci := 1) (v := .ref (ad 26)) (C := RX1) (T := TX1) (N := 13) hx hb hts hiX1 hown hK hP 0 rfl rfl 11 (by decide) hk5 (fun _ h9 => h9) rfl dX1_closeKnotBegunBy_44 ?_
            refine lv_aload_n hx hb dX1_closeKnotBegunBy_47 rfl (lv_at hl 0 rfl) ?_
            refine va_get (D := D) (ci := 1) (v := .int (K_opened_16 - 1)) (C := RX1) (T := TX1) (N := 13) hx hb hts hiX1 hown hK hP 0 rfl rfl 12 (by decide) hk3 (fun _ h9 => h9) rfl dX1_closeKnotBegunBy_48 ?_
            obtain ⟨hi_51, h⟩ := ox_i_of h
            refine va_iald hx hb hK hP 5 0 rfl rfl hi_51 dX1_closeKnotBegunBy_51 ?_
            refine lv_istore_n (lv' := [(2, .int (K_open (K_opened_16 - 1).toNatClampNeg)), (0, .ref (ad 3)), (1, .int a1)]) hx hb dX1_closeKnotBegunBy_52 rfl hl (by decide) rfl (fun ls hl => ?_)
            refine lv_aload_n hx hb dX1_closeKnotBegunBy_53 rfl (lv_at hl 1 rfl) ?_
            refine va_get (D := D) (ci := 1) (v := .ref (ad 20)) (C := RX1) (T := TX1) (N := 13) hx hb hts hiX1 hown hK hP 0 rfl rfl 2 (by decide) hk4 (fun _ h9 => h9) rfl dX1_closeKnotBegunBy_54 ?_
            refine lv_iload_n hx hb dX1_closeKnotBegunBy_57 rfl (lv_at hl 0 rfl) ?_
            refine lv_aload_n hx hb dX1_closeKnotBegunBy_58 rfl (lv_at hl 1 rfl) ?_
            refine va_get (D := D) (ci := 1) (v := .int K_found) (C := RX1) (T := TX1) (N := 13) hx hb hts hiX1 hown hK hP 0 rfl rfl 1 (by decide) hk2 (fun _ h9 => h9) rfl dX1_closeKnotBegunBy_59 ?_
            obtain ⟨hi_62, h⟩ := ox_i_of h
            refine va_iast hx hb hK hP hD hS 1 0 rfl rfl hi_62 dX1_closeKnotBegunBy_62 (fun H locs hP hD hS => ?_)
            have hP : va_P D vwCl [(kK ad K_found K_closed_16 K_entries K_depth (K_opened_16 - 1)), (kI cI (ad 20) 200 (upd K_knotOf_16 (K_open (K_opened_16 - 1).toNatClampNeg).toNatClampNeg K_found)), (kI cI (ad 21) 200 K_order_16), (kI cI (ad 22) 200 K_entered), (kI cI (ad 23) 200 K_low), (kI cI (ad 26) 200 K_open)] H := hP
            have hD : va_D A [(kK ad K_found K_closed_16 K_entries K_depth (K_opened_16 - 1)), (kI cI (ad 20) 200 (upd K_knotOf_16 (K_open (K_opened_16 - 1).toNatClampNeg).toNatClampNeg K_found)), (kI cI (ad 21) 200 K_order_16), (kI cI (ad 22) 200 K_entered), (kI cI (ad 23) 200 K_low), (kI cI (ad 26) 200 K_open)] := hD
            refine lv_aload_n hx hb dX1_closeKnotBegunBy_63 rfl (lv_at hl 1 rfl) ?_
            refine va_get (D := D) (ci := 1) (v := .ref (ad 21)) (C := RX1) (T := TX1) (N := 13) hx hb hts hiX1 hown hK hP 0 rfl rfl 3 (by decide) hk6 (fun _ h9 => h9) rfl dX1_closeKnotBegunBy_64 ?_
            refine lv_aload_n hx hb dX1_closeKnotBegunBy_67 rfl (lv_at hl 1 rfl) ?_
            refine va_get (D := D) (ci := 1) (v := .int K_closed_16) (C := RX1) (T := TX1) (N := 13) hx hb hts hiX1 hown hK hP 0 rfl rfl 4 (by decide) hk7 (fun _ h9 => h9) rfl dX1_closeKnotBegunBy_68 ?_
            refine lv_iload_n hx hb dX1_closeKnotBegunBy_71 rfl (lv_at hl 0 rfl) ?_
            obtain ⟨hi_72, h⟩ := ox_i_of h
            refine va_iast hx hb hK hP hD hS 2 0 rfl rfl hi_72 dX1_closeKnotBegunBy_72 (fun H locs hP hD hS => ?_)
            have hP : va_P D vwCl [(kK ad K_found K_closed_16 K_entries K_depth (K_opened_16 - 1)), (kI cI (ad 20) 200 (upd K_knotOf_16 (K_open (K_opened_16 - 1).toNatClampNeg).toNatClampNeg K_found)), (kI cI (ad 21) 200 (upd K_order_16 K_closed_16.toNatClampNeg (K_open (K_opened_16 - 1).toNatClampNeg))), (kI cI (ad 22) 200 K_entered), (kI cI (ad 23) 200 K_low), (kI cI (ad 26) 200 K_open)] H := hP
            have hD : va_D A [(kK ad K_found K_closed_16 K_entries K_depth (K_opened_16 - 1)), (kI cI (ad 20) 200 (upd K_knotOf_16 (K_open (K_opened_16 - 1).toNatClampNeg).toNatClampNeg K_found)), (kI cI (ad 21) 200 (upd K_order_16 K_closed_16.toNatClampNeg (K_open (K_opened_16 - 1).toNatClampNeg))), (kI cI (ad 22) 200 K_entered), (kI cI (ad 23) 200 K_low), (kI cI (ad 26) 200 K_open)] := hD
            refine lv_aload_n hx hb dX1_closeKnotBegunBy_73 rfl (lv_at hl 1 rfl) ?_
            refine lv_dup hx hb dX1_closeKnotBegunBy_74 rfl ?_
            refine va_get (D := D) (ci := 1) (v := .int K_closed_16) (C := RX1) (T := TX1) (N := 13) hx hb hts hiX1 hown hK hP 0 rfl rfl 4 (by decide) hk7 (fun _ h9 => h9) rfl dX1_closeKnotBegunBy_75 ?_
            refine lv_iconst (v := 1) hx hb dX1_closeKnotBegunBy_78 (by decide) ?_
            refine lv_iadd hx hb dX1_closeKnotBegunBy_79 ?_
            refine va_put (D := D) (ci := 1) (v := .int (K_closed_16 + 1)) (ty := .int) (C := RX1) (T := TX1) (N := 13) hx hb hts hiX1 tyX1 tyX1_ok nmX1 hown hK hP hD hS 0 rfl rfl 4 (by decide) hk7 (fun _ h9 => h9) rfl (by decide +kernel) rfl rfl (Nat.le_of_ble_eq_true rfl) dX1_closeKnotBegunBy_80 (fun H locs hP hD hS => ?_)
            have hP : va_P D vwCl [(kK ad K_found (K_closed_16 + 1) K_entries K_depth (K_opened_16 - 1)), (kI cI (ad 20) 200 (upd K_knotOf_16 (K_open (K_opened_16 - 1).toNatClampNeg).toNatClampNeg K_found)), (kI cI (ad 21) 200 (upd K_order_16 K_closed_16.toNatClampNeg (K_open (K_opened_16 - 1).toNatClampNeg))), (kI cI (ad 22) 200 K_entered), (kI cI (ad 23) 200 K_low), (kI cI (ad 26) 200 K_open)] H := hP
            have hD : va_D A [(kK ad K_found (K_closed_16 + 1) K_entries K_depth (K_opened_16 - 1)), (kI cI (ad 20) 200 (upd K_knotOf_16 (K_open (K_opened_16 - 1).toNatClampNeg).toNatClampNeg K_found)), (kI cI (ad 21) 200 (upd K_order_16 K_closed_16.toNatClampNeg (K_open (K_opened_16 - 1).toNatClampNeg))), (kI cI (ad 22) 200 K_entered), (kI cI (ad 23) 200 K_low), (kI cI (ad 26) 200 K_open)] := hD
            refine lv_goto (tgt := 16) hx hb dX1_closeKnotBegunBy_83 (by decide) ?_
            obtain rfl := Option.some.inj h
            exact ih_16 (K_closed_16 + 1) (K_opened_16 - 1) (upd K_knotOf_16 (K_open (K_opened_16 - 1).toNatClampNeg).toNatClampNeg K_found) (upd K_order_16 K_closed_16.toNatClampNeg (K_open (K_opened_16 - 1).toNatClampNeg)) H locs ls hlp_16 hP hD hS (lv_sub hl [1, 2] rfl)
    exact hL_16 1000000 K_closed K_opened K_knotOf K_order H locs ls hex_16 hP hD hS (lv_sub hl [0, 1] rfl)
  · have h := ox_f c_12 h
    have h := Option.some.inj h
    subst h
    exact hend H locs _ ls hP hD hS dX1_closeKnotBegunBy_15 trivial
set_option maxHeartbeats 4000000 in
set_option maxRecDepth 100000 in
theorem c_X1_walkFrom (l : Launch) (D : va_G) (cI cZ : ClassId) (ad : Nat → Nat) (G_states : Int32) (G_moves : Int32) (G_ends : Int32) (K_found : Int32) (K_closed : Int32) (K_entries : Int32) (K_depth : Int32) (K_opened : Int32) (G_to : Nat → Int32) (G_out : Nat → Int32) (G_start : Nat → Int32) (K_chosen : Nat → Int32) (K_knotOf : Nat → Int32) (K_order : Nat → Int32) (K_entered : Nat → Int32) (K_low : Nat → Int32) (K_nextOut : Nat → Int32) (K_path : Nat → Int32) (K_open : Nat → Int32) (a2 : Int32) (res : Int32 × Int32 × Int32 × Int32 × Int32 × (Nat → Int32) × (Nat → Int32) × (Nat → Int32) × (Nat → Int32) × (Nat → Int32) × (Nat → Int32) × (Nat → Int32)) (h : fn_X1_walkFrom G_states G_moves K_found K_closed K_entries K_depth K_opened G_to G_out G_start K_chosen K_knotOf K_order K_entered K_low K_nextOut K_path K_open a2 = some res) : mc_C l yX1_walkFrom wv_X1_walkFrom { frames := 2, cells := 0, slots := 0, locals := 43 } D [(cI, .int), (cZ, .boolean)] [.ref (ad 3), .ref (ad 1), .int a2] [(kG ad G_states G_moves G_ends), (kK ad K_found K_closed K_entries K_depth K_opened), (kI cI (ad 12) 600 G_to), (kI cI (ad 14) 600 G_out), (kI cI (ad 15) 201 G_start), (kZ cZ (ad 19) 200 K_chosen), (kI cI (ad 20) 200 K_knotOf), (kI cI (ad 21) 200 K_order), (kI cI (ad 22) 200 K_entered), (kI cI (ad 23) 200 K_low), (kI cI (ad 24) 200 K_nextOut), (kI cI (ad 25) 200 K_path), (kI cI (ad 26) 200 K_open)] (none) [(kG ad G_states G_moves G_ends), (kK ad res.1 res.2.1 res.2.2.1 res.2.2.2.1 res.2.2.2.2.1), (kI cI (ad 12) 600 G_to), (kI cI (ad 14) 600 G_out), (kI cI (ad 15) 201 G_start), (kZ cZ (ad 19) 200 K_chosen), (kI cI (ad 20) 200 res.2.2.2.2.2.1), (kI cI (ad 21) 200 res.2.2.2.2.2.2.1), (kI cI (ad 22) 200 res.2.2.2.2.2.2.2.1), (kI cI (ad 23) 200 res.2.2.2.2.2.2.2.2.1), (kI cI (ad 24) 200 res.2.2.2.2.2.2.2.2.2.1), (kI cI (ad 25) 200 res.2.2.2.2.2.2.2.2.2.2.1), (kI cI (ad 26) 200 res.2.2.2.2.2.2.2.2.2.2.2)] := by
  refine mc_ofv (own := RX1) (by decide) rfl rfl (Nat.le_of_ble_eq_true rfl) ?_
  intro p e s m below meth c A Q ls hx hb hml hown hts hK hP hD hA hl hend
  have hS : va_S A s.heap s.heap [] := va_S.rf
  have hl : lv_has ls 7 [(0, .ref (ad 3)), (1, .ref (ad 1)), (2, .int a2)] := hl
  obtain ⟨H, hH⟩ : ∃ H, H = s.heap := ⟨_, rfl⟩
  obtain ⟨locs, hlo⟩ : ∃ locs : List Loc, locs = [] := ⟨_, rfl⟩
  have hS : va_S A s.heap H locs := by rw [hH, hlo]; exact hS
  have hP : va_P D vwCl [(kG ad G_states G_moves G_ends), (kK ad K_found K_closed K_entries K_depth K_opened), (kI cI (ad 12) 600 G_to), (kI cI (ad 14) 600 G_out), (kI cI (ad 15) 201 G_start), (kZ cZ (ad 19) 200 K_chosen), (kI cI (ad 20) 200 K_knotOf), (kI cI (ad 21) 200 K_order), (kI cI (ad 22) 200 K_entered), (kI cI (ad 23) 200 K_low), (kI cI (ad 24) 200 K_nextOut), (kI cI (ad 25) 200 K_path), (kI cI (ad 26) 200 K_open)] H := by rw [hH]; exact hP
  suffices h9 : W p l e { frames := 2, cells := 0, slots := 0, locals := 43 } s m ([.ref (ad 3), .ref (ad 1), .int a2] : List Value).toArray below meth c H locs 0 0 Q (F0 m 0 ls []) by rw [hH, hlo] at h9; exact h9
  clear hH hlo
  have hiX0 : ∀ w ∈ wsX00, w ∈ wv_X1_walkFrom := fun w h => List.mem_cons_of_mem _ (inlX0 w h)
  have hiX1 : ∀ w ∈ wsX10, w ∈ wv_X1_walkFrom := fun w h => List.mem_cons_of_mem _ (inlX1 w h)
  have hk0 := hts (.fieldLink RX1 53 "FairLoops$Graph" "states" "I") (List.mem_cons_of_mem _ wk_247)
  have hk1 := hts (.fieldLink RX1 65 "FairLoops$Graph" "moves" "I") (List.mem_cons_of_mem _ wk_252)
  have hk2 := hts (.fieldLink RX1 47 "FairLoops$Knots" "depth" "I") (List.mem_cons_of_mem _ wk_245)
  have hk3 := hts (.fieldLink RX1 31 "FairLoops$Knots" "path" "[I") (List.mem_cons_of_mem _ wk_59)
  have hk4 := hts (.fieldLink RX1 28 "FairLoops$Knots" "nextOut" "[I") (List.mem_cons_of_mem _ wk_58)
  have hk5 := hts (.fieldLink RX1 68 "FairLoops$Graph" "start" "[I") (List.mem_cons_of_mem _ wk_253)
  have hk6 := hts (.fieldLink RX1 78 "FairLoops$Graph" "to" "[I") (List.mem_cons_of_mem _ wk_254)
  have hk7 := hts (.fieldLink RX1 81 "FairLoops$Graph" "out" "[I") (List.mem_cons_of_mem _ wk_255)
  have hk8 := hts (.fieldLink RX1 9 "FairLoops$Knots" "chosen" "[Z") (List.mem_cons_of_mem _ wk_53)
  have hk9 := hts (.fieldLink RX1 15 "FairLoops$Knots" "knotOf" "[I") (List.mem_cons_of_mem _ wk_54)
  have hk10 := hts (.fieldLink RX1 22 "FairLoops$Knots" "entered" "[I") (List.mem_cons_of_mem _ wk_56)
  refine lv_aload_n hx hb dX1_walkFrom_0 rfl (lv_at hl 0 rfl) ?_
  refine lv_aload_n hx hb dX1_walkFrom_1 rfl (lv_at hl 1 rfl) ?_
  refine lv_iload_n hx hb dX1_walkFrom_2 rfl (lv_at hl 2 rfl) ?_
  obtain ⟨⟨K_entries_3, K_depth_3, K_opened_3, K_entered_3, K_low_3, K_nextOut_3, K_path_3, K_open_3⟩, hc_3, h⟩ := ox_b_of h
  refine mc_callV (As := [.ref (ad 1), .int a2]) (rest := []) (b := ad 3) (Wc := [(kG ad G_states G_moves G_ends), (kK ad K_found K_closed K_entries K_depth K_opened), (kI cI (ad 15) 201 G_start), (kI cI (ad 22) 200 K_entered), (kI cI (ad 23) 200 K_low), (kI cI (ad 24) 200 K_nextOut), (kI cI (ad 25) 200 K_path), (kI cI (ad 26) 200 K_open)]) (wr := [(kI cI (ad 12) 600 G_to), (kI cI (ad 14) 600 G_out), (kZ cZ (ad 19) 200 K_chosen), (kI cI (ad 20) 200 K_knotOf), (kI cI (ad 21) 200 K_order)]) (W1 := [(kG ad G_states G_moves G_ends), (kK ad K_found K_closed K_entries_3 K_depth_3 K_opened_3), (kI cI (ad 15) 201 G_start), (kI cI (ad 22) 200 K_entered_3), (kI cI (ad 23) 200 K_low_3), (kI cI (ad 24) 200 K_nextOut_3), (kI cI (ad 25) 200 K_path_3), (kI cI (ad 26) 200 K_open_3)]) (wn := [(kG ad G_states G_moves G_ends), (kK ad K_found K_closed K_entries_3 K_depth_3 K_opened_3), (kI cI (ad 12) 600 G_to), (kI cI (ad 14) 600 G_out), (kI cI (ad 15) 201 G_start), (kZ cZ (ad 19) 200 K_chosen), (kI cI (ad 20) 200 K_knotOf), (kI cI (ad 21) 200 K_order), (kI cI (ad 22) 200 K_entered_3), (kI cI (ad 23) 200 K_low_3), (kI cI (ad 24) 200 K_nextOut_3), (kI cI (ad 25) 200 K_path_3), (kI cI (ad 26) 200 K_open_3)]) (rv := none) ⟨hx, hb, hml, hown, hts⟩ (c_X1_enter l D cI cZ ad G_states G_moves G_ends K_found K_closed K_entries K_depth K_opened G_start K_entered K_low K_nextOut K_path K_open a2 _ hc_3) (cwV 2 hts (gl_V wk_256 wk_257 wk_258 wk_25 wk_259) rfl rfl rfl (by decide +kernel) ⟨Nat.le_of_ble_eq_true rfl, Nat.le_of_ble_eq_true rfl⟩) hK hP hD hS hA 1 1 rfl rfl rfl [0, 1, 4, 8, 9, 10, 11, 12] [2, 3, 5, 6, 7] [5, 6, 0, 1, 7, 2, 3, 4, 8, 9, 10, 11, 12] rfl rfl (by decide) rfl (by decide) (by decide) rfl rfl (by decide) rfl rfl hl.1 (Nat.le_of_ble_eq_true rfl) dX1_walkFrom_3 ⟨Nat.zero_le _, Nat.zero_le _⟩ (fun H locs hP hD hS => ?_)
  show W p l e { frames := 2, cells := 0, slots := 0, locals := 43 } s m ([.ref (ad 3), .ref (ad 1), .int a2] : List Value).toArray below meth c H locs 0 0 Q (F0 m 6 ls [])
  refine lv_aload_n hx hb dX1_walkFrom_6 rfl (lv_at hl 1 rfl) ?_
  refine va_get (D := D) (ci := 0) (v := .int G_states) (C := RX0) (T := TX0) (N := 11) hx hb hts hiX0 hown hK hP 0 rfl rfl 0 (by decide) hk0 (fun _ h9 => h9) rfl dX1_walkFrom_7 ?_
  refine lv_aload_n hx hb dX1_walkFrom_10 rfl (lv_at hl 1 rfl) ?_
  refine va_get (D := D) (ci := 0) (v := .int G_moves) (C := RX0) (T := TX0) (N := 11) hx hb hts hiX0 hown hK hP 0 rfl rfl 1 (by decide) hk1 (fun _ h9 => h9) rfl dX1_walkFrom_11 ?_
  refine lv_iadd hx hb dX1_walkFrom_14 ?_
  refine lv_istore_n (lv' := [(3, .int (G_states + G_moves)), (0, .ref (ad 3)), (1, .ref (ad 1)), (2, .int a2)]) hx hb dX1_walkFrom_15 rfl hl (by decide) rfl (fun ls hl => ?_)
  refine lv_iconst (v := 0) hx hb dX1_walkFrom_16 (by decide) ?_
  refine lv_istore (lv' := [(4, .int 0), (3, .int (G_states + G_moves)), (0, .ref (ad 3)), (1, .ref (ad 1)), (2, .int a2)]) hx hb dX1_walkFrom_17 hl (by decide) rfl (fun ls hl => ?_)
  obtain ⟨ex_19, hex_19, h_19⟩ := ox_b_of h
  have hX_19 : ∀ (v4_19 : Int32) (K_found_19 : Int32) (K_closed_19 : Int32) (K_entries_19 : Int32) (K_depth_19 : Int32) (K_opened_19 : Int32) (K_knotOf_19 : Nat → Int32) (K_order_19 : Nat → Int32) (K_entered_19 : Nat → Int32) (K_low_19 : Nat → Int32) (K_nextOut_19 : Nat → Int32) (K_path_19 : Nat → Int32) (K_open_19 : Nat → Int32) (H : Heap) (locs : List Loc) (ls : Array Slot), (v4_19, K_found_19, K_closed_19, K_entries_19, K_depth_19, K_opened_19, K_knotOf_19, K_order_19, K_entered_19, K_low_19, K_nextOut_19, K_path_19, K_open_19) = ex_19 → va_P D vwCl [(kG ad G_states G_moves G_ends), (kK ad K_found_19 K_closed_19 K_entries_19 K_depth_19 K_opened_19), (kI cI (ad 12) 600 G_to), (kI cI (ad 14) 600 G_out), (kI cI (ad 15) 201 G_start), (kZ cZ (ad 19) 200 K_chosen), (kI cI (ad 20) 200 K_knotOf_19), (kI cI (ad 21) 200 K_order_19), (kI cI (ad 22) 200 K_entered_19), (kI cI (ad 23) 200 K_low_19), (kI cI (ad 24) 200 K_nextOut_19), (kI cI (ad 25) 200 K_path_19), (kI cI (ad 26) 200 K_open_19)] H → va_D A [(kG ad G_states G_moves G_ends), (kK ad K_found_19 K_closed_19 K_entries_19 K_depth_19 K_opened_19), (kI cI (ad 12) 600 G_to), (kI cI (ad 14) 600 G_out), (kI cI (ad 15) 201 G_start), (kZ cZ (ad 19) 200 K_chosen), (kI cI (ad 20) 200 K_knotOf_19), (kI cI (ad 21) 200 K_order_19), (kI cI (ad 22) 200 K_entered_19), (kI cI (ad 23) 200 K_low_19), (kI cI (ad 24) 200 K_nextOut_19), (kI cI (ad 25) 200 K_path_19), (kI cI (ad 26) 200 K_open_19)] → va_S A s.heap H locs → lv_has ls 7 [] → W p l e { frames := 2, cells := 0, slots := 0, locals := 43 } s m ([.ref (ad 3), .ref (ad 1), .int a2] : List Value).toArray below meth c H locs 0 0 Q (F0 m 179 ls []) := by
    intro v4_19 K_found_19 K_closed_19 K_entries_19 K_depth_19 K_opened_19 K_knotOf_19 K_order_19 K_entered_19 K_low_19 K_nextOut_19 K_path_19 K_open_19 H locs ls hex_19 hP hD hS hl
    subst hex_19
    have h := h_19
    have h := Option.some.inj h
    subst h
    exact hend H locs _ ls hP hD hS dX1_walkFrom_179 trivial
  have hL_19 : ∀ (n : Nat) (v4_19 : Int32) (K_found_19 : Int32) (K_closed_19 : Int32) (K_entries_19 : Int32) (K_depth_19 : Int32) (K_opened_19 : Int32) (K_knotOf_19 : Nat → Int32) (K_order_19 : Nat → Int32) (K_entered_19 : Nat → Int32) (K_low_19 : Nat → Int32) (K_nextOut_19 : Nat → Int32) (K_path_19 : Nat → Int32) (K_open_19 : Nat → Int32) (H : Heap) (locs : List Loc) (ls : Array Slot), ox_l (fn_X1_walkFrom_l19 G_states G_moves G_start G_out G_to K_chosen) n (v4_19, K_found_19, K_closed_19, K_entries_19, K_depth_19, K_opened_19, K_knotOf_19, K_order_19, K_entered_19, K_low_19, K_nextOut_19, K_path_19, K_open_19) = some ex_19 → va_P D vwCl [(kG ad G_states G_moves G_ends), (kK ad K_found_19 K_closed_19 K_entries_19 K_depth_19 K_opened_19), (kI cI (ad 12) 600 G_to), (kI cI (ad 14) 600 G_out), (kI cI (ad 15) 201 G_start), (kZ cZ (ad 19) 200 K_chosen), (kI cI (ad 20) 200 K_knotOf_19), (kI cI (ad 21) 200 K_order_19), (kI cI (ad 22) 200 K_entered_19), (kI cI (ad 23) 200 K_low_19), (kI cI (ad 24) 200 K_nextOut_19), (kI cI (ad 25) 200 K_path_19), (kI cI (ad 26) 200 K_open_19)] H → va_D A [(kG ad G_states G_moves G_ends), (kK ad K_found_19 K_closed_19 K_entries_19 K_depth_19 K_opened_19), (kI cI (ad 12) 600 G_to), (kI cI (ad 14) 600 G_out), (kI cI (ad 15) 201 G_start), (kZ cZ (ad 19) 200 K_chosen), (kI cI (ad 20) 200 K_knotOf_19), (kI cI (ad 21) 200 K_order_19), (kI cI (ad 22) 200 K_entered_19), (kI cI (ad 23) 200 K_low_19), (kI cI (ad 24) 200 K_nextOut_19), (kI cI (ad 25) 200 K_path_19), (kI cI (ad 26) 200 K_open_19)] → va_S A s.heap H locs → lv_has ls 7 [(0, .ref (ad 3)), (1, .ref (ad 1)), (3, .int (G_states + G_moves)), (4, .int v4_19)] → W p l e { frames := 2, cells := 0, slots := 0, locals := 43 } s m ([.ref (ad 3), .ref (ad 1), .int a2] : List Value).toArray below meth c H locs 0 0 Q (F0 m 19 ls []) := by
    intro n
    induction n with
    | zero => intro v4_19 K_found_19 K_closed_19 K_entries_19 K_depth_19 K_opened_19 K_knotOf_19 K_order_19 K_entered_19 K_low_19 K_nextOut_19 K_path_19 K_open_19 H locs ls hlp; exact ox_l_0 hlp
    | succ n ih_19 =>
      intro v4_19 K_found_19 K_closed_19 K_entries_19 K_depth_19 K_opened_19 K_knotOf_19 K_order_19 K_entered_19 K_low_19 K_nextOut_19 K_path_19 K_open_19 H locs ls hlp_19 hP hD hS hl
      obtain ⟨z_19, h, hlp_19⟩ := ox_l_of hlp_19
      refine lv_iload hx hb dX1_walkFrom_19 (lv_at hl 3 rfl) ?_
      refine lv_iload_n hx hb dX1_walkFrom_21 rfl (lv_at hl 2 rfl) ?_
      refine lv_icmp_ge (tgt := 179) hx hb dX1_walkFrom_22 (by decide) (fun c_22 => ?_) (fun c_22 => ?_)
      · have h := ox_t c_22 h
        obtain rfl := Option.some.inj h
        exact hX_19 v4_19 K_found_19 K_closed_19 K_entries_19 K_depth_19 K_opened_19 K_knotOf_19 K_order_19 K_entered_19 K_low_19 K_nextOut_19 K_path_19 K_open_19 H locs ls hlp_19 hP hD hS (lv_sub hl [] rfl)
      · have h := ox_f c_22 h
        refine lv_aload_n hx hb dX1_walkFrom_25 rfl (lv_at hl 0 rfl) ?_
        refine va_get (D := D) (ci := 1) (v := .int K_depth_19) (C := RX1) (T := TX1) (N := 13) hx hb hts hiX1 hown hK hP 1 rfl rfl 10 (by decide) hk2 (fun _ h9 => h9) rfl dX1_walkFrom_26 ?_
        refine lv_if_le (tgt := 179) hx hb dX1_walkFrom_29 (by decide) (fun c_29 => ?_) (fun c_29 => ?_)
        · have h := ox_t c_29 h
          obtain rfl := Option.some.inj h
          exact hX_19 v4_19 K_found_19 K_closed_19 K_entries_19 K_depth_19 K_opened_19 K_knotOf_19 K_order_19 K_entered_19 K_low_19 K_nextOut_19 K_path_19 K_open_19 H locs ls hlp_19 hP hD hS (lv_sub hl [] rfl)
        · have h := ox_f c_29 h
          refine lv_aload_n hx hb dX1_walkFrom_32 rfl (lv_at hl 0 rfl) ?_
          refine va_get (D := D) (ci := 1) (v := .ref (ad 25)) (C := RX1) (T := TX1) (N := 13) hx hb hts hiX1 hown hK hP 1 rfl rfl 9 (by decide) hk3 (fun _ h9 => h9) rfl dX1_walkFrom_33 ?_
          refine lv_aload_n hx hb dX1_walkFrom_36 rfl (lv_at hl 0 rfl) ?_
          refine va_get (D := D) (ci := 1) (v := .int K_depth_19) (C := RX1) (T := TX1) (N := 13) hx hb hts hiX1 hown hK hP 1 rfl rfl 10 (by decide) hk2 (fun _ h9 => h9) rfl dX1_walkFrom_37 ?_
          refine lv_iconst (v := 1) hx hb dX1_walkFrom_40 (by decide) ?_
          refine lv_isub hx hb dX1_walkFrom_41 ?_
          obtain ⟨hi_42, h⟩ := ox_i_of h
          refine va_iald hx hb hK hP 11 0 rfl rfl hi_42 dX1_walkFrom_42 ?_
          refine lv_istore (lv' := [(5, .int (K_path_19 (K_depth_19 - 1).toNatClampNeg)), (0, .ref (ad 3)), (1, .ref (ad 1)), (3, .int (G_states + G_moves)), (4, .int v4_19)]) hx hb dX1_walkFrom_43 hl (by decide) rfl (fun ls hl => ?_)
          refine lv_aload_n hx hb dX1_walkFrom_45 rfl (lv_at hl 1 rfl) ?_
          refine va_get (D := D) (ci := 1) (v := .ref (ad 24)) (C := RX1) (T := TX1) (N := 13) hx hb hts hiX1 hown hK hP 1 rfl rfl 8 (by decide) hk4 (fun _ h9 => h9) rfl dX1_walkFrom_46 ?_
          refine lv_iload hx hb dX1_walkFrom_49 (lv_at hl 0 rfl) ?_
          obtain ⟨hi_51, h⟩ := ox_i_of h
          refine va_iald hx hb hK hP 10 0 rfl rfl hi_51 dX1_walkFrom_51 ?_
          refine lv_aload_n hx hb dX1_walkFrom_52 rfl (lv_at hl 2 rfl) ?_
          refine va_get (D := D) (ci := 0) (v := .ref (ad 15)) (C := RX0) (T := TX0) (N := 11) hx hb hts hiX0 hown hK hP 0 rfl rfl 10 (by decide) hk5 (fun _ h9 => h9) rfl dX1_walkFrom_53 ?_
          refine lv_iload hx hb dX1_walkFrom_56 (lv_at hl 0 rfl) ?_
          refine lv_iconst (v := 1) hx hb dX1_walkFrom_58 (by decide) ?_
          refine lv_iadd hx hb dX1_walkFrom_59 ?_
          obtain ⟨hi_60, h⟩ := ox_i_of h
          refine va_iald hx hb hK hP 4 0 rfl rfl hi_60 dX1_walkFrom_60 ?_
          refine lv_icmp_ne (tgt := 79) hx hb dX1_walkFrom_61 (by decide) (fun c_61 => ?_) (fun c_61 => ?_)
          · have h := ox_f c_61 h
            refine lv_aload_n hx hb dX1_walkFrom_79 rfl (lv_at hl 2 rfl) ?_
            refine va_get (D := D) (ci := 0) (v := .ref (ad 12)) (C := RX0) (T := TX0) (N := 11) hx hb hts hiX0 hown hK hP 0 rfl rfl 7 (by decide) hk6 (fun _ h9 => h9) rfl dX1_walkFrom_80 ?_
            refine lv_aload_n hx hb dX1_walkFrom_83 rfl (lv_at hl 2 rfl) ?_
            refine va_get (D := D) (ci := 0) (v := .ref (ad 14)) (C := RX0) (T := TX0) (N := 11) hx hb hts hiX0 hown hK hP 0 rfl rfl 9 (by decide) hk7 (fun _ h9 => h9) rfl dX1_walkFrom_84 ?_
            refine lv_aload_n hx hb dX1_walkFrom_87 rfl (lv_at hl 1 rfl) ?_
            refine va_get (D := D) (ci := 1) (v := .ref (ad 24)) (C := RX1) (T := TX1) (N := 13) hx hb hts hiX1 hown hK hP 1 rfl rfl 8 (by decide) hk4 (fun _ h9 => h9) rfl dX1_walkFrom_88 ?_
            refine lv_iload hx hb dX1_walkFrom_91 (lv_at hl 0 rfl) ?_
            obtain ⟨hi_93, h⟩ := ox_i_of h
            refine va_iald hx hb hK hP 10 0 rfl rfl hi_93 dX1_walkFrom_93 ?_
            obtain ⟨hi_94, h⟩ := ox_i_of h
            refine va_iald hx hb hK hP 3 0 rfl rfl hi_94 dX1_walkFrom_94 ?_
            obtain ⟨hi_95, h⟩ := ox_i_of h
            refine va_iald hx hb hK hP 2 0 rfl rfl hi_95 dX1_walkFrom_95 ?_
            refine lv_istore (lv' := [(6, .int (G_to (G_out (K_nextOut_19 (K_path_19 (K_depth_19 - 1).toNatClampNeg).toNatClampNeg).toNatClampNeg).toNatClampNeg)), (5, .int (K_path_19 (K_depth_19 - 1).toNatClampNeg)), (0, .ref (ad 3)), (1, .ref (ad 1)), (3, .int (G_states + G_moves)), (4, .int v4_19)]) hx hb dX1_walkFrom_96 hl (by decide) rfl (fun ls hl => ?_)
            refine lv_aload_n hx hb dX1_walkFrom_98 rfl (lv_at hl 2 rfl) ?_
            refine va_get (D := D) (ci := 1) (v := .ref (ad 24)) (C := RX1) (T := TX1) (N := 13) hx hb hts hiX1 hown hK hP 1 rfl rfl 8 (by decide) hk4 (fun _ h9 => h9) rfl dX1_walkFrom_99 ?_
            refine lv_iload hx hb dX1_walkFrom_102 (lv_at hl 1 rfl) ?_
            refine lv_dup2_11 hx hb dX1_walkFrom_104 rfl rfl ?_
            obtain ⟨hi_105, h⟩ := ox_i_of h
            refine va_iald hx hb hK hP 10 0 rfl rfl hi_105 dX1_walkFrom_105 ?_
            refine lv_iconst (v := 1) hx hb dX1_walkFrom_106 (by decide) ?_
            refine lv_iadd hx hb dX1_walkFrom_107 ?_
            obtain ⟨hi_108, h⟩ := ox_i_of h
            refine va_iast hx hb hK hP hD hS 10 0 rfl rfl hi_108 dX1_walkFrom_108 (fun H locs hP hD hS => ?_)
            have hP : va_P D vwCl [(kG ad G_states G_moves G_ends), (kK ad K_found_19 K_closed_19 K_entries_19 K_depth_19 K_opened_19), (kI cI (ad 12) 600 G_to), (kI cI (ad 14) 600 G_out), (kI cI (ad 15) 201 G_start), (kZ cZ (ad 19) 200 K_chosen), (kI cI (ad 20) 200 K_knotOf_19), (kI cI (ad 21) 200 K_order_19), (kI cI (ad 22) 200 K_entered_19), (kI cI (ad 23) 200 K_low_19), (kI cI (ad 24) 200 (upd K_nextOut_19 (K_path_19 (K_depth_19 - 1).toNatClampNeg).toNatClampNeg ((K_nextOut_19 (K_path_19 (K_depth_19 - 1).toNatClampNeg).toNatClampNeg) + 1))), (kI cI (ad 25) 200 K_path_19), (kI cI (ad 26) 200 K_open_19)] H := hP
            have hD : va_D A [(kG ad G_states G_moves G_ends), (kK ad K_found_19 K_closed_19 K_entries_19 K_depth_19 K_opened_19), (kI cI (ad 12) 600 G_to), (kI cI (ad 14) 600 G_out), (kI cI (ad 15) 201 G_start), (kZ cZ (ad 19) 200 K_chosen), (kI cI (ad 20) 200 K_knotOf_19), (kI cI (ad 21) 200 K_order_19), (kI cI (ad 22) 200 K_entered_19), (kI cI (ad 23) 200 K_low_19), (kI cI (ad 24) 200 (upd K_nextOut_19 (K_path_19 (K_depth_19 - 1).toNatClampNeg).toNatClampNeg ((K_nextOut_19 (K_path_19 (K_depth_19 - 1).toNatClampNeg).toNatClampNeg) + 1))), (kI cI (ad 25) 200 K_path_19), (kI cI (ad 26) 200 K_open_19)] := hD
            refine lv_aload_n hx hb dX1_walkFrom_109 rfl (lv_at hl 2 rfl) ?_
            refine va_get (D := D) (ci := 1) (v := .ref (ad 19)) (C := RX1) (T := TX1) (N := 13) hx hb hts hiX1 hown hK hP 1 rfl rfl 0 (by decide) hk8 (fun _ h9 => h9) rfl dX1_walkFrom_110 ?_
            refine lv_iload hx hb dX1_walkFrom_113 (lv_at hl 0 rfl) ?_
            obtain ⟨hi_115, h⟩ := ox_i_of h
            refine va_zald hx hb hK hP 5 1 rfl rfl hi_115 dX1_walkFrom_115 ?_
            have hJ_139 : ∀  (H : Heap) (locs : List Loc) (ls : Array Slot), fn_X1_walkFrom_j139 G_to G_out K_nextOut_19 K_path_19 K_depth_19 K_chosen v4_19 K_found_19 K_closed_19 K_entries_19 K_opened_19 K_knotOf_19 K_order_19 K_entered_19 K_low_19 K_open_19 () = some z_19 → va_P D vwCl [(kG ad G_states G_moves G_ends), (kK ad K_found_19 K_closed_19 K_entries_19 K_depth_19 K_opened_19), (kI cI (ad 12) 600 G_to), (kI cI (ad 14) 600 G_out), (kI cI (ad 15) 201 G_start), (kZ cZ (ad 19) 200 K_chosen), (kI cI (ad 20) 200 K_knotOf_19), (kI cI (ad 21) 200 K_order_19), (kI cI (ad 22) 200 K_entered_19), (kI cI (ad 23) 200 K_low_19), (kI cI (ad 24) 200 (upd K_nextOut_19 (K_path_19 (K_depth_19 - 1).toNatClampNeg).toNatClampNeg ((K_nextOut_19 (K_path_19 (K_depth_19 - 1).toNatClampNeg).toNatClampNeg) + 1))), (kI cI (ad 25) 200 K_path_19), (kI cI (ad 26) 200 K_open_19)] H → va_D A [(kG ad G_states G_moves G_ends), (kK ad K_found_19 K_closed_19 K_entries_19 K_depth_19 K_opened_19), (kI cI (ad 12) 600 G_to), (kI cI (ad 14) 600 G_out), (kI cI (ad 15) 201 G_start), (kZ cZ (ad 19) 200 K_chosen), (kI cI (ad 20) 200 K_knotOf_19), (kI cI (ad 21) 200 K_order_19), (kI cI (ad 22) 200 K_entered_19), (kI cI (ad 23) 200 K_low_19), (kI cI (ad 24) 200 (upd K_nextOut_19 (K_path_19 (K_depth_19 - 1).toNatClampNeg).toNatClampNeg ((K_nextOut_19 (K_path_19 (K_depth_19 - 1).toNatClampNeg).toNatClampNeg) + 1))), (kI cI (ad 25) 200 K_path_19), (kI cI (ad 26) 200 K_open_19)] → va_S A s.heap H locs → lv_has ls 7 [(0, .ref (ad 3)), (1, .ref (ad 1)), (3, .int (G_states + G_moves)), (4, .int v4_19), (5, .int (K_path_19 (K_depth_19 - 1).toNatClampNeg)), (6, .int (G_to (G_out (K_nextOut_19 (K_path_19 (K_depth_19 - 1).toNatClampNeg).toNatClampNeg).toNatClampNeg).toNatClampNeg))] → W p l e { frames := 2, cells := 0, slots := 0, locals := 43 } s m ([.ref (ad 3), .ref (ad 1), .int a2] : List Value).toArray below meth c H locs 0 0 Q (F0 m 139 ls []) := by
              intro  H locs ls h hP hD hS hl
              refine lv_aload_n hx hb dX1_walkFrom_139 rfl (lv_at hl 0 rfl) ?_
              refine va_get (D := D) (ci := 1) (v := .ref (ad 19)) (C := RX1) (T := TX1) (N := 13) hx hb hts hiX1 hown hK hP 1 rfl rfl 0 (by decide) hk8 (fun _ h9 => h9) rfl dX1_walkFrom_140 ?_
              refine lv_iload hx hb dX1_walkFrom_143 (lv_at hl 5 rfl) ?_
              obtain ⟨hi_145, h⟩ := ox_i_of h
              refine va_zald hx hb hK hP 5 1 rfl rfl hi_145 dX1_walkFrom_145 ?_
              refine lv_if_eq (tgt := 173) hx hb dX1_walkFrom_146 (by decide) (fun c_146 => ?_) (fun c_146 => ?_)
              · have h := ox_t c_146 h
                refine lv_iinc (v := v4_19 + 1) (lv' := [(4, .int (v4_19 + 1)), (0, .ref (ad 3)), (1, .ref (ad 1)), (3, .int (G_states + G_moves)), (5, .int (K_path_19 (K_depth_19 - 1).toNatClampNeg)), (6, .int (G_to (G_out (K_nextOut_19 (K_path_19 (K_depth_19 - 1).toNatClampNeg).toNatClampNeg).toNatClampNeg).toNatClampNeg))]) hx hb dX1_walkFrom_173 hl (k := 3) rfl rfl (by decide) rfl (fun ls hl => ?_)
                refine lv_goto (tgt := 19) hx hb dX1_walkFrom_176 (by decide) ?_
                obtain rfl := Option.some.inj h
                exact ih_19 (v4_19 + 1) K_found_19 K_closed_19 K_entries_19 K_depth_19 K_opened_19 K_knotOf_19 K_order_19 K_entered_19 K_low_19 (upd K_nextOut_19 (K_path_19 (K_depth_19 - 1).toNatClampNeg).toNatClampNeg ((K_nextOut_19 (K_path_19 (K_depth_19 - 1).toNatClampNeg).toNatClampNeg) + 1)) K_path_19 K_open_19 H locs ls hlp_19 hP hD hS (lv_sub hl [1, 2, 3, 0] rfl)
              · have h := ox_f c_146 h
                refine lv_aload_n hx hb dX1_walkFrom_149 rfl (lv_at hl 0 rfl) ?_
                refine va_get (D := D) (ci := 1) (v := .ref (ad 20)) (C := RX1) (T := TX1) (N := 13) hx hb hts hiX1 hown hK hP 1 rfl rfl 2 (by decide) hk9 (fun _ h9 => h9) rfl dX1_walkFrom_150 ?_
                refine lv_iload hx hb dX1_walkFrom_153 (lv_at hl 5 rfl) ?_
                obtain ⟨hi_155, h⟩ := ox_i_of h
                refine va_iald hx hb hK hP 6 0 rfl rfl hi_155 dX1_walkFrom_155 ?_
                refine lv_iconst (v := (-1)) hx hb dX1_walkFrom_156 (by decide) ?_
                refine lv_icmp_ne (tgt := 173) hx hb dX1_walkFrom_157 (by decide) (fun c_157 => ?_) (fun c_157 => ?_)
                · have h := ox_f c_157 h
                  refine lv_iinc (v := v4_19 + 1) (lv' := [(4, .int (v4_19 + 1)), (0, .ref (ad 3)), (1, .ref (ad 1)), (3, .int (G_states + G_moves)), (5, .int (K_path_19 (K_depth_19 - 1).toNatClampNeg)), (6, .int (G_to (G_out (K_nextOut_19 (K_path_19 (K_depth_19 - 1).toNatClampNeg).toNatClampNeg).toNatClampNeg).toNatClampNeg))]) hx hb dX1_walkFrom_173 hl (k := 3) rfl rfl (by decide) rfl (fun ls hl => ?_)
                  refine lv_goto (tgt := 19) hx hb dX1_walkFrom_176 (by decide) ?_
                  obtain rfl := Option.some.inj h
                  exact ih_19 (v4_19 + 1) K_found_19 K_closed_19 K_entries_19 K_depth_19 K_opened_19 K_knotOf_19 K_order_19 K_entered_19 K_low_19 (upd K_nextOut_19 (K_path_19 (K_depth_19 - 1).toNatClampNeg).toNatClampNeg ((K_nextOut_19 (K_path_19 (K_depth_19 - 1).toNatClampNeg).toNatClampNeg) + 1)) K_path_19 K_open_19 H locs ls hlp_19 hP hD hS (lv_sub hl [1, 2, 3, 0] rfl)
                · have h := ox_t c_157 h
                  refine lv_aload_n hx hb dX1_walkFrom_160 rfl (lv_at hl 0 rfl) ?_
                  refine lv_iload hx hb dX1_walkFrom_161 (lv_at hl 4 rfl) ?_
                  refine lv_aload_n hx hb dX1_walkFrom_163 rfl (lv_at hl 0 rfl) ?_
                  refine va_get (D := D) (ci := 1) (v := .ref (ad 22)) (C := RX1) (T := TX1) (N := 13) hx hb hts hiX1 hown hK hP 1 rfl rfl 5 (by decide) hk10 (fun _ h9 => h9) rfl dX1_walkFrom_164 ?_
                  refine lv_iload hx hb dX1_walkFrom_167 (lv_at hl 5 rfl) ?_
                  obtain ⟨hi_169, h⟩ := ox_i_of h
                  refine va_iald hx hb hK hP 8 0 rfl rfl hi_169 dX1_walkFrom_169 ?_
                  obtain ⟨K_low_170, hc_170, h⟩ := ox_b_of h
                  refine mc_callV (As := [.int (K_path_19 (K_depth_19 - 1).toNatClampNeg), .int (K_entered_19 (G_to (G_out (K_nextOut_19 (K_path_19 (K_depth_19 - 1).toNatClampNeg).toNatClampNeg).toNatClampNeg).toNatClampNeg).toNatClampNeg)]) (rest := []) (b := ad 3) (Wc := [(kK ad K_found_19 K_closed_19 K_entries_19 K_depth_19 K_opened_19), (kI cI (ad 23) 200 K_low_19)]) (wr := [(kG ad G_states G_moves G_ends), (kI cI (ad 12) 600 G_to), (kI cI (ad 14) 600 G_out), (kI cI (ad 15) 201 G_start), (kZ cZ (ad 19) 200 K_chosen), (kI cI (ad 20) 200 K_knotOf_19), (kI cI (ad 21) 200 K_order_19), (kI cI (ad 22) 200 K_entered_19), (kI cI (ad 24) 200 (upd K_nextOut_19 (K_path_19 (K_depth_19 - 1).toNatClampNeg).toNatClampNeg ((K_nextOut_19 (K_path_19 (K_depth_19 - 1).toNatClampNeg).toNatClampNeg) + 1))), (kI cI (ad 25) 200 K_path_19), (kI cI (ad 26) 200 K_open_19)]) (W1 := [(kK ad K_found_19 K_closed_19 K_entries_19 K_depth_19 K_opened_19), (kI cI (ad 23) 200 K_low_170)]) (wn := [(kG ad G_states G_moves G_ends), (kK ad K_found_19 K_closed_19 K_entries_19 K_depth_19 K_opened_19), (kI cI (ad 12) 600 G_to), (kI cI (ad 14) 600 G_out), (kI cI (ad 15) 201 G_start), (kZ cZ (ad 19) 200 K_chosen), (kI cI (ad 20) 200 K_knotOf_19), (kI cI (ad 21) 200 K_order_19), (kI cI (ad 22) 200 K_entered_19), (kI cI (ad 23) 200 K_low_170), (kI cI (ad 24) 200 (upd K_nextOut_19 (K_path_19 (K_depth_19 - 1).toNatClampNeg).toNatClampNeg ((K_nextOut_19 (K_path_19 (K_depth_19 - 1).toNatClampNeg).toNatClampNeg) + 1))), (kI cI (ad 25) 200 K_path_19), (kI cI (ad 26) 200 K_open_19)]) (rv := none) ⟨hx, hb, hml, hown, hts⟩ (c_X1_lower l D cI cZ ad K_found_19 K_closed_19 K_entries_19 K_depth_19 K_opened_19 K_low_19 (K_path_19 (K_depth_19 - 1).toNatClampNeg) (K_entered_19 (G_to (G_out (K_nextOut_19 (K_path_19 (K_depth_19 - 1).toNatClampNeg).toNatClampNeg).toNatClampNeg).toNatClampNeg).toNatClampNeg) _ hc_170) (cwV 2 hts (gl_V wk_268 wk_269 wk_270 wk_25 wk_271) rfl rfl rfl (by decide +kernel) ⟨Nat.le_of_ble_eq_true rfl, Nat.le_of_ble_eq_true rfl⟩) hK hP hD hS hA 1 0 rfl rfl rfl [1, 9] [0, 2, 3, 4, 5, 6, 7, 8, 10, 11, 12] [0, 11, 1, 2, 3, 4, 5, 6, 7, 12, 8, 9, 10] rfl rfl (by decide) rfl (by decide) (by decide) rfl rfl (by decide) rfl rfl hl.1 (Nat.le_of_ble_eq_true rfl) dX1_walkFrom_170 ⟨Nat.zero_le _, Nat.zero_le _⟩ (fun H locs hP hD hS => ?_)
                  show W p l e { frames := 2, cells := 0, slots := 0, locals := 43 } s m ([.ref (ad 3), .ref (ad 1), .int a2] : List Value).toArray below meth c H locs 0 0 Q (F0 m 173 ls [])
                  refine lv_iinc (v := v4_19 + 1) (lv' := [(4, .int (v4_19 + 1)), (0, .ref (ad 3)), (1, .ref (ad 1)), (3, .int (G_states + G_moves)), (5, .int (K_path_19 (K_depth_19 - 1).toNatClampNeg)), (6, .int (G_to (G_out (K_nextOut_19 (K_path_19 (K_depth_19 - 1).toNatClampNeg).toNatClampNeg).toNatClampNeg).toNatClampNeg))]) hx hb dX1_walkFrom_173 hl (k := 3) rfl rfl (by decide) rfl (fun ls hl => ?_)
                  refine lv_goto (tgt := 19) hx hb dX1_walkFrom_176 (by decide) ?_
                  obtain rfl := Option.some.inj h
                  exact ih_19 (v4_19 + 1) K_found_19 K_closed_19 K_entries_19 K_depth_19 K_opened_19 K_knotOf_19 K_order_19 K_entered_19 K_low_170 (upd K_nextOut_19 (K_path_19 (K_depth_19 - 1).toNatClampNeg).toNatClampNeg ((K_nextOut_19 (K_path_19 (K_depth_19 - 1).toNatClampNeg).toNatClampNeg) + 1)) K_path_19 K_open_19 H locs ls hlp_19 hP hD hS (lv_sub hl [1, 2, 3, 0] rfl)
            refine lv_if_eq (tgt := 139) hx hb dX1_walkFrom_116 (by decide) (fun c_116 => ?_) (fun c_116 => ?_)
            · have h := ox_t c_116 h
              exact hJ_139  H locs ls h hP hD hS (lv_sub hl [2, 3, 4, 5, 1, 0] rfl)
            · have h := ox_f c_116 h
              refine lv_aload_n hx hb dX1_walkFrom_119 rfl (lv_at hl 2 rfl) ?_
              refine va_get (D := D) (ci := 1) (v := .ref (ad 22)) (C := RX1) (T := TX1) (N := 13) hx hb hts hiX1 hown hK hP 1 rfl rfl 5 (by decide) hk10 (fun _ h9 => h9) rfl dX1_walkFrom_120 ?_
              refine lv_iload hx hb dX1_walkFrom_123 (lv_at hl 0 rfl) ?_
              obtain ⟨hi_125, h⟩ := ox_i_of h
              refine va_iald hx hb hK hP 8 0 rfl rfl hi_125 dX1_walkFrom_125 ?_
              refine lv_if_ne (tgt := 139) hx hb dX1_walkFrom_126 (by decide) (fun c_126 => ?_) (fun c_126 => ?_)
              · have h := ox_f c_126 h
                exact hJ_139  H locs ls h hP hD hS (lv_sub hl [2, 3, 4, 5, 1, 0] rfl)
              · have h := ox_t c_126 h
                refine lv_aload_n hx hb dX1_walkFrom_129 rfl (lv_at hl 2 rfl) ?_
                refine lv_aload_n hx hb dX1_walkFrom_130 rfl (lv_at hl 3 rfl) ?_
                refine lv_iload hx hb dX1_walkFrom_131 (lv_at hl 0 rfl) ?_
                obtain ⟨⟨K_entries_133, K_depth_133, K_opened_133, K_entered_133, K_low_133, K_nextOut_133, K_path_133, K_open_133⟩, hc_133, h⟩ := ox_b_of h
                refine mc_callV (As := [.ref (ad 1), .int (G_to (G_out (K_nextOut_19 (K_path_19 (K_depth_19 - 1).toNatClampNeg).toNatClampNeg).toNatClampNeg).toNatClampNeg)]) (rest := []) (b := ad 3) (Wc := [(kG ad G_states G_moves G_ends), (kK ad K_found_19 K_closed_19 K_entries_19 K_depth_19 K_opened_19), (kI cI (ad 15) 201 G_start), (kI cI (ad 22) 200 K_entered_19), (kI cI (ad 23) 200 K_low_19), (kI cI (ad 24) 200 (upd K_nextOut_19 (K_path_19 (K_depth_19 - 1).toNatClampNeg).toNatClampNeg ((K_nextOut_19 (K_path_19 (K_depth_19 - 1).toNatClampNeg).toNatClampNeg) + 1))), (kI cI (ad 25) 200 K_path_19), (kI cI (ad 26) 200 K_open_19)]) (wr := [(kI cI (ad 12) 600 G_to), (kI cI (ad 14) 600 G_out), (kZ cZ (ad 19) 200 K_chosen), (kI cI (ad 20) 200 K_knotOf_19), (kI cI (ad 21) 200 K_order_19)]) (W1 := [(kG ad G_states G_moves G_ends), (kK ad K_found_19 K_closed_19 K_entries_133 K_depth_133 K_opened_133), (kI cI (ad 15) 201 G_start), (kI cI (ad 22) 200 K_entered_133), (kI cI (ad 23) 200 K_low_133), (kI cI (ad 24) 200 K_nextOut_133), (kI cI (ad 25) 200 K_path_133), (kI cI (ad 26) 200 K_open_133)]) (wn := [(kG ad G_states G_moves G_ends), (kK ad K_found_19 K_closed_19 K_entries_133 K_depth_133 K_opened_133), (kI cI (ad 12) 600 G_to), (kI cI (ad 14) 600 G_out), (kI cI (ad 15) 201 G_start), (kZ cZ (ad 19) 200 K_chosen), (kI cI (ad 20) 200 K_knotOf_19), (kI cI (ad 21) 200 K_order_19), (kI cI (ad 22) 200 K_entered_133), (kI cI (ad 23) 200 K_low_133), (kI cI (ad 24) 200 K_nextOut_133), (kI cI (ad 25) 200 K_path_133), (kI cI (ad 26) 200 K_open_133)]) (rv := none) ⟨hx, hb, hml, hown, hts⟩ (c_X1_enter l D cI cZ ad G_states G_moves G_ends K_found_19 K_closed_19 K_entries_19 K_depth_19 K_opened_19 G_start K_entered_19 K_low_19 (upd K_nextOut_19 (K_path_19 (K_depth_19 - 1).toNatClampNeg).toNatClampNeg ((K_nextOut_19 (K_path_19 (K_depth_19 - 1).toNatClampNeg).toNatClampNeg) + 1)) K_path_19 K_open_19 (G_to (G_out (K_nextOut_19 (K_path_19 (K_depth_19 - 1).toNatClampNeg).toNatClampNeg).toNatClampNeg).toNatClampNeg) _ hc_133) (cwV 2 hts (gl_V wk_256 wk_257 wk_258 wk_25 wk_259) rfl rfl rfl (by decide +kernel) ⟨Nat.le_of_ble_eq_true rfl, Nat.le_of_ble_eq_true rfl⟩) hK hP hD hS hA 1 1 rfl rfl rfl [0, 1, 4, 8, 9, 10, 11, 12] [2, 3, 5, 6, 7] [5, 6, 0, 1, 7, 2, 3, 4, 8, 9, 10, 11, 12] rfl rfl (by decide) rfl (by decide) (by decide) rfl rfl (by decide) rfl rfl hl.1 (Nat.le_of_ble_eq_true rfl) dX1_walkFrom_133 ⟨Nat.zero_le _, Nat.zero_le _⟩ (fun H locs hP hD hS => ?_)
                show W p l e { frames := 2, cells := 0, slots := 0, locals := 43 } s m ([.ref (ad 3), .ref (ad 1), .int a2] : List Value).toArray below meth c H locs 0 0 Q (F0 m 136 ls [])
                refine lv_goto (tgt := 173) hx hb dX1_walkFrom_136 (by decide) ?_
                refine lv_iinc (v := v4_19 + 1) (lv' := [(4, .int (v4_19 + 1)), (6, .int (G_to (G_out (K_nextOut_19 (K_path_19 (K_depth_19 - 1).toNatClampNeg).toNatClampNeg).toNatClampNeg).toNatClampNeg)), (5, .int (K_path_19 (K_depth_19 - 1).toNatClampNeg)), (0, .ref (ad 3)), (1, .ref (ad 1)), (3, .int (G_states + G_moves))]) hx hb dX1_walkFrom_173 hl (k := 5) rfl rfl (by decide) rfl (fun ls hl => ?_)
                refine lv_goto (tgt := 19) hx hb dX1_walkFrom_176 (by decide) ?_
                obtain rfl := Option.some.inj h
                exact ih_19 (v4_19 + 1) K_found_19 K_closed_19 K_entries_133 K_depth_133 K_opened_133 K_knotOf_19 K_order_19 K_entered_133 K_low_133 K_nextOut_133 K_path_133 K_open_133 H locs ls hlp_19 hP hD hS (lv_sub hl [3, 4, 5, 0] rfl)
          · have h := ox_t c_61 h
            refine lv_aload_n hx hb dX1_walkFrom_64 rfl (lv_at hl 1 rfl) ?_
            refine lv_iload hx hb dX1_walkFrom_65 (lv_at hl 0 rfl) ?_
            obtain ⟨⟨K_found_67, K_closed_67, K_opened_67, K_knotOf_67, K_order_67⟩, hc_67, h⟩ := ox_b_of h
            refine mc_callV (As := [.int (K_path_19 (K_depth_19 - 1).toNatClampNeg)]) (rest := []) (b := ad 3) (Wc := [(kK ad K_found_19 K_closed_19 K_entries_19 K_depth_19 K_opened_19), (kI cI (ad 20) 200 K_knotOf_19), (kI cI (ad 21) 200 K_order_19), (kI cI (ad 22) 200 K_entered_19), (kI cI (ad 23) 200 K_low_19), (kI cI (ad 26) 200 K_open_19)]) (wr := [(kG ad G_states G_moves G_ends), (kI cI (ad 12) 600 G_to), (kI cI (ad 14) 600 G_out), (kI cI (ad 15) 201 G_start), (kZ cZ (ad 19) 200 K_chosen), (kI cI (ad 24) 200 K_nextOut_19), (kI cI (ad 25) 200 K_path_19)]) (W1 := [(kK ad K_found_67 K_closed_67 K_entries_19 K_depth_19 K_opened_67), (kI cI (ad 20) 200 K_knotOf_67), (kI cI (ad 21) 200 K_order_67), (kI cI (ad 22) 200 K_entered_19), (kI cI (ad 23) 200 K_low_19), (kI cI (ad 26) 200 K_open_19)]) (wn := [(kG ad G_states G_moves G_ends), (kK ad K_found_67 K_closed_67 K_entries_19 K_depth_19 K_opened_67), (kI cI (ad 12) 600 G_to), (kI cI (ad 14) 600 G_out), (kI cI (ad 15) 201 G_start), (kZ cZ (ad 19) 200 K_chosen), (kI cI (ad 20) 200 K_knotOf_67), (kI cI (ad 21) 200 K_order_67), (kI cI (ad 22) 200 K_entered_19), (kI cI (ad 23) 200 K_low_19), (kI cI (ad 24) 200 K_nextOut_19), (kI cI (ad 25) 200 K_path_19), (kI cI (ad 26) 200 K_open_19)]) (rv := none) ⟨hx, hb, hml, hown, hts⟩ (c_X1_closeKnotBegunBy l D cI cZ ad K_found_19 K_closed_19 K_entries_19 K_depth_19 K_opened_19 K_knotOf_19 K_order_19 K_entered_19 K_low_19 K_open_19 (K_path_19 (K_depth_19 - 1).toNatClampNeg) _ hc_67) (cwV 1 hts (gl_V wk_260 wk_261 wk_262 wk_25 wk_263) rfl rfl rfl (by decide +kernel) ⟨Nat.le_of_ble_eq_true rfl, Nat.le_of_ble_eq_true rfl⟩) hK hP hD hS hA 1 0 rfl rfl rfl [1, 6, 7, 8, 9, 12] [0, 2, 3, 4, 5, 10, 11] [0, 7, 1, 2, 3, 4, 8, 9, 10, 11, 5, 6, 12] rfl rfl (by decide) rfl (by decide) (by decide) rfl rfl (by decide) rfl rfl hl.1 (Nat.le_of_ble_eq_true rfl) dX1_walkFrom_67 ⟨Nat.zero_le _, Nat.zero_le _⟩ (fun H locs hP hD hS => ?_)
            show W p l e { frames := 2, cells := 0, slots := 0, locals := 43 } s m ([.ref (ad 3), .ref (ad 1), .int a2] : List Value).toArray below meth c H locs 0 0 Q (F0 m 70 ls [])
            refine lv_aload_n hx hb dX1_walkFrom_70 rfl (lv_at hl 1 rfl) ?_
            refine lv_iload hx hb dX1_walkFrom_71 (lv_at hl 0 rfl) ?_
            obtain ⟨⟨K_depth_73, K_low_73⟩, hc_73, h⟩ := ox_b_of h
            refine mc_callV (As := [.int (K_path_19 (K_depth_19 - 1).toNatClampNeg)]) (rest := []) (b := ad 3) (Wc := [(kK ad K_found_67 K_closed_67 K_entries_19 K_depth_19 K_opened_67), (kI cI (ad 23) 200 K_low_19), (kI cI (ad 25) 200 K_path_19)]) (wr := [(kG ad G_states G_moves G_ends), (kI cI (ad 12) 600 G_to), (kI cI (ad 14) 600 G_out), (kI cI (ad 15) 201 G_start), (kZ cZ (ad 19) 200 K_chosen), (kI cI (ad 20) 200 K_knotOf_67), (kI cI (ad 21) 200 K_order_67), (kI cI (ad 22) 200 K_entered_19), (kI cI (ad 24) 200 K_nextOut_19), (kI cI (ad 26) 200 K_open_19)]) (W1 := [(kK ad K_found_67 K_closed_67 K_entries_19 K_depth_73 K_opened_67), (kI cI (ad 23) 200 K_low_73), (kI cI (ad 25) 200 K_path_19)]) (wn := [(kG ad G_states G_moves G_ends), (kK ad K_found_67 K_closed_67 K_entries_19 K_depth_73 K_opened_67), (kI cI (ad 12) 600 G_to), (kI cI (ad 14) 600 G_out), (kI cI (ad 15) 201 G_start), (kZ cZ (ad 19) 200 K_chosen), (kI cI (ad 20) 200 K_knotOf_67), (kI cI (ad 21) 200 K_order_67), (kI cI (ad 22) 200 K_entered_19), (kI cI (ad 23) 200 K_low_73), (kI cI (ad 24) 200 K_nextOut_19), (kI cI (ad 25) 200 K_path_19), (kI cI (ad 26) 200 K_open_19)]) (rv := none) ⟨hx, hb, hml, hown, hts⟩ (c_X1_leave l D cI cZ ad K_found_67 K_closed_67 K_entries_19 K_depth_19 K_opened_67 K_low_19 K_path_19 (K_path_19 (K_depth_19 - 1).toNatClampNeg) _ hc_73) (cwV 1 hts (gl_V wk_264 wk_265 wk_266 wk_25 wk_267) rfl rfl rfl (by decide +kernel) ⟨Nat.le_of_ble_eq_true rfl, Nat.le_of_ble_eq_true rfl⟩) hK hP hD hS hA 1 0 rfl rfl rfl [1, 9, 11] [0, 2, 3, 4, 5, 6, 7, 8, 10, 12] [0, 10, 1, 2, 3, 4, 5, 6, 7, 11, 8, 12, 9] rfl rfl (by decide) rfl (by decide) (by decide) rfl rfl (by decide) rfl rfl hl.1 (Nat.le_of_ble_eq_true rfl) dX1_walkFrom_73 ⟨Nat.zero_le _, Nat.zero_le _⟩ (fun H locs hP hD hS => ?_)
            show W p l e { frames := 2, cells := 0, slots := 0, locals := 43 } s m ([.ref (ad 3), .ref (ad 1), .int a2] : List Value).toArray below meth c H locs 0 0 Q (F0 m 76 ls [])
            refine lv_goto (tgt := 173) hx hb dX1_walkFrom_76 (by decide) ?_
            refine lv_iinc (v := v4_19 + 1) (lv' := [(4, .int (v4_19 + 1)), (5, .int (K_path_19 (K_depth_19 - 1).toNatClampNeg)), (0, .ref (ad 3)), (1, .ref (ad 1)), (3, .int (G_states + G_moves))]) hx hb dX1_walkFrom_173 hl (k := 4) rfl rfl (by decide) rfl (fun ls hl => ?_)
            refine lv_goto (tgt := 19) hx hb dX1_walkFrom_176 (by decide) ?_
            obtain rfl := Option.some.inj h
            exact ih_19 (v4_19 + 1) K_found_67 K_closed_67 K_entries_19 K_depth_73 K_opened_67 K_knotOf_67 K_order_67 K_entered_19 K_low_73 K_nextOut_19 K_path_19 K_open_19 H locs ls hlp_19 hP hD hS (lv_sub hl [2, 3, 4, 0] rfl)
  exact hL_19 1000000 0 K_found K_closed K_entries_3 K_depth_3 K_opened_3 K_knotOf K_order K_entered_3 K_low_3 K_nextOut_3 K_path_3 K_open_3 H locs ls hex_19 hP hD hS (lv_sub hl [2, 3, 1, 0] rfl)
set_option maxHeartbeats 4000000 in
set_option maxRecDepth 100000 in
theorem c_X1_find (l : Launch) (D : va_G) (cI cZ : ClassId) (ad : Nat → Nat) (G_states : Int32) (G_moves : Int32) (G_ends : Int32) (K_found : Int32) (K_closed : Int32) (K_entries : Int32) (K_depth : Int32) (K_opened : Int32) (G_to : Nat → Int32) (G_out : Nat → Int32) (G_start : Nat → Int32) (K_chosen : Nat → Int32) (K_knotOf : Nat → Int32) (K_order : Nat → Int32) (K_entered : Nat → Int32) (K_low : Nat → Int32) (K_nextOut : Nat → Int32) (K_path : Nat → Int32) (K_open : Nat → Int32) (res : Int32 × Int32 × Int32 × Int32 × Int32 × (Nat → Int32) × (Nat → Int32) × (Nat → Int32) × (Nat → Int32) × (Nat → Int32) × (Nat → Int32) × (Nat → Int32)) (h : fn_X1_find G_states G_moves K_found K_closed K_entries K_depth K_opened G_to G_out G_start K_chosen K_knotOf K_order K_entered K_low K_nextOut K_path K_open = some res) : mc_C l yX1_find wv_X1_find { frames := 3, cells := 0, slots := 0, locals := 69 } D [(cI, .int), (cZ, .boolean)] [.ref (ad 3), .ref (ad 1)] [(kG ad G_states G_moves G_ends), (kK ad K_found K_closed K_entries K_depth K_opened), (kI cI (ad 12) 600 G_to), (kI cI (ad 14) 600 G_out), (kI cI (ad 15) 201 G_start), (kZ cZ (ad 19) 200 K_chosen), (kI cI (ad 20) 200 K_knotOf), (kI cI (ad 21) 200 K_order), (kI cI (ad 22) 200 K_entered), (kI cI (ad 23) 200 K_low), (kI cI (ad 24) 200 K_nextOut), (kI cI (ad 25) 200 K_path), (kI cI (ad 26) 200 K_open)] (none) [(kG ad G_states G_moves G_ends), (kK ad res.1 res.2.1 res.2.2.1 res.2.2.2.1 res.2.2.2.2.1), (kI cI (ad 12) 600 G_to), (kI cI (ad 14) 600 G_out), (kI cI (ad 15) 201 G_start), (kZ cZ (ad 19) 200 K_chosen), (kI cI (ad 20) 200 res.2.2.2.2.2.1), (kI cI (ad 21) 200 res.2.2.2.2.2.2.1), (kI cI (ad 22) 200 res.2.2.2.2.2.2.2.1), (kI cI (ad 23) 200 res.2.2.2.2.2.2.2.2.1), (kI cI (ad 24) 200 res.2.2.2.2.2.2.2.2.2.1), (kI cI (ad 25) 200 res.2.2.2.2.2.2.2.2.2.2.1), (kI cI (ad 26) 200 res.2.2.2.2.2.2.2.2.2.2.2)] := by
  refine mc_ofv (own := RX1) (by decide) rfl rfl (Nat.le_of_ble_eq_true rfl) ?_
  intro p e s m below meth c A Q ls hx hb hml hown hts hK hP hD hA hl hend
  have hS : va_S A s.heap s.heap [] := va_S.rf
  have hl : lv_has ls 3 [(0, .ref (ad 3)), (1, .ref (ad 1))] := hl
  obtain ⟨H, hH⟩ : ∃ H, H = s.heap := ⟨_, rfl⟩
  obtain ⟨locs, hlo⟩ : ∃ locs : List Loc, locs = [] := ⟨_, rfl⟩
  have hS : va_S A s.heap H locs := by rw [hH, hlo]; exact hS
  have hP : va_P D vwCl [(kG ad G_states G_moves G_ends), (kK ad K_found K_closed K_entries K_depth K_opened), (kI cI (ad 12) 600 G_to), (kI cI (ad 14) 600 G_out), (kI cI (ad 15) 201 G_start), (kZ cZ (ad 19) 200 K_chosen), (kI cI (ad 20) 200 K_knotOf), (kI cI (ad 21) 200 K_order), (kI cI (ad 22) 200 K_entered), (kI cI (ad 23) 200 K_low), (kI cI (ad 24) 200 K_nextOut), (kI cI (ad 25) 200 K_path), (kI cI (ad 26) 200 K_open)] H := by rw [hH]; exact hP
  suffices h9 : W p l e { frames := 3, cells := 0, slots := 0, locals := 69 } s m ([.ref (ad 3), .ref (ad 1)] : List Value).toArray below meth c H locs 0 0 Q (F0 m 0 ls []) by rw [hH, hlo] at h9; exact h9
  clear hH hlo
  have hiX0 : ∀ w ∈ wsX00, w ∈ wv_X1_find := fun w h => List.mem_cons_of_mem _ (inlX0 w h)
  have hiX1 : ∀ w ∈ wsX10, w ∈ wv_X1_find := fun w h => List.mem_cons_of_mem _ (inlX1 w h)
  have hk0 := hts (.fieldLink RX1 37 "FairLoops$Knots" "found" "I") (List.mem_cons_of_mem _ wk_242)
  have hk1 := hts (.fieldLink RX1 41 "FairLoops$Knots" "closed" "I") (List.mem_cons_of_mem _ wk_243)
  have hk2 := hts (.fieldLink RX1 44 "FairLoops$Knots" "entries" "I") (List.mem_cons_of_mem _ wk_244)
  have hk3 := hts (.fieldLink RX1 47 "FairLoops$Knots" "depth" "I") (List.mem_cons_of_mem _ wk_245)
  have hk4 := hts (.fieldLink RX1 50 "FairLoops$Knots" "opened" "I") (List.mem_cons_of_mem _ wk_246)
  have hk5 := hts (.fieldLink RX1 53 "FairLoops$Graph" "states" "I") (List.mem_cons_of_mem _ wk_247)
  have hk6 := hts (.fieldLink RX1 9 "FairLoops$Knots" "chosen" "[Z") (List.mem_cons_of_mem _ wk_53)
  have hk7 := hts (.fieldLink RX1 22 "FairLoops$Knots" "entered" "[I") (List.mem_cons_of_mem _ wk_56)
  have hk8 := hts (.fieldLink RX1 15 "FairLoops$Knots" "knotOf" "[I") (List.mem_cons_of_mem _ wk_54)
  refine lv_aload_n hx hb dX1_find_0 rfl (lv_at hl 0 rfl) ?_
  refine lv_iconst (v := 0) hx hb dX1_find_1 (by decide) ?_
  refine va_put (D := D) (ci := 1) (v := .int 0) (ty := .int) (C := RX1) (T := TX1) (N := 13) hx hb hts hiX1 tyX1 tyX1_ok nmX1 hown hK hP hD hS 1 rfl rfl 1 (by decide) hk0 (fun _ h9 => h9) rfl (by decide +kernel) rfl rfl (Nat.le_of_ble_eq_true rfl) dX1_find_2 (fun H locs hP hD hS => ?_)
  have hP : va_P D vwCl [(kG ad G_states G_moves G_ends), (kK ad 0 K_closed K_entries K_depth K_opened), (kI cI (ad 12) 600 G_to), (kI cI (ad 14) 600 G_out), (kI cI (ad 15) 201 G_start), (kZ cZ (ad 19) 200 K_chosen), (kI cI (ad 20) 200 K_knotOf), (kI cI (ad 21) 200 K_order), (kI cI (ad 22) 200 K_entered), (kI cI (ad 23) 200 K_low), (kI cI (ad 24) 200 K_nextOut), (kI cI (ad 25) 200 K_path), (kI cI (ad 26) 200 K_open)] H := hP
  have hD : va_D A [(kG ad G_states G_moves G_ends), (kK ad 0 K_closed K_entries K_depth K_opened), (kI cI (ad 12) 600 G_to), (kI cI (ad 14) 600 G_out), (kI cI (ad 15) 201 G_start), (kZ cZ (ad 19) 200 K_chosen), (kI cI (ad 20) 200 K_knotOf), (kI cI (ad 21) 200 K_order), (kI cI (ad 22) 200 K_entered), (kI cI (ad 23) 200 K_low), (kI cI (ad 24) 200 K_nextOut), (kI cI (ad 25) 200 K_path), (kI cI (ad 26) 200 K_open)] := hD
  refine lv_aload_n hx hb dX1_find_5 rfl (lv_at hl 0 rfl) ?_
  refine lv_iconst (v := 0) hx hb dX1_find_6 (by decide) ?_
  refine va_put (D := D) (ci := 1) (v := .int 0) (ty := .int) (C := RX1) (T := TX1) (N := 13) hx hb hts hiX1 tyX1 tyX1_ok nmX1 hown hK hP hD hS 1 rfl rfl 4 (by decide) hk1 (fun _ h9 => h9) rfl (by decide +kernel) rfl rfl (Nat.le_of_ble_eq_true rfl) dX1_find_7 (fun H locs hP hD hS => ?_)
  have hP : va_P D vwCl [(kG ad G_states G_moves G_ends), (kK ad 0 0 K_entries K_depth K_opened), (kI cI (ad 12) 600 G_to), (kI cI (ad 14) 600 G_out), (kI cI (ad 15) 201 G_start), (kZ cZ (ad 19) 200 K_chosen), (kI cI (ad 20) 200 K_knotOf), (kI cI (ad 21) 200 K_order), (kI cI (ad 22) 200 K_entered), (kI cI (ad 23) 200 K_low), (kI cI (ad 24) 200 K_nextOut), (kI cI (ad 25) 200 K_path), (kI cI (ad 26) 200 K_open)] H := hP
  have hD : va_D A [(kG ad G_states G_moves G_ends), (kK ad 0 0 K_entries K_depth K_opened), (kI cI (ad 12) 600 G_to), (kI cI (ad 14) 600 G_out), (kI cI (ad 15) 201 G_start), (kZ cZ (ad 19) 200 K_chosen), (kI cI (ad 20) 200 K_knotOf), (kI cI (ad 21) 200 K_order), (kI cI (ad 22) 200 K_entered), (kI cI (ad 23) 200 K_low), (kI cI (ad 24) 200 K_nextOut), (kI cI (ad 25) 200 K_path), (kI cI (ad 26) 200 K_open)] := hD
  refine lv_aload_n hx hb dX1_find_10 rfl (lv_at hl 0 rfl) ?_
  refine lv_iconst (v := 0) hx hb dX1_find_11 (by decide) ?_
  refine va_put (D := D) (ci := 1) (v := .int 0) (ty := .int) (C := RX1) (T := TX1) (N := 13) hx hb hts hiX1 tyX1 tyX1_ok nmX1 hown hK hP hD hS 1 rfl rfl 6 (by decide) hk2 (fun _ h9 => h9) rfl (by decide +kernel) rfl rfl (Nat.le_of_ble_eq_true rfl) dX1_find_12 (fun H locs hP hD hS => ?_)
  have hP : va_P D vwCl [(kG ad G_states G_moves G_ends), (kK ad 0 0 0 K_depth K_opened), (kI cI (ad 12) 600 G_to), (kI cI (ad 14) 600 G_out), (kI cI (ad 15) 201 G_start), (kZ cZ (ad 19) 200 K_chosen), (kI cI (ad 20) 200 K_knotOf), (kI cI (ad 21) 200 K_order), (kI cI (ad 22) 200 K_entered), (kI cI (ad 23) 200 K_low), (kI cI (ad 24) 200 K_nextOut), (kI cI (ad 25) 200 K_path), (kI cI (ad 26) 200 K_open)] H := hP
  have hD : va_D A [(kG ad G_states G_moves G_ends), (kK ad 0 0 0 K_depth K_opened), (kI cI (ad 12) 600 G_to), (kI cI (ad 14) 600 G_out), (kI cI (ad 15) 201 G_start), (kZ cZ (ad 19) 200 K_chosen), (kI cI (ad 20) 200 K_knotOf), (kI cI (ad 21) 200 K_order), (kI cI (ad 22) 200 K_entered), (kI cI (ad 23) 200 K_low), (kI cI (ad 24) 200 K_nextOut), (kI cI (ad 25) 200 K_path), (kI cI (ad 26) 200 K_open)] := hD
  refine lv_aload_n hx hb dX1_find_15 rfl (lv_at hl 0 rfl) ?_
  refine lv_iconst (v := 0) hx hb dX1_find_16 (by decide) ?_
  refine va_put (D := D) (ci := 1) (v := .int 0) (ty := .int) (C := RX1) (T := TX1) (N := 13) hx hb hts hiX1 tyX1 tyX1_ok nmX1 hown hK hP hD hS 1 rfl rfl 10 (by decide) hk3 (fun _ h9 => h9) rfl (by decide +kernel) rfl rfl (Nat.le_of_ble_eq_true rfl) dX1_find_17 (fun H locs hP hD hS => ?_)
  have hP : va_P D vwCl [(kG ad G_states G_moves G_ends), (kK ad 0 0 0 0 K_opened), (kI cI (ad 12) 600 G_to), (kI cI (ad 14) 600 G_out), (kI cI (ad 15) 201 G_start), (kZ cZ (ad 19) 200 K_chosen), (kI cI (ad 20) 200 K_knotOf), (kI cI (ad 21) 200 K_order), (kI cI (ad 22) 200 K_entered), (kI cI (ad 23) 200 K_low), (kI cI (ad 24) 200 K_nextOut), (kI cI (ad 25) 200 K_path), (kI cI (ad 26) 200 K_open)] H := hP
  have hD : va_D A [(kG ad G_states G_moves G_ends), (kK ad 0 0 0 0 K_opened), (kI cI (ad 12) 600 G_to), (kI cI (ad 14) 600 G_out), (kI cI (ad 15) 201 G_start), (kZ cZ (ad 19) 200 K_chosen), (kI cI (ad 20) 200 K_knotOf), (kI cI (ad 21) 200 K_order), (kI cI (ad 22) 200 K_entered), (kI cI (ad 23) 200 K_low), (kI cI (ad 24) 200 K_nextOut), (kI cI (ad 25) 200 K_path), (kI cI (ad 26) 200 K_open)] := hD
  refine lv_aload_n hx hb dX1_find_20 rfl (lv_at hl 0 rfl) ?_
  refine lv_iconst (v := 0) hx hb dX1_find_21 (by decide) ?_
  refine va_put (D := D) (ci := 1) (v := .int 0) (ty := .int) (C := RX1) (T := TX1) (N := 13) hx hb hts hiX1 tyX1 tyX1_ok nmX1 hown hK hP hD hS 1 rfl rfl 12 (by decide) hk4 (fun _ h9 => h9) rfl (by decide +kernel) rfl rfl (Nat.le_of_ble_eq_true rfl) dX1_find_22 (fun H locs hP hD hS => ?_)
  have hP : va_P D vwCl [(kG ad G_states G_moves G_ends), (kK ad 0 0 0 0 0), (kI cI (ad 12) 600 G_to), (kI cI (ad 14) 600 G_out), (kI cI (ad 15) 201 G_start), (kZ cZ (ad 19) 200 K_chosen), (kI cI (ad 20) 200 K_knotOf), (kI cI (ad 21) 200 K_order), (kI cI (ad 22) 200 K_entered), (kI cI (ad 23) 200 K_low), (kI cI (ad 24) 200 K_nextOut), (kI cI (ad 25) 200 K_path), (kI cI (ad 26) 200 K_open)] H := hP
  have hD : va_D A [(kG ad G_states G_moves G_ends), (kK ad 0 0 0 0 0), (kI cI (ad 12) 600 G_to), (kI cI (ad 14) 600 G_out), (kI cI (ad 15) 201 G_start), (kZ cZ (ad 19) 200 K_chosen), (kI cI (ad 20) 200 K_knotOf), (kI cI (ad 21) 200 K_order), (kI cI (ad 22) 200 K_entered), (kI cI (ad 23) 200 K_low), (kI cI (ad 24) 200 K_nextOut), (kI cI (ad 25) 200 K_path), (kI cI (ad 26) 200 K_open)] := hD
  refine lv_iconst (v := 0) hx hb dX1_find_25 (by decide) ?_
  refine lv_istore_n (lv' := [(2, .int 0), (0, .ref (ad 3)), (1, .ref (ad 1))]) hx hb dX1_find_26 rfl hl (by decide) rfl (fun ls hl => ?_)
  obtain ⟨ex_27, hex_27, h_27⟩ := ox_b_of h
  have hX_27 : ∀ (v2_27 : Int32) (K_knotOf_27 : Nat → Int32) (K_entered_27 : Nat → Int32) (H : Heap) (locs : List Loc) (ls : Array Slot), (v2_27, K_knotOf_27, K_entered_27) = ex_27 → va_P D vwCl [(kG ad G_states G_moves G_ends), (kK ad 0 0 0 0 0), (kI cI (ad 12) 600 G_to), (kI cI (ad 14) 600 G_out), (kI cI (ad 15) 201 G_start), (kZ cZ (ad 19) 200 K_chosen), (kI cI (ad 20) 200 K_knotOf_27), (kI cI (ad 21) 200 K_order), (kI cI (ad 22) 200 K_entered_27), (kI cI (ad 23) 200 K_low), (kI cI (ad 24) 200 K_nextOut), (kI cI (ad 25) 200 K_path), (kI cI (ad 26) 200 K_open)] H → va_D A [(kG ad G_states G_moves G_ends), (kK ad 0 0 0 0 0), (kI cI (ad 12) 600 G_to), (kI cI (ad 14) 600 G_out), (kI cI (ad 15) 201 G_start), (kZ cZ (ad 19) 200 K_chosen), (kI cI (ad 20) 200 K_knotOf_27), (kI cI (ad 21) 200 K_order), (kI cI (ad 22) 200 K_entered_27), (kI cI (ad 23) 200 K_low), (kI cI (ad 24) 200 K_nextOut), (kI cI (ad 25) 200 K_path), (kI cI (ad 26) 200 K_open)] → va_S A s.heap H locs → lv_has ls 3 [(0, .ref (ad 3)), (1, .ref (ad 1))] → W p l e { frames := 3, cells := 0, slots := 0, locals := 69 } s m ([.ref (ad 3), .ref (ad 1)] : List Value).toArray below meth c H locs 0 0 Q (F0 m 55 ls []) := by
    intro v2_27 K_knotOf_27 K_entered_27 H locs ls hex_27 hP hD hS hl
    subst hex_27
    have h := h_27
    refine lv_iconst (v := 0) hx hb dX1_find_55 (by decide) ?_
    refine lv_istore_n (lv' := [(2, .int 0), (0, .ref (ad 3)), (1, .ref (ad 1))]) hx hb dX1_find_56 rfl hl (by decide) rfl (fun ls hl => ?_)
    obtain ⟨ex_57, hex_57, h_57⟩ := ox_b_of h
    have hX_57 : ∀ (v2_57 : Int32) (K_found_57 : Int32) (K_closed_57 : Int32) (K_entries_57 : Int32) (K_depth_57 : Int32) (K_opened_57 : Int32) (K_knotOf_57 : Nat → Int32) (K_order_57 : Nat → Int32) (K_entered_57 : Nat → Int32) (K_low_57 : Nat → Int32) (K_nextOut_57 : Nat → Int32) (K_path_57 : Nat → Int32) (K_open_57 : Nat → Int32) (H : Heap) (locs : List Loc) (ls : Array Slot), (v2_57, K_found_57, K_closed_57, K_entries_57, K_depth_57, K_opened_57, K_knotOf_57, K_order_57, K_entered_57, K_low_57, K_nextOut_57, K_path_57, K_open_57) = ex_57 → va_P D vwCl [(kG ad G_states G_moves G_ends), (kK ad K_found_57 K_closed_57 K_entries_57 K_depth_57 K_opened_57), (kI cI (ad 12) 600 G_to), (kI cI (ad 14) 600 G_out), (kI cI (ad 15) 201 G_start), (kZ cZ (ad 19) 200 K_chosen), (kI cI (ad 20) 200 K_knotOf_57), (kI cI (ad 21) 200 K_order_57), (kI cI (ad 22) 200 K_entered_57), (kI cI (ad 23) 200 K_low_57), (kI cI (ad 24) 200 K_nextOut_57), (kI cI (ad 25) 200 K_path_57), (kI cI (ad 26) 200 K_open_57)] H → va_D A [(kG ad G_states G_moves G_ends), (kK ad K_found_57 K_closed_57 K_entries_57 K_depth_57 K_opened_57), (kI cI (ad 12) 600 G_to), (kI cI (ad 14) 600 G_out), (kI cI (ad 15) 201 G_start), (kZ cZ (ad 19) 200 K_chosen), (kI cI (ad 20) 200 K_knotOf_57), (kI cI (ad 21) 200 K_order_57), (kI cI (ad 22) 200 K_entered_57), (kI cI (ad 23) 200 K_low_57), (kI cI (ad 24) 200 K_nextOut_57), (kI cI (ad 25) 200 K_path_57), (kI cI (ad 26) 200 K_open_57)] → va_S A s.heap H locs → lv_has ls 3 [] → W p l e { frames := 3, cells := 0, slots := 0, locals := 69 } s m ([.ref (ad 3), .ref (ad 1)] : List Value).toArray below meth c H locs 0 0 Q (F0 m 95 ls []) := by
      intro v2_57 K_found_57 K_closed_57 K_entries_57 K_depth_57 K_opened_57 K_knotOf_57 K_order_57 K_entered_57 K_low_57 K_nextOut_57 K_path_57 K_open_57 H locs ls hex_57 hP hD hS hl
      subst hex_57
      have h := h_57
      have h := Option.some.inj h
      subst h
      exact hend H locs _ ls hP hD hS dX1_find_95 trivial
    have hL_57 : ∀ (n : Nat) (v2_57 : Int32) (K_found_57 : Int32) (K_closed_57 : Int32) (K_entries_57 : Int32) (K_depth_57 : Int32) (K_opened_57 : Int32) (K_knotOf_57 : Nat → Int32) (K_order_57 : Nat → Int32) (K_entered_57 : Nat → Int32) (K_low_57 : Nat → Int32) (K_nextOut_57 : Nat → Int32) (K_path_57 : Nat → Int32) (K_open_57 : Nat → Int32) (H : Heap) (locs : List Loc) (ls : Array Slot), ox_l (fn_X1_find_l57 G_states K_chosen G_moves G_to G_out G_start) n (v2_57, K_found_57, K_closed_57, K_entries_57, K_depth_57, K_opened_57, K_knotOf_57, K_order_57, K_entered_57, K_low_57, K_nextOut_57, K_path_57, K_open_57) = some ex_57 → va_P D vwCl [(kG ad G_states G_moves G_ends), (kK ad K_found_57 K_closed_57 K_entries_57 K_depth_57 K_opened_57), (kI cI (ad 12) 600 G_to), (kI cI (ad 14) 600 G_out), (kI cI (ad 15) 201 G_start), (kZ cZ (ad 19) 200 K_chosen), (kI cI (ad 20) 200 K_knotOf_57), (kI cI (ad 21) 200 K_order_57), (kI cI (ad 22) 200 K_entered_57), (kI cI (ad 23) 200 K_low_57), (kI cI (ad 24) 200 K_nextOut_57), (kI cI (ad 25) 200 K_path_57), (kI cI (ad 26) 200 K_open_57)] H → va_D A [(kG ad G_states G_moves G_ends), (kK ad K_found_57 K_closed_57 K_entries_57 K_depth_57 K_opened_57), (kI cI (ad 12) 600 G_to), (kI cI (ad 14) 600 G_out), (kI cI (ad 15) 201 G_start), (kZ cZ (ad 19) 200 K_chosen), (kI cI (ad 20) 200 K_knotOf_57), (kI cI (ad 21) 200 K_order_57), (kI cI (ad 22) 200 K_entered_57), (kI cI (ad 23) 200 K_low_57), (kI cI (ad 24) 200 K_nextOut_57), (kI cI (ad 25) 200 K_path_57), (kI cI (ad 26) 200 K_open_57)] → va_S A s.heap H locs → lv_has ls 3 [(0, .ref (ad 3)), (1, .ref (ad 1)), (2, .int v2_57)] → W p l e { frames := 3, cells := 0, slots := 0, locals := 69 } s m ([.ref (ad 3), .ref (ad 1)] : List Value).toArray below meth c H locs 0 0 Q (F0 m 57 ls []) := by
      intro n
      induction n with
      | zero => intro v2_57 K_found_57 K_closed_57 K_entries_57 K_depth_57 K_opened_57 K_knotOf_57 K_order_57 K_entered_57 K_low_57 K_nextOut_57 K_path_57 K_open_57 H locs ls hlp; exact ox_l_0 hlp
      | succ n ih_57 =>
        intro v2_57 K_found_57 K_closed_57 K_entries_57 K_depth_57 K_opened_57 K_knotOf_57 K_order_57 K_entered_57 K_low_57 K_nextOut_57 K_path_57 K_open_57 H locs ls hlp_57 hP hD hS hl
        obtain ⟨z_57, h, hlp_57⟩ := ox_l_of hlp_57
        refine lv_iload_n hx hb dX1_find_57 rfl (lv_at hl 2 rfl) ?_
        refine lv_aload_n hx hb dX1_find_58 rfl (lv_at hl 1 rfl) ?_
        refine va_get (D := D) (ci := 0) (v := .int G_states) (C := RX0) (T := TX0) (N := 11) hx hb hts hiX0 hown hK hP 0 rfl rfl 0 (by decide) hk5 (fun _ h9 => h9) rfl dX1_find_59 ?_
        refine lv_icmp_ge (tgt := 95) hx hb dX1_find_62 (by decide) (fun c_62 => ?_) (fun c_62 => ?_)
        · have h := ox_t c_62 h
          obtain rfl := Option.some.inj h
          exact hX_57 v2_57 K_found_57 K_closed_57 K_entries_57 K_depth_57 K_opened_57 K_knotOf_57 K_order_57 K_entered_57 K_low_57 K_nextOut_57 K_path_57 K_open_57 H locs ls hlp_57 hP hD hS (lv_sub hl [] rfl)
        · have h := ox_f c_62 h
          refine lv_aload_n hx hb dX1_find_65 rfl (lv_at hl 0 rfl) ?_
          refine va_get (D := D) (ci := 1) (v := .ref (ad 19)) (C := RX1) (T := TX1) (N := 13) hx hb hts hiX1 hown hK hP 1 rfl rfl 0 (by decide) hk6 (fun _ h9 => h9) rfl dX1_find_66 ?_
          refine lv_iload_n hx hb dX1_find_69 rfl (lv_at hl 2 rfl) ?_
          obtain ⟨hi_70, h⟩ := ox_i_of h
          refine va_zald hx hb hK hP 5 1 rfl rfl hi_70 dX1_find_70 ?_
          refine lv_if_eq (tgt := 89) hx hb dX1_find_71 (by decide) (fun c_71 => ?_) (fun c_71 => ?_)
          · have h := ox_t c_71 h
            refine lv_iinc (v := v2_57 + 1) (lv' := [(2, .int (v2_57 + 1)), (0, .ref (ad 3)), (1, .ref (ad 1))]) hx hb dX1_find_89 hl (k := 2) rfl rfl (by decide) rfl (fun ls hl => ?_)
            refine lv_goto (tgt := 57) hx hb dX1_find_92 (by decide) ?_
            obtain rfl := Option.some.inj h
            exact ih_57 (v2_57 + 1) K_found_57 K_closed_57 K_entries_57 K_depth_57 K_opened_57 K_knotOf_57 K_order_57 K_entered_57 K_low_57 K_nextOut_57 K_path_57 K_open_57 H locs ls hlp_57 hP hD hS (lv_sub hl [1, 2, 0] rfl)
          · have h := ox_f c_71 h
            refine lv_aload_n hx hb dX1_find_74 rfl (lv_at hl 0 rfl) ?_
            refine va_get (D := D) (ci := 1) (v := .ref (ad 22)) (C := RX1) (T := TX1) (N := 13) hx hb hts hiX1 hown hK hP 1 rfl rfl 5 (by decide) hk7 (fun _ h9 => h9) rfl dX1_find_75 ?_
            refine lv_iload_n hx hb dX1_find_78 rfl (lv_at hl 2 rfl) ?_
            obtain ⟨hi_79, h⟩ := ox_i_of h
            refine va_iald hx hb hK hP 8 0 rfl rfl hi_79 dX1_find_79 ?_
            refine lv_if_ne (tgt := 89) hx hb dX1_find_80 (by decide) (fun c_80 => ?_) (fun c_80 => ?_)
            · have h := ox_f c_80 h
              refine lv_iinc (v := v2_57 + 1) (lv' := [(2, .int (v2_57 + 1)), (0, .ref (ad 3)), (1, .ref (ad 1))]) hx hb dX1_find_89 hl (k := 2) rfl rfl (by decide) rfl (fun ls hl => ?_)
              refine lv_goto (tgt := 57) hx hb dX1_find_92 (by decide) ?_
              obtain rfl := Option.some.inj h
              exact ih_57 (v2_57 + 1) K_found_57 K_closed_57 K_entries_57 K_depth_57 K_opened_57 K_knotOf_57 K_order_57 K_entered_57 K_low_57 K_nextOut_57 K_path_57 K_open_57 H locs ls hlp_57 hP hD hS (lv_sub hl [1, 2, 0] rfl)
            · have h := ox_t c_80 h
              refine lv_aload_n hx hb dX1_find_83 rfl (lv_at hl 0 rfl) ?_
              refine lv_aload_n hx hb dX1_find_84 rfl (lv_at hl 1 rfl) ?_
              refine lv_iload_n hx hb dX1_find_85 rfl (lv_at hl 2 rfl) ?_
              obtain ⟨⟨K_found_86, K_closed_86, K_entries_86, K_depth_86, K_opened_86, K_knotOf_86, K_order_86, K_entered_86, K_low_86, K_nextOut_86, K_path_86, K_open_86⟩, hc_86, h⟩ := ox_b_of h
              refine mc_callV (As := [.ref (ad 1), .int v2_57]) (rest := []) (b := ad 3) (Wc := [(kG ad G_states G_moves G_ends), (kK ad K_found_57 K_closed_57 K_entries_57 K_depth_57 K_opened_57), (kI cI (ad 12) 600 G_to), (kI cI (ad 14) 600 G_out), (kI cI (ad 15) 201 G_start), (kZ cZ (ad 19) 200 K_chosen), (kI cI (ad 20) 200 K_knotOf_57), (kI cI (ad 21) 200 K_order_57), (kI cI (ad 22) 200 K_entered_57), (kI cI (ad 23) 200 K_low_57), (kI cI (ad 24) 200 K_nextOut_57), (kI cI (ad 25) 200 K_path_57), (kI cI (ad 26) 200 K_open_57)]) (wr := []) (W1 := [(kG ad G_states G_moves G_ends), (kK ad K_found_86 K_closed_86 K_entries_86 K_depth_86 K_opened_86), (kI cI (ad 12) 600 G_to), (kI cI (ad 14) 600 G_out), (kI cI (ad 15) 201 G_start), (kZ cZ (ad 19) 200 K_chosen), (kI cI (ad 20) 200 K_knotOf_86), (kI cI (ad 21) 200 K_order_86), (kI cI (ad 22) 200 K_entered_86), (kI cI (ad 23) 200 K_low_86), (kI cI (ad 24) 200 K_nextOut_86), (kI cI (ad 25) 200 K_path_86), (kI cI (ad 26) 200 K_open_86)]) (wn := [(kG ad G_states G_moves G_ends), (kK ad K_found_86 K_closed_86 K_entries_86 K_depth_86 K_opened_86), (kI cI (ad 12) 600 G_to), (kI cI (ad 14) 600 G_out), (kI cI (ad 15) 201 G_start), (kZ cZ (ad 19) 200 K_chosen), (kI cI (ad 20) 200 K_knotOf_86), (kI cI (ad 21) 200 K_order_86), (kI cI (ad 22) 200 K_entered_86), (kI cI (ad 23) 200 K_low_86), (kI cI (ad 24) 200 K_nextOut_86), (kI cI (ad 25) 200 K_path_86), (kI cI (ad 26) 200 K_open_86)]) (rv := none) ⟨hx, hb, hml, hown, hts⟩ (c_X1_walkFrom l D cI cZ ad G_states G_moves G_ends K_found_57 K_closed_57 K_entries_57 K_depth_57 K_opened_57 G_to G_out G_start K_chosen K_knotOf_57 K_order_57 K_entered_57 K_low_57 K_nextOut_57 K_path_57 K_open_57 v2_57 _ hc_86) (cwV 2 hts (gl_V wk_248 wk_249 wk_250 wk_25 wk_251) rfl rfl rfl (by decide +kernel) ⟨Nat.le_of_ble_eq_true rfl, Nat.le_of_ble_eq_true rfl⟩) hK hP hD hS hA 1 1 rfl rfl rfl [0, 1, 2, 3, 4, 5, 6, 7, 8, 9, 10, 11, 12] [] [0, 1, 2, 3, 4, 5, 6, 7, 8, 9, 10, 11, 12] rfl rfl (by decide) rfl (by decide) (by decide) rfl rfl (by decide) rfl rfl hl.1 (Nat.le_of_ble_eq_true rfl) dX1_find_86 ⟨Nat.zero_le _, Nat.zero_le _⟩ (fun H locs hP hD hS => ?_)
              show W p l e { frames := 3, cells := 0, slots := 0, locals := 69 } s m ([.ref (ad 3), .ref (ad 1)] : List Value).toArray below meth c H locs 0 0 Q (F0 m 89 ls [])
              refine lv_iinc (v := v2_57 + 1) (lv' := [(2, .int (v2_57 + 1)), (0, .ref (ad 3)), (1, .ref (ad 1))]) hx hb dX1_find_89 hl (k := 2) rfl rfl (by decide) rfl (fun ls hl => ?_)
              refine lv_goto (tgt := 57) hx hb dX1_find_92 (by decide) ?_
              obtain rfl := Option.some.inj h
              exact ih_57 (v2_57 + 1) K_found_86 K_closed_86 K_entries_86 K_depth_86 K_opened_86 K_knotOf_86 K_order_86 K_entered_86 K_low_86 K_nextOut_86 K_path_86 K_open_86 H locs ls hlp_57 hP hD hS (lv_sub hl [1, 2, 0] rfl)
    exact hL_57 1000000 0 0 0 0 0 0 K_knotOf_27 K_order K_entered_27 K_low K_nextOut K_path K_open H locs ls hex_57 hP hD hS (lv_sub hl [1, 2, 0] rfl)
  have hL_27 : ∀ (n : Nat) (v2_27 : Int32) (K_knotOf_27 : Nat → Int32) (K_entered_27 : Nat → Int32) (H : Heap) (locs : List Loc) (ls : Array Slot), ox_l (fn_X1_find_l27 G_states) n (v2_27, K_knotOf_27, K_entered_27) = some ex_27 → va_P D vwCl [(kG ad G_states G_moves G_ends), (kK ad 0 0 0 0 0), (kI cI (ad 12) 600 G_to), (kI cI (ad 14) 600 G_out), (kI cI (ad 15) 201 G_start), (kZ cZ (ad 19) 200 K_chosen), (kI cI (ad 20) 200 K_knotOf_27), (kI cI (ad 21) 200 K_order), (kI cI (ad 22) 200 K_entered_27), (kI cI (ad 23) 200 K_low), (kI cI (ad 24) 200 K_nextOut), (kI cI (ad 25) 200 K_path), (kI cI (ad 26) 200 K_open)] H → va_D A [(kG ad G_states G_moves G_ends), (kK ad 0 0 0 0 0), (kI cI (ad 12) 600 G_to), (kI cI (ad 14) 600 G_out), (kI cI (ad 15) 201 G_start), (kZ cZ (ad 19) 200 K_chosen), (kI cI (ad 20) 200 K_knotOf_27), (kI cI (ad 21) 200 K_order), (kI cI (ad 22) 200 K_entered_27), (kI cI (ad 23) 200 K_low), (kI cI (ad 24) 200 K_nextOut), (kI cI (ad 25) 200 K_path), (kI cI (ad 26) 200 K_open)] → va_S A s.heap H locs → lv_has ls 3 [(0, .ref (ad 3)), (1, .ref (ad 1)), (2, .int v2_27)] → W p l e { frames := 3, cells := 0, slots := 0, locals := 69 } s m ([.ref (ad 3), .ref (ad 1)] : List Value).toArray below meth c H locs 0 0 Q (F0 m 27 ls []) := by
    intro n
    induction n with
    | zero => intro v2_27 K_knotOf_27 K_entered_27 H locs ls hlp; exact ox_l_0 hlp
    | succ n ih_27 =>
      intro v2_27 K_knotOf_27 K_entered_27 H locs ls hlp_27 hP hD hS hl
      obtain ⟨z_27, h, hlp_27⟩ := ox_l_of hlp_27
      refine lv_iload_n hx hb dX1_find_27 rfl (lv_at hl 2 rfl) ?_
      refine lv_aload_n hx hb dX1_find_28 rfl (lv_at hl 1 rfl) ?_
      refine va_get (D := D) (ci := 0) (v := .int G_states) (C := RX0) (T := TX0) (N := 11) hx hb hts hiX0 hown hK hP 0 rfl rfl 0 (by decide) hk5 (fun _ h9 => h9) rfl dX1_find_29 ?_
      refine lv_icmp_ge (tgt := 55) hx hb dX1_find_32 (by decide) (fun c_32 => ?_) (fun c_32 => ?_)
      · have h := ox_t c_32 h
        obtain rfl := Option.some.inj h
        exact hX_27 v2_27 K_knotOf_27 K_entered_27 H locs ls hlp_27 hP hD hS (lv_sub hl [0, 1] rfl)
      · have h := ox_f c_32 h
        refine lv_aload_n hx hb dX1_find_35 rfl (lv_at hl 0 rfl) ?_
        refine va_get (D := D) (ci := 1) (v := .ref (ad 22)) (C := RX1) (T := TX1) (N := 13) hx hb hts hiX1 hown hK hP 1 rfl rfl 5 (by decide) hk7 (fun _ h9 => h9) rfl dX1_find_36 ?_
        refine lv_iload_n hx hb dX1_find_39 rfl (lv_at hl 2 rfl) ?_
        refine lv_iconst (v := 0) hx hb dX1_find_40 (by decide) ?_
        obtain ⟨hi_41, h⟩ := ox_i_of h
        refine va_iast hx hb hK hP hD hS 8 0 rfl rfl hi_41 dX1_find_41 (fun H locs hP hD hS => ?_)
        have hP : va_P D vwCl [(kG ad G_states G_moves G_ends), (kK ad 0 0 0 0 0), (kI cI (ad 12) 600 G_to), (kI cI (ad 14) 600 G_out), (kI cI (ad 15) 201 G_start), (kZ cZ (ad 19) 200 K_chosen), (kI cI (ad 20) 200 K_knotOf_27), (kI cI (ad 21) 200 K_order), (kI cI (ad 22) 200 (upd K_entered_27 v2_27.toNatClampNeg 0)), (kI cI (ad 23) 200 K_low), (kI cI (ad 24) 200 K_nextOut), (kI cI (ad 25) 200 K_path), (kI cI (ad 26) 200 K_open)] H := hP
        have hD : va_D A [(kG ad G_states G_moves G_ends), (kK ad 0 0 0 0 0), (kI cI (ad 12) 600 G_to), (kI cI (ad 14) 600 G_out), (kI cI (ad 15) 201 G_start), (kZ cZ (ad 19) 200 K_chosen), (kI cI (ad 20) 200 K_knotOf_27), (kI cI (ad 21) 200 K_order), (kI cI (ad 22) 200 (upd K_entered_27 v2_27.toNatClampNeg 0)), (kI cI (ad 23) 200 K_low), (kI cI (ad 24) 200 K_nextOut), (kI cI (ad 25) 200 K_path), (kI cI (ad 26) 200 K_open)] := hD
        refine lv_aload_n hx hb dX1_find_42 rfl (lv_at hl 0 rfl) ?_
        refine va_get (D := D) (ci := 1) (v := .ref (ad 20)) (C := RX1) (T := TX1) (N := 13) hx hb hts hiX1 hown hK hP 1 rfl rfl 2 (by decide) hk8 (fun _ h9 => h9) rfl dX1_find_43 ?_
        refine lv_iload_n hx hb dX1_find_46 rfl (lv_at hl 2 rfl) ?_
        refine lv_iconst (v := (-1)) hx hb dX1_find_47 (by decide) ?_
        obtain ⟨hi_48, h⟩ := ox_i_of h
        refine va_iast hx hb hK hP hD hS 6 0 rfl rfl hi_48 dX1_find_48 (fun H locs hP hD hS => ?_)
        have hP : va_P D vwCl [(kG ad G_states G_moves G_ends), (kK ad 0 0 0 0 0), (kI cI (ad 12) 600 G_to), (kI cI (ad 14) 600 G_out), (kI cI (ad 15) 201 G_start), (kZ cZ (ad 19) 200 K_chosen), (kI cI (ad 20) 200 (upd K_knotOf_27 v2_27.toNatClampNeg (-1))), (kI cI (ad 21) 200 K_order), (kI cI (ad 22) 200 (upd K_entered_27 v2_27.toNatClampNeg 0)), (kI cI (ad 23) 200 K_low), (kI cI (ad 24) 200 K_nextOut), (kI cI (ad 25) 200 K_path), (kI cI (ad 26) 200 K_open)] H := hP
        have hD : va_D A [(kG ad G_states G_moves G_ends), (kK ad 0 0 0 0 0), (kI cI (ad 12) 600 G_to), (kI cI (ad 14) 600 G_out), (kI cI (ad 15) 201 G_start), (kZ cZ (ad 19) 200 K_chosen), (kI cI (ad 20) 200 (upd K_knotOf_27 v2_27.toNatClampNeg (-1))), (kI cI (ad 21) 200 K_order), (kI cI (ad 22) 200 (upd K_entered_27 v2_27.toNatClampNeg 0)), (kI cI (ad 23) 200 K_low), (kI cI (ad 24) 200 K_nextOut), (kI cI (ad 25) 200 K_path), (kI cI (ad 26) 200 K_open)] := hD
        refine lv_iinc (v := v2_27 + 1) (lv' := [(2, .int (v2_27 + 1)), (0, .ref (ad 3)), (1, .ref (ad 1))]) hx hb dX1_find_49 hl (k := 2) rfl rfl (by decide) rfl (fun ls hl => ?_)
        refine lv_goto (tgt := 27) hx hb dX1_find_52 (by decide) ?_
        obtain rfl := Option.some.inj h
        exact ih_27 (v2_27 + 1) (upd K_knotOf_27 v2_27.toNatClampNeg (-1)) (upd K_entered_27 v2_27.toNatClampNeg 0) H locs ls hlp_27 hP hD hS (lv_sub hl [1, 2, 0] rfl)
  exact hL_27 1000000 0 K_knotOf K_entered H locs ls hex_27 hP hD hS (lv_sub hl [1, 2, 0] rfl)
