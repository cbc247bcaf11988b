set_option maxHeartbeats 4000000 in
set_option maxRecDepth 100000 in
theorem c_X0_hasState (l : Launch) (D : va_G) (cI cZ : ClassId) (ad : Nat → Nat) (G_states : Int32) (G_moves : Int32) (G_ends : Int32) (a1 : Int32) (res : Int32) (h : fn_X0_hasState G_states a1 = some res) : mc_C l yX0_hasState wv_X0_hasState { frames := 0, cells := 0, slots := 0, locals := 0 } D [(cI, .int), (cZ, .boolean)] [.ref (ad 1), .int a1] [(kG ad G_states G_moves G_ends)] (some (.int res)) [(kG ad G_states G_moves G_ends)] := by
  refine mc_ofz (own := RX0) (by decide) rfl rfl (Nat.le_of_ble_eq_true rfl) ?_
  intro p e s m below meth c A Q ls hx hb hml hown hts hK hP hD hA hl hend
  have hS : va_S A s.heap s.heap [] := va_S.rf
  have hl : lv_has ls 2 [(0, .ref (ad 1)), (1, .int a1)] := hl
  obtain ⟨H, hH⟩ : ∃ H, H = s.heap := ⟨_, rfl⟩
  obtain ⟨locs, hlo⟩ : ∃ locs : List Loc, locs = [] := ⟨_, rfl⟩
  have hS : va_S A s.heap H locs := by rw [hH, hlo]; exact hS
  have hP : va_P D vwCl [(kG ad G_states G_moves G_ends)] H := by rw [hH]; exact hP
  suffices h9 : W p l e { frames := 0, cells := 0, slots := 0, locals := 0 } s m ([.ref (ad 1), .int a1] : List Value).toArray below meth c H locs 0 0 Q (F0 m 0 ls []) by rw [hH, hlo] at h9; exact h9
  clear hH hlo
  have hiX0 : ∀ w ∈ wsX00, w ∈ wv_X0_hasState := fun w h => List.mem_cons_of_mem _ (inlX0 w h)
  have hk0 := hts (.fieldLink RX0 37 "FairLoops$Graph" "states" "I") (List.mem_cons_of_mem _ wk_113)
  refine lv_iload_n hx hb dX0_hasState_0 rfl (lv_at hl 1 rfl) ?_
  refine lv_if_lt (tgt := 16) hx hb dX0_hasState_1 (by decide) (fun c_1 => ?_) (fun c_1 => ?_)
  · have h := ox_t c_1 h
    refine lv_iconst (v := 0) hx hb dX0_hasState_16 (by decide) ?_
    have h := Option.some.inj h
    subst h
    exact hend H locs _ ls hP hD hS dX0_hasState_17 nb_0
  · have h := ox_f c_1 h
    refine lv_iload_n hx hb dX0_hasState_4 rfl (lv_at hl 1 rfl) ?_
    refine lv_aload_n hx hb dX0_hasState_5 rfl (lv_at hl 0 rfl) ?_
    refine va_get (D := D) (ci := 0) (v := .int G_states) (C := RX0) (T := TX0) (N := 11) hx hb hts hiX0 hown hK hP 0 rfl rfl 0 (by decide) hk0 (fun _ h9 => h9) rfl dX0_hasState_6 ?_
    refine lv_icmp_ge (tgt := 16) hx hb dX0_hasState_9 (by decide) (fun c_9 => ?_) (fun c_9 => ?_)
    · have h := ox_t c_9 h
      refine lv_iconst (v := 0) hx hb dX0_hasState_16 (by decide) ?_
      have h := Option.some.inj h
      subst h
      exact hend H locs _ ls hP hD hS dX0_hasState_17 nb_0
    · have h := ox_f c_9 h
      refine lv_iconst (v := 1) hx hb dX0_hasState_12 (by decide) ?_
      refine lv_goto (tgt := 17) hx hb dX0_hasState_13 (by decide) ?_
      have h := Option.some.inj h
      subst h
      exact hend H locs _ ls hP hD hS dX0_hasState_17 nb_1
set_option maxHeartbeats 4000000 in
set_option maxRecDepth 100000 in
theorem c_X0_isStuck (l : Launch) (D : va_G) (cI cZ : ClassId) (ad : Nat → Nat) (G_states : Int32) (G_moves : Int32) (G_ends : Int32) (G_isEnd : Nat → Int32) (G_start : Nat → Int32) (a1 : Int32) (res : Int32) (h : fn_X0_isStuck G_isEnd G_start a1 = some res) : mc_C l yX0_isStuck wv_X0_isStuck { frames := 0, cells := 0, slots := 0, locals := 0 } D [(cI, .int), (cZ, .boolean)] [.ref (ad 1), .int a1] [(kG ad G_states G_moves G_ends), (kZ cZ (ad 9) 200 G_isEnd), (kI cI (ad 15) 201 G_start)] (some (.int res)) [(kG ad G_states G_moves G_ends), (kZ cZ (ad 9) 200 G_isEnd), (kI cI (ad 15) 201 G_start)] := by
  refine mc_ofz (own := RX0) (by decide) rfl rfl (Nat.le_of_ble_eq_true rfl) ?_
  intro p e s m below meth c A Q ls hx hb hml hown hts hK hP hD hA hl hend
  have hS : va_S A s.heap s.heap [] := va_S.rf
  have hl : lv_has ls 2 [(0, .ref (ad 1)), (1, .int a1)] := hl
  obtain ⟨H, hH⟩ : ∃ H, H = s.heap := ⟨_, rfl⟩
  obtain ⟨locs, hlo⟩ : ∃ locs : List Loc, locs = [] := ⟨_, rfl⟩
  have hS : va_S A s.heap H locs := by rw [hH, hlo]; exact hS
  have hP : va_P D vwCl [(kG ad G_states G_moves G_ends), (kZ cZ (ad 9) 200 G_isEnd), (kI cI (ad 15) 201 G_start)] H := by rw [hH]; exact hP
  suffices h9 : W p l e { frames := 0, cells := 0, slots := 0, locals := 0 } s m ([.ref (ad 1), .int a1] : List Value).toArray below meth c H locs 0 0 Q (F0 m 0 ls []) by rw [hH, hlo] at h9; exact h9
  clear hH hlo
  have hiX0 : ∀ w ∈ wsX00, w ∈ wv_X0_isStuck := fun w h => List.mem_cons_of_mem _ (inlX0 w h)
  have hk0 := hts (.fieldLink RX0 15 "FairLoops$Graph" "isEnd" "[Z") (List.mem_cons_of_mem _ wk_37)
  have hk1 := hts (.fieldLink RX0 34 "FairLoops$Graph" "start" "[I") (List.mem_cons_of_mem _ wk_43)
  refine lv_aload_n hx hb dX0_isStuck_0 rfl (lv_at hl 0 rfl) ?_
  refine va_get (D := D) (ci := 0) (v := .ref (ad 9)) (C := RX0) (T := TX0) (N := 11) hx hb hts hiX0 hown hK hP 0 rfl rfl 4 (by decide) hk0 (fun _ h9 => h9) rfl dX0_isStuck_1 ?_
  refine lv_iload_n hx hb dX0_isStuck_4 rfl (lv_at hl 1 rfl) ?_
  obtain ⟨hi_5, h⟩ := ox_i_of h
  refine va_zald hx hb hK hP 1 1 rfl rfl hi_5 dX0_isStuck_5 ?_
  refine lv_if_ne (tgt := 30) hx hb dX0_isStuck_6 (by decide) (fun c_6 => ?_) (fun c_6 => ?_)
  · have h := ox_f c_6 h
    refine lv_iconst (v := 0) hx hb dX0_isStuck_30 (by decide) ?_
    have h := Option.some.inj h
    subst h
    exact hend H locs _ ls hP hD hS dX0_isStuck_31 nb_0
  · have h := ox_t c_6 h
    refine lv_aload_n hx hb dX0_isStuck_9 rfl (lv_at hl 0 rfl) ?_
    refine va_get (D := D) (ci := 0) (v := .ref (ad 15)) (C := RX0) (T := TX0) (N := 11) hx hb hts hiX0 hown hK hP 0 rfl rfl 10 (by decide) hk1 (fun _ h9 => h9) rfl dX0_isStuck_10 ?_
    refine lv_iload_n hx hb dX0_isStuck_13 rfl (lv_at hl 1 rfl) ?_
    obtain ⟨hi_14, h⟩ := ox_i_of h
    refine va_iald hx hb hK hP 2 0 rfl rfl hi_14 dX0_isStuck_14 ?_
    refine lv_aload_n hx hb dX0_isStuck_15 rfl (lv_at hl 0 rfl) ?_
    refine va_get (D := D) (ci := 0) (v := .ref (ad 15)) (C := RX0) (T := TX0) (N := 11) hx hb hts hiX0 hown hK hP 0 rfl rfl 10 (by decide) hk1 (fun _ h9 => h9) rfl dX0_isStuck_16 ?_
    refine lv_iload_n hx hb dX0_isStuck_19 rfl (lv_at hl 1 rfl) ?_
    refine lv_iconst (v := 1) hx hb dX0_isStuck_20 (by decide) ?_
    refine lv_iadd hx hb dX0_isStuck_21 ?_
    obtain ⟨hi_22, h⟩ := ox_i_of h
    refine va_iald hx hb hK hP 2 0 rfl rfl hi_22 dX0_isStuck_22 ?_
    refine lv_icmp_ne (tgt := 30) hx hb dX0_isStuck_23 (by decide) (fun c_23 => ?_) (fun c_23 => ?_)
    · have h := ox_f c_23 h
      refine lv_iconst (v := 0) hx hb dX0_isStuck_30 (by decide) ?_
      have h := Option.some.inj h
      subst h
      exact hend H locs _ ls hP hD hS dX0_isStuck_31 nb_0
    · have h := ox_t c_23 h
      refine lv_iconst (v := 1) hx hb dX0_isStuck_26 (by decide) ?_
      refine lv_goto (tgt := 31) hx hb dX0_isStuck_27 (by decide) ?_
      have h := Option.some.inj h
      subst h
      exact hend H locs _ ls hP hD hS dX0_isStuck_31 nb_1
set_option maxHeartbeats 4000000 in
set_option maxRecDepth 100000 in
theorem c_X0_addState (l : Launch) (D : va_G) (cI cZ : ClassId) (ad : Nat → Nat) (G_states : Int32) (G_moves : Int32) (G_ends : Int32) (G_asks : Nat → Int32) (G_isEnd : Nat → Int32) (G_start : Nat → Int32) (a1 : Int32) (a2 : Int32) (res : Int32 × Int32 × Int32 × (Nat → Int32) × (Nat → Int32) × (Nat → Int32)) (h : fn_X0_addState G_states G_moves G_ends G_asks G_isEnd G_start a1 a2 = some res) : mc_C l yX0_addState wv_X0_addState { frames := 0, cells := 0, slots := 0, locals := 0 } D [(cI, .int), (cZ, .boolean)] [.ref (ad 1), .int a1, .int a2] [(kG ad G_states G_moves G_ends), (kI cI (ad 8) 200 G_asks), (kZ cZ (ad 9) 200 G_isEnd), (kI cI (ad 15) 201 G_start)] (some (.int res.1)) [(kG ad res.2.1 G_moves res.2.2.1), (kI cI (ad 8) 200 res.2.2.2.1), (kZ cZ (ad 9) 200 res.2.2.2.2.1), (kI cI (ad 15) 201 res.2.2.2.2.2)] := by
  refine mc_ofi (own := RX0) (by decide) rfl rfl (Nat.le_of_ble_eq_true rfl) ?_
  intro p e s m below meth c A Q ls hx hb hml hown hts hK hP hD hA hl hend
  have hS : va_S A s.heap s.heap [] := va_S.rf
  have hl : lv_has ls 4 [(0, .ref (ad 1)), (1, .int a1), (2, .int a2)] := hl
  obtain ⟨H, hH⟩ : ∃ H, H = s.heap := ⟨_, rfl⟩
  obtain ⟨locs, hlo⟩ : ∃ locs : List Loc, locs = [] := ⟨_, rfl⟩
  have hS : va_S A s.heap H locs := by rw [hH, hlo]; exact hS
  have hP : va_P D vwCl [(kG ad G_states G_moves G_ends), (kI cI (ad 8) 200 G_asks), (kZ cZ (ad 9) 200 G_isEnd), (kI cI (ad 15) 201 G_start)] H := by rw [hH]; exact hP
  suffices h9 : W p l e { frames := 0, cells := 0, slots := 0, locals := 0 } s m ([.ref (ad 1), .int a1, .int a2] : List Value).toArray below meth c H locs 0 0 Q (F0 m 0 ls []) by rw [hH, hlo] at h9; exact h9
  clear hH hlo
  have hiX0 : ∀ w ∈ wsX00, w ∈ wv_X0_addState := fun w h => List.mem_cons_of_mem _ (inlX0 w h)
  have hk0 := hts (.fieldLink RX0 37 "FairLoops$Graph" "states" "I") (List.mem_cons_of_mem _ wk_113)
  have hk1 := hts (.fieldLink RX0 9 "FairLoops$Graph" "asks" "[I") (List.mem_cons_of_mem _ wk_35)
  have hk2 := hts (.fieldLink RX0 15 "FairLoops$Graph" "isEnd" "[Z") (List.mem_cons_of_mem _ wk_37)
  have hk3 := hts (.fieldLink RX0 34 "FairLoops$Graph" "start" "[I") (List.mem_cons_of_mem _ wk_43)
  have hk4 := hts (.fieldLink RX0 44 "FairLoops$Graph" "moves" "I") (List.mem_cons_of_mem _ wk_115)
  have hk5 := hts (.fieldLink RX0 41 "FairLoops$Graph" "ends" "I") (List.mem_cons_of_mem _ wk_114)
  refine lv_aload_n hx hb dX0_addState_0 rfl (lv_at hl 0 rfl) ?_
  refine va_get (D := D) (ci := 0) (v := .int G_states) (C := RX0) (T := TX0) (N := 11) hx hb hts hiX0 hown hK hP 0 rfl rfl 0 (by decide) hk0 (fun _ h9 => h9) rfl dX0_addState_1 ?_
  refine lv_istore_n (lv' := [(3, .int G_states), (0, .ref (ad 1)), (1, .int a1), (2, .int a2)]) hx hb dX0_addState_4 rfl hl (by decide) rfl (fun ls hl => ?_)
  refine lv_aload_n hx hb dX0_addState_5 rfl (lv_at hl 1 rfl) ?_
  refine va_get (D := D) (ci := 0) (v := .ref (ad 8)) (C := RX0) (T := TX0) (N := 11) hx hb hts hiX0 hown hK hP 0 rfl rfl 3 (by decide) hk1 (fun _ h9 => h9) rfl dX0_addState_6 ?_
  refine lv_iload_n hx hb dX0_addState_9 rfl (lv_at hl 0 rfl) ?_
  refine lv_iload_n hx hb dX0_addState_10 rfl (lv_at hl 2 rfl) ?_
  obtain ⟨hi_11, h⟩ := ox_i_of h
  refine va_iast hx hb hK hP hD hS 1 0 rfl rfl hi_11 dX0_addState_11 (fun H locs hP hD hS => ?_)
  have hP : va_P D vwCl [(kG ad G_states G_moves G_ends), (kI cI (ad 8) 200 (upd G_asks G_states.toNatClampNeg a1)), (kZ cZ (ad 9) 200 G_isEnd), (kI cI (ad 15) 201 G_start)] H := hP
  have hD : va_D A [(kG ad G_states G_moves G_ends), (kI cI (ad 8) 200 (upd G_asks G_states.toNatClampNeg a1)), (kZ cZ (ad 9) 200 G_isEnd), (kI cI (ad 15) 201 G_start)] := hD
  refine lv_aload_n hx hb dX0_addState_12 rfl (lv_at hl 1 rfl) ?_
  refine va_get (D := D) (ci := 0) (v := .ref (ad 9)) (C := RX0) (T := TX0) (N := 11) hx hb hts hiX0 hown hK hP 0 rfl rfl 4 (by decide) hk2 (fun _ h9 => h9) rfl dX0_addState_13 ?_
  refine lv_iload_n hx hb dX0_addState_16 rfl (lv_at hl 0 rfl) ?_
  refine lv_iload_n hx hb dX0_addState_17 rfl (lv_at hl 3 rfl) ?_
  obtain ⟨hi_18, h⟩ := ox_i_of h
  refine va_zast hx hb hK hP hD hS 2 1 rfl rfl hi_18 dX0_addState_18 (fun H locs hP hD hS => ?_)
  have hP : va_P D vwCl [(kG ad G_states G_moves G_ends), (kI cI (ad 8) 200 (upd G_asks G_states.toNatClampNeg a1)), (kZ cZ (ad 9) 200 (upd G_isEnd G_states.toNatClampNeg (vp_nar .boolean a2))), (kI cI (ad 15) 201 G_start)] H := hP
  have hD : va_D A [(kG ad G_states G_moves G_ends), (kI cI (ad 8) 200 (upd G_asks G_states.toNatClampNeg a1)), (kZ cZ (ad 9) 200 (upd G_isEnd G_states.toNatClampNeg (vp_nar .boolean a2))), (kI cI (ad 15) 201 G_start)] := hD
  refine lv_iload_n hx hb dX0_addState_19 rfl (lv_at hl 3 rfl) ?_
  have hJ_33 : ∀ (G_ends_33 : Int32) (H : Heap) (locs : List Loc) (ls : Array Slot), fn_X0_addState_j33 G_states G_asks a1 G_isEnd a2 G_start G_moves G_ends_33 = some res → va_P D vwCl [(kG ad G_states G_moves G_ends_33), (kI cI (ad 8) 200 (upd G_asks G_states.toNatClampNeg a1)), (kZ cZ (ad 9) 200 (upd G_isEnd G_states.toNatClampNeg (vp_nar .boolean a2))), (kI cI (ad 15) 201 G_start)] H → va_D A [(kG ad G_states G_moves G_ends_33), (kI cI (ad 8) 200 (upd G_asks G_states.toNatClampNeg a1)), (kZ cZ (ad 9) 200 (upd G_isEnd G_states.toNatClampNeg (vp_nar .boolean a2))), (kI cI (ad 15) 201 G_start)] → va_S A s.heap H locs → lv_has ls 4 [(0, .ref (ad 1)), (3, .int G_states)] → W p l e { frames := 0, cells := 0, slots := 0, locals := 0 } s m ([.ref (ad 1), .int a1, .int a2] : List Value).toArray below meth c H locs 0 0 Q (F0 m 33 ls []) := by
    intro G_ends_33 H locs ls h hP hD hS hl
    refine lv_aload_n hx hb dX0_addState_33 rfl (lv_at hl 0 rfl) ?_
    refine lv_dup hx hb dX0_addState_34 rfl ?_
    refine va_get (D := D) (ci := 0) (v := .int G_states) (C := RX0) (T := TX0) (N := 11) hx hb hts hiX0 hown hK hP 0 rfl rfl 0 (by decide) hk0 (fun _ h9 => h9) rfl dX0_addState_35 ?_
    refine lv_iconst (v := 1) hx hb dX0_addState_38 (by decide) ?_
    refine lv_iadd hx hb dX0_addState_39 ?_
    refine va_put (D := D) (ci := 0) (v := .int (G_states + 1)) (ty := .int) (C := RX0) (T := TX0) (N := 11) hx hb hts hiX0 tyX0 tyX0_ok nmX0 hown hK hP hD hS 0 rfl rfl 0 (by decide) hk0 (fun _ h9 => h9) rfl (by decide +kernel) rfl rfl (Nat.le_of_ble_eq_true rfl) dX0_addState_40 (fun H locs hP hD hS => ?_)
    have hP : va_P D vwCl [(kG ad (G_states + 1) G_moves G_ends_33), (kI cI (ad 8) 200 (upd G_asks G_states.toNatClampNeg a1)), (kZ cZ (ad 9) 200 (upd G_isEnd G_states.toNatClampNeg (vp_nar .boolean a2))), (kI cI (ad 15) 201 G_start)] H := hP
    have hD : va_D A [(kG ad (G_states + 1) G_moves G_ends_33), (kI cI (ad 8) 200 (upd G_asks G_states.toNatClampNeg a1)), (kZ cZ (ad 9) 200 (upd G_isEnd G_states.toNatClampNeg (vp_nar .boolean a2))), (kI cI (ad 15) 201 G_start)] := hD
    refine lv_aload_n hx hb dX0_addState_43 rfl (lv_at hl 0 rfl) ?_
    refine va_get (D := D) (ci := 0) (v := .ref (ad 15)) (C := RX0) (T := TX0) (N := 11) hx hb hts hiX0 hown hK hP 0 rfl rfl 10 (by decide) hk3 (fun _ h9 => h9) rfl dX0_addState_44 ?_
    refine lv_aload_n hx hb dX0_addState_47 rfl (lv_at hl 0 rfl) ?_
    refine va_get (D := D) (ci := 0) (v := .int (G_states + 1)) (C := RX0) (T := TX0) (N := 11) hx hb hts hiX0 hown hK hP 0 rfl rfl 0 (by decide) hk0 (fun _ h9 => h9) rfl dX0_addState_48 ?_
    refine lv_aload_n hx hb dX0_addState_51 rfl (lv_at hl 0 rfl) ?_
    refine va_get (D := D) (ci := 0) (v := .int G_moves) (C := RX0) (T := TX0) (N := 11) hx hb hts hiX0 hown hK hP 0 rfl rfl 1 (by decide) hk4 (fun _ h9 => h9) rfl dX0_addState_52 ?_
    obtain ⟨hi_55, h⟩ := ox_i_of h
    refine va_iast hx hb hK hP hD hS 3 0 rfl rfl hi_55 dX0_addState_55 (fun H locs hP hD hS => ?_)
    have hP : va_P D vwCl [(kG ad (G_states + 1) G_moves G_ends_33), (kI cI (ad 8) 200 (upd G_asks G_states.toNatClampNeg a1)), (kZ cZ (ad 9) 200 (upd G_isEnd G_states.toNatClampNeg (vp_nar .boolean a2))), (kI cI (ad 15) 201 (upd G_start (G_states + 1).toNatClampNeg G_moves))] H := hP
    have hD : va_D A [(kG ad (G_states + 1) G_moves G_ends_33), (kI cI (ad 8) 200 (upd G_asks G_states.toNatClampNeg a1)), (kZ cZ (ad 9) 200 (upd G_isEnd G_states.toNatClampNeg (vp_nar .boolean a2))), (kI cI (ad 15) 201 (upd G_start (G_states + 1).toNatClampNeg G_moves))] := hD
    refine lv_iload_n hx hb dX0_addState_56 rfl (lv_at hl 1 rfl) ?_
    have h := Option.some.inj h
    subst h
    exact hend H locs _ ls hP hD hS dX0_addState_57 trivial
  refine lv_if_eq (tgt := 33) hx hb dX0_addState_20 (by decide) (fun c_20 => ?_) (fun c_20 => ?_)
  · have h := ox_t c_20 h
    exact hJ_33 G_ends H locs ls h hP hD hS (lv_sub hl [1, 0] rfl)
  · have h := ox_f c_20 h
    refine lv_aload_n hx hb dX0_addState_23 rfl (lv_at hl 1 rfl) ?_
    refine lv_dup hx hb dX0_addState_24 rfl ?_
    refine va_get (D := D) (ci := 0) (v := .int G_ends) (C := RX0) (T := TX0) (N := 11) hx hb hts hiX0 hown hK hP 0 rfl rfl 2 (by decide) hk5 (fun _ h9 => h9) rfl dX0_addState_25 ?_
    refine lv_iconst (v := 1) hx hb dX0_addState_28 (by decide) ?_
    refine lv_iadd hx hb dX0_addState_29 ?_
    refine va_put (D := D) (ci := 0) (v := .int (G_ends + 1)) (ty := .int) (C := RX0) (T := TX0) (N := 11) hx hb hts hiX0 tyX0 tyX0_ok nmX0 hown hK hP hD hS 0 rfl rfl 2 (by decide) hk5 (fun _ h9 => h9) rfl (by decide +kernel) rfl rfl (Nat.le_of_ble_eq_true rfl) dX0_addState_30 (fun H locs hP hD hS => ?_)
    have hP : va_P D vwCl [(kG ad G_states G_moves (G_ends + 1)), (kI cI (ad 8) 200 (upd G_asks G_states.toNatClampNeg a1)), (kZ cZ (ad 9) 200 (upd G_isEnd G_states.toNatClampNeg (vp_nar .boolean a2))), (kI cI (ad 15) 201 G_start)] H := hP
    have hD : va_D A [(kG ad G_states G_moves (G_ends + 1)), (kI cI (ad 8) 200 (upd G_asks G_states.toNatClampNeg a1)), (kZ cZ (ad 9) 200 (upd G_isEnd G_states.toNatClampNeg (vp_nar .boolean a2))), (kI cI (ad 15) 201 G_start)] := hD
    exact hJ_33 (G_ends + 1) H locs ls h hP hD hS (lv_sub hl [1, 0] rfl)
set_option maxHeartbeats 4000000 in
set_option maxRecDepth 100000 in
theorem c_X0_addMove (l : Launch) (D : va_G) (cI cZ : ClassId) (ad : Nat → Nat) (G_states : Int32) (G_moves : Int32) (G_ends : Int32) (G_able : Nat → Int32) (G_from : Nat → Int32) (G_to : Nat → Int32) (G_labelOf : Nat → Int32) (G_out : Nat → Int32) (G_start : Nat → Int32) (a1 : Int32) (a2 : Int32) (a3 : Int32) (res : Int32 × Int32 × (Nat → Int32) × (Nat → Int32) × (Nat → Int32) × (Nat → Int32) × (Nat → Int32) × (Nat → Int32)) (h : fn_X0_addMove G_states G_moves G_able G_from G_to G_labelOf G_out G_start a1 a2 a3 = some res) : mc_C l yX0_addMove wv_X0_addMove { frames := 0, cells := 0, slots := 0, locals := 0 } D [(cI, .int), (cZ, .boolean)] [.ref (ad 1), .int a1, .int a2, .int a3] [(kG ad G_states G_moves G_ends), (kI cI (ad 10) 200 G_able), (kI cI (ad 11) 600 G_from), (kI cI (ad 12) 600 G_to), (kI cI (ad 13) 600 G_labelOf), (kI cI (ad 14) 600 G_out), (kI cI (ad 15) 201 G_start)] (some (.int res.1)) [(kG ad G_states res.2.1 G_ends), (kI cI (ad 10) 200 res.2.2.1), (kI cI (ad 11) 600 res.2.2.2.1), (kI cI (ad 12) 600 res.2.2.2.2.1), (kI cI (ad 13) 600 res.2.2.2.2.2.1), (kI cI (ad 14) 600 res.2.2.2.2.2.2.1), (kI cI (ad 15) 201 res.2.2.2.2.2.2.2)] := by
  refine mc_ofi (own := RX0) (by decide) rfl rfl (Nat.le_of_ble_eq_true rfl) ?_
  intro p e s m below meth c A Q ls hx hb hml hown hts hK hP hD hA hl hend
  have hS : va_S A s.heap s.heap [] := va_S.rf
  have hl : lv_has ls 6 [(0, .ref (ad 1)), (1, .int a1), (2, .int a2), (3, .int a3)] := hl
  obtain ⟨H, hH⟩ : ∃ H, H = s.heap := ⟨_, rfl⟩
  obtain ⟨locs, hlo⟩ : ∃ locs : List Loc, locs = [] := ⟨_, rfl⟩
  have hS : va_S A s.heap H locs := by rw [hH, hlo]; exact hS
  have hP : va_P D vwCl [(kG ad G_states G_moves G_ends), (kI cI (ad 10) 200 G_able), (kI cI (ad 11) 600 G_from), (kI cI (ad 12) 600 G_to), (kI cI (ad 13) 600 G_labelOf), (kI cI (ad 14) 600 G_out), (kI cI (ad 15) 201 G_start)] H := by rw [hH]; exact hP
  suffices h9 : W p l e { frames := 0, cells := 0, slots := 0, locals := 0 } s m ([.ref (ad 1), .int a1, .int a2, .int a3] : List Value).toArray below meth c H locs 0 0 Q (F0 m 0 ls []) by rw [hH, hlo] at h9; exact h9
  clear hH hlo
  have hiX0 : ∀ w ∈ wsX00, w ∈ wv_X0_addMove := fun w h => List.mem_cons_of_mem _ (inlX0 w h)
  have hk0 := hts (.fieldLink RX0 44 "FairLoops$Graph" "moves" "I") (List.mem_cons_of_mem _ wk_115)
  have hk1 := hts (.fieldLink RX0 22 "FairLoops$Graph" "from" "[I") (List.mem_cons_of_mem _ wk_39)
  have hk2 := hts (.fieldLink RX0 25 "FairLoops$Graph" "to" "[I") (List.mem_cons_of_mem _ wk_40)
  have hk3 := hts (.fieldLink RX0 28 "FairLoops$Graph" "labelOf" "[I") (List.mem_cons_of_mem _ wk_41)
  have hk4 := hts (.fieldLink RX0 31 "FairLoops$Graph" "out" "[I") (List.mem_cons_of_mem _ wk_42)
  have hk5 := hts (.fieldLink RX0 34 "FairLoops$Graph" "start" "[I") (List.mem_cons_of_mem _ wk_43)
  have hk6 := hts (.fieldLink RX0 37 "FairLoops$Graph" "states" "I") (List.mem_cons_of_mem _ wk_113)
  have hk7 := hts (.fieldLink RX0 19 "FairLoops$Graph" "able" "[I") (List.mem_cons_of_mem _ wk_38)
  refine lv_aload_n hx hb dX0_addMove_0 rfl (lv_at hl 0 rfl) ?_
  refine va_get (D := D) (ci := 0) (v := .int G_moves) (C := RX0) (T := TX0) (N := 11) hx hb hts hiX0 hown hK hP 0 rfl rfl 1 (by decide) hk0 (fun _ h9 => h9) rfl dX0_addMove_1 ?_
  refine lv_istore (lv' := [(4, .int G_moves), (0, .ref (ad 1)), (1, .int a1), (2, .int a2), (3, .int a3)]) hx hb dX0_addMove_4 hl (by decide) rfl (fun ls hl => ?_)
  refine lv_aload_n hx hb dX0_addMove_6 rfl (lv_at hl 1 rfl) ?_
  refine va_get (D := D) (ci := 0) (v := .ref (ad 11)) (C := RX0) (T := TX0) (N := 11) hx hb hts hiX0 hown hK hP 0 rfl rfl 6 (by decide) hk1 (fun _ h9 => h9) rfl dX0_addMove_7 ?_
  refine lv_iload hx hb dX0_addMove_10 (lv_at hl 0 rfl) ?_
  refine lv_iload_n hx hb dX0_addMove_12 rfl (lv_at hl 2 rfl) ?_
  obtain ⟨hi_13, h⟩ := ox_i_of h
  refine va_iast hx hb hK hP hD hS 2 0 rfl rfl hi_13 dX0_addMove_13 (fun H locs hP hD hS => ?_)
  have hP : va_P D vwCl [(kG ad G_states G_moves G_ends), (kI cI (ad 10) 200 G_able), (kI cI (ad 11) 600 (upd G_from G_moves.toNatClampNeg a1)), (kI cI (ad 12) 600 G_to), (kI cI (ad 13) 600 G_labelOf), (kI cI (ad 14) 600 G_out), (kI cI (ad 15) 201 G_start)] H := hP
  have hD : va_D A [(kG ad G_states G_moves G_ends), (kI cI (ad 10) 200 G_able), (kI cI (ad 11) 600 (upd G_from G_moves.toNatClampNeg a1)), (kI cI (ad 12) 600 G_to), (kI cI (ad 13) 600 G_labelOf), (kI cI (ad 14) 600 G_out), (kI cI (ad 15) 201 G_start)] := hD
  refine lv_aload_n hx hb dX0_addMove_14 rfl (lv_at hl 1 rfl) ?_
  refine va_get (D := D) (ci := 0) (v := .ref (ad 12)) (C := RX0) (T := TX0) (N := 11) hx hb hts hiX0 hown hK hP 0 rfl rfl 7 (by decide) hk2 (fun _ h9 => h9) rfl dX0_addMove_15 ?_
  refine lv_iload hx hb dX0_addMove_18 (lv_at hl 0 rfl) ?_
  refine lv_iload_n hx hb dX0_addMove_20 rfl (lv_at hl 3 rfl) ?_
  obtain ⟨hi_21, h⟩ := ox_i_of h
  refine va_iast hx hb hK hP hD hS 3 0 rfl rfl hi_21 dX0_addMove_21 (fun H locs hP hD hS => ?_)
  have hP : va_P D vwCl [(kG ad G_states G_moves G_ends), (kI cI (ad 10) 200 G_able), (kI cI (ad 11) 600 (upd G_from G_moves.toNatClampNeg a1)), (kI cI (ad 12) 600 (upd G_to G_moves.toNatClampNeg a2)), (kI cI (ad 13) 600 G_labelOf), (kI cI (ad 14) 600 G_out), (kI cI (ad 15) 201 G_start)] H := hP
  have hD : va_D A [(kG ad G_states G_moves G_ends), (kI cI (ad 10) 200 G_able), (kI cI (ad 11) 600 (upd G_from G_moves.toNatClampNeg a1)), (kI cI (ad 12) 600 (upd G_to G_moves.toNatClampNeg a2)), (kI cI (ad 13) 600 G_labelOf), (kI cI (ad 14) 600 G_out), (kI cI (ad 15) 201 G_start)] := hD
  refine lv_aload_n hx hb dX0_addMove_22 rfl (lv_at hl 1 rfl) ?_
  refine va_get (D := D) (ci := 0) (v := .ref (ad 13)) (C := RX0) (T := TX0) (N := 11) hx hb hts hiX0 hown hK hP 0 rfl rfl 8 (by decide) hk3 (fun _ h9 => h9) rfl dX0_addMove_23 ?_
  refine lv_iload hx hb dX0_addMove_26 (lv_at hl 0 rfl) ?_
  refine lv_iload_n hx hb dX0_addMove_28 rfl (lv_at hl 4 rfl) ?_
  obtain ⟨hi_29, h⟩ := ox_i_of h
  refine va_iast hx hb hK hP hD hS 4 0 rfl rfl hi_29 dX0_addMove_29 (fun H locs hP hD hS => ?_)
  have hP : va_P D vwCl [(kG ad G_states G_moves G_ends), (kI cI (ad 10) 200 G_able), (kI cI (ad 11) 600 (upd G_from G_moves.toNatClampNeg a1)), (kI cI (ad 12) 600 (upd G_to G_moves.toNatClampNeg a2)), (kI cI (ad 13) 600 (upd G_labelOf G_moves.toNatClampNeg a3)), (kI cI (ad 14) 600 G_out), (kI cI (ad 15) 201 G_start)] H := hP
  have hD : va_D A [(kG ad G_states G_moves G_ends), (kI cI (ad 10) 200 G_able), (kI cI (ad 11) 600 (upd G_from G_moves.toNatClampNeg a1)), (kI cI (ad 12) 600 (upd G_to G_moves.toNatClampNeg a2)), (kI cI (ad 13) 600 (upd G_labelOf G_moves.toNatClampNeg a3)), (kI cI (ad 14) 600 G_out), (kI cI (ad 15) 201 G_start)] := hD
  refine lv_iload_n hx hb dX0_addMove_30 rfl (lv_at hl 4 rfl) ?_
  refine lv_iconst (v := (-1)) hx hb dX0_addMove_31 (by decide) ?_
  have hJ_47 : ∀ (G_able_47 : Nat → Int32) (H : Heap) (locs : List Loc) (ls : Array Slot), fn_X0_addMove_j47 a1 G_start G_moves G_out G_states G_from G_to a2 G_labelOf a3 G_able_47 = some res → va_P D vwCl [(kG ad G_states G_moves G_ends), (kI cI (ad 10) 200 G_able_47), (kI cI (ad 11) 600 (upd G_from G_moves.toNatClampNeg a1)), (kI cI (ad 12) 600 (upd G_to G_moves.toNatClampNeg a2)), (kI cI (ad 13) 600 (upd G_labelOf G_moves.toNatClampNeg a3)), (kI cI (ad 14) 600 G_out), (kI cI (ad 15) 201 G_start)] H → va_D A [(kG ad G_states G_moves G_ends), (kI cI (ad 10) 200 G_able_47), (kI cI (ad 11) 600 (upd G_from G_moves.toNatClampNeg a1)), (kI cI (ad 12) 600 (upd G_to G_moves.toNatClampNeg a2)), (kI cI (ad 13) 600 (upd G_labelOf G_moves.toNatClampNeg a3)), (kI cI (ad 14) 600 G_out), (kI cI (ad 15) 201 G_start)] → va_S A s.heap H locs → lv_has ls 6 [(0, .ref (ad 1)), (1, .int a1), (4, .int G_moves)] → W p l e { frames := 0, cells := 0, slots := 0, locals := 0 } s m ([.ref (ad 1), .int a1, .int a2, .int a3] : List Value).toArray below meth c H locs 0 0 Q (F0 m 47 ls []) := by
    intro G_able_47 H locs ls h hP hD hS hl
    refine lv_iload hx hb dX0_addMove_47 (lv_at hl 2 rfl) ?_
    refine lv_istore (lv' := [(5, .int G_moves), (0, .ref (ad 1)), (1, .int a1), (4, .int G_moves)]) hx hb dX0_addMove_49 hl (by decide) rfl (fun ls hl => ?_)
    obtain ⟨ex_51, hex_51, h_51⟩ := ox_b_of h
    have hX_51 : ∀ (v5_51 : Int32) (G_out_51 : Nat → Int32) (H : Heap) (locs : List Loc) (ls : Array Slot), (v5_51, G_out_51) = ex_51 → va_P D vwCl [(kG ad G_states G_moves G_ends), (kI cI (ad 10) 200 G_able_47), (kI cI (ad 11) 600 (upd G_from G_moves.toNatClampNeg a1)), (kI cI (ad 12) 600 (upd G_to G_moves.toNatClampNeg a2)), (kI cI (ad 13) 600 (upd G_labelOf G_moves.toNatClampNeg a3)), (kI cI (ad 14) 600 G_out_51), (kI cI (ad 15) 201 G_start)] H → va_D A [(kG ad G_states G_moves G_ends), (kI cI (ad 10) 200 G_able_47), (kI cI (ad 11) 600 (upd G_from G_moves.toNatClampNeg a1)), (kI cI (ad 12) 600 (upd G_to G_moves.toNatClampNeg a2)), (kI cI (ad 13) 600 (upd G_labelOf G_moves.toNatClampNeg a3)), (kI cI (ad 14) 600 G_out_51), (kI cI (ad 15) 201 G_start)] → va_S A s.heap H locs → lv_has ls 6 [(0, .ref (ad 1)), (1, .int a1), (4, .int G_moves)] → W p l e { frames := 0, cells := 0, slots := 0, locals := 0 } s m ([.ref (ad 1), .int a1, .int a2, .int a3] : List Value).toArray below meth c H locs 0 0 Q (F0 m 86 ls []) := by
      intro v5_51 G_out_51 H locs ls hex_51 hP hD hS hl
      subst hex_51
      have h := h_51
      refine lv_aload_n hx hb dX0_addMove_86 rfl (lv_at hl 0 rfl) ?_
      refine va_get (D := D) (ci := 0) (v := .ref (ad 14)) (C := RX0) (T := TX0) (N := 11) hx hb hts hiX0 hown hK hP 0 rfl rfl 9 (by decide) hk4 (fun _ h9 => h9) rfl dX0_addMove_87 ?_
      refine lv_aload_n hx hb dX0_addMove_90 rfl (lv_at hl 0 rfl) ?_
      refine va_get (D := D) (ci := 0) (v := .ref (ad 15)) (C := RX0) (T := TX0) (N := 11) hx hb hts hiX0 hown hK hP 0 rfl rfl 10 (by decide) hk5 (fun _ h9 => h9) rfl dX0_addMove_91 ?_
      refine lv_iload_n hx hb dX0_addMove_94 rfl (lv_at hl 1 rfl) ?_
      refine lv_iconst (v := 1) hx hb dX0_addMove_95 (by decide) ?_
      refine lv_iadd hx hb dX0_addMove_96 ?_
      obtain ⟨hi_97, h⟩ := ox_i_of h
      refine va_iald hx hb hK hP 6 0 rfl rfl hi_97 dX0_addMove_97 ?_
      refine lv_iload hx hb dX0_addMove_98 (lv_at hl 2 rfl) ?_
      obtain ⟨hi_100, h⟩ := ox_i_of h
      refine va_iast hx hb hK hP hD hS 5 0 rfl rfl hi_100 dX0_addMove_100 (fun H locs hP hD hS => ?_)
      have hP : va_P D vwCl [(kG ad G_states G_moves G_ends), (kI cI (ad 10) 200 G_able_47), (kI cI (ad 11) 600 (upd G_from G_moves.toNatClampNeg a1)), (kI cI (ad 12) 600 (upd G_to G_moves.toNatClampNeg a2)), (kI cI (ad 13) 600 (upd G_labelOf G_moves.toNatClampNeg a3)), (kI cI (ad 14) 600 (upd G_out_51 (G_start (a1 + 1).toNatClampNeg).toNatClampNeg G_moves)), (kI cI (ad 15) 201 G_start)] H := hP
      have hD : va_D A [(kG ad G_states G_moves G_ends), (kI cI (ad 10) 200 G_able_47), (kI cI (ad 11) 600 (upd G_from G_moves.toNatClampNeg a1)), (kI cI (ad 12) 600 (upd G_to G_moves.toNatClampNeg a2)), (kI cI (ad 13) 600 (upd G_labelOf G_moves.toNatClampNeg a3)), (kI cI (ad 14) 600 (upd G_out_51 (G_start (a1 + 1).toNatClampNeg).toNatClampNeg G_moves)), (kI cI (ad 15) 201 G_start)] := hD
      refine lv_iload_n hx hb dX0_addMove_101 rfl (lv_at hl 1 rfl) ?_
      refine lv_iconst (v := 1) hx hb dX0_addMove_102 (by decide) ?_
      refine lv_iadd hx hb dX0_addMove_103 ?_
      refine lv_istore (lv' := [(5, .int (a1 + 1)), (0, .ref (ad 1)), (1, .int a1), (4, .int G_moves)]) hx hb dX0_addMove_104 hl (by decide) rfl (fun ls hl => ?_)
      obtain ⟨ex_106, hex_106, h_106⟩ := ox_b_of h
      have hX_106 : ∀ (v5_106 : Int32) (G_start_106 : Nat → Int32) (H : Heap) (locs : List Loc) (ls : Array Slot), (v5_106, G_start_106) = ex_106 → va_P D vwCl [(kG ad G_states G_moves G_ends), (kI cI (ad 10) 200 G_able_47), (kI cI (ad 11) 600 (upd G_from G_moves.toNatClampNeg a1)), (kI cI (ad 12) 600 (upd G_to G_moves.toNatClampNeg a2)), (kI cI (ad 13) 600 (upd G_labelOf G_moves.toNatClampNeg a3)), (kI cI (ad 14) 600 (upd G_out_51 (G_start (a1 + 1).toNatClampNeg).toNatClampNeg G_moves)), (kI cI (ad 15) 201 G_start_106)] H → va_D A [(kG ad G_states G_moves G_ends), (kI cI (ad 10) 200 G_able_47), (kI cI (ad 11) 600 (upd G_from G_moves.toNatClampNeg a1)), (kI cI (ad 12) 600 (upd G_to G_moves.toNatClampNeg a2)), (kI cI (ad 13) 600 (upd G_labelOf G_moves.toNatClampNeg a3)), (kI cI (ad 14) 600 (upd G_out_51 (G_start (a1 + 1).toNatClampNeg).toNatClampNeg G_moves)), (kI cI (ad 15) 201 G_start_106)] → va_S A s.heap H locs → lv_has ls 6 [(0, .ref (ad 1)), (4, .int G_moves)] → W p l e { frames := 0, cells := 0, slots := 0, locals := 0 } s m ([.ref (ad 1), .int a1, .int a2, .int a3] : List Value).toArray below meth c H locs 0 0 Q (F0 m 132 ls []) := by
        intro v5_106 G_start_106 H locs ls hex_106 hP hD hS hl
        subst hex_106
        have h := h_106
        refine lv_aload_n hx hb dX0_addMove_132 rfl (lv_at hl 0 rfl) ?_
        refine lv_dup hx hb dX0_addMove_133 rfl ?_
        refine va_get (D := D) (ci := 0) (v := .int G_moves) (C := RX0) (T := TX0) (N := 11) hx hb hts hiX0 hown hK hP 0 rfl rfl 1 (by decide) hk0 (fun _ h9 => h9) rfl dX0_addMove_134 ?_
        refine lv_iconst (v := 1) hx hb dX0_addMove_137 (by decide) ?_
        refine lv_iadd hx hb dX0_addMove_138 ?_
        refine va_put (D := D) (ci := 0) (v := .int (G_moves + 1)) (ty := .int) (C := RX0) (T := TX0) (N := 11) hx hb hts hiX0 tyX0 tyX0_ok nmX0 hown hK hP hD hS 0 rfl rfl 1 (by decide) hk0 (fun _ h9 => h9) rfl (by decide +kernel) rfl rfl (Nat.le_of_ble_eq_true rfl) dX0_addMove_139 (fun H locs hP hD hS => ?_)
        have hP : va_P D vwCl [(kG ad G_states (G_moves + 1) G_ends), (kI cI (ad 10) 200 G_able_47), (kI cI (ad 11) 600 (upd G_from G_moves.toNatClampNeg a1)), (kI cI (ad 12) 600 (upd G_to G_moves.toNatClampNeg a2)), (kI cI (ad 13) 600 (upd G_labelOf G_moves.toNatClampNeg a3)), (kI cI (ad 14) 600 (upd G_out_51 (G_start (a1 + 1).toNatClampNeg).toNatClampNeg G_moves)), (kI cI (ad 15) 201 G_start_106)] H := hP
        have hD : va_D A [(kG ad G_states (G_moves + 1) G_ends), (kI cI (ad 10) 200 G_able_47), (kI cI (ad 11) 600 (upd G_from G_moves.toNatClampNeg a1)), (kI cI (ad 12) 600 (upd G_to G_moves.toNatClampNeg a2)), (kI cI (ad 13) 600 (upd G_labelOf G_moves.toNatClampNeg a3)), (kI cI (ad 14) 600 (upd G_out_51 (G_start (a1 + 1).toNatClampNeg).toNatClampNeg G_moves)), (kI cI (ad 15) 201 G_start_106)] := hD
        refine lv_iload hx hb dX0_addMove_142 (lv_at hl 1 rfl) ?_
        have h := Option.some.inj h
        subst h
        exact hend H locs _ ls hP hD hS dX0_addMove_144 trivial
      have hL_106 : ∀ (n : Nat) (v5_106 : Int32) (G_start_106 : Nat → Int32) (H : Heap) (locs : List Loc) (ls : Array Slot), ox_l (fn_X0_addMove_l106 G_states) n (v5_106, G_start_106) = some ex_106 → va_P D vwCl [(kG ad G_states G_moves G_ends), (kI cI (ad 10) 200 G_able_47), (kI cI (ad 11) 600 (upd G_from G_moves.toNatClampNeg a1)), (kI cI (ad 12) 600 (upd G_to G_moves.toNatClampNeg a2)), (kI cI (ad 13) 600 (upd G_labelOf G_moves.toNatClampNeg a3)), (kI cI (ad 14) 600 (upd G_out_51 (G_start (a1 + 1).toNatClampNeg).toNatClampNeg G_moves)), (kI cI (ad 15) 201 G_start_106)] H → va_D A [(kG ad G_states G_moves G_ends), (kI cI (ad 10) 200 G_able_47), (kI cI (ad 11) 600 (upd G_from G_moves.toNatClampNeg a1)), (kI cI (ad 12) 600 (upd G_to G_moves.toNatClampNeg a2)), (kI cI (ad 13) 600 (upd G_labelOf G_moves.toNatClampNeg a3)), (kI cI (ad 14) 600 (upd G_out_51 (G_start (a1 + 1).toNatClampNeg).toNatClampNeg G_moves)), (kI cI (ad 15) 201 G_start_106)] → va_S A s.heap H locs → lv_has ls 6 [(0, .ref (ad 1)), (4, .int G_moves), (5, .int v5_106)] → W p l e { frames := 0, cells := 0, slots := 0, locals := 0 } s m ([.ref (ad 1), .int a1, .int a2, .int a3] : List Value).toArray below meth c H locs 0 0 Q (F0 m 106 ls []) := by
        intro n
        induction n with
        | zero => intro v5_106 G_start_106 H locs ls hlp; exact ox_l_0 hlp
        | succ n ih_106 =>
          intro v5_106 G_start_106 H locs ls hlp_106 hP hD hS hl
          obtain ⟨z_106, h, hlp_106⟩ := ox_l_of hlp_106
          refine lv_iload hx hb dX0_addMove_106 (lv_at hl 2 rfl) ?_
          refine lv_aload_n hx hb dX0_addMove_108 rfl (lv_at hl 0 rfl) ?_
          refine va_get (D := D) (ci := 0) (v := .int G_states) (C := RX0) (T := TX0) (N := 11) hx hb hts hiX0 hown hK hP 0 rfl rfl 0 (by decide) hk6 (fun _ h9 => h9) rfl dX0_addMove_109 ?_
          refine lv_icmp_gt (tgt := 132) hx hb dX0_addMove_112 (by decide) (fun c_112 => ?_) (fun c_112 => ?_)
          · have h := ox_t c_112 h
            obtain rfl := Option.some.inj h
            exact hX_106 v5_106 G_start_106 H locs ls hlp_106 hP hD hS (lv_sub hl [0, 1] rfl)
          · have h := ox_f c_112 h
            refine lv_aload_n hx hb dX0_addMove_115 rfl (lv_at hl 0 rfl) ?_
            refine va_get (D := D) (ci := 0) (v := .ref (ad 15)) (C := RX0) (T := TX0) (N := 11) hx hb hts hiX0 hown hK hP 0 rfl rfl 10 (by decide) hk5 (fun _ h9 => h9) rfl dX0_addMove_116 ?_
            refine lv_iload hx hb dX0_addMove_119 (lv_at hl 2 rfl) ?_
            refine lv_dup2_11 hx hb dX0_addMove_121 rfl rfl ?_
            obtain ⟨hi_122, h⟩ := ox_i_of h
            refine va_iald hx hb hK hP 6 0 rfl rfl hi_122 dX0_addMove_122 ?_
            refine lv_iconst (v := 1) hx hb dX0_addMove_123 (by decide) ?_
            refine lv_iadd hx hb dX0_addMove_124 ?_
            obtain ⟨hi_125, h⟩ := ox_i_of h
            refine va_iast hx hb hK hP hD hS 6 0 rfl rfl hi_125 dX0_addMove_125 (fun H locs hP hD hS => ?_)
            have hP : va_P D vwCl [(kG ad G_states G_moves G_ends), (kI cI (ad 10) 200 G_able_47), (kI cI (ad 11) 600 (upd G_from G_moves.toNatClampNeg a1)), (kI cI (ad 12) 600 (upd G_to G_moves.toNatClampNeg a2)), (kI cI (ad 13) 600 (upd G_labelOf G_moves.toNatClampNeg a3)), (kI cI (ad 14) 600 (upd G_out_51 (G_start (a1 + 1).toNatClampNeg).toNatClampNeg G_moves)), (kI cI (ad 15) 201 (upd G_start_106 v5_106.toNatClampNeg ((G_start_106 v5_106.toNatClampNeg) + 1)))] H := hP
            have hD : va_D A [(kG ad G_states G_moves G_ends), (kI cI (ad 10) 200 G_able_47), (kI cI (ad 11) 600 (upd G_from G_moves.toNatClampNeg a1)), (kI cI (ad 12) 600 (upd G_to G_moves.toNatClampNeg a2)), (kI cI (ad 13) 600 (upd G_labelOf G_moves.toNatClampNeg a3)), (kI cI (ad 14) 600 (upd G_out_51 (G_start (a1 + 1).toNatClampNeg).toNatClampNeg G_moves)), (kI cI (ad 15) 201 (upd G_start_106 v5_106.toNatClampNeg ((G_start_106 v5_106.toNatClampNeg) + 1)))] := hD
            refine lv_iinc (v := v5_106 + 1) (lv' := [(5, .int (v5_106 + 1)), (0, .ref (ad 1)), (4, .int G_moves)]) hx hb dX0_addMove_126 hl (k := 2) rfl rfl (by decide) rfl (fun ls hl => ?_)
            refine lv_goto (tgt := 106) hx hb dX0_addMove_129 (by decide) ?_
            obtain rfl := Option.some.inj h
            exact ih_106 (v5_106 + 1) (upd G_start_106 v5_106.toNatClampNeg ((G_start_106 v5_106.toNatClampNeg) + 1)) H locs ls hlp_106 hP hD hS (lv_sub hl [1, 2, 0] rfl)
      exact hL_106 1000000 (a1 + 1) G_start H locs ls hex_106 hP hD hS (lv_sub hl [1, 3, 0] rfl)
    have hL_51 : ∀ (n : Nat) (v5_51 : Int32) (G_out_51 : Nat → Int32) (H : Heap) (locs : List Loc) (ls : Array Slot), ox_l (fn_X0_addMove_l51 a1 G_start) n (v5_51, G_out_51) = some ex_51 → va_P D vwCl [(kG ad G_states G_moves G_ends), (kI cI (ad 10) 200 G_able_47), (kI cI (ad 11) 600 (upd G_from G_moves.toNatClampNeg a1)), (kI cI (ad 12) 600 (upd G_to G_moves.toNatClampNeg a2)), (kI cI (ad 13) 600 (upd G_labelOf G_moves.toNatClampNeg a3)), (kI cI (ad 14) 600 G_out_51), (kI cI (ad 15) 201 G_start)] H → va_D A [(kG ad G_states G_moves G_ends), (kI cI (ad 10) 200 G_able_47), (kI cI (ad 11) 600 (upd G_from G_moves.toNatClampNeg a1)), (kI cI (ad 12) 600 (upd G_to G_moves.toNatClampNeg a2)), (kI cI (ad 13) 600 (upd G_labelOf G_moves.toNatClampNeg a3)), (kI cI (ad 14) 600 G_out_51), (kI cI (ad 15) 201 G_start)] → va_S A s.heap H locs → lv_has ls 6 [(0, .ref (ad 1)), (1, .int a1), (4, .int G_moves), (5, .int v5_51)] → W p l e { frames := 0, cells := 0, slots := 0, locals := 0 } s m ([.ref (ad 1), .int a1, .int a2, .int a3] : List Value).toArray below meth c H locs 0 0 Q (F0 m 51 ls []) := by
      intro n
      induction n with
      | zero => intro v5_51 G_out_51 H locs ls hlp; exact ox_l_0 hlp
      | succ n ih_51 =>
        intro v5_51 G_out_51 H locs ls hlp_51 hP hD hS hl
        obtain ⟨z_51, h, hlp_51⟩ := ox_l_of hlp_51
        refine lv_iload hx hb dX0_addMove_51 (lv_at hl 3 rfl) ?_
        refine lv_aload_n hx hb dX0_addMove_53 rfl (lv_at hl 0 rfl) ?_
        refine va_get (D := D) (ci := 0) (v := .ref (ad 15)) (C := RX0) (T := TX0) (N := 11) hx hb hts hiX0 hown hK hP 0 rfl rfl 10 (by decide) hk5 (fun _ h9 => h9) rfl dX0_addMove_54 ?_
        refine lv_iload_n hx hb dX0_addMove_57 rfl (lv_at hl 1 rfl) ?_
        refine lv_iconst (v := 1) hx hb dX0_addMove_58 (by decide) ?_
        refine lv_iadd hx hb dX0_addMove_59 ?_
        obtain ⟨hi_60, h⟩ := ox_i_of h
        refine va_iald hx hb hK hP 6 0 rfl rfl hi_60 dX0_addMove_60 ?_
        refine lv_icmp_le (tgt := 86) hx hb dX0_addMove_61 (by decide) (fun c_61 => ?_) (fun c_61 => ?_)
        · have h := ox_t c_61 h
          obtain rfl := Option.some.inj h
          exact hX_51 v5_51 G_out_51 H locs ls hlp_51 hP hD hS (lv_sub hl [0, 1, 2] rfl)
        · have h := ox_f c_61 h
          refine lv_aload_n hx hb dX0_addMove_64 rfl (lv_at hl 0 rfl) ?_
          refine va_get (D := D) (ci := 0) (v := .ref (ad 14)) (C := RX0) (T := TX0) (N := 11) hx hb hts hiX0 hown hK hP 0 rfl rfl 9 (by decide) hk4 (fun _ h9 => h9) rfl dX0_addMove_65 ?_
          refine lv_iload hx hb dX0_addMove_68 (lv_at hl 3 rfl) ?_
          refine lv_aload_n hx hb dX0_addMove_70 rfl (lv_at hl 0 rfl) ?_
          refine va_get (D := D) (ci := 0) (v := .ref (ad 14)) (C := RX0) (T := TX0) (N := 11) hx hb hts hiX0 hown hK hP 0 rfl rfl 9 (by decide) hk4 (fun _ h9 => h9) rfl dX0_addMove_71 ?_
          refine lv_iload hx hb dX0_addMove_74 (lv_at hl 3 rfl) ?_
          refine lv_iconst (v := 1) hx hb dX0_addMove_76 (by decide) ?_
          refine lv_isub hx hb dX0_addMove_77 ?_
          obtain ⟨hi_78, h⟩ := ox_i_of h
          refine va_iald hx hb hK hP 5 0 rfl rfl hi_78 dX0_addMove_78 ?_
          obtain ⟨hi_79, h⟩ := ox_i_of h
          refine va_iast hx hb hK hP hD hS 5 0 rfl rfl hi_79 dX0_addMove_79 (fun H locs hP hD hS => ?_)
          have hP : va_P D vwCl [(kG ad G_states G_moves G_ends), (kI cI (ad 10) 200 G_able_47), (kI cI (ad 11) 600 (upd G_from G_moves.toNatClampNeg a1)), (kI cI (ad 12) 600 (upd G_to G_moves.toNatClampNeg a2)), (kI cI (ad 13) 600 (upd G_labelOf G_moves.toNatClampNeg a3)), (kI cI (ad 14) 600 (upd G_out_51 v5_51.toNatClampNeg (G_out_51 (v5_51 - 1).toNatClampNeg))), (kI cI (ad 15) 201 G_start)] H := hP
          have hD : va_D A [(kG ad G_states G_moves G_ends), (kI cI (ad 10) 200 G_able_47), (kI cI (ad 11) 600 (upd G_from G_moves.toNatClampNeg a1)), (kI cI (ad 12) 600 (upd G_to G_moves.toNatClampNeg a2)), (kI cI (ad 13) 600 (upd G_labelOf G_moves.toNatClampNeg a3)), (kI cI (ad 14) 600 (upd G_out_51 v5_51.toNatClampNeg (G_out_51 (v5_51 - 1).toNatClampNeg))), (kI cI (ad 15) 201 G_start)] := hD
          refine lv_iinc (v := v5_51 + (-1)) (lv' := [(5, .int (v5_51 + (-1))), (0, .ref (ad 1)), (1, .int a1), (4, .int G_moves)]) hx hb dX0_addMove_80 hl (k := 3) rfl rfl (by decide) rfl (fun ls hl => ?_)
          refine lv_goto (tgt := 51) hx hb dX0_addMove_83 (by decide) ?_
          obtain rfl := Option.some.inj h
          exact ih_51 (v5_51 + (-1)) (upd G_out_51 v5_51.toNatClampNeg (G_out_51 (v5_51 - 1).toNatClampNeg)) H locs ls hlp_51 hP hD hS (lv_sub hl [1, 2, 3, 0] rfl)
    exact hL_51 1000000 G_moves G_out H locs ls hex_51 hP hD hS (lv_sub hl [1, 2, 3, 0] rfl)
  refine lv_icmp_eq (tgt := 47) hx hb dX0_addMove_32 (by decide) (fun c_32 => ?_) (fun c_32 => ?_)
  · have h := ox_t c_32 h
    exact hJ_47 G_able H locs ls h hP hD hS (lv_sub hl [1, 2, 0] rfl)
  · have h := ox_f c_32 h
    refine lv_aload_n hx hb dX0_addMove_35 rfl (lv_at hl 1 rfl) ?_
    refine va_get (D := D) (ci := 0) (v := .ref (ad 10)) (C := RX0) (T := TX0) (N := 11) hx hb hts hiX0 hown hK hP 0 rfl rfl 5 (by decide) hk7 (fun _ h9 => h9) rfl dX0_addMove_36 ?_
    refine lv_iload_n hx hb dX0_addMove_39 rfl (lv_at hl 2 rfl) ?_
    refine lv_dup2_11 hx hb dX0_addMove_40 rfl rfl ?_
    obtain ⟨hi_41, h⟩ := ox_i_of h
    refine va_iald hx hb hK hP 1 0 rfl rfl hi_41 dX0_addMove_41 ?_
    refine lv_iconst (v := 1) hx hb dX0_addMove_42 (by decide) ?_
    refine lv_iload_n hx hb dX0_addMove_43 rfl (lv_at hl 4 rfl) ?_
    refine lv_ishl hx hb dX0_addMove_44 ?_
    refine lv_ior hx hb dX0_addMove_45 ?_
    obtain ⟨hi_46, h⟩ := ox_i_of h
    refine va_iast hx hb hK hP hD hS 1 0 rfl rfl hi_46 dX0_addMove_46 (fun H locs hP hD hS => ?_)
    have hP : va_P D vwCl [(kG ad G_states G_moves G_ends), (kI cI (ad 10) 200 (upd G_able a1.toNatClampNeg ((G_able a1.toNatClampNeg) ||| (1 <<< (a3 &&& 31))))), (kI cI (ad 11) 600 (upd G_from G_moves.toNatClampNeg a1)), (kI cI (ad 12) 600 (upd G_to G_moves.toNatClampNeg a2)), (kI cI (ad 13) 600 (upd G_labelOf G_moves.toNatClampNeg a3)), (kI cI (ad 14) 600 G_out), (kI cI (ad 15) 201 G_start)] H := hP
    have hD : va_D A [(kG ad G_states G_moves G_ends), (kI cI (ad 10) 200 (upd G_able a1.toNatClampNeg ((G_able a1.toNatClampNeg) ||| (1 <<< (a3 &&& 31))))), (kI cI (ad 11) 600 (upd G_from G_moves.toNatClampNeg a1)), (kI cI (ad 12) 600 (upd G_to G_moves.toNatClampNeg a2)), (kI cI (ad 13) 600 (upd G_labelOf G_moves.toNatClampNeg a3)), (kI cI (ad 14) 600 G_out), (kI cI (ad 15) 201 G_start)] := hD
    exact hJ_47 (upd G_able a1.toNatClampNeg ((G_able a1.toNatClampNeg) ||| (1 <<< (a3 &&& 31)))) H locs ls h hP hD hS (lv_sub hl [1, 2, 0] rfl)
set_option maxHeartbeats 4000000 in
set_option maxRecDepth 100000 in
theorem c_X2_join (l : Launch) (D : va_G) (cI cZ : ClassId) (ad : Nat → Nat) (R_found : Int32) (R_line : Nat → Int32) (R_far : Nat → Int32) (R_lastMove : Nat → Int32) (a1 : Int32) (a2 : Int32) (a3 : Int32) (res : Int32 × (Nat → Int32) × (Nat → Int32) × (Nat → Int32)) (h : fn_X2_join R_found R_line R_far R_lastMove a1 a2 a3 = some res) : mc_C l yX2_join wv_X2_join { frames := 0, cells := 0, slots := 0, locals := 0 } D [(cI, .int), (cZ, .boolean)] [.ref (ad 2), .int a1, .int a2, .int a3] [(kR ad R_found), (kI cI (ad 16) 200 R_line), (kI cI (ad 17) 200 R_far), (kI cI (ad 18) 200 R_lastMove)] (none) [(kR ad res.1), (kI cI (ad 16) 200 res.2.1), (kI cI (ad 17) 200 res.2.2.1), (kI cI (ad 18) 200 res.2.2.2)] := by
  refine mc_ofv (own := RX2) (by decide) rfl rfl (Nat.le_of_ble_eq_true rfl) ?_
  intro p e s m below meth c A Q ls hx hb hml hown hts hK hP hD hA hl hend
  have hS : va_S A s.heap s.heap [] := va_S.rf
  have hl : lv_has ls 4 [(0, .ref (ad 2)), (1, .int a1), (2, .int a2), (3, .int a3)] := hl
  obtain ⟨H, hH⟩ : ∃ H, H = s.heap := ⟨_, rfl⟩
  obtain ⟨locs, hlo⟩ : ∃ locs : List Loc, locs = [] := ⟨_, rfl⟩
  have hS : va_S A s.heap H locs := by rw [hH, hlo]; exact hS
  have hP : va_P D vwCl [(kR ad R_found), (kI cI (ad 16) 200 R_line), (kI cI (ad 17) 200 R_far), (kI cI (ad 18) 200 R_lastMove)] H := by rw [hH]; exact hP
  suffices h9 : W p l e { frames := 0, cells := 0, slots := 0, locals := 0 } s m ([.ref (ad 2), .int a1, .int a2, .int a3] : List Value).toArray below meth c H locs 0 0 Q (F0 m 0 ls []) by rw [hH, hlo] at h9; exact h9
  clear hH hlo
  have hiX2 : ∀ w ∈ wsX20, w ∈ wv_X2_join := fun w h => List.mem_cons_of_mem _ (inlX2 w h)
  have hk0 := hts (.fieldLink RX2 15 "FairLoops$Reach" "far" "[I") (List.mem_cons_of_mem _ wk_48)
  have hk1 := hts (.fieldLink RX2 18 "FairLoops$Reach" "lastMove" "[I") (List.mem_cons_of_mem _ wk_49)
  have hk2 := hts (.fieldLink RX2 9 "FairLoops$Reach" "line" "[I") (List.mem_cons_of_mem _ wk_47)
  have hk3 := hts (.fieldLink RX2 27 "FairLoops$Reach" "found" "I") (List.mem_cons_of_mem _ wk_183)
  refine lv_aload_n hx hb dX2_join_0 rfl (lv_at hl 0 rfl) ?_
  refine va_get (D := D) (ci := 2) (v := .ref (ad 17)) (C := RX2) (T := TX2) (N := 4) hx hb hts hiX2 hown hK hP 0 rfl rfl 2 (by decide) hk0 (fun _ h9 => h9) rfl dX2_join_1 ?_
  refine lv_iload_n hx hb dX2_join_4 rfl (lv_at hl 1 rfl) ?_
  refine lv_iload_n hx hb dX2_join_5 rfl (lv_at hl 2 rfl) ?_
  obtain ⟨hi_6, h⟩ := ox_i_of h
  refine va_iast hx hb hK hP hD hS 2 0 rfl rfl hi_6 dX2_join_6 (fun H locs hP hD hS => ?_)
  have hP : va_P D vwCl [(kR ad R_found), (kI cI (ad 16) 200 R_line), (kI cI (ad 17) 200 (upd R_far a1.toNatClampNeg a2)), (kI cI (ad 18) 200 R_lastMove)] H := hP
  have hD : va_D A [(kR ad R_found), (kI cI (ad 16) 200 R_line), (kI cI (ad 17) 200 (upd R_far a1.toNatClampNeg a2)), (kI cI (ad 18) 200 R_lastMove)] := hD
  refine lv_aload_n hx hb dX2_join_7 rfl (lv_at hl 0 rfl) ?_
  refine va_get (D := D) (ci := 2) (v := .ref (ad 18)) (C := RX2) (T := TX2) (N := 4) hx hb hts hiX2 hown hK hP 0 rfl rfl 3 (by decide) hk1 (fun _ h9 => h9) rfl dX2_join_8 ?_
  refine lv_iload_n hx hb dX2_join_11 rfl (lv_at hl 1 rfl) ?_
  refine lv_iload_n hx hb dX2_join_12 rfl (lv_at hl 3 rfl) ?_
  obtain ⟨hi_13, h⟩ := ox_i_of h
  refine va_iast hx hb hK hP hD hS 3 0 rfl rfl hi_13 dX2_join_13 (fun H locs hP hD hS => ?_)
  have hP : va_P D vwCl [(kR ad R_found), (kI cI (ad 16) 200 R_line), (kI cI (ad 17) 200 (upd R_far a1.toNatClampNeg a2)), (kI cI (ad 18) 200 (upd R_lastMove a1.toNatClampNeg a3))] H := hP
  have hD : va_D A [(kR ad R_found), (kI cI (ad 16) 200 R_line), (kI cI (ad 17) 200 (upd R_far a1.toNatClampNeg a2)), (kI cI (ad 18) 200 (upd R_lastMove a1.toNatClampNeg a3))] := hD
  refine lv_aload_n hx hb dX2_join_14 rfl (lv_at hl 0 rfl) ?_
  refine va_get (D := D) (ci := 2) (v := .ref (ad 16)) (C := RX2) (T := TX2) (N := 4) hx hb hts hiX2 hown hK hP 0 rfl rfl 1 (by decide) hk2 (fun _ h9 => h9) rfl dX2_join_15 ?_
  refine lv_aload_n hx hb dX2_join_18 rfl (lv_at hl 0 rfl) ?_
  refine va_get (D := D) (ci := 2) (v := .int R_found) (C := RX2) (T := TX2) (N := 4) hx hb hts hiX2 hown hK hP 0 rfl rfl 0 (by decide) hk3 (fun _ h9 => h9) rfl dX2_join_19 ?_
  refine lv_iload_n hx hb dX2_join_22 rfl (lv_at hl 1 rfl) ?_
  obtain ⟨hi_23, h⟩ := ox_i_of h
  refine va_iast hx hb hK hP hD hS 1 0 rfl rfl hi_23 dX2_join_23 (fun H locs hP hD hS => ?_)
  have hP : va_P D vwCl [(kR ad R_found), (kI cI (ad 16) 200 (upd R_line R_found.toNatClampNeg a1)), (kI cI (ad 17) 200 (upd R_far a1.toNatClampNeg a2)), (kI cI (ad 18) 200 (upd R_lastMove a1.toNatClampNeg a3))] H := hP
  have hD : va_D A [(kR ad R_found), (kI cI (ad 16) 200 (upd R_line R_found.toNatClampNeg a1)), (kI cI (ad 17) 200 (upd R_far a1.toNatClampNeg a2)), (kI cI (ad 18) 200 (upd R_lastMove a1.toNatClampNeg a3))] := hD
  refine lv_aload_n hx hb dX2_join_24 rfl (lv_at hl 0 rfl) ?_
  refine lv_dup hx hb dX2_join_25 rfl ?_
  refine va_get (D := D) (ci := 2) (v := .int R_found) (C := RX2) (T := TX2) (N := 4) hx hb hts hiX2 hown hK hP 0 rfl rfl 0 (by decide) hk3 (fun _ h9 => h9) rfl dX2_join_26 ?_
  refine lv_iconst (v := 1) hx hb dX2_join_29 (by decide) ?_
  refine lv_iadd hx hb dX2_join_30 ?_
  refine va_put (D := D) (ci := 2) (v := .int (R_found + 1)) (ty := .int) (C := RX2) (T := TX2) (N := 4) hx hb hts hiX2 tyX2 tyX2_ok nmX2 hown hK hP hD hS 0 rfl rfl 0 (by decide) hk3 (fun _ h9 => h9) rfl (by decide +kernel) rfl rfl (Nat.le_of_ble_eq_true rfl) dX2_join_31 (fun H locs hP hD hS => ?_)
  have hP : va_P D vwCl [(kR ad (R_found + 1)), (kI cI (ad 16) 200 (upd R_line R_found.toNatClampNeg a1)), (kI cI (ad 17) 200 (upd R_far a1.toNatClampNeg a2)), (kI cI (ad 18) 200 (upd R_lastMove a1.toNatClampNeg a3))] H := hP
  have hD : va_D A [(kR ad (R_found + 1)), (kI cI (ad 16) 200 (upd R_line R_found.toNatClampNeg a1)), (kI cI (ad 17) 200 (upd R_far a1.toNatClampNeg a2)), (kI cI (ad 18) 200 (upd R_lastMove a1.toNatClampNeg a3))] := hD
  have h := Option.some.inj h
  subst h
  exact hend H locs _ ls hP hD hS dX2_join_34 trivial
set_option maxHeartbeats 4000000 in
set_option maxRecDepth 100000 in
theorem c_X2_walk (l : Launch) (D : va_G) (cI cZ : ClassId) (ad : Nat → Nat) (G_states : Int32) (G_moves : Int32) (G_ends : Int32) (R_found : Int32) (G_to : Nat → Int32) (G_out : Nat → Int32) (G_start : Nat → Int32) (R_line : Nat → Int32) (R_far : Nat → Int32) (R_lastMove : Nat → Int32) (res : Int32 × (Nat → Int32) × (Nat → Int32) × (Nat → Int32)) (h : fn_X2_walk G_states R_found G_to G_out G_start R_line R_far R_lastMove = some res) : mc_C l yX2_walk wv_X2_walk { frames := 1, cells := 0, slots := 0, locals := 23 } D [(cI, .int), (cZ, .boolean)] [.ref (ad 2), .ref (ad 1)] [(kG ad G_states G_moves G_ends), (kR ad R_found), (kI cI (ad 12) 600 G_to), (kI cI (ad 14) 600 G_out), (kI cI (ad 15) 201 G_start), (kI cI (ad 16) 200 R_line), (kI cI (ad 17) 200 R_far), (kI cI (ad 18) 200 R_lastMove)] (none) [(kG ad G_states G_moves G_ends), (kR ad res.1), (kI cI (ad 12) 600 G_to), (kI cI (ad 14) 600 G_out), (kI cI (ad 15) 201 G_start), (kI cI (ad 16) 200 res.2.1), (kI cI (ad 17) 200 res.2.2.1), (kI cI (ad 18) 200 res.2.2.2)] := by
  refine mc_ofv (own := RX2) (by decide) rfl rfl (Nat.le_of_ble_eq_true rfl) ?_
  intro p e s m below meth c A Q ls hx hb hml hown hts hK hP hD hA hl hend
  have hS : va_S A s.heap s.heap [] := va_S.rf
  have hl : lv_has ls 6 [(0, .ref (ad 2)), (1, .ref (ad 1))] := hl
  obtain ⟨H, hH⟩ : ∃ H, H = s.heap := ⟨_, rfl⟩
  obtain ⟨locs, hlo⟩ : ∃ locs : List Loc, locs = [] := ⟨_, rfl⟩
  have hS : va_S A s.heap H locs := by rw [hH, hlo]; exact hS
  have hP : va_P D vwCl [(kG ad G_states G_moves G_ends), (kR ad R_found), (kI cI (ad 12) 600 G_to), (kI cI (ad 14) 600 G_out), (kI cI (ad 15) 201 G_start), (kI cI (ad 16) 200 R_line), (kI cI (ad 17) 200 R_far), (kI cI (ad 18) 200 R_lastMove)] H := by rw [hH]; exact hP
  suffices h9 : W p l e { frames := 1, cells := 0, slots := 0, locals := 23 } s m ([.ref (ad 2), .ref (ad 1)] : List Value).toArray below meth c H locs 0 0 Q (F0 m 0 ls []) by rw [hH, hlo] at h9; exact h9
  clear hH hlo
  have hiX0 : ∀ w ∈ wsX00, w ∈ wv_X2_walk := fun w h => List.mem_cons_of_mem _ (inlX0 w h)
  have hiX2 : ∀ w ∈ wsX20, w ∈ wv_X2_walk := fun w h => List.mem_cons_of_mem _ (inlX2 w h)
  have hk0 := hts (.fieldLink RX2 27 "FairLoops$Reach" "found" "I") (List.mem_cons_of_mem _ wk_183)
  have hk1 := hts (.fieldLink RX2 21 "FairLoops$Graph" "states" "I") (List.mem_cons_of_mem _ wk_182)
  have hk2 := hts (.fieldLink RX2 9 "FairLoops$Reach" "line" "[I") (List.mem_cons_of_mem _ wk_47)
  have hk3 := hts (.fieldLink RX2 34 "FairLoops$Graph" "start" "[I") (List.mem_cons_of_mem _ wk_184)
  have hk4 := hts (.fieldLink RX2 37 "FairLoops$Graph" "out" "[I") (List.mem_cons_of_mem _ wk_185)
  have hk5 := hts (.fieldLink RX2 15 "FairLoops$Reach" "far" "[I") (List.mem_cons_of_mem _ wk_48)
  have hk6 := hts (.fieldLink RX2 40 "FairLoops$Graph" "to" "[I") (List.mem_cons_of_mem _ wk_186)
  refine lv_iconst (v := 0) hx hb dX2_walk_0 (by decide) ?_
  refine lv_istore_n (lv' := [(2, .int 0), (0, .ref (ad 2)), (1, .ref (ad 1))]) hx hb dX2_walk_1 rfl hl (by decide) rfl (fun ls hl => ?_)
  obtain ⟨ex_2, hex_2, h_2⟩ := ox_b_of h
  have hX_2 : ∀ (v2_2 : Int32) (R_far_2 : Nat → Int32) (H : Heap) (locs : List Loc) (ls : Array Slot), (v2_2, R_far_2) = ex_2 → va_P D vwCl [(kG ad G_states G_moves G_ends), (kR ad R_found), (kI cI (ad 12) 600 G_to), (kI cI (ad 14) 600 G_out), (kI cI (ad 15) 201 G_start), (kI cI (ad 16) 200 R_line), (kI cI (ad 17) 200 R_far_2), (kI cI (ad 18) 200 R_lastMove)] H → va_D A [(kG ad G_states G_moves G_ends), (kR ad R_found), (kI cI (ad 12) 600 G_to), (kI cI (ad 14) 600 G_out), (kI cI (ad 15) 201 G_start), (kI cI (ad 16) 200 R_line), (kI cI (ad 17) 200 R_far_2), (kI cI (ad 18) 200 R_lastMove)] → va_S A s.heap H locs → lv_has ls 6 [(0, .ref (ad 2)), (1, .ref (ad 1))] → W p l e { frames := 1, cells := 0, slots := 0, locals := 23 } s m ([.ref (ad 2), .ref (ad 1)] : List Value).toArray below meth c H locs 0 0 Q (F0 m 23 ls []) := by
    intro v2_2 R_far_2 H locs ls hex_2 hP hD hS hl
    subst hex_2
    have h := h_2
    refine lv_aload_n hx hb dX2_walk_23 rfl (lv_at hl 0 rfl) ?_
    refine lv_iconst (v := 0) hx hb dX2_walk_24 (by decide) ?_
    refine va_put (D := D) (ci := 2) (v := .int 0) (ty := .int) (C := RX2) (T := TX2) (N := 4) hx hb hts hiX2 tyX2 tyX2_ok nmX2 hown hK hP hD hS 1 rfl rfl 0 (by decide) hk0 (fun _ h9 => h9) rfl (by decide +kernel) rfl rfl (Nat.le_of_ble_eq_true rfl) dX2_walk_25 (fun H locs hP hD hS => ?_)
    have hP : va_P D vwCl [(kG ad G_states G_moves G_ends), (kR ad 0), (kI cI (ad 12) 600 G_to), (kI cI (ad 14) 600 G_out), (kI cI (ad 15) 201 G_start), (kI cI (ad 16) 200 R_line), (kI cI (ad 17) 200 R_far_2), (kI cI (ad 18) 200 R_lastMove)] H := hP
    have hD : va_D A [(kG ad G_states G_moves G_ends), (kR ad 0), (kI cI (ad 12) 600 G_to), (kI cI (ad 14) 600 G_out), (kI cI (ad 15) 201 G_start), (kI cI (ad 16) 200 R_line), (kI cI (ad 17) 200 R_far_2), (kI cI (ad 18) 200 R_lastMove)] := hD
    refine lv_aload_n hx hb dX2_walk_28 rfl (lv_at hl 1 rfl) ?_
    refine va_get (D := D) (ci := 0) (v := .int G_states) (C := RX0) (T := TX0) (N := 11) hx hb hts hiX0 hown hK hP 0 rfl rfl 0 (by decide) hk1 (fun _ h9 => h9) rfl dX2_walk_29 ?_
    have hJ_42 : ∀ (R_found_42 : Int32) (R_line_42 : Nat → Int32) (R_far_42 : Nat → Int32) (R_lastMove_42 : Nat → Int32) (H : Heap) (locs : List Loc) (ls : Array Slot), fn_X2_walk_j42 G_states G_start G_out G_to (R_found_42, R_line_42, R_far_42, R_lastMove_42) = some res → va_P D vwCl [(kG ad G_states G_moves G_ends), (kR ad R_found_42), (kI cI (ad 12) 600 G_to), (kI cI (ad 14) 600 G_out), (kI cI (ad 15) 201 G_start), (kI cI (ad 16) 200 R_line_42), (kI cI (ad 17) 200 R_far_42), (kI cI (ad 18) 200 R_lastMove_42)] H → va_D A [(kG ad G_states G_moves G_ends), (kR ad R_found_42), (kI cI (ad 12) 600 G_to), (kI cI (ad 14) 600 G_out), (kI cI (ad 15) 201 G_start), (kI cI (ad 16) 200 R_line_42), (kI cI (ad 17) 200 R_far_42), (kI cI (ad 18) 200 R_lastMove_42)] → va_S A s.heap H locs → lv_has ls 6 [(0, .ref (ad 2)), (1, .ref (ad 1))] → W p l e { frames := 1, cells := 0, slots := 0, locals := 23 } s m ([.ref (ad 2), .ref (ad 1)] : List Value).toArray below meth c H locs 0 0 Q (F0 m 42 ls []) := by
      intro R_found_42 R_line_42 R_far_42 R_lastMove_42 H locs ls h hP hD hS hl
      refine lv_iconst (v := 0) hx hb dX2_walk_42 (by decide) ?_
      refine lv_istore_n (lv' := [(2, .int 0), (0, .ref (ad 2)), (1, .ref (ad 1))]) hx hb dX2_walk_43 rfl hl (by decide) rfl (fun ls hl => ?_)
      obtain ⟨ex_44, hex_44, h_44⟩ := ox_b_of h
      have hX_44 : ∀ (v2_44 : Int32) (R_found_44 : Int32) (R_line_44 : Nat → Int32) (R_far_44 : Nat → Int32) (R_lastMove_44 : Nat → Int32) (H : Heap) (locs : List Loc) (ls : Array Slot), (v2_44, R_found_44, R_line_44, R_far_44, R_lastMove_44) = ex_44 → va_P D vwCl [(kG ad G_states G_moves G_ends), (kR ad R_found_44), (kI cI (ad 12) 600 G_to), (kI cI (ad 14) 600 G_out), (kI cI (ad 15) 201 G_start), (kI cI (ad 16) 200 R_line_44), (kI cI (ad 17) 200 R_far_44), (kI cI (ad 18) 200 R_lastMove_44)] H → va_D A [(kG ad G_states G_moves G_ends), (kR ad R_found_44), (kI cI (ad 12) 600 G_to), (kI cI (ad 14) 600 G_out), (kI cI (ad 15) 201 G_start), (kI cI (ad 16) 200 R_line_44), (kI cI (ad 17) 200 R_far_44), (kI cI (ad 18) 200 R_lastMove_44)] → va_S A s.heap H locs → lv_has ls 6 [] → W p l e { frames := 1, cells := 0, slots := 0, locals := 23 } s m ([.ref (ad 2), .ref (ad 1)] : List Value).toArray below meth c H locs 0 0 Q (F0 m 146 ls []) := by
        intro v2_44 R_found_44 R_line_44 R_far_44 R_lastMove_44 H locs ls hex_44 hP hD hS hl
        subst hex_44
        have h := h_44
        have h := Option.some.inj h
        subst h
        exact hend H locs _ ls hP hD hS dX2_walk_146 trivial
      have hL_44 : ∀ (n : Nat) (v2_44 : Int32) (R_found_44 : Int32) (R_line_44 : Nat → Int32) (R_far_44 : Nat → Int32) (R_lastMove_44 : Nat → Int32) (H : Heap) (locs : List Loc) (ls : Array Slot), ox_l (fn_X2_walk_l44 G_states G_start G_out G_to) n (v2_44, R_found_44, R_line_44, R_far_44, R_lastMove_44) = some ex_44 → va_P D vwCl [(kG ad G_states G_moves G_ends), (kR ad R_found_44), (kI cI (ad 12) 600 G_to), (kI cI (ad 14) 600 G_out), (kI cI (ad 15) 201 G_start), (kI cI (ad 16) 200 R_line_44), (kI cI (ad 17) 200 R_far_44), (kI cI (ad 18) 200 R_lastMove_44)] H → va_D A [(kG ad G_states G_moves G_ends), (kR ad R_found_44), (kI cI (ad 12) 600 G_to), (kI cI (ad 14) 600 G_out), (kI cI (ad 15) 201 G_start), (kI cI (ad 16) 200 R_line_44), (kI cI (ad 17) 200 R_far_44), (kI cI (ad 18) 200 R_lastMove_44)] → va_S A s.heap H locs → lv_has ls 6 [(0, .ref (ad 2)), (1, .ref (ad 1)), (2, .int v2_44)] → W p l e { frames := 1, cells := 0, slots := 0, locals := 23 } s m ([.ref (ad 2), .ref (ad 1)] : List Value).toArray below meth c H locs 0 0 Q (F0 m 44 ls []) := by
        intro n
        induction n with
        | zero => intro v2_44 R_found_44 R_line_44 R_far_44 R_lastMove_44 H locs ls hlp; exact ox_l_0 hlp
        | succ n ih_44 =>
          intro v2_44 R_found_44 R_line_44 R_far_44 R_lastMove_44 H locs ls hlp_44 hP hD hS hl
          obtain ⟨z_44, h, hlp_44⟩ := ox_l_of hlp_44
          refine lv_iload_n hx hb dX2_walk_44 rfl (lv_at hl 2 rfl) ?_
          refine lv_aload_n hx hb dX2_walk_45 rfl (lv_at hl 1 rfl) ?_
          refine va_get (D := D) (ci := 0) (v := .int G_states) (C := RX0) (T := TX0) (N := 11) hx hb hts hiX0 hown hK hP 0 rfl rfl 0 (by decide) hk1 (fun _ h9 => h9) rfl dX2_walk_46 ?_
          refine lv_icmp_ge (tgt := 146) hx hb dX2_walk_49 (by decide) (fun c_49 => ?_) (fun c_49 => ?_)
          · have h := ox_t c_49 h
            obtain rfl := Option.some.inj h
            exact hX_44 v2_44 R_found_44 R_line_44 R_far_44 R_lastMove_44 H locs ls hlp_44 hP hD hS (lv_sub hl [] rfl)
          · have h := ox_f c_49 h
            refine lv_iload_n hx hb dX2_walk_52 rfl (lv_at hl 2 rfl) ?_
            refine lv_aload_n hx hb dX2_walk_53 rfl (lv_at hl 0 rfl) ?_
            refine va_get (D := D) (ci := 2) (v := .int R_found_44) (C := RX2) (T := TX2) (N := 4) hx hb hts hiX2 hown hK hP 1 rfl rfl 0 (by decide) hk0 (fun _ h9 => h9) rfl dX2_walk_54 ?_
            refine lv_icmp_ge (tgt := 146) hx hb dX2_walk_57 (by decide) (fun c_57 => ?_) (fun c_57 => ?_)
            · have h := ox_t c_57 h
              obtain rfl := Option.some.inj h
              exact hX_44 v2_44 R_found_44 R_line_44 R_far_44 R_lastMove_44 H locs ls hlp_44 hP hD hS (lv_sub hl [] rfl)
            · have h := ox_f c_57 h
              refine lv_aload_n hx hb dX2_walk_60 rfl (lv_at hl 0 rfl) ?_
              refine va_get (D := D) (ci := 2) (v := .ref (ad 16)) (C := RX2) (T := TX2) (N := 4) hx hb hts hiX2 hown hK hP 1 rfl rfl 1 (by decide) hk2 (fun _ h9 => h9) rfl dX2_walk_61 ?_
              refine lv_iload_n hx hb dX2_walk_64 rfl (lv_at hl 2 rfl) ?_
              obtain ⟨hi_65, h⟩ := ox_i_of h
              refine va_iald hx hb hK hP 5 0 rfl rfl hi_65 dX2_walk_65 ?_
              refine lv_istore_n (lv' := [(3, .int (R_line_44 v2_44.toNatClampNeg)), (0, .ref (ad 2)), (1, .ref (ad 1)), (2, .int v2_44)]) hx hb dX2_walk_66 rfl hl (by decide) rfl (fun ls hl => ?_)
              refine lv_aload_n hx hb dX2_walk_67 rfl (lv_at hl 2 rfl) ?_
              refine va_get (D := D) (ci := 0) (v := .ref (ad 15)) (C := RX0) (T := TX0) (N := 11) hx hb hts hiX0 hown hK hP 0 rfl rfl 10 (by decide) hk3 (fun _ h9 => h9) rfl dX2_walk_68 ?_
              refine lv_iload_n hx hb dX2_walk_71 rfl (lv_at hl 0 rfl) ?_
              obtain ⟨hi_72, h⟩ := ox_i_of h
              refine va_iald hx hb hK hP 4 0 rfl rfl hi_72 dX2_walk_72 ?_
              refine lv_istore (lv' := [(4, .int (G_start (R_line_44 v2_44.toNatClampNeg).toNatClampNeg)), (3, .int (R_line_44 v2_44.toNatClampNeg)), (0, .ref (ad 2)), (1, .ref (ad 1)), (2, .int v2_44)]) hx hb dX2_walk_73 hl (by decide) rfl (fun ls hl => ?_)
              obtain ⟨ex_75, hex_75, h_75⟩ := ox_b_of h
              have hX_75 : ∀ (v4_75 : Int32) (R_found_75 : Int32) (R_line_75 : Nat → Int32) (R_far_75 : Nat → Int32) (R_lastMove_75 : Nat → Int32) (H : Heap) (locs : List Loc) (ls : Array Slot), (v4_75, R_found_75, R_line_75, R_far_75, R_lastMove_75) = ex_75 → va_P D vwCl [(kG ad G_states G_moves G_ends), (kR ad R_found_75), (kI cI (ad 12) 600 G_to), (kI cI (ad 14) 600 G_out), (kI cI (ad 15) 201 G_start), (kI cI (ad 16) 200 R_line_75), (kI cI (ad 17) 200 R_far_75), (kI cI (ad 18) 200 R_lastMove_75)] H → va_D A [(kG ad G_states G_moves G_ends), (kR ad R_found_75), (kI cI (ad 12) 600 G_to), (kI cI (ad 14) 600 G_out), (kI cI (ad 15) 201 G_start), (kI cI (ad 16) 200 R_line_75), (kI cI (ad 17) 200 R_far_75), (kI cI (ad 18) 200 R_lastMove_75)] → va_S A s.heap H locs → lv_has ls 6 [(0, .ref (ad 2)), (1, .ref (ad 1)), (2, .int v2_44)] → W p l e { frames := 1, cells := 0, slots := 0, locals := 23 } s m ([.ref (ad 2), .ref (ad 1)] : List Value).toArray below meth c H locs 0 0 Q (F0 m 140 ls []) := by
                intro v4_75 R_found_75 R_line_75 R_far_75 R_lastMove_75 H locs ls hex_75 hP hD hS hl
                subst hex_75
                have h := h_75
                refine lv_iinc (v := v2_44 + 1) (lv' := [(2, .int (v2_44 + 1)), (0, .ref (ad 2)), (1, .ref (ad 1))]) hx hb dX2_walk_140 hl (k := 2) rfl rfl (by decide) rfl (fun ls hl => ?_)
                refine lv_goto (tgt := 44) hx hb dX2_walk_143 (by decide) ?_
                obtain rfl := Option.some.inj h
                exact ih_44 (v2_44 + 1) R_found_75 R_line_75 R_far_75 R_lastMove_75 H locs ls hlp_44 hP hD hS (lv_sub hl [1, 2, 0] rfl)
              have hL_75 : ∀ (n : Nat) (v4_75 : Int32) (R_found_75 : Int32) (R_line_75 : Nat → Int32) (R_far_75 : Nat → Int32) (R_lastMove_75 : Nat → Int32) (H : Heap) (locs : List Loc) (ls : Array Slot), ox_l (fn_X2_walk_l75 R_line_44 v2_44 G_start G_out G_to) n (v4_75, R_found_75, R_line_75, R_far_75, R_lastMove_75) = some ex_75 → va_P D vwCl [(kG ad G_states G_moves G_ends), (kR ad R_found_75), (kI cI (ad 12) 600 G_to), (kI cI (ad 14) 600 G_out), (kI cI (ad 15) 201 G_start), (kI cI (ad 16) 200 R_line_75), (kI cI (ad 17) 200 R_far_75), (kI cI (ad 18) 200 R_lastMove_75)] H → va_D A [(kG ad G_states G_moves G_ends), (kR ad R_found_75), (kI cI (ad 12) 600 G_to), (kI cI (ad 14) 600 G_out), (kI cI (ad 15) 201 G_start), (kI cI (ad 16) 200 R_line_75), (kI cI (ad 17) 200 R_far_75), (kI cI (ad 18) 200 R_lastMove_75)] → va_S A s.heap H locs → lv_has ls 6 [(0, .ref (ad 2)), (1, .ref (ad 1)), (2, .int v2_44), (3, .int (R_line_44 v2_44.toNatClampNeg)), (4, .int v4_75)] → W p l e { frames := 1, cells := 0, slots := 0, locals := 23 } s m ([.ref (ad 2), .ref (ad 1)] : List Value).toArray below meth c H locs 0 0 Q (F0 m 75 ls []) := by
                intro n
                induction n with
                | zero => intro v4_75 R_found_75 R_line_75 R_far_75 R_lastMove_75 H locs ls hlp; exact ox_l_0 hlp
                | succ n ih_75 =>
                  intro v4_75 R_found_75 R_line_75 R_far_75 R_lastMove_75 H locs ls hlp_75 hP hD hS hl
                  obtain ⟨z_75, h, hlp_75⟩ := ox_l_of hlp_75
                  refine lv_iload hx hb dX2_walk_75 (lv_at hl 4 rfl) ?_
                  refine lv_aload_n hx hb dX2_walk_77 rfl (lv_at hl 1 rfl) ?_
                  refine va_get (D := D) (ci := 0) (v := .ref (ad 15)) (C := RX0) (T := TX0) (N := 11) hx hb hts hiX0 hown hK hP 0 rfl rfl 10 (by decide) hk3 (fun _ h9 => h9) rfl dX2_walk_78 ?_
                  refine lv_iload_n hx hb dX2_walk_81 rfl (lv_at hl 3 rfl) ?_
                  refine lv_iconst (v := 1) hx hb dX2_walk_82 (by decide) ?_
                  refine lv_iadd hx hb dX2_walk_83 ?_
                  obtain ⟨hi_84, h⟩ := ox_i_of h
                  refine va_iald hx hb hK hP 4 0 rfl rfl hi_84 dX2_walk_84 ?_
                  refine lv_icmp_ge (tgt := 140) hx hb dX2_walk_85 (by decide) (fun c_85 => ?_) (fun c_85 => ?_)
                  · have h := ox_t c_85 h
                    obtain rfl := Option.some.inj h
                    exact hX_75 v4_75 R_found_75 R_line_75 R_far_75 R_lastMove_75 H locs ls hlp_75 hP hD hS (lv_sub hl [0, 1, 2] rfl)
                  · have h := ox_f c_85 h
                    refine lv_aload_n hx hb dX2_walk_88 rfl (lv_at hl 1 rfl) ?_
                    refine va_get (D := D) (ci := 0) (v := .ref (ad 14)) (C := RX0) (T := TX0) (N := 11) hx hb hts hiX0 hown hK hP 0 rfl rfl 9 (by decide) hk4 (fun _ h9 => h9) rfl dX2_walk_89 ?_
                    refine lv_iload hx hb dX2_walk_92 (lv_at hl 4 rfl) ?_
                    obtain ⟨hi_94, h⟩ := ox_i_of h
                    refine va_iald hx hb hK hP 3 0 rfl rfl hi_94 dX2_walk_94 ?_
                    refine lv_istore (lv' := [(5, .int (G_out v4_75.toNatClampNeg)), (0, .ref (ad 2)), (1, .ref (ad 1)), (2, .int v2_44), (3, .int (R_line_44 v2_44.toNatClampNeg)), (4, .int v4_75)]) hx hb dX2_walk_95 hl (by decide) rfl (fun ls hl => ?_)
                    refine lv_aload_n hx hb dX2_walk_97 rfl (lv_at hl 1 rfl) ?_
                    refine va_get (D := D) (ci := 2) (v := .ref (ad 17)) (C := RX2) (T := TX2) (N := 4) hx hb hts hiX2 hown hK hP 1 rfl rfl 2 (by decide) hk5 (fun _ h9 => h9) rfl dX2_walk_98 ?_
                    refine lv_aload_n hx hb dX2_walk_101 rfl (lv_at hl 2 rfl) ?_
                    refine va_get (D := D) (ci := 0) (v := .ref (ad 12)) (C := RX0) (T := TX0) (N := 11) hx hb hts hiX0 hown hK hP 0 rfl rfl 7 (by decide) hk6 (fun _ h9 => h9) rfl dX2_walk_102 ?_
                    refine lv_iload hx hb dX2_walk_105 (lv_at hl 0 rfl) ?_
                    obtain ⟨hi_107, h⟩ := ox_i_of h
                    refine va_iald hx hb hK hP 2 0 rfl rfl hi_107 dX2_walk_107 ?_
                    obtain ⟨hi_108, h⟩ := ox_i_of h
                    refine va_iald hx hb hK hP 6 0 rfl rfl hi_108 dX2_walk_108 ?_
                    refine lv_iconst (v := (-1)) hx hb dX2_walk_109 (by decide) ?_
                    refine lv_icmp_ne (tgt := 134) hx hb dX2_walk_110 (by decide) (fun c_110 => ?_) (fun c_110 => ?_)
                    · have h := ox_f c_110 h
                      refine lv_iinc (v := v4_75 + 1) (lv' := [(4, .int (v4_75 + 1)), (5, .int (G_out v4_75.toNatClampNeg)), (0, .ref (ad 2)), (1, .ref (ad 1)), (2, .int v2_44), (3, .int (R_line_44 v2_44.toNatClampNeg))]) hx hb dX2_walk_134 hl (k := 5) rfl rfl (by decide) rfl (fun ls hl => ?_)
                      refine lv_goto (tgt := 75) hx hb dX2_walk_137 (by decide) ?_
                      obtain rfl := Option.some.inj h
                      exact ih_75 (v4_75 + 1) R_found_75 R_line_75 R_far_75 R_lastMove_75 H locs ls hlp_75 hP hD hS (lv_sub hl [2, 3, 4, 5, 0] rfl)
                    · have h := ox_t c_110 h
                      refine lv_aload_n hx hb dX2_walk_113 rfl (lv_at hl 1 rfl) ?_
                      refine lv_aload_n hx hb dX2_walk_114 rfl (lv_at hl 2 rfl) ?_
                      refine va_get (D := D) (ci := 0) (v := .ref (ad 12)) (C := RX0) (T := TX0) (N := 11) hx hb hts hiX0 hown hK hP 0 rfl rfl 7 (by decide) hk6 (fun _ h9 => h9) rfl dX2_walk_115 ?_
                      refine lv_iload hx hb dX2_walk_118 (lv_at hl 0 rfl) ?_
                      obtain ⟨hi_120, h⟩ := ox_i_of h
                      refine va_iald hx hb hK hP 2 0 rfl rfl hi_120 dX2_walk_120 ?_
                      refine lv_aload_n hx hb dX2_walk_121 rfl (lv_at hl 1 rfl) ?_
                      refine va_get (D := D) (ci := 2) (v := .ref (ad 17)) (C := RX2) (T := TX2) (N := 4) hx hb hts hiX2 hown hK hP 1 rfl rfl 2 (by decide) hk5 (fun _ h9 => h9) rfl dX2_walk_122 ?_
                      refine lv_iload_n hx hb dX2_walk_125 rfl (lv_at hl 4 rfl) ?_
                      obtain ⟨hi_126, h⟩ := ox_i_of h
                      refine va_iald hx hb hK hP 6 0 rfl rfl hi_126 dX2_walk_126 ?_
                      refine lv_iconst (v := 1) hx hb dX2_walk_127 (by decide) ?_
                      refine lv_iadd hx hb dX2_walk_128 ?_
                      refine lv_iload hx hb dX2_walk_129 (lv_at hl 0 rfl) ?_
                      obtain ⟨⟨R_found_131, R_line_131, R_far_131, R_lastMove_131⟩, hc_131, h⟩ := ox_b_of h
                      refine mc_callV (As := [.int (G_to (G_out v4_75.toNatClampNeg).toNatClampNeg), .int ((R_far_75 (R_line_44 v2_44.toNatClampNeg).toNatClampNeg) + 1), .int (G_out v4_75.toNatClampNeg)]) (rest := []) (b := ad 2) (Wc := [(kR ad R_found_75), (kI cI (ad 16) 200 R_line_75), (kI cI (ad 17) 200 R_far_75), (kI cI (ad 18) 200 R_lastMove_75)]) (wr := [(kG ad G_states G_moves G_ends), (kI cI (ad 12) 600 G_to), (kI cI (ad 14) 600 G_out), (kI cI (ad 15) 201 G_start)]) (W1 := [(kR ad R_found_131), (kI cI (ad 16) 200 R_line_131), (kI cI (ad 17) 200 R_far_131), (kI cI (ad 18) 200 R_lastMove_131)]) (wn := [(kG ad G_states G_moves G_ends), (kR ad R_found_131), (kI cI (ad 12) 600 G_to), (kI cI (ad 14) 600 G_out), (kI cI (ad 15) 201 G_start), (kI cI (ad 16) 200 R_line_131), (kI cI (ad 17) 200 R_far_131), (kI cI (ad 18) 200 R_lastMove_131)]) (rv := none) ⟨hx, hb, hml, hown, hts⟩ (c_X2_join l D cI cZ ad R_found_75 R_line_75 R_far_75 R_lastMove_75 (G_to (G_out v4_75.toNatClampNeg).toNatClampNeg) ((R_far_75 (R_line_44 v2_44.toNatClampNeg).toNatClampNeg) + 1) (G_out v4_75.toNatClampNeg) _ hc_131) (cwV 3 hts (gl_V wk_187 wk_188 wk_189 wk_21 wk_190) rfl rfl rfl (by decide +kernel) ⟨Nat.le_of_ble_eq_true rfl, Nat.le_of_ble_eq_true rfl⟩) hK hP hD hS hA 2 0 rfl rfl rfl [1, 5, 6, 7] [0, 2, 3, 4] [0, 4, 1, 2, 3, 5, 6, 7] rfl rfl (by decide) rfl (by decide) (by decide) rfl rfl (by decide) rfl rfl hl.1 (Nat.le_of_ble_eq_true rfl) dX2_walk_131 ⟨Nat.zero_le _, Nat.zero_le _⟩ (fun H locs hP hD hS => ?_)
                      show W p l e { frames := 1, cells := 0, slots := 0, locals := 23 } s m ([.ref (ad 2), .ref (ad 1)] : List Value).toArray below meth c H locs 0 0 Q (F0 m 134 ls [])
                      refine lv_iinc (v := v4_75 + 1) (lv' := [(4, .int (v4_75 + 1)), (5, .int (G_out v4_75.toNatClampNeg)), (0, .ref (ad 2)), (1, .ref (ad 1)), (2, .int v2_44), (3, .int (R_line_44 v2_44.toNatClampNeg))]) hx hb dX2_walk_134 hl (k := 5) rfl rfl (by decide) rfl (fun ls hl => ?_)
                      refine lv_goto (tgt := 75) hx hb dX2_walk_137 (by decide) ?_
                      obtain rfl := Option.some.inj h
                      exact ih_75 (v4_75 + 1) R_found_131 R_line_131 R_far_131 R_lastMove_131 H locs ls hlp_75 hP hD hS (lv_sub hl [2, 3, 4, 5, 0] rfl)
              exact hL_75 1000000 (G_start (R_line_44 v2_44.toNatClampNeg).toNatClampNeg) R_found_44 R_line_44 R_far_44 R_lastMove_44 H locs ls hex_75 hP hD hS (lv_sub hl [2, 3, 4, 1, 0] rfl)
      exact hL_44 1000000 0 R_found_42 R_line_42 R_far_42 R_lastMove_42 H locs ls hex_44 hP hD hS (lv_sub hl [1, 2, 0] rfl)
    refine lv_if_le (tgt := 42) hx hb dX2_walk_32 (by decide) (fun c_32 => ?_) (fun c_32 => ?_)
    · have h := ox_t c_32 h
      exact hJ_42 0 R_line R_far_2 R_lastMove H locs ls h hP hD hS (lv_sub hl [0, 1] rfl)
    · have h := ox_f c_32 h
      refine lv_aload_n hx hb dX2_walk_35 rfl (lv_at hl 0 rfl) ?_
      refine lv_iconst (v := 0) hx hb dX2_walk_36 (by decide) ?_
      refine lv_iconst (v := 0) hx hb dX2_walk_37 (by decide) ?_
      refine lv_iconst (v := (-1)) hx hb dX2_walk_38 (by decide) ?_
      obtain ⟨⟨R_found_39, R_line_39, R_far_39, R_lastMove_39⟩, hc_39, h⟩ := ox_b_of h
      refine mc_callV (As := [.int 0, .int 0, .int (-1)]) (rest := []) (b := ad 2) (Wc := [(kR ad 0), (kI cI (ad 16) 200 R_line), (kI cI (ad 17) 200 R_far_2), (kI cI (ad 18) 200 R_lastMove)]) (wr := [(kG ad G_states G_moves G_ends), (kI cI (ad 12) 600 G_to), (kI cI (ad 14) 600 G_out), (kI cI (ad 15) 201 G_start)]) (W1 := [(kR ad R_found_39), (kI cI (ad 16) 200 R_line_39), (kI cI (ad 17) 200 R_far_39), (kI cI (ad 18) 200 R_lastMove_39)]) (wn := [(kG ad G_states G_moves G_ends), (kR ad R_found_39), (kI cI (ad 12) 600 G_to), (kI cI (ad 14) 600 G_out), (kI cI (ad 15) 201 G_start), (kI cI (ad 16) 200 R_line_39), (kI cI (ad 17) 200 R_far_39), (kI cI (ad 18) 200 R_lastMove_39)]) (rv := none) ⟨hx, hb, hml, hown, hts⟩ (c_X2_join l D cI cZ ad 0 R_line R_far_2 R_lastMove 0 0 (-1) _ hc_39) (cwV 3 hts (gl_V wk_187 wk_188 wk_189 wk_21 wk_190) rfl rfl rfl (by decide +kernel) ⟨Nat.le_of_ble_eq_true rfl, Nat.le_of_ble_eq_true rfl⟩) hK hP hD hS hA 2 0 rfl rfl rfl [1, 5, 6, 7] [0, 2, 3, 4] [0, 4, 1, 2, 3, 5, 6, 7] rfl rfl (by decide) rfl (by decide) (by decide) rfl rfl (by decide) rfl rfl hl.1 (Nat.le_of_ble_eq_true rfl) dX2_walk_39 ⟨Nat.zero_le _, Nat.zero_le _⟩ (fun H locs hP hD hS => ?_)
      show W p l e { frames := 1, cells := 0, slots := 0, locals := 23 } s m ([.ref (ad 2), .ref (ad 1)] : List Value).toArray below meth c H locs 0 0 Q (F0 m 42 ls [])
      exact hJ_42 R_found_39 R_line_39 R_far_39 R_lastMove_39 H locs ls h hP hD hS (lv_sub hl [0, 1] rfl)
  have hL_2 : ∀ (n : Nat) (v2_2 : Int32) (R_far_2 : Nat → Int32) (H : Heap) (locs : List Loc) (ls : Array Slot), ox_l (fn_X2_walk_l2 G_states) n (v2_2, R_far_2) = some ex_2 → va_P D vwCl [(kG ad G_states G_moves G_ends), (kR ad R_found), (kI cI (ad 12) 600 G_to), (kI cI (ad 14) 600 G_out), (kI cI (ad 15) 201 G_start), (kI cI (ad 16) 200 R_line), (kI cI (ad 17) 200 R_far_2), (kI cI (ad 18) 200 R_lastMove)] H → va_D A [(kG ad G_states G_moves G_ends), (kR ad R_found), (kI cI (ad 12) 600 G_to), (kI cI (ad 14) 600 G_out), (kI cI (ad 15) 201 G_start), (kI cI (ad 16) 200 R_line), (kI cI (ad 17) 200 R_far_2), (kI cI (ad 18) 200 R_lastMove)] → va_S A s.heap H locs → lv_has ls 6 [(0, .ref (ad 2)), (1, .ref (ad 1)), (2, .int v2_2)] → W p l e { frames := 1, cells := 0, slots := 0, locals := 23 } s m ([.ref (ad 2), .ref (ad 1)] : List Value).toArray below meth c H locs 0 0 Q (F0 m 2 ls []) := by
    intro n
    induction n with
    | zero => intro v2_2 R_far_2 H locs ls hlp; exact ox_l_0 hlp
    | succ n ih_2 =>
      intro v2_2 R_far_2 H locs ls hlp_2 hP hD hS hl
      obtain ⟨z_2, h, hlp_2⟩ := ox_l_of hlp_2
      refine lv_iload_n hx hb dX2_walk_2 rfl (lv_at hl 2 rfl) ?_
      refine lv_aload_n hx hb dX2_walk_3 rfl (lv_at hl 1 rfl) ?_
      refine va_get (D := D) (ci := 0) (v := .int G_states) (C := RX0) (T := TX0) (N := 11) hx hb hts hiX0 hown hK hP 0 rfl rfl 0 (by decide) hk1 (fun _ h9 => h9) rfl dX2_walk_4 ?_
      refine lv_icmp_ge (tgt := 23) hx hb dX2_walk_7 (by decide) (fun c_7 => ?_) (fun c_7 => ?_)
      · have h := ox_t c_7 h
        obtain rfl := Option.some.inj h
        exact hX_2 v2_2 R_far_2 H locs ls hlp_2 hP hD hS (lv_sub hl [0, 1] rfl)
      · have h := ox_f c_7 h
        refine lv_aload_n hx hb dX2_walk_10 rfl (lv_at hl 0 rfl) ?_
        refine va_get (D := D) (ci := 2) (v := .ref (ad 17)) (C := RX2) (T := TX2) (N := 4) hx hb hts hiX2 hown hK hP 1 rfl rfl 2 (by decide) hk5 (fun _ h9 => h9) rfl dX2_walk_11 ?_
        refine lv_iload_n hx hb dX2_walk_14 rfl (lv_at hl 2 rfl) ?_
        refine lv_iconst (v := (-1)) hx hb dX2_walk_15 (by decide) ?_
        obtain ⟨hi_16, h⟩ := ox_i_of h
        refine va_iast hx hb hK hP hD hS 6 0 rfl rfl hi_16 dX2_walk_16 (fun H locs hP hD hS => ?_)
        have hP : va_P D vwCl [(kG ad G_states G_moves G_ends), (kR ad R_found), (kI cI (ad 12) 600 G_to), (kI cI (ad 14) 600 G_out), (kI cI (ad 15) 201 G_start), (kI cI (ad 16) 200 R_line), (kI cI (ad 17) 200 (upd R_far_2 v2_2.toNatClampNeg (-1))), (kI cI (ad 18) 200 R_lastMove)] H := hP
        have hD : va_D A [(kG ad G_states G_moves G_ends), (kR ad R_found), (kI cI (ad 12) 600 G_to), (kI cI (ad 14) 600 G_out), (kI cI (ad 15) 201 G_start), (kI cI (ad 16) 200 R_line), (kI cI (ad 17) 200 (upd R_far_2 v2_2.toNatClampNeg (-1))), (kI cI (ad 18) 200 R_lastMove)] := hD
        refine lv_iinc (v := v2_2 + 1) (lv' := [(2, .int (v2_2 + 1)), (0, .ref (ad 2)), (1, .ref (ad 1))]) hx hb dX2_walk_17 hl (k := 2) rfl rfl (by decide) rfl (fun ls hl => ?_)
        refine lv_goto (tgt := 2) hx hb dX2_walk_20 (by decide) ?_
        obtain rfl := Option.some.inj h
        exact ih_2 (v2_2 + 1) (upd R_far_2 v2_2.toNatClampNeg (-1)) H locs ls hlp_2 hP hD hS (lv_sub hl [1, 2, 0] rfl)
  exact hL_2 1000000 0 R_far H locs ls hex_2 hP hD hS (lv_sub hl [1, 2, 0] rfl)
set_option maxHeartbeats 4000000 in
set_option maxRecDepth 100000 in
theorem c_X2_moveOnWayTo (l : Launch) (D : va_G) (cI cZ : ClassId) (ad : Nat → Nat) (G_states : Int32) (G_moves : Int32) (G_ends : Int32) (R_found : Int32) (G_from : Nat → Int32) (R_far : Nat → Int32) (R_lastMove : Nat → Int32) (a2 : Int32) (a3 : Int32) (res : Int32) (h : fn_X2_moveOnWayTo G_from R_far R_lastMove a2 a3 = some res) : mc_C l yX2_moveOnWayTo wv_X2_moveOnWayTo { frames := 0, cells := 0, slots := 0, locals := 0 } D [(cI, .int), (cZ, .boolean)] [.ref (ad 2), .ref (ad 1), .int a2, .int a3] [(kG ad G_states G_moves G_ends), (kR ad R_found), (kI cI (ad 11) 600 G_from), (kI cI (ad 17) 200 R_far), (kI cI (ad 18) 200 R_lastMove)] (some (.int res)) [(kG ad G_states G_moves G_ends), (kR ad R_found), (kI cI (ad 11) 600 G_from), (kI cI (ad 17) 200 R_far), (kI cI (ad 18) 200 R_lastMove)] := by
  refine mc_ofi (own := RX2) (by decide) rfl rfl (Nat.le_of_ble_eq_true rfl) ?_
  intro p e s m below meth c A Q ls hx hb hml hown hts hK hP hD hA hl hend
  have hS : va_S A s.heap s.heap [] := va_S.rf
  have hl : lv_has ls 6 [(0, .ref (ad 2)), (1, .ref (ad 1)), (2, .int a2), (3, .int a3)] := hl
  obtain ⟨H, hH⟩ : ∃ H, H = s.heap := ⟨_, rfl⟩
  obtain ⟨locs, hlo⟩ : ∃ locs : List Loc, locs = [] := ⟨_, rfl⟩
  have hS : va_S A s.heap H locs := by rw [hH, hlo]; exact hS
  have hP : va_P D vwCl [(kG ad G_states G_moves G_ends), (kR ad R_found), (kI cI (ad 11) 600 G_from), (kI cI (ad 17) 200 R_far), (kI cI (ad 18) 200 R_lastMove)] H := by rw [hH]; exact hP
  suffices h9 : W p l e { frames := 0, cells := 0, slots := 0, locals := 0 } s m ([.ref (ad 2), .ref (ad 1), .int a2, .int a3] : List Value).toArray below meth c H locs 0 0 Q (F0 m 0 ls []) by rw [hH, hlo] at h9; exact h9
  clear hH hlo
  have hiX0 : ∀ w ∈ wsX00, w ∈ wv_X2_moveOnWayTo := fun w h => List.mem_cons_of_mem _ (inlX0 w h)
  have hiX2 : ∀ w ∈ wsX20, w ∈ wv_X2_moveOnWayTo := fun w h => List.mem_cons_of_mem _ (inlX2 w h)
  have hk0 := hts (.fieldLink RX2 15 "FairLoops$Reach" "far" "[I") (List.mem_cons_of_mem _ wk_48)
  have hk1 := hts (.fieldLink RX2 18 "FairLoops$Reach" "lastMove" "[I") (List.mem_cons_of_mem _ wk_49)
  have hk2 := hts (.fieldLink RX2 43 "FairLoops$Graph" "from" "[I") (List.mem_cons_of_mem _ wk_472)
  refine lv_iload_n hx hb dX2_moveOnWayTo_0 rfl (lv_at hl 3 rfl) ?_
  refine lv_aload_n hx hb dX2_moveOnWayTo_1 rfl (lv_at hl 0 rfl) ?_
  refine va_get (D := D) (ci := 2) (v := .ref (ad 17)) (C := RX2) (T := TX2) (N := 4) hx hb hts hiX2 hown hK hP 1 rfl rfl 2 (by decide) hk0 (fun _ h9 => h9) rfl dX2_moveOnWayTo_2 ?_
  refine lv_iload_n hx hb dX2_moveOnWayTo_5 rfl (lv_at hl 2 rfl) ?_
  obtain ⟨hi_6, h⟩ := ox_i_of h
  refine va_iald hx hb hK hP 3 0 rfl rfl hi_6 dX2_moveOnWayTo_6 ?_
  refine lv_icmp_lt (tgt := 12) hx hb dX2_moveOnWayTo_7 (by decide) (fun c_7 => ?_) (fun c_7 => ?_)
  · have h := ox_t c_7 h
    refine lv_iload_n hx hb dX2_moveOnWayTo_12 rfl (lv_at hl 2 rfl) ?_
    refine lv_istore (lv' := [(4, .int a2), (0, .ref (ad 2)), (1, .ref (ad 1)), (2, .int a2), (3, .int a3)]) hx hb dX2_moveOnWayTo_13 hl (by decide) rfl (fun ls hl => ?_)
    refine lv_aload_n hx hb dX2_moveOnWayTo_15 rfl (lv_at hl 1 rfl) ?_
    refine va_get (D := D) (ci := 2) (v := .ref (ad 17)) (C := RX2) (T := TX2) (N := 4) hx hb hts hiX2 hown hK hP 1 rfl rfl 2 (by decide) hk0 (fun _ h9 => h9) rfl dX2_moveOnWayTo_16 ?_
    refine lv_iload_n hx hb dX2_moveOnWayTo_19 rfl (lv_at hl 3 rfl) ?_
    obtain ⟨hi_20, h⟩ := ox_i_of h
    refine va_iald hx hb hK hP 3 0 rfl rfl hi_20 dX2_moveOnWayTo_20 ?_
    refine lv_iconst (v := 1) hx hb dX2_moveOnWayTo_21 (by decide) ?_
    refine lv_isub hx hb dX2_moveOnWayTo_22 ?_
    refine lv_istore (lv' := [(5, .int ((R_far a2.toNatClampNeg) - 1)), (4, .int a2), (0, .ref (ad 2)), (1, .ref (ad 1)), (2, .int a2), (3, .int a3)]) hx hb dX2_moveOnWayTo_23 hl (by decide) rfl (fun ls hl => ?_)
    obtain ⟨ex_25, hex_25, h_25⟩ := ox_b_of h
    have hX_25 : ∀ (v4_25 : Int32) (v5_25 : Int32) (H : Heap) (locs : List Loc) (ls : Array Slot), (v4_25, v5_25) = ex_25 → va_P D vwCl [(kG ad G_states G_moves G_ends), (kR ad R_found), (kI cI (ad 11) 600 G_from), (kI cI (ad 17) 200 R_far), (kI cI (ad 18) 200 R_lastMove)] H → va_D A [(kG ad G_states G_moves G_ends), (kR ad R_found), (kI cI (ad 11) 600 G_from), (kI cI (ad 17) 200 R_far), (kI cI (ad 18) 200 R_lastMove)] → va_S A s.heap H locs → lv_has ls 6 [(0, .ref (ad 2)), (4, .int v4_25)] → W p l e { frames := 0, cells := 0, slots := 0, locals := 0 } s m ([.ref (ad 2), .ref (ad 1), .int a2, .int a3] : List Value).toArray below meth c H locs 0 0 Q (F0 m 51 ls []) := by
      intro v4_25 v5_25 H locs ls hex_25 hP hD hS hl
      subst hex_25
      have h := h_25
      refine lv_aload_n hx hb dX2_moveOnWayTo_51 rfl (lv_at hl 0 rfl) ?_
      refine va_get (D := D) (ci := 2) (v := .ref (ad 18)) (C := RX2) (T := TX2) (N := 4) hx hb hts hiX2 hown hK hP 1 rfl rfl 3 (by decide) hk1 (fun _ h9 => h9) rfl dX2_moveOnWayTo_52 ?_
      refine lv_iload hx hb dX2_moveOnWayTo_55 (lv_at hl 1 rfl) ?_
      obtain ⟨hi_57, h⟩ := ox_i_of h
      refine va_iald hx hb hK hP 4 0 rfl rfl hi_57 dX2_moveOnWayTo_57 ?_
      have h := Option.some.inj h
      subst h
      exact hend H locs _ ls hP hD hS dX2_moveOnWayTo_58 trivial
    have hL_25 : ∀ (n : Nat) (v4_25 : Int32) (v5_25 : Int32) (H : Heap) (locs : List Loc) (ls : Array Slot), ox_l (fn_X2_moveOnWayTo_l25 a3 R_lastMove G_from) n (v4_25, v5_25) = some ex_25 → va_P D vwCl [(kG ad G_states G_moves G_ends), (kR ad R_found), (kI cI (ad 11) 600 G_from), (kI cI (ad 17) 200 R_far), (kI cI (ad 18) 200 R_lastMove)] H → va_D A [(kG ad G_states G_moves G_ends), (kR ad R_found), (kI cI (ad 11) 600 G_from), (kI cI (ad 17) 200 R_far), (kI cI (ad 18) 200 R_lastMove)] → va_S A s.heap H locs → lv_has ls 6 [(0, .ref (ad 2)), (1, .ref (ad 1)), (3, .int a3), (4, .int v4_25), (5, .int v5_25)] → W p l e { frames := 0, cells := 0, slots := 0, locals := 0 } s m ([.ref (ad 2), .ref (ad 1), .int a2, .int a3] : List Value).toArray below meth c H locs 0 0 Q (F0 m 25 ls []) := by
      intro n
      induction n with
      | zero => intro v4_25 v5_25 H locs ls hlp; exact ox_l_0 hlp
      | succ n ih_25 =>
        intro v4_25 v5_25 H locs ls hlp_25 hP hD hS hl
        obtain ⟨z_25, h, hlp_25⟩ := ox_l_of hlp_25
        refine lv_iload hx hb dX2_moveOnWayTo_25 (lv_at hl 4 rfl) ?_
        refine lv_iload_n hx hb dX2_moveOnWayTo_27 rfl (lv_at hl 2 rfl) ?_
        refine lv_icmp_le (tgt := 51) hx hb dX2_moveOnWayTo_28 (by decide) (fun c_28 => ?_) (fun c_28 => ?_)
        · have h := ox_t c_28 h
          obtain rfl := Option.some.inj h
          exact hX_25 v4_25 v5_25 H locs ls hlp_25 hP hD hS (lv_sub hl [0, 3] rfl)
        · have h := ox_f c_28 h
          refine lv_aload_n hx hb dX2_moveOnWayTo_31 rfl (lv_at hl 1 rfl) ?_
          refine va_get (D := D) (ci := 0) (v := .ref (ad 11)) (C := RX0) (T := TX0) (N := 11) hx hb hts hiX0 hown hK hP 0 rfl rfl 6 (by decide) hk2 (fun _ h9 => h9) rfl dX2_moveOnWayTo_32 ?_
          refine lv_aload_n hx hb dX2_moveOnWayTo_35 rfl (lv_at hl 0 rfl) ?_
          refine va_get (D := D) (ci := 2) (v := .ref (ad 18)) (C := RX2) (T := TX2) (N := 4) hx hb hts hiX2 hown hK hP 1 rfl rfl 3 (by decide) hk1 (fun _ h9 => h9) rfl dX2_moveOnWayTo_36 ?_
          refine lv_iload hx hb dX2_moveOnWayTo_39 (lv_at hl 3 rfl) ?_
          obtain ⟨hi_41, h⟩ := ox_i_of h
          refine va_iald hx hb hK hP 4 0 rfl rfl hi_41 dX2_moveOnWayTo_41 ?_
          obtain ⟨hi_42, h⟩ := ox_i_of h
          refine va_iald hx hb hK hP 2 0 rfl rfl hi_42 dX2_moveOnWayTo_42 ?_
          refine lv_istore (lv' := [(4, .int (G_from (R_lastMove v4_25.toNatClampNeg).toNatClampNeg)), (0, .ref (ad 2)), (1, .ref (ad 1)), (3, .int a3), (5, .int v5_25)]) hx hb dX2_moveOnWayTo_43 hl (by decide) rfl (fun ls hl => ?_)
          refine lv_iinc (v := v5_25 + (-1)) (lv' := [(5, .int (v5_25 + (-1))), (4, .int (G_from (R_lastMove v4_25.toNatClampNeg).toNatClampNeg)), (0, .ref (ad 2)), (1, .ref (ad 1)), (3, .int a3)]) hx hb dX2_moveOnWayTo_45 hl (k := 4) rfl rfl (by decide) rfl (fun ls hl => ?_)
          refine lv_goto (tgt := 25) hx hb dX2_moveOnWayTo_48 (by decide) ?_
          obtain rfl := Option.some.inj h
          exact ih_25 (G_from (R_lastMove v4_25.toNatClampNeg).toNatClampNeg) (v5_25 + (-1)) H locs ls hlp_25 hP hD hS (lv_sub hl [2, 3, 4, 1, 0] rfl)
    exact hL_25 1000000 a2 ((R_far a2.toNatClampNeg) - 1) H locs ls hex_25 hP hD hS (lv_sub hl [2, 3, 5, 1, 0] rfl)
  · have h := ox_f c_7 h
    refine lv_iconst (v := (-1)) hx hb dX2_moveOnWayTo_10 (by decide) ?_
    have h := Option.some.inj h
    subst h
    exact hend H locs _ ls hP hD hS dX2_moveOnWayTo_11 trivial
