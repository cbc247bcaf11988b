set_option maxHeartbeats 4000000 in
set_option maxRecDepth 100000 in
theorem c_X5_thrown (l : Launch) (D : va_G) (cI cZ : ClassId) (ad : Nat → Nat) (M_thrown : Int32) (M_states : Int32) (M_moves : Int32) (M_known : Int32) (M_come : Int32) (M_lookedAt : Int32) (M_parts : Int32) (M_whole : Int32) (res : Int32) (h : fn_X5_thrown M_thrown = some res) : mc_C l yX5_thrown wv_X5_thrown { frames := 0, cells := 0, slots := 0, locals := 0 } D [(cI, .int), (cZ, .boolean)] [.ref (ad 5)] [(kM ad M_thrown M_states M_moves M_known M_come M_lookedAt M_parts M_whole)] (some (.int res)) [(kM ad M_thrown M_states M_moves M_known M_come M_lookedAt M_parts M_whole)] := by
  refine mc_ofi (own := RX5) (by decide) rfl rfl (Nat.le_of_ble_eq_true rfl) ?_
  intro p e s m below meth c A Q ls hx hb hml hown hts hK hP hD hA hl hend
  have hS : va_S A s.heap s.heap [] := va_S.rf
  have hl : lv_has ls 1 [(0, .ref (ad 5))] := hl
  obtain ⟨H, hH⟩ : ∃ H, H = s.heap := ⟨_, rfl⟩
  obtain ⟨locs, hlo⟩ : ∃ locs : List Loc, locs = [] := ⟨_, rfl⟩
  have hS : va_S A s.heap H locs := by rw [hH, hlo]; exact hS
  have hP : va_P D vwCl [(kM ad M_thrown M_states M_moves M_known M_come M_lookedAt M_parts M_whole)] H := by rw [hH]; exact hP
  suffices h9 : W p l e { frames := 0, cells := 0, slots := 0, locals := 0 } s m ([.ref (ad 5)] : List Value).toArray below meth c H locs 0 0 Q (F0 m 0 ls []) by rw [hH, hlo] at h9; exact h9
  clear hH hlo
  have hiX5 : ∀ w ∈ wsX50, w ∈ wv_X5_thrown := fun w h => List.mem_cons_of_mem _ (inlX5 w h)
  have hk0 := hts (.fieldLink RX5 73 "FairLoopsModel" "thrown" "I") (List.mem_cons_of_mem _ wk_121)
  refine lv_aload_n hx hb dX5_thrown_0 rfl (lv_at hl 0 rfl) ?_
  refine va_get (D := D) (ci := 5) (v := .int M_thrown) (C := RX5) (T := TX5) (N := 27) hx hb hts hiX5 hown hK hP 0 rfl rfl 0 (by decide) hk0 (fun _ h9 => h9) rfl dX5_thrown_1 ?_
  have h := Option.some.inj h
  subst h
  exact hend H locs _ ls hP hD hS dX5_thrown_4 trivial
set_option maxHeartbeats 4000000 in
set_option maxRecDepth 100000 in
theorem c_X5_changed (l : Launch) (D : va_G) (cI cZ : ClassId) (ad : Nat → Nat) (M_thrown : Int32) (M_states : Int32) (M_moves : Int32) (M_known : Int32) (M_come : Int32) (M_lookedAt : Int32) (M_parts : Int32) (M_whole : Int32) (res : Int32 × Int32) (h : fn_X5_changed M_known M_lookedAt = some res) : mc_C l yX5_changed wv_X5_changed { frames := 0, cells := 0, slots := 0, locals := 0 } D [(cI, .int), (cZ, .boolean)] [.ref (ad 5)] [(kM ad M_thrown M_states M_moves M_known M_come M_lookedAt M_parts M_whole)] (none) [(kM ad M_thrown M_states M_moves res.1 M_come res.2 M_parts M_whole)] := by
  refine mc_ofv (own := RX5) (by decide) rfl rfl (Nat.le_of_ble_eq_true rfl) ?_
  intro p e s m below meth c A Q ls hx hb hml hown hts hK hP hD hA hl hend
  have hS : va_S A s.heap s.heap [] := va_S.rf
  have hl : lv_has ls 1 [(0, .ref (ad 5))] := hl
  obtain ⟨H, hH⟩ : ∃ H, H = s.heap := ⟨_, rfl⟩
  obtain ⟨locs, hlo⟩ : ∃ locs : List Loc, locs = [] := ⟨_, rfl⟩
  have hS : va_S A s.heap H locs := by rw [hH, hlo]; exact hS
  have hP : va_P D vwCl [(kM ad M_thrown M_states M_moves M_known M_come M_lookedAt M_parts M_whole)] H := by rw [hH]; exact hP
  suffices h9 : W p l e { frames := 0, cells := 0, slots := 0, locals := 0 } s m ([.ref (ad 5)] : List Value).toArray below meth c H locs 0 0 Q (F0 m 0 ls []) by rw [hH, hlo] at h9; exact h9
  clear hH hlo
  have hiX5 : ∀ w ∈ wsX50, w ∈ wv_X5_changed := fun w h => List.mem_cons_of_mem _ (inlX5 w h)
  have hk0 := hts (.fieldLink RX5 76 "FairLoopsModel" "known" "Z") (List.mem_cons_of_mem _ wk_126)
  have hk1 := hts (.fieldLink RX5 50 "FairLoopsModel" "lookedAt" "I") (List.mem_cons_of_mem _ wk_86)
  refine lv_aload_n hx hb dX5_changed_0 rfl (lv_at hl 0 rfl) ?_
  refine lv_iconst (v := 0) hx hb dX5_changed_1 (by decide) ?_
  refine va_put (D := D) (ci := 5) (v := .int 0) (ty := .boolean) (C := RX5) (T := TX5) (N := 27) hx hb hts hiX5 tyX5 tyX5_ok nmX5 hown hK hP hD hS 0 rfl rfl 12 (by decide) hk0 (fun _ h9 => h9) rfl (by decide +kernel) rfl rfl (Nat.le_of_ble_eq_true rfl) dX5_changed_2 (fun H locs hP hD hS => ?_)
  have hP : va_P D vwCl [(kM ad M_thrown M_states M_moves 0 M_come M_lookedAt M_parts M_whole)] H := hP
  have hD : va_D A [(kM ad M_thrown M_states M_moves 0 M_come M_lookedAt M_parts M_whole)] := hD
  refine lv_aload_n hx hb dX5_changed_5 rfl (lv_at hl 0 rfl) ?_
  refine lv_iconst (v := (-1)) hx hb dX5_changed_6 (by decide) ?_
  refine va_put (D := D) (ci := 5) (v := .int (-1)) (ty := .int) (C := RX5) (T := TX5) (N := 27) hx hb hts hiX5 tyX5 tyX5_ok nmX5 hown hK hP hD hS 0 rfl rfl 18 (by decide) hk1 (fun _ h9 => h9) rfl (by decide +kernel) rfl rfl (Nat.le_of_ble_eq_true rfl) dX5_changed_7 (fun H locs hP hD hS => ?_)
  have hP : va_P D vwCl [(kM ad M_thrown M_states M_moves 0 M_come (-1) M_parts M_whole)] H := hP
  have hD : va_D A [(kM ad M_thrown M_states M_moves 0 M_come (-1) M_parts M_whole)] := hD
  have h := Option.some.inj h
  subst h
  exact hend H locs _ ls hP hD hS dX5_changed_10 trivial
set_option maxHeartbeats 4000000 in
set_option maxRecDepth 100000 in
theorem c_X5_state (l : Launch) (D : va_G) (cI cZ : ClassId) (ad : Nat → Nat) (M_thrown : Int32) (M_states : Int32) (M_moves : Int32) (M_known : Int32) (M_come : Int32) (M_lookedAt : Int32) (M_parts : Int32) (M_whole : Int32) (M_asks : Nat → Int32) (M_first : Nat → Int32) (M_last : Nat → Int32) (M_end : Nat → Int32) (a1 : Int32) (a2 : Int32) (res : Int32 × Int32 × Int32 × Int32 × Int32 × (Nat → Int32) × (Nat → Int32) × (Nat → Int32) × (Nat → Int32)) (h : fn_X5_state M_thrown M_states M_known M_lookedAt M_asks M_first M_last M_end a1 a2 = some res) : mc_C l yX5_state wv_X5_state { frames := 1, cells := 0, slots := 0, locals := 20 } D [(cI, .int), (cZ, .boolean)] [.ref (ad 5), .int a1, .int a2] [(kM ad M_thrown M_states M_moves M_known M_come M_lookedAt M_parts M_whole), (kI cI (ad 32) 200 M_asks), (kI cI (ad 37) 200 M_first), (kI cI (ad 38) 200 M_last), (kZ cZ (ad 40) 200 M_end)] (some (.int res.1)) [(kM ad res.2.1 res.2.2.1 M_moves res.2.2.2.1 M_come res.2.2.2.2.1 M_parts M_whole), (kI cI (ad 32) 200 res.2.2.2.2.2.1), (kI cI (ad 37) 200 res.2.2.2.2.2.2.1), (kI cI (ad 38) 200 res.2.2.2.2.2.2.2.1), (kZ cZ (ad 40) 200 res.2.2.2.2.2.2.2.2)] := by
  refine mc_ofi (own := RX5) (by decide) rfl rfl (Nat.le_of_ble_eq_true rfl) ?_
  intro p e s m below meth c A Q ls hx hb hml hown hts hK hP hD hA hl hend
  have hS : va_S A s.heap s.heap [] := va_S.rf
  have hl : lv_has ls 3 [(0, .ref (ad 5)), (1, .int a1), (2, .int a2)] := hl
  obtain ⟨H, hH⟩ : ∃ H, H = s.heap := ⟨_, rfl⟩
  obtain ⟨locs, hlo⟩ : ∃ locs : List Loc, locs = [] := ⟨_, rfl⟩
  have hS : va_S A s.heap H locs := by rw [hH, hlo]; exact hS
  have hP : va_P D vwCl [(kM ad M_thrown M_states M_moves M_known M_come M_lookedAt M_parts M_whole), (kI cI (ad 32) 200 M_asks), (kI cI (ad 37) 200 M_first), (kI cI (ad 38) 200 M_last), (kZ cZ (ad 40) 200 M_end)] H := by rw [hH]; exact hP
  suffices h9 : W p l e { frames := 1, cells := 0, slots := 0, locals := 20 } s m ([.ref (ad 5), .int a1, .int a2] : List Value).toArray below meth c H locs 0 0 Q (F0 m 0 ls []) by rw [hH, hlo] at h9; exact h9
  clear hH hlo
  have hiX5 : ∀ w ∈ wsX50, w ∈ wv_X5_state := fun w h => List.mem_cons_of_mem _ (inlX5 w h)
  have hk0 := hts (.fieldLink RX5 73 "FairLoopsModel" "thrown" "I") (List.mem_cons_of_mem _ wk_121)
  have hk1 := hts (.fieldLink RX5 7 "FairLoopsModel" "asks" "[I") (List.mem_cons_of_mem _ wk_73)
  have hk2 := hts (.fieldLink RX5 80 "FairLoopsModel" "states" "I") (List.mem_cons_of_mem _ wk_120)
  have hk3 := hts (.fieldLink RX5 34 "FairLoopsModel" "end" "[Z") (List.mem_cons_of_mem _ wk_81)
  have hk4 := hts (.fieldLink RX5 25 "FairLoopsModel" "first" "[I") (List.mem_cons_of_mem _ wk_78)
  have hk5 := hts (.fieldLink RX5 28 "FairLoopsModel" "last" "[I") (List.mem_cons_of_mem _ wk_79)
  refine lv_aload_n hx hb dX5_state_0 rfl (lv_at hl 0 rfl) ?_
  refine lv_iload_n hx hb dX5_state_1 rfl (lv_at hl 1 rfl) ?_
  have hJ_31 : ∀ (t0_31 : Int32) (H : Heap) (locs : List Loc) (ls : Array Slot), fn_X5_state_j31 M_states M_known M_lookedAt M_asks a1 M_first M_last M_end a2 t0_31 = some res → va_P D vwCl [(kM ad M_thrown M_states M_moves M_known M_come M_lookedAt M_parts M_whole), (kI cI (ad 32) 200 M_asks), (kI cI (ad 37) 200 M_first), (kI cI (ad 38) 200 M_last), (kZ cZ (ad 40) 200 M_end)] H → va_D A [(kM ad M_thrown M_states M_moves M_known M_come M_lookedAt M_parts M_whole), (kI cI (ad 32) 200 M_asks), (kI cI (ad 37) 200 M_first), (kI cI (ad 38) 200 M_last), (kZ cZ (ad 40) 200 M_end)] → va_S A s.heap H locs → lv_has ls 3 [(0, .ref (ad 5)), (1, .int a1), (2, .int a2)] → W p l e { frames := 1, cells := 0, slots := 0, locals := 20 } s m ([.ref (ad 5), .int a1, .int a2] : List Value).toArray below meth c H locs 0 0 Q (F0 m 31 ls [.int t0_31, .ref (ad 5)]) := by
    intro t0_31 H locs ls h hP hD hS hl
    refine va_put (D := D) (ci := 5) (v := .int t0_31) (ty := .int) (C := RX5) (T := TX5) (N := 27) hx hb hts hiX5 tyX5 tyX5_ok nmX5 hown hK hP hD hS 0 rfl rfl 0 (by decide) hk0 (fun _ h9 => h9) rfl (by decide +kernel) rfl rfl (Nat.le_of_ble_eq_true rfl) dX5_state_31 (fun H locs hP hD hS => ?_)
    have hP : va_P D vwCl [(kM ad t0_31 M_states M_moves M_known M_come M_lookedAt M_parts M_whole), (kI cI (ad 32) 200 M_asks), (kI cI (ad 37) 200 M_first), (kI cI (ad 38) 200 M_last), (kZ cZ (ad 40) 200 M_end)] H := hP
    have hD : va_D A [(kM ad t0_31 M_states M_moves M_known M_come M_lookedAt M_parts M_whole), (kI cI (ad 32) 200 M_asks), (kI cI (ad 37) 200 M_first), (kI cI (ad 38) 200 M_last), (kZ cZ (ad 40) 200 M_end)] := hD
    refine lv_aload_n hx hb dX5_state_34 rfl (lv_at hl 0 rfl) ?_
    refine va_get (D := D) (ci := 5) (v := .int t0_31) (C := RX5) (T := TX5) (N := 27) hx hb hts hiX5 hown hK hP 0 rfl rfl 0 (by decide) hk0 (fun _ h9 => h9) rfl dX5_state_35 ?_
    refine lv_if_le (tgt := 43) hx hb dX5_state_38 (by decide) (fun c_38 => ?_) (fun c_38 => ?_)
    · have h := ox_t c_38 h
      refine lv_aload_n hx hb dX5_state_43 rfl (lv_at hl 0 rfl) ?_
      refine va_get (D := D) (ci := 5) (v := .ref (ad 32)) (C := RX5) (T := TX5) (N := 27) hx hb hts hiX5 hown hK hP 0 rfl rfl 3 (by decide) hk1 (fun _ h9 => h9) rfl dX5_state_44 ?_
      refine lv_aload_n hx hb dX5_state_47 rfl (lv_at hl 0 rfl) ?_
      refine va_get (D := D) (ci := 5) (v := .int M_states) (C := RX5) (T := TX5) (N := 27) hx hb hts hiX5 hown hK hP 0 rfl rfl 1 (by decide) hk2 (fun _ h9 => h9) rfl dX5_state_48 ?_
      refine lv_iload_n hx hb dX5_state_51 rfl (lv_at hl 1 rfl) ?_
      obtain ⟨hi_52, h⟩ := ox_i_of h
      refine va_iast hx hb hK hP hD hS 1 0 rfl rfl hi_52 dX5_state_52 (fun H locs hP hD hS => ?_)
      have hP : va_P D vwCl [(kM ad t0_31 M_states M_moves M_known M_come M_lookedAt M_parts M_whole), (kI cI (ad 32) 200 (upd M_asks M_states.toNatClampNeg a1)), (kI cI (ad 37) 200 M_first), (kI cI (ad 38) 200 M_last), (kZ cZ (ad 40) 200 M_end)] H := hP
      have hD : va_D A [(kM ad t0_31 M_states M_moves M_known M_come M_lookedAt M_parts M_whole), (kI cI (ad 32) 200 (upd M_asks M_states.toNatClampNeg a1)), (kI cI (ad 37) 200 M_first), (kI cI (ad 38) 200 M_last), (kZ cZ (ad 40) 200 M_end)] := hD
      refine lv_aload_n hx hb dX5_state_53 rfl (lv_at hl 0 rfl) ?_
      refine va_get (D := D) (ci := 5) (v := .ref (ad 40)) (C := RX5) (T := TX5) (N := 27) hx hb hts hiX5 hown hK hP 0 rfl rfl 11 (by decide) hk3 (fun _ h9 => h9) rfl dX5_state_54 ?_
      refine lv_aload_n hx hb dX5_state_57 rfl (lv_at hl 0 rfl) ?_
      refine va_get (D := D) (ci := 5) (v := .int M_states) (C := RX5) (T := TX5) (N := 27) hx hb hts hiX5 hown hK hP 0 rfl rfl 1 (by decide) hk2 (fun _ h9 => h9) rfl dX5_state_58 ?_
      refine lv_iload_n hx hb dX5_state_61 rfl (lv_at hl 2 rfl) ?_
      obtain ⟨hi_62, h⟩ := ox_i_of h
      refine va_zast hx hb hK hP hD hS 4 1 rfl rfl hi_62 dX5_state_62 (fun H locs hP hD hS => ?_)
      have hP : va_P D vwCl [(kM ad t0_31 M_states M_moves M_known M_come M_lookedAt M_parts M_whole), (kI cI (ad 32) 200 (upd M_asks M_states.toNatClampNeg a1)), (kI cI (ad 37) 200 M_first), (kI cI (ad 38) 200 M_last), (kZ cZ (ad 40) 200 (upd M_end M_states.toNatClampNeg (vp_nar .boolean a2)))] H := hP
      have hD : va_D A [(kM ad t0_31 M_states M_moves M_known M_come M_lookedAt M_parts M_whole), (kI cI (ad 32) 200 (upd M_asks M_states.toNatClampNeg a1)), (kI cI (ad 37) 200 M_first), (kI cI (ad 38) 200 M_last), (kZ cZ (ad 40) 200 (upd M_end M_states.toNatClampNeg (vp_nar .boolean a2)))] := hD
      refine lv_aload_n hx hb dX5_state_63 rfl (lv_at hl 0 rfl) ?_
      refine va_get (D := D) (ci := 5) (v := .ref (ad 37)) (C := RX5) (T := TX5) (N := 27) hx hb hts hiX5 hown hK hP 0 rfl rfl 8 (by decide) hk4 (fun _ h9 => h9) rfl dX5_state_64 ?_
      refine lv_aload_n hx hb dX5_state_67 rfl (lv_at hl 0 rfl) ?_
      refine va_get (D := D) (ci := 5) (v := .int M_states) (C := RX5) (T := TX5) (N := 27) hx hb hts hiX5 hown hK hP 0 rfl rfl 1 (by decide) hk2 (fun _ h9 => h9) rfl dX5_state_68 ?_
      refine lv_iconst (v := (-1)) hx hb dX5_state_71 (by decide) ?_
      obtain ⟨hi_72, h⟩ := ox_i_of h
      refine va_iast hx hb hK hP hD hS 2 0 rfl rfl hi_72 dX5_state_72 (fun H locs hP hD hS => ?_)
      have hP : va_P D vwCl [(kM ad t0_31 M_states M_moves M_known M_come M_lookedAt M_parts M_whole), (kI cI (ad 32) 200 (upd M_asks M_states.toNatClampNeg a1)), (kI cI (ad 37) 200 (upd M_first M_states.toNatClampNeg (-1))), (kI cI (ad 38) 200 M_last), (kZ cZ (ad 40) 200 (upd M_end M_states.toNatClampNeg (vp_nar .boolean a2)))] H := hP
      have hD : va_D A [(kM ad t0_31 M_states M_moves M_known M_come M_lookedAt M_parts M_whole), (kI cI (ad 32) 200 (upd M_asks M_states.toNatClampNeg a1)), (kI cI (ad 37) 200 (upd M_first M_states.toNatClampNeg (-1))), (kI cI (ad 38) 200 M_last), (kZ cZ (ad 40) 200 (upd M_end M_states.toNatClampNeg (vp_nar .boolean a2)))] := hD
      refine lv_aload_n hx hb dX5_state_73 rfl (lv_at hl 0 rfl) ?_
      refine va_get (D := D) (ci := 5) (v := .ref (ad 38)) (C := RX5) (T := TX5) (N := 27) hx hb hts hiX5 hown hK hP 0 rfl rfl 9 (by decide) hk5 (fun _ h9 => h9) rfl dX5_state_74 ?_
      refine lv_aload_n hx hb dX5_state_77 rfl (lv_at hl 0 rfl) ?_
      refine va_get (D := D) (ci := 5) (v := .int M_states) (C := RX5) (T := TX5) (N := 27) hx hb hts hiX5 hown hK hP 0 rfl rfl 1 (by decide) hk2 (fun _ h9 => h9) rfl dX5_state_78 ?_
      refine lv_iconst (v := (-1)) hx hb dX5_state_81 (by decide) ?_
      obtain ⟨hi_82, h⟩ := ox_i_of h
      refine va_iast hx hb hK hP hD hS 3 0 rfl rfl hi_82 dX5_state_82 (fun H locs hP hD hS => ?_)
      have hP : va_P D vwCl [(kM ad t0_31 M_states M_moves M_known M_come M_lookedAt M_parts M_whole), (kI cI (ad 32) 200 (upd M_asks M_states.toNatClampNeg a1)), (kI cI (ad 37) 200 (upd M_first M_states.toNatClampNeg (-1))), (kI cI (ad 38) 200 (upd M_last M_states.toNatClampNeg (-1))), (kZ cZ (ad 40) 200 (upd M_end M_states.toNatClampNeg (vp_nar .boolean a2)))] H := hP
      have hD : va_D A [(kM ad t0_31 M_states M_moves M_known M_come M_lookedAt M_parts M_whole), (kI cI (ad 32) 200 (upd M_asks M_states.toNatClampNeg a1)), (kI cI (ad 37) 200 (upd M_first M_states.toNatClampNeg (-1))), (kI cI (ad 38) 200 (upd M_last M_states.toNatClampNeg (-1))), (kZ cZ (ad 40) 200 (upd M_end M_states.toNatClampNeg (vp_nar .boolean a2)))] := hD
      refine lv_aload_n hx hb dX5_state_83 rfl (lv_at hl 0 rfl) ?_
      refine lv_dup hx hb dX5_state_84 rfl ?_
      refine va_get (D := D) (ci := 5) (v := .int M_states) (C := RX5) (T := TX5) (N := 27) hx hb hts hiX5 hown hK hP 0 rfl rfl 1 (by decide) hk2 (fun _ h9 => h9) rfl dX5_state_85 ?_
      refine lv_iconst (v := 1) hx hb dX5_state_88 (by decide) ?_
      refine lv_iadd hx hb dX5_state_89 ?_
      refine va_put (D := D) (ci := 5) (v := .int (M_states + 1)) (ty := .int) (C := RX5) (T := TX5) (N := 27) hx hb hts hiX5 tyX5 tyX5_ok nmX5 hown hK hP hD hS 0 rfl rfl 1 (by decide) hk2 (fun _ h9 => h9) rfl (by decide +kernel) rfl rfl (Nat.le_of_ble_eq_true rfl) dX5_state_90 (fun H locs hP hD hS => ?_)
      have hP : va_P D vwCl [(kM ad t0_31 (M_states + 1) M_moves M_known M_come M_lookedAt M_parts M_whole), (kI cI (ad 32) 200 (upd M_asks M_states.toNatClampNeg a1)), (kI cI (ad 37) 200 (upd M_first M_states.toNatClampNeg (-1))), (kI cI (ad 38) 200 (upd M_last M_states.toNatClampNeg (-1))), (kZ cZ (ad 40) 200 (upd M_end M_states.toNatClampNeg (vp_nar .boolean a2)))] H := hP
      have hD : va_D A [(kM ad t0_31 (M_states + 1) M_moves M_known M_come M_lookedAt M_parts M_whole), (kI cI (ad 32) 200 (upd M_asks M_states.toNatClampNeg a1)), (kI cI (ad 37) 200 (upd M_first M_states.toNatClampNeg (-1))), (kI cI (ad 38) 200 (upd M_last M_states.toNatClampNeg (-1))), (kZ cZ (ad 40) 200 (upd M_end M_states.toNatClampNeg (vp_nar .boolean a2)))] := hD
      refine lv_aload_n hx hb dX5_state_93 rfl (lv_at hl 0 rfl) ?_
      obtain ⟨⟨M_known_94, M_lookedAt_94⟩, hc_94, h⟩ := ox_b_of h
      refine mc_callV (As := []) (rest := []) (b := ad 5) (Wc := [(kM ad t0_31 (M_states + 1) M_moves M_known M_come M_lookedAt M_parts M_whole)]) (wr := [(kI cI (ad 32) 200 (upd M_asks M_states.toNatClampNeg a1)), (kI cI (ad 37) 200 (upd M_first M_states.toNatClampNeg (-1))), (kI cI (ad 38) 200 (upd M_last M_states.toNatClampNeg (-1))), (kZ cZ (ad 40) 200 (upd M_end M_states.toNatClampNeg (vp_nar .boolean a2)))]) (W1 := [(kM ad t0_31 (M_states + 1) M_moves M_known_94 M_come M_lookedAt_94 M_parts M_whole)]) (wn := [(kM ad t0_31 (M_states + 1) M_moves M_known_94 M_come M_lookedAt_94 M_parts M_whole), (kI cI (ad 32) 200 (upd M_asks M_states.toNatClampNeg a1)), (kI cI (ad 37) 200 (upd M_first M_states.toNatClampNeg (-1))), (kI cI (ad 38) 200 (upd M_last M_states.toNatClampNeg (-1))), (kZ cZ (ad 40) 200 (upd M_end M_states.toNatClampNeg (vp_nar .boolean a2)))]) (rv := none) ⟨hx, hb, hml, hown, hts⟩ (c_X5_changed l D cI cZ ad t0_31 (M_states + 1) M_moves M_known M_come M_lookedAt M_parts M_whole  _ hc_94) (cwV 0 hts (gl_V wk_122 wk_123 wk_124 wk_5 wk_125) rfl rfl rfl (by decide +kernel) ⟨Nat.le_of_ble_eq_true rfl, Nat.le_of_ble_eq_true rfl⟩) hK hP hD hS hA 5 0 rfl rfl rfl [0] [1, 2, 3, 4] [4, 0, 1, 2, 3] rfl rfl (by decide) rfl (by decide) (by decide) rfl rfl (by decide) rfl rfl hl.1 (Nat.le_of_ble_eq_true rfl) dX5_state_94 ⟨Nat.zero_le _, Nat.zero_le _⟩ (fun H locs hP hD hS => ?_)
      show W p l e { frames := 1, cells := 0, slots := 0, locals := 20 } s m ([.ref (ad 5), .int a1, .int a2] : List Value).toArray below meth c H locs 0 0 Q (F0 m 97 ls [])
      refine lv_aload_n hx hb dX5_state_97 rfl (lv_at hl 0 rfl) ?_
      refine va_get (D := D) (ci := 5) (v := .int (M_states + 1)) (C := RX5) (T := TX5) (N := 27) hx hb hts hiX5 hown hK hP 0 rfl rfl 1 (by decide) hk2 (fun _ h9 => h9) rfl dX5_state_98 ?_
      refine lv_iconst (v := 1) hx hb dX5_state_101 (by decide) ?_
      refine lv_isub hx hb dX5_state_102 ?_
      have h := Option.some.inj h
      subst h
      exact hend H locs _ ls hP hD hS dX5_state_103 trivial
    · have h := ox_f c_38 h
      refine lv_iconst (v := 0) hx hb dX5_state_41 (by decide) ?_
      have h := Option.some.inj h
      subst h
      exact hend H locs _ ls hP hD hS dX5_state_42 trivial
  have hJ_12 : ∀  (H : Heap) (locs : List Loc) (ls : Array Slot), fn_X5_state_j12 M_states M_known M_lookedAt M_asks a1 M_first M_last M_end a2 () = some res → va_P D vwCl [(kM ad M_thrown M_states M_moves M_known M_come M_lookedAt M_parts M_whole), (kI cI (ad 32) 200 M_asks), (kI cI (ad 37) 200 M_first), (kI cI (ad 38) 200 M_last), (kZ cZ (ad 40) 200 M_end)] H → va_D A [(kM ad M_thrown M_states M_moves M_known M_come M_lookedAt M_parts M_whole), (kI cI (ad 32) 200 M_asks), (kI cI (ad 37) 200 M_first), (kI cI (ad 38) 200 M_last), (kZ cZ (ad 40) 200 M_end)] → va_S A s.heap H locs → lv_has ls 3 [(0, .ref (ad 5)), (1, .int a1), (2, .int a2)] → W p l e { frames := 1, cells := 0, slots := 0, locals := 20 } s m ([.ref (ad 5), .int a1, .int a2] : List Value).toArray below meth c H locs 0 0 Q (F0 m 12 ls [.ref (ad 5)]) := by
    intro  H locs ls h hP hD hS hl
    refine lv_iconst (v := 1) hx hb dX5_state_12 (by decide) ?_
    refine lv_goto (tgt := 31) hx hb dX5_state_13 (by decide) ?_
    exact hJ_31 1 H locs ls h hP hD hS (lv_sub hl [0, 1, 2] rfl)
  refine lv_if_lt (tgt := 12) hx hb dX5_state_2 (by decide) (fun c_2 => ?_) (fun c_2 => ?_)
  · have h := ox_t c_2 h
    exact hJ_12  H locs ls h hP hD hS (lv_sub hl [0, 1, 2] rfl)
  · have h := ox_f c_2 h
    refine lv_iload_n hx hb dX5_state_5 rfl (lv_at hl 1 rfl) ?_
    refine lv_sipush (v := 255) hx hb dX5_state_6 (by decide) ?_
    refine lv_icmp_le (tgt := 16) hx hb dX5_state_9 (by decide) (fun c_9 => ?_) (fun c_9 => ?_)
    · have h := ox_t c_9 h
      refine lv_aload_n hx hb dX5_state_16 rfl (lv_at hl 0 rfl) ?_
      refine va_get (D := D) (ci := 5) (v := .int M_states) (C := RX5) (T := TX5) (N := 27) hx hb hts hiX5 hown hK hP 0 rfl rfl 1 (by decide) hk2 (fun _ h9 => h9) rfl dX5_state_17 ?_
      refine lv_sipush (v := 200) hx hb dX5_state_20 (by decide) ?_
      refine lv_icmp_ne (tgt := 30) hx hb dX5_state_23 (by decide) (fun c_23 => ?_) (fun c_23 => ?_)
      · have h := ox_f c_23 h
        refine lv_iconst (v := 0) hx hb dX5_state_30 (by decide) ?_
        exact hJ_31 0 H locs ls h hP hD hS (lv_sub hl [0, 1, 2] rfl)
      · have h := ox_t c_23 h
        refine lv_iconst (v := 2) hx hb dX5_state_26 (by decide) ?_
        refine lv_goto (tgt := 31) hx hb dX5_state_27 (by decide) ?_
        exact hJ_31 2 H locs ls h hP hD hS (lv_sub hl [0, 1, 2] rfl)
    · have h := ox_f c_9 h
      exact hJ_12  H locs ls h hP hD hS (lv_sub hl [0, 1, 2] rfl)
set_option maxHeartbeats 4000000 in
set_option maxRecDepth 100000 in
theorem c_X5_isState (l : Launch) (D : va_G) (cI cZ : ClassId) (ad : Nat → Nat) (M_thrown : Int32) (M_states : Int32) (M_moves : Int32) (M_known : Int32) (M_come : Int32) (M_lookedAt : Int32) (M_parts : Int32) (M_whole : Int32) (a1 : Int32) (res : Int32) (h : fn_X5_isState M_states a1 = some res) : mc_C l yX5_isState wv_X5_isState { frames := 0, cells := 0, slots := 0, locals := 0 } D [(cI, .int), (cZ, .boolean)] [.ref (ad 5), .int a1] [(kM ad M_thrown M_states M_moves M_known M_come M_lookedAt M_parts M_whole)] (some (.int res)) [(kM ad M_thrown M_states M_moves M_known M_come M_lookedAt M_parts M_whole)] := by
  refine mc_ofz (own := RX5) (by decide) rfl rfl (Nat.le_of_ble_eq_true rfl) ?_
  intro p e s m below meth c A Q ls hx hb hml hown hts hK hP hD hA hl hend
  have hS : va_S A s.heap s.heap [] := va_S.rf
  have hl : lv_has ls 2 [(0, .ref (ad 5)), (1, .int a1)] := hl
  obtain ⟨H, hH⟩ : ∃ H, H = s.heap := ⟨_, rfl⟩
  obtain ⟨locs, hlo⟩ : ∃ locs : List Loc, locs = [] := ⟨_, rfl⟩
  have hS : va_S A s.heap H locs := by rw [hH, hlo]; exact hS
  have hP : va_P D vwCl [(kM ad M_thrown M_states M_moves M_known M_come M_lookedAt M_parts M_whole)] H := by rw [hH]; exact hP
  suffices h9 : W p l e { frames := 0, cells := 0, slots := 0, locals := 0 } s m ([.ref (ad 5), .int a1] : List Value).toArray below meth c H locs 0 0 Q (F0 m 0 ls []) by rw [hH, hlo] at h9; exact h9
  clear hH hlo
  have hiX5 : ∀ w ∈ wsX50, w ∈ wv_X5_isState := fun w h => List.mem_cons_of_mem _ (inlX5 w h)
  have hk0 := hts (.fieldLink RX5 80 "FairLoopsModel" "states" "I") (List.mem_cons_of_mem _ wk_120)
  refine lv_iload_n hx hb dX5_isState_0 rfl (lv_at hl 1 rfl) ?_
  refine lv_if_lt (tgt := 16) hx hb dX5_isState_1 (by decide) (fun c_1 => ?_) (fun c_1 => ?_)
  · have h := ox_t c_1 h
    refine lv_iconst (v := 0) hx hb dX5_isState_16 (by decide) ?_
    have h := Option.some.inj h
    subst h
    exact hend H locs _ ls hP hD hS dX5_isState_17 nb_0
  · have h := ox_f c_1 h
    refine lv_iload_n hx hb dX5_isState_4 rfl (lv_at hl 1 rfl) ?_
    refine lv_aload_n hx hb dX5_isState_5 rfl (lv_at hl 0 rfl) ?_
    refine va_get (D := D) (ci := 5) (v := .int M_states) (C := RX5) (T := TX5) (N := 27) hx hb hts hiX5 hown hK hP 0 rfl rfl 1 (by decide) hk0 (fun _ h9 => h9) rfl dX5_isState_6 ?_
    refine lv_icmp_ge (tgt := 16) hx hb dX5_isState_9 (by decide) (fun c_9 => ?_) (fun c_9 => ?_)
    · have h := ox_t c_9 h
      refine lv_iconst (v := 0) hx hb dX5_isState_16 (by decide) ?_
      have h := Option.some.inj h
      subst h
      exact hend H locs _ ls hP hD hS dX5_isState_17 nb_0
    · have h := ox_f c_9 h
      refine lv_iconst (v := 1) hx hb dX5_isState_12 (by decide) ?_
      refine lv_goto (tgt := 17) hx hb dX5_isState_13 (by decide) ?_
      have h := Option.some.inj h
      subst h
      exact hend H locs _ ls hP hD hS dX5_isState_17 nb_1
set_option maxHeartbeats 4000000 in
set_option maxRecDepth 100000 in
theorem c_X5_move (l : Launch) (D : va_G) (cI cZ : ClassId) (ad : Nat → Nat) (M_thrown : Int32) (M_states : Int32) (M_moves : Int32) (M_known : Int32) (M_come : Int32) (M_lookedAt : Int32) (M_parts : Int32) (M_whole : Int32) (M_from : Nat → Int32) (M_to : Nat → Int32) (M_labelOf : Nat → Int32) (M_first : Nat → Int32) (M_last : Nat → Int32) (M_next : Nat → Int32) (a1 : Int32) (a2 : Int32) (a3 : Int32) (res : Int32 × Int32 × Int32 × Int32 × Int32 × (Nat → Int32) × (Nat → Int32) × (Nat → Int32) × (Nat → Int32) × (Nat → Int32) × (Nat → Int32)) (h : fn_X5_move M_thrown M_states M_moves M_known M_lookedAt M_from M_to M_labelOf M_first M_last M_next a1 a2 a3 = some res) : mc_C l yX5_move wv_X5_move { frames := 1, cells := 0, slots := 0, locals := 21 } D [(cI, .int), (cZ, .boolean)] [.ref (ad 5), .int a1, .int a2, .int a3] [(kM ad M_thrown M_states M_moves M_known M_come M_lookedAt M_parts M_whole), (kI cI (ad 33) 600 M_from), (kI cI (ad 34) 600 M_to), (kI cI (ad 35) 600 M_labelOf), (kI cI (ad 37) 200 M_first), (kI cI (ad 38) 200 M_last), (kI cI (ad 39) 600 M_next)] (some (.int res.1)) [(kM ad res.2.1 M_states res.2.2.1 res.2.2.2.1 M_come res.2.2.2.2.1 M_parts M_whole), (kI cI (ad 33) 600 res.2.2.2.2.2.1), (kI cI (ad 34) 600 res.2.2.2.2.2.2.1), (kI cI (ad 35) 600 res.2.2.2.2.2.2.2.1), (kI cI (ad 37) 200 res.2.2.2.2.2.2.2.2.1), (kI cI (ad 38) 200 res.2.2.2.2.2.2.2.2.2.1), (kI cI (ad 39) 600 res.2.2.2.2.2.2.2.2.2.2)] := by
  refine mc_ofi (own := RX5) (by decide) rfl rfl (Nat.le_of_ble_eq_true rfl) ?_
  intro p e s m below meth c A Q ls hx hb hml hown hts hK hP hD hA hl hend
  have hS : va_S A s.heap s.heap [] := va_S.rf
  have hl : lv_has ls 5 [(0, .ref (ad 5)), (1, .int a1), (2, .int a2), (3, .int a3)] := hl
  obtain ⟨H, hH⟩ : ∃ H, H = s.heap := ⟨_, rfl⟩
  obtain ⟨locs, hlo⟩ : ∃ locs : List Loc, locs = [] := ⟨_, rfl⟩
  have hS : va_S A s.heap H locs := by rw [hH, hlo]; exact hS
  have hP : va_P D vwCl [(kM ad M_thrown M_states M_moves M_known M_come M_lookedAt M_parts M_whole), (kI cI (ad 33) 600 M_from), (kI cI (ad 34) 600 M_to), (kI cI (ad 35) 600 M_labelOf), (kI cI (ad 37) 200 M_first), (kI cI (ad 38) 200 M_last), (kI cI (ad 39) 600 M_next)] H := by rw [hH]; exact hP
  suffices h9 : W p l e { frames := 1, cells := 0, slots := 0, locals := 21 } s m ([.ref (ad 5), .int a1, .int a2, .int a3] : List Value).toArray below meth c H locs 0 0 Q (F0 m 0 ls []) by rw [hH, hlo] at h9; exact h9
  clear hH hlo
  have hiX5 : ∀ w ∈ wsX50, w ∈ wv_X5_move := fun w h => List.mem_cons_of_mem _ (inlX5 w h)
  have hk0 := hts (.fieldLink RX5 73 "FairLoopsModel" "thrown" "I") (List.mem_cons_of_mem _ wk_121)
  have hk1 := hts (.fieldLink RX5 13 "FairLoopsModel" "from" "[I") (List.mem_cons_of_mem _ wk_74)
  have hk2 := hts (.fieldLink RX5 90 "FairLoopsModel" "moves" "I") (List.mem_cons_of_mem _ wk_154)
  have hk3 := hts (.fieldLink RX5 16 "FairLoopsModel" "to" "[I") (List.mem_cons_of_mem _ wk_75)
  have hk4 := hts (.fieldLink RX5 19 "FairLoopsModel" "labelOf" "[I") (List.mem_cons_of_mem _ wk_76)
  have hk5 := hts (.fieldLink RX5 31 "FairLoopsModel" "next" "[I") (List.mem_cons_of_mem _ wk_80)
  have hk6 := hts (.fieldLink RX5 25 "FairLoopsModel" "first" "[I") (List.mem_cons_of_mem _ wk_78)
  have hk7 := hts (.fieldLink RX5 28 "FairLoopsModel" "last" "[I") (List.mem_cons_of_mem _ wk_79)
  refine lv_aload_n hx hb dX5_move_0 rfl (lv_at hl 0 rfl) ?_
  refine lv_iload_n hx hb dX5_move_1 rfl (lv_at hl 1 rfl) ?_
  obtain ⟨r_2, hc_2, h⟩ := ox_b_of h
  refine mc_callV (As := [.int a1]) (rest := []) (b := ad 5) (Wc := [(kM ad M_thrown M_states M_moves M_known M_come M_lookedAt M_parts M_whole)]) (wr := [(kI cI (ad 33) 600 M_from), (kI cI (ad 34) 600 M_to), (kI cI (ad 35) 600 M_labelOf), (kI cI (ad 37) 200 M_first), (kI cI (ad 38) 200 M_last), (kI cI (ad 39) 600 M_next)]) (W1 := [(kM ad M_thrown M_states M_moves M_known M_come M_lookedAt M_parts M_whole)]) (wn := [(kM ad M_thrown M_states M_moves M_known M_come M_lookedAt M_parts M_whole), (kI cI (ad 33) 600 M_from), (kI cI (ad 34) 600 M_to), (kI cI (ad 35) 600 M_labelOf), (kI cI (ad 37) 200 M_first), (kI cI (ad 38) 200 M_last), (kI cI (ad 39) 600 M_next)]) (rv := some (.int r_2)) ⟨hx, hb, hml, hown, hts⟩ (c_X5_isState l D cI cZ ad M_thrown M_states M_moves M_known M_come M_lookedAt M_parts M_whole a1 _ hc_2) (cwV 1 hts (gl_V wk_155 wk_156 wk_157 wk_5 wk_158) rfl rfl rfl (by decide +kernel) ⟨Nat.le_of_ble_eq_true rfl, Nat.le_of_ble_eq_true rfl⟩) hK hP hD hS hA 5 0 rfl rfl rfl [0] [1, 2, 3, 4, 5, 6] [6, 0, 1, 2, 3, 4, 5] rfl rfl (by decide) rfl (by decide) (by decide) rfl rfl (by decide) rfl rfl hl.1 (Nat.le_of_ble_eq_true rfl) dX5_move_2 ⟨Nat.zero_le _, Nat.zero_le _⟩ (fun H locs hP hD hS => ?_)
  show W p l e { frames := 1, cells := 0, slots := 0, locals := 21 } s m ([.ref (ad 5), .int a1, .int a2, .int a3] : List Value).toArray below meth c H locs 0 0 Q (F0 m 5 ls [.int r_2])
  have hJ_32 : ∀ (t0_32 : Int32) (H : Heap) (locs : List Loc) (ls : Array Slot), fn_X5_move_j32 M_moves a1 M_first M_known M_lookedAt M_from M_to a2 M_labelOf a3 M_last M_next t0_32 = some res → va_P D vwCl [(kM ad M_thrown M_states M_moves M_known M_come M_lookedAt M_parts M_whole), (kI cI (ad 33) 600 M_from), (kI cI (ad 34) 600 M_to), (kI cI (ad 35) 600 M_labelOf), (kI cI (ad 37) 200 M_first), (kI cI (ad 38) 200 M_last), (kI cI (ad 39) 600 M_next)] H → va_D A [(kM ad M_thrown M_states M_moves M_known M_come M_lookedAt M_parts M_whole), (kI cI (ad 33) 600 M_from), (kI cI (ad 34) 600 M_to), (kI cI (ad 35) 600 M_labelOf), (kI cI (ad 37) 200 M_first), (kI cI (ad 38) 200 M_last), (kI cI (ad 39) 600 M_next)] → va_S A s.heap H locs → lv_has ls 5 [(0, .ref (ad 5)), (1, .int a1), (2, .int a2), (3, .int a3)] → W p l e { frames := 1, cells := 0, slots := 0, locals := 21 } s m ([.ref (ad 5), .int a1, .int a2, .int a3] : List Value).toArray below meth c H locs 0 0 Q (F0 m 32 ls [.int t0_32]) := by
    intro t0_32 H locs ls h hP hD hS hl
    refine lv_istore (lv' := [(4, .int t0_32), (0, .ref (ad 5)), (1, .int a1), (2, .int a2), (3, .int a3)]) hx hb dX5_move_32 hl (by decide) rfl (fun ls hl => ?_)
    refine lv_aload_n hx hb dX5_move_34 rfl (lv_at hl 1 rfl) ?_
    refine lv_iload hx hb dX5_move_35 (lv_at hl 0 rfl) ?_
    have hJ_59 : ∀ (t0_59 : Int32) (H : Heap) (locs : List Loc) (ls : Array Slot), fn_X5_move_j59 M_moves a1 M_first M_known M_lookedAt M_from M_to a2 M_labelOf a3 M_last M_next t0_59 = some res → va_P D vwCl [(kM ad M_thrown M_states M_moves M_known M_come M_lookedAt M_parts M_whole), (kI cI (ad 33) 600 M_from), (kI cI (ad 34) 600 M_to), (kI cI (ad 35) 600 M_labelOf), (kI cI (ad 37) 200 M_first), (kI cI (ad 38) 200 M_last), (kI cI (ad 39) 600 M_next)] H → va_D A [(kM ad M_thrown M_states M_moves M_known M_come M_lookedAt M_parts M_whole), (kI cI (ad 33) 600 M_from), (kI cI (ad 34) 600 M_to), (kI cI (ad 35) 600 M_labelOf), (kI cI (ad 37) 200 M_first), (kI cI (ad 38) 200 M_last), (kI cI (ad 39) 600 M_next)] → va_S A s.heap H locs → lv_has ls 5 [(0, .ref (ad 5)), (1, .int a1), (2, .int a2), (3, .int a3)] → W p l e { frames := 1, cells := 0, slots := 0, locals := 21 } s m ([.ref (ad 5), .int a1, .int a2, .int a3] : List Value).toArray below meth c H locs 0 0 Q (F0 m 59 ls [.int t0_59, .ref (ad 5)]) := by
      intro t0_59 H locs ls h hP hD hS hl
      refine va_put (D := D) (ci := 5) (v := .int t0_59) (ty := .int) (C := RX5) (T := TX5) (N := 27) hx hb hts hiX5 tyX5 tyX5_ok nmX5 hown hK hP hD hS 0 rfl rfl 0 (by decide) hk0 (fun _ h9 => h9) rfl (by decide +kernel) rfl rfl (Nat.le_of_ble_eq_true rfl) dX5_move_59 (fun H locs hP hD hS => ?_)
      have hP : va_P D vwCl [(kM ad t0_59 M_states M_moves M_known M_come M_lookedAt M_parts M_whole), (kI cI (ad 33) 600 M_from), (kI cI (ad 34) 600 M_to), (kI cI (ad 35) 600 M_labelOf), (kI cI (ad 37) 200 M_first), (kI cI (ad 38) 200 M_last), (kI cI (ad 39) 600 M_next)] H := hP
      have hD : va_D A [(kM ad t0_59 M_states M_moves M_known M_come M_lookedAt M_parts M_whole), (kI cI (ad 33) 600 M_from), (kI cI (ad 34) 600 M_to), (kI cI (ad 35) 600 M_labelOf), (kI cI (ad 37) 200 M_first), (kI cI (ad 38) 200 M_last), (kI cI (ad 39) 600 M_next)] := hD
      refine lv_aload_n hx hb dX5_move_62 rfl (lv_at hl 0 rfl) ?_
      refine va_get (D := D) (ci := 5) (v := .int t0_59) (C := RX5) (T := TX5) (N := 27) hx hb hts hiX5 hown hK hP 0 rfl rfl 0 (by decide) hk0 (fun _ h9 => h9) rfl dX5_move_63 ?_
      refine lv_if_le (tgt := 71) hx hb dX5_move_66 (by decide) (fun c_66 => ?_) (fun c_66 => ?_)
      · have h := ox_t c_66 h
        refine lv_aload_n hx hb dX5_move_71 rfl (lv_at hl 0 rfl) ?_
        refine va_get (D := D) (ci := 5) (v := .ref (ad 33)) (C := RX5) (T := TX5) (N := 27) hx hb hts hiX5 hown hK hP 0 rfl rfl 4 (by decide) hk1 (fun _ h9 => h9) rfl dX5_move_72 ?_
        refine lv_aload_n hx hb dX5_move_75 rfl (lv_at hl 0 rfl) ?_
        refine va_get (D := D) (ci := 5) (v := .int M_moves) (C := RX5) (T := TX5) (N := 27) hx hb hts hiX5 hown hK hP 0 rfl rfl 2 (by decide) hk2 (fun _ h9 => h9) rfl dX5_move_76 ?_
        refine lv_iload_n hx hb dX5_move_79 rfl (lv_at hl 1 rfl) ?_
        obtain ⟨hi_80, h⟩ := ox_i_of h
        refine va_iast hx hb hK hP hD hS 1 0 rfl rfl hi_80 dX5_move_80 (fun H locs hP hD hS => ?_)
        have hP : va_P D vwCl [(kM ad t0_59 M_states M_moves M_known M_come M_lookedAt M_parts M_whole), (kI cI (ad 33) 600 (upd M_from M_moves.toNatClampNeg a1)), (kI cI (ad 34) 600 M_to), (kI cI (ad 35) 600 M_labelOf), (kI cI (ad 37) 200 M_first), (kI cI (ad 38) 200 M_last), (kI cI (ad 39) 600 M_next)] H := hP
        have hD : va_D A [(kM ad t0_59 M_states M_moves M_known M_come M_lookedAt M_parts M_whole), (kI cI (ad 33) 600 (upd M_from M_moves.toNatClampNeg a1)), (kI cI (ad 34) 600 M_to), (kI cI (ad 35) 600 M_labelOf), (kI cI (ad 37) 200 M_first), (kI cI (ad 38) 200 M_last), (kI cI (ad 39) 600 M_next)] := hD
        refine lv_aload_n hx hb dX5_move_81 rfl (lv_at hl 0 rfl) ?_
        refine va_get (D := D) (ci := 5) (v := .ref (ad 34)) (C := RX5) (T := TX5) (N := 27) hx hb hts hiX5 hown hK hP 0 rfl rfl 5 (by decide) hk3 (fun _ h9 => h9) rfl dX5_move_82 ?_
        refine lv_aload_n hx hb dX5_move_85 rfl (lv_at hl 0 rfl) ?_
        refine va_get (D := D) (ci := 5) (v := .int M_moves) (C := RX5) (T := TX5) (N := 27) hx hb hts hiX5 hown hK hP 0 rfl rfl 2 (by decide) hk2 (fun _ h9 => h9) rfl dX5_move_86 ?_
        refine lv_iload_n hx hb dX5_move_89 rfl (lv_at hl 2 rfl) ?_
        obtain ⟨hi_90, h⟩ := ox_i_of h
        refine va_iast hx hb hK hP hD hS 2 0 rfl rfl hi_90 dX5_move_90 (fun H locs hP hD hS => ?_)
        have hP : va_P D vwCl [(kM ad t0_59 M_states M_moves M_known M_come M_lookedAt M_parts M_whole), (kI cI (ad 33) 600 (upd M_from M_moves.toNatClampNeg a1)), (kI cI (ad 34) 600 (upd M_to M_moves.toNatClampNeg a2)), (kI cI (ad 35) 600 M_labelOf), (kI cI (ad 37) 200 M_first), (kI cI (ad 38) 200 M_last), (kI cI (ad 39) 600 M_next)] H := hP
        have hD : va_D A [(kM ad t0_59 M_states M_moves M_known M_come M_lookedAt M_parts M_whole), (kI cI (ad 33) 600 (upd M_from M_moves.toNatClampNeg a1)), (kI cI (ad 34) 600 (upd M_to M_moves.toNatClampNeg a2)), (kI cI (ad 35) 600 M_labelOf), (kI cI (ad 37) 200 M_first), (kI cI (ad 38) 200 M_last), (kI cI (ad 39) 600 M_next)] := hD
        refine lv_aload_n hx hb dX5_move_91 rfl (lv_at hl 0 rfl) ?_
        refine va_get (D := D) (ci := 5) (v := .ref (ad 35)) (C := RX5) (T := TX5) (N := 27) hx hb hts hiX5 hown hK hP 0 rfl rfl 6 (by decide) hk4 (fun _ h9 => h9) rfl dX5_move_92 ?_
        refine lv_aload_n hx hb dX5_move_95 rfl (lv_at hl 0 rfl) ?_
        refine va_get (D := D) (ci := 5) (v := .int M_moves) (C := RX5) (T := TX5) (N := 27) hx hb hts hiX5 hown hK hP 0 rfl rfl 2 (by decide) hk2 (fun _ h9 => h9) rfl dX5_move_96 ?_
        refine lv_iload_n hx hb dX5_move_99 rfl (lv_at hl 3 rfl) ?_
        obtain ⟨hi_100, h⟩ := ox_i_of h
        refine va_iast hx hb hK hP hD hS 3 0 rfl rfl hi_100 dX5_move_100 (fun H locs hP hD hS => ?_)
        have hP : va_P D vwCl [(kM ad t0_59 M_states M_moves M_known M_come M_lookedAt M_parts M_whole), (kI cI (ad 33) 600 (upd M_from M_moves.toNatClampNeg a1)), (kI cI (ad 34) 600 (upd M_to M_moves.toNatClampNeg a2)), (kI cI (ad 35) 600 (upd M_labelOf M_moves.toNatClampNeg a3)), (kI cI (ad 37) 200 M_first), (kI cI (ad 38) 200 M_last), (kI cI (ad 39) 600 M_next)] H := hP
        have hD : va_D A [(kM ad t0_59 M_states M_moves M_known M_come M_lookedAt M_parts M_whole), (kI cI (ad 33) 600 (upd M_from M_moves.toNatClampNeg a1)), (kI cI (ad 34) 600 (upd M_to M_moves.toNatClampNeg a2)), (kI cI (ad 35) 600 (upd M_labelOf M_moves.toNatClampNeg a3)), (kI cI (ad 37) 200 M_first), (kI cI (ad 38) 200 M_last), (kI cI (ad 39) 600 M_next)] := hD
        refine lv_aload_n hx hb dX5_move_101 rfl (lv_at hl 0 rfl) ?_
        refine va_get (D := D) (ci := 5) (v := .ref (ad 39)) (C := RX5) (T := TX5) (N := 27) hx hb hts hiX5 hown hK hP 0 rfl rfl 10 (by decide) hk5 (fun _ h9 => h9) rfl dX5_move_102 ?_
        refine lv_aload_n hx hb dX5_move_105 rfl (lv_at hl 0 rfl) ?_
        refine va_get (D := D) (ci := 5) (v := .int M_moves) (C := RX5) (T := TX5) (N := 27) hx hb hts hiX5 hown hK hP 0 rfl rfl 2 (by decide) hk2 (fun _ h9 => h9) rfl dX5_move_106 ?_
        refine lv_iconst (v := (-1)) hx hb dX5_move_109 (by decide) ?_
        obtain ⟨hi_110, h⟩ := ox_i_of h
        refine va_iast hx hb hK hP hD hS 6 0 rfl rfl hi_110 dX5_move_110 (fun H locs hP hD hS => ?_)
        have hP : va_P D vwCl [(kM ad t0_59 M_states M_moves M_known M_come M_lookedAt M_parts M_whole), (kI cI (ad 33) 600 (upd M_from M_moves.toNatClampNeg a1)), (kI cI (ad 34) 600 (upd M_to M_moves.toNatClampNeg a2)), (kI cI (ad 35) 600 (upd M_labelOf M_moves.toNatClampNeg a3)), (kI cI (ad 37) 200 M_first), (kI cI (ad 38) 200 M_last), (kI cI (ad 39) 600 (upd M_next M_moves.toNatClampNeg (-1)))] H := hP
        have hD : va_D A [(kM ad t0_59 M_states M_moves M_known M_come M_lookedAt M_parts M_whole), (kI cI (ad 33) 600 (upd M_from M_moves.toNatClampNeg a1)), (kI cI (ad 34) 600 (upd M_to M_moves.toNatClampNeg a2)), (kI cI (ad 35) 600 (upd M_labelOf M_moves.toNatClampNeg a3)), (kI cI (ad 37) 200 M_first), (kI cI (ad 38) 200 M_last), (kI cI (ad 39) 600 (upd M_next M_moves.toNatClampNeg (-1)))] := hD
        refine lv_aload_n hx hb dX5_move_111 rfl (lv_at hl 0 rfl) ?_
        refine va_get (D := D) (ci := 5) (v := .ref (ad 37)) (C := RX5) (T := TX5) (N := 27) hx hb hts hiX5 hown hK hP 0 rfl rfl 8 (by decide) hk6 (fun _ h9 => h9) rfl dX5_move_112 ?_
        refine lv_iload_n hx hb dX5_move_115 rfl (lv_at hl 1 rfl) ?_
        obtain ⟨hi_116, h⟩ := ox_i_of h
        refine va_iald hx hb hK hP 4 0 rfl rfl hi_116 dX5_move_116 ?_
        refine lv_iconst (v := (-1)) hx hb dX5_move_117 (by decide) ?_
        have hJ_149 : ∀ (M_first_149 : Nat → Int32) (M_next_149 : Nat → Int32) (H : Heap) (locs : List Loc) (ls : Array Slot), fn_X5_move_j149 a1 M_known M_lookedAt M_moves t0_59 M_from M_to a2 M_labelOf a3 M_last (M_first_149, M_next_149) = some res → va_P D vwCl [(kM ad t0_59 M_states M_moves M_known M_come M_lookedAt M_parts M_whole), (kI cI (ad 33) 600 (upd M_from M_moves.toNatClampNeg a1)), (kI cI (ad 34) 600 (upd M_to M_moves.toNatClampNeg a2)), (kI cI (ad 35) 600 (upd M_labelOf M_moves.toNatClampNeg a3)), (kI cI (ad 37) 200 M_first_149), (kI cI (ad 38) 200 M_last), (kI cI (ad 39) 600 M_next_149)] H → va_D A [(kM ad t0_59 M_states M_moves M_known M_come M_lookedAt M_parts M_whole), (kI cI (ad 33) 600 (upd M_from M_moves.toNatClampNeg a1)), (kI cI (ad 34) 600 (upd M_to M_moves.toNatClampNeg a2)), (kI cI (ad 35) 600 (upd M_labelOf M_moves.toNatClampNeg a3)), (kI cI (ad 37) 200 M_first_149), (kI cI (ad 38) 200 M_last), (kI cI (ad 39) 600 M_next_149)] → va_S A s.heap H locs → lv_has ls 5 [(0, .ref (ad 5)), (1, .int a1)] → W p l e { frames := 1, cells := 0, slots := 0, locals := 21 } s m ([.ref (ad 5), .int a1, .int a2, .int a3] : List Value).toArray below meth c H locs 0 0 Q (F0 m 149 ls []) := by
          intro M_first_149 M_next_149 H locs ls h hP hD hS hl
          refine lv_aload_n hx hb dX5_move_149 rfl (lv_at hl 0 rfl) ?_
          refine va_get (D := D) (ci := 5) (v := .ref (ad 38)) (C := RX5) (T := TX5) (N := 27) hx hb hts hiX5 hown hK hP 0 rfl rfl 9 (by decide) hk7 (fun _ h9 => h9) rfl dX5_move_150 ?_
          refine lv_iload_n hx hb dX5_move_153 rfl (lv_at hl 1 rfl) ?_
          refine lv_aload_n hx hb dX5_move_154 rfl (lv_at hl 0 rfl) ?_
          refine va_get (D := D) (ci := 5) (v := .int M_moves) (C := RX5) (T := TX5) (N := 27) hx hb hts hiX5 hown hK hP 0 rfl rfl 2 (by decide) hk2 (fun _ h9 => h9) rfl dX5_move_155 ?_
          obtain ⟨hi_158, h⟩ := ox_i_of h
          refine va_iast hx hb hK hP hD hS 5 0 rfl rfl hi_158 dX5_move_158 (fun H locs hP hD hS => ?_)
          have hP : va_P D vwCl [(kM ad t0_59 M_states M_moves M_known M_come M_lookedAt M_parts M_whole), (kI cI (ad 33) 600 (upd M_from M_moves.toNatClampNeg a1)), (kI cI (ad 34) 600 (upd M_to M_moves.toNatClampNeg a2)), (kI cI (ad 35) 600 (upd M_labelOf M_moves.toNatClampNeg a3)), (kI cI (ad 37) 200 M_first_149), (kI cI (ad 38) 200 (upd M_last a1.toNatClampNeg M_moves)), (kI cI (ad 39) 600 M_next_149)] H := hP
          have hD : va_D A [(kM ad t0_59 M_states M_moves M_known M_come M_lookedAt M_parts M_whole), (kI cI (ad 33) 600 (upd M_from M_moves.toNatClampNeg a1)), (kI cI (ad 34) 600 (upd M_to M_moves.toNatClampNeg a2)), (kI cI (ad 35) 600 (upd M_labelOf M_moves.toNatClampNeg a3)), (kI cI (ad 37) 200 M_first_149), (kI cI (ad 38) 200 (upd M_last a1.toNatClampNeg M_moves)), (kI cI (ad 39) 600 M_next_149)] := hD
          refine lv_aload_n hx hb dX5_move_159 rfl (lv_at hl 0 rfl) ?_
          refine lv_dup hx hb dX5_move_160 rfl ?_
          refine va_get (D := D) (ci := 5) (v := .int M_moves) (C := RX5) (T := TX5) (N := 27) hx hb hts hiX5 hown hK hP 0 rfl rfl 2 (by decide) hk2 (fun _ h9 => h9) rfl dX5_move_161 ?_
          refine lv_iconst (v := 1) hx hb dX5_move_164 (by decide) ?_
          refine lv_iadd hx hb dX5_move_165 ?_
          refine va_put (D := D) (ci := 5) (v := .int (M_moves + 1)) (ty := .int) (C := RX5) (T := TX5) (N := 27) hx hb hts hiX5 tyX5 tyX5_ok nmX5 hown hK hP hD hS 0 rfl rfl 2 (by decide) hk2 (fun _ h9 => h9) rfl (by decide +kernel) rfl rfl (Nat.le_of_ble_eq_true rfl) dX5_move_166 (fun H locs hP hD hS => ?_)
          have hP : va_P D vwCl [(kM ad t0_59 M_states (M_moves + 1) M_known M_come M_lookedAt M_parts M_whole), (kI cI (ad 33) 600 (upd M_from M_moves.toNatClampNeg a1)), (kI cI (ad 34) 600 (upd M_to M_moves.toNatClampNeg a2)), (kI cI (ad 35) 600 (upd M_labelOf M_moves.toNatClampNeg a3)), (kI cI (ad 37) 200 M_first_149), (kI cI (ad 38) 200 (upd M_last a1.toNatClampNeg M_moves)), (kI cI (ad 39) 600 M_next_149)] H := hP
          have hD : va_D A [(kM ad t0_59 M_states (M_moves + 1) M_known M_come M_lookedAt M_parts M_whole), (kI cI (ad 33) 600 (upd M_from M_moves.toNatClampNeg a1)), (kI cI (ad 34) 600 (upd M_to M_moves.toNatClampNeg a2)), (kI cI (ad 35) 600 (upd M_labelOf M_moves.toNatClampNeg a3)), (kI cI (ad 37) 200 M_first_149), (kI cI (ad 38) 200 (upd M_last a1.toNatClampNeg M_moves)), (kI cI (ad 39) 600 M_next_149)] := hD
          refine lv_aload_n hx hb dX5_move_169 rfl (lv_at hl 0 rfl) ?_
          obtain ⟨⟨M_known_170, M_lookedAt_170⟩, hc_170, h⟩ := ox_b_of h
          refine mc_callV (As := []) (rest := []) (b := ad 5) (Wc := [(kM ad t0_59 M_states (M_moves + 1) M_known M_come M_lookedAt M_parts M_whole)]) (wr := [(kI cI (ad 33) 600 (upd M_from M_moves.toNatClampNeg a1)), (kI cI (ad 34) 600 (upd M_to M_moves.toNatClampNeg a2)), (kI cI (ad 35) 600 (upd M_labelOf M_moves.toNatClampNeg a3)), (kI cI (ad 37) 200 M_first_149), (kI cI (ad 38) 200 (upd M_last a1.toNatClampNeg M_moves)), (kI cI (ad 39) 600 M_next_149)]) (W1 := [(kM ad t0_59 M_states (M_moves + 1) M_known_170 M_come M_lookedAt_170 M_parts M_whole)]) (wn := [(kM ad t0_59 M_states (M_moves + 1) M_known_170 M_come M_lookedAt_170 M_parts M_whole), (kI cI (ad 33) 600 (upd M_from M_moves.toNatClampNeg a1)), (kI cI (ad 34) 600 (upd M_to M_moves.toNatClampNeg a2)), (kI cI (ad 35) 600 (upd M_labelOf M_moves.toNatClampNeg a3)), (kI cI (ad 37) 200 M_first_149), (kI cI (ad 38) 200 (upd M_last a1.toNatClampNeg M_moves)), (kI cI (ad 39) 600 M_next_149)]) (rv := none) ⟨hx, hb, hml, hown, hts⟩ (c_X5_changed l D cI cZ ad t0_59 M_states (M_moves + 1) M_known M_come M_lookedAt M_parts M_whole  _ hc_170) (cwV 0 hts (gl_V wk_122 wk_123 wk_124 wk_5 wk_125) rfl rfl rfl (by decide +kernel) ⟨Nat.le_of_ble_eq_true rfl, Nat.le_of_ble_eq_true rfl⟩) hK hP hD hS hA 5 0 rfl rfl rfl [0] [1, 2, 3, 4, 5, 6] [6, 0, 1, 2, 3, 4, 5] rfl rfl (by decide) rfl (by decide) (by decide) rfl rfl (by decide) rfl rfl hl.1 (Nat.le_of_ble_eq_true rfl) dX5_move_170 ⟨Nat.zero_le _, Nat.zero_le _⟩ (fun H locs hP hD hS => ?_)
          show W p l e { frames := 1, cells := 0, slots := 0, locals := 21 } s m ([.ref (ad 5), .int a1, .int a2, .int a3] : List Value).toArray below meth c H locs 0 0 Q (F0 m 173 ls [])
          refine lv_aload_n hx hb dX5_move_173 rfl (lv_at hl 0 rfl) ?_
          refine va_get (D := D) (ci := 5) (v := .int (M_moves + 1)) (C := RX5) (T := TX5) (N := 27) hx hb hts hiX5 hown hK hP 0 rfl rfl 2 (by decide) hk2 (fun _ h9 => h9) rfl dX5_move_174 ?_
          refine lv_iconst (v := 1) hx hb dX5_move_177 (by decide) ?_
          refine lv_isub hx hb dX5_move_178 ?_
          have h := Option.some.inj h
          subst h
          exact hend H locs _ ls hP hD hS dX5_move_179 trivial
        refine lv_icmp_ne (tgt := 134) hx hb dX5_move_118 (by decide) (fun c_118 => ?_) (fun c_118 => ?_)
        · have h := ox_f c_118 h
          refine lv_aload_n hx hb dX5_move_134 rfl (lv_at hl 0 rfl) ?_
          refine va_get (D := D) (ci := 5) (v := .ref (ad 39)) (C := RX5) (T := TX5) (N := 27) hx hb hts hiX5 hown hK hP 0 rfl rfl 10 (by decide) hk5 (fun _ h9 => h9) rfl dX5_move_135 ?_
          refine lv_aload_n hx hb dX5_move_138 rfl (lv_at hl 0 rfl) ?_
          refine va_get (D := D) (ci := 5) (v := .ref (ad 38)) (C := RX5) (T := TX5) (N := 27) hx hb hts hiX5 hown hK hP 0 rfl rfl 9 (by decide) hk7 (fun _ h9 => h9) rfl dX5_move_139 ?_
          refine lv_iload_n hx hb dX5_move_142 rfl (lv_at hl 1 rfl) ?_
          obtain ⟨hi_143, h⟩ := ox_i_of h
          refine va_iald hx hb hK hP 5 0 rfl rfl hi_143 dX5_move_143 ?_
          refine lv_aload_n hx hb dX5_move_144 rfl (lv_at hl 0 rfl) ?_
          refine va_get (D := D) (ci := 5) (v := .int M_moves) (C := RX5) (T := TX5) (N := 27) hx hb hts hiX5 hown hK hP 0 rfl rfl 2 (by decide) hk2 (fun _ h9 => h9) rfl dX5_move_145 ?_
          obtain ⟨hi_148, h⟩ := ox_i_of h
          refine va_iast hx hb hK hP hD hS 6 0 rfl rfl hi_148 dX5_move_148 (fun H locs hP hD hS => ?_)
          have hP : va_P D vwCl [(kM ad t0_59 M_states M_moves M_known M_come M_lookedAt M_parts M_whole), (kI cI (ad 33) 600 (upd M_from M_moves.toNatClampNeg a1)), (kI cI (ad 34) 600 (upd M_to M_moves.toNatClampNeg a2)), (kI cI (ad 35) 600 (upd M_labelOf M_moves.toNatClampNeg a3)), (kI cI (ad 37) 200 M_first), (kI cI (ad 38) 200 M_last), (kI cI (ad 39) 600 (upd (upd M_next M_moves.toNatClampNeg (-1)) (M_last a1.toNatClampNeg).toNatClampNeg M_moves))] H := hP
          have hD : va_D A [(kM ad t0_59 M_states M_moves M_known M_come M_lookedAt M_parts M_whole), (kI cI (ad 33) 600 (upd M_from M_moves.toNatClampNeg a1)), (kI cI (ad 34) 600 (upd M_to M_moves.toNatClampNeg a2)), (kI cI (ad 35) 600 (upd M_labelOf M_moves.toNatClampNeg a3)), (kI cI (ad 37) 200 M_first), (kI cI (ad 38) 200 M_last), (kI cI (ad 39) 600 (upd (upd M_next M_moves.toNatClampNeg (-1)) (M_last a1.toNatClampNeg).toNatClampNeg M_moves))] := hD
          exact hJ_149 M_first (upd (upd M_next M_moves.toNatClampNeg (-1)) (M_last a1.toNatClampNeg).toNatClampNeg M_moves) H locs ls h hP hD hS (lv_sub hl [0, 1] rfl)
        · have h := ox_t c_118 h
          refine lv_aload_n hx hb dX5_move_121 rfl (lv_at hl 0 rfl) ?_
          refine va_get (D := D) (ci := 5) (v := .ref (ad 37)) (C := RX5) (T := TX5) (N := 27) hx hb hts hiX5 hown hK hP 0 rfl rfl 8 (by decide) hk6 (fun _ h9 => h9) rfl dX5_move_122 ?_
          refine lv_iload_n hx hb dX5_move_125 rfl (lv_at hl 1 rfl) ?_
          refine lv_aload_n hx hb dX5_move_126 rfl (lv_at hl 0 rfl) ?_
          refine va_get (D := D) (ci := 5) (v := .int M_moves) (C := RX5) (T := TX5) (N := 27) hx hb hts hiX5 hown hK hP 0 rfl rfl 2 (by decide) hk2 (fun _ h9 => h9) rfl dX5_move_127 ?_
          obtain ⟨hi_130, h⟩ := ox_i_of h
          refine va_iast hx hb hK hP hD hS 4 0 rfl rfl hi_130 dX5_move_130 (fun H locs hP hD hS => ?_)
          have hP : va_P D vwCl [(kM ad t0_59 M_states M_moves M_known M_come M_lookedAt M_parts M_whole), (kI cI (ad 33) 600 (upd M_from M_moves.toNatClampNeg a1)), (kI cI (ad 34) 600 (upd M_to M_moves.toNatClampNeg a2)), (kI cI (ad 35) 600 (upd M_labelOf M_moves.toNatClampNeg a3)), (kI cI (ad 37) 200 (upd M_first a1.toNatClampNeg M_moves)), (kI cI (ad 38) 200 M_last), (kI cI (ad 39) 600 (upd M_next M_moves.toNatClampNeg (-1)))] H := hP
          have hD : va_D A [(kM ad t0_59 M_states M_moves M_known M_come M_lookedAt M_parts M_whole), (kI cI (ad 33) 600 (upd M_from M_moves.toNatClampNeg a1)), (kI cI (ad 34) 600 (upd M_to M_moves.toNatClampNeg a2)), (kI cI (ad 35) 600 (upd M_labelOf M_moves.toNatClampNeg a3)), (kI cI (ad 37) 200 (upd M_first a1.toNatClampNeg M_moves)), (kI cI (ad 38) 200 M_last), (kI cI (ad 39) 600 (upd M_next M_moves.toNatClampNeg (-1)))] := hD
          refine lv_goto (tgt := 149) hx hb dX5_move_131 (by decide) ?_
          exact hJ_149 (upd M_first a1.toNatClampNeg M_moves) (upd M_next M_moves.toNatClampNeg (-1)) H locs ls h hP hD hS (lv_sub hl [0, 1] rfl)
      · have h := ox_f c_66 h
        refine lv_iconst (v := 0) hx hb dX5_move_69 (by decide) ?_
        have h := Option.some.inj h
        subst h
        exact hend H locs _ ls hP hD hS dX5_move_70 trivial
    refine lv_if_ne (tgt := 44) hx hb dX5_move_37 (by decide) (fun c_37 => ?_) (fun c_37 => ?_)
    · have h := ox_f c_37 h
      refine lv_aload_n hx hb dX5_move_44 rfl (lv_at hl 1 rfl) ?_
      refine va_get (D := D) (ci := 5) (v := .int M_moves) (C := RX5) (T := TX5) (N := 27) hx hb hts hiX5 hown hK hP 0 rfl rfl 2 (by decide) hk2 (fun _ h9 => h9) rfl dX5_move_45 ?_
      refine lv_sipush (v := 600) hx hb dX5_move_48 (by decide) ?_
      refine lv_icmp_ne (tgt := 58) hx hb dX5_move_51 (by decide) (fun c_51 => ?_) (fun c_51 => ?_)
      · have h := ox_f c_51 h
        refine lv_iconst (v := 0) hx hb dX5_move_58 (by decide) ?_
        exact hJ_59 0 H locs ls h hP hD hS (lv_sub hl [1, 2, 3, 4] rfl)
      · have h := ox_t c_51 h
        refine lv_iconst (v := 2) hx hb dX5_move_54 (by decide) ?_
        refine lv_goto (tgt := 59) hx hb dX5_move_55 (by decide) ?_
        exact hJ_59 2 H locs ls h hP hD hS (lv_sub hl [1, 2, 3, 4] rfl)
    · have h := ox_t c_37 h
      refine lv_iconst (v := 1) hx hb dX5_move_40 (by decide) ?_
      refine lv_goto (tgt := 59) hx hb dX5_move_41 (by decide) ?_
      exact hJ_59 1 H locs ls h hP hD hS (lv_sub hl [1, 2, 3, 4] rfl)
  have hJ_31 : ∀  (H : Heap) (locs : List Loc) (ls : Array Slot), fn_X5_move_j31 M_moves a1 M_first M_known M_lookedAt M_from M_to a2 M_labelOf a3 M_last M_next () = some res → va_P D vwCl [(kM ad M_thrown M_states M_moves M_known M_come M_lookedAt M_parts M_whole), (kI cI (ad 33) 600 M_from), (kI cI (ad 34) 600 M_to), (kI cI (ad 35) 600 M_labelOf), (kI cI (ad 37) 200 M_first), (kI cI (ad 38) 200 M_last), (kI cI (ad 39) 600 M_next)] H → va_D A [(kM ad M_thrown M_states M_moves M_known M_come M_lookedAt M_parts M_whole), (kI cI (ad 33) 600 M_from), (kI cI (ad 34) 600 M_to), (kI cI (ad 35) 600 M_labelOf), (kI cI (ad 37) 200 M_first), (kI cI (ad 38) 200 M_last), (kI cI (ad 39) 600 M_next)] → va_S A s.heap H locs → lv_has ls 5 [(0, .ref (ad 5)), (1, .int a1), (2, .int a2), (3, .int a3)] → W p l e { frames := 1, cells := 0, slots := 0, locals := 21 } s m ([.ref (ad 5), .int a1, .int a2, .int a3] : List Value).toArray below meth c H locs 0 0 Q (F0 m 31 ls []) := by
    intro  H locs ls h hP hD hS hl
    refine lv_iconst (v := 0) hx hb dX5_move_31 (by decide) ?_
    exact hJ_32 0 H locs ls h hP hD hS (lv_sub hl [0, 1, 2, 3] rfl)
  refine lv_if_eq (tgt := 31) hx hb dX5_move_5 (by decide) (fun c_5 => ?_) (fun c_5 => ?_)
  · have h := ox_t c_5 h
    exact hJ_31  H locs ls h hP hD hS (lv_sub hl [0, 1, 2, 3] rfl)
  · have h := ox_f c_5 h
    refine lv_aload_n hx hb dX5_move_8 rfl (lv_at hl 0 rfl) ?_
    refine lv_iload_n hx hb dX5_move_9 rfl (lv_at hl 2 rfl) ?_
    obtain ⟨r_10, hc_10, h⟩ := ox_b_of h
    refine mc_callV (As := [.int a2]) (rest := []) (b := ad 5) (Wc := [(kM ad M_thrown M_states M_moves M_known M_come M_lookedAt M_parts M_whole)]) (wr := [(kI cI (ad 33) 600 M_from), (kI cI (ad 34) 600 M_to), (kI cI (ad 35) 600 M_labelOf), (kI cI (ad 37) 200 M_first), (kI cI (ad 38) 200 M_last), (kI cI (ad 39) 600 M_next)]) (W1 := [(kM ad M_thrown M_states M_moves M_known M_come M_lookedAt M_parts M_whole)]) (wn := [(kM ad M_thrown M_states M_moves M_known M_come M_lookedAt M_parts M_whole), (kI cI (ad 33) 600 M_from), (kI cI (ad 34) 600 M_to), (kI cI (ad 35) 600 M_labelOf), (kI cI (ad 37) 200 M_first), (kI cI (ad 38) 200 M_last), (kI cI (ad 39) 600 M_next)]) (rv := some (.int r_10)) ⟨hx, hb, hml, hown, hts⟩ (c_X5_isState l D cI cZ ad M_thrown M_states M_moves M_known M_come M_lookedAt M_parts M_whole a2 _ hc_10) (cwV 1 hts (gl_V wk_155 wk_156 wk_157 wk_5 wk_158) rfl rfl rfl (by decide +kernel) ⟨Nat.le_of_ble_eq_true rfl, Nat.le_of_ble_eq_true rfl⟩) hK hP hD hS hA 5 0 rfl rfl rfl [0] [1, 2, 3, 4, 5, 6] [6, 0, 1, 2, 3, 4, 5] rfl rfl (by decide) rfl (by decide) (by decide) rfl rfl (by decide) rfl rfl hl.1 (Nat.le_of_ble_eq_true rfl) dX5_move_10 ⟨Nat.zero_le _, Nat.zero_le _⟩ (fun H locs hP hD hS => ?_)
    show W p l e { frames := 1, cells := 0, slots := 0, locals := 21 } s m ([.ref (ad 5), .int a1, .int a2, .int a3] : List Value).toArray below meth c H locs 0 0 Q (F0 m 13 ls [.int r_10])
    refine lv_if_eq (tgt := 31) hx hb dX5_move_13 (by decide) (fun c_13 => ?_) (fun c_13 => ?_)
    · have h := ox_t c_13 h
      exact hJ_31  H locs ls h hP hD hS (lv_sub hl [0, 1, 2, 3] rfl)
    · have h := ox_f c_13 h
      refine lv_iload_n hx hb dX5_move_16 rfl (lv_at hl 3 rfl) ?_
      refine lv_iconst (v := (-1)) hx hb dX5_move_17 (by decide) ?_
      refine lv_icmp_lt (tgt := 31) hx hb dX5_move_18 (by decide) (fun c_18 => ?_) (fun c_18 => ?_)
      · have h := ox_t c_18 h
        exact hJ_31  H locs ls h hP hD hS (lv_sub hl [0, 1, 2, 3] rfl)
      · have h := ox_f c_18 h
        refine lv_iload_n hx hb dX5_move_21 rfl (lv_at hl 3 rfl) ?_
        refine lv_bipush (v := 16) hx hb dX5_move_22 (by decide) ?_
        refine lv_icmp_ge (tgt := 31) hx hb dX5_move_24 (by decide) (fun c_24 => ?_) (fun c_24 => ?_)
        · have h := ox_t c_24 h
          exact hJ_31  H locs ls h hP hD hS (lv_sub hl [0, 1, 2, 3] rfl)
        · have h := ox_f c_24 h
          refine lv_iconst (v := 1) hx hb dX5_move_27 (by decide) ?_
          refine lv_goto (tgt := 32) hx hb dX5_move_28 (by decide) ?_
          exact hJ_32 1 H locs ls h hP hD hS (lv_sub hl [0, 1, 2, 3] rfl)
set_option maxHeartbeats 4000000 in
set_option maxRecDepth 100000 in
theorem c_X5_label (l : Launch) (D : va_G) (cI cZ : ClassId) (ad : Nat → Nat) (M_thrown : Int32) (M_states : Int32) (M_moves : Int32) (M_known : Int32) (M_come : Int32) (M_lookedAt : Int32) (M_parts : Int32) (M_whole : Int32) (M_how : Nat → Int32) (a1 : Int32) (a2 : Int32) (res : Int32 × Int32 × Int32 × Int32 × (Nat → Int32)) (h : fn_X5_label M_thrown M_known M_lookedAt M_how a1 a2 = some res) : mc_C l yX5_label wv_X5_label { frames := 1, cells := 0, slots := 0, locals := 20 } D [(cI, .int), (cZ, .boolean)] [.ref (ad 5), .int a1, .int a2] [(kM ad M_thrown M_states M_moves M_known M_come M_lookedAt M_parts M_whole), (kI cI (ad 36) 16 M_how)] (some (.int res.1)) [(kM ad res.2.1 M_states M_moves res.2.2.1 M_come res.2.2.2.1 M_parts M_whole), (kI cI (ad 36) 16 res.2.2.2.2)] := by
  refine mc_ofi (own := RX5) (by decide) rfl rfl (Nat.le_of_ble_eq_true rfl) ?_
  intro p e s m below meth c A Q ls hx hb hml hown hts hK hP hD hA hl hend
  have hS : va_S A s.heap s.heap [] := va_S.rf
  have hl : lv_has ls 4 [(0, .ref (ad 5)), (1, .int a1), (2, .int a2)] := hl
  obtain ⟨H, hH⟩ : ∃ H, H = s.heap := ⟨_, rfl⟩
  obtain ⟨locs, hlo⟩ : ∃ locs : List Loc, locs = [] := ⟨_, rfl⟩
  have hS : va_S A s.heap H locs := by rw [hH, hlo]; exact hS
  have hP : va_P D vwCl [(kM ad M_thrown M_states M_moves M_known M_come M_lookedAt M_parts M_whole), (kI cI (ad 36) 16 M_how)] H := by rw [hH]; exact hP
  suffices h9 : W p l e { frames := 1, cells := 0, slots := 0, locals := 20 } s m ([.ref (ad 5), .int a1, .int a2] : List Value).toArray below meth c H locs 0 0 Q (F0 m 0 ls []) by rw [hH, hlo] at h9; exact h9
  clear hH hlo
  have hiX5 : ∀ w ∈ wsX50, w ∈ wv_X5_label := fun w h => List.mem_cons_of_mem _ (inlX5 w h)
  have hk0 := hts (.fieldLink RX5 73 "FairLoopsModel" "thrown" "I") (List.mem_cons_of_mem _ wk_121)
  have hk1 := hts (.fieldLink RX5 22 "FairLoopsModel" "how" "[I") (List.mem_cons_of_mem _ wk_77)
  refine lv_aload_n hx hb dX5_label_0 rfl (lv_at hl 0 rfl) ?_
  refine lv_iload_n hx hb dX5_label_1 rfl (lv_at hl 1 rfl) ?_
  have hJ_29 : ∀ (t0_29 : Int32) (H : Heap) (locs : List Loc) (ls : Array Slot), fn_X5_label_j29 a1 M_known M_lookedAt M_how a2 t0_29 = some res → va_P D vwCl [(kM ad M_thrown M_states M_moves M_known M_come M_lookedAt M_parts M_whole), (kI cI (ad 36) 16 M_how)] H → va_D A [(kM ad M_thrown M_states M_moves M_known M_come M_lookedAt M_parts M_whole), (kI cI (ad 36) 16 M_how)] → va_S A s.heap H locs → lv_has ls 4 [(0, .ref (ad 5)), (1, .int a1), (2, .int a2)] → W p l e { frames := 1, cells := 0, slots := 0, locals := 20 } s m ([.ref (ad 5), .int a1, .int a2] : List Value).toArray below meth c H locs 0 0 Q (F0 m 29 ls [.int t0_29, .ref (ad 5)]) := by
    intro t0_29 H locs ls h hP hD hS hl
    refine va_put (D := D) (ci := 5) (v := .int t0_29) (ty := .int) (C := RX5) (T := TX5) (N := 27) hx hb hts hiX5 tyX5 tyX5_ok nmX5 hown hK hP hD hS 0 rfl rfl 0 (by decide) hk0 (fun _ h9 => h9) rfl (by decide +kernel) rfl rfl (Nat.le_of_ble_eq_true rfl) dX5_label_29 (fun H locs hP hD hS => ?_)
    have hP : va_P D vwCl [(kM ad t0_29 M_states M_moves M_known M_come M_lookedAt M_parts M_whole), (kI cI (ad 36) 16 M_how)] H := hP
    have hD : va_D A [(kM ad t0_29 M_states M_moves M_known M_come M_lookedAt M_parts M_whole), (kI cI (ad 36) 16 M_how)] := hD
    refine lv_aload_n hx hb dX5_label_32 rfl (lv_at hl 0 rfl) ?_
    refine va_get (D := D) (ci := 5) (v := .int t0_29) (C := RX5) (T := TX5) (N := 27) hx hb hts hiX5 hown hK hP 0 rfl rfl 0 (by decide) hk0 (fun _ h9 => h9) rfl dX5_label_33 ?_
    refine lv_if_le (tgt := 41) hx hb dX5_label_36 (by decide) (fun c_36 => ?_) (fun c_36 => ?_)
    · have h := ox_t c_36 h
      refine lv_aload_n hx hb dX5_label_41 rfl (lv_at hl 0 rfl) ?_
      refine va_get (D := D) (ci := 5) (v := .ref (ad 36)) (C := RX5) (T := TX5) (N := 27) hx hb hts hiX5 hown hK hP 0 rfl rfl 7 (by decide) hk1 (fun _ h9 => h9) rfl dX5_label_42 ?_
      refine lv_iload_n hx hb dX5_label_45 rfl (lv_at hl 1 rfl) ?_
      obtain ⟨hi_46, h⟩ := ox_i_of h
      refine va_iald hx hb hK hP 1 0 rfl rfl hi_46 dX5_label_46 ?_
      refine lv_istore_n (lv' := [(3, .int (M_how a1.toNatClampNeg)), (0, .ref (ad 5)), (1, .int a1), (2, .int a2)]) hx hb dX5_label_47 rfl hl (by decide) rfl (fun ls hl => ?_)
      refine lv_aload_n hx hb dX5_label_48 rfl (lv_at hl 1 rfl) ?_
      refine va_get (D := D) (ci := 5) (v := .ref (ad 36)) (C := RX5) (T := TX5) (N := 27) hx hb hts hiX5 hown hK hP 0 rfl rfl 7 (by decide) hk1 (fun _ h9 => h9) rfl dX5_label_49 ?_
      refine lv_iload_n hx hb dX5_label_52 rfl (lv_at hl 2 rfl) ?_
      refine lv_iload_n hx hb dX5_label_53 rfl (lv_at hl 3 rfl) ?_
      obtain ⟨hi_54, h⟩ := ox_i_of h
      refine va_iast hx hb hK hP hD hS 1 0 rfl rfl hi_54 dX5_label_54 (fun H locs hP hD hS => ?_)
      have hP : va_P D vwCl [(kM ad t0_29 M_states M_moves M_known M_come M_lookedAt M_parts M_whole), (kI cI (ad 36) 16 (upd M_how a1.toNatClampNeg a2))] H := hP
      have hD : va_D A [(kM ad t0_29 M_states M_moves M_known M_come M_lookedAt M_parts M_whole), (kI cI (ad 36) 16 (upd M_how a1.toNatClampNeg a2))] := hD
      refine lv_aload_n hx hb dX5_label_55 rfl (lv_at hl 1 rfl) ?_
      obtain ⟨⟨M_known_56, M_lookedAt_56⟩, hc_56, h⟩ := ox_b_of h
      refine mc_callV (As := []) (rest := []) (b := ad 5) (Wc := [(kM ad t0_29 M_states M_moves M_known M_come M_lookedAt M_parts M_whole)]) (wr := [(kI cI (ad 36) 16 (upd M_how a1.toNatClampNeg a2))]) (W1 := [(kM ad t0_29 M_states M_moves M_known_56 M_come M_lookedAt_56 M_parts M_whole)]) (wn := [(kM ad t0_29 M_states M_moves M_known_56 M_come M_lookedAt_56 M_parts M_whole), (kI cI (ad 36) 16 (upd M_how a1.toNatClampNeg a2))]) (rv := none) ⟨hx, hb, hml, hown, hts⟩ (c_X5_changed l D cI cZ ad t0_29 M_states M_moves M_known M_come M_lookedAt M_parts M_whole  _ hc_56) (cwV 0 hts (gl_V wk_122 wk_123 wk_124 wk_5 wk_125) rfl rfl rfl (by decide +kernel) ⟨Nat.le_of_ble_eq_true rfl, Nat.le_of_ble_eq_true rfl⟩) hK hP hD hS hA 5 0 rfl rfl rfl [0] [1] [1, 0] rfl rfl (by decide) rfl (by decide) (by decide) rfl rfl (by decide) rfl rfl hl.1 (Nat.le_of_ble_eq_true rfl) dX5_label_56 ⟨Nat.zero_le _, Nat.zero_le _⟩ (fun H locs hP hD hS => ?_)
      show W p l e { frames := 1, cells := 0, slots := 0, locals := 20 } s m ([.ref (ad 5), .int a1, .int a2] : List Value).toArray below meth c H locs 0 0 Q (F0 m 59 ls [])
      refine lv_iload_n hx hb dX5_label_59 rfl (lv_at hl 0 rfl) ?_
      have h := Option.some.inj h
      subst h
      exact hend H locs _ ls hP hD hS dX5_label_60 trivial
    · have h := ox_f c_36 h
      refine lv_iconst (v := 0) hx hb dX5_label_39 (by decide) ?_
      have h := Option.some.inj h
      subst h
      exact hend H locs _ ls hP hD hS dX5_label_40 trivial
  have hJ_11 : ∀  (H : Heap) (locs : List Loc) (ls : Array Slot), fn_X5_label_j11 a1 M_known M_lookedAt M_how a2 () = some res → va_P D vwCl [(kM ad M_thrown M_states M_moves M_known M_come M_lookedAt M_parts M_whole), (kI cI (ad 36) 16 M_how)] H → va_D A [(kM ad M_thrown M_states M_moves M_known M_come M_lookedAt M_parts M_whole), (kI cI (ad 36) 16 M_how)] → va_S A s.heap H locs → lv_has ls 4 [(0, .ref (ad 5)), (1, .int a1), (2, .int a2)] → W p l e { frames := 1, cells := 0, slots := 0, locals := 20 } s m ([.ref (ad 5), .int a1, .int a2] : List Value).toArray below meth c H locs 0 0 Q (F0 m 11 ls [.ref (ad 5)]) := by
    intro  H locs ls h hP hD hS hl
    refine lv_iconst (v := 1) hx hb dX5_label_11 (by decide) ?_
    refine lv_goto (tgt := 29) hx hb dX5_label_12 (by decide) ?_
    exact hJ_29 1 H locs ls h hP hD hS (lv_sub hl [0, 1, 2] rfl)
  refine lv_if_lt (tgt := 11) hx hb dX5_label_2 (by decide) (fun c_2 => ?_) (fun c_2 => ?_)
  · have h := ox_t c_2 h
    exact hJ_11  H locs ls h hP hD hS (lv_sub hl [0, 1, 2] rfl)
  · have h := ox_f c_2 h
    refine lv_iload_n hx hb dX5_label_5 rfl (lv_at hl 1 rfl) ?_
    refine lv_bipush (v := 16) hx hb dX5_label_6 (by decide) ?_
    refine lv_icmp_lt (tgt := 15) hx hb dX5_label_8 (by decide) (fun c_8 => ?_) (fun c_8 => ?_)
    · have h := ox_t c_8 h
      refine lv_iload_n hx hb dX5_label_15 rfl (lv_at hl 2 rfl) ?_
      have hJ_24 : ∀  (H : Heap) (locs : List Loc) (ls : Array Slot), fn_X5_label_j24 a1 M_known M_lookedAt M_how a2 () = some res → va_P D vwCl [(kM ad M_thrown M_states M_moves M_known M_come M_lookedAt M_parts M_whole), (kI cI (ad 36) 16 M_how)] H → va_D A [(kM ad M_thrown M_states M_moves M_known M_come M_lookedAt M_parts M_whole), (kI cI (ad 36) 16 M_how)] → va_S A s.heap H locs → lv_has ls 4 [(0, .ref (ad 5)), (1, .int a1), (2, .int a2)] → W p l e { frames := 1, cells := 0, slots := 0, locals := 20 } s m ([.ref (ad 5), .int a1, .int a2] : List Value).toArray below meth c H locs 0 0 Q (F0 m 24 ls [.ref (ad 5)]) := by
        intro  H locs ls h hP hD hS hl
        refine lv_iconst (v := 2) hx hb dX5_label_24 (by decide) ?_
        refine lv_goto (tgt := 29) hx hb dX5_label_25 (by decide) ?_
        exact hJ_29 2 H locs ls h hP hD hS (lv_sub hl [0, 1, 2] rfl)
      refine lv_if_lt (tgt := 24) hx hb dX5_label_16 (by decide) (fun c_16 => ?_) (fun c_16 => ?_)
      · have h := ox_t c_16 h
        exact hJ_24  H locs ls h hP hD hS (lv_sub hl [0, 1, 2] rfl)
      · have h := ox_f c_16 h
        refine lv_iload_n hx hb dX5_label_19 rfl (lv_at hl 2 rfl) ?_
        refine lv_iconst (v := 2) hx hb dX5_label_20 (by decide) ?_
        refine lv_icmp_le (tgt := 28) hx hb dX5_label_21 (by decide) (fun c_21 => ?_) (fun c_21 => ?_)
        · have h := ox_t c_21 h
          refine lv_iconst (v := 0) hx hb dX5_label_28 (by decide) ?_
          exact hJ_29 0 H locs ls h hP hD hS (lv_sub hl [0, 1, 2] rfl)
        · have h := ox_f c_21 h
          exact hJ_24  H locs ls h hP hD hS (lv_sub hl [0, 1, 2] rfl)
    · have h := ox_f c_8 h
      exact hJ_11  H locs ls h hP hD hS (lv_sub hl [0, 1, 2] rfl)
set_option maxHeartbeats 4000000 in
set_option maxRecDepth 100000 in
theorem c_X5_walk (l : Launch) (D : va_G) (cI cZ : ClassId) (ad : Nat → Nat) (M_thrown : Int32) (M_states : Int32) (M_moves : Int32) (M_known : Int32) (M_come : Int32) (M_lookedAt : Int32) (M_parts : Int32) (M_whole : Int32) (M_to : Nat → Int32) (M_first : Nat → Int32) (M_next : Nat → Int32) (M_queue : Nat → Int32) (M_by : Nat → Int32) (M_isReached : Nat → Int32) (res : Int32 × Int32 × (Nat → Int32) × (Nat → Int32) × (Nat → Int32)) (h : fn_X5_walk M_states M_known M_come M_to M_first M_next M_queue M_by M_isReached = some res) : mc_C l yX5_walk wv_X5_walk { frames := 0, cells := 0, slots := 0, locals := 0 } D [(cI, .int), (cZ, .boolean)] [.ref (ad 5)] [(kM ad M_thrown M_states M_moves M_known M_come M_lookedAt M_parts M_whole), (kI cI (ad 34) 600 M_to), (kI cI (ad 37) 200 M_first), (kI cI (ad 39) 600 M_next), (kI cI (ad 41) 200 M_queue), (kI cI (ad 42) 200 M_by), (kZ cZ (ad 44) 200 M_isReached)] (none) [(kM ad M_thrown M_states M_moves res.1 res.2.1 M_lookedAt M_parts M_whole), (kI cI (ad 34) 600 M_to), (kI cI (ad 37) 200 M_first), (kI cI (ad 39) 600 M_next), (kI cI (ad 41) 200 res.2.2.1), (kI cI (ad 42) 200 res.2.2.2.1), (kZ cZ (ad 44) 200 res.2.2.2.2)] := by
  refine mc_ofv (own := RX5) (by decide) rfl rfl (Nat.le_of_ble_eq_true rfl) ?_
  intro p e s m below meth c A Q ls hx hb hml hown hts hK hP hD hA hl hend
  have hS : va_S A s.heap s.heap [] := va_S.rf
  have hl : lv_has ls 3 [(0, .ref (ad 5))] := hl
  obtain ⟨H, hH⟩ : ∃ H, H = s.heap := ⟨_, rfl⟩
  obtain ⟨locs, hlo⟩ : ∃ locs : List Loc, locs = [] := ⟨_, rfl⟩
  have hS : va_S A s.heap H locs := by rw [hH, hlo]; exact hS
  have hP : va_P D vwCl [(kM ad M_thrown M_states M_moves M_known M_come M_lookedAt M_parts M_whole), (kI cI (ad 34) 600 M_to), (kI cI (ad 37) 200 M_first), (kI cI (ad 39) 600 M_next), (kI cI (ad 41) 200 M_queue), (kI cI (ad 42) 200 M_by), (kZ cZ (ad 44) 200 M_isReached)] H := by rw [hH]; exact hP
  suffices h9 : W p l e { frames := 0, cells := 0, slots := 0, locals := 0 } s m ([.ref (ad 5)] : List Value).toArray below meth c H locs 0 0 Q (F0 m 0 ls []) by rw [hH, hlo] at h9; exact h9
  clear hH hlo
  have hiX5 : ∀ w ∈ wsX50, w ∈ wv_X5_walk := fun w h => List.mem_cons_of_mem _ (inlX5 w h)
  have hk0 := hts (.fieldLink RX5 76 "FairLoopsModel" "known" "Z") (List.mem_cons_of_mem _ wk_126)
  have hk1 := hts (.fieldLink RX5 93 "FairLoopsModel" "come" "I") (List.mem_cons_of_mem _ wk_195)
  have hk2 := hts (.fieldLink RX5 80 "FairLoopsModel" "states" "I") (List.mem_cons_of_mem _ wk_120)
  have hk3 := hts (.fieldLink RX5 47 "FairLoopsModel" "isReached" "[Z") (List.mem_cons_of_mem _ wk_85)
  have hk4 := hts (.fieldLink RX5 41 "FairLoopsModel" "by" "[I") (List.mem_cons_of_mem _ wk_83)
  have hk5 := hts (.fieldLink RX5 38 "FairLoopsModel" "queue" "[I") (List.mem_cons_of_mem _ wk_82)
  have hk6 := hts (.fieldLink RX5 25 "FairLoopsModel" "first" "[I") (List.mem_cons_of_mem _ wk_78)
  have hk7 := hts (.fieldLink RX5 16 "FairLoopsModel" "to" "[I") (List.mem_cons_of_mem _ wk_75)
  have hk8 := hts (.fieldLink RX5 31 "FairLoopsModel" "next" "[I") (List.mem_cons_of_mem _ wk_80)
  refine lv_aload_n hx hb dX5_walk_0 rfl (lv_at hl 0 rfl) ?_
  refine va_get (D := D) (ci := 5) (v := .int M_known) (C := RX5) (T := TX5) (N := 27) hx hb hts hiX5 hown hK hP 0 rfl rfl 12 (by decide) hk0 (fun _ h9 => h9) rfl dX5_walk_1 ?_
  refine lv_if_eq (tgt := 8) hx hb dX5_walk_4 (by decide) (fun c_4 => ?_) (fun c_4 => ?_)
  · have h := ox_t c_4 h
    refine lv_aload_n hx hb dX5_walk_8 rfl (lv_at hl 0 rfl) ?_
    refine lv_iconst (v := 1) hx hb dX5_walk_9 (by decide) ?_
    refine va_put (D := D) (ci := 5) (v := .int 1) (ty := .boolean) (C := RX5) (T := TX5) (N := 27) hx hb hts hiX5 tyX5 tyX5_ok nmX5 hown hK hP hD hS 0 rfl rfl 12 (by decide) hk0 (fun _ h9 => h9) rfl (by decide +kernel) rfl rfl (Nat.le_of_ble_eq_true rfl) dX5_walk_10 (fun H locs hP hD hS => ?_)
    have hP : va_P D vwCl [(kM ad M_thrown M_states M_moves 1 M_come M_lookedAt M_parts M_whole), (kI cI (ad 34) 600 M_to), (kI cI (ad 37) 200 M_first), (kI cI (ad 39) 600 M_next), (kI cI (ad 41) 200 M_queue), (kI cI (ad 42) 200 M_by), (kZ cZ (ad 44) 200 M_isReached)] H := hP
    have hD : va_D A [(kM ad M_thrown M_states M_moves 1 M_come M_lookedAt M_parts M_whole), (kI cI (ad 34) 600 M_to), (kI cI (ad 37) 200 M_first), (kI cI (ad 39) 600 M_next), (kI cI (ad 41) 200 M_queue), (kI cI (ad 42) 200 M_by), (kZ cZ (ad 44) 200 M_isReached)] := hD
    refine lv_aload_n hx hb dX5_walk_13 rfl (lv_at hl 0 rfl) ?_
    refine lv_iconst (v := 0) hx hb dX5_walk_14 (by decide) ?_
    refine va_put (D := D) (ci := 5) (v := .int 0) (ty := .int) (C := RX5) (T := TX5) (N := 27) hx hb hts hiX5 tyX5 tyX5_ok nmX5 hown hK hP hD hS 0 rfl rfl 13 (by decide) hk1 (fun _ h9 => h9) rfl (by decide +kernel) rfl rfl (Nat.le_of_ble_eq_true rfl) dX5_walk_15 (fun H locs hP hD hS => ?_)
    have hP : va_P D vwCl [(kM ad M_thrown M_states M_moves 1 0 M_lookedAt M_parts M_whole), (kI cI (ad 34) 600 M_to), (kI cI (ad 37) 200 M_first), (kI cI (ad 39) 600 M_next), (kI cI (ad 41) 200 M_queue), (kI cI (ad 42) 200 M_by), (kZ cZ (ad 44) 200 M_isReached)] H := hP
    have hD : va_D A [(kM ad M_thrown M_states M_moves 1 0 M_lookedAt M_parts M_whole), (kI cI (ad 34) 600 M_to), (kI cI (ad 37) 200 M_first), (kI cI (ad 39) 600 M_next), (kI cI (ad 41) 200 M_queue), (kI cI (ad 42) 200 M_by), (kZ cZ (ad 44) 200 M_isReached)] := hD
    refine lv_iconst (v := 0) hx hb dX5_walk_18 (by decide) ?_
    refine lv_istore_n (lv' := [(1, .int 0), (0, .ref (ad 5))]) hx hb dX5_walk_19 rfl hl (by decide) rfl (fun ls hl => ?_)
    obtain ⟨ex_20, hex_20, h_20⟩ := ox_b_of h
    have hX_20 : ∀ (v1_20 : Int32) (M_isReached_20 : Nat → Int32) (H : Heap) (locs : List Loc) (ls : Array Slot), (v1_20, M_isReached_20) = ex_20 → va_P D vwCl [(kM ad M_thrown M_states M_moves 1 0 M_lookedAt M_parts M_whole), (kI cI (ad 34) 600 M_to), (kI cI (ad 37) 200 M_first), (kI cI (ad 39) 600 M_next), (kI cI (ad 41) 200 M_queue), (kI cI (ad 42) 200 M_by), (kZ cZ (ad 44) 200 M_isReached_20)] H → va_D A [(kM ad M_thrown M_states M_moves 1 0 M_lookedAt M_parts M_whole), (kI cI (ad 34) 600 M_to), (kI cI (ad 37) 200 M_first), (kI cI (ad 39) 600 M_next), (kI cI (ad 41) 200 M_queue), (kI cI (ad 42) 200 M_by), (kZ cZ (ad 44) 200 M_isReached_20)] → va_S A s.heap H locs → lv_has ls 3 [(0, .ref (ad 5))] → W p l e { frames := 0, cells := 0, slots := 0, locals := 0 } s m ([.ref (ad 5)] : List Value).toArray below meth c H locs 0 0 Q (F0 m 41 ls []) := by
      intro v1_20 M_isReached_20 H locs ls hex_20 hP hD hS hl
      subst hex_20
      have h := h_20
      refine lv_aload_n hx hb dX5_walk_41 rfl (lv_at hl 0 rfl) ?_
      refine va_get (D := D) (ci := 5) (v := .int M_states) (C := RX5) (T := TX5) (N := 27) hx hb hts hiX5 hown hK hP 0 rfl rfl 1 (by decide) hk2 (fun _ h9 => h9) rfl dX5_walk_42 ?_
      refine lv_if_ne (tgt := 49) hx hb dX5_walk_45 (by decide) (fun c_45 => ?_) (fun c_45 => ?_)
      · have h := ox_f c_45 h
        refine lv_aload_n hx hb dX5_walk_49 rfl (lv_at hl 0 rfl) ?_
        refine va_get (D := D) (ci := 5) (v := .ref (ad 44)) (C := RX5) (T := TX5) (N := 27) hx hb hts hiX5 hown hK hP 0 rfl rfl 17 (by decide) hk3 (fun _ h9 => h9) rfl dX5_walk_50 ?_
        refine lv_iconst (v := 0) hx hb dX5_walk_53 (by decide) ?_
        refine lv_iconst (v := 1) hx hb dX5_walk_54 (by decide) ?_
        obtain ⟨hi_55, h⟩ := ox_i_of h
        refine va_zast hx hb hK hP hD hS 6 1 rfl rfl hi_55 dX5_walk_55 (fun H locs hP hD hS => ?_)
        have hP : va_P D vwCl [(kM ad M_thrown M_states M_moves 1 0 M_lookedAt M_parts M_whole), (kI cI (ad 34) 600 M_to), (kI cI (ad 37) 200 M_first), (kI cI (ad 39) 600 M_next), (kI cI (ad 41) 200 M_queue), (kI cI (ad 42) 200 M_by), (kZ cZ (ad 44) 200 (upd M_isReached_20 (0 : Int32).toNatClampNeg (vp_nar .boolean 1)))] H := hP
        have hD : va_D A [(kM ad M_thrown M_states M_moves 1 0 M_lookedAt M_parts M_whole), (kI cI (ad 34) 600 M_to), (kI cI (ad 37) 200 M_first), (kI cI (ad 39) 600 M_next), (kI cI (ad 41) 200 M_queue), (kI cI (ad 42) 200 M_by), (kZ cZ (ad 44) 200 (upd M_isReached_20 (0 : Int32).toNatClampNeg (vp_nar .boolean 1)))] := hD
        refine lv_aload_n hx hb dX5_walk_56 rfl (lv_at hl 0 rfl) ?_
        refine va_get (D := D) (ci := 5) (v := .ref (ad 42)) (C := RX5) (T := TX5) (N := 27) hx hb hts hiX5 hown hK hP 0 rfl rfl 15 (by decide) hk4 (fun _ h9 => h9) rfl dX5_walk_57 ?_
        refine lv_iconst (v := 0) hx hb dX5_walk_60 (by decide) ?_
        refine lv_iconst (v := (-1)) hx hb dX5_walk_61 (by decide) ?_
        obtain ⟨hi_62, h⟩ := ox_i_of h
        refine va_iast hx hb hK hP hD hS 5 0 rfl rfl hi_62 dX5_walk_62 (fun H locs hP hD hS => ?_)
        have hP : va_P D vwCl [(kM ad M_thrown M_states M_moves 1 0 M_lookedAt M_parts M_whole), (kI cI (ad 34) 600 M_to), (kI cI (ad 37) 200 M_first), (kI cI (ad 39) 600 M_next), (kI cI (ad 41) 200 M_queue), (kI cI (ad 42) 200 (upd M_by (0 : Int32).toNatClampNeg (-1))), (kZ cZ (ad 44) 200 (upd M_isReached_20 (0 : Int32).toNatClampNeg (vp_nar .boolean 1)))] H := hP
        have hD : va_D A [(kM ad M_thrown M_states M_moves 1 0 M_lookedAt M_parts M_whole), (kI cI (ad 34) 600 M_to), (kI cI (ad 37) 200 M_first), (kI cI (ad 39) 600 M_next), (kI cI (ad 41) 200 M_queue), (kI cI (ad 42) 200 (upd M_by (0 : Int32).toNatClampNeg (-1))), (kZ cZ (ad 44) 200 (upd M_isReached_20 (0 : Int32).toNatClampNeg (vp_nar .boolean 1)))] := hD
        refine lv_aload_n hx hb dX5_walk_63 rfl (lv_at hl 0 rfl) ?_
        refine va_get (D := D) (ci := 5) (v := .ref (ad 41)) (C := RX5) (T := TX5) (N := 27) hx hb hts hiX5 hown hK hP 0 rfl rfl 14 (by decide) hk5 (fun _ h9 => h9) rfl dX5_walk_64 ?_
        refine lv_iconst (v := 0) hx hb dX5_walk_67 (by decide) ?_
        refine lv_iconst (v := 0) hx hb dX5_walk_68 (by decide) ?_
        obtain ⟨hi_69, h⟩ := ox_i_of h
        refine va_iast hx hb hK hP hD hS 4 0 rfl rfl hi_69 dX5_walk_69 (fun H locs hP hD hS => ?_)
        have hP : va_P D vwCl [(kM ad M_thrown M_states M_moves 1 0 M_lookedAt M_parts M_whole), (kI cI (ad 34) 600 M_to), (kI cI (ad 37) 200 M_first), (kI cI (ad 39) 600 M_next), (kI cI (ad 41) 200 (upd M_queue (0 : Int32).toNatClampNeg 0)), (kI cI (ad 42) 200 (upd M_by (0 : Int32).toNatClampNeg (-1))), (kZ cZ (ad 44) 200 (upd M_isReached_20 (0 : Int32).toNatClampNeg (vp_nar .boolean 1)))] H := hP
        have hD : va_D A [(kM ad M_thrown M_states M_moves 1 0 M_lookedAt M_parts M_whole), (kI cI (ad 34) 600 M_to), (kI cI (ad 37) 200 M_first), (kI cI (ad 39) 600 M_next), (kI cI (ad 41) 200 (upd M_queue (0 : Int32).toNatClampNeg 0)), (kI cI (ad 42) 200 (upd M_by (0 : Int32).toNatClampNeg (-1))), (kZ cZ (ad 44) 200 (upd M_isReached_20 (0 : Int32).toNatClampNeg (vp_nar .boolean 1)))] := hD
        refine lv_aload_n hx hb dX5_walk_70 rfl (lv_at hl 0 rfl) ?_
        refine lv_iconst (v := 1) hx hb dX5_walk_71 (by decide) ?_
        refine va_put (D := D) (ci := 5) (v := .int 1) (ty := .int) (C := RX5) (T := TX5) (N := 27) hx hb hts hiX5 tyX5 tyX5_ok nmX5 hown hK hP hD hS 0 rfl rfl 13 (by decide) hk1 (fun _ h9 => h9) rfl (by decide +kernel) rfl rfl (Nat.le_of_ble_eq_true rfl) dX5_walk_72 (fun H locs hP hD hS => ?_)
        have hP : va_P D vwCl [(kM ad M_thrown M_states M_moves 1 1 M_lookedAt M_parts M_whole), (kI cI (ad 34) 600 M_to), (kI cI (ad 37) 200 M_first), (kI cI (ad 39) 600 M_next), (kI cI (ad 41) 200 (upd M_queue (0 : Int32).toNatClampNeg 0)), (kI cI (ad 42) 200 (upd M_by (0 : Int32).toNatClampNeg (-1))), (kZ cZ (ad 44) 200 (upd M_isReached_20 (0 : Int32).toNatClampNeg (vp_nar .boolean 1)))] H := hP
        have hD : va_D A [(kM ad M_thrown M_states M_moves 1 1 M_lookedAt M_parts M_whole), (kI cI (ad 34) 600 M_to), (kI cI (ad 37) 200 M_first), (kI cI (ad 39) 600 M_next), (kI cI (ad 41) 200 (upd M_queue (0 : Int32).toNatClampNeg 0)), (kI cI (ad 42) 200 (upd M_by (0 : Int32).toNatClampNeg (-1))), (kZ cZ (ad 44) 200 (upd M_isReached_20 (0 : Int32).toNatClampNeg (vp_nar .boolean 1)))] := hD
        refine lv_iconst (v := 0) hx hb dX5_walk_75 (by decide) ?_
        refine lv_istore_n (lv' := [(1, .int 0), (0, .ref (ad 5))]) hx hb dX5_walk_76 rfl hl (by decide) rfl (fun ls hl => ?_)
        obtain ⟨ex_77, hex_77, h_77⟩ := ox_b_of h
        have hX_77 : ∀ (v1_77 : Int32) (M_come_77 : Int32) (M_queue_77 : Nat → Int32) (M_by_77 : Nat → Int32) (M_isReached_77 : Nat → Int32) (H : Heap) (locs : List Loc) (ls : Array Slot), (v1_77, M_come_77, M_queue_77, M_by_77, M_isReached_77) = ex_77 → va_P D vwCl [(kM ad M_thrown M_states M_moves 1 M_come_77 M_lookedAt M_parts M_whole), (kI cI (ad 34) 600 M_to), (kI cI (ad 37) 200 M_first), (kI cI (ad 39) 600 M_next), (kI cI (ad 41) 200 M_queue_77), (kI cI (ad 42) 200 M_by_77), (kZ cZ (ad 44) 200 M_isReached_77)] H → va_D A [(kM ad M_thrown M_states M_moves 1 M_come_77 M_lookedAt M_parts M_whole), (kI cI (ad 34) 600 M_to), (kI cI (ad 37) 200 M_first), (kI cI (ad 39) 600 M_next), (kI cI (ad 41) 200 M_queue_77), (kI cI (ad 42) 200 M_by_77), (kZ cZ (ad 44) 200 M_isReached_77)] → va_S A s.heap H locs → lv_has ls 3 [] → W p l e { frames := 0, cells := 0, slots := 0, locals := 0 } s m ([.ref (ad 5)] : List Value).toArray below meth c H locs 0 0 Q (F0 m 181 ls []) := by
          intro v1_77 M_come_77 M_queue_77 M_by_77 M_isReached_77 H locs ls hex_77 hP hD hS hl
          subst hex_77
          have h := h_77
          have h := Option.some.inj h
          subst h
          exact hend H locs _ ls hP hD hS dX5_walk_181 trivial
        have hL_77 : ∀ (n : Nat) (v1_77 : Int32) (M_come_77 : Int32) (M_queue_77 : Nat → Int32) (M_by_77 : Nat → Int32) (M_isReached_77 : Nat → Int32) (H : Heap) (locs : List Loc) (ls : Array Slot), ox_l (fn_X5_walk_l77 M_to M_next M_first) n (v1_77, M_come_77, M_queue_77, M_by_77, M_isReached_77) = some ex_77 → va_P D vwCl [(kM ad M_thrown M_states M_moves 1 M_come_77 M_lookedAt M_parts M_whole), (kI cI (ad 34) 600 M_to), (kI cI (ad 37) 200 M_first), (kI cI (ad 39) 600 M_next), (kI cI (ad 41) 200 M_queue_77), (kI cI (ad 42) 200 M_by_77), (kZ cZ (ad 44) 200 M_isReached_77)] H → va_D A [(kM ad M_thrown M_states M_moves 1 M_come_77 M_lookedAt M_parts M_whole), (kI cI (ad 34) 600 M_to), (kI cI (ad 37) 200 M_first), (kI cI (ad 39) 600 M_next), (kI cI (ad 41) 200 M_queue_77), (kI cI (ad 42) 200 M_by_77), (kZ cZ (ad 44) 200 M_isReached_77)] → va_S A s.heap H locs → lv_has ls 3 [(0, .ref (ad 5)), (1, .int v1_77)] → W p l e { frames := 0, cells := 0, slots := 0, locals := 0 } s m ([.ref (ad 5)] : List Value).toArray below meth c H locs 0 0 Q (F0 m 77 ls []) := by
          intro n
          induction n with
          | zero => intro v1_77 M_come_77 M_queue_77 M_by_77 M_isReached_77 H locs ls hlp; exact ox_l_0 hlp
          | succ n ih_77 =>
            intro v1_77 M_come_77 M_queue_77 M_by_77 M_isReached_77 H locs ls hlp_77 hP hD hS hl
            obtain ⟨z_77, h, hlp_77⟩ := ox_l_of hlp_77
            refine lv_iload_n hx hb dX5_walk_77 rfl (lv_at hl 1 rfl) ?_
            refine lv_aload_n hx hb dX5_walk_78 rfl (lv_at hl 0 rfl) ?_
            refine va_get (D := D) (ci := 5) (v := .int M_come_77) (C := RX5) (T := TX5) (N := 27) hx hb hts hiX5 hown hK hP 0 rfl rfl 13 (by decide) hk1 (fun _ h9 => h9) rfl dX5_walk_79 ?_
            refine lv_icmp_ge (tgt := 181) hx hb dX5_walk_82 (by decide) (fun c_82 => ?_) (fun c_82 => ?_)
            · have h := ox_t c_82 h
              obtain rfl := Option.some.inj h
              exact hX_77 v1_77 M_come_77 M_queue_77 M_by_77 M_isReached_77 H locs ls hlp_77 hP hD hS (lv_sub hl [] rfl)
            · have h := ox_f c_82 h
              refine lv_aload_n hx hb dX5_walk_85 rfl (lv_at hl 0 rfl) ?_
              refine va_get (D := D) (ci := 5) (v := .ref (ad 37)) (C := RX5) (T := TX5) (N := 27) hx hb hts hiX5 hown hK hP 0 rfl rfl 8 (by decide) hk6 (fun _ h9 => h9) rfl dX5_walk_86 ?_
              refine lv_aload_n hx hb dX5_walk_89 rfl (lv_at hl 0 rfl) ?_
              refine va_get (D := D) (ci := 5) (v := .ref (ad 41)) (C := RX5) (T := TX5) (N := 27) hx hb hts hiX5 hown hK hP 0 rfl rfl 14 (by decide) hk5 (fun _ h9 => h9) rfl dX5_walk_90 ?_
              refine lv_iload_n hx hb dX5_walk_93 rfl (lv_at hl 1 rfl) ?_
              obtain ⟨hi_94, h⟩ := ox_i_of h
              refine va_iald hx hb hK hP 4 0 rfl rfl hi_94 dX5_walk_94 ?_
              obtain ⟨hi_95, h⟩ := ox_i_of h
              refine va_iald hx hb hK hP 2 0 rfl rfl hi_95 dX5_walk_95 ?_
              refine lv_istore_n (lv' := [(2, .int (M_first (M_queue_77 v1_77.toNatClampNeg).toNatClampNeg)), (0, .ref (ad 5)), (1, .int v1_77)]) hx hb dX5_walk_96 rfl hl (by decide) rfl (fun ls hl => ?_)
              obtain ⟨ex_97, hex_97, h_97⟩ := ox_b_of h
              have hX_97 : ∀ (v2_97 : Int32) (M_come_97 : Int32) (M_queue_97 : Nat → Int32) (M_by_97 : Nat → Int32) (M_isReached_97 : Nat → Int32) (H : Heap) (locs : List Loc) (ls : Array Slot), (v2_97, M_come_97, M_queue_97, M_by_97, M_isReached_97) = ex_97 → va_P D vwCl [(kM ad M_thrown M_states M_moves 1 M_come_97 M_lookedAt M_parts M_whole), (kI cI (ad 34) 600 M_to), (kI cI (ad 37) 200 M_first), (kI cI (ad 39) 600 M_next), (kI cI (ad 41) 200 M_queue_97), (kI cI (ad 42) 200 M_by_97), (kZ cZ (ad 44) 200 M_isReached_97)] H → va_D A [(kM ad M_thrown M_states M_moves 1 M_come_97 M_lookedAt M_parts M_whole), (kI cI (ad 34) 600 M_to), (kI cI (ad 37) 200 M_first), (kI cI (ad 39) 600 M_next), (kI cI (ad 41) 200 M_queue_97), (kI cI (ad 42) 200 M_by_97), (kZ cZ (ad 44) 200 M_isReached_97)] → va_S A s.heap H locs → lv_has ls 3 [(0, .ref (ad 5)), (1, .int v1_77)] → W p l e { frames := 0, cells := 0, slots := 0, locals := 0 } s m ([.ref (ad 5)] : List Value).toArray below meth c H locs 0 0 Q (F0 m 175 ls []) := by
                intro v2_97 M_come_97 M_queue_97 M_by_97 M_isReached_97 H locs ls hex_97 hP hD hS hl
                subst hex_97
                have h := h_97
                refine lv_iinc (v := v1_77 + 1) (lv' := [(1, .int (v1_77 + 1)), (0, .ref (ad 5))]) hx hb dX5_walk_175 hl (k := 1) rfl rfl (by decide) rfl (fun ls hl => ?_)
                refine lv_goto (tgt := 77) hx hb dX5_walk_178 (by decide) ?_
                obtain rfl := Option.some.inj h
                exact ih_77 (v1_77 + 1) M_come_97 M_queue_97 M_by_97 M_isReached_97 H locs ls hlp_77 hP hD hS (lv_sub hl [1, 0] rfl)
              have hL_97 : ∀ (n : Nat) (v2_97 : Int32) (M_come_97 : Int32) (M_queue_97 : Nat → Int32) (M_by_97 : Nat → Int32) (M_isReached_97 : Nat → Int32) (H : Heap) (locs : List Loc) (ls : Array Slot), ox_l (fn_X5_walk_l97 M_to M_next) n (v2_97, M_come_97, M_queue_97, M_by_97, M_isReached_97) = some ex_97 → va_P D vwCl [(kM ad M_thrown M_states M_moves 1 M_come_97 M_lookedAt M_parts M_whole), (kI cI (ad 34) 600 M_to), (kI cI (ad 37) 200 M_first), (kI cI (ad 39) 600 M_next), (kI cI (ad 41) 200 M_queue_97), (kI cI (ad 42) 200 M_by_97), (kZ cZ (ad 44) 200 M_isReached_97)] H → va_D A [(kM ad M_thrown M_states M_moves 1 M_come_97 M_lookedAt M_parts M_whole), (kI cI (ad 34) 600 M_to), (kI cI (ad 37) 200 M_first), (kI cI (ad 39) 600 M_next), (kI cI (ad 41) 200 M_queue_97), (kI cI (ad 42) 200 M_by_97), (kZ cZ (ad 44) 200 M_isReached_97)] → va_S A s.heap H locs → lv_has ls 3 [(0, .ref (ad 5)), (1, .int v1_77), (2, .int v2_97)] → W p l e { frames := 0, cells := 0, slots := 0, locals := 0 } s m ([.ref (ad 5)] : List Value).toArray below meth c H locs 0 0 Q (F0 m 97 ls []) := by
                intro n
                induction n with
                | zero => intro v2_97 M_come_97 M_queue_97 M_by_97 M_isReached_97 H locs ls hlp; exact ox_l_0 hlp
                | succ n ih_97 =>
                  intro v2_97 M_come_97 M_queue_97 M_by_97 M_isReached_97 H locs ls hlp_97 hP hD hS hl
                  obtain ⟨z_97, h, hlp_97⟩ := ox_l_of hlp_97
                  refine lv_iload_n hx hb dX5_walk_97 rfl (lv_at hl 2 rfl) ?_
                  refine lv_iconst (v := (-1)) hx hb dX5_walk_98 (by decide) ?_
                  refine lv_icmp_eq (tgt := 175) hx hb dX5_walk_99 (by decide) (fun c_99 => ?_) (fun c_99 => ?_)
                  · have h := ox_t c_99 h
                    obtain rfl := Option.some.inj h
                    exact hX_97 v2_97 M_come_97 M_queue_97 M_by_97 M_isReached_97 H locs ls hlp_97 hP hD hS (lv_sub hl [0, 1] rfl)
                  · have h := ox_f c_99 h
                    refine lv_aload_n hx hb dX5_walk_102 rfl (lv_at hl 0 rfl) ?_
                    refine va_get (D := D) (ci := 5) (v := .ref (ad 44)) (C := RX5) (T := TX5) (N := 27) hx hb hts hiX5 hown hK hP 0 rfl rfl 17 (by decide) hk3 (fun _ h9 => h9) rfl dX5_walk_103 ?_
                    refine lv_aload_n hx hb dX5_walk_106 rfl (lv_at hl 0 rfl) ?_
                    refine va_get (D := D) (ci := 5) (v := .ref (ad 34)) (C := RX5) (T := TX5) (N := 27) hx hb hts hiX5 hown hK hP 0 rfl rfl 5 (by decide) hk7 (fun _ h9 => h9) rfl dX5_walk_107 ?_
                    refine lv_iload_n hx hb dX5_walk_110 rfl (lv_at hl 2 rfl) ?_
                    obtain ⟨hi_111, h⟩ := ox_i_of h
                    refine va_iald hx hb hK hP 1 0 rfl rfl hi_111 dX5_walk_111 ?_
                    obtain ⟨hi_112, h⟩ := ox_i_of h
                    refine va_zald hx hb hK hP 6 1 rfl rfl hi_112 dX5_walk_112 ?_
                    refine lv_if_ne (tgt := 165) hx hb dX5_walk_113 (by decide) (fun c_113 => ?_) (fun c_113 => ?_)
                    · have h := ox_f c_113 h
                      refine lv_aload_n hx hb dX5_walk_165 rfl (lv_at hl 0 rfl) ?_
                      refine va_get (D := D) (ci := 5) (v := .ref (ad 39)) (C := RX5) (T := TX5) (N := 27) hx hb hts hiX5 hown hK hP 0 rfl rfl 10 (by decide) hk8 (fun _ h9 => h9) rfl dX5_walk_166 ?_
                      refine lv_iload_n hx hb dX5_walk_169 rfl (lv_at hl 2 rfl) ?_
                      obtain ⟨hi_170, h⟩ := ox_i_of h
                      refine va_iald hx hb hK hP 3 0 rfl rfl hi_170 dX5_walk_170 ?_
                      refine lv_istore_n (lv' := [(2, .int (M_next v2_97.toNatClampNeg)), (0, .ref (ad 5)), (1, .int v1_77)]) hx hb dX5_walk_171 rfl hl (by decide) rfl (fun ls hl => ?_)
                      refine lv_goto (tgt := 97) hx hb dX5_walk_172 (by decide) ?_
                      obtain rfl := Option.some.inj h
                      exact ih_97 (M_next v2_97.toNatClampNeg) M_come_97 M_queue_97 M_by_97 M_isReached_97 H locs ls hlp_97 hP hD hS (lv_sub hl [1, 2, 0] rfl)
                    · have h := ox_t c_113 h
                      refine lv_aload_n hx hb dX5_walk_116 rfl (lv_at hl 0 rfl) ?_
                      refine va_get (D := D) (ci := 5) (v := .ref (ad 44)) (C := RX5) (T := TX5) (N := 27) hx hb hts hiX5 hown hK hP 0 rfl rfl 17 (by decide) hk3 (fun _ h9 => h9) rfl dX5_walk_117 ?_
                      refine lv_aload_n hx hb dX5_walk_120 rfl (lv_at hl 0 rfl) ?_
                      refine va_get (D := D) (ci := 5) (v := .ref (ad 34)) (C := RX5) (T := TX5) (N := 27) hx hb hts hiX5 hown hK hP 0 rfl rfl 5 (by decide) hk7 (fun _ h9 => h9) rfl dX5_walk_121 ?_
                      refine lv_iload_n hx hb dX5_walk_124 rfl (lv_at hl 2 rfl) ?_
                      obtain ⟨hi_125, h⟩ := ox_i_of h
                      refine va_iald hx hb hK hP 1 0 rfl rfl hi_125 dX5_walk_125 ?_
                      refine lv_iconst (v := 1) hx hb dX5_walk_126 (by decide) ?_
                      obtain ⟨hi_127, h⟩ := ox_i_of h
                      refine va_zast hx hb hK hP hD hS 6 1 rfl rfl hi_127 dX5_walk_127 (fun H locs hP hD hS => ?_)
                      have hP : va_P D vwCl [(kM ad M_thrown M_states M_moves 1 M_come_97 M_lookedAt M_parts M_whole), (kI cI (ad 34) 600 M_to), (kI cI (ad 37) 200 M_first), (kI cI (ad 39) 600 M_next), (kI cI (ad 41) 200 M_queue_97), (kI cI (ad 42) 200 M_by_97), (kZ cZ (ad 44) 200 (upd M_isReached_97 (M_to v2_97.toNatClampNeg).toNatClampNeg (vp_nar .boolean 1)))] H := hP
                      have hD : va_D A [(kM ad M_thrown M_states M_moves 1 M_come_97 M_lookedAt M_parts M_whole), (kI cI (ad 34) 600 M_to), (kI cI (ad 37) 200 M_first), (kI cI (ad 39) 600 M_next), (kI cI (ad 41) 200 M_queue_97), (kI cI (ad 42) 200 M_by_97), (kZ cZ (ad 44) 200 (upd M_isReached_97 (M_to v2_97.toNatClampNeg).toNatClampNeg (vp_nar .boolean 1)))] := hD
                      refine lv_aload_n hx hb dX5_walk_128 rfl (lv_at hl 0 rfl) ?_
                      refine va_get (D := D) (ci := 5) (v := .ref (ad 42)) (C := RX5) (T := TX5) (N := 27) hx hb hts hiX5 hown hK hP 0 rfl rfl 15 (by decide) hk4 (fun _ h9 => h9) rfl dX5_walk_129 ?_
                      refine lv_aload_n hx hb dX5_walk_132 rfl (lv_at hl 0 rfl) ?_
                      refine va_get (D := D) (ci := 5) (v := .ref (ad 34)) (C := RX5) (T := TX5) (N := 27) hx hb hts hiX5 hown hK hP 0 rfl rfl 5 (by decide) hk7 (fun _ h9 => h9) rfl dX5_walk_133 ?_
                      refine lv_iload_n hx hb dX5_walk_136 rfl (lv_at hl 2 rfl) ?_
                      obtain ⟨hi_137, h⟩ := ox_i_of h
                      refine va_iald hx hb hK hP 1 0 rfl rfl hi_137 dX5_walk_137 ?_
                      refine lv_iload_n hx hb dX5_walk_138 rfl (lv_at hl 2 rfl) ?_
                      obtain ⟨hi_139, h⟩ := ox_i_of h
                      refine va_iast hx hb hK hP hD hS 5 0 rfl rfl hi_139 dX5_walk_139 (fun H locs hP hD hS => ?_)
                      have hP : va_P D vwCl [(kM ad M_thrown M_states M_moves 1 M_come_97 M_lookedAt M_parts M_whole), (kI cI (ad 34) 600 M_to), (kI cI (ad 37) 200 M_first), (kI cI (ad 39) 600 M_next), (kI cI (ad 41) 200 M_queue_97), (kI cI (ad 42) 200 (upd M_by_97 (M_to v2_97.toNatClampNeg).toNatClampNeg v2_97)), (kZ cZ (ad 44) 200 (upd M_isReached_97 (M_to v2_97.toNatClampNeg).toNatClampNeg (vp_nar .boolean 1)))] H := hP
                      have hD : va_D A [(kM ad M_thrown M_states M_moves 1 M_come_97 M_lookedAt M_parts M_whole), (kI cI (ad 34) 600 M_to), (kI cI (ad 37) 200 M_first), (kI cI (ad 39) 600 M_next), (kI cI (ad 41) 200 M_queue_97), (kI cI (ad 42) 200 (upd M_by_97 (M_to v2_97.toNatClampNeg).toNatClampNeg v2_97)), (kZ cZ (ad 44) 200 (upd M_isReached_97 (M_to v2_97.toNatClampNeg).toNatClampNeg (vp_nar .boolean 1)))] := hD
                      refine lv_aload_n hx hb dX5_walk_140 rfl (lv_at hl 0 rfl) ?_
                      refine va_get (D := D) (ci := 5) (v := .ref (ad 41)) (C := RX5) (T := TX5) (N := 27) hx hb hts hiX5 hown hK hP 0 rfl rfl 14 (by decide) hk5 (fun _ h9 => h9) rfl dX5_walk_141 ?_
                      refine lv_aload_n hx hb dX5_walk_144 rfl (lv_at hl 0 rfl) ?_
                      refine va_get (D := D) (ci := 5) (v := .int M_come_97) (C := RX5) (T := TX5) (N := 27) hx hb hts hiX5 hown hK hP 0 rfl rfl 13 (by decide) hk1 (fun _ h9 => h9) rfl dX5_walk_145 ?_
                      refine lv_aload_n hx hb dX5_walk_148 rfl (lv_at hl 0 rfl) ?_
                      refine va_get (D := D) (ci := 5) (v := .ref (ad 34)) (C := RX5) (T := TX5) (N := 27) hx hb hts hiX5 hown hK hP 0 rfl rfl 5 (by decide) hk7 (fun _ h9 => h9) rfl dX5_walk_149 ?_
                      refine lv_iload_n hx hb dX5_walk_152 rfl (lv_at hl 2 rfl) ?_
                      obtain ⟨hi_153, h⟩ := ox_i_of h
                      refine va_iald hx hb hK hP 1 0 rfl rfl hi_153 dX5_walk_153 ?_
                      obtain ⟨hi_154, h⟩ := ox_i_of h
                      refine va_iast hx hb hK hP hD hS 4 0 rfl rfl hi_154 dX5_walk_154 (fun H locs hP hD hS => ?_)
                      have hP : va_P D vwCl [(kM ad M_thrown M_states M_moves 1 M_come_97 M_lookedAt M_parts M_whole), (kI cI (ad 34) 600 M_to), (kI cI (ad 37) 200 M_first), (kI cI (ad 39) 600 M_next), (kI cI (ad 41) 200 (upd M_queue_97 M_come_97.toNatClampNeg (M_to v2_97.toNatClampNeg))), (kI cI (ad 42) 200 (upd M_by_97 (M_to v2_97.toNatClampNeg).toNatClampNeg v2_97)), (kZ cZ (ad 44) 200 (upd M_isReached_97 (M_to v2_97.toNatClampNeg).toNatClampNeg (vp_nar .boolean 1)))] H := hP
                      have hD : va_D A [(kM ad M_thrown M_states M_moves 1 M_come_97 M_lookedAt M_parts M_whole), (kI cI (ad 34) 600 M_to), (kI cI (ad 37) 200 M_first), (kI cI (ad 39) 600 M_next), (kI cI (ad 41) 200 (upd M_queue_97 M_come_97.toNatClampNeg (M_to v2_97.toNatClampNeg))), (kI cI (ad 42) 200 (upd M_by_97 (M_to v2_97.toNatClampNeg).toNatClampNeg v2_97)), (kZ cZ (ad 44) 200 (upd M_isReached_97 (M_to v2_97.toNatClampNeg).toNatClampNeg (vp_nar .boolean 1)))] := hD
                      refine lv_aload_n hx hb dX5_walk_155 rfl (lv_at hl 0 rfl) ?_
                      refine lv_dup hx hb dX5_walk_156 rfl ?_
                      refine va_get (D := D) (ci := 5) (v := .int M_come_97) (C := RX5) (T := TX5) (N := 27) hx hb hts hiX5 hown hK hP 0 rfl rfl 13 (by decide) hk1 (fun _ h9 => h9) rfl dX5_walk_157 ?_
                      refine lv_iconst (v := 1) hx hb dX5_walk_160 (by decide) ?_
                      refine lv_iadd hx hb dX5_walk_161 ?_
                      refine va_put (D := D) (ci := 5) (v := .int (M_come_97 + 1)) (ty := .int) (C := RX5) (T := TX5) (N := 27) hx hb hts hiX5 tyX5 tyX5_ok nmX5 hown hK hP hD hS 0 rfl rfl 13 (by decide) hk1 (fun _ h9 => h9) rfl (by decide +kernel) rfl rfl (Nat.le_of_ble_eq_true rfl) dX5_walk_162 (fun H locs hP hD hS => ?_)
                      have hP : va_P D vwCl [(kM ad M_thrown M_states M_moves 1 (M_come_97 + 1) M_lookedAt M_parts M_whole), (kI cI (ad 34) 600 M_to), (kI cI (ad 37) 200 M_first), (kI cI (ad 39) 600 M_next), (kI cI (ad 41) 200 (upd M_queue_97 M_come_97.toNatClampNeg (M_to v2_97.toNatClampNeg))), (kI cI (ad 42) 200 (upd M_by_97 (M_to v2_97.toNatClampNeg).toNatClampNeg v2_97)), (kZ cZ (ad 44) 200 (upd M_isReached_97 (M_to v2_97.toNatClampNeg).toNatClampNeg (vp_nar .boolean 1)))] H := hP
                      have hD : va_D A [(kM ad M_thrown M_states M_moves 1 (M_come_97 + 1) M_lookedAt M_parts M_whole), (kI cI (ad 34) 600 M_to), (kI cI (ad 37) 200 M_first), (kI cI (ad 39) 600 M_next), (kI cI (ad 41) 200 (upd M_queue_97 M_come_97.toNatClampNeg (M_to v2_97.toNatClampNeg))), (kI cI (ad 42) 200 (upd M_by_97 (M_to v2_97.toNatClampNeg).toNatClampNeg v2_97)), (kZ cZ (ad 44) 200 (upd M_isReached_97 (M_to v2_97.toNatClampNeg).toNatClampNeg (vp_nar .boolean 1)))] := hD
                      refine lv_aload_n hx hb dX5_walk_165 rfl (lv_at hl 0 rfl) ?_
                      refine va_get (D := D) (ci := 5) (v := .ref (ad 39)) (C := RX5) (T := TX5) (N := 27) hx hb hts hiX5 hown hK hP 0 rfl rfl 10 (by decide) hk8 (fun _ h9 => h9) rfl dX5_walk_166 ?_
                      refine lv_iload_n hx hb dX5_walk_169 rfl (lv_at hl 2 rfl) ?_
                      obtain ⟨hi_170, h⟩ := ox_i_of h
                      refine va_iald hx hb hK hP 3 0 rfl rfl hi_170 dX5_walk_170 ?_
                      refine lv_istore_n (lv' := [(2, .int (M_next v2_97.toNatClampNeg)), (0, .ref (ad 5)), (1, .int v1_77)]) hx hb dX5_walk_171 rfl hl (by decide) rfl (fun ls hl => ?_)
                      refine lv_goto (tgt := 97) hx hb dX5_walk_172 (by decide) ?_
                      obtain rfl := Option.some.inj h
                      exact ih_97 (M_next v2_97.toNatClampNeg) (M_come_97 + 1) (upd M_queue_97 M_come_97.toNatClampNeg (M_to v2_97.toNatClampNeg)) (upd M_by_97 (M_to v2_97.toNatClampNeg).toNatClampNeg v2_97) (upd M_isReached_97 (M_to v2_97.toNatClampNeg).toNatClampNeg (vp_nar .boolean 1)) H locs ls hlp_97 hP hD hS (lv_sub hl [1, 2, 0] rfl)
              exact hL_97 1000000 (M_first (M_queue_77 v1_77.toNatClampNeg).toNatClampNeg) M_come_77 M_queue_77 M_by_77 M_isReached_77 H locs ls hex_97 hP hD hS (lv_sub hl [1, 2, 0] rfl)
        exact hL_77 1000000 0 1 (upd M_queue (0 : Int32).toNatClampNeg 0) (upd M_by (0 : Int32).toNatClampNeg (-1)) (upd M_isReached_20 (0 : Int32).toNatClampNeg (vp_nar .boolean 1)) H locs ls hex_77 hP hD hS (lv_sub hl [1, 0] rfl)
      · have h := ox_t c_45 h
        have h := Option.some.inj h
        subst h
        exact hend H locs _ ls hP hD hS dX5_walk_48 trivial
    have hL_20 : ∀ (n : Nat) (v1_20 : Int32) (M_isReached_20 : Nat → Int32) (H : Heap) (locs : List Loc) (ls : Array Slot), ox_l (fn_X5_walk_l20 M_states) n (v1_20, M_isReached_20) = some ex_20 → va_P D vwCl [(kM ad M_thrown M_states M_moves 1 0 M_lookedAt M_parts M_whole), (kI cI (ad 34) 600 M_to), (kI cI (ad 37) 200 M_first), (kI cI (ad 39) 600 M_next), (kI cI (ad 41) 200 M_queue), (kI cI (ad 42) 200 M_by), (kZ cZ (ad 44) 200 M_isReached_20)] H → va_D A [(kM ad M_thrown M_states M_moves 1 0 M_lookedAt M_parts M_whole), (kI cI (ad 34) 600 M_to), (kI cI (ad 37) 200 M_first), (kI cI (ad 39) 600 M_next), (kI cI (ad 41) 200 M_queue), (kI cI (ad 42) 200 M_by), (kZ cZ (ad 44) 200 M_isReached_20)] → va_S A s.heap H locs → lv_has ls 3 [(0, .ref (ad 5)), (1, .int v1_20)] → W p l e { frames := 0, cells := 0, slots := 0, locals := 0 } s m ([.ref (ad 5)] : List Value).toArray below meth c H locs 0 0 Q (F0 m 20 ls []) := by
      intro n
      induction n with
      | zero => intro v1_20 M_isReached_20 H locs ls hlp; exact ox_l_0 hlp
      | succ n ih_20 =>
        intro v1_20 M_isReached_20 H locs ls hlp_20 hP hD hS hl
        obtain ⟨z_20, h, hlp_20⟩ := ox_l_of hlp_20
        refine lv_iload_n hx hb dX5_walk_20 rfl (lv_at hl 1 rfl) ?_
        refine lv_aload_n hx hb dX5_walk_21 rfl (lv_at hl 0 rfl) ?_
        refine va_get (D := D) (ci := 5) (v := .int M_states) (C := RX5) (T := TX5) (N := 27) hx hb hts hiX5 hown hK hP 0 rfl rfl 1 (by decide) hk2 (fun _ h9 => h9) rfl dX5_walk_22 ?_
        refine lv_icmp_ge (tgt := 41) hx hb dX5_walk_25 (by decide) (fun c_25 => ?_) (fun c_25 => ?_)
        · have h := ox_t c_25 h
          obtain rfl := Option.some.inj h
          exact hX_20 v1_20 M_isReached_20 H locs ls hlp_20 hP hD hS (lv_sub hl [0] rfl)
        · have h := ox_f c_25 h
          refine lv_aload_n hx hb dX5_walk_28 rfl (lv_at hl 0 rfl) ?_
          refine va_get (D := D) (ci := 5) (v := .ref (ad 44)) (C := RX5) (T := TX5) (N := 27) hx hb hts hiX5 hown hK hP 0 rfl rfl 17 (by decide) hk3 (fun _ h9 => h9) rfl dX5_walk_29 ?_
          refine lv_iload_n hx hb dX5_walk_32 rfl (lv_at hl 1 rfl) ?_
          refine lv_iconst (v := 0) hx hb dX5_walk_33 (by decide) ?_
          obtain ⟨hi_34, h⟩ := ox_i_of h
          refine va_zast hx hb hK hP hD hS 6 1 rfl rfl hi_34 dX5_walk_34 (fun H locs hP hD hS => ?_)
          have hP : va_P D vwCl [(kM ad M_thrown M_states M_moves 1 0 M_lookedAt M_parts M_whole), (kI cI (ad 34) 600 M_to), (kI cI (ad 37) 200 M_first), (kI cI (ad 39) 600 M_next), (kI cI (ad 41) 200 M_queue), (kI cI (ad 42) 200 M_by), (kZ cZ (ad 44) 200 (upd M_isReached_20 v1_20.toNatClampNeg (vp_nar .boolean 0)))] H := hP
          have hD : va_D A [(kM ad M_thrown M_states M_moves 1 0 M_lookedAt M_parts M_whole), (kI cI (ad 34) 600 M_to), (kI cI (ad 37) 200 M_first), (kI cI (ad 39) 600 M_next), (kI cI (ad 41) 200 M_queue), (kI cI (ad 42) 200 M_by), (kZ cZ (ad 44) 200 (upd M_isReached_20 v1_20.toNatClampNeg (vp_nar .boolean 0)))] := hD
          refine lv_iinc (v := v1_20 + 1) (lv' := [(1, .int (v1_20 + 1)), (0, .ref (ad 5))]) hx hb dX5_walk_35 hl (k := 1) rfl rfl (by decide) rfl (fun ls hl => ?_)
          refine lv_goto (tgt := 20) hx hb dX5_walk_38 (by decide) ?_
          obtain rfl := Option.some.inj h
          exact ih_20 (v1_20 + 1) (upd M_isReached_20 v1_20.toNatClampNeg (vp_nar .boolean 0)) H locs ls hlp_20 hP hD hS (lv_sub hl [1, 0] rfl)
    exact hL_20 1000000 0 M_isReached H locs ls hex_20 hP hD hS (lv_sub hl [1, 0] rfl)
  · have h := ox_f c_4 h
    have h := Option.some.inj h
    subst h
    exact hend H locs _ ls hP hD hS dX5_walk_7 trivial
set_option maxHeartbeats 4000000 in
set_option maxRecDepth 100000 in
theorem c_X5_reached (l : Launch) (D : va_G) (cI cZ : ClassId) (ad : Nat → Nat) (M_thrown : Int32) (M_states : Int32) (M_moves : Int32) (M_known : Int32) (M_come : Int32) (M_lookedAt : Int32) (M_parts : Int32) (M_whole : Int32) (M_to : Nat → Int32) (M_first : Nat → Int32) (M_next : Nat → Int32) (M_queue : Nat → Int32) (M_by : Nat → Int32) (M_isReached : Nat → Int32) (res : Int32 × Int32 × Int32 × Int32 × (Nat → Int32) × (Nat → Int32) × (Nat → Int32)) (h : fn_X5_reached M_thrown M_states M_known M_come M_to M_first M_next M_queue M_by M_isReached = some res) : mc_C l yX5_reached wv_X5_reached { frames := 1, cells := 0, slots := 0, locals := 22 } D [(cI, .int), (cZ, .boolean)] [.ref (ad 5)] [(kM ad M_thrown M_states M_moves M_known M_come M_lookedAt M_parts M_whole), (kI cI (ad 34) 600 M_to), (kI cI (ad 37) 200 M_first), (kI cI (ad 39) 600 M_next), (kI cI (ad 41) 200 M_queue), (kI cI (ad 42) 200 M_by), (kZ cZ (ad 44) 200 M_isReached)] (some (.int res.1)) [(kM ad res.2.1 M_states M_moves res.2.2.1 res.2.2.2.1 M_lookedAt M_parts M_whole), (kI cI (ad 34) 600 M_to), (kI cI (ad 37) 200 M_first), (kI cI (ad 39) 600 M_next), (kI cI (ad 41) 200 res.2.2.2.2.1), (kI cI (ad 42) 200 res.2.2.2.2.2.1), (kZ cZ (ad 44) 200 res.2.2.2.2.2.2)] := by
  refine mc_ofi (own := RX5) (by decide) rfl rfl (Nat.le_of_ble_eq_true rfl) ?_
  intro p e s m below meth c A Q ls hx hb hml hown hts hK hP hD hA hl hend
  have hS : va_S A s.heap s.heap [] := va_S.rf
  have hl : lv_has ls 1 [(0, .ref (ad 5))] := hl
  obtain ⟨H, hH⟩ : ∃ H, H = s.heap := ⟨_, rfl⟩
  obtain ⟨locs, hlo⟩ : ∃ locs : List Loc, locs = [] := ⟨_, rfl⟩
  have hS : va_S A s.heap H locs := by rw [hH, hlo]; exact hS
  have hP : va_P D vwCl [(kM ad M_thrown M_states M_moves M_known M_come M_lookedAt M_parts M_whole), (kI cI (ad 34) 600 M_to), (kI cI (ad 37) 200 M_first), (kI cI (ad 39) 600 M_next), (kI cI (ad 41) 200 M_queue), (kI cI (ad 42) 200 M_by), (kZ cZ (ad 44) 200 M_isReached)] H := by rw [hH]; exact hP
  suffices h9 : W p l e { frames := 1, cells := 0, slots := 0, locals := 22 } s m ([.ref (ad 5)] : List Value).toArray below meth c H locs 0 0 Q (F0 m 0 ls []) by rw [hH, hlo] at h9; exact h9
  clear hH hlo
  have hiX5 : ∀ w ∈ wsX50, w ∈ wv_X5_reached := fun w h => List.mem_cons_of_mem _ (inlX5 w h)
  have hk0 := hts (.fieldLink RX5 73 "FairLoopsModel" "thrown" "I") (List.mem_cons_of_mem _ wk_121)
  have hk1 := hts (.fieldLink RX5 93 "FairLoopsModel" "come" "I") (List.mem_cons_of_mem _ wk_195)
  refine lv_aload_n hx hb dX5_reached_0 rfl (lv_at hl 0 rfl) ?_
  refine lv_iconst (v := 0) hx hb dX5_reached_1 (by decide) ?_
  refine va_put (D := D) (ci := 5) (v := .int 0) (ty := .int) (C := RX5) (T := TX5) (N := 27) hx hb hts hiX5 tyX5 tyX5_ok nmX5 hown hK hP hD hS 0 rfl rfl 0 (by decide) hk0 (fun _ h9 => h9) rfl (by decide +kernel) rfl rfl (Nat.le_of_ble_eq_true rfl) dX5_reached_2 (fun H locs hP hD hS => ?_)
  have hP : va_P D vwCl [(kM ad 0 M_states M_moves M_known M_come M_lookedAt M_parts M_whole), (kI cI (ad 34) 600 M_to), (kI cI (ad 37) 200 M_first), (kI cI (ad 39) 600 M_next), (kI cI (ad 41) 200 M_queue), (kI cI (ad 42) 200 M_by), (kZ cZ (ad 44) 200 M_isReached)] H := hP
  have hD : va_D A [(kM ad 0 M_states M_moves M_known M_come M_lookedAt M_parts M_whole), (kI cI (ad 34) 600 M_to), (kI cI (ad 37) 200 M_first), (kI cI (ad 39) 600 M_next), (kI cI (ad 41) 200 M_queue), (kI cI (ad 42) 200 M_by), (kZ cZ (ad 44) 200 M_isReached)] := hD
  refine lv_aload_n hx hb dX5_reached_5 rfl (lv_at hl 0 rfl) ?_
  obtain ⟨⟨M_known_6, M_come_6, M_queue_6, M_by_6, M_isReached_6⟩, hc_6, h⟩ := ox_b_of h
  refine mc_callV (As := []) (rest := []) (b := ad 5) (Wc := [(kM ad 0 M_states M_moves M_known M_come M_lookedAt M_parts M_whole), (kI cI (ad 34) 600 M_to), (kI cI (ad 37) 200 M_first), (kI cI (ad 39) 600 M_next), (kI cI (ad 41) 200 M_queue), (kI cI (ad 42) 200 M_by), (kZ cZ (ad 44) 200 M_isReached)]) (wr := []) (W1 := [(kM ad 0 M_states M_moves M_known_6 M_come_6 M_lookedAt M_parts M_whole), (kI cI (ad 34) 600 M_to), (kI cI (ad 37) 200 M_first), (kI cI (ad 39) 600 M_next), (kI cI (ad 41) 200 M_queue_6), (kI cI (ad 42) 200 M_by_6), (kZ cZ (ad 44) 200 M_isReached_6)]) (wn := [(kM ad 0 M_states M_moves M_known_6 M_come_6 M_lookedAt M_parts M_whole), (kI cI (ad 34) 600 M_to), (kI cI (ad 37) 200 M_first), (kI cI (ad 39) 600 M_next), (kI cI (ad 41) 200 M_queue_6), (kI cI (ad 42) 200 M_by_6), (kZ cZ (ad 44) 200 M_isReached_6)]) (rv := none) ⟨hx, hb, hml, hown, hts⟩ (c_X5_walk l D cI cZ ad 0 M_states M_moves M_known M_come M_lookedAt M_parts M_whole M_to M_first M_next M_queue M_by M_isReached  _ hc_6) (cwV 0 hts (gl_V wk_196 wk_197 wk_198 wk_5 wk_199) rfl rfl rfl (by decide +kernel) ⟨Nat.le_of_ble_eq_true rfl, Nat.le_of_ble_eq_true rfl⟩) hK hP hD hS hA 5 0 rfl rfl rfl [0, 1, 2, 3, 4, 5, 6] [] [0, 1, 2, 3, 4, 5, 6] rfl rfl (by decide) rfl (by decide) (by decide) rfl rfl (by decide) rfl rfl hl.1 (Nat.le_of_ble_eq_true rfl) dX5_reached_6 ⟨Nat.zero_le _, Nat.zero_le _⟩ (fun H locs hP hD hS => ?_)
  show W p l e { frames := 1, cells := 0, slots := 0, locals := 22 } s m ([.ref (ad 5)] : List Value).toArray below meth c H locs 0 0 Q (F0 m 9 ls [])
  refine lv_aload_n hx hb dX5_reached_9 rfl (lv_at hl 0 rfl) ?_
  refine va_get (D := D) (ci := 5) (v := .int M_come_6) (C := RX5) (T := TX5) (N := 27) hx hb hts hiX5 hown hK hP 0 rfl rfl 13 (by decide) hk1 (fun _ h9 => h9) rfl dX5_reached_10 ?_
  have h := Option.some.inj h
  subst h
  exact hend H locs _ ls hP hD hS dX5_reached_13 trivial
set_option maxHeartbeats 4000000 in
set_option maxRecDepth 100000 in
theorem c_X5_row (l : Launch) (D : va_G) (cI cZ : ClassId) (ad : Nat → Nat) (M_thrown : Int32) (M_states : Int32) (M_moves : Int32) (M_known : Int32) (M_come : Int32) (M_lookedAt : Int32) (M_parts : Int32) (M_whole : Int32) (M_from : Nat → Int32) (M_to : Nat → Int32) (M_first : Nat → Int32) (M_next : Nat → Int32) (M_queue : Nat → Int32) (M_by : Nat → Int32) (M_row : Nat → Int32) (M_isReached : Nat → Int32) (a1 : Int32) (a2 : Int32) (res : Int32 × Int32 × Int32 × Int32 × (Nat → Int32) × (Nat → Int32) × (Nat → Int32) × (Nat → Int32)) (h : fn_X5_row M_thrown M_states M_known M_come M_from M_to M_first M_next M_queue M_by M_row M_isReached a1 a2 = some res) : mc_C l yX5_row wv_X5_row { frames := 1, cells := 0, slots := 0, locals := 22 } D [(cI, .int), (cZ, .boolean)] [.ref (ad 5), .int a1, .int a2] [(kM ad M_thrown M_states M_moves M_known M_come M_lookedAt M_parts M_whole), (kI cI (ad 33) 600 M_from), (kI cI (ad 34) 600 M_to), (kI cI (ad 37) 200 M_first), (kI cI (ad 39) 600 M_next), (kI cI (ad 41) 200 M_queue), (kI cI (ad 42) 200 M_by), (kI cI (ad 43) 200 M_row), (kZ cZ (ad 44) 200 M_isReached)] (some (.int res.1)) [(kM ad res.2.1 M_states M_moves res.2.2.1 res.2.2.2.1 M_lookedAt M_parts M_whole), (kI cI (ad 33) 600 M_from), (kI cI (ad 34) 600 M_to), (kI cI (ad 37) 200 M_first), (kI cI (ad 39) 600 M_next), (kI cI (ad 41) 200 res.2.2.2.2.1), (kI cI (ad 42) 200 res.2.2.2.2.2.1), (kI cI (ad 43) 200 res.2.2.2.2.2.2.1), (kZ cZ (ad 44) 200 res.2.2.2.2.2.2.2)] := by
  refine mc_ofi (own := RX5) (by decide) rfl rfl (Nat.le_of_ble_eq_true rfl) ?_
  intro p e s m below meth c A Q ls hx hb hml hown hts hK hP hD hA hl hend
  have hS : va_S A s.heap s.heap [] := va_S.rf
  have hl : lv_has ls 5 [(0, .ref (ad 5)), (1, .int a1), (2, .int a2)] := hl
  obtain ⟨H, hH⟩ : ∃ H, H = s.heap := ⟨_, rfl⟩
  obtain ⟨locs, hlo⟩ : ∃ locs : List Loc, locs = [] := ⟨_, rfl⟩
  have hS : va_S A s.heap H locs := by rw [hH, hlo]; exact hS
  have hP : va_P D vwCl [(kM ad M_thrown M_states M_moves M_known M_come M_lookedAt M_parts M_whole), (kI cI (ad 33) 600 M_from), (kI cI (ad 34) 600 M_to), (kI cI (ad 37) 200 M_first), (kI cI (ad 39) 600 M_next), (kI cI (ad 41) 200 M_queue), (kI cI (ad 42) 200 M_by), (kI cI (ad 43) 200 M_row), (kZ cZ (ad 44) 200 M_isReached)] H := by rw [hH]; exact hP
  suffices h9 : W p l e { frames := 1, cells := 0, slots := 0, locals := 22 } s m ([.ref (ad 5), .int a1, .int a2] : List Value).toArray below meth c H locs 0 0 Q (F0 m 0 ls []) by rw [hH, hlo] at h9; exact h9
  clear hH hlo
  have hiX5 : ∀ w ∈ wsX50, w ∈ wv_X5_row := fun w h => List.mem_cons_of_mem _ (inlX5 w h)
  have hk0 := hts (.fieldLink RX5 73 "FairLoopsModel" "thrown" "I") (List.mem_cons_of_mem _ wk_121)
  have hk1 := hts (.fieldLink RX5 47 "FairLoopsModel" "isReached" "[Z") (List.mem_cons_of_mem _ wk_85)
  have hk2 := hts (.fieldLink RX5 44 "FairLoopsModel" "row" "[I") (List.mem_cons_of_mem _ wk_84)
  have hk3 := hts (.fieldLink RX5 41 "FairLoopsModel" "by" "[I") (List.mem_cons_of_mem _ wk_83)
  have hk4 := hts (.fieldLink RX5 13 "FairLoopsModel" "from" "[I") (List.mem_cons_of_mem _ wk_74)
  refine lv_aload_n hx hb dX5_row_0 rfl (lv_at hl 0 rfl) ?_
  refine lv_aload_n hx hb dX5_row_1 rfl (lv_at hl 0 rfl) ?_
  refine lv_iload_n hx hb dX5_row_2 rfl (lv_at hl 1 rfl) ?_
  obtain ⟨r_3, hc_3, h⟩ := ox_b_of h
  refine mc_callV (As := [.int a1]) (rest := [.ref (ad 5)]) (b := ad 5) (Wc := [(kM ad M_thrown M_states M_moves M_known M_come M_lookedAt M_parts M_whole)]) (wr := [(kI cI (ad 33) 600 M_from), (kI cI (ad 34) 600 M_to), (kI cI (ad 37) 200 M_first), (kI cI (ad 39) 600 M_next), (kI cI (ad 41) 200 M_queue), (kI cI (ad 42) 200 M_by), (kI cI (ad 43) 200 M_row), (kZ cZ (ad 44) 200 M_isReached)]) (W1 := [(kM ad M_thrown M_states M_moves M_known M_come M_lookedAt M_parts M_whole)]) (wn := [(kM ad M_thrown M_states M_moves M_known M_come M_lookedAt M_parts M_whole), (kI cI (ad 33) 600 M_from), (kI cI (ad 34) 600 M_to), (kI cI (ad 37) 200 M_first), (kI cI (ad 39) 600 M_next), (kI cI (ad 41) 200 M_queue), (kI cI (ad 42) 200 M_by), (kI cI (ad 43) 200 M_row), (kZ cZ (ad 44) 200 M_isReached)]) (rv := some (.int r_3)) ⟨hx, hb, hml, hown, hts⟩ (c_X5_isState l D cI cZ ad M_thrown M_states M_moves M_known M_come M_lookedAt M_parts M_whole a1 _ hc_3) (cwV 1 hts (gl_V wk_155 wk_156 wk_157 wk_5 wk_158) rfl rfl rfl (by decide +kernel) ⟨Nat.le_of_ble_eq_true rfl, Nat.le_of_ble_eq_true rfl⟩) hK hP hD hS hA 5 0 rfl rfl rfl [0] [1, 2, 3, 4, 5, 6, 7, 8] [8, 0, 1, 2, 3, 4, 5, 6, 7] rfl rfl (by decide) rfl (by decide) (by decide) rfl rfl (by decide) rfl rfl hl.1 (Nat.le_of_ble_eq_true rfl) dX5_row_3 ⟨Nat.zero_le _, Nat.zero_le _⟩ (fun H locs hP hD hS => ?_)
  show W p l e { frames := 1, cells := 0, slots := 0, locals := 22 } s m ([.ref (ad 5), .int a1, .int a2] : List Value).toArray below meth c H locs 0 0 Q (F0 m 6 ls [.int r_3, .ref (ad 5)])
  have hJ_18 : ∀ (t0_18 : Int32) (H : Heap) (locs : List Loc) (ls : Array Slot), fn_X5_row_j18 M_states M_known M_come M_to M_first M_next M_queue M_by M_isReached a1 M_row M_from a2 t0_18 = some res → va_P D vwCl [(kM ad M_thrown M_states M_moves M_known M_come M_lookedAt M_parts M_whole), (kI cI (ad 33) 600 M_from), (kI cI (ad 34) 600 M_to), (kI cI (ad 37) 200 M_first), (kI cI (ad 39) 600 M_next), (kI cI (ad 41) 200 M_queue), (kI cI (ad 42) 200 M_by), (kI cI (ad 43) 200 M_row), (kZ cZ (ad 44) 200 M_isReached)] H → va_D A [(kM ad M_thrown M_states M_moves M_known M_come M_lookedAt M_parts M_whole), (kI cI (ad 33) 600 M_from), (kI cI (ad 34) 600 M_to), (kI cI (ad 37) 200 M_first), (kI cI (ad 39) 600 M_next), (kI cI (ad 41) 200 M_queue), (kI cI (ad 42) 200 M_by), (kI cI (ad 43) 200 M_row), (kZ cZ (ad 44) 200 M_isReached)] → va_S A s.heap H locs → lv_has ls 5 [(0, .ref (ad 5)), (1, .int a1), (2, .int a2)] → W p l e { frames := 1, cells := 0, slots := 0, locals := 22 } s m ([.ref (ad 5), .int a1, .int a2] : List Value).toArray below meth c H locs 0 0 Q (F0 m 18 ls [.int t0_18, .ref (ad 5)]) := by
    intro t0_18 H locs ls h hP hD hS hl
    refine va_put (D := D) (ci := 5) (v := .int t0_18) (ty := .int) (C := RX5) (T := TX5) (N := 27) hx hb hts hiX5 tyX5 tyX5_ok nmX5 hown hK hP hD hS 0 rfl rfl 0 (by decide) hk0 (fun _ h9 => h9) rfl (by decide +kernel) rfl rfl (Nat.le_of_ble_eq_true rfl) dX5_row_18 (fun H locs hP hD hS => ?_)
    have hP : va_P D vwCl [(kM ad t0_18 M_states M_moves M_known M_come M_lookedAt M_parts M_whole), (kI cI (ad 33) 600 M_from), (kI cI (ad 34) 600 M_to), (kI cI (ad 37) 200 M_first), (kI cI (ad 39) 600 M_next), (kI cI (ad 41) 200 M_queue), (kI cI (ad 42) 200 M_by), (kI cI (ad 43) 200 M_row), (kZ cZ (ad 44) 200 M_isReached)] H := hP
    have hD : va_D A [(kM ad t0_18 M_states M_moves M_known M_come M_lookedAt M_parts M_whole), (kI cI (ad 33) 600 M_from), (kI cI (ad 34) 600 M_to), (kI cI (ad 37) 200 M_first), (kI cI (ad 39) 600 M_next), (kI cI (ad 41) 200 M_queue), (kI cI (ad 42) 200 M_by), (kI cI (ad 43) 200 M_row), (kZ cZ (ad 44) 200 M_isReached)] := hD
    refine lv_aload_n hx hb dX5_row_21 rfl (lv_at hl 0 rfl) ?_
    refine va_get (D := D) (ci := 5) (v := .int t0_18) (C := RX5) (T := TX5) (N := 27) hx hb hts hiX5 hown hK hP 0 rfl rfl 0 (by decide) hk0 (fun _ h9 => h9) rfl dX5_row_22 ?_
    refine lv_if_le (tgt := 30) hx hb dX5_row_25 (by decide) (fun c_25 => ?_) (fun c_25 => ?_)
    · have h := ox_t c_25 h
      refine lv_aload_n hx hb dX5_row_30 rfl (lv_at hl 0 rfl) ?_
      obtain ⟨⟨M_known_31, M_come_31, M_queue_31, M_by_31, M_isReached_31⟩, hc_31, h⟩ := ox_b_of h
      refine mc_callV (As := []) (rest := []) (b := ad 5) (Wc := [(kM ad t0_18 M_states M_moves M_known M_come M_lookedAt M_parts M_whole), (kI cI (ad 34) 600 M_to), (kI cI (ad 37) 200 M_first), (kI cI (ad 39) 600 M_next), (kI cI (ad 41) 200 M_queue), (kI cI (ad 42) 200 M_by), (kZ cZ (ad 44) 200 M_isReached)]) (wr := [(kI cI (ad 33) 600 M_from), (kI cI (ad 43) 200 M_row)]) (W1 := [(kM ad t0_18 M_states M_moves M_known_31 M_come_31 M_lookedAt M_parts M_whole), (kI cI (ad 34) 600 M_to), (kI cI (ad 37) 200 M_first), (kI cI (ad 39) 600 M_next), (kI cI (ad 41) 200 M_queue_31), (kI cI (ad 42) 200 M_by_31), (kZ cZ (ad 44) 200 M_isReached_31)]) (wn := [(kM ad t0_18 M_states M_moves M_known_31 M_come_31 M_lookedAt M_parts M_whole), (kI cI (ad 33) 600 M_from), (kI cI (ad 34) 600 M_to), (kI cI (ad 37) 200 M_first), (kI cI (ad 39) 600 M_next), (kI cI (ad 41) 200 M_queue_31), (kI cI (ad 42) 200 M_by_31), (kI cI (ad 43) 200 M_row), (kZ cZ (ad 44) 200 M_isReached_31)]) (rv := none) ⟨hx, hb, hml, hown, hts⟩ (c_X5_walk l D cI cZ ad t0_18 M_states M_moves M_known M_come M_lookedAt M_parts M_whole M_to M_first M_next M_queue M_by M_isReached  _ hc_31) (cwV 0 hts (gl_V wk_196 wk_197 wk_198 wk_5 wk_199) rfl rfl rfl (by decide +kernel) ⟨Nat.le_of_ble_eq_true rfl, Nat.le_of_ble_eq_true rfl⟩) hK hP hD hS hA 5 0 rfl rfl rfl [0, 2, 3, 4, 5, 6, 8] [1, 7] [2, 0, 3, 4, 5, 6, 7, 1, 8] rfl rfl (by decide) rfl (by decide) (by decide) rfl rfl (by decide) rfl rfl hl.1 (Nat.le_of_ble_eq_true rfl) dX5_row_31 ⟨Nat.zero_le _, Nat.zero_le _⟩ (fun H locs hP hD hS => ?_)
      show W p l e { frames := 1, cells := 0, slots := 0, locals := 22 } s m ([.ref (ad 5), .int a1, .int a2] : List Value).toArray below meth c H locs 0 0 Q (F0 m 34 ls [])
      refine lv_aload_n hx hb dX5_row_34 rfl (lv_at hl 0 rfl) ?_
      refine va_get (D := D) (ci := 5) (v := .ref (ad 44)) (C := RX5) (T := TX5) (N := 27) hx hb hts hiX5 hown hK hP 0 rfl rfl 17 (by decide) hk1 (fun _ h9 => h9) rfl dX5_row_35 ?_
      refine lv_iload_n hx hb dX5_row_38 rfl (lv_at hl 1 rfl) ?_
      obtain ⟨hi_39, h⟩ := ox_i_of h
      refine va_zald hx hb hK hP 8 1 rfl rfl hi_39 dX5_row_39 ?_
      refine lv_if_ne (tgt := 45) hx hb dX5_row_40 (by decide) (fun c_40 => ?_) (fun c_40 => ?_)
      · have h := ox_f c_40 h
        refine lv_iconst (v := 0) hx hb dX5_row_45 (by decide) ?_
        refine lv_istore_n (lv' := [(3, .int 0), (0, .ref (ad 5)), (1, .int a1), (2, .int a2)]) hx hb dX5_row_46 rfl hl (by decide) rfl (fun ls hl => ?_)
        refine lv_iload_n hx hb dX5_row_47 rfl (lv_at hl 2 rfl) ?_
        refine lv_istore (lv' := [(4, .int a1), (3, .int 0), (0, .ref (ad 5)), (1, .int a1), (2, .int a2)]) hx hb dX5_row_48 hl (by decide) rfl (fun ls hl => ?_)
        obtain ⟨ex_50, hex_50, h_50⟩ := ox_b_of h
        have hX_50 : ∀ (v3_50 : Int32) (v4_50 : Int32) (M_row_50 : Nat → Int32) (H : Heap) (locs : List Loc) (ls : Array Slot), (v3_50, v4_50, M_row_50) = ex_50 → va_P D vwCl [(kM ad t0_18 M_states M_moves M_known_31 M_come_31 M_lookedAt M_parts M_whole), (kI cI (ad 33) 600 M_from), (kI cI (ad 34) 600 M_to), (kI cI (ad 37) 200 M_first), (kI cI (ad 39) 600 M_next), (kI cI (ad 41) 200 M_queue_31), (kI cI (ad 42) 200 M_by_31), (kI cI (ad 43) 200 M_row_50), (kZ cZ (ad 44) 200 M_isReached_31)] H → va_D A [(kM ad t0_18 M_states M_moves M_known_31 M_come_31 M_lookedAt M_parts M_whole), (kI cI (ad 33) 600 M_from), (kI cI (ad 34) 600 M_to), (kI cI (ad 37) 200 M_first), (kI cI (ad 39) 600 M_next), (kI cI (ad 41) 200 M_queue_31), (kI cI (ad 42) 200 M_by_31), (kI cI (ad 43) 200 M_row_50), (kZ cZ (ad 44) 200 M_isReached_31)] → va_S A s.heap H locs → lv_has ls 5 [(0, .ref (ad 5)), (2, .int a2), (3, .int v3_50)] → W p l e { frames := 1, cells := 0, slots := 0, locals := 22 } s m ([.ref (ad 5), .int a1, .int a2] : List Value).toArray below meth c H locs 0 0 Q (F0 m 94 ls []) := by
          intro v3_50 v4_50 M_row_50 H locs ls hex_50 hP hD hS hl
          subst hex_50
          have h := h_50
          refine lv_iload_n hx hb dX5_row_94 rfl (lv_at hl 1 rfl) ?_
          refine lv_iload_n hx hb dX5_row_95 rfl (lv_at hl 2 rfl) ?_
          refine lv_icmp_ge (tgt := 112) hx hb dX5_row_96 (by decide) (fun c_96 => ?_) (fun c_96 => ?_)
          · have h := ox_t c_96 h
            refine lv_iconst (v := (-1)) hx hb dX5_row_112 (by decide) ?_
            have h := Option.some.inj h
            subst h
            exact hend H locs _ ls hP hD hS dX5_row_113 trivial
          · have h := ox_f c_96 h
            refine lv_aload_n hx hb dX5_row_99 rfl (lv_at hl 0 rfl) ?_
            refine va_get (D := D) (ci := 5) (v := .ref (ad 43)) (C := RX5) (T := TX5) (N := 27) hx hb hts hiX5 hown hK hP 0 rfl rfl 16 (by decide) hk2 (fun _ h9 => h9) rfl dX5_row_100 ?_
            refine lv_iload_n hx hb dX5_row_103 rfl (lv_at hl 2 rfl) ?_
            refine lv_iconst (v := 1) hx hb dX5_row_104 (by decide) ?_
            refine lv_isub hx hb dX5_row_105 ?_
            refine lv_iload_n hx hb dX5_row_106 rfl (lv_at hl 1 rfl) ?_
            refine lv_isub hx hb dX5_row_107 ?_
            obtain ⟨hi_108, h⟩ := ox_i_of h
            refine va_iald hx hb hK hP 7 0 rfl rfl hi_108 dX5_row_108 ?_
            refine lv_goto (tgt := 113) hx hb dX5_row_109 (by decide) ?_
            have h := Option.some.inj h
            subst h
            exact hend H locs _ ls hP hD hS dX5_row_113 trivial
        have hL_50 : ∀ (n : Nat) (v3_50 : Int32) (v4_50 : Int32) (M_row_50 : Nat → Int32) (H : Heap) (locs : List Loc) (ls : Array Slot), ox_l (fn_X5_row_l50 M_by_31 M_from) n (v3_50, v4_50, M_row_50) = some ex_50 → va_P D vwCl [(kM ad t0_18 M_states M_moves M_known_31 M_come_31 M_lookedAt M_parts M_whole), (kI cI (ad 33) 600 M_from), (kI cI (ad 34) 600 M_to), (kI cI (ad 37) 200 M_first), (kI cI (ad 39) 600 M_next), (kI cI (ad 41) 200 M_queue_31), (kI cI (ad 42) 200 M_by_31), (kI cI (ad 43) 200 M_row_50), (kZ cZ (ad 44) 200 M_isReached_31)] H → va_D A [(kM ad t0_18 M_states M_moves M_known_31 M_come_31 M_lookedAt M_parts M_whole), (kI cI (ad 33) 600 M_from), (kI cI (ad 34) 600 M_to), (kI cI (ad 37) 200 M_first), (kI cI (ad 39) 600 M_next), (kI cI (ad 41) 200 M_queue_31), (kI cI (ad 42) 200 M_by_31), (kI cI (ad 43) 200 M_row_50), (kZ cZ (ad 44) 200 M_isReached_31)] → va_S A s.heap H locs → lv_has ls 5 [(0, .ref (ad 5)), (2, .int a2), (3, .int v3_50), (4, .int v4_50)] → W p l e { frames := 1, cells := 0, slots := 0, locals := 22 } s m ([.ref (ad 5), .int a1, .int a2] : List Value).toArray below meth c H locs 0 0 Q (F0 m 50 ls []) := by
          intro n
          induction n with
          | zero => intro v3_50 v4_50 M_row_50 H locs ls hlp; exact ox_l_0 hlp
          | succ n ih_50 =>
            intro v3_50 v4_50 M_row_50 H locs ls hlp_50 hP hD hS hl
            obtain ⟨z_50, h, hlp_50⟩ := ox_l_of hlp_50
            refine lv_aload_n hx hb dX5_row_50 rfl (lv_at hl 0 rfl) ?_
            refine va_get (D := D) (ci := 5) (v := .ref (ad 42)) (C := RX5) (T := TX5) (N := 27) hx hb hts hiX5 hown hK hP 0 rfl rfl 15 (by decide) hk3 (fun _ h9 => h9) rfl dX5_row_51 ?_
            refine lv_iload hx hb dX5_row_54 (lv_at hl 3 rfl) ?_
            obtain ⟨hi_56, h⟩ := ox_i_of h
            refine va_iald hx hb hK hP 6 0 rfl rfl hi_56 dX5_row_56 ?_
            refine lv_iconst (v := (-1)) hx hb dX5_row_57 (by decide) ?_
            refine lv_icmp_eq (tgt := 94) hx hb dX5_row_58 (by decide) (fun c_58 => ?_) (fun c_58 => ?_)
            · have h := ox_t c_58 h
              obtain rfl := Option.some.inj h
              exact hX_50 v3_50 v4_50 M_row_50 H locs ls hlp_50 hP hD hS (lv_sub hl [0, 1, 2] rfl)
            · have h := ox_f c_58 h
              refine lv_aload_n hx hb dX5_row_61 rfl (lv_at hl 0 rfl) ?_
              refine va_get (D := D) (ci := 5) (v := .ref (ad 43)) (C := RX5) (T := TX5) (N := 27) hx hb hts hiX5 hown hK hP 0 rfl rfl 16 (by decide) hk2 (fun _ h9 => h9) rfl dX5_row_62 ?_
              refine lv_iload_n hx hb dX5_row_65 rfl (lv_at hl 2 rfl) ?_
              refine lv_aload_n hx hb dX5_row_66 rfl (lv_at hl 0 rfl) ?_
              refine va_get (D := D) (ci := 5) (v := .ref (ad 42)) (C := RX5) (T := TX5) (N := 27) hx hb hts hiX5 hown hK hP 0 rfl rfl 15 (by decide) hk3 (fun _ h9 => h9) rfl dX5_row_67 ?_
              refine lv_iload hx hb dX5_row_70 (lv_at hl 3 rfl) ?_
              obtain ⟨hi_72, h⟩ := ox_i_of h
              refine va_iald hx hb hK hP 6 0 rfl rfl hi_72 dX5_row_72 ?_
              obtain ⟨hi_73, h⟩ := ox_i_of h
              refine va_iast hx hb hK hP hD hS 7 0 rfl rfl hi_73 dX5_row_73 (fun H locs hP hD hS => ?_)
              have hP : va_P D vwCl [(kM ad t0_18 M_states M_moves M_known_31 M_come_31 M_lookedAt M_parts M_whole), (kI cI (ad 33) 600 M_from), (kI cI (ad 34) 600 M_to), (kI cI (ad 37) 200 M_first), (kI cI (ad 39) 600 M_next), (kI cI (ad 41) 200 M_queue_31), (kI cI (ad 42) 200 M_by_31), (kI cI (ad 43) 200 (upd M_row_50 v3_50.toNatClampNeg (M_by_31 v4_50.toNatClampNeg))), (kZ cZ (ad 44) 200 M_isReached_31)] H := hP
              have hD : va_D A [(kM ad t0_18 M_states M_moves M_known_31 M_come_31 M_lookedAt M_parts M_whole), (kI cI (ad 33) 600 M_from), (kI cI (ad 34) 600 M_to), (kI cI (ad 37) 200 M_first), (kI cI (ad 39) 600 M_next), (kI cI (ad 41) 200 M_queue_31), (kI cI (ad 42) 200 M_by_31), (kI cI (ad 43) 200 (upd M_row_50 v3_50.toNatClampNeg (M_by_31 v4_50.toNatClampNeg))), (kZ cZ (ad 44) 200 M_isReached_31)] := hD
              refine lv_iinc (v := v3_50 + 1) (lv' := [(3, .int (v3_50 + 1)), (0, .ref (ad 5)), (2, .int a2), (4, .int v4_50)]) hx hb dX5_row_74 hl (k := 2) rfl rfl (by decide) rfl (fun ls hl => ?_)
              refine lv_aload_n hx hb dX5_row_77 rfl (lv_at hl 1 rfl) ?_
              refine va_get (D := D) (ci := 5) (v := .ref (ad 33)) (C := RX5) (T := TX5) (N := 27) hx hb hts hiX5 hown hK hP 0 rfl rfl 4 (by decide) hk4 (fun _ h9 => h9) rfl dX5_row_78 ?_
              refine lv_aload_n hx hb dX5_row_81 rfl (lv_at hl 1 rfl) ?_
              refine va_get (D := D) (ci := 5) (v := .ref (ad 42)) (C := RX5) (T := TX5) (N := 27) hx hb hts hiX5 hown hK hP 0 rfl rfl 15 (by decide) hk3 (fun _ h9 => h9) rfl dX5_row_82 ?_
              refine lv_iload hx hb dX5_row_85 (lv_at hl 3 rfl) ?_
              obtain ⟨hi_87, h⟩ := ox_i_of h
              refine va_iald hx hb hK hP 6 0 rfl rfl hi_87 dX5_row_87 ?_
              obtain ⟨hi_88, h⟩ := ox_i_of h
              refine va_iald hx hb hK hP 1 0 rfl rfl hi_88 dX5_row_88 ?_
              refine lv_istore (lv' := [(4, .int (M_from (M_by_31 v4_50.toNatClampNeg).toNatClampNeg)), (3, .int (v3_50 + 1)), (0, .ref (ad 5)), (2, .int a2)]) hx hb dX5_row_89 hl (by decide) rfl (fun ls hl => ?_)
              refine lv_goto (tgt := 50) hx hb dX5_row_91 (by decide) ?_
              obtain rfl := Option.some.inj h
              exact ih_50 (v3_50 + 1) (M_from (M_by_31 v4_50.toNatClampNeg).toNatClampNeg) (upd M_row_50 v3_50.toNatClampNeg (M_by_31 v4_50.toNatClampNeg)) H locs ls hlp_50 hP hD hS (lv_sub hl [2, 3, 1, 0] rfl)
        exact hL_50 1000000 0 a1 M_row H locs ls hex_50 hP hD hS (lv_sub hl [2, 4, 1, 0] rfl)
      · have h := ox_t c_40 h
        refine lv_iconst (v := (-1)) hx hb dX5_row_43 (by decide) ?_
        have h := Option.some.inj h
        subst h
        exact hend H locs _ ls hP hD hS dX5_row_44 trivial
    · have h := ox_f c_25 h
      refine lv_iconst (v := 0) hx hb dX5_row_28 (by decide) ?_
      have h := Option.some.inj h
      subst h
      exact hend H locs _ ls hP hD hS dX5_row_29 trivial
  have hJ_13 : ∀  (H : Heap) (locs : List Loc) (ls : Array Slot), fn_X5_row_j13 M_states M_known M_come M_to M_first M_next M_queue M_by M_isReached a1 M_row M_from a2 () = some res → va_P D vwCl [(kM ad M_thrown M_states M_moves M_known M_come M_lookedAt M_parts M_whole), (kI cI (ad 33) 600 M_from), (kI cI (ad 34) 600 M_to), (kI cI (ad 37) 200 M_first), (kI cI (ad 39) 600 M_next), (kI cI (ad 41) 200 M_queue), (kI cI (ad 42) 200 M_by), (kI cI (ad 43) 200 M_row), (kZ cZ (ad 44) 200 M_isReached)] H → va_D A [(kM ad M_thrown M_states M_moves M_known M_come M_lookedAt M_parts M_whole), (kI cI (ad 33) 600 M_from), (kI cI (ad 34) 600 M_to), (kI cI (ad 37) 200 M_first), (kI cI (ad 39) 600 M_next), (kI cI (ad 41) 200 M_queue), (kI cI (ad 42) 200 M_by), (kI cI (ad 43) 200 M_row), (kZ cZ (ad 44) 200 M_isReached)] → va_S A s.heap H locs → lv_has ls 5 [(0, .ref (ad 5)), (1, .int a1), (2, .int a2)] → W p l e { frames := 1, cells := 0, slots := 0, locals := 22 } s m ([.ref (ad 5), .int a1, .int a2] : List Value).toArray below meth c H locs 0 0 Q (F0 m 13 ls [.ref (ad 5)]) := by
    intro  H locs ls h hP hD hS hl
    refine lv_iconst (v := 1) hx hb dX5_row_13 (by decide) ?_
    refine lv_goto (tgt := 18) hx hb dX5_row_14 (by decide) ?_
    exact hJ_18 1 H locs ls h hP hD hS (lv_sub hl [0, 1, 2] rfl)
  refine lv_if_eq (tgt := 13) hx hb dX5_row_6 (by decide) (fun c_6 => ?_) (fun c_6 => ?_)
  · have h := ox_t c_6 h
    exact hJ_13  H locs ls h hP hD hS (lv_sub hl [0, 1, 2] rfl)
  · have h := ox_f c_6 h
    refine lv_iload_n hx hb dX5_row_9 rfl (lv_at hl 2 rfl) ?_
    refine lv_if_ge (tgt := 17) hx hb dX5_row_10 (by decide) (fun c_10 => ?_) (fun c_10 => ?_)
    · have h := ox_t c_10 h
      refine lv_iconst (v := 0) hx hb dX5_row_17 (by decide) ?_
      exact hJ_18 0 H locs ls h hP hD hS (lv_sub hl [0, 1, 2] rfl)
    · have h := ox_f c_10 h
      exact hJ_13  H locs ls h hP hD hS (lv_sub hl [0, 1, 2] rfl)
set_option maxHeartbeats 4000000 in
set_option maxRecDepth 100000 in
theorem c_X5_spread (l : Launch) (D : va_G) (cI cZ : ClassId) (ad : Nat → Nat) (M_thrown : Int32) (M_states : Int32) (M_moves : Int32) (M_known : Int32) (M_come : Int32) (M_lookedAt : Int32) (M_parts : Int32) (M_whole : Int32) (M_to : Nat → Int32) (M_first : Nat → Int32) (M_next : Nat → Int32) (M_queue : Nat → Int32) (M_alive : Nat → Int32) (M_reach : Nat → Int32) (a1 : Int32) (res : (Nat → Int32) × (Nat → Int32)) (h : fn_X5_spread M_to M_first M_next M_queue M_alive M_reach a1 = some res) : mc_C l yX5_spread wv_X5_spread { frames := 0, cells := 0, slots := 0, locals := 0 } D [(cI, .int), (cZ, .boolean)] [.ref (ad 5), .int a1] [(kM ad M_thrown M_states M_moves M_known M_come M_lookedAt M_parts M_whole), (kI cI (ad 34) 600 M_to), (kI cI (ad 37) 200 M_first), (kI cI (ad 39) 600 M_next), (kI cI (ad 41) 200 M_queue), (kZ cZ (ad 45) 200 M_alive), (kZ cZ (ad 46) 40000 M_reach)] (none) [(kM ad M_thrown M_states M_moves M_known M_come M_lookedAt M_parts M_whole), (kI cI (ad 34) 600 M_to), (kI cI (ad 37) 200 M_first), (kI cI (ad 39) 600 M_next), (kI cI (ad 41) 200 res.1), (kZ cZ (ad 45) 200 M_alive), (kZ cZ (ad 46) 40000 res.2)] := by
  refine mc_ofv (own := RX5) (by decide) rfl rfl (Nat.le_of_ble_eq_true rfl) ?_
  intro p e s m below meth c A Q ls hx hb hml hown hts hK hP hD hA hl hend
  have hS : va_S A s.heap s.heap [] := va_S.rf
  have hl : lv_has ls 7 [(0, .ref (ad 5)), (1, .int a1)] := hl
  obtain ⟨H, hH⟩ : ∃ H, H = s.heap := ⟨_, rfl⟩
  obtain ⟨locs, hlo⟩ : ∃ locs : List Loc, locs = [] := ⟨_, rfl⟩
  have hS : va_S A s.heap H locs := by rw [hH, hlo]; exact hS
  have hP : va_P D vwCl [(kM ad M_thrown M_states M_moves M_known M_come M_lookedAt M_parts M_whole), (kI cI (ad 34) 600 M_to), (kI cI (ad 37) 200 M_first), (kI cI (ad 39) 600 M_next), (kI cI (ad 41) 200 M_queue), (kZ cZ (ad 45) 200 M_alive), (kZ cZ (ad 46) 40000 M_reach)] H := by rw [hH]; exact hP
  suffices h9 : W p l e { frames := 0, cells := 0, slots := 0, locals := 0 } s m ([.ref (ad 5), .int a1] : List Value).toArray below meth c H locs 0 0 Q (F0 m 0 ls []) by rw [hH, hlo] at h9; exact h9
  clear hH hlo
  have hiX5 : ∀ w ∈ wsX50, w ∈ wv_X5_spread := fun w h => List.mem_cons_of_mem _ (inlX5 w h)
  have hk0 := hts (.fieldLink RX5 25 "FairLoopsModel" "first" "[I") (List.mem_cons_of_mem _ wk_78)
  have hk1 := hts (.fieldLink RX5 16 "FairLoopsModel" "to" "[I") (List.mem_cons_of_mem _ wk_75)
  have hk2 := hts (.fieldLink RX5 54 "FairLoopsModel" "alive" "[Z") (List.mem_cons_of_mem _ wk_87)
  have hk3 := hts (.fieldLink RX5 31 "FairLoopsModel" "next" "[I") (List.mem_cons_of_mem _ wk_80)
  have hk4 := hts (.fieldLink RX5 58 "FairLoopsModel" "reach" "[Z") (List.mem_cons_of_mem _ wk_89)
  have hk5 := hts (.fieldLink RX5 38 "FairLoopsModel" "queue" "[I") (List.mem_cons_of_mem _ wk_82)
  refine lv_iconst (v := 0) hx hb dX5_spread_0 (by decide) ?_
  refine lv_istore_n (lv' := [(2, .int 0), (0, .ref (ad 5)), (1, .int a1)]) hx hb dX5_spread_1 rfl hl (by decide) rfl (fun ls hl => ?_)
  refine lv_iconst (v := (-1)) hx hb dX5_spread_2 (by decide) ?_
  refine lv_istore_n (lv' := [(3, .int (-1)), (2, .int 0), (0, .ref (ad 5)), (1, .int a1)]) hx hb dX5_spread_3 rfl hl (by decide) rfl (fun ls hl => ?_)
  obtain ⟨ex_4, hex_4, h_4⟩ := ox_b_of h
  have hX_4 : ∀ (v2_4 : Int32) (v3_4 : Int32) (M_queue_4 : Nat → Int32) (M_reach_4 : Nat → Int32) (H : Heap) (locs : List Loc) (ls : Array Slot), Sum.inl (v2_4, v3_4, M_queue_4, M_reach_4) = ex_4 → va_P D vwCl [(kM ad M_thrown M_states M_moves M_known M_come M_lookedAt M_parts M_whole), (kI cI (ad 34) 600 M_to), (kI cI (ad 37) 200 M_first), (kI cI (ad 39) 600 M_next), (kI cI (ad 41) 200 M_queue_4), (kZ cZ (ad 45) 200 M_alive), (kZ cZ (ad 46) 40000 M_reach_4)] H → va_D A [(kM ad M_thrown M_states M_moves M_known M_come M_lookedAt M_parts M_whole), (kI cI (ad 34) 600 M_to), (kI cI (ad 37) 200 M_first), (kI cI (ad 39) 600 M_next), (kI cI (ad 41) 200 M_queue_4), (kZ cZ (ad 45) 200 M_alive), (kZ cZ (ad 46) 40000 M_reach_4)] → va_S A s.heap H locs → lv_has ls 7 [] → W p l e { frames := 0, cells := 0, slots := 0, locals := 0 } s m ([.ref (ad 5), .int a1] : List Value).toArray below meth c H locs 0 0 Q (F0 m 124 ls []) := by
    intro v2_4 v3_4 M_queue_4 M_reach_4 H locs ls hex_4 hP hD hS hl
    subst hex_4
    have h := h_4
    have h := Option.some.inj h
    subst h
    exact hend H locs _ ls hP hD hS dX5_spread_124 trivial
  have hL_4 : ∀ (n : Nat) (v2_4 : Int32) (v3_4 : Int32) (M_queue_4 : Nat → Int32) (M_reach_4 : Nat → Int32) (H : Heap) (locs : List Loc) (ls : Array Slot), ox_l (fn_X5_spread_l4 M_to M_alive M_next a1 M_first) n (v2_4, v3_4, M_queue_4, M_reach_4) = some ex_4 → va_P D vwCl [(kM ad M_thrown M_states M_moves M_known M_come M_lookedAt M_parts M_whole), (kI cI (ad 34) 600 M_to), (kI cI (ad 37) 200 M_first), (kI cI (ad 39) 600 M_next), (kI cI (ad 41) 200 M_queue_4), (kZ cZ (ad 45) 200 M_alive), (kZ cZ (ad 46) 40000 M_reach_4)] H → va_D A [(kM ad M_thrown M_states M_moves M_known M_come M_lookedAt M_parts M_whole), (kI cI (ad 34) 600 M_to), (kI cI (ad 37) 200 M_first), (kI cI (ad 39) 600 M_next), (kI cI (ad 41) 200 M_queue_4), (kZ cZ (ad 45) 200 M_alive), (kZ cZ (ad 46) 40000 M_reach_4)] → va_S A s.heap H locs → lv_has ls 7 [(0, .ref (ad 5)), (1, .int a1), (2, .int v2_4), (3, .int v3_4)] → W p l e { frames := 0, cells := 0, slots := 0, locals := 0 } s m ([.ref (ad 5), .int a1] : List Value).toArray below meth c H locs 0 0 Q (F0 m 4 ls []) := by
    intro n
    induction n with
    | zero => intro v2_4 v3_4 M_queue_4 M_reach_4 H locs ls hlp; exact ox_l_0 hlp
    | succ n ih_4 =>
      intro v2_4 v3_4 M_queue_4 M_reach_4 H locs ls hlp_4 hP hD hS hl
      obtain ⟨z_4, h, hlp_4⟩ := ox_l_of hlp_4
      refine lv_iload_n hx hb dX5_spread_4 rfl (lv_at hl 3 rfl) ?_
      refine lv_iload_n hx hb dX5_spread_5 rfl (lv_at hl 2 rfl) ?_
      refine lv_icmp_ge (tgt := 124) hx hb dX5_spread_6 (by decide) (fun c_6 => ?_) (fun c_6 => ?_)
      · have h := ox_t c_6 h
        obtain rfl := Option.some.inj h
        exact hX_4 v2_4 v3_4 M_queue_4 M_reach_4 H locs ls hlp_4 hP hD hS (lv_sub hl [] rfl)
      · have h := ox_f c_6 h
        refine lv_iload_n hx hb dX5_spread_9 rfl (lv_at hl 3 rfl) ?_
        have hJ_23 : ∀ (t0_23 : Int32) (H : Heap) (locs : List Loc) (ls : Array Slot), fn_X5_spread_j23 M_to M_alive M_next a1 v2_4 M_first M_queue_4 M_reach_4 v3_4 t0_23 = some z_4 → va_P D vwCl [(kM ad M_thrown M_states M_moves M_known M_come M_lookedAt M_parts M_whole), (kI cI (ad 34) 600 M_to), (kI cI (ad 37) 200 M_first), (kI cI (ad 39) 600 M_next), (kI cI (ad 41) 200 M_queue_4), (kZ cZ (ad 45) 200 M_alive), (kZ cZ (ad 46) 40000 M_reach_4)] H → va_D A [(kM ad M_thrown M_states M_moves M_known M_come M_lookedAt M_parts M_whole), (kI cI (ad 34) 600 M_to), (kI cI (ad 37) 200 M_first), (kI cI (ad 39) 600 M_next), (kI cI (ad 41) 200 M_queue_4), (kZ cZ (ad 45) 200 M_alive), (kZ cZ (ad 46) 40000 M_reach_4)] → va_S A s.heap H locs → lv_has ls 7 [(0, .ref (ad 5)), (1, .int a1), (2, .int v2_4), (3, .int v3_4)] → W p l e { frames := 0, cells := 0, slots := 0, locals := 0 } s m ([.ref (ad 5), .int a1] : List Value).toArray below meth c H locs 0 0 Q (F0 m 23 ls [.int t0_23]) := by
          intro t0_23 H locs ls h hP hD hS hl
          refine lv_istore (lv' := [(4, .int t0_23), (0, .ref (ad 5)), (1, .int a1), (2, .int v2_4), (3, .int v3_4)]) hx hb dX5_spread_23 hl (by decide) rfl (fun ls hl => ?_)
          refine lv_aload_n hx hb dX5_spread_25 rfl (lv_at hl 1 rfl) ?_
          refine va_get (D := D) (ci := 5) (v := .ref (ad 37)) (C := RX5) (T := TX5) (N := 27) hx hb hts hiX5 hown hK hP 0 rfl rfl 8 (by decide) hk0 (fun _ h9 => h9) rfl dX5_spread_26 ?_
          refine lv_iload hx hb dX5_spread_29 (lv_at hl 0 rfl) ?_
          obtain ⟨hi_31, h⟩ := ox_i_of h
          refine va_iald hx hb hK hP 2 0 rfl rfl hi_31 dX5_spread_31 ?_
          refine lv_istore (lv' := [(5, .int (M_first t0_23.toNatClampNeg)), (4, .int t0_23), (0, .ref (ad 5)), (1, .int a1), (2, .int v2_4), (3, .int v3_4)]) hx hb dX5_spread_32 hl (by decide) rfl (fun ls hl => ?_)
          obtain ⟨ex_34, hex_34, h_34⟩ := ox_b_of h
          have hX_34 : ∀ (v2_34 : Int32) (v5_34 : Int32) (M_queue_34 : Nat → Int32) (M_reach_34 : Nat → Int32) (H : Heap) (locs : List Loc) (ls : Array Slot), (v2_34, v5_34, M_queue_34, M_reach_34) = ex_34 → va_P D vwCl [(kM ad M_thrown M_states M_moves M_known M_come M_lookedAt M_parts M_whole), (kI cI (ad 34) 600 M_to), (kI cI (ad 37) 200 M_first), (kI cI (ad 39) 600 M_next), (kI cI (ad 41) 200 M_queue_34), (kZ cZ (ad 45) 200 M_alive), (kZ cZ (ad 46) 40000 M_reach_34)] H → va_D A [(kM ad M_thrown M_states M_moves M_known M_come M_lookedAt M_parts M_whole), (kI cI (ad 34) 600 M_to), (kI cI (ad 37) 200 M_first), (kI cI (ad 39) 600 M_next), (kI cI (ad 41) 200 M_queue_34), (kZ cZ (ad 45) 200 M_alive), (kZ cZ (ad 46) 40000 M_reach_34)] → va_S A s.heap H locs → lv_has ls 7 [(0, .ref (ad 5)), (1, .int a1), (2, .int v2_34), (3, .int v3_4)] → W p l e { frames := 0, cells := 0, slots := 0, locals := 0 } s m ([.ref (ad 5), .int a1] : List Value).toArray below meth c H locs 0 0 Q (F0 m 112 ls []) := by
            intro v2_34 v5_34 M_queue_34 M_reach_34 H locs ls hex_34 hP hD hS hl
            subst hex_34
            have h := h_34
            refine lv_iinc (v := v3_4 + 1) (lv' := [(3, .int (v3_4 + 1)), (0, .ref (ad 5)), (1, .int a1), (2, .int v2_34)]) hx hb dX5_spread_112 hl (k := 3) rfl rfl (by decide) rfl (fun ls hl => ?_)
            refine lv_iload_n hx hb dX5_spread_115 rfl (lv_at hl 0 rfl) ?_
            refine lv_iload_n hx hb dX5_spread_116 rfl (lv_at hl 3 rfl) ?_
            refine lv_icmp_ne (tgt := 121) hx hb dX5_spread_117 (by decide) (fun c_117 => ?_) (fun c_117 => ?_)
            · have h := ox_f c_117 h
              refine lv_goto (tgt := 4) hx hb dX5_spread_121 (by decide) ?_
              obtain rfl := Option.some.inj h
              exact ih_4 v2_34 (v3_4 + 1) M_queue_34 M_reach_34 H locs ls hlp_4 hP hD hS (lv_sub hl [1, 2, 3, 0] rfl)
            · have h := ox_t c_117 h
              have h := Option.some.inj h
              subst h
              have hlp_4 : _ = ex_4 := hlp_4
              subst hlp_4
              have h_4 := Option.some.inj h_4
              subst h_4
              exact hend H locs _ ls hP hD hS dX5_spread_120 trivial
          have hL_34 : ∀ (n : Nat) (v2_34 : Int32) (v5_34 : Int32) (M_queue_34 : Nat → Int32) (M_reach_34 : Nat → Int32) (H : Heap) (locs : List Loc) (ls : Array Slot), ox_l (fn_X5_spread_l34 M_to M_alive M_next a1) n (v2_34, v5_34, M_queue_34, M_reach_34) = some ex_34 → va_P D vwCl [(kM ad M_thrown M_states M_moves M_known M_come M_lookedAt M_parts M_whole), (kI cI (ad 34) 600 M_to), (kI cI (ad 37) 200 M_first), (kI cI (ad 39) 600 M_next), (kI cI (ad 41) 200 M_queue_34), (kZ cZ (ad 45) 200 M_alive), (kZ cZ (ad 46) 40000 M_reach_34)] H → va_D A [(kM ad M_thrown M_states M_moves M_known M_come M_lookedAt M_parts M_whole), (kI cI (ad 34) 600 M_to), (kI cI (ad 37) 200 M_first), (kI cI (ad 39) 600 M_next), (kI cI (ad 41) 200 M_queue_34), (kZ cZ (ad 45) 200 M_alive), (kZ cZ (ad 46) 40000 M_reach_34)] → va_S A s.heap H locs → lv_has ls 7 [(0, .ref (ad 5)), (1, .int a1), (2, .int v2_34), (3, .int v3_4), (5, .int v5_34)] → W p l e { frames := 0, cells := 0, slots := 0, locals := 0 } s m ([.ref (ad 5), .int a1] : List Value).toArray below meth c H locs 0 0 Q (F0 m 34 ls []) := by
            intro n
            induction n with
            | zero => intro v2_34 v5_34 M_queue_34 M_reach_34 H locs ls hlp; exact ox_l_0 hlp
            | succ n ih_34 =>
              intro v2_34 v5_34 M_queue_34 M_reach_34 H locs ls hlp_34 hP hD hS hl
              obtain ⟨z_34, h, hlp_34⟩ := ox_l_of hlp_34
              refine lv_iload hx hb dX5_spread_34 (lv_at hl 4 rfl) ?_
              refine lv_iconst (v := (-1)) hx hb dX5_spread_36 (by decide) ?_
              refine lv_icmp_eq (tgt := 112) hx hb dX5_spread_37 (by decide) (fun c_37 => ?_) (fun c_37 => ?_)
              · have h := ox_t c_37 h
                obtain rfl := Option.some.inj h
                exact hX_34 v2_34 v5_34 M_queue_34 M_reach_34 H locs ls hlp_34 hP hD hS (lv_sub hl [0, 1, 2, 3] rfl)
              · have h := ox_f c_37 h
                refine lv_aload_n hx hb dX5_spread_40 rfl (lv_at hl 0 rfl) ?_
                refine va_get (D := D) (ci := 5) (v := .ref (ad 34)) (C := RX5) (T := TX5) (N := 27) hx hb hts hiX5 hown hK hP 0 rfl rfl 5 (by decide) hk1 (fun _ h9 => h9) rfl dX5_spread_41 ?_
                refine lv_iload hx hb dX5_spread_44 (lv_at hl 4 rfl) ?_
                obtain ⟨hi_46, h⟩ := ox_i_of h
                refine va_iald hx hb hK hP 1 0 rfl rfl hi_46 dX5_spread_46 ?_
                refine lv_istore (lv' := [(6, .int (M_to v5_34.toNatClampNeg)), (0, .ref (ad 5)), (1, .int a1), (2, .int v2_34), (3, .int v3_4), (5, .int v5_34)]) hx hb dX5_spread_47 hl (by decide) rfl (fun ls hl => ?_)
                refine lv_aload_n hx hb dX5_spread_49 rfl (lv_at hl 1 rfl) ?_
                refine va_get (D := D) (ci := 5) (v := .ref (ad 45)) (C := RX5) (T := TX5) (N := 27) hx hb hts hiX5 hown hK hP 0 rfl rfl 19 (by decide) hk2 (fun _ h9 => h9) rfl dX5_spread_50 ?_
                refine lv_iload hx hb dX5_spread_53 (lv_at hl 0 rfl) ?_
                obtain ⟨hi_55, h⟩ := ox_i_of h
                refine va_zald hx hb hK hP 5 1 rfl rfl hi_55 dX5_spread_55 ?_
                refine lv_if_eq (tgt := 100) hx hb dX5_spread_56 (by decide) (fun c_56 => ?_) (fun c_56 => ?_)
                · have h := ox_t c_56 h
                  refine lv_aload_n hx hb dX5_spread_100 rfl (lv_at hl 1 rfl) ?_
                  refine va_get (D := D) (ci := 5) (v := .ref (ad 39)) (C := RX5) (T := TX5) (N := 27) hx hb hts hiX5 hown hK hP 0 rfl rfl 10 (by decide) hk3 (fun _ h9 => h9) rfl dX5_spread_101 ?_
                  refine lv_iload hx hb dX5_spread_104 (lv_at hl 5 rfl) ?_
                  obtain ⟨hi_106, h⟩ := ox_i_of h
                  refine va_iald hx hb hK hP 3 0 rfl rfl hi_106 dX5_spread_106 ?_
                  refine lv_istore (lv' := [(5, .int (M_next v5_34.toNatClampNeg)), (6, .int (M_to v5_34.toNatClampNeg)), (0, .ref (ad 5)), (1, .int a1), (2, .int v2_34), (3, .int v3_4)]) hx hb dX5_spread_107 hl (by decide) rfl (fun ls hl => ?_)
                  refine lv_goto (tgt := 34) hx hb dX5_spread_109 (by decide) ?_
                  obtain rfl := Option.some.inj h
                  exact ih_34 v2_34 (M_next v5_34.toNatClampNeg) M_queue_34 M_reach_34 H locs ls hlp_34 hP hD hS (lv_sub hl [2, 3, 4, 5, 0] rfl)
                · have h := ox_f c_56 h
                  refine lv_aload_n hx hb dX5_spread_59 rfl (lv_at hl 1 rfl) ?_
                  refine va_get (D := D) (ci := 5) (v := .ref (ad 46)) (C := RX5) (T := TX5) (N := 27) hx hb hts hiX5 hown hK hP 0 rfl rfl 20 (by decide) hk4 (fun _ h9 => h9) rfl dX5_spread_60 ?_
                  refine lv_sipush (v := 200) hx hb dX5_spread_63 (by decide) ?_
                  refine lv_iload_n hx hb dX5_spread_66 rfl (lv_at hl 2 rfl) ?_
                  refine lv_imul hx hb dX5_spread_67 ?_
                  refine lv_iload hx hb dX5_spread_68 (lv_at hl 0 rfl) ?_
                  refine lv_iadd hx hb dX5_spread_70 ?_
                  obtain ⟨hi_71, h⟩ := ox_i_of h
                  refine va_zald hx hb hK hP 6 1 rfl rfl hi_71 dX5_spread_71 ?_
                  refine lv_if_ne (tgt := 100) hx hb dX5_spread_72 (by decide) (fun c_72 => ?_) (fun c_72 => ?_)
                  · have h := ox_f c_72 h
                    refine lv_aload_n hx hb dX5_spread_100 rfl (lv_at hl 1 rfl) ?_
                    refine va_get (D := D) (ci := 5) (v := .ref (ad 39)) (C := RX5) (T := TX5) (N := 27) hx hb hts hiX5 hown hK hP 0 rfl rfl 10 (by decide) hk3 (fun _ h9 => h9) rfl dX5_spread_101 ?_
                    refine lv_iload hx hb dX5_spread_104 (lv_at hl 5 rfl) ?_
                    obtain ⟨hi_106, h⟩ := ox_i_of h
                    refine va_iald hx hb hK hP 3 0 rfl rfl hi_106 dX5_spread_106 ?_
                    refine lv_istore (lv' := [(5, .int (M_next v5_34.toNatClampNeg)), (6, .int (M_to v5_34.toNatClampNeg)), (0, .ref (ad 5)), (1, .int a1), (2, .int v2_34), (3, .int v3_4)]) hx hb dX5_spread_107 hl (by decide) rfl (fun ls hl => ?_)
                    refine lv_goto (tgt := 34) hx hb dX5_spread_109 (by decide) ?_
                    obtain rfl := Option.some.inj h
                    exact ih_34 v2_34 (M_next v5_34.toNatClampNeg) M_queue_34 M_reach_34 H locs ls hlp_34 hP hD hS (lv_sub hl [2, 3, 4, 5, 0] rfl)
                  · have h := ox_t c_72 h
                    refine lv_aload_n hx hb dX5_spread_75 rfl (lv_at hl 1 rfl) ?_
                    refine va_get (D := D) (ci := 5) (v := .ref (ad 46)) (C := RX5) (T := TX5) (N := 27) hx hb hts hiX5 hown hK hP 0 rfl rfl 20 (by decide) hk4 (fun _ h9 => h9) rfl dX5_spread_76 ?_
                    refine lv_sipush (v := 200) hx hb dX5_spread_79 (by decide) ?_
                    refine lv_iload_n hx hb dX5_spread_82 rfl (lv_at hl 2 rfl) ?_
                    refine lv_imul hx hb dX5_spread_83 ?_
                    refine lv_iload hx hb dX5_spread_84 (lv_at hl 0 rfl) ?_
                    refine lv_iadd hx hb dX5_spread_86 ?_
                    refine lv_iconst (v := 1) hx hb dX5_spread_87 (by decide) ?_
                    obtain ⟨hi_88, h⟩ := ox_i_of h
                    refine va_zast hx hb hK hP hD hS 6 1 rfl rfl hi_88 dX5_spread_88 (fun H locs hP hD hS => ?_)
                    have hP : va_P D vwCl [(kM ad M_thrown M_states M_moves M_known M_come M_lookedAt M_parts M_whole), (kI cI (ad 34) 600 M_to), (kI cI (ad 37) 200 M_first), (kI cI (ad 39) 600 M_next), (kI cI (ad 41) 200 M_queue_34), (kZ cZ (ad 45) 200 M_alive), (kZ cZ (ad 46) 40000 (upd M_reach_34 ((200 * a1) + (M_to v5_34.toNatClampNeg)).toNatClampNeg (vp_nar .boolean 1)))] H := hP
                    have hD : va_D A [(kM ad M_thrown M_states M_moves M_known M_come M_lookedAt M_parts M_whole), (kI cI (ad 34) 600 M_to), (kI cI (ad 37) 200 M_first), (kI cI (ad 39) 600 M_next), (kI cI (ad 41) 200 M_queue_34), (kZ cZ (ad 45) 200 M_alive), (kZ cZ (ad 46) 40000 (upd M_reach_34 ((200 * a1) + (M_to v5_34.toNatClampNeg)).toNatClampNeg (vp_nar .boolean 1)))] := hD
                    refine lv_aload_n hx hb dX5_spread_89 rfl (lv_at hl 1 rfl) ?_
                    refine va_get (D := D) (ci := 5) (v := .ref (ad 41)) (C := RX5) (T := TX5) (N := 27) hx hb hts hiX5 hown hK hP 0 rfl rfl 14 (by decide) hk5 (fun _ h9 => h9) rfl dX5_spread_90 ?_
                    refine lv_iload_n hx hb dX5_spread_93 rfl (lv_at hl 3 rfl) ?_
                    refine lv_iload hx hb dX5_spread_94 (lv_at hl 0 rfl) ?_
                    obtain ⟨hi_96, h⟩ := ox_i_of h
                    refine va_iast hx hb hK hP hD hS 4 0 rfl rfl hi_96 dX5_spread_96 (fun H locs hP hD hS => ?_)
                    have hP : va_P D vwCl [(kM ad M_thrown M_states M_moves M_known M_come M_lookedAt M_parts M_whole), (kI cI (ad 34) 600 M_to), (kI cI (ad 37) 200 M_first), (kI cI (ad 39) 600 M_next), (kI cI (ad 41) 200 (upd M_queue_34 v2_34.toNatClampNeg (M_to v5_34.toNatClampNeg))), (kZ cZ (ad 45) 200 M_alive), (kZ cZ (ad 46) 40000 (upd M_reach_34 ((200 * a1) + (M_to v5_34.toNatClampNeg)).toNatClampNeg (vp_nar .boolean 1)))] H := hP
                    have hD : va_D A [(kM ad M_thrown M_states M_moves M_known M_come M_lookedAt M_parts M_whole), (kI cI (ad 34) 600 M_to), (kI cI (ad 37) 200 M_first), (kI cI (ad 39) 600 M_next), (kI cI (ad 41) 200 (upd M_queue_34 v2_34.toNatClampNeg (M_to v5_34.toNatClampNeg))), (kZ cZ (ad 45) 200 M_alive), (kZ cZ (ad 46) 40000 (upd M_reach_34 ((200 * a1) + (M_to v5_34.toNatClampNeg)).toNatClampNeg (vp_nar .boolean 1)))] := hD
                    refine lv_iinc (v := v2_34 + 1) (lv' := [(2, .int (v2_34 + 1)), (6, .int (M_to v5_34.toNatClampNeg)), (0, .ref (ad 5)), (1, .int a1), (3, .int v3_4), (5, .int v5_34)]) hx hb dX5_spread_97 hl (k := 3) rfl rfl (by decide) rfl (fun ls hl => ?_)
                    refine lv_aload_n hx hb dX5_spread_100 rfl (lv_at hl 2 rfl) ?_
                    refine va_get (D := D) (ci := 5) (v := .ref (ad 39)) (C := RX5) (T := TX5) (N := 27) hx hb hts hiX5 hown hK hP 0 rfl rfl 10 (by decide) hk3 (fun _ h9 => h9) rfl dX5_spread_101 ?_
                    refine lv_iload hx hb dX5_spread_104 (lv_at hl 5 rfl) ?_
                    obtain ⟨hi_106, h⟩ := ox_i_of h
                    refine va_iald hx hb hK hP 3 0 rfl rfl hi_106 dX5_spread_106 ?_
                    refine lv_istore (lv' := [(5, .int (M_next v5_34.toNatClampNeg)), (2, .int (v2_34 + 1)), (6, .int (M_to v5_34.toNatClampNeg)), (0, .ref (ad 5)), (1, .int a1), (3, .int v3_4)]) hx hb dX5_spread_107 hl (by decide) rfl (fun ls hl => ?_)
                    refine lv_goto (tgt := 34) hx hb dX5_spread_109 (by decide) ?_
                    obtain rfl := Option.some.inj h
                    exact ih_34 (v2_34 + 1) (M_next v5_34.toNatClampNeg) (upd M_queue_34 v2_34.toNatClampNeg (M_to v5_34.toNatClampNeg)) (upd M_reach_34 ((200 * a1) + (M_to v5_34.toNatClampNeg)).toNatClampNeg (vp_nar .boolean 1)) H locs ls hlp_34 hP hD hS (lv_sub hl [3, 4, 1, 5, 0] rfl)
          exact hL_34 1000000 v2_4 (M_first t0_23.toNatClampNeg) M_queue_4 M_reach_4 H locs ls hex_34 hP hD hS (lv_sub hl [2, 3, 4, 5, 0] rfl)
        refine lv_if_ge (tgt := 17) hx hb dX5_spread_10 (by decide) (fun c_10 => ?_) (fun c_10 => ?_)
        · have h := ox_t c_10 h
          refine lv_aload_n hx hb dX5_spread_17 rfl (lv_at hl 0 rfl) ?_
          refine va_get (D := D) (ci := 5) (v := .ref (ad 41)) (C := RX5) (T := TX5) (N := 27) hx hb hts hiX5 hown hK hP 0 rfl rfl 14 (by decide) hk5 (fun _ h9 => h9) rfl dX5_spread_18 ?_
          refine lv_iload_n hx hb dX5_spread_21 rfl (lv_at hl 3 rfl) ?_
          obtain ⟨hi_22, h⟩ := ox_i_of h
          refine va_iald hx hb hK hP 4 0 rfl rfl hi_22 dX5_spread_22 ?_
          exact hJ_23 (M_queue_4 v3_4.toNatClampNeg) H locs ls h hP hD hS (lv_sub hl [0, 1, 2, 3] rfl)
        · have h := ox_f c_10 h
          refine lv_iload_n hx hb dX5_spread_13 rfl (lv_at hl 1 rfl) ?_
          refine lv_goto (tgt := 23) hx hb dX5_spread_14 (by decide) ?_
          exact hJ_23 a1 H locs ls h hP hD hS (lv_sub hl [0, 1, 2, 3] rfl)
  exact hL_4 1000000 0 (-1) M_queue M_reach H locs ls hex_4 hP hD hS (lv_sub hl [2, 3, 1, 0] rfl)
set_option maxHeartbeats 4000000 in
set_option maxRecDepth 100000 in
theorem c_X5_close (l : Launch) (D : va_G) (cI cZ : ClassId) (ad : Nat → Nat) (M_thrown : Int32) (M_states : Int32) (M_moves : Int32) (M_known : Int32) (M_come : Int32) (M_lookedAt : Int32) (M_parts : Int32) (M_whole : Int32) (M_to : Nat → Int32) (M_first : Nat → Int32) (M_next : Nat → Int32) (M_queue : Nat → Int32) (M_alive : Nat → Int32) (M_reach : Nat → Int32) (res : (Nat → Int32) × (Nat → Int32)) (h : fn_X5_close M_states M_to M_first M_next M_queue M_alive M_reach = some res) : mc_C l yX5_close wv_X5_close { frames := 1, cells := 0, slots := 0, locals := 26 } D [(cI, .int), (cZ, .boolean)] [.ref (ad 5)] [(kM ad M_thrown M_states M_moves M_known M_come M_lookedAt M_parts M_whole), (kI cI (ad 34) 600 M_to), (kI cI (ad 37) 200 M_first), (kI cI (ad 39) 600 M_next), (kI cI (ad 41) 200 M_queue), (kZ cZ (ad 45) 200 M_alive), (kZ cZ (ad 46) 40000 M_reach)] (none) [(kM ad M_thrown M_states M_moves M_known M_come M_lookedAt M_parts M_whole), (kI cI (ad 34) 600 M_to), (kI cI (ad 37) 200 M_first), (kI cI (ad 39) 600 M_next), (kI cI (ad 41) 200 res.1), (kZ cZ (ad 45) 200 M_alive), (kZ cZ (ad 46) 40000 res.2)] := by
  refine mc_ofv (own := RX5) (by decide) rfl rfl (Nat.le_of_ble_eq_true rfl) ?_
  intro p e s m below meth c A Q ls hx hb hml hown hts hK hP hD hA hl hend
  have hS : va_S A s.heap s.heap [] := va_S.rf
  have hl : lv_has ls 3 [(0, .ref (ad 5))] := hl
  obtain ⟨H, hH⟩ : ∃ H, H = s.heap := ⟨_, rfl⟩
  obtain ⟨locs, hlo⟩ : ∃ locs : List Loc, locs = [] := ⟨_, rfl⟩
  have hS : va_S A s.heap H locs := by rw [hH, hlo]; exact hS
  have hP : va_P D vwCl [(kM ad M_thrown M_states M_moves M_known M_come M_lookedAt M_parts M_whole), (kI cI (ad 34) 600 M_to), (kI cI (ad 37) 200 M_first), (kI cI (ad 39) 600 M_next), (kI cI (ad 41) 200 M_queue), (kZ cZ (ad 45) 200 M_alive), (kZ cZ (ad 46) 40000 M_reach)] H := by rw [hH]; exact hP
  suffices h9 : W p l e { frames := 1, cells := 0, slots := 0, locals := 26 } s m ([.ref (ad 5)] : List Value).toArray below meth c H locs 0 0 Q (F0 m 0 ls []) by rw [hH, hlo] at h9; exact h9
  clear hH hlo
  have hiX5 : ∀ w ∈ wsX50, w ∈ wv_X5_close := fun w h => List.mem_cons_of_mem _ (inlX5 w h)
  have hk0 := hts (.fieldLink RX5 80 "FairLoopsModel" "states" "I") (List.mem_cons_of_mem _ wk_120)
  have hk1 := hts (.fieldLink RX5 54 "FairLoopsModel" "alive" "[Z") (List.mem_cons_of_mem _ wk_87)
  have hk2 := hts (.fieldLink RX5 58 "FairLoopsModel" "reach" "[Z") (List.mem_cons_of_mem _ wk_89)
  refine lv_iconst (v := 0) hx hb dX5_close_0 (by decide) ?_
  refine lv_istore_n (lv' := [(1, .int 0), (0, .ref (ad 5))]) hx hb dX5_close_1 rfl hl (by decide) rfl (fun ls hl => ?_)
  obtain ⟨ex_2, hex_2, h_2⟩ := ox_b_of h
  have hX_2 : ∀ (v1_2 : Int32) (M_queue_2 : Nat → Int32) (M_reach_2 : Nat → Int32) (H : Heap) (locs : List Loc) (ls : Array Slot), (v1_2, M_queue_2, M_reach_2) = ex_2 → va_P D vwCl [(kM ad M_thrown M_states M_moves M_known M_come M_lookedAt M_parts M_whole), (kI cI (ad 34) 600 M_to), (kI cI (ad 37) 200 M_first), (kI cI (ad 39) 600 M_next), (kI cI (ad 41) 200 M_queue_2), (kZ cZ (ad 45) 200 M_alive), (kZ cZ (ad 46) 40000 M_reach_2)] H → va_D A [(kM ad M_thrown M_states M_moves M_known M_come M_lookedAt M_parts M_whole), (kI cI (ad 34) 600 M_to), (kI cI (ad 37) 200 M_first), (kI cI (ad 39) 600 M_next), (kI cI (ad 41) 200 M_queue_2), (kZ cZ (ad 45) 200 M_alive), (kZ cZ (ad 46) 40000 M_reach_2)] → va_S A s.heap H locs → lv_has ls 3 [] → W p l e { frames := 1, cells := 0, slots := 0, locals := 26 } s m ([.ref (ad 5)] : List Value).toArray below meth c H locs 0 0 Q (F0 m 59 ls []) := by
    intro v1_2 M_queue_2 M_reach_2 H locs ls hex_2 hP hD hS hl
    subst hex_2
    have h := h_2
    have h := Option.some.inj h
    subst h
    exact hend H locs _ ls hP hD hS dX5_close_59 trivial
  have hL_2 : ∀ (n : Nat) (v1_2 : Int32) (M_queue_2 : Nat → Int32) (M_reach_2 : Nat → Int32) (H : Heap) (locs : List Loc) (ls : Array Slot), ox_l (fn_X5_close_l2 M_states M_alive M_to M_first M_next) n (v1_2, M_queue_2, M_reach_2) = some ex_2 → va_P D vwCl [(kM ad M_thrown M_states M_moves M_known M_come M_lookedAt M_parts M_whole), (kI cI (ad 34) 600 M_to), (kI cI (ad 37) 200 M_first), (kI cI (ad 39) 600 M_next), (kI cI (ad 41) 200 M_queue_2), (kZ cZ (ad 45) 200 M_alive), (kZ cZ (ad 46) 40000 M_reach_2)] H → va_D A [(kM ad M_thrown M_states M_moves M_known M_come M_lookedAt M_parts M_whole), (kI cI (ad 34) 600 M_to), (kI cI (ad 37) 200 M_first), (kI cI (ad 39) 600 M_next), (kI cI (ad 41) 200 M_queue_2), (kZ cZ (ad 45) 200 M_alive), (kZ cZ (ad 46) 40000 M_reach_2)] → va_S A s.heap H locs → lv_has ls 3 [(0, .ref (ad 5)), (1, .int v1_2)] → W p l e { frames := 1, cells := 0, slots := 0, locals := 26 } s m ([.ref (ad 5)] : List Value).toArray below meth c H locs 0 0 Q (F0 m 2 ls []) := by
    intro n
    induction n with
    | zero => intro v1_2 M_queue_2 M_reach_2 H locs ls hlp; exact ox_l_0 hlp
    | succ n ih_2 =>
      intro v1_2 M_queue_2 M_reach_2 H locs ls hlp_2 hP hD hS hl
      obtain ⟨z_2, h, hlp_2⟩ := ox_l_of hlp_2
      refine lv_iload_n hx hb dX5_close_2 rfl (lv_at hl 1 rfl) ?_
      refine lv_aload_n hx hb dX5_close_3 rfl (lv_at hl 0 rfl) ?_
      refine va_get (D := D) (ci := 5) (v := .int M_states) (C := RX5) (T := TX5) (N := 27) hx hb hts hiX5 hown hK hP 0 rfl rfl 1 (by decide) hk0 (fun _ h9 => h9) rfl dX5_close_4 ?_
      refine lv_icmp_ge (tgt := 59) hx hb dX5_close_7 (by decide) (fun c_7 => ?_) (fun c_7 => ?_)
      · have h := ox_t c_7 h
        obtain rfl := Option.some.inj h
        exact hX_2 v1_2 M_queue_2 M_reach_2 H locs ls hlp_2 hP hD hS (lv_sub hl [] rfl)
      · have h := ox_f c_7 h
        refine lv_iconst (v := 0) hx hb dX5_close_10 (by decide) ?_
        refine lv_istore_n (lv' := [(2, .int 0), (0, .ref (ad 5)), (1, .int v1_2)]) hx hb dX5_close_11 rfl hl (by decide) rfl (fun ls hl => ?_)
        obtain ⟨ex_12, hex_12, h_12⟩ := ox_b_of h
        have hX_12 : ∀ (v2_12 : Int32) (M_reach_12 : Nat → Int32) (H : Heap) (locs : List Loc) (ls : Array Slot), (v2_12, M_reach_12) = ex_12 → va_P D vwCl [(kM ad M_thrown M_states M_moves M_known M_come M_lookedAt M_parts M_whole), (kI cI (ad 34) 600 M_to), (kI cI (ad 37) 200 M_first), (kI cI (ad 39) 600 M_next), (kI cI (ad 41) 200 M_queue_2), (kZ cZ (ad 45) 200 M_alive), (kZ cZ (ad 46) 40000 M_reach_12)] H → va_D A [(kM ad M_thrown M_states M_moves M_known M_come M_lookedAt M_parts M_whole), (kI cI (ad 34) 600 M_to), (kI cI (ad 37) 200 M_first), (kI cI (ad 39) 600 M_next), (kI cI (ad 41) 200 M_queue_2), (kZ cZ (ad 45) 200 M_alive), (kZ cZ (ad 46) 40000 M_reach_12)] → va_S A s.heap H locs → lv_has ls 3 [(0, .ref (ad 5)), (1, .int v1_2)] → W p l e { frames := 1, cells := 0, slots := 0, locals := 26 } s m ([.ref (ad 5)] : List Value).toArray below meth c H locs 0 0 Q (F0 m 39 ls []) := by
          intro v2_12 M_reach_12 H locs ls hex_12 hP hD hS hl
          subst hex_12
          have h := h_12
          refine lv_aload_n hx hb dX5_close_39 rfl (lv_at hl 0 rfl) ?_
          refine va_get (D := D) (ci := 5) (v := .ref (ad 45)) (C := RX5) (T := TX5) (N := 27) hx hb hts hiX5 hown hK hP 0 rfl rfl 19 (by decide) hk1 (fun _ h9 => h9) rfl dX5_close_40 ?_
          refine lv_iload_n hx hb dX5_close_43 rfl (lv_at hl 1 rfl) ?_
          obtain ⟨hi_44, h⟩ := ox_i_of h
          refine va_zald hx hb hK hP 5 1 rfl rfl hi_44 dX5_close_44 ?_
          refine lv_if_eq (tgt := 53) hx hb dX5_close_45 (by decide) (fun c_45 => ?_) (fun c_45 => ?_)
          · have h := ox_t c_45 h
            refine lv_iinc (v := v1_2 + 1) (lv' := [(1, .int (v1_2 + 1)), (0, .ref (ad 5))]) hx hb dX5_close_53 hl (k := 1) rfl rfl (by decide) rfl (fun ls hl => ?_)
            refine lv_goto (tgt := 2) hx hb dX5_close_56 (by decide) ?_
            obtain rfl := Option.some.inj h
            exact ih_2 (v1_2 + 1) M_queue_2 M_reach_12 H locs ls hlp_2 hP hD hS (lv_sub hl [1, 0] rfl)
          · have h := ox_f c_45 h
            refine lv_aload_n hx hb dX5_close_48 rfl (lv_at hl 0 rfl) ?_
            refine lv_iload_n hx hb dX5_close_49 rfl (lv_at hl 1 rfl) ?_
            obtain ⟨⟨M_queue_50, M_reach_50⟩, hc_50, h⟩ := ox_b_of h
            refine mc_callV (As := [.int v1_2]) (rest := []) (b := ad 5) (Wc := [(kM ad M_thrown M_states M_moves M_known M_come M_lookedAt M_parts M_whole), (kI cI (ad 34) 600 M_to), (kI cI (ad 37) 200 M_first), (kI cI (ad 39) 600 M_next), (kI cI (ad 41) 200 M_queue_2), (kZ cZ (ad 45) 200 M_alive), (kZ cZ (ad 46) 40000 M_reach_12)]) (wr := []) (W1 := [(kM ad M_thrown M_states M_moves M_known M_come M_lookedAt M_parts M_whole), (kI cI (ad 34) 600 M_to), (kI cI (ad 37) 200 M_first), (kI cI (ad 39) 600 M_next), (kI cI (ad 41) 200 M_queue_50), (kZ cZ (ad 45) 200 M_alive), (kZ cZ (ad 46) 40000 M_reach_50)]) (wn := [(kM ad M_thrown M_states M_moves M_known M_come M_lookedAt M_parts M_whole), (kI cI (ad 34) 600 M_to), (kI cI (ad 37) 200 M_first), (kI cI (ad 39) 600 M_next), (kI cI (ad 41) 200 M_queue_50), (kZ cZ (ad 45) 200 M_alive), (kZ cZ (ad 46) 40000 M_reach_50)]) (rv := none) ⟨hx, hb, hml, hown, hts⟩ (c_X5_spread l D cI cZ ad M_thrown M_states M_moves M_known M_come M_lookedAt M_parts M_whole M_to M_first M_next M_queue_2 M_alive M_reach_12 v1_2 _ hc_50) (cwV 1 hts (gl_V wk_332 wk_333 wk_334 wk_5 wk_335) rfl rfl rfl (by decide +kernel) ⟨Nat.le_of_ble_eq_true rfl, Nat.le_of_ble_eq_true rfl⟩) hK hP hD hS hA 5 0 rfl rfl rfl [0, 1, 2, 3, 4, 5, 6] [] [0, 1, 2, 3, 4, 5, 6] rfl rfl (by decide) rfl (by decide) (by decide) rfl rfl (by decide) rfl rfl hl.1 (Nat.le_of_ble_eq_true rfl) dX5_close_50 ⟨Nat.zero_le _, Nat.zero_le _⟩ (fun H locs hP hD hS => ?_)
            show W p l e { frames := 1, cells := 0, slots := 0, locals := 26 } s m ([.ref (ad 5)] : List Value).toArray below meth c H locs 0 0 Q (F0 m 53 ls [])
            refine lv_iinc (v := v1_2 + 1) (lv' := [(1, .int (v1_2 + 1)), (0, .ref (ad 5))]) hx hb dX5_close_53 hl (k := 1) rfl rfl (by decide) rfl (fun ls hl => ?_)
            refine lv_goto (tgt := 2) hx hb dX5_close_56 (by decide) ?_
            obtain rfl := Option.some.inj h
            exact ih_2 (v1_2 + 1) M_queue_50 M_reach_50 H locs ls hlp_2 hP hD hS (lv_sub hl [1, 0] rfl)
        have hL_12 : ∀ (n : Nat) (v2_12 : Int32) (M_reach_12 : Nat → Int32) (H : Heap) (locs : List Loc) (ls : Array Slot), ox_l (fn_X5_close_l12 M_states v1_2) n (v2_12, M_reach_12) = some ex_12 → va_P D vwCl [(kM ad M_thrown M_states M_moves M_known M_come M_lookedAt M_parts M_whole), (kI cI (ad 34) 600 M_to), (kI cI (ad 37) 200 M_first), (kI cI (ad 39) 600 M_next), (kI cI (ad 41) 200 M_queue_2), (kZ cZ (ad 45) 200 M_alive), (kZ cZ (ad 46) 40000 M_reach_12)] H → va_D A [(kM ad M_thrown M_states M_moves M_known M_come M_lookedAt M_parts M_whole), (kI cI (ad 34) 600 M_to), (kI cI (ad 37) 200 M_first), (kI cI (ad 39) 600 M_next), (kI cI (ad 41) 200 M_queue_2), (kZ cZ (ad 45) 200 M_alive), (kZ cZ (ad 46) 40000 M_reach_12)] → va_S A s.heap H locs → lv_has ls 3 [(0, .ref (ad 5)), (1, .int v1_2), (2, .int v2_12)] → W p l e { frames := 1, cells := 0, slots := 0, locals := 26 } s m ([.ref (ad 5)] : List Value).toArray below meth c H locs 0 0 Q (F0 m 12 ls []) := by
          intro n
          induction n with
          | zero => intro v2_12 M_reach_12 H locs ls hlp; exact ox_l_0 hlp
          | succ n ih_12 =>
            intro v2_12 M_reach_12 H locs ls hlp_12 hP hD hS hl
            obtain ⟨z_12, h, hlp_12⟩ := ox_l_of hlp_12
            refine lv_iload_n hx hb dX5_close_12 rfl (lv_at hl 2 rfl) ?_
            refine lv_aload_n hx hb dX5_close_13 rfl (lv_at hl 0 rfl) ?_
            refine va_get (D := D) (ci := 5) (v := .int M_states) (C := RX5) (T := TX5) (N := 27) hx hb hts hiX5 hown hK hP 0 rfl rfl 1 (by decide) hk0 (fun _ h9 => h9) rfl dX5_close_14 ?_
            refine lv_icmp_ge (tgt := 39) hx hb dX5_close_17 (by decide) (fun c_17 => ?_) (fun c_17 => ?_)
            · have h := ox_t c_17 h
              obtain rfl := Option.some.inj h
              exact hX_12 v2_12 M_reach_12 H locs ls hlp_12 hP hD hS (lv_sub hl [0, 1] rfl)
            · have h := ox_f c_17 h
              refine lv_aload_n hx hb dX5_close_20 rfl (lv_at hl 0 rfl) ?_
              refine va_get (D := D) (ci := 5) (v := .ref (ad 46)) (C := RX5) (T := TX5) (N := 27) hx hb hts hiX5 hown hK hP 0 rfl rfl 20 (by decide) hk2 (fun _ h9 => h9) rfl dX5_close_21 ?_
              refine lv_sipush (v := 200) hx hb dX5_close_24 (by decide) ?_
              refine lv_iload_n hx hb dX5_close_27 rfl (lv_at hl 1 rfl) ?_
              refine lv_imul hx hb dX5_close_28 ?_
              refine lv_iload_n hx hb dX5_close_29 rfl (lv_at hl 2 rfl) ?_
              refine lv_iadd hx hb dX5_close_30 ?_
              refine lv_iconst (v := 0) hx hb dX5_close_31 (by decide) ?_
              obtain ⟨hi_32, h⟩ := ox_i_of h
              refine va_zast hx hb hK hP hD hS 6 1 rfl rfl hi_32 dX5_close_32 (fun H locs hP hD hS => ?_)
              have hP : va_P D vwCl [(kM ad M_thrown M_states M_moves M_known M_come M_lookedAt M_parts M_whole), (kI cI (ad 34) 600 M_to), (kI cI (ad 37) 200 M_first), (kI cI (ad 39) 600 M_next), (kI cI (ad 41) 200 M_queue_2), (kZ cZ (ad 45) 200 M_alive), (kZ cZ (ad 46) 40000 (upd M_reach_12 ((200 * v1_2) + v2_12).toNatClampNeg (vp_nar .boolean 0)))] H := hP
              have hD : va_D A [(kM ad M_thrown M_states M_moves M_known M_come M_lookedAt M_parts M_whole), (kI cI (ad 34) 600 M_to), (kI cI (ad 37) 200 M_first), (kI cI (ad 39) 600 M_next), (kI cI (ad 41) 200 M_queue_2), (kZ cZ (ad 45) 200 M_alive), (kZ cZ (ad 46) 40000 (upd M_reach_12 ((200 * v1_2) + v2_12).toNatClampNeg (vp_nar .boolean 0)))] := hD
              refine lv_iinc (v := v2_12 + 1) (lv' := [(2, .int (v2_12 + 1)), (0, .ref (ad 5)), (1, .int v1_2)]) hx hb dX5_close_33 hl (k := 2) rfl rfl (by decide) rfl (fun ls hl => ?_)
              refine lv_goto (tgt := 12) hx hb dX5_close_36 (by decide) ?_
              obtain rfl := Option.some.inj h
              exact ih_12 (v2_12 + 1) (upd M_reach_12 ((200 * v1_2) + v2_12).toNatClampNeg (vp_nar .boolean 0)) H locs ls hlp_12 hP hD hS (lv_sub hl [1, 2, 0] rfl)
        exact hL_12 1000000 0 M_reach_2 H locs ls hex_12 hP hD hS (lv_sub hl [1, 2, 0] rfl)
  exact hL_2 1000000 0 M_queue M_reach H locs ls hex_2 hP hD hS (lv_sub hl [1, 0] rfl)
set_option maxHeartbeats 4000000 in
set_option maxRecDepth 100000 in
theorem c_X5_together (l : Launch) (D : va_G) (cI cZ : ClassId) (ad : Nat → Nat) (M_thrown : Int32) (M_states : Int32) (M_moves : Int32) (M_known : Int32) (M_come : Int32) (M_lookedAt : Int32) (M_parts : Int32) (M_whole : Int32) (M_reach : Nat → Int32) (a1 : Int32) (a2 : Int32) (res : Int32) (h : fn_X5_together M_reach a1 a2 = some res) : mc_C l yX5_together wv_X5_together { frames := 0, cells := 0, slots := 0, locals := 0 } D [(cI, .int), (cZ, .boolean)] [.ref (ad 5), .int a1, .int a2] [(kM ad M_thrown M_states M_moves M_known M_come M_lookedAt M_parts M_whole), (kZ cZ (ad 46) 40000 M_reach)] (some (.int res)) [(kM ad M_thrown M_states M_moves M_known M_come M_lookedAt M_parts M_whole), (kZ cZ (ad 46) 40000 M_reach)] := by
  refine mc_ofz (own := RX5) (by decide) rfl rfl (Nat.le_of_ble_eq_true rfl) ?_
  intro p e s m below meth c A Q ls hx hb hml hown hts hK hP hD hA hl hend
  have hS : va_S A s.heap s.heap [] := va_S.rf
  have hl : lv_has ls 3 [(0, .ref (ad 5)), (1, .int a1), (2, .int a2)] := hl
  obtain ⟨H, hH⟩ : ∃ H, H = s.heap := ⟨_, rfl⟩
  obtain ⟨locs, hlo⟩ : ∃ locs : List Loc, locs = [] := ⟨_, rfl⟩
  have hS : va_S A s.heap H locs := by rw [hH, hlo]; exact hS
  have hP : va_P D vwCl [(kM ad M_thrown M_states M_moves M_known M_come M_lookedAt M_parts M_whole), (kZ cZ (ad 46) 40000 M_reach)] H := by rw [hH]; exact hP
  suffices h9 : W p l e { frames := 0, cells := 0, slots := 0, locals := 0 } s m ([.ref (ad 5), .int a1, .int a2] : List Value).toArray below meth c H locs 0 0 Q (F0 m 0 ls []) by rw [hH, hlo] at h9; exact h9
  clear hH hlo
  have hiX5 : ∀ w ∈ wsX50, w ∈ wv_X5_together := fun w h => List.mem_cons_of_mem _ (inlX5 w h)
  have hk0 := hts (.fieldLink RX5 58 "FairLoopsModel" "reach" "[Z") (List.mem_cons_of_mem _ wk_89)
  refine lv_aload_n hx hb dX5_together_0 rfl (lv_at hl 0 rfl) ?_
  refine va_get (D := D) (ci := 5) (v := .ref (ad 46)) (C := RX5) (T := TX5) (N := 27) hx hb hts hiX5 hown hK hP 0 rfl rfl 20 (by decide) hk0 (fun _ h9 => h9) rfl dX5_together_1 ?_
  refine lv_sipush (v := 200) hx hb dX5_together_4 (by decide) ?_
  refine lv_iload_n hx hb dX5_together_7 rfl (lv_at hl 1 rfl) ?_
  refine lv_imul hx hb dX5_together_8 ?_
  refine lv_iload_n hx hb dX5_together_9 rfl (lv_at hl 2 rfl) ?_
  refine lv_iadd hx hb dX5_together_10 ?_
  obtain ⟨hi_11, h⟩ := ox_i_of h
  refine va_zald hx hb hK hP 1 1 rfl rfl hi_11 dX5_together_11 ?_
  refine lv_if_eq (tgt := 34) hx hb dX5_together_12 (by decide) (fun c_12 => ?_) (fun c_12 => ?_)
  · have h := ox_t c_12 h
    refine lv_iconst (v := 0) hx hb dX5_together_34 (by decide) ?_
    have h := Option.some.inj h
    subst h
    exact hend H locs _ ls hP hD hS dX5_together_35 nb_0
  · have h := ox_f c_12 h
    refine lv_aload_n hx hb dX5_together_15 rfl (lv_at hl 0 rfl) ?_
    refine va_get (D := D) (ci := 5) (v := .ref (ad 46)) (C := RX5) (T := TX5) (N := 27) hx hb hts hiX5 hown hK hP 0 rfl rfl 20 (by decide) hk0 (fun _ h9 => h9) rfl dX5_together_16 ?_
    refine lv_sipush (v := 200) hx hb dX5_together_19 (by decide) ?_
    refine lv_iload_n hx hb dX5_together_22 rfl (lv_at hl 2 rfl) ?_
    refine lv_imul hx hb dX5_together_23 ?_
    refine lv_iload_n hx hb dX5_together_24 rfl (lv_at hl 1 rfl) ?_
    refine lv_iadd hx hb dX5_together_25 ?_
    obtain ⟨hi_26, h⟩ := ox_i_of h
    refine va_zald hx hb hK hP 1 1 rfl rfl hi_26 dX5_together_26 ?_
    refine lv_if_eq (tgt := 34) hx hb dX5_together_27 (by decide) (fun c_27 => ?_) (fun c_27 => ?_)
    · have h := ox_t c_27 h
      refine lv_iconst (v := 0) hx hb dX5_together_34 (by decide) ?_
      have h := Option.some.inj h
      subst h
      exact hend H locs _ ls hP hD hS dX5_together_35 nb_0
    · have h := ox_f c_27 h
      refine lv_iconst (v := 1) hx hb dX5_together_30 (by decide) ?_
      refine lv_goto (tgt := 35) hx hb dX5_together_31 (by decide) ?_
      have h := Option.some.inj h
      subst h
      exact hend H locs _ ls hP hD hS dX5_together_35 nb_1
set_option maxHeartbeats 4000000 in
set_option maxRecDepth 100000 in
theorem c_X5_divide (l : Launch) (D : va_G) (cI cZ : ClassId) (ad : Nat → Nat) (M_thrown : Int32) (M_states : Int32) (M_moves : Int32) (M_known : Int32) (M_come : Int32) (M_lookedAt : Int32) (M_parts : Int32) (M_whole : Int32) (M_to : Nat → Int32) (M_first : Nat → Int32) (M_next : Nat → Int32) (M_queue : Nat → Int32) (M_alive : Nat → Int32) (M_reach : Nat → Int32) (M_partOf : Nat → Int32) (res : Int32 × (Nat → Int32) × (Nat → Int32) × (Nat → Int32) × (Nat → Int32)) (h : fn_X5_divide M_states M_to M_first M_next M_queue M_alive M_reach M_partOf = some res) : mc_C l yX5_divide wv_X5_divide { frames := 2, cells := 0, slots := 0, locals := 48 } D [(cI, .int), (cZ, .boolean)] [.ref (ad 5)] [(kM ad M_thrown M_states M_moves M_known M_come M_lookedAt M_parts M_whole), (kI cI (ad 34) 600 M_to), (kI cI (ad 37) 200 M_first), (kI cI (ad 39) 600 M_next), (kI cI (ad 41) 200 M_queue), (kZ cZ (ad 45) 200 M_alive), (kZ cZ (ad 46) 40000 M_reach), (kI cI (ad 49) 200 M_partOf)] (some (.int res.1)) [(kM ad M_thrown M_states M_moves M_known M_come M_lookedAt M_parts M_whole), (kI cI (ad 34) 600 M_to), (kI cI (ad 37) 200 M_first), (kI cI (ad 39) 600 M_next), (kI cI (ad 41) 200 res.2.1), (kZ cZ (ad 45) 200 res.2.2.1), (kZ cZ (ad 46) 40000 res.2.2.2.1), (kI cI (ad 49) 200 res.2.2.2.2)] := by
  refine mc_ofi (own := RX5) (by decide) rfl rfl (Nat.le_of_ble_eq_true rfl) ?_
  intro p e s m below meth c A Q ls hx hb hml hown hts hK hP hD hA hl hend
  have hS : va_S A s.heap s.heap [] := va_S.rf
  have hl : lv_has ls 4 [(0, .ref (ad 5))] := hl
  obtain ⟨H, hH⟩ : ∃ H, H = s.heap := ⟨_, rfl⟩
  obtain ⟨locs, hlo⟩ : ∃ locs : List Loc, locs = [] := ⟨_, rfl⟩
  have hS : va_S A s.heap H locs := by rw [hH, hlo]; exact hS
  have hP : va_P D vwCl [(kM ad M_thrown M_states M_moves M_known M_come M_lookedAt M_parts M_whole), (kI cI (ad 34) 600 M_to), (kI cI (ad 37) 200 M_first), (kI cI (ad 39) 600 M_next), (kI cI (ad 41) 200 M_queue), (kZ cZ (ad 45) 200 M_alive), (kZ cZ (ad 46) 40000 M_reach), (kI cI (ad 49) 200 M_partOf)] H := by rw [hH]; exact hP
  suffices h9 : W p l e { frames := 2, cells := 0, slots := 0, locals := 48 } s m ([.ref (ad 5)] : List Value).toArray below meth c H locs 0 0 Q (F0 m 0 ls []) by rw [hH, hlo] at h9; exact h9
  clear hH hlo
  have hiX5 : ∀ w ∈ wsX50, w ∈ wv_X5_divide := fun w h => List.mem_cons_of_mem _ (inlX5 w h)
  have hk0 := hts (.fieldLink RX5 80 "FairLoopsModel" "states" "I") (List.mem_cons_of_mem _ wk_120)
  have hk1 := hts (.fieldLink RX5 54 "FairLoopsModel" "alive" "[Z") (List.mem_cons_of_mem _ wk_87)
  have hk2 := hts (.fieldLink RX5 67 "FairLoopsModel" "partOf" "[I") (List.mem_cons_of_mem _ wk_92)
  refine lv_aload_n hx hb dX5_divide_0 rfl (lv_at hl 0 rfl) ?_
  obtain ⟨⟨M_queue_1, M_reach_1⟩, hc_1, h⟩ := ox_b_of h
  refine mc_callV (As := []) (rest := []) (b := ad 5) (Wc := [(kM ad M_thrown M_states M_moves M_known M_come M_lookedAt M_parts M_whole), (kI cI (ad 34) 600 M_to), (kI cI (ad 37) 200 M_first), (kI cI (ad 39) 600 M_next), (kI cI (ad 41) 200 M_queue), (kZ cZ (ad 45) 200 M_alive), (kZ cZ (ad 46) 40000 M_reach)]) (wr := [(kI cI (ad 49) 200 M_partOf)]) (W1 := [(kM ad M_thrown M_states M_moves M_known M_come M_lookedAt M_parts M_whole), (kI cI (ad 34) 600 M_to), (kI cI (ad 37) 200 M_first), (kI cI (ad 39) 600 M_next), (kI cI (ad 41) 200 M_queue_1), (kZ cZ (ad 45) 200 M_alive), (kZ cZ (ad 46) 40000 M_reach_1)]) (wn := [(kM ad M_thrown M_states M_moves M_known M_come M_lookedAt M_parts M_whole), (kI cI (ad 34) 600 M_to), (kI cI (ad 37) 200 M_first), (kI cI (ad 39) 600 M_next), (kI cI (ad 41) 200 M_queue_1), (kZ cZ (ad 45) 200 M_alive), (kZ cZ (ad 46) 40000 M_reach_1), (kI cI (ad 49) 200 M_partOf)]) (rv := none) ⟨hx, hb, hml, hown, hts⟩ (c_X5_close l D cI cZ ad M_thrown M_states M_moves M_known M_come M_lookedAt M_parts M_whole M_to M_first M_next M_queue M_alive M_reach  _ hc_1) (cwV 0 hts (gl_V wk_328 wk_329 wk_330 wk_5 wk_331) rfl rfl rfl (by decide +kernel) ⟨Nat.le_of_ble_eq_true rfl, Nat.le_of_ble_eq_true rfl⟩) hK hP hD hS hA 5 0 rfl rfl rfl [0, 1, 2, 3, 4, 5, 6] [7] [1, 2, 3, 4, 5, 6, 7, 0] rfl rfl (by decide) rfl (by decide) (by decide) rfl rfl (by decide) rfl rfl hl.1 (Nat.le_of_ble_eq_true rfl) dX5_divide_1 ⟨Nat.zero_le _, Nat.zero_le _⟩ (fun H locs hP hD hS => ?_)
  show W p l e { frames := 2, cells := 0, slots := 0, locals := 48 } s m ([.ref (ad 5)] : List Value).toArray below meth c H locs 0 0 Q (F0 m 4 ls [])
  refine lv_iconst (v := 0) hx hb dX5_divide_4 (by decide) ?_
  refine lv_istore_n (lv' := [(1, .int 0), (0, .ref (ad 5))]) hx hb dX5_divide_5 rfl hl (by decide) rfl (fun ls hl => ?_)
  refine lv_iconst (v := 0) hx hb dX5_divide_6 (by decide) ?_
  refine lv_istore_n (lv' := [(2, .int 0), (1, .int 0), (0, .ref (ad 5))]) hx hb dX5_divide_7 rfl hl (by decide) rfl (fun ls hl => ?_)
  obtain ⟨ex_8, hex_8, h_8⟩ := ox_b_of h
  have hX_8 : ∀ (v1_8 : Int32) (v2_8 : Int32) (M_partOf_8 : Nat → Int32) (H : Heap) (locs : List Loc) (ls : Array Slot), (v1_8, v2_8, M_partOf_8) = ex_8 → va_P D vwCl [(kM ad M_thrown M_states M_moves M_known M_come M_lookedAt M_parts M_whole), (kI cI (ad 34) 600 M_to), (kI cI (ad 37) 200 M_first), (kI cI (ad 39) 600 M_next), (kI cI (ad 41) 200 M_queue_1), (kZ cZ (ad 45) 200 M_alive), (kZ cZ (ad 46) 40000 M_reach_1), (kI cI (ad 49) 200 M_partOf_8)] H → va_D A [(kM ad M_thrown M_states M_moves M_known M_come M_lookedAt M_parts M_whole), (kI cI (ad 34) 600 M_to), (kI cI (ad 37) 200 M_first), (kI cI (ad 39) 600 M_next), (kI cI (ad 41) 200 M_queue_1), (kZ cZ (ad 45) 200 M_alive), (kZ cZ (ad 46) 40000 M_reach_1), (kI cI (ad 49) 200 M_partOf_8)] → va_S A s.heap H locs → lv_has ls 4 [(0, .ref (ad 5)), (1, .int v1_8)] → W p l e { frames := 2, cells := 0, slots := 0, locals := 48 } s m ([.ref (ad 5)] : List Value).toArray below meth c H locs 0 0 Q (F0 m 128 ls []) := by
    intro v1_8 v2_8 M_partOf_8 H locs ls hex_8 hP hD hS hl
    subst hex_8
    have h := h_8
    refine lv_iconst (v := 0) hx hb dX5_divide_128 (by decide) ?_
    refine lv_istore_n (lv' := [(2, .int 0), (0, .ref (ad 5)), (1, .int v1_8)]) hx hb dX5_divide_129 rfl hl (by decide) rfl (fun ls hl => ?_)
    obtain ⟨ex_130, hex_130, h_130⟩ := ox_b_of h
    have hX_130 : ∀ (v2_130 : Int32) (M_alive_130 : Nat → Int32) (H : Heap) (locs : List Loc) (ls : Array Slot), (v2_130, M_alive_130) = ex_130 → va_P D vwCl [(kM ad M_thrown M_states M_moves M_known M_come M_lookedAt M_parts M_whole), (kI cI (ad 34) 600 M_to), (kI cI (ad 37) 200 M_first), (kI cI (ad 39) 600 M_next), (kI cI (ad 41) 200 M_queue_1), (kZ cZ (ad 45) 200 M_alive_130), (kZ cZ (ad 46) 40000 M_reach_1), (kI cI (ad 49) 200 M_partOf_8)] H → va_D A [(kM ad M_thrown M_states M_moves M_known M_come M_lookedAt M_parts M_whole), (kI cI (ad 34) 600 M_to), (kI cI (ad 37) 200 M_first), (kI cI (ad 39) 600 M_next), (kI cI (ad 41) 200 M_queue_1), (kZ cZ (ad 45) 200 M_alive_130), (kZ cZ (ad 46) 40000 M_reach_1), (kI cI (ad 49) 200 M_partOf_8)] → va_S A s.heap H locs → lv_has ls 4 [(1, .int v1_8)] → W p l e { frames := 2, cells := 0, slots := 0, locals := 48 } s m ([.ref (ad 5)] : List Value).toArray below meth c H locs 0 0 Q (F0 m 165 ls []) := by
      intro v2_130 M_alive_130 H locs ls hex_130 hP hD hS hl
      subst hex_130
      have h := h_130
      refine lv_iload_n hx hb dX5_divide_165 rfl (lv_at hl 0 rfl) ?_
      have h := Option.some.inj h
      subst h
      exact hend H locs _ ls hP hD hS dX5_divide_166 trivial
    have hL_130 : ∀ (n : Nat) (v2_130 : Int32) (M_alive_130 : Nat → Int32) (H : Heap) (locs : List Loc) (ls : Array Slot), ox_l (fn_X5_divide_l130 M_states M_partOf_8) n (v2_130, M_alive_130) = some ex_130 → va_P D vwCl [(kM ad M_thrown M_states M_moves M_known M_come M_lookedAt M_parts M_whole), (kI cI (ad 34) 600 M_to), (kI cI (ad 37) 200 M_first), (kI cI (ad 39) 600 M_next), (kI cI (ad 41) 200 M_queue_1), (kZ cZ (ad 45) 200 M_alive_130), (kZ cZ (ad 46) 40000 M_reach_1), (kI cI (ad 49) 200 M_partOf_8)] H → va_D A [(kM ad M_thrown M_states M_moves M_known M_come M_lookedAt M_parts M_whole), (kI cI (ad 34) 600 M_to), (kI cI (ad 37) 200 M_first), (kI cI (ad 39) 600 M_next), (kI cI (ad 41) 200 M_queue_1), (kZ cZ (ad 45) 200 M_alive_130), (kZ cZ (ad 46) 40000 M_reach_1), (kI cI (ad 49) 200 M_partOf_8)] → va_S A s.heap H locs → lv_has ls 4 [(0, .ref (ad 5)), (1, .int v1_8), (2, .int v2_130)] → W p l e { frames := 2, cells := 0, slots := 0, locals := 48 } s m ([.ref (ad 5)] : List Value).toArray below meth c H locs 0 0 Q (F0 m 130 ls []) := by
      intro n
      induction n with
      | zero => intro v2_130 M_alive_130 H locs ls hlp; exact ox_l_0 hlp
      | succ n ih_130 =>
        intro v2_130 M_alive_130 H locs ls hlp_130 hP hD hS hl
        obtain ⟨z_130, h, hlp_130⟩ := ox_l_of hlp_130
        refine lv_iload_n hx hb dX5_divide_130 rfl (lv_at hl 2 rfl) ?_
        refine lv_aload_n hx hb dX5_divide_131 rfl (lv_at hl 0 rfl) ?_
        refine va_get (D := D) (ci := 5) (v := .int M_states) (C := RX5) (T := TX5) (N := 27) hx hb hts hiX5 hown hK hP 0 rfl rfl 1 (by decide) hk0 (fun _ h9 => h9) rfl dX5_divide_132 ?_
        refine lv_icmp_ge (tgt := 165) hx hb dX5_divide_135 (by decide) (fun c_135 => ?_) (fun c_135 => ?_)
        · have h := ox_t c_135 h
          obtain rfl := Option.some.inj h
          exact hX_130 v2_130 M_alive_130 H locs ls hlp_130 hP hD hS (lv_sub hl [1] rfl)
        · have h := ox_f c_135 h
          refine lv_aload_n hx hb dX5_divide_138 rfl (lv_at hl 0 rfl) ?_
          refine va_get (D := D) (ci := 5) (v := .ref (ad 45)) (C := RX5) (T := TX5) (N := 27) hx hb hts hiX5 hown hK hP 0 rfl rfl 19 (by decide) hk1 (fun _ h9 => h9) rfl dX5_divide_139 ?_
          refine lv_iload_n hx hb dX5_divide_142 rfl (lv_at hl 2 rfl) ?_
          refine lv_aload_n hx hb dX5_divide_143 rfl (lv_at hl 0 rfl) ?_
          refine va_get (D := D) (ci := 5) (v := .ref (ad 49)) (C := RX5) (T := TX5) (N := 27) hx hb hts hiX5 hown hK hP 0 rfl rfl 23 (by decide) hk2 (fun _ h9 => h9) rfl dX5_divide_144 ?_
          refine lv_iload_n hx hb dX5_divide_147 rfl (lv_at hl 2 rfl) ?_
          obtain ⟨hi_148, h⟩ := ox_i_of h
          refine va_iald hx hb hK hP 7 0 rfl rfl hi_148 dX5_divide_148 ?_
          refine lv_iconst (v := (-1)) hx hb dX5_divide_149 (by decide) ?_
          refine lv_icmp_eq (tgt := 157) hx hb dX5_divide_150 (by decide) (fun c_150 => ?_) (fun c_150 => ?_)
          · have h := ox_t c_150 h
            refine lv_iconst (v := 0) hx hb dX5_divide_157 (by decide) ?_
            obtain ⟨hi_158, h⟩ := ox_i_of h
            refine va_zast hx hb hK hP hD hS 5 1 rfl rfl hi_158 dX5_divide_158 (fun H locs hP hD hS => ?_)
            have hP : va_P D vwCl [(kM ad M_thrown M_states M_moves M_known M_come M_lookedAt M_parts M_whole), (kI cI (ad 34) 600 M_to), (kI cI (ad 37) 200 M_first), (kI cI (ad 39) 600 M_next), (kI cI (ad 41) 200 M_queue_1), (kZ cZ (ad 45) 200 (upd M_alive_130 v2_130.toNatClampNeg (vp_nar .boolean 0))), (kZ cZ (ad 46) 40000 M_reach_1), (kI cI (ad 49) 200 M_partOf_8)] H := hP
            have hD : va_D A [(kM ad M_thrown M_states M_moves M_known M_come M_lookedAt M_parts M_whole), (kI cI (ad 34) 600 M_to), (kI cI (ad 37) 200 M_first), (kI cI (ad 39) 600 M_next), (kI cI (ad 41) 200 M_queue_1), (kZ cZ (ad 45) 200 (upd M_alive_130 v2_130.toNatClampNeg (vp_nar .boolean 0))), (kZ cZ (ad 46) 40000 M_reach_1), (kI cI (ad 49) 200 M_partOf_8)] := hD
            refine lv_iinc (v := v2_130 + 1) (lv' := [(2, .int (v2_130 + 1)), (0, .ref (ad 5)), (1, .int v1_8)]) hx hb dX5_divide_159 hl (k := 2) rfl rfl (by decide) rfl (fun ls hl => ?_)
            refine lv_goto (tgt := 130) hx hb dX5_divide_162 (by decide) ?_
            obtain rfl := Option.some.inj h
            exact ih_130 (v2_130 + 1) (upd M_alive_130 v2_130.toNatClampNeg (vp_nar .boolean 0)) H locs ls hlp_130 hP hD hS (lv_sub hl [1, 2, 0] rfl)
          · have h := ox_f c_150 h
            refine lv_iconst (v := 1) hx hb dX5_divide_153 (by decide) ?_
            refine lv_goto (tgt := 158) hx hb dX5_divide_154 (by decide) ?_
            obtain ⟨hi_158, h⟩ := ox_i_of h
            refine va_zast hx hb hK hP hD hS 5 1 rfl rfl hi_158 dX5_divide_158 (fun H locs hP hD hS => ?_)
            have hP : va_P D vwCl [(kM ad M_thrown M_states M_moves M_known M_come M_lookedAt M_parts M_whole), (kI cI (ad 34) 600 M_to), (kI cI (ad 37) 200 M_first), (kI cI (ad 39) 600 M_next), (kI cI (ad 41) 200 M_queue_1), (kZ cZ (ad 45) 200 (upd M_alive_130 v2_130.toNatClampNeg (vp_nar .boolean 1))), (kZ cZ (ad 46) 40000 M_reach_1), (kI cI (ad 49) 200 M_partOf_8)] H := hP
            have hD : va_D A [(kM ad M_thrown M_states M_moves M_known M_come M_lookedAt M_parts M_whole), (kI cI (ad 34) 600 M_to), (kI cI (ad 37) 200 M_first), (kI cI (ad 39) 600 M_next), (kI cI (ad 41) 200 M_queue_1), (kZ cZ (ad 45) 200 (upd M_alive_130 v2_130.toNatClampNeg (vp_nar .boolean 1))), (kZ cZ (ad 46) 40000 M_reach_1), (kI cI (ad 49) 200 M_partOf_8)] := hD
            refine lv_iinc (v := v2_130 + 1) (lv' := [(2, .int (v2_130 + 1)), (0, .ref (ad 5)), (1, .int v1_8)]) hx hb dX5_divide_159 hl (k := 2) rfl rfl (by decide) rfl (fun ls hl => ?_)
            refine lv_goto (tgt := 130) hx hb dX5_divide_162 (by decide) ?_
            obtain rfl := Option.some.inj h
            exact ih_130 (v2_130 + 1) (upd M_alive_130 v2_130.toNatClampNeg (vp_nar .boolean 1)) H locs ls hlp_130 hP hD hS (lv_sub hl [1, 2, 0] rfl)
    exact hL_130 1000000 0 M_alive H locs ls hex_130 hP hD hS (lv_sub hl [1, 2, 0] rfl)
  have hL_8 : ∀ (n : Nat) (v1_8 : Int32) (v2_8 : Int32) (M_partOf_8 : Nat → Int32) (H : Heap) (locs : List Loc) (ls : Array Slot), ox_l (fn_X5_divide_l8 M_states M_alive M_reach_1) n (v1_8, v2_8, M_partOf_8) = some ex_8 → va_P D vwCl [(kM ad M_thrown M_states M_moves M_known M_come M_lookedAt M_parts M_whole), (kI cI (ad 34) 600 M_to), (kI cI (ad 37) 200 M_first), (kI cI (ad 39) 600 M_next), (kI cI (ad 41) 200 M_queue_1), (kZ cZ (ad 45) 200 M_alive), (kZ cZ (ad 46) 40000 M_reach_1), (kI cI (ad 49) 200 M_partOf_8)] H → va_D A [(kM ad M_thrown M_states M_moves M_known M_come M_lookedAt M_parts M_whole), (kI cI (ad 34) 600 M_to), (kI cI (ad 37) 200 M_first), (kI cI (ad 39) 600 M_next), (kI cI (ad 41) 200 M_queue_1), (kZ cZ (ad 45) 200 M_alive), (kZ cZ (ad 46) 40000 M_reach_1), (kI cI (ad 49) 200 M_partOf_8)] → va_S A s.heap H locs → lv_has ls 4 [(0, .ref (ad 5)), (1, .int v1_8), (2, .int v2_8)] → W p l e { frames := 2, cells := 0, slots := 0, locals := 48 } s m ([.ref (ad 5)] : List Value).toArray below meth c H locs 0 0 Q (F0 m 8 ls []) := by
    intro n
    induction n with
    | zero => intro v1_8 v2_8 M_partOf_8 H locs ls hlp; exact ox_l_0 hlp
    | succ n ih_8 =>
      intro v1_8 v2_8 M_partOf_8 H locs ls hlp_8 hP hD hS hl
      obtain ⟨z_8, h, hlp_8⟩ := ox_l_of hlp_8
      refine lv_iload_n hx hb dX5_divide_8 rfl (lv_at hl 2 rfl) ?_
      refine lv_aload_n hx hb dX5_divide_9 rfl (lv_at hl 0 rfl) ?_
      refine va_get (D := D) (ci := 5) (v := .int M_states) (C := RX5) (T := TX5) (N := 27) hx hb hts hiX5 hown hK hP 0 rfl rfl 1 (by decide) hk0 (fun _ h9 => h9) rfl dX5_divide_10 ?_
      refine lv_icmp_ge (tgt := 128) hx hb dX5_divide_13 (by decide) (fun c_13 => ?_) (fun c_13 => ?_)
      · have h := ox_t c_13 h
        obtain rfl := Option.some.inj h
        exact hX_8 v1_8 v2_8 M_partOf_8 H locs ls hlp_8 hP hD hS (lv_sub hl [0, 1] rfl)
      · have h := ox_f c_13 h
        refine lv_aload_n hx hb dX5_divide_16 rfl (lv_at hl 0 rfl) ?_
        refine va_get (D := D) (ci := 5) (v := .ref (ad 49)) (C := RX5) (T := TX5) (N := 27) hx hb hts hiX5 hown hK hP 0 rfl rfl 23 (by decide) hk2 (fun _ h9 => h9) rfl dX5_divide_17 ?_
        refine lv_iload_n hx hb dX5_divide_20 rfl (lv_at hl 2 rfl) ?_
        refine lv_iconst (v := (-1)) hx hb dX5_divide_21 (by decide) ?_
        obtain ⟨hi_22, h⟩ := ox_i_of h
        refine va_iast hx hb hK hP hD hS 7 0 rfl rfl hi_22 dX5_divide_22 (fun H locs hP hD hS => ?_)
        have hP : va_P D vwCl [(kM ad M_thrown M_states M_moves M_known M_come M_lookedAt M_parts M_whole), (kI cI (ad 34) 600 M_to), (kI cI (ad 37) 200 M_first), (kI cI (ad 39) 600 M_next), (kI cI (ad 41) 200 M_queue_1), (kZ cZ (ad 45) 200 M_alive), (kZ cZ (ad 46) 40000 M_reach_1), (kI cI (ad 49) 200 (upd M_partOf_8 v2_8.toNatClampNeg (-1)))] H := hP
        have hD : va_D A [(kM ad M_thrown M_states M_moves M_known M_come M_lookedAt M_parts M_whole), (kI cI (ad 34) 600 M_to), (kI cI (ad 37) 200 M_first), (kI cI (ad 39) 600 M_next), (kI cI (ad 41) 200 M_queue_1), (kZ cZ (ad 45) 200 M_alive), (kZ cZ (ad 46) 40000 M_reach_1), (kI cI (ad 49) 200 (upd M_partOf_8 v2_8.toNatClampNeg (-1)))] := hD
        refine lv_aload_n hx hb dX5_divide_23 rfl (lv_at hl 0 rfl) ?_
        refine va_get (D := D) (ci := 5) (v := .ref (ad 45)) (C := RX5) (T := TX5) (N := 27) hx hb hts hiX5 hown hK hP 0 rfl rfl 19 (by decide) hk1 (fun _ h9 => h9) rfl dX5_divide_24 ?_
        refine lv_iload_n hx hb dX5_divide_27 rfl (lv_at hl 2 rfl) ?_
        obtain ⟨hi_28, h⟩ := ox_i_of h
        refine va_zald hx hb hK hP 5 1 rfl rfl hi_28 dX5_divide_28 ?_
        refine lv_if_eq (tgt := 122) hx hb dX5_divide_29 (by decide) (fun c_29 => ?_) (fun c_29 => ?_)
        · have h := ox_t c_29 h
          refine lv_iinc (v := v2_8 + 1) (lv' := [(2, .int (v2_8 + 1)), (0, .ref (ad 5)), (1, .int v1_8)]) hx hb dX5_divide_122 hl (k := 2) rfl rfl (by decide) rfl (fun ls hl => ?_)
          refine lv_goto (tgt := 8) hx hb dX5_divide_125 (by decide) ?_
          obtain rfl := Option.some.inj h
          exact ih_8 v1_8 (v2_8 + 1) (upd M_partOf_8 v2_8.toNatClampNeg (-1)) H locs ls hlp_8 hP hD hS (lv_sub hl [1, 2, 0] rfl)
        · have h := ox_f c_29 h
          refine lv_aload_n hx hb dX5_divide_32 rfl (lv_at hl 0 rfl) ?_
          refine lv_iload_n hx hb dX5_divide_33 rfl (lv_at hl 2 rfl) ?_
          refine lv_iload_n hx hb dX5_divide_34 rfl (lv_at hl 2 rfl) ?_
          obtain ⟨r_35, hc_35, h⟩ := ox_b_of h
          refine mc_callV (As := [.int v2_8, .int v2_8]) (rest := []) (b := ad 5) (Wc := [(kM ad M_thrown M_states M_moves M_known M_come M_lookedAt M_parts M_whole), (kZ cZ (ad 46) 40000 M_reach_1)]) (wr := [(kI cI (ad 34) 600 M_to), (kI cI (ad 37) 200 M_first), (kI cI (ad 39) 600 M_next), (kI cI (ad 41) 200 M_queue_1), (kZ cZ (ad 45) 200 M_alive), (kI cI (ad 49) 200 (upd M_partOf_8 v2_8.toNatClampNeg (-1)))]) (W1 := [(kM ad M_thrown M_states M_moves M_known M_come M_lookedAt M_parts M_whole), (kZ cZ (ad 46) 40000 M_reach_1)]) (wn := [(kM ad M_thrown M_states M_moves M_known M_come M_lookedAt M_parts M_whole), (kI cI (ad 34) 600 M_to), (kI cI (ad 37) 200 M_first), (kI cI (ad 39) 600 M_next), (kI cI (ad 41) 200 M_queue_1), (kZ cZ (ad 45) 200 M_alive), (kZ cZ (ad 46) 40000 M_reach_1), (kI cI (ad 49) 200 (upd M_partOf_8 v2_8.toNatClampNeg (-1)))]) (rv := some (.int r_35)) ⟨hx, hb, hml, hown, hts⟩ (c_X5_together l D cI cZ ad M_thrown M_states M_moves M_known M_come M_lookedAt M_parts M_whole M_reach_1 v2_8 v2_8 _ hc_35) (cwV 2 hts (gl_V wk_336 wk_337 wk_338 wk_5 wk_339) rfl rfl rfl (by decide +kernel) ⟨Nat.le_of_ble_eq_true rfl, Nat.le_of_ble_eq_true rfl⟩) hK hP hD hS hA 5 0 rfl rfl rfl [0, 6] [1, 2, 3, 4, 5, 7] [6, 0, 1, 2, 3, 4, 7, 5] rfl rfl (by decide) rfl (by decide) (by decide) rfl rfl (by decide) rfl rfl hl.1 (Nat.le_of_ble_eq_true rfl) dX5_divide_35 ⟨Nat.zero_le _, Nat.zero_le _⟩ (fun H locs hP hD hS => ?_)
          show W p l e { frames := 2, cells := 0, slots := 0, locals := 48 } s m ([.ref (ad 5)] : List Value).toArray below meth c H locs 0 0 Q (F0 m 38 ls [.int r_35])
          refine lv_if_ne (tgt := 44) hx hb dX5_divide_38 (by decide) (fun c_38 => ?_) (fun c_38 => ?_)
          · have h := ox_f c_38 h
            refine lv_iconst (v := 0) hx hb dX5_divide_44 (by decide) ?_
            refine lv_istore_n (lv' := [(3, .int 0), (0, .ref (ad 5)), (1, .int v1_8), (2, .int v2_8)]) hx hb dX5_divide_45 rfl hl (by decide) rfl (fun ls hl => ?_)
            obtain ⟨ex_46, hex_46, h_46⟩ := ox_b_of h
            have hX_46 : ∀ (v3_46 : Int32) (M_partOf_46 : Nat → Int32) (H : Heap) (locs : List Loc) (ls : Array Slot), (v3_46, M_partOf_46) = ex_46 → va_P D vwCl [(kM ad M_thrown M_states M_moves M_known M_come M_lookedAt M_parts M_whole), (kI cI (ad 34) 600 M_to), (kI cI (ad 37) 200 M_first), (kI cI (ad 39) 600 M_next), (kI cI (ad 41) 200 M_queue_1), (kZ cZ (ad 45) 200 M_alive), (kZ cZ (ad 46) 40000 M_reach_1), (kI cI (ad 49) 200 M_partOf_46)] H → va_D A [(kM ad M_thrown M_states M_moves M_known M_come M_lookedAt M_parts M_whole), (kI cI (ad 34) 600 M_to), (kI cI (ad 37) 200 M_first), (kI cI (ad 39) 600 M_next), (kI cI (ad 41) 200 M_queue_1), (kZ cZ (ad 45) 200 M_alive), (kZ cZ (ad 46) 40000 M_reach_1), (kI cI (ad 49) 200 M_partOf_46)] → va_S A s.heap H locs → lv_has ls 4 [(0, .ref (ad 5)), (1, .int v1_8), (2, .int v2_8)] → W p l e { frames := 2, cells := 0, slots := 0, locals := 48 } s m ([.ref (ad 5)] : List Value).toArray below meth c H locs 0 0 Q (F0 m 102 ls []) := by
              intro v3_46 M_partOf_46 H locs ls hex_46 hP hD hS hl
              subst hex_46
              have h := h_46
              refine lv_aload_n hx hb dX5_divide_102 rfl (lv_at hl 0 rfl) ?_
              refine va_get (D := D) (ci := 5) (v := .ref (ad 49)) (C := RX5) (T := TX5) (N := 27) hx hb hts hiX5 hown hK hP 0 rfl rfl 23 (by decide) hk2 (fun _ h9 => h9) rfl dX5_divide_103 ?_
              refine lv_iload_n hx hb dX5_divide_106 rfl (lv_at hl 2 rfl) ?_
              obtain ⟨hi_107, h⟩ := ox_i_of h
              refine va_iald hx hb hK hP 7 0 rfl rfl hi_107 dX5_divide_107 ?_
              refine lv_iconst (v := (-1)) hx hb dX5_divide_108 (by decide) ?_
              refine lv_icmp_ne (tgt := 122) hx hb dX5_divide_109 (by decide) (fun c_109 => ?_) (fun c_109 => ?_)
              · have h := ox_f c_109 h
                refine lv_iinc (v := v2_8 + 1) (lv' := [(2, .int (v2_8 + 1)), (0, .ref (ad 5)), (1, .int v1_8)]) hx hb dX5_divide_122 hl (k := 2) rfl rfl (by decide) rfl (fun ls hl => ?_)
                refine lv_goto (tgt := 8) hx hb dX5_divide_125 (by decide) ?_
                obtain rfl := Option.some.inj h
                exact ih_8 v1_8 (v2_8 + 1) M_partOf_46 H locs ls hlp_8 hP hD hS (lv_sub hl [1, 2, 0] rfl)
              · have h := ox_t c_109 h
                refine lv_aload_n hx hb dX5_divide_112 rfl (lv_at hl 0 rfl) ?_
                refine va_get (D := D) (ci := 5) (v := .ref (ad 49)) (C := RX5) (T := TX5) (N := 27) hx hb hts hiX5 hown hK hP 0 rfl rfl 23 (by decide) hk2 (fun _ h9 => h9) rfl dX5_divide_113 ?_
                refine lv_iload_n hx hb dX5_divide_116 rfl (lv_at hl 2 rfl) ?_
                refine lv_iload_n hx hb dX5_divide_117 rfl (lv_at hl 1 rfl) ?_
                obtain ⟨hi_118, h⟩ := ox_i_of h
                refine va_iast hx hb hK hP hD hS 7 0 rfl rfl hi_118 dX5_divide_118 (fun H locs hP hD hS => ?_)
                have hP : va_P D vwCl [(kM ad M_thrown M_states M_moves M_known M_come M_lookedAt M_parts M_whole), (kI cI (ad 34) 600 M_to), (kI cI (ad 37) 200 M_first), (kI cI (ad 39) 600 M_next), (kI cI (ad 41) 200 M_queue_1), (kZ cZ (ad 45) 200 M_alive), (kZ cZ (ad 46) 40000 M_reach_1), (kI cI (ad 49) 200 (upd M_partOf_46 v2_8.toNatClampNeg v1_8))] H := hP
                have hD : va_D A [(kM ad M_thrown M_states M_moves M_known M_come M_lookedAt M_parts M_whole), (kI cI (ad 34) 600 M_to), (kI cI (ad 37) 200 M_first), (kI cI (ad 39) 600 M_next), (kI cI (ad 41) 200 M_queue_1), (kZ cZ (ad 45) 200 M_alive), (kZ cZ (ad 46) 40000 M_reach_1), (kI cI (ad 49) 200 (upd M_partOf_46 v2_8.toNatClampNeg v1_8))] := hD
                refine lv_iinc (v := v1_8 + 1) (lv' := [(1, .int (v1_8 + 1)), (0, .ref (ad 5)), (2, .int v2_8)]) hx hb dX5_divide_119 hl (k := 1) rfl rfl (by decide) rfl (fun ls hl => ?_)
                refine lv_iinc (v := v2_8 + 1) (lv' := [(2, .int (v2_8 + 1)), (1, .int (v1_8 + 1)), (0, .ref (ad 5))]) hx hb dX5_divide_122 hl (k := 2) rfl rfl (by decide) rfl (fun ls hl => ?_)
                refine lv_goto (tgt := 8) hx hb dX5_divide_125 (by decide) ?_
                obtain rfl := Option.some.inj h
                exact ih_8 (v1_8 + 1) (v2_8 + 1) (upd M_partOf_46 v2_8.toNatClampNeg v1_8) H locs ls hlp_8 hP hD hS (lv_sub hl [2, 1, 0] rfl)
            have hL_46 : ∀ (n : Nat) (v3_46 : Int32) (M_partOf_46 : Nat → Int32) (H : Heap) (locs : List Loc) (ls : Array Slot), ox_l (fn_X5_divide_l46 v2_8 M_reach_1) n (v3_46, M_partOf_46) = some ex_46 → va_P D vwCl [(kM ad M_thrown M_states M_moves M_known M_come M_lookedAt M_parts M_whole), (kI cI (ad 34) 600 M_to), (kI cI (ad 37) 200 M_first), (kI cI (ad 39) 600 M_next), (kI cI (ad 41) 200 M_queue_1), (kZ cZ (ad 45) 200 M_alive), (kZ cZ (ad 46) 40000 M_reach_1), (kI cI (ad 49) 200 M_partOf_46)] H → va_D A [(kM ad M_thrown M_states M_moves M_known M_come M_lookedAt M_parts M_whole), (kI cI (ad 34) 600 M_to), (kI cI (ad 37) 200 M_first), (kI cI (ad 39) 600 M_next), (kI cI (ad 41) 200 M_queue_1), (kZ cZ (ad 45) 200 M_alive), (kZ cZ (ad 46) 40000 M_reach_1), (kI cI (ad 49) 200 M_partOf_46)] → va_S A s.heap H locs → lv_has ls 4 [(0, .ref (ad 5)), (1, .int v1_8), (2, .int v2_8), (3, .int v3_46)] → W p l e { frames := 2, cells := 0, slots := 0, locals := 48 } s m ([.ref (ad 5)] : List Value).toArray below meth c H locs 0 0 Q (F0 m 46 ls []) := by
              intro n
              induction n with
              | zero => intro v3_46 M_partOf_46 H locs ls hlp; exact ox_l_0 hlp
              | succ n ih_46 =>
                intro v3_46 M_partOf_46 H locs ls hlp_46 hP hD hS hl
                obtain ⟨z_46, h, hlp_46⟩ := ox_l_of hlp_46
                refine lv_iload_n hx hb dX5_divide_46 rfl (lv_at hl 3 rfl) ?_
                refine lv_iload_n hx hb dX5_divide_47 rfl (lv_at hl 2 rfl) ?_
                refine lv_icmp_ge (tgt := 102) hx hb dX5_divide_48 (by decide) (fun c_48 => ?_) (fun c_48 => ?_)
                · have h := ox_t c_48 h
                  obtain rfl := Option.some.inj h
                  exact hX_46 v3_46 M_partOf_46 H locs ls hlp_46 hP hD hS (lv_sub hl [0, 1, 2] rfl)
                · have h := ox_f c_48 h
                  refine lv_aload_n hx hb dX5_divide_51 rfl (lv_at hl 0 rfl) ?_
                  refine va_get (D := D) (ci := 5) (v := .ref (ad 49)) (C := RX5) (T := TX5) (N := 27) hx hb hts hiX5 hown hK hP 0 rfl rfl 23 (by decide) hk2 (fun _ h9 => h9) rfl dX5_divide_52 ?_
                  refine lv_iload_n hx hb dX5_divide_55 rfl (lv_at hl 2 rfl) ?_
                  obtain ⟨hi_56, h⟩ := ox_i_of h
                  refine va_iald hx hb hK hP 7 0 rfl rfl hi_56 dX5_divide_56 ?_
                  refine lv_iconst (v := (-1)) hx hb dX5_divide_57 (by decide) ?_
                  refine lv_icmp_ne (tgt := 102) hx hb dX5_divide_58 (by decide) (fun c_58 => ?_) (fun c_58 => ?_)
                  · have h := ox_f c_58 h
                    obtain rfl := Option.some.inj h
                    exact hX_46 v3_46 M_partOf_46 H locs ls hlp_46 hP hD hS (lv_sub hl [0, 1, 2] rfl)
                  · have h := ox_t c_58 h
                    refine lv_aload_n hx hb dX5_divide_61 rfl (lv_at hl 0 rfl) ?_
                    refine va_get (D := D) (ci := 5) (v := .ref (ad 49)) (C := RX5) (T := TX5) (N := 27) hx hb hts hiX5 hown hK hP 0 rfl rfl 23 (by decide) hk2 (fun _ h9 => h9) rfl dX5_divide_62 ?_
                    refine lv_iload_n hx hb dX5_divide_65 rfl (lv_at hl 2 rfl) ?_
                    refine lv_aload_n hx hb dX5_divide_66 rfl (lv_at hl 0 rfl) ?_
                    refine va_get (D := D) (ci := 5) (v := .ref (ad 49)) (C := RX5) (T := TX5) (N := 27) hx hb hts hiX5 hown hK hP 0 rfl rfl 23 (by decide) hk2 (fun _ h9 => h9) rfl dX5_divide_67 ?_
                    refine lv_iload_n hx hb dX5_divide_70 rfl (lv_at hl 3 rfl) ?_
                    obtain ⟨hi_71, h⟩ := ox_i_of h
                    refine va_iald hx hb hK hP 7 0 rfl rfl hi_71 dX5_divide_71 ?_
                    refine lv_iconst (v := (-1)) hx hb dX5_divide_72 (by decide) ?_
                    refine lv_icmp_eq (tgt := 94) hx hb dX5_divide_73 (by decide) (fun c_73 => ?_) (fun c_73 => ?_)
                    · have h := ox_t c_73 h
                      refine lv_iconst (v := (-1)) hx hb dX5_divide_94 (by decide) ?_
                      obtain ⟨hi_95, h⟩ := ox_i_of h
                      refine va_iast hx hb hK hP hD hS 7 0 rfl rfl hi_95 dX5_divide_95 (fun H locs hP hD hS => ?_)
                      have hP : va_P D vwCl [(kM ad M_thrown M_states M_moves M_known M_come M_lookedAt M_parts M_whole), (kI cI (ad 34) 600 M_to), (kI cI (ad 37) 200 M_first), (kI cI (ad 39) 600 M_next), (kI cI (ad 41) 200 M_queue_1), (kZ cZ (ad 45) 200 M_alive), (kZ cZ (ad 46) 40000 M_reach_1), (kI cI (ad 49) 200 (upd M_partOf_46 v2_8.toNatClampNeg (-1)))] H := hP
                      have hD : va_D A [(kM ad M_thrown M_states M_moves M_known M_come M_lookedAt M_parts M_whole), (kI cI (ad 34) 600 M_to), (kI cI (ad 37) 200 M_first), (kI cI (ad 39) 600 M_next), (kI cI (ad 41) 200 M_queue_1), (kZ cZ (ad 45) 200 M_alive), (kZ cZ (ad 46) 40000 M_reach_1), (kI cI (ad 49) 200 (upd M_partOf_46 v2_8.toNatClampNeg (-1)))] := hD
                      refine lv_iinc (v := v3_46 + 1) (lv' := [(3, .int (v3_46 + 1)), (0, .ref (ad 5)), (1, .int v1_8), (2, .int v2_8)]) hx hb dX5_divide_96 hl (k := 3) rfl rfl (by decide) rfl (fun ls hl => ?_)
                      refine lv_goto (tgt := 46) hx hb dX5_divide_99 (by decide) ?_
                      obtain rfl := Option.some.inj h
                      exact ih_46 (v3_46 + 1) (upd M_partOf_46 v2_8.toNatClampNeg (-1)) H locs ls hlp_46 hP hD hS (lv_sub hl [1, 2, 3, 0] rfl)
                    · have h := ox_f c_73 h
                      refine lv_aload_n hx hb dX5_divide_76 rfl (lv_at hl 0 rfl) ?_
                      refine lv_iload_n hx hb dX5_divide_77 rfl (lv_at hl 2 rfl) ?_
                      refine lv_iload_n hx hb dX5_divide_78 rfl (lv_at hl 3 rfl) ?_
                      obtain ⟨r_79, hc_79, h⟩ := ox_b_of h
                      refine mc_callV (As := [.int v2_8, .int v3_46]) (rest := [.int v2_8, .ref (ad 49)]) (b := ad 5) (Wc := [(kM ad M_thrown M_states M_moves M_known M_come M_lookedAt M_parts M_whole), (kZ cZ (ad 46) 40000 M_reach_1)]) (wr := [(kI cI (ad 34) 600 M_to), (kI cI (ad 37) 200 M_first), (kI cI (ad 39) 600 M_next), (kI cI (ad 41) 200 M_queue_1), (kZ cZ (ad 45) 200 M_alive), (kI cI (ad 49) 200 M_partOf_46)]) (W1 := [(kM ad M_thrown M_states M_moves M_known M_come M_lookedAt M_parts M_whole), (kZ cZ (ad 46) 40000 M_reach_1)]) (wn := [(kM ad M_thrown M_states M_moves M_known M_come M_lookedAt M_parts M_whole), (kI cI (ad 34) 600 M_to), (kI cI (ad 37) 200 M_first), (kI cI (ad 39) 600 M_next), (kI cI (ad 41) 200 M_queue_1), (kZ cZ (ad 45) 200 M_alive), (kZ cZ (ad 46) 40000 M_reach_1), (kI cI (ad 49) 200 M_partOf_46)]) (rv := some (.int r_79)) ⟨hx, hb, hml, hown, hts⟩ (c_X5_together l D cI cZ ad M_thrown M_states M_moves M_known M_come M_lookedAt M_parts M_whole M_reach_1 v2_8 v3_46 _ hc_79) (cwV 2 hts (gl_V wk_336 wk_337 wk_338 wk_5 wk_339) rfl rfl rfl (by decide +kernel) ⟨Nat.le_of_ble_eq_true rfl, Nat.le_of_ble_eq_true rfl⟩) hK hP hD hS hA 5 0 rfl rfl rfl [0, 6] [1, 2, 3, 4, 5, 7] [6, 0, 1, 2, 3, 4, 7, 5] rfl rfl (by decide) rfl (by decide) (by decide) rfl rfl (by decide) rfl rfl hl.1 (Nat.le_of_ble_eq_true rfl) dX5_divide_79 ⟨Nat.zero_le _, Nat.zero_le _⟩ (fun H locs hP hD hS => ?_)
                      show W p l e { frames := 2, cells := 0, slots := 0, locals := 48 } s m ([.ref (ad 5)] : List Value).toArray below meth c H locs 0 0 Q (F0 m 82 ls [.int r_79, .int v2_8, .ref (ad 49)])
                      refine lv_if_eq (tgt := 94) hx hb dX5_divide_82 (by decide) (fun c_82 => ?_) (fun c_82 => ?_)
                      · have h := ox_t c_82 h
                        refine lv_iconst (v := (-1)) hx hb dX5_divide_94 (by decide) ?_
                        obtain ⟨hi_95, h⟩ := ox_i_of h
                        refine va_iast hx hb hK hP hD hS 7 0 rfl rfl hi_95 dX5_divide_95 (fun H locs hP hD hS => ?_)
                        have hP : va_P D vwCl [(kM ad M_thrown M_states M_moves M_known M_come M_lookedAt M_parts M_whole), (kI cI (ad 34) 600 M_to), (kI cI (ad 37) 200 M_first), (kI cI (ad 39) 600 M_next), (kI cI (ad 41) 200 M_queue_1), (kZ cZ (ad 45) 200 M_alive), (kZ cZ (ad 46) 40000 M_reach_1), (kI cI (ad 49) 200 (upd M_partOf_46 v2_8.toNatClampNeg (-1)))] H := hP
                        have hD : va_D A [(kM ad M_thrown M_states M_moves M_known M_come M_lookedAt M_parts M_whole), (kI cI (ad 34) 600 M_to), (kI cI (ad 37) 200 M_first), (kI cI (ad 39) 600 M_next), (kI cI (ad 41) 200 M_queue_1), (kZ cZ (ad 45) 200 M_alive), (kZ cZ (ad 46) 40000 M_reach_1), (kI cI (ad 49) 200 (upd M_partOf_46 v2_8.toNatClampNeg (-1)))] := hD
                        refine lv_iinc (v := v3_46 + 1) (lv' := [(3, .int (v3_46 + 1)), (0, .ref (ad 5)), (1, .int v1_8), (2, .int v2_8)]) hx hb dX5_divide_96 hl (k := 3) rfl rfl (by decide) rfl (fun ls hl => ?_)
                        refine lv_goto (tgt := 46) hx hb dX5_divide_99 (by decide) ?_
                        obtain rfl := Option.some.inj h
                        exact ih_46 (v3_46 + 1) (upd M_partOf_46 v2_8.toNatClampNeg (-1)) H locs ls hlp_46 hP hD hS (lv_sub hl [1, 2, 3, 0] rfl)
                      · have h := ox_f c_82 h
                        refine lv_aload_n hx hb dX5_divide_85 rfl (lv_at hl 0 rfl) ?_
                        refine va_get (D := D) (ci := 5) (v := .ref (ad 49)) (C := RX5) (T := TX5) (N := 27) hx hb hts hiX5 hown hK hP 0 rfl rfl 23 (by decide) hk2 (fun _ h9 => h9) rfl dX5_divide_86 ?_
                        refine lv_iload_n hx hb dX5_divide_89 rfl (lv_at hl 3 rfl) ?_
                        obtain ⟨hi_90, h⟩ := ox_i_of h
                        refine va_iald hx hb hK hP 7 0 rfl rfl hi_90 dX5_divide_90 ?_
                        refine lv_goto (tgt := 95) hx hb dX5_divide_91 (by decide) ?_
                        obtain ⟨hi_95, h⟩ := ox_i_of h
                        refine va_iast hx hb hK hP hD hS 7 0 rfl rfl hi_95 dX5_divide_95 (fun H locs hP hD hS => ?_)
                        have hP : va_P D vwCl [(kM ad M_thrown M_states M_moves M_known M_come M_lookedAt M_parts M_whole), (kI cI (ad 34) 600 M_to), (kI cI (ad 37) 200 M_first), (kI cI (ad 39) 600 M_next), (kI cI (ad 41) 200 M_queue_1), (kZ cZ (ad 45) 200 M_alive), (kZ cZ (ad 46) 40000 M_reach_1), (kI cI (ad 49) 200 (upd M_partOf_46 v2_8.toNatClampNeg (M_partOf_46 v3_46.toNatClampNeg)))] H := hP
                        have hD : va_D A [(kM ad M_thrown M_states M_moves M_known M_come M_lookedAt M_parts M_whole), (kI cI (ad 34) 600 M_to), (kI cI (ad 37) 200 M_first), (kI cI (ad 39) 600 M_next), (kI cI (ad 41) 200 M_queue_1), (kZ cZ (ad 45) 200 M_alive), (kZ cZ (ad 46) 40000 M_reach_1), (kI cI (ad 49) 200 (upd M_partOf_46 v2_8.toNatClampNeg (M_partOf_46 v3_46.toNatClampNeg)))] := hD
                        refine lv_iinc (v := v3_46 + 1) (lv' := [(3, .int (v3_46 + 1)), (0, .ref (ad 5)), (1, .int v1_8), (2, .int v2_8)]) hx hb dX5_divide_96 hl (k := 3) rfl rfl (by decide) rfl (fun ls hl => ?_)
                        refine lv_goto (tgt := 46) hx hb dX5_divide_99 (by decide) ?_
                        obtain rfl := Option.some.inj h
                        exact ih_46 (v3_46 + 1) (upd M_partOf_46 v2_8.toNatClampNeg (M_partOf_46 v3_46.toNatClampNeg)) H locs ls hlp_46 hP hD hS (lv_sub hl [1, 2, 3, 0] rfl)
            exact hL_46 1000000 0 (upd M_partOf_8 v2_8.toNatClampNeg (-1)) H locs ls hex_46 hP hD hS (lv_sub hl [1, 2, 3, 0] rfl)
          · have h := ox_t c_38 h
            refine lv_goto (tgt := 122) hx hb dX5_divide_41 (by decide) ?_
            refine lv_iinc (v := v2_8 + 1) (lv' := [(2, .int (v2_8 + 1)), (0, .ref (ad 5)), (1, .int v1_8)]) hx hb dX5_divide_122 hl (k := 2) rfl rfl (by decide) rfl (fun ls hl => ?_)
            refine lv_goto (tgt := 8) hx hb dX5_divide_125 (by decide) ?_
            obtain rfl := Option.some.inj h
            exact ih_8 v1_8 (v2_8 + 1) (upd M_partOf_8 v2_8.toNatClampNeg (-1)) H locs ls hlp_8 hP hD hS (lv_sub hl [1, 2, 0] rfl)
  exact hL_8 1000000 0 0 M_partOf H locs ls hex_8 hP hD hS (lv_sub hl [2, 1, 0] rfl)
set_option maxHeartbeats 4000000 in
set_option maxRecDepth 100000 in
theorem c_X5_isAble (l : Launch) (D : va_G) (cI cZ : ClassId) (ad : Nat → Nat) (M_thrown : Int32) (M_states : Int32) (M_moves : Int32) (M_known : Int32) (M_come : Int32) (M_lookedAt : Int32) (M_parts : Int32) (M_whole : Int32) (M_labelOf : Nat → Int32) (M_first : Nat → Int32) (M_next : Nat → Int32) (a1 : Int32) (a2 : Int32) (res : Int32) (h : fn_X5_isAble M_labelOf M_first M_next a1 a2 = some res) : mc_C l yX5_isAble wv_X5_isAble { frames := 0, cells := 0, slots := 0, locals := 0 } D [(cI, .int), (cZ, .boolean)] [.ref (ad 5), .int a1, .int a2] [(kM ad M_thrown M_states M_moves M_known M_come M_lookedAt M_parts M_whole), (kI cI (ad 35) 600 M_labelOf), (kI cI (ad 37) 200 M_first), (kI cI (ad 39) 600 M_next)] (some (.int res)) [(kM ad M_thrown M_states M_moves M_known M_come M_lookedAt M_parts M_whole), (kI cI (ad 35) 600 M_labelOf), (kI cI (ad 37) 200 M_first), (kI cI (ad 39) 600 M_next)] := by
  refine mc_ofz (own := RX5) (by decide) rfl rfl (Nat.le_of_ble_eq_true rfl) ?_
  intro p e s m below meth c A Q ls hx hb hml hown hts hK hP hD hA hl hend
  have hS : va_S A s.heap s.heap [] := va_S.rf
  have hl : lv_has ls 5 [(0, .ref (ad 5)), (1, .int a1), (2, .int a2)] := hl
  obtain ⟨H, hH⟩ : ∃ H, H = s.heap := ⟨_, rfl⟩
  obtain ⟨locs, hlo⟩ : ∃ locs : List Loc, locs = [] := ⟨_, rfl⟩
  have hS : va_S A s.heap H locs := by rw [hH, hlo]; exact hS
  have hP : va_P D vwCl [(kM ad M_thrown M_states M_moves M_known M_come M_lookedAt M_parts M_whole), (kI cI (ad 35) 600 M_labelOf), (kI cI (ad 37) 200 M_first), (kI cI (ad 39) 600 M_next)] H := by rw [hH]; exact hP
  suffices h9 : W p l e { frames := 0, cells := 0, slots := 0, locals := 0 } s m ([.ref (ad 5), .int a1, .int a2] : List Value).toArray below meth c H locs 0 0 Q (F0 m 0 ls []) by rw [hH, hlo] at h9; exact h9
  clear hH hlo
  have hiX5 : ∀ w ∈ wsX50, w ∈ wv_X5_isAble := fun w h => List.mem_cons_of_mem _ (inlX5 w h)
  have hk0 := hts (.fieldLink RX5 25 "FairLoopsModel" "first" "[I") (List.mem_cons_of_mem _ wk_78)
  have hk1 := hts (.fieldLink RX5 31 "FairLoopsModel" "next" "[I") (List.mem_cons_of_mem _ wk_80)
  have hk2 := hts (.fieldLink RX5 19 "FairLoopsModel" "labelOf" "[I") (List.mem_cons_of_mem _ wk_76)
  refine lv_iconst (v := 0) hx hb dX5_isAble_0 (by decide) ?_
  refine lv_istore_n (lv' := [(3, .int 0), (0, .ref (ad 5)), (1, .int a1), (2, .int a2)]) hx hb dX5_isAble_1 rfl hl (by decide) rfl (fun ls hl => ?_)
  refine lv_aload_n hx hb dX5_isAble_2 rfl (lv_at hl 1 rfl) ?_
  refine va_get (D := D) (ci := 5) (v := .ref (ad 37)) (C := RX5) (T := TX5) (N := 27) hx hb hts hiX5 hown hK hP 0 rfl rfl 8 (by decide) hk0 (fun _ h9 => h9) rfl dX5_isAble_3 ?_
  refine lv_iload_n hx hb dX5_isAble_6 rfl (lv_at hl 3 rfl) ?_
  obtain ⟨hi_7, h⟩ := ox_i_of h
  refine va_iald hx hb hK hP 2 0 rfl rfl hi_7 dX5_isAble_7 ?_
  refine lv_istore (lv' := [(4, .int (M_first a2.toNatClampNeg)), (3, .int 0), (0, .ref (ad 5)), (1, .int a1), (2, .int a2)]) hx hb dX5_isAble_8 hl (by decide) rfl (fun ls hl => ?_)
  obtain ⟨ex_10, hex_10, h_10⟩ := ox_b_of h
  have hX_10 : ∀ (v3_10 : Int32) (v4_10 : Int32) (H : Heap) (locs : List Loc) (ls : Array Slot), (v3_10, v4_10) = ex_10 → va_P D vwCl [(kM ad M_thrown M_states M_moves M_known M_come M_lookedAt M_parts M_whole), (kI cI (ad 35) 600 M_labelOf), (kI cI (ad 37) 200 M_first), (kI cI (ad 39) 600 M_next)] H → va_D A [(kM ad M_thrown M_states M_moves M_known M_come M_lookedAt M_parts M_whole), (kI cI (ad 35) 600 M_labelOf), (kI cI (ad 37) 200 M_first), (kI cI (ad 39) 600 M_next)] → va_S A s.heap H locs → lv_has ls 5 [(3, .int v3_10)] → W p l e { frames := 0, cells := 0, slots := 0, locals := 0 } s m ([.ref (ad 5), .int a1, .int a2] : List Value).toArray below meth c H locs 0 0 Q (F0 m 49 ls []) := by
    intro v3_10 v4_10 H locs ls hex_10 hP hD hS hl
    subst hex_10
    have h := h_10
    refine lv_iload_n hx hb dX5_isAble_49 rfl (lv_at hl 0 rfl) ?_
    obtain ⟨hz_50, h⟩ := ox_z_of h
    have h := Option.some.inj h
    subst h
    exact hend H locs _ ls hP hD hS dX5_isAble_50 hz_50
  have hL_10 : ∀ (n : Nat) (v3_10 : Int32) (v4_10 : Int32) (H : Heap) (locs : List Loc) (ls : Array Slot), ox_l (fn_X5_isAble_l10 M_labelOf a1 M_next) n (v3_10, v4_10) = some ex_10 → va_P D vwCl [(kM ad M_thrown M_states M_moves M_known M_come M_lookedAt M_parts M_whole), (kI cI (ad 35) 600 M_labelOf), (kI cI (ad 37) 200 M_first), (kI cI (ad 39) 600 M_next)] H → va_D A [(kM ad M_thrown M_states M_moves M_known M_come M_lookedAt M_parts M_whole), (kI cI (ad 35) 600 M_labelOf), (kI cI (ad 37) 200 M_first), (kI cI (ad 39) 600 M_next)] → va_S A s.heap H locs → lv_has ls 5 [(0, .ref (ad 5)), (1, .int a1), (3, .int v3_10), (4, .int v4_10)] → W p l e { frames := 0, cells := 0, slots := 0, locals := 0 } s m ([.ref (ad 5), .int a1, .int a2] : List Value).toArray below meth c H locs 0 0 Q (F0 m 10 ls []) := by
    intro n
    induction n with
    | zero => intro v3_10 v4_10 H locs ls hlp; exact ox_l_0 hlp
    | succ n ih_10 =>
      intro v3_10 v4_10 H locs ls hlp_10 hP hD hS hl
      obtain ⟨z_10, h, hlp_10⟩ := ox_l_of hlp_10
      refine lv_iload hx hb dX5_isAble_10 (lv_at hl 3 rfl) ?_
      refine lv_iconst (v := (-1)) hx hb dX5_isAble_12 (by decide) ?_
      refine lv_icmp_eq (tgt := 49) hx hb dX5_isAble_13 (by decide) (fun c_13 => ?_) (fun c_13 => ?_)
      · have h := ox_t c_13 h
        obtain rfl := Option.some.inj h
        exact hX_10 v3_10 v4_10 H locs ls hlp_10 hP hD hS (lv_sub hl [2] rfl)
      · have h := ox_f c_13 h
        refine lv_iload_n hx hb dX5_isAble_16 rfl (lv_at hl 2 rfl) ?_
        refine lv_if_ne (tgt := 31) hx hb dX5_isAble_17 (by decide) (fun c_17 => ?_) (fun c_17 => ?_)
        · have h := ox_f c_17 h
          refine lv_iconst (v := 1) hx hb dX5_isAble_31 (by decide) ?_
          refine lv_goto (tgt := 36) hx hb dX5_isAble_32 (by decide) ?_
          refine lv_istore_n (lv' := [(3, .int 1), (0, .ref (ad 5)), (1, .int a1), (4, .int v4_10)]) hx hb dX5_isAble_36 rfl hl (by decide) rfl (fun ls hl => ?_)
          refine lv_aload_n hx hb dX5_isAble_37 rfl (lv_at hl 1 rfl) ?_
          refine va_get (D := D) (ci := 5) (v := .ref (ad 39)) (C := RX5) (T := TX5) (N := 27) hx hb hts hiX5 hown hK hP 0 rfl rfl 10 (by decide) hk1 (fun _ h9 => h9) rfl dX5_isAble_38 ?_
          refine lv_iload hx hb dX5_isAble_41 (lv_at hl 3 rfl) ?_
          obtain ⟨hi_43, h⟩ := ox_i_of h
          refine va_iald hx hb hK hP 3 0 rfl rfl hi_43 dX5_isAble_43 ?_
          refine lv_istore (lv' := [(4, .int (M_next v4_10.toNatClampNeg)), (3, .int 1), (0, .ref (ad 5)), (1, .int a1)]) hx hb dX5_isAble_44 hl (by decide) rfl (fun ls hl => ?_)
          refine lv_goto (tgt := 10) hx hb dX5_isAble_46 (by decide) ?_
          obtain rfl := Option.some.inj h
          exact ih_10 1 (M_next v4_10.toNatClampNeg) H locs ls hlp_10 hP hD hS (lv_sub hl [2, 3, 1, 0] rfl)
        · have h := ox_t c_17 h
          refine lv_aload_n hx hb dX5_isAble_20 rfl (lv_at hl 0 rfl) ?_
          refine va_get (D := D) (ci := 5) (v := .ref (ad 35)) (C := RX5) (T := TX5) (N := 27) hx hb hts hiX5 hown hK hP 0 rfl rfl 6 (by decide) hk2 (fun _ h9 => h9) rfl dX5_isAble_21 ?_
          refine lv_iload hx hb dX5_isAble_24 (lv_at hl 3 rfl) ?_
          obtain ⟨hi_26, h⟩ := ox_i_of h
          refine va_iald hx hb hK hP 1 0 rfl rfl hi_26 dX5_isAble_26 ?_
          refine lv_iload_n hx hb dX5_isAble_27 rfl (lv_at hl 1 rfl) ?_
          refine lv_icmp_ne (tgt := 35) hx hb dX5_isAble_28 (by decide) (fun c_28 => ?_) (fun c_28 => ?_)
          · have h := ox_f c_28 h
            refine lv_iconst (v := 0) hx hb dX5_isAble_35 (by decide) ?_
            refine lv_istore_n (lv' := [(3, .int 0), (0, .ref (ad 5)), (1, .int a1), (4, .int v4_10)]) hx hb dX5_isAble_36 rfl hl (by decide) rfl (fun ls hl => ?_)
            refine lv_aload_n hx hb dX5_isAble_37 rfl (lv_at hl 1 rfl) ?_
            refine va_get (D := D) (ci := 5) (v := .ref (ad 39)) (C := RX5) (T := TX5) (N := 27) hx hb hts hiX5 hown hK hP 0 rfl rfl 10 (by decide) hk1 (fun _ h9 => h9) rfl dX5_isAble_38 ?_
            refine lv_iload hx hb dX5_isAble_41 (lv_at hl 3 rfl) ?_
            obtain ⟨hi_43, h⟩ := ox_i_of h
            refine va_iald hx hb hK hP 3 0 rfl rfl hi_43 dX5_isAble_43 ?_
            refine lv_istore (lv' := [(4, .int (M_next v4_10.toNatClampNeg)), (3, .int 0), (0, .ref (ad 5)), (1, .int a1)]) hx hb dX5_isAble_44 hl (by decide) rfl (fun ls hl => ?_)
            refine lv_goto (tgt := 10) hx hb dX5_isAble_46 (by decide) ?_
            obtain rfl := Option.some.inj h
            exact ih_10 0 (M_next v4_10.toNatClampNeg) H locs ls hlp_10 hP hD hS (lv_sub hl [2, 3, 1, 0] rfl)
          · have h := ox_t c_28 h
            refine lv_iconst (v := 1) hx hb dX5_isAble_31 (by decide) ?_
            refine lv_goto (tgt := 36) hx hb dX5_isAble_32 (by decide) ?_
            refine lv_istore_n (lv' := [(3, .int 1), (0, .ref (ad 5)), (1, .int a1), (4, .int v4_10)]) hx hb dX5_isAble_36 rfl hl (by decide) rfl (fun ls hl => ?_)
            refine lv_aload_n hx hb dX5_isAble_37 rfl (lv_at hl 1 rfl) ?_
            refine va_get (D := D) (ci := 5) (v := .ref (ad 39)) (C := RX5) (T := TX5) (N := 27) hx hb hts hiX5 hown hK hP 0 rfl rfl 10 (by decide) hk1 (fun _ h9 => h9) rfl dX5_isAble_38 ?_
            refine lv_iload hx hb dX5_isAble_41 (lv_at hl 3 rfl) ?_
            obtain ⟨hi_43, h⟩ := ox_i_of h
            refine va_iald hx hb hK hP 3 0 rfl rfl hi_43 dX5_isAble_43 ?_
            refine lv_istore (lv' := [(4, .int (M_next v4_10.toNatClampNeg)), (3, .int 1), (0, .ref (ad 5)), (1, .int a1)]) hx hb dX5_isAble_44 hl (by decide) rfl (fun ls hl => ?_)
            refine lv_goto (tgt := 10) hx hb dX5_isAble_46 (by decide) ?_
            obtain rfl := Option.some.inj h
            exact ih_10 1 (M_next v4_10.toNatClampNeg) H locs ls hlp_10 hP hD hS (lv_sub hl [2, 3, 1, 0] rfl)
  exact hL_10 1000000 0 (M_first a2.toNatClampNeg) H locs ls hex_10 hP hD hS (lv_sub hl [2, 3, 1, 0] rfl)
set_option maxHeartbeats 4000000 in
set_option maxRecDepth 100000 in
theorem c_X5_isTaken (l : Launch) (D : va_G) (cI cZ : ClassId) (ad : Nat → Nat) (M_thrown : Int32) (M_states : Int32) (M_moves : Int32) (M_known : Int32) (M_come : Int32) (M_lookedAt : Int32) (M_parts : Int32) (M_whole : Int32) (M_from : Nat → Int32) (M_to : Nat → Int32) (M_labelOf : Nat → Int32) (M_partOf : Nat → Int32) (a1 : Int32) (a2 : Int32) (res : Int32) (h : fn_X5_isTaken M_moves M_from M_to M_labelOf M_partOf a1 a2 = some res) : mc_C l yX5_isTaken wv_X5_isTaken { frames := 0, cells := 0, slots := 0, locals := 0 } D [(cI, .int), (cZ, .boolean)] [.ref (ad 5), .int a1, .int a2] [(kM ad M_thrown M_states M_moves M_known M_come M_lookedAt M_parts M_whole), (kI cI (ad 33) 600 M_from), (kI cI (ad 34) 600 M_to), (kI cI (ad 35) 600 M_labelOf), (kI cI (ad 49) 200 M_partOf)] (some (.int res)) [(kM ad M_thrown M_states M_moves M_known M_come M_lookedAt M_parts M_whole), (kI cI (ad 33) 600 M_from), (kI cI (ad 34) 600 M_to), (kI cI (ad 35) 600 M_labelOf), (kI cI (ad 49) 200 M_partOf)] := by
  refine mc_ofz (own := RX5) (by decide) rfl rfl (Nat.le_of_ble_eq_true rfl) ?_
  intro p e s m below meth c A Q ls hx hb hml hown hts hK hP hD hA hl hend
  have hS : va_S A s.heap s.heap [] := va_S.rf
  have hl : lv_has ls 5 [(0, .ref (ad 5)), (1, .int a1), (2, .int a2)] := hl
  obtain ⟨H, hH⟩ : ∃ H, H = s.heap := ⟨_, rfl⟩
  obtain ⟨locs, hlo⟩ : ∃ locs : List Loc, locs = [] := ⟨_, rfl⟩
  have hS : va_S A s.heap H locs := by rw [hH, hlo]; exact hS
  have hP : va_P D vwCl [(kM ad M_thrown M_states M_moves M_known M_come M_lookedAt M_parts M_whole), (kI cI (ad 33) 600 M_from), (kI cI (ad 34) 600 M_to), (kI cI (ad 35) 600 M_labelOf), (kI cI (ad 49) 200 M_partOf)] H := by rw [hH]; exact hP
  suffices h9 : W p l e { frames := 0, cells := 0, slots := 0, locals := 0 } s m ([.ref (ad 5), .int a1, .int a2] : List Value).toArray below meth c H locs 0 0 Q (F0 m 0 ls []) by rw [hH, hlo] at h9; exact h9
  clear hH hlo
  have hiX5 : ∀ w ∈ wsX50, w ∈ wv_X5_isTaken := fun w h => List.mem_cons_of_mem _ (inlX5 w h)
  have hk0 := hts (.fieldLink RX5 90 "FairLoopsModel" "moves" "I") (List.mem_cons_of_mem _ wk_154)
  have hk1 := hts (.fieldLink RX5 19 "FairLoopsModel" "labelOf" "[I") (List.mem_cons_of_mem _ wk_76)
  have hk2 := hts (.fieldLink RX5 67 "FairLoopsModel" "partOf" "[I") (List.mem_cons_of_mem _ wk_92)
  have hk3 := hts (.fieldLink RX5 13 "FairLoopsModel" "from" "[I") (List.mem_cons_of_mem _ wk_74)
  have hk4 := hts (.fieldLink RX5 16 "FairLoopsModel" "to" "[I") (List.mem_cons_of_mem _ wk_75)
  refine lv_iconst (v := 0) hx hb dX5_isTaken_0 (by decide) ?_
  refine lv_istore_n (lv' := [(3, .int 0), (0, .ref (ad 5)), (1, .int a1), (2, .int a2)]) hx hb dX5_isTaken_1 rfl hl (by decide) rfl (fun ls hl => ?_)
  refine lv_iconst (v := 0) hx hb dX5_isTaken_2 (by decide) ?_
  refine lv_istore (lv' := [(4, .int 0), (3, .int 0), (0, .ref (ad 5)), (1, .int a1), (2, .int a2)]) hx hb dX5_isTaken_3 hl (by decide) rfl (fun ls hl => ?_)
  obtain ⟨ex_5, hex_5, h_5⟩ := ox_b_of h
  have hX_5 : ∀ (v3_5 : Int32) (v4_5 : Int32) (H : Heap) (locs : List Loc) (ls : Array Slot), (v3_5, v4_5) = ex_5 → va_P D vwCl [(kM ad M_thrown M_states M_moves M_known M_come M_lookedAt M_parts M_whole), (kI cI (ad 33) 600 M_from), (kI cI (ad 34) 600 M_to), (kI cI (ad 35) 600 M_labelOf), (kI cI (ad 49) 200 M_partOf)] H → va_D A [(kM ad M_thrown M_states M_moves M_known M_come M_lookedAt M_parts M_whole), (kI cI (ad 33) 600 M_from), (kI cI (ad 34) 600 M_to), (kI cI (ad 35) 600 M_labelOf), (kI cI (ad 49) 200 M_partOf)] → va_S A s.heap H locs → lv_has ls 5 [(3, .int v3_5)] → W p l e { frames := 0, cells := 0, slots := 0, locals := 0 } s m ([.ref (ad 5), .int a1, .int a2] : List Value).toArray below meth c H locs 0 0 Q (F0 m 73 ls []) := by
    intro v3_5 v4_5 H locs ls hex_5 hP hD hS hl
    subst hex_5
    have h := h_5
    refine lv_iload_n hx hb dX5_isTaken_73 rfl (lv_at hl 0 rfl) ?_
    obtain ⟨hz_74, h⟩ := ox_z_of h
    have h := Option.some.inj h
    subst h
    exact hend H locs _ ls hP hD hS dX5_isTaken_74 hz_74
  have hL_5 : ∀ (n : Nat) (v3_5 : Int32) (v4_5 : Int32) (H : Heap) (locs : List Loc) (ls : Array Slot), ox_l (fn_X5_isTaken_l5 M_moves M_labelOf a1 M_from M_partOf a2 M_to) n (v3_5, v4_5) = some ex_5 → va_P D vwCl [(kM ad M_thrown M_states M_moves M_known M_come M_lookedAt M_parts M_whole), (kI cI (ad 33) 600 M_from), (kI cI (ad 34) 600 M_to), (kI cI (ad 35) 600 M_labelOf), (kI cI (ad 49) 200 M_partOf)] H → va_D A [(kM ad M_thrown M_states M_moves M_known M_come M_lookedAt M_parts M_whole), (kI cI (ad 33) 600 M_from), (kI cI (ad 34) 600 M_to), (kI cI (ad 35) 600 M_labelOf), (kI cI (ad 49) 200 M_partOf)] → va_S A s.heap H locs → lv_has ls 5 [(0, .ref (ad 5)), (1, .int a1), (2, .int a2), (3, .int v3_5), (4, .int v4_5)] → W p l e { frames := 0, cells := 0, slots := 0, locals := 0 } s m ([.ref (ad 5), .int a1, .int a2] : List Value).toArray below meth c H locs 0 0 Q (F0 m 5 ls []) := by
    intro n
    induction n with
    | zero => intro v3_5 v4_5 H locs ls hlp; exact ox_l_0 hlp
    | succ n ih_5 =>
      intro v3_5 v4_5 H locs ls hlp_5 hP hD hS hl
      obtain ⟨z_5, h, hlp_5⟩ := ox_l_of hlp_5
      refine lv_iload hx hb dX5_isTaken_5 (lv_at hl 4 rfl) ?_
      refine lv_aload_n hx hb dX5_isTaken_7 rfl (lv_at hl 0 rfl) ?_
      refine va_get (D := D) (ci := 5) (v := .int M_moves) (C := RX5) (T := TX5) (N := 27) hx hb hts hiX5 hown hK hP 0 rfl rfl 2 (by decide) hk0 (fun _ h9 => h9) rfl dX5_isTaken_8 ?_
      refine lv_icmp_ge (tgt := 73) hx hb dX5_isTaken_11 (by decide) (fun c_11 => ?_) (fun c_11 => ?_)
      · have h := ox_t c_11 h
        obtain rfl := Option.some.inj h
        exact hX_5 v3_5 v4_5 H locs ls hlp_5 hP hD hS (lv_sub hl [3] rfl)
      · have h := ox_f c_11 h
        refine lv_iload_n hx hb dX5_isTaken_14 rfl (lv_at hl 3 rfl) ?_
        refine lv_if_ne (tgt := 61) hx hb dX5_isTaken_15 (by decide) (fun c_15 => ?_) (fun c_15 => ?_)
        · have h := ox_f c_15 h
          refine lv_iconst (v := 1) hx hb dX5_isTaken_61 (by decide) ?_
          refine lv_goto (tgt := 66) hx hb dX5_isTaken_62 (by decide) ?_
          refine lv_istore_n (lv' := [(3, .int 1), (0, .ref (ad 5)), (1, .int a1), (2, .int a2), (4, .int v4_5)]) hx hb dX5_isTaken_66 rfl hl (by decide) rfl (fun ls hl => ?_)
          refine lv_iinc (v := v4_5 + 1) (lv' := [(4, .int (v4_5 + 1)), (3, .int 1), (0, .ref (ad 5)), (1, .int a1), (2, .int a2)]) hx hb dX5_isTaken_67 hl (k := 4) rfl rfl (by decide) rfl (fun ls hl => ?_)
          refine lv_goto (tgt := 5) hx hb dX5_isTaken_70 (by decide) ?_
          obtain rfl := Option.some.inj h
          exact ih_5 1 (v4_5 + 1) H locs ls hlp_5 hP hD hS (lv_sub hl [2, 3, 4, 1, 0] rfl)
        · have h := ox_t c_15 h
          refine lv_aload_n hx hb dX5_isTaken_18 rfl (lv_at hl 0 rfl) ?_
          refine va_get (D := D) (ci := 5) (v := .ref (ad 35)) (C := RX5) (T := TX5) (N := 27) hx hb hts hiX5 hown hK hP 0 rfl rfl 6 (by decide) hk1 (fun _ h9 => h9) rfl dX5_isTaken_19 ?_
          refine lv_iload hx hb dX5_isTaken_22 (lv_at hl 4 rfl) ?_
          obtain ⟨hi_24, h⟩ := ox_i_of h
          refine va_iald hx hb hK hP 3 0 rfl rfl hi_24 dX5_isTaken_24 ?_
          refine lv_iload_n hx hb dX5_isTaken_25 rfl (lv_at hl 1 rfl) ?_
          refine lv_icmp_ne (tgt := 65) hx hb dX5_isTaken_26 (by decide) (fun c_26 => ?_) (fun c_26 => ?_)
          · have h := ox_f c_26 h
            refine lv_iconst (v := 0) hx hb dX5_isTaken_65 (by decide) ?_
            refine lv_istore_n (lv' := [(3, .int 0), (0, .ref (ad 5)), (1, .int a1), (2, .int a2), (4, .int v4_5)]) hx hb dX5_isTaken_66 rfl hl (by decide) rfl (fun ls hl => ?_)
            refine lv_iinc (v := v4_5 + 1) (lv' := [(4, .int (v4_5 + 1)), (3, .int 0), (0, .ref (ad 5)), (1, .int a1), (2, .int a2)]) hx hb dX5_isTaken_67 hl (k := 4) rfl rfl (by decide) rfl (fun ls hl => ?_)
            refine lv_goto (tgt := 5) hx hb dX5_isTaken_70 (by decide) ?_
            obtain rfl := Option.some.inj h
            exact ih_5 0 (v4_5 + 1) H locs ls hlp_5 hP hD hS (lv_sub hl [2, 3, 4, 1, 0] rfl)
          · have h := ox_t c_26 h
            refine lv_aload_n hx hb dX5_isTaken_29 rfl (lv_at hl 0 rfl) ?_
            refine va_get (D := D) (ci := 5) (v := .ref (ad 49)) (C := RX5) (T := TX5) (N := 27) hx hb hts hiX5 hown hK hP 0 rfl rfl 23 (by decide) hk2 (fun _ h9 => h9) rfl dX5_isTaken_30 ?_
            refine lv_aload_n hx hb dX5_isTaken_33 rfl (lv_at hl 0 rfl) ?_
            refine va_get (D := D) (ci := 5) (v := .ref (ad 33)) (C := RX5) (T := TX5) (N := 27) hx hb hts hiX5 hown hK hP 0 rfl rfl 4 (by decide) hk3 (fun _ h9 => h9) rfl dX5_isTaken_34 ?_
            refine lv_iload hx hb dX5_isTaken_37 (lv_at hl 4 rfl) ?_
            obtain ⟨hi_39, h⟩ := ox_i_of h
            refine va_iald hx hb hK hP 1 0 rfl rfl hi_39 dX5_isTaken_39 ?_
            obtain ⟨hi_40, h⟩ := ox_i_of h
            refine va_iald hx hb hK hP 4 0 rfl rfl hi_40 dX5_isTaken_40 ?_
            refine lv_iload_n hx hb dX5_isTaken_41 rfl (lv_at hl 2 rfl) ?_
            refine lv_icmp_ne (tgt := 65) hx hb dX5_isTaken_42 (by decide) (fun c_42 => ?_) (fun c_42 => ?_)
            · have h := ox_f c_42 h
              refine lv_iconst (v := 0) hx hb dX5_isTaken_65 (by decide) ?_
              refine lv_istore_n (lv' := [(3, .int 0), (0, .ref (ad 5)), (1, .int a1), (2, .int a2), (4, .int v4_5)]) hx hb dX5_isTaken_66 rfl hl (by decide) rfl (fun ls hl => ?_)
              refine lv_iinc (v := v4_5 + 1) (lv' := [(4, .int (v4_5 + 1)), (3, .int 0), (0, .ref (ad 5)), (1, .int a1), (2, .int a2)]) hx hb dX5_isTaken_67 hl (k := 4) rfl rfl (by decide) rfl (fun ls hl => ?_)
              refine lv_goto (tgt := 5) hx hb dX5_isTaken_70 (by decide) ?_
              obtain rfl := Option.some.inj h
              exact ih_5 0 (v4_5 + 1) H locs ls hlp_5 hP hD hS (lv_sub hl [2, 3, 4, 1, 0] rfl)
            · have h := ox_t c_42 h
              refine lv_aload_n hx hb dX5_isTaken_45 rfl (lv_at hl 0 rfl) ?_
              refine va_get (D := D) (ci := 5) (v := .ref (ad 49)) (C := RX5) (T := TX5) (N := 27) hx hb hts hiX5 hown hK hP 0 rfl rfl 23 (by decide) hk2 (fun _ h9 => h9) rfl dX5_isTaken_46 ?_
              refine lv_aload_n hx hb dX5_isTaken_49 rfl (lv_at hl 0 rfl) ?_
              refine va_get (D := D) (ci := 5) (v := .ref (ad 34)) (C := RX5) (T := TX5) (N := 27) hx hb hts hiX5 hown hK hP 0 rfl rfl 5 (by decide) hk4 (fun _ h9 => h9) rfl dX5_isTaken_50 ?_
              refine lv_iload hx hb dX5_isTaken_53 (lv_at hl 4 rfl) ?_
              obtain ⟨hi_55, h⟩ := ox_i_of h
              refine va_iald hx hb hK hP 2 0 rfl rfl hi_55 dX5_isTaken_55 ?_
              obtain ⟨hi_56, h⟩ := ox_i_of h
              refine va_iald hx hb hK hP 4 0 rfl rfl hi_56 dX5_isTaken_56 ?_
              refine lv_iload_n hx hb dX5_isTaken_57 rfl (lv_at hl 2 rfl) ?_
              refine lv_icmp_ne (tgt := 65) hx hb dX5_isTaken_58 (by decide) (fun c_58 => ?_) (fun c_58 => ?_)
              · have h := ox_f c_58 h
                refine lv_iconst (v := 0) hx hb dX5_isTaken_65 (by decide) ?_
                refine lv_istore_n (lv' := [(3, .int 0), (0, .ref (ad 5)), (1, .int a1), (2, .int a2), (4, .int v4_5)]) hx hb dX5_isTaken_66 rfl hl (by decide) rfl (fun ls hl => ?_)
                refine lv_iinc (v := v4_5 + 1) (lv' := [(4, .int (v4_5 + 1)), (3, .int 0), (0, .ref (ad 5)), (1, .int a1), (2, .int a2)]) hx hb dX5_isTaken_67 hl (k := 4) rfl rfl (by decide) rfl (fun ls hl => ?_)
                refine lv_goto (tgt := 5) hx hb dX5_isTaken_70 (by decide) ?_
                obtain rfl := Option.some.inj h
                exact ih_5 0 (v4_5 + 1) H locs ls hlp_5 hP hD hS (lv_sub hl [2, 3, 4, 1, 0] rfl)
              · have h := ox_t c_58 h
                refine lv_iconst (v := 1) hx hb dX5_isTaken_61 (by decide) ?_
                refine lv_goto (tgt := 66) hx hb dX5_isTaken_62 (by decide) ?_
                refine lv_istore_n (lv' := [(3, .int 1), (0, .ref (ad 5)), (1, .int a1), (2, .int a2), (4, .int v4_5)]) hx hb dX5_isTaken_66 rfl hl (by decide) rfl (fun ls hl => ?_)
                refine lv_iinc (v := v4_5 + 1) (lv' := [(4, .int (v4_5 + 1)), (3, .int 1), (0, .ref (ad 5)), (1, .int a1), (2, .int a2)]) hx hb dX5_isTaken_67 hl (k := 4) rfl rfl (by decide) rfl (fun ls hl => ?_)
                refine lv_goto (tgt := 5) hx hb dX5_isTaken_70 (by decide) ?_
                obtain rfl := Option.some.inj h
                exact ih_5 1 (v4_5 + 1) H locs ls hlp_5 hP hD hS (lv_sub hl [2, 3, 4, 1, 0] rfl)
  exact hL_5 1000000 0 0 H locs ls hex_5 hP hD hS (lv_sub hl [2, 3, 4, 1, 0] rfl)
set_option maxHeartbeats 4000000 in
set_option maxRecDepth 100000 in
theorem c_X5_takeAway (l : Launch) (D : va_G) (cI cZ : ClassId) (ad : Nat → Nat) (M_thrown : Int32) (M_states : Int32) (M_moves : Int32) (M_known : Int32) (M_come : Int32) (M_lookedAt : Int32) (M_parts : Int32) (M_whole : Int32) (M_from : Nat → Int32) (M_to : Nat → Int32) (M_labelOf : Nat → Int32) (M_how : Nat → Int32) (M_first : Nat → Int32) (M_next : Nat → Int32) (M_alive : Nat → Int32) (M_partOf : Nat → Int32) (a1 : Int32) (a2 : Int32) (res : Int32 × (Nat → Int32)) (h : fn_X5_takeAway M_states M_moves M_from M_to M_labelOf M_how M_first M_next M_alive M_partOf a1 a2 = some res) : mc_C l yX5_takeAway wv_X5_takeAway { frames := 1, cells := 0, slots := 0, locals := 24 } D [(cI, .int), (cZ, .boolean)] [.ref (ad 5), .int a1, .int a2] [(kM ad M_thrown M_states M_moves M_known M_come M_lookedAt M_parts M_whole), (kI cI (ad 33) 600 M_from), (kI cI (ad 34) 600 M_to), (kI cI (ad 35) 600 M_labelOf), (kI cI (ad 36) 16 M_how), (kI cI (ad 37) 200 M_first), (kI cI (ad 39) 600 M_next), (kZ cZ (ad 45) 200 M_alive), (kI cI (ad 49) 200 M_partOf)] (some (.int res.1)) [(kM ad M_thrown M_states M_moves M_known M_come M_lookedAt M_parts M_whole), (kI cI (ad 33) 600 M_from), (kI cI (ad 34) 600 M_to), (kI cI (ad 35) 600 M_labelOf), (kI cI (ad 36) 16 M_how), (kI cI (ad 37) 200 M_first), (kI cI (ad 39) 600 M_next), (kZ cZ (ad 45) 200 res.2), (kI cI (ad 49) 200 M_partOf)] := by
  refine mc_ofz (own := RX5) (by decide) rfl rfl (Nat.le_of_ble_eq_true rfl) ?_
  intro p e s m below meth c A Q ls hx hb hml hown hts hK hP hD hA hl hend
  have hS : va_S A s.heap s.heap [] := va_S.rf
  have hl : lv_has ls 7 [(0, .ref (ad 5)), (1, .int a1), (2, .int a2)] := hl
  obtain ⟨H, hH⟩ : ∃ H, H = s.heap := ⟨_, rfl⟩
  obtain ⟨locs, hlo⟩ : ∃ locs : List Loc, locs = [] := ⟨_, rfl⟩
  have hS : va_S A s.heap H locs := by rw [hH, hlo]; exact hS
  have hP : va_P D vwCl [(kM ad M_thrown M_states M_moves M_known M_come M_lookedAt M_parts M_whole), (kI cI (ad 33) 600 M_from), (kI cI (ad 34) 600 M_to), (kI cI (ad 35) 600 M_labelOf), (kI cI (ad 36) 16 M_how), (kI cI (ad 37) 200 M_first), (kI cI (ad 39) 600 M_next), (kZ cZ (ad 45) 200 M_alive), (kI cI (ad 49) 200 M_partOf)] H := by rw [hH]; exact hP
  suffices h9 : W p l e { frames := 1, cells := 0, slots := 0, locals := 24 } s m ([.ref (ad 5), .int a1, .int a2] : List Value).toArray below meth c H locs 0 0 Q (F0 m 0 ls []) by rw [hH, hlo] at h9; exact h9
  clear hH hlo
  have hiX5 : ∀ w ∈ wsX50, w ∈ wv_X5_takeAway := fun w h => List.mem_cons_of_mem _ (inlX5 w h)
  have hk0 := hts (.fieldLink RX5 22 "FairLoopsModel" "how" "[I") (List.mem_cons_of_mem _ wk_77)
  have hk1 := hts (.fieldLink RX5 80 "FairLoopsModel" "states" "I") (List.mem_cons_of_mem _ wk_120)
  have hk2 := hts (.fieldLink RX5 54 "FairLoopsModel" "alive" "[Z") (List.mem_cons_of_mem _ wk_87)
  have hk3 := hts (.fieldLink RX5 67 "FairLoopsModel" "partOf" "[I") (List.mem_cons_of_mem _ wk_92)
  refine lv_aload_n hx hb dX5_takeAway_0 rfl (lv_at hl 0 rfl) ?_
  refine va_get (D := D) (ci := 5) (v := .ref (ad 36)) (C := RX5) (T := TX5) (N := 27) hx hb hts hiX5 hown hK hP 0 rfl rfl 7 (by decide) hk0 (fun _ h9 => h9) rfl dX5_takeAway_1 ?_
  refine lv_iload_n hx hb dX5_takeAway_4 rfl (lv_at hl 1 rfl) ?_
  obtain ⟨hi_5, h⟩ := ox_i_of h
  refine va_iald hx hb hK hP 4 0 rfl rfl hi_5 dX5_takeAway_5 ?_
  refine lv_if_eq (tgt := 18) hx hb dX5_takeAway_6 (by decide) (fun c_6 => ?_) (fun c_6 => ?_)
  · have h := ox_t c_6 h
    refine lv_iconst (v := 0) hx hb dX5_takeAway_18 (by decide) ?_
    have h := Option.some.inj h
    subst h
    exact hend H locs _ ls hP hD hS dX5_takeAway_19 nb_0
  · have h := ox_f c_6 h
    refine lv_aload_n hx hb dX5_takeAway_9 rfl (lv_at hl 0 rfl) ?_
    refine lv_iload_n hx hb dX5_takeAway_10 rfl (lv_at hl 1 rfl) ?_
    refine lv_iload_n hx hb dX5_takeAway_11 rfl (lv_at hl 2 rfl) ?_
    obtain ⟨r_12, hc_12, h⟩ := ox_b_of h
    refine mc_callV (As := [.int a1, .int a2]) (rest := []) (b := ad 5) (Wc := [(kM ad M_thrown M_states M_moves M_known M_come M_lookedAt M_parts M_whole), (kI cI (ad 33) 600 M_from), (kI cI (ad 34) 600 M_to), (kI cI (ad 35) 600 M_labelOf), (kI cI (ad 49) 200 M_partOf)]) (wr := [(kI cI (ad 36) 16 M_how), (kI cI (ad 37) 200 M_first), (kI cI (ad 39) 600 M_next), (kZ cZ (ad 45) 200 M_alive)]) (W1 := [(kM ad M_thrown M_states M_moves M_known M_come M_lookedAt M_parts M_whole), (kI cI (ad 33) 600 M_from), (kI cI (ad 34) 600 M_to), (kI cI (ad 35) 600 M_labelOf), (kI cI (ad 49) 200 M_partOf)]) (wn := [(kM ad M_thrown M_states M_moves M_known M_come M_lookedAt M_parts M_whole), (kI cI (ad 33) 600 M_from), (kI cI (ad 34) 600 M_to), (kI cI (ad 35) 600 M_labelOf), (kI cI (ad 36) 16 M_how), (kI cI (ad 37) 200 M_first), (kI cI (ad 39) 600 M_next), (kZ cZ (ad 45) 200 M_alive), (kI cI (ad 49) 200 M_partOf)]) (rv := some (.int r_12)) ⟨hx, hb, hml, hown, hts⟩ (c_X5_isTaken l D cI cZ ad M_thrown M_states M_moves M_known M_come M_lookedAt M_parts M_whole M_from M_to M_labelOf M_partOf a1 a2 _ hc_12) (cwV 2 hts (gl_V wk_348 wk_349 wk_350 wk_5 wk_351) rfl rfl rfl (by decide +kernel) ⟨Nat.le_of_ble_eq_true rfl, Nat.le_of_ble_eq_true rfl⟩) hK hP hD hS hA 5 0 rfl rfl rfl [0, 1, 2, 3, 8] [4, 5, 6, 7] [4, 5, 6, 7, 0, 1, 2, 3, 8] rfl rfl (by decide) rfl (by decide) (by decide) rfl rfl (by decide) rfl rfl hl.1 (Nat.le_of_ble_eq_true rfl) dX5_takeAway_12 ⟨Nat.zero_le _, Nat.zero_le _⟩ (fun H locs hP hD hS => ?_)
    show W p l e { frames := 1, cells := 0, slots := 0, locals := 24 } s m ([.ref (ad 5), .int a1, .int a2] : List Value).toArray below meth c H locs 0 0 Q (F0 m 15 ls [.int r_12])
    refine lv_if_eq (tgt := 20) hx hb dX5_takeAway_15 (by decide) (fun c_15 => ?_) (fun c_15 => ?_)
    · have h := ox_t c_15 h
      refine lv_iconst (v := 1) hx hb dX5_takeAway_20 (by decide) ?_
      refine lv_istore_n (lv' := [(3, .int 1), (0, .ref (ad 5)), (1, .int a1), (2, .int a2)]) hx hb dX5_takeAway_21 rfl hl (by decide) rfl (fun ls hl => ?_)
      refine lv_iconst (v := 0) hx hb dX5_takeAway_22 (by decide) ?_
      refine lv_istore (lv' := [(4, .int 0), (3, .int 1), (0, .ref (ad 5)), (1, .int a1), (2, .int a2)]) hx hb dX5_takeAway_23 hl (by decide) rfl (fun ls hl => ?_)
      refine lv_iconst (v := 0) hx hb dX5_takeAway_25 (by decide) ?_
      refine lv_istore (lv' := [(5, .int 0), (4, .int 0), (3, .int 1), (0, .ref (ad 5)), (1, .int a1), (2, .int a2)]) hx hb dX5_takeAway_26 hl (by decide) rfl (fun ls hl => ?_)
      obtain ⟨ex_28, hex_28, h_28⟩ := ox_b_of h
      have hX_28 : ∀ (v3_28 : Int32) (v4_28 : Int32) (v5_28 : Int32) (H : Heap) (locs : List Loc) (ls : Array Slot), (v3_28, v4_28, v5_28) = ex_28 → va_P D vwCl [(kM ad M_thrown M_states M_moves M_known M_come M_lookedAt M_parts M_whole), (kI cI (ad 33) 600 M_from), (kI cI (ad 34) 600 M_to), (kI cI (ad 35) 600 M_labelOf), (kI cI (ad 36) 16 M_how), (kI cI (ad 37) 200 M_first), (kI cI (ad 39) 600 M_next), (kZ cZ (ad 45) 200 M_alive), (kI cI (ad 49) 200 M_partOf)] H → va_D A [(kM ad M_thrown M_states M_moves M_known M_come M_lookedAt M_parts M_whole), (kI cI (ad 33) 600 M_from), (kI cI (ad 34) 600 M_to), (kI cI (ad 35) 600 M_labelOf), (kI cI (ad 36) 16 M_how), (kI cI (ad 37) 200 M_first), (kI cI (ad 39) 600 M_next), (kZ cZ (ad 45) 200 M_alive), (kI cI (ad 49) 200 M_partOf)] → va_S A s.heap H locs → lv_has ls 7 [(0, .ref (ad 5)), (1, .int a1), (2, .int a2), (3, .int v3_28), (4, .int v4_28)] → W p l e { frames := 1, cells := 0, slots := 0, locals := 24 } s m ([.ref (ad 5), .int a1, .int a2] : List Value).toArray below meth c H locs 0 0 Q (F0 m 95 ls []) := by
        intro v3_28 v4_28 v5_28 H locs ls hex_28 hP hD hS hl
        subst hex_28
        have h := h_28
        refine lv_aload_n hx hb dX5_takeAway_95 rfl (lv_at hl 0 rfl) ?_
        refine va_get (D := D) (ci := 5) (v := .ref (ad 36)) (C := RX5) (T := TX5) (N := 27) hx hb hts hiX5 hown hK hP 0 rfl rfl 7 (by decide) hk0 (fun _ h9 => h9) rfl dX5_takeAway_96 ?_
        refine lv_iload_n hx hb dX5_takeAway_99 rfl (lv_at hl 1 rfl) ?_
        obtain ⟨hi_100, h⟩ := ox_i_of h
        refine va_iald hx hb hK hP 4 0 rfl rfl hi_100 dX5_takeAway_100 ?_
        refine lv_iconst (v := 1) hx hb dX5_takeAway_101 (by decide) ?_
        have hJ_119 : ∀  (H : Heap) (locs : List Loc) (ls : Array Slot), fn_X5_takeAway_j119 M_states M_partOf a2 M_labelOf M_first M_next a1 M_alive () = some res → va_P D vwCl [(kM ad M_thrown M_states M_moves M_known M_come M_lookedAt M_parts M_whole), (kI cI (ad 33) 600 M_from), (kI cI (ad 34) 600 M_to), (kI cI (ad 35) 600 M_labelOf), (kI cI (ad 36) 16 M_how), (kI cI (ad 37) 200 M_first), (kI cI (ad 39) 600 M_next), (kZ cZ (ad 45) 200 M_alive), (kI cI (ad 49) 200 M_partOf)] H → va_D A [(kM ad M_thrown M_states M_moves M_known M_come M_lookedAt M_parts M_whole), (kI cI (ad 33) 600 M_from), (kI cI (ad 34) 600 M_to), (kI cI (ad 35) 600 M_labelOf), (kI cI (ad 36) 16 M_how), (kI cI (ad 37) 200 M_first), (kI cI (ad 39) 600 M_next), (kZ cZ (ad 45) 200 M_alive), (kI cI (ad 49) 200 M_partOf)] → va_S A s.heap H locs → lv_has ls 7 [(0, .ref (ad 5)), (1, .int a1), (2, .int a2)] → W p l e { frames := 1, cells := 0, slots := 0, locals := 24 } s m ([.ref (ad 5), .int a1, .int a2] : List Value).toArray below meth c H locs 0 0 Q (F0 m 119 ls []) := by
          intro  H locs ls h hP hD hS hl
          refine lv_iconst (v := 0) hx hb dX5_takeAway_119 (by decide) ?_
          refine lv_istore (lv' := [(5, .int 0), (0, .ref (ad 5)), (1, .int a1), (2, .int a2)]) hx hb dX5_takeAway_120 hl (by decide) rfl (fun ls hl => ?_)
          obtain ⟨ex_122, hex_122, h_122⟩ := ox_b_of h
          have hX_122 : ∀ (v5_122 : Int32) (M_alive_122 : Nat → Int32) (H : Heap) (locs : List Loc) (ls : Array Slot), (v5_122, M_alive_122) = ex_122 → va_P D vwCl [(kM ad M_thrown M_states M_moves M_known M_come M_lookedAt M_parts M_whole), (kI cI (ad 33) 600 M_from), (kI cI (ad 34) 600 M_to), (kI cI (ad 35) 600 M_labelOf), (kI cI (ad 36) 16 M_how), (kI cI (ad 37) 200 M_first), (kI cI (ad 39) 600 M_next), (kZ cZ (ad 45) 200 M_alive_122), (kI cI (ad 49) 200 M_partOf)] H → va_D A [(kM ad M_thrown M_states M_moves M_known M_come M_lookedAt M_parts M_whole), (kI cI (ad 33) 600 M_from), (kI cI (ad 34) 600 M_to), (kI cI (ad 35) 600 M_labelOf), (kI cI (ad 36) 16 M_how), (kI cI (ad 37) 200 M_first), (kI cI (ad 39) 600 M_next), (kZ cZ (ad 45) 200 M_alive_122), (kI cI (ad 49) 200 M_partOf)] → va_S A s.heap H locs → lv_has ls 7 [] → W p l e { frames := 1, cells := 0, slots := 0, locals := 24 } s m ([.ref (ad 5), .int a1, .int a2] : List Value).toArray below meth c H locs 0 0 Q (F0 m 180 ls []) := by
            intro v5_122 M_alive_122 H locs ls hex_122 hP hD hS hl
            subst hex_122
            have h := h_122
            refine lv_iconst (v := 1) hx hb dX5_takeAway_180 (by decide) ?_
            have h := Option.some.inj h
            subst h
            exact hend H locs _ ls hP hD hS dX5_takeAway_181 nb_1
          have hL_122 : ∀ (n : Nat) (v5_122 : Int32) (M_alive_122 : Nat → Int32) (H : Heap) (locs : List Loc) (ls : Array Slot), ox_l (fn_X5_takeAway_l122 M_states M_partOf a2 M_labelOf M_first M_next a1) n (v5_122, M_alive_122) = some ex_122 → va_P D vwCl [(kM ad M_thrown M_states M_moves M_known M_come M_lookedAt M_parts M_whole), (kI cI (ad 33) 600 M_from), (kI cI (ad 34) 600 M_to), (kI cI (ad 35) 600 M_labelOf), (kI cI (ad 36) 16 M_how), (kI cI (ad 37) 200 M_first), (kI cI (ad 39) 600 M_next), (kZ cZ (ad 45) 200 M_alive_122), (kI cI (ad 49) 200 M_partOf)] H → va_D A [(kM ad M_thrown M_states M_moves M_known M_come M_lookedAt M_parts M_whole), (kI cI (ad 33) 600 M_from), (kI cI (ad 34) 600 M_to), (kI cI (ad 35) 600 M_labelOf), (kI cI (ad 36) 16 M_how), (kI cI (ad 37) 200 M_first), (kI cI (ad 39) 600 M_next), (kZ cZ (ad 45) 200 M_alive_122), (kI cI (ad 49) 200 M_partOf)] → va_S A s.heap H locs → lv_has ls 7 [(0, .ref (ad 5)), (1, .int a1), (2, .int a2), (5, .int v5_122)] → W p l e { frames := 1, cells := 0, slots := 0, locals := 24 } s m ([.ref (ad 5), .int a1, .int a2] : List Value).toArray below meth c H locs 0 0 Q (F0 m 122 ls []) := by
            intro n
            induction n with
            | zero => intro v5_122 M_alive_122 H locs ls hlp; exact ox_l_0 hlp
            | succ n ih_122 =>
              intro v5_122 M_alive_122 H locs ls hlp_122 hP hD hS hl
              obtain ⟨z_122, h, hlp_122⟩ := ox_l_of hlp_122
              refine lv_iload hx hb dX5_takeAway_122 (lv_at hl 3 rfl) ?_
              refine lv_aload_n hx hb dX5_takeAway_124 rfl (lv_at hl 0 rfl) ?_
              refine va_get (D := D) (ci := 5) (v := .int M_states) (C := RX5) (T := TX5) (N := 27) hx hb hts hiX5 hown hK hP 0 rfl rfl 1 (by decide) hk1 (fun _ h9 => h9) rfl dX5_takeAway_125 ?_
              refine lv_icmp_ge (tgt := 180) hx hb dX5_takeAway_128 (by decide) (fun c_128 => ?_) (fun c_128 => ?_)
              · have h := ox_t c_128 h
                obtain rfl := Option.some.inj h
                exact hX_122 v5_122 M_alive_122 H locs ls hlp_122 hP hD hS (lv_sub hl [] rfl)
              · have h := ox_f c_128 h
                refine lv_aload_n hx hb dX5_takeAway_131 rfl (lv_at hl 0 rfl) ?_
                refine va_get (D := D) (ci := 5) (v := .ref (ad 45)) (C := RX5) (T := TX5) (N := 27) hx hb hts hiX5 hown hK hP 0 rfl rfl 19 (by decide) hk2 (fun _ h9 => h9) rfl dX5_takeAway_132 ?_
                refine lv_iload hx hb dX5_takeAway_135 (lv_at hl 3 rfl) ?_
                refine lv_aload_n hx hb dX5_takeAway_137 rfl (lv_at hl 0 rfl) ?_
                refine va_get (D := D) (ci := 5) (v := .ref (ad 45)) (C := RX5) (T := TX5) (N := 27) hx hb hts hiX5 hown hK hP 0 rfl rfl 19 (by decide) hk2 (fun _ h9 => h9) rfl dX5_takeAway_138 ?_
                refine lv_iload hx hb dX5_takeAway_141 (lv_at hl 3 rfl) ?_
                obtain ⟨hi_143, h⟩ := ox_i_of h
                refine va_zald hx hb hK hP 7 1 rfl rfl hi_143 dX5_takeAway_143 ?_
                refine lv_if_eq (tgt := 172) hx hb dX5_takeAway_144 (by decide) (fun c_144 => ?_) (fun c_144 => ?_)
                · have h := ox_t c_144 h
                  refine lv_iconst (v := 0) hx hb dX5_takeAway_172 (by decide) ?_
                  obtain ⟨hi_173, h⟩ := ox_i_of h
                  refine va_zast hx hb hK hP hD hS 7 1 rfl rfl hi_173 dX5_takeAway_173 (fun H locs hP hD hS => ?_)
                  have hP : va_P D vwCl [(kM ad M_thrown M_states M_moves M_known M_come M_lookedAt M_parts M_whole), (kI cI (ad 33) 600 M_from), (kI cI (ad 34) 600 M_to), (kI cI (ad 35) 600 M_labelOf), (kI cI (ad 36) 16 M_how), (kI cI (ad 37) 200 M_first), (kI cI (ad 39) 600 M_next), (kZ cZ (ad 45) 200 (upd M_alive_122 v5_122.toNatClampNeg (vp_nar .boolean 0))), (kI cI (ad 49) 200 M_partOf)] H := hP
                  have hD : va_D A [(kM ad M_thrown M_states M_moves M_known M_come M_lookedAt M_parts M_whole), (kI cI (ad 33) 600 M_from), (kI cI (ad 34) 600 M_to), (kI cI (ad 35) 600 M_labelOf), (kI cI (ad 36) 16 M_how), (kI cI (ad 37) 200 M_first), (kI cI (ad 39) 600 M_next), (kZ cZ (ad 45) 200 (upd M_alive_122 v5_122.toNatClampNeg (vp_nar .boolean 0))), (kI cI (ad 49) 200 M_partOf)] := hD
                  refine lv_iinc (v := v5_122 + 1) (lv' := [(5, .int (v5_122 + 1)), (0, .ref (ad 5)), (1, .int a1), (2, .int a2)]) hx hb dX5_takeAway_174 hl (k := 3) rfl rfl (by decide) rfl (fun ls hl => ?_)
                  refine lv_goto (tgt := 122) hx hb dX5_takeAway_177 (by decide) ?_
                  obtain rfl := Option.some.inj h
                  exact ih_122 (v5_122 + 1) (upd M_alive_122 v5_122.toNatClampNeg (vp_nar .boolean 0)) H locs ls hlp_122 hP hD hS (lv_sub hl [1, 2, 3, 0] rfl)
                · have h := ox_f c_144 h
                  refine lv_aload_n hx hb dX5_takeAway_147 rfl (lv_at hl 0 rfl) ?_
                  refine va_get (D := D) (ci := 5) (v := .ref (ad 49)) (C := RX5) (T := TX5) (N := 27) hx hb hts hiX5 hown hK hP 0 rfl rfl 23 (by decide) hk3 (fun _ h9 => h9) rfl dX5_takeAway_148 ?_
                  refine lv_iload hx hb dX5_takeAway_151 (lv_at hl 3 rfl) ?_
                  obtain ⟨hi_153, h⟩ := ox_i_of h
                  refine va_iald hx hb hK hP 8 0 rfl rfl hi_153 dX5_takeAway_153 ?_
                  refine lv_iload_n hx hb dX5_takeAway_154 rfl (lv_at hl 2 rfl) ?_
                  refine lv_icmp_ne (tgt := 168) hx hb dX5_takeAway_155 (by decide) (fun c_155 => ?_) (fun c_155 => ?_)
                  · have h := ox_f c_155 h
                    refine lv_iconst (v := 1) hx hb dX5_takeAway_168 (by decide) ?_
                    refine lv_goto (tgt := 173) hx hb dX5_takeAway_169 (by decide) ?_
                    obtain ⟨hi_173, h⟩ := ox_i_of h
                    refine va_zast hx hb hK hP hD hS 7 1 rfl rfl hi_173 dX5_takeAway_173 (fun H locs hP hD hS => ?_)
                    have hP : va_P D vwCl [(kM ad M_thrown M_states M_moves M_known M_come M_lookedAt M_parts M_whole), (kI cI (ad 33) 600 M_from), (kI cI (ad 34) 600 M_to), (kI cI (ad 35) 600 M_labelOf), (kI cI (ad 36) 16 M_how), (kI cI (ad 37) 200 M_first), (kI cI (ad 39) 600 M_next), (kZ cZ (ad 45) 200 (upd M_alive_122 v5_122.toNatClampNeg (vp_nar .boolean 1))), (kI cI (ad 49) 200 M_partOf)] H := hP
                    have hD : va_D A [(kM ad M_thrown M_states M_moves M_known M_come M_lookedAt M_parts M_whole), (kI cI (ad 33) 600 M_from), (kI cI (ad 34) 600 M_to), (kI cI (ad 35) 600 M_labelOf), (kI cI (ad 36) 16 M_how), (kI cI (ad 37) 200 M_first), (kI cI (ad 39) 600 M_next), (kZ cZ (ad 45) 200 (upd M_alive_122 v5_122.toNatClampNeg (vp_nar .boolean 1))), (kI cI (ad 49) 200 M_partOf)] := hD
                    refine lv_iinc (v := v5_122 + 1) (lv' := [(5, .int (v5_122 + 1)), (0, .ref (ad 5)), (1, .int a1), (2, .int a2)]) hx hb dX5_takeAway_174 hl (k := 3) rfl rfl (by decide) rfl (fun ls hl => ?_)
                    refine lv_goto (tgt := 122) hx hb dX5_takeAway_177 (by decide) ?_
                    obtain rfl := Option.some.inj h
                    exact ih_122 (v5_122 + 1) (upd M_alive_122 v5_122.toNatClampNeg (vp_nar .boolean 1)) H locs ls hlp_122 hP hD hS (lv_sub hl [1, 2, 3, 0] rfl)
                  · have h := ox_t c_155 h
                    refine lv_aload_n hx hb dX5_takeAway_158 rfl (lv_at hl 0 rfl) ?_
                    refine lv_iload_n hx hb dX5_takeAway_159 rfl (lv_at hl 1 rfl) ?_
                    refine lv_iload hx hb dX5_takeAway_160 (lv_at hl 3 rfl) ?_
                    obtain ⟨r_162, hc_162, h⟩ := ox_b_of h
                    refine mc_callV (As := [.int a1, .int v5_122]) (rest := [.int v5_122, .ref (ad 45)]) (b := ad 5) (Wc := [(kM ad M_thrown M_states M_moves M_known M_come M_lookedAt M_parts M_whole), (kI cI (ad 35) 600 M_labelOf), (kI cI (ad 37) 200 M_first), (kI cI (ad 39) 600 M_next)]) (wr := [(kI cI (ad 33) 600 M_from), (kI cI (ad 34) 600 M_to), (kI cI (ad 36) 16 M_how), (kZ cZ (ad 45) 200 M_alive_122), (kI cI (ad 49) 200 M_partOf)]) (W1 := [(kM ad M_thrown M_states M_moves M_known M_come M_lookedAt M_parts M_whole), (kI cI (ad 35) 600 M_labelOf), (kI cI (ad 37) 200 M_first), (kI cI (ad 39) 600 M_next)]) (wn := [(kM ad M_thrown M_states M_moves M_known M_come M_lookedAt M_parts M_whole), (kI cI (ad 33) 600 M_from), (kI cI (ad 34) 600 M_to), (kI cI (ad 35) 600 M_labelOf), (kI cI (ad 36) 16 M_how), (kI cI (ad 37) 200 M_first), (kI cI (ad 39) 600 M_next), (kZ cZ (ad 45) 200 M_alive_122), (kI cI (ad 49) 200 M_partOf)]) (rv := some (.int r_162)) ⟨hx, hb, hml, hown, hts⟩ (c_X5_isAble l D cI cZ ad M_thrown M_states M_moves M_known M_come M_lookedAt M_parts M_whole M_labelOf M_first M_next a1 v5_122 _ hc_162) (cwV 2 hts (gl_V wk_352 wk_353 wk_354 wk_5 wk_355) rfl rfl rfl (by decide +kernel) ⟨Nat.le_of_ble_eq_true rfl, Nat.le_of_ble_eq_true rfl⟩) hK hP hD hS hA 5 0 rfl rfl rfl [0, 3, 5, 6] [1, 2, 4, 7, 8] [5, 0, 1, 6, 2, 7, 8, 3, 4] rfl rfl (by decide) rfl (by decide) (by decide) rfl rfl (by decide) rfl rfl hl.1 (Nat.le_of_ble_eq_true rfl) dX5_takeAway_162 ⟨Nat.zero_le _, Nat.zero_le _⟩ (fun H locs hP hD hS => ?_)
                    show W p l e { frames := 1, cells := 0, slots := 0, locals := 24 } s m ([.ref (ad 5), .int a1, .int a2] : List Value).toArray below meth c H locs 0 0 Q (F0 m 165 ls [.int r_162, .int v5_122, .ref (ad 45)])
                    refine lv_if_ne (tgt := 172) hx hb dX5_takeAway_165 (by decide) (fun c_165 => ?_) (fun c_165 => ?_)
                    · have h := ox_f c_165 h
                      refine lv_iconst (v := 0) hx hb dX5_takeAway_172 (by decide) ?_
                      obtain ⟨hi_173, h⟩ := ox_i_of h
                      refine va_zast hx hb hK hP hD hS 7 1 rfl rfl hi_173 dX5_takeAway_173 (fun H locs hP hD hS => ?_)
                      have hP : va_P D vwCl [(kM ad M_thrown M_states M_moves M_known M_come M_lookedAt M_parts M_whole), (kI cI (ad 33) 600 M_from), (kI cI (ad 34) 600 M_to), (kI cI (ad 35) 600 M_labelOf), (kI cI (ad 36) 16 M_how), (kI cI (ad 37) 200 M_first), (kI cI (ad 39) 600 M_next), (kZ cZ (ad 45) 200 (upd M_alive_122 v5_122.toNatClampNeg (vp_nar .boolean 0))), (kI cI (ad 49) 200 M_partOf)] H := hP
                      have hD : va_D A [(kM ad M_thrown M_states M_moves M_known M_come M_lookedAt M_parts M_whole), (kI cI (ad 33) 600 M_from), (kI cI (ad 34) 600 M_to), (kI cI (ad 35) 600 M_labelOf), (kI cI (ad 36) 16 M_how), (kI cI (ad 37) 200 M_first), (kI cI (ad 39) 600 M_next), (kZ cZ (ad 45) 200 (upd M_alive_122 v5_122.toNatClampNeg (vp_nar .boolean 0))), (kI cI (ad 49) 200 M_partOf)] := hD
                      refine lv_iinc (v := v5_122 + 1) (lv' := [(5, .int (v5_122 + 1)), (0, .ref (ad 5)), (1, .int a1), (2, .int a2)]) hx hb dX5_takeAway_174 hl (k := 3) rfl rfl (by decide) rfl (fun ls hl => ?_)
                      refine lv_goto (tgt := 122) hx hb dX5_takeAway_177 (by decide) ?_
                      obtain rfl := Option.some.inj h
                      exact ih_122 (v5_122 + 1) (upd M_alive_122 v5_122.toNatClampNeg (vp_nar .boolean 0)) H locs ls hlp_122 hP hD hS (lv_sub hl [1, 2, 3, 0] rfl)
                    · have h := ox_t c_165 h
                      refine lv_iconst (v := 1) hx hb dX5_takeAway_168 (by decide) ?_
                      refine lv_goto (tgt := 173) hx hb dX5_takeAway_169 (by decide) ?_
                      obtain ⟨hi_173, h⟩ := ox_i_of h
                      refine va_zast hx hb hK hP hD hS 7 1 rfl rfl hi_173 dX5_takeAway_173 (fun H locs hP hD hS => ?_)
                      have hP : va_P D vwCl [(kM ad M_thrown M_states M_moves M_known M_come M_lookedAt M_parts M_whole), (kI cI (ad 33) 600 M_from), (kI cI (ad 34) 600 M_to), (kI cI (ad 35) 600 M_labelOf), (kI cI (ad 36) 16 M_how), (kI cI (ad 37) 200 M_first), (kI cI (ad 39) 600 M_next), (kZ cZ (ad 45) 200 (upd M_alive_122 v5_122.toNatClampNeg (vp_nar .boolean 1))), (kI cI (ad 49) 200 M_partOf)] H := hP
                      have hD : va_D A [(kM ad M_thrown M_states M_moves M_known M_come M_lookedAt M_parts M_whole), (kI cI (ad 33) 600 M_from), (kI cI (ad 34) 600 M_to), (kI cI (ad 35) 600 M_labelOf), (kI cI (ad 36) 16 M_how), (kI cI (ad 37) 200 M_first), (kI cI (ad 39) 600 M_next), (kZ cZ (ad 45) 200 (upd M_alive_122 v5_122.toNatClampNeg (vp_nar .boolean 1))), (kI cI (ad 49) 200 M_partOf)] := hD
                      refine lv_iinc (v := v5_122 + 1) (lv' := [(5, .int (v5_122 + 1)), (0, .ref (ad 5)), (1, .int a1), (2, .int a2)]) hx hb dX5_takeAway_174 hl (k := 3) rfl rfl (by decide) rfl (fun ls hl => ?_)
                      refine lv_goto (tgt := 122) hx hb dX5_takeAway_177 (by decide) ?_
                      obtain rfl := Option.some.inj h
                      exact ih_122 (v5_122 + 1) (upd M_alive_122 v5_122.toNatClampNeg (vp_nar .boolean 1)) H locs ls hlp_122 hP hD hS (lv_sub hl [1, 2, 3, 0] rfl)
          exact hL_122 1000000 0 M_alive H locs ls hex_122 hP hD hS (lv_sub hl [1, 2, 3, 0] rfl)
        refine lv_icmp_ne (tgt := 112) hx hb dX5_takeAway_102 (by decide) (fun c_102 => ?_) (fun c_102 => ?_)
        · have h := ox_f c_102 h
          refine lv_iload hx hb dX5_takeAway_112 (lv_at hl 4 rfl) ?_
          refine lv_if_ne (tgt := 119) hx hb dX5_takeAway_114 (by decide) (fun c_114 => ?_) (fun c_114 => ?_)
          · have h := ox_f c_114 h
            exact hJ_119  H locs ls h hP hD hS (lv_sub hl [0, 1, 2] rfl)
          · have h := ox_t c_114 h
            refine lv_iconst (v := 0) hx hb dX5_takeAway_117 (by decide) ?_
            have h := Option.some.inj h
            subst h
            exact hend H locs _ ls hP hD hS dX5_takeAway_118 nb_0
        · have h := ox_t c_102 h
          refine lv_iload_n hx hb dX5_takeAway_105 rfl (lv_at hl 3 rfl) ?_
          refine lv_if_ne (tgt := 119) hx hb dX5_takeAway_106 (by decide) (fun c_106 => ?_) (fun c_106 => ?_)
          · have h := ox_f c_106 h
            exact hJ_119  H locs ls h hP hD hS (lv_sub hl [0, 1, 2] rfl)
          · have h := ox_t c_106 h
            refine lv_goto (tgt := 117) hx hb dX5_takeAway_109 (by decide) ?_
            refine lv_iconst (v := 0) hx hb dX5_takeAway_117 (by decide) ?_
            have h := Option.some.inj h
            subst h
            exact hend H locs _ ls hP hD hS dX5_takeAway_118 nb_0
      have hL_28 : ∀ (n : Nat) (v3_28 : Int32) (v4_28 : Int32) (v5_28 : Int32) (H : Heap) (locs : List Loc) (ls : Array Slot), ox_l (fn_X5_takeAway_l28 M_states M_partOf a2 M_labelOf M_first M_next a1) n (v3_28, v4_28, v5_28) = some ex_28 → va_P D vwCl [(kM ad M_thrown M_states M_moves M_known M_come M_lookedAt M_parts M_whole), (kI cI (ad 33) 600 M_from), (kI cI (ad 34) 600 M_to), (kI cI (ad 35) 600 M_labelOf), (kI cI (ad 36) 16 M_how), (kI cI (ad 37) 200 M_first), (kI cI (ad 39) 600 M_next), (kZ cZ (ad 45) 200 M_alive), (kI cI (ad 49) 200 M_partOf)] H → va_D A [(kM ad M_thrown M_states M_moves M_known M_come M_lookedAt M_parts M_whole), (kI cI (ad 33) 600 M_from), (kI cI (ad 34) 600 M_to), (kI cI (ad 35) 600 M_labelOf), (kI cI (ad 36) 16 M_how), (kI cI (ad 37) 200 M_first), (kI cI (ad 39) 600 M_next), (kZ cZ (ad 45) 200 M_alive), (kI cI (ad 49) 200 M_partOf)] → va_S A s.heap H locs → lv_has ls 7 [(0, .ref (ad 5)), (1, .int a1), (2, .int a2), (3, .int v3_28), (4, .int v4_28), (5, .int v5_28)] → W p l e { frames := 1, cells := 0, slots := 0, locals := 24 } s m ([.ref (ad 5), .int a1, .int a2] : List Value).toArray below meth c H locs 0 0 Q (F0 m 28 ls []) := by
        intro n
        induction n with
        | zero => intro v3_28 v4_28 v5_28 H locs ls hlp; exact ox_l_0 hlp
        | succ n ih_28 =>
          intro v3_28 v4_28 v5_28 H locs ls hlp_28 hP hD hS hl
          obtain ⟨z_28, h, hlp_28⟩ := ox_l_of hlp_28
          refine lv_iload hx hb dX5_takeAway_28 (lv_at hl 5 rfl) ?_
          refine lv_aload_n hx hb dX5_takeAway_30 rfl (lv_at hl 0 rfl) ?_
          refine va_get (D := D) (ci := 5) (v := .int M_states) (C := RX5) (T := TX5) (N := 27) hx hb hts hiX5 hown hK hP 0 rfl rfl 1 (by decide) hk1 (fun _ h9 => h9) rfl dX5_takeAway_31 ?_
          refine lv_icmp_ge (tgt := 95) hx hb dX5_takeAway_34 (by decide) (fun c_34 => ?_) (fun c_34 => ?_)
          · have h := ox_t c_34 h
            obtain rfl := Option.some.inj h
            exact hX_28 v3_28 v4_28 v5_28 H locs ls hlp_28 hP hD hS (lv_sub hl [0, 1, 2, 3, 4] rfl)
          · have h := ox_f c_34 h
            refine lv_aload_n hx hb dX5_takeAway_37 rfl (lv_at hl 0 rfl) ?_
            refine va_get (D := D) (ci := 5) (v := .ref (ad 49)) (C := RX5) (T := TX5) (N := 27) hx hb hts hiX5 hown hK hP 0 rfl rfl 23 (by decide) hk3 (fun _ h9 => h9) rfl dX5_takeAway_38 ?_
            refine lv_iload hx hb dX5_takeAway_41 (lv_at hl 5 rfl) ?_
            obtain ⟨hi_43, h⟩ := ox_i_of h
            refine va_iald hx hb hK hP 8 0 rfl rfl hi_43 dX5_takeAway_43 ?_
            refine lv_iload_n hx hb dX5_takeAway_44 rfl (lv_at hl 2 rfl) ?_
            refine lv_icmp_ne (tgt := 89) hx hb dX5_takeAway_45 (by decide) (fun c_45 => ?_) (fun c_45 => ?_)
            · have h := ox_f c_45 h
              refine lv_iinc (v := v5_28 + 1) (lv' := [(5, .int (v5_28 + 1)), (0, .ref (ad 5)), (1, .int a1), (2, .int a2), (3, .int v3_28), (4, .int v4_28)]) hx hb dX5_takeAway_89 hl (k := 5) rfl rfl (by decide) rfl (fun ls hl => ?_)
              refine lv_goto (tgt := 28) hx hb dX5_takeAway_92 (by decide) ?_
              obtain rfl := Option.some.inj h
              exact ih_28 v3_28 v4_28 (v5_28 + 1) H locs ls hlp_28 hP hD hS (lv_sub hl [1, 2, 3, 4, 5, 0] rfl)
            · have h := ox_t c_45 h
              refine lv_aload_n hx hb dX5_takeAway_48 rfl (lv_at hl 0 rfl) ?_
              refine lv_iload_n hx hb dX5_takeAway_49 rfl (lv_at hl 1 rfl) ?_
              refine lv_iload hx hb dX5_takeAway_50 (lv_at hl 5 rfl) ?_
              obtain ⟨r_52, hc_52, h⟩ := ox_b_of h
              refine mc_callV (As := [.int a1, .int v5_28]) (rest := []) (b := ad 5) (Wc := [(kM ad M_thrown M_states M_moves M_known M_come M_lookedAt M_parts M_whole), (kI cI (ad 35) 600 M_labelOf), (kI cI (ad 37) 200 M_first), (kI cI (ad 39) 600 M_next)]) (wr := [(kI cI (ad 33) 600 M_from), (kI cI (ad 34) 600 M_to), (kI cI (ad 36) 16 M_how), (kZ cZ (ad 45) 200 M_alive), (kI cI (ad 49) 200 M_partOf)]) (W1 := [(kM ad M_thrown M_states M_moves M_known M_come M_lookedAt M_parts M_whole), (kI cI (ad 35) 600 M_labelOf), (kI cI (ad 37) 200 M_first), (kI cI (ad 39) 600 M_next)]) (wn := [(kM ad M_thrown M_states M_moves M_known M_come M_lookedAt M_parts M_whole), (kI cI (ad 33) 600 M_from), (kI cI (ad 34) 600 M_to), (kI cI (ad 35) 600 M_labelOf), (kI cI (ad 36) 16 M_how), (kI cI (ad 37) 200 M_first), (kI cI (ad 39) 600 M_next), (kZ cZ (ad 45) 200 M_alive), (kI cI (ad 49) 200 M_partOf)]) (rv := some (.int r_52)) ⟨hx, hb, hml, hown, hts⟩ (c_X5_isAble l D cI cZ ad M_thrown M_states M_moves M_known M_come M_lookedAt M_parts M_whole M_labelOf M_first M_next a1 v5_28 _ hc_52) (cwV 2 hts (gl_V wk_352 wk_353 wk_354 wk_5 wk_355) rfl rfl rfl (by decide +kernel) ⟨Nat.le_of_ble_eq_true rfl, Nat.le_of_ble_eq_true rfl⟩) hK hP hD hS hA 5 0 rfl rfl rfl [0, 3, 5, 6] [1, 2, 4, 7, 8] [5, 0, 1, 6, 2, 7, 8, 3, 4] rfl rfl (by decide) rfl (by decide) (by decide) rfl rfl (by decide) rfl rfl hl.1 (Nat.le_of_ble_eq_true rfl) dX5_takeAway_52 ⟨Nat.zero_le _, Nat.zero_le _⟩ (fun H locs hP hD hS => ?_)
              show W p l e { frames := 1, cells := 0, slots := 0, locals := 24 } s m ([.ref (ad 5), .int a1, .int a2] : List Value).toArray below meth c H locs 0 0 Q (F0 m 55 ls [.int r_52])
              refine lv_istore (lv' := [(6, .int r_52), (0, .ref (ad 5)), (1, .int a1), (2, .int a2), (3, .int v3_28), (4, .int v4_28), (5, .int v5_28)]) hx hb dX5_takeAway_55 hl (by decide) rfl (fun ls hl => ?_)
              refine lv_iload_n hx hb dX5_takeAway_57 rfl (lv_at hl 4 rfl) ?_
              refine lv_if_eq (tgt := 70) hx hb dX5_takeAway_58 (by decide) (fun c_58 => ?_) (fun c_58 => ?_)
              · have h := ox_t c_58 h
                refine lv_iconst (v := 0) hx hb dX5_takeAway_70 (by decide) ?_
                refine lv_istore_n (lv' := [(3, .int 0), (6, .int r_52), (0, .ref (ad 5)), (1, .int a1), (2, .int a2), (4, .int v4_28), (5, .int v5_28)]) hx hb dX5_takeAway_71 rfl hl (by decide) rfl (fun ls hl => ?_)
                refine lv_iload hx hb dX5_takeAway_72 (lv_at hl 5 rfl) ?_
                refine lv_if_ne (tgt := 82) hx hb dX5_takeAway_74 (by decide) (fun c_74 => ?_) (fun c_74 => ?_)
                · have h := ox_f c_74 h
                  refine lv_iconst (v := 1) hx hb dX5_takeAway_82 (by decide) ?_
                  refine lv_goto (tgt := 87) hx hb dX5_takeAway_83 (by decide) ?_
                  refine lv_istore (lv' := [(4, .int 1), (3, .int 0), (6, .int r_52), (0, .ref (ad 5)), (1, .int a1), (2, .int a2), (5, .int v5_28)]) hx hb dX5_takeAway_87 hl (by decide) rfl (fun ls hl => ?_)
                  refine lv_iinc (v := v5_28 + 1) (lv' := [(5, .int (v5_28 + 1)), (4, .int 1), (3, .int 0), (6, .int r_52), (0, .ref (ad 5)), (1, .int a1), (2, .int a2)]) hx hb dX5_takeAway_89 hl (k := 6) rfl rfl (by decide) rfl (fun ls hl => ?_)
                  refine lv_goto (tgt := 28) hx hb dX5_takeAway_92 (by decide) ?_
                  obtain rfl := Option.some.inj h
                  exact ih_28 0 1 (v5_28 + 1) H locs ls hlp_28 hP hD hS (lv_sub hl [4, 5, 6, 2, 1, 0] rfl)
                · have h := ox_t c_74 h
                  refine lv_iload hx hb dX5_takeAway_77 (lv_at hl 1 rfl) ?_
                  refine lv_if_eq (tgt := 86) hx hb dX5_takeAway_79 (by decide) (fun c_79 => ?_) (fun c_79 => ?_)
                  · have h := ox_t c_79 h
                    refine lv_iconst (v := 0) hx hb dX5_takeAway_86 (by decide) ?_
                    refine lv_istore (lv' := [(4, .int 0), (3, .int 0), (6, .int r_52), (0, .ref (ad 5)), (1, .int a1), (2, .int a2), (5, .int v5_28)]) hx hb dX5_takeAway_87 hl (by decide) rfl (fun ls hl => ?_)
                    refine lv_iinc (v := v5_28 + 1) (lv' := [(5, .int (v5_28 + 1)), (4, .int 0), (3, .int 0), (6, .int r_52), (0, .ref (ad 5)), (1, .int a1), (2, .int a2)]) hx hb dX5_takeAway_89 hl (k := 6) rfl rfl (by decide) rfl (fun ls hl => ?_)
                    refine lv_goto (tgt := 28) hx hb dX5_takeAway_92 (by decide) ?_
                    obtain rfl := Option.some.inj h
                    exact ih_28 0 0 (v5_28 + 1) H locs ls hlp_28 hP hD hS (lv_sub hl [4, 5, 6, 2, 1, 0] rfl)
                  · have h := ox_f c_79 h
                    refine lv_iconst (v := 1) hx hb dX5_takeAway_82 (by decide) ?_
                    refine lv_goto (tgt := 87) hx hb dX5_takeAway_83 (by decide) ?_
                    refine lv_istore (lv' := [(4, .int 1), (3, .int 0), (6, .int r_52), (0, .ref (ad 5)), (1, .int a1), (2, .int a2), (5, .int v5_28)]) hx hb dX5_takeAway_87 hl (by decide) rfl (fun ls hl => ?_)
                    refine lv_iinc (v := v5_28 + 1) (lv' := [(5, .int (v5_28 + 1)), (4, .int 1), (3, .int 0), (6, .int r_52), (0, .ref (ad 5)), (1, .int a1), (2, .int a2)]) hx hb dX5_takeAway_89 hl (k := 6) rfl rfl (by decide) rfl (fun ls hl => ?_)
                    refine lv_goto (tgt := 28) hx hb dX5_takeAway_92 (by decide) ?_
                    obtain rfl := Option.some.inj h
                    exact ih_28 0 1 (v5_28 + 1) H locs ls hlp_28 hP hD hS (lv_sub hl [4, 5, 6, 2, 1, 0] rfl)
              · have h := ox_f c_58 h
                refine lv_iload hx hb dX5_takeAway_61 (lv_at hl 0 rfl) ?_
                refine lv_if_eq (tgt := 70) hx hb dX5_takeAway_63 (by decide) (fun c_63 => ?_) (fun c_63 => ?_)
                · have h := ox_t c_63 h
                  refine lv_iconst (v := 0) hx hb dX5_takeAway_70 (by decide) ?_
                  refine lv_istore_n (lv' := [(3, .int 0), (6, .int r_52), (0, .ref (ad 5)), (1, .int a1), (2, .int a2), (4, .int v4_28), (5, .int v5_28)]) hx hb dX5_takeAway_71 rfl hl (by decide) rfl (fun ls hl => ?_)
                  refine lv_iload hx hb dX5_takeAway_72 (lv_at hl 5 rfl) ?_
                  refine lv_if_ne (tgt := 82) hx hb dX5_takeAway_74 (by decide) (fun c_74 => ?_) (fun c_74 => ?_)
                  · have h := ox_f c_74 h
                    refine lv_iconst (v := 1) hx hb dX5_takeAway_82 (by decide) ?_
                    refine lv_goto (tgt := 87) hx hb dX5_takeAway_83 (by decide) ?_
                    refine lv_istore (lv' := [(4, .int 1), (3, .int 0), (6, .int r_52), (0, .ref (ad 5)), (1, .int a1), (2, .int a2), (5, .int v5_28)]) hx hb dX5_takeAway_87 hl (by decide) rfl (fun ls hl => ?_)
                    refine lv_iinc (v := v5_28 + 1) (lv' := [(5, .int (v5_28 + 1)), (4, .int 1), (3, .int 0), (6, .int r_52), (0, .ref (ad 5)), (1, .int a1), (2, .int a2)]) hx hb dX5_takeAway_89 hl (k := 6) rfl rfl (by decide) rfl (fun ls hl => ?_)
                    refine lv_goto (tgt := 28) hx hb dX5_takeAway_92 (by decide) ?_
                    obtain rfl := Option.some.inj h
                    exact ih_28 0 1 (v5_28 + 1) H locs ls hlp_28 hP hD hS (lv_sub hl [4, 5, 6, 2, 1, 0] rfl)
                  · have h := ox_t c_74 h
                    refine lv_iload hx hb dX5_takeAway_77 (lv_at hl 1 rfl) ?_
                    refine lv_if_eq (tgt := 86) hx hb dX5_takeAway_79 (by decide) (fun c_79 => ?_) (fun c_79 => ?_)
                    · have h := ox_t c_79 h
                      refine lv_iconst (v := 0) hx hb dX5_takeAway_86 (by decide) ?_
                      refine lv_istore (lv' := [(4, .int 0), (3, .int 0), (6, .int r_52), (0, .ref (ad 5)), (1, .int a1), (2, .int a2), (5, .int v5_28)]) hx hb dX5_takeAway_87 hl (by decide) rfl (fun ls hl => ?_)
                      refine lv_iinc (v := v5_28 + 1) (lv' := [(5, .int (v5_28 + 1)), (4, .int 0), (3, .int 0), (6, .int r_52), (0, .ref (ad 5)), (1, .int a1), (2, .int a2)]) hx hb dX5_takeAway_89 hl (k := 6) rfl rfl (by decide) rfl (fun ls hl => ?_)
                      refine lv_goto (tgt := 28) hx hb dX5_takeAway_92 (by decide) ?_
                      obtain rfl := Option.some.inj h
                      exact ih_28 0 0 (v5_28 + 1) H locs ls hlp_28 hP hD hS (lv_sub hl [4, 5, 6, 2, 1, 0] rfl)
                    · have h := ox_f c_79 h
                      refine lv_iconst (v := 1) hx hb dX5_takeAway_82 (by decide) ?_
                      refine lv_goto (tgt := 87) hx hb dX5_takeAway_83 (by decide) ?_
                      refine lv_istore (lv' := [(4, .int 1), (3, .int 0), (6, .int r_52), (0, .ref (ad 5)), (1, .int a1), (2, .int a2), (5, .int v5_28)]) hx hb dX5_takeAway_87 hl (by decide) rfl (fun ls hl => ?_)
                      refine lv_iinc (v := v5_28 + 1) (lv' := [(5, .int (v5_28 + 1)), (4, .int 1), (3, .int 0), (6, .int r_52), (0, .ref (ad 5)), (1, .int a1), (2, .int a2)]) hx hb dX5_takeAway_89 hl (k := 6) rfl rfl (by decide) rfl (fun ls hl => ?_)
                      refine lv_goto (tgt := 28) hx hb dX5_takeAway_92 (by decide) ?_
                      obtain rfl := Option.some.inj h
                      exact ih_28 0 1 (v5_28 + 1) H locs ls hlp_28 hP hD hS (lv_sub hl [4, 5, 6, 2, 1, 0] rfl)
                · have h := ox_f c_63 h
                  refine lv_iconst (v := 1) hx hb dX5_takeAway_66 (by decide) ?_
                  refine lv_goto (tgt := 71) hx hb dX5_takeAway_67 (by decide) ?_
                  refine lv_istore_n (lv' := [(3, .int 1), (6, .int r_52), (0, .ref (ad 5)), (1, .int a1), (2, .int a2), (4, .int v4_28), (5, .int v5_28)]) hx hb dX5_takeAway_71 rfl hl (by decide) rfl (fun ls hl => ?_)
                  refine lv_iload hx hb dX5_takeAway_72 (lv_at hl 5 rfl) ?_
                  refine lv_if_ne (tgt := 82) hx hb dX5_takeAway_74 (by decide) (fun c_74 => ?_) (fun c_74 => ?_)
                  · have h := ox_f c_74 h
                    refine lv_iconst (v := 1) hx hb dX5_takeAway_82 (by decide) ?_
                    refine lv_goto (tgt := 87) hx hb dX5_takeAway_83 (by decide) ?_
                    refine lv_istore (lv' := [(4, .int 1), (3, .int 1), (6, .int r_52), (0, .ref (ad 5)), (1, .int a1), (2, .int a2), (5, .int v5_28)]) hx hb dX5_takeAway_87 hl (by decide) rfl (fun ls hl => ?_)
                    refine lv_iinc (v := v5_28 + 1) (lv' := [(5, .int (v5_28 + 1)), (4, .int 1), (3, .int 1), (6, .int r_52), (0, .ref (ad 5)), (1, .int a1), (2, .int a2)]) hx hb dX5_takeAway_89 hl (k := 6) rfl rfl (by decide) rfl (fun ls hl => ?_)
                    refine lv_goto (tgt := 28) hx hb dX5_takeAway_92 (by decide) ?_
                    obtain rfl := Option.some.inj h
                    exact ih_28 1 1 (v5_28 + 1) H locs ls hlp_28 hP hD hS (lv_sub hl [4, 5, 6, 2, 1, 0] rfl)
                  · have h := ox_t c_74 h
                    refine lv_iload hx hb dX5_takeAway_77 (lv_at hl 1 rfl) ?_
                    refine lv_if_eq (tgt := 86) hx hb dX5_takeAway_79 (by decide) (fun c_79 => ?_) (fun c_79 => ?_)
                    · have h := ox_t c_79 h
                      refine lv_iconst (v := 0) hx hb dX5_takeAway_86 (by decide) ?_
                      refine lv_istore (lv' := [(4, .int 0), (3, .int 1), (6, .int r_52), (0, .ref (ad 5)), (1, .int a1), (2, .int a2), (5, .int v5_28)]) hx hb dX5_takeAway_87 hl (by decide) rfl (fun ls hl => ?_)
                      refine lv_iinc (v := v5_28 + 1) (lv' := [(5, .int (v5_28 + 1)), (4, .int 0), (3, .int 1), (6, .int r_52), (0, .ref (ad 5)), (1, .int a1), (2, .int a2)]) hx hb dX5_takeAway_89 hl (k := 6) rfl rfl (by decide) rfl (fun ls hl => ?_)
                      refine lv_goto (tgt := 28) hx hb dX5_takeAway_92 (by decide) ?_
                      obtain rfl := Option.some.inj h
                      exact ih_28 1 0 (v5_28 + 1) H locs ls hlp_28 hP hD hS (lv_sub hl [4, 5, 6, 2, 1, 0] rfl)
                    · have h := ox_f c_79 h
                      refine lv_iconst (v := 1) hx hb dX5_takeAway_82 (by decide) ?_
                      refine lv_goto (tgt := 87) hx hb dX5_takeAway_83 (by decide) ?_
                      refine lv_istore (lv' := [(4, .int 1), (3, .int 1), (6, .int r_52), (0, .ref (ad 5)), (1, .int a1), (2, .int a2), (5, .int v5_28)]) hx hb dX5_takeAway_87 hl (by decide) rfl (fun ls hl => ?_)
                      refine lv_iinc (v := v5_28 + 1) (lv' := [(5, .int (v5_28 + 1)), (4, .int 1), (3, .int 1), (6, .int r_52), (0, .ref (ad 5)), (1, .int a1), (2, .int a2)]) hx hb dX5_takeAway_89 hl (k := 6) rfl rfl (by decide) rfl (fun ls hl => ?_)
                      refine lv_goto (tgt := 28) hx hb dX5_takeAway_92 (by decide) ?_
                      obtain rfl := Option.some.inj h
                      exact ih_28 1 1 (v5_28 + 1) H locs ls hlp_28 hP hD hS (lv_sub hl [4, 5, 6, 2, 1, 0] rfl)
      exact hL_28 1000000 1 0 0 H locs ls hex_28 hP hD hS (lv_sub hl [3, 4, 5, 2, 1, 0] rfl)
    · have h := ox_f c_15 h
      refine lv_iconst (v := 0) hx hb dX5_takeAway_18 (by decide) ?_
      have h := Option.some.inj h
      subst h
      exact hend H locs _ ls hP hD hS dX5_takeAway_19 nb_0
set_option maxHeartbeats 4000000 in
set_option maxRecDepth 100000 in
theorem c_X5_shrink (l : Launch) (D : va_G) (cI cZ : ClassId) (ad : Nat → Nat) (M_thrown : Int32) (M_states : Int32) (M_moves : Int32) (M_known : Int32) (M_come : Int32) (M_lookedAt : Int32) (M_parts : Int32) (M_whole : Int32) (M_from : Nat → Int32) (M_to : Nat → Int32) (M_labelOf : Nat → Int32) (M_how : Nat → Int32) (M_first : Nat → Int32) (M_next : Nat → Int32) (M_alive : Nat → Int32) (M_partOf : Nat → Int32) (a1 : Int32) (res : Int32 × (Nat → Int32)) (h : fn_X5_shrink M_states M_moves M_from M_to M_labelOf M_how M_first M_next M_alive M_partOf a1 = some res) : mc_C l yX5_shrink wv_X5_shrink { frames := 2, cells := 0, slots := 0, locals := 50 } D [(cI, .int), (cZ, .boolean)] [.ref (ad 5), .int a1] [(kM ad M_thrown M_states M_moves M_known M_come M_lookedAt M_parts M_whole), (kI cI (ad 33) 600 M_from), (kI cI (ad 34) 600 M_to), (kI cI (ad 35) 600 M_labelOf), (kI cI (ad 36) 16 M_how), (kI cI (ad 37) 200 M_first), (kI cI (ad 39) 600 M_next), (kZ cZ (ad 45) 200 M_alive), (kI cI (ad 49) 200 M_partOf)] (some (.int res.1)) [(kM ad M_thrown M_states M_moves M_known M_come M_lookedAt M_parts M_whole), (kI cI (ad 33) 600 M_from), (kI cI (ad 34) 600 M_to), (kI cI (ad 35) 600 M_labelOf), (kI cI (ad 36) 16 M_how), (kI cI (ad 37) 200 M_first), (kI cI (ad 39) 600 M_next), (kZ cZ (ad 45) 200 res.2), (kI cI (ad 49) 200 M_partOf)] := by
  refine mc_ofz (own := RX5) (by decide) rfl rfl (Nat.le_of_ble_eq_true rfl) ?_
  intro p e s m below meth c A Q ls hx hb hml hown hts hK hP hD hA hl hend
  have hS : va_S A s.heap s.heap [] := va_S.rf
  have hl : lv_has ls 6 [(0, .ref (ad 5)), (1, .int a1)] := hl
  obtain ⟨H, hH⟩ : ∃ H, H = s.heap := ⟨_, rfl⟩
  obtain ⟨locs, hlo⟩ : ∃ locs : List Loc, locs = [] := ⟨_, rfl⟩
  have hS : va_S A s.heap H locs := by rw [hH, hlo]; exact hS
  have hP : va_P D vwCl [(kM ad M_thrown M_states M_moves M_known M_come M_lookedAt M_parts M_whole), (kI cI (ad 33) 600 M_from), (kI cI (ad 34) 600 M_to), (kI cI (ad 35) 600 M_labelOf), (kI cI (ad 36) 16 M_how), (kI cI (ad 37) 200 M_first), (kI cI (ad 39) 600 M_next), (kZ cZ (ad 45) 200 M_alive), (kI cI (ad 49) 200 M_partOf)] H := by rw [hH]; exact hP
  suffices h9 : W p l e { frames := 2, cells := 0, slots := 0, locals := 50 } s m ([.ref (ad 5), .int a1] : List Value).toArray below meth c H locs 0 0 Q (F0 m 0 ls []) by rw [hH, hlo] at h9; exact h9
  clear hH hlo
  refine lv_iconst (v := 0) hx hb dX5_shrink_0 (by decide) ?_
  refine lv_istore_n (lv' := [(2, .int 0), (0, .ref (ad 5)), (1, .int a1)]) hx hb dX5_shrink_1 rfl hl (by decide) rfl (fun ls hl => ?_)
  refine lv_iconst (v := 0) hx hb dX5_shrink_2 (by decide) ?_
  refine lv_istore_n (lv' := [(3, .int 0), (2, .int 0), (0, .ref (ad 5)), (1, .int a1)]) hx hb dX5_shrink_3 rfl hl (by decide) rfl (fun ls hl => ?_)
  obtain ⟨ex_4, hex_4, h_4⟩ := ox_b_of h
  have hX_4 : ∀ (v2_4 : Int32) (v3_4 : Int32) (M_alive_4 : Nat → Int32) (H : Heap) (locs : List Loc) (ls : Array Slot), (v2_4, v3_4, M_alive_4) = ex_4 → va_P D vwCl [(kM ad M_thrown M_states M_moves M_known M_come M_lookedAt M_parts M_whole), (kI cI (ad 33) 600 M_from), (kI cI (ad 34) 600 M_to), (kI cI (ad 35) 600 M_labelOf), (kI cI (ad 36) 16 M_how), (kI cI (ad 37) 200 M_first), (kI cI (ad 39) 600 M_next), (kZ cZ (ad 45) 200 M_alive_4), (kI cI (ad 49) 200 M_partOf)] H → va_D A [(kM ad M_thrown M_states M_moves M_known M_come M_lookedAt M_parts M_whole), (kI cI (ad 33) 600 M_from), (kI cI (ad 34) 600 M_to), (kI cI (ad 35) 600 M_labelOf), (kI cI (ad 36) 16 M_how), (kI cI (ad 37) 200 M_first), (kI cI (ad 39) 600 M_next), (kZ cZ (ad 45) 200 M_alive_4), (kI cI (ad 49) 200 M_partOf)] → va_S A s.heap H locs → lv_has ls 6 [(2, .int v2_4)] → W p l e { frames := 2, cells := 0, slots := 0, locals := 50 } s m ([.ref (ad 5), .int a1] : List Value).toArray below meth c H locs 0 0 Q (F0 m 63 ls []) := by
    intro v2_4 v3_4 M_alive_4 H locs ls hex_4 hP hD hS hl
    subst hex_4
    have h := h_4
    refine lv_iload_n hx hb dX5_shrink_63 rfl (lv_at hl 0 rfl) ?_
    obtain ⟨hz_64, h⟩ := ox_z_of h
    have h := Option.some.inj h
    subst h
    exact hend H locs _ ls hP hD hS dX5_shrink_64 hz_64
  have hL_4 : ∀ (n : Nat) (v2_4 : Int32) (v3_4 : Int32) (M_alive_4 : Nat → Int32) (H : Heap) (locs : List Loc) (ls : Array Slot), ox_l (fn_X5_shrink_l4 a1 M_states M_moves M_from M_to M_labelOf M_how M_first M_next M_partOf) n (v2_4, v3_4, M_alive_4) = some ex_4 → va_P D vwCl [(kM ad M_thrown M_states M_moves M_known M_come M_lookedAt M_parts M_whole), (kI cI (ad 33) 600 M_from), (kI cI (ad 34) 600 M_to), (kI cI (ad 35) 600 M_labelOf), (kI cI (ad 36) 16 M_how), (kI cI (ad 37) 200 M_first), (kI cI (ad 39) 600 M_next), (kZ cZ (ad 45) 200 M_alive_4), (kI cI (ad 49) 200 M_partOf)] H → va_D A [(kM ad M_thrown M_states M_moves M_known M_come M_lookedAt M_parts M_whole), (kI cI (ad 33) 600 M_from), (kI cI (ad 34) 600 M_to), (kI cI (ad 35) 600 M_labelOf), (kI cI (ad 36) 16 M_how), (kI cI (ad 37) 200 M_first), (kI cI (ad 39) 600 M_next), (kZ cZ (ad 45) 200 M_alive_4), (kI cI (ad 49) 200 M_partOf)] → va_S A s.heap H locs → lv_has ls 6 [(0, .ref (ad 5)), (1, .int a1), (2, .int v2_4), (3, .int v3_4)] → W p l e { frames := 2, cells := 0, slots := 0, locals := 50 } s m ([.ref (ad 5), .int a1] : List Value).toArray below meth c H locs 0 0 Q (F0 m 4 ls []) := by
    intro n
    induction n with
    | zero => intro v2_4 v3_4 M_alive_4 H locs ls hlp; exact ox_l_0 hlp
    | succ n ih_4 =>
      intro v2_4 v3_4 M_alive_4 H locs ls hlp_4 hP hD hS hl
      obtain ⟨z_4, h, hlp_4⟩ := ox_l_of hlp_4
      refine lv_iload_n hx hb dX5_shrink_4 rfl (lv_at hl 3 rfl) ?_
      refine lv_iload_n hx hb dX5_shrink_5 rfl (lv_at hl 1 rfl) ?_
      refine lv_icmp_ge (tgt := 63) hx hb dX5_shrink_6 (by decide) (fun c_6 => ?_) (fun c_6 => ?_)
      · have h := ox_t c_6 h
        obtain rfl := Option.some.inj h
        exact hX_4 v2_4 v3_4 M_alive_4 H locs ls hlp_4 hP hD hS (lv_sub hl [2] rfl)
      · have h := ox_f c_6 h
        refine lv_iconst (v := 0) hx hb dX5_shrink_9 (by decide) ?_
        refine lv_istore (lv' := [(4, .int 0), (0, .ref (ad 5)), (1, .int a1), (2, .int v2_4), (3, .int v3_4)]) hx hb dX5_shrink_10 hl (by decide) rfl (fun ls hl => ?_)
        refine lv_iconst (v := 0) hx hb dX5_shrink_12 (by decide) ?_
        refine lv_istore (lv' := [(5, .int 0), (4, .int 0), (0, .ref (ad 5)), (1, .int a1), (2, .int v2_4), (3, .int v3_4)]) hx hb dX5_shrink_13 hl (by decide) rfl (fun ls hl => ?_)
        obtain ⟨ex_15, hex_15, h_15⟩ := ox_b_of h
        have hX_15 : ∀ (v4_15 : Int32) (v5_15 : Int32) (M_alive_15 : Nat → Int32) (H : Heap) (locs : List Loc) (ls : Array Slot), (v4_15, v5_15, M_alive_15) = ex_15 → va_P D vwCl [(kM ad M_thrown M_states M_moves M_known M_come M_lookedAt M_parts M_whole), (kI cI (ad 33) 600 M_from), (kI cI (ad 34) 600 M_to), (kI cI (ad 35) 600 M_labelOf), (kI cI (ad 36) 16 M_how), (kI cI (ad 37) 200 M_first), (kI cI (ad 39) 600 M_next), (kZ cZ (ad 45) 200 M_alive_15), (kI cI (ad 49) 200 M_partOf)] H → va_D A [(kM ad M_thrown M_states M_moves M_known M_come M_lookedAt M_parts M_whole), (kI cI (ad 33) 600 M_from), (kI cI (ad 34) 600 M_to), (kI cI (ad 35) 600 M_labelOf), (kI cI (ad 36) 16 M_how), (kI cI (ad 37) 200 M_first), (kI cI (ad 39) 600 M_next), (kZ cZ (ad 45) 200 M_alive_15), (kI cI (ad 49) 200 M_partOf)] → va_S A s.heap H locs → lv_has ls 6 [(0, .ref (ad 5)), (1, .int a1), (2, .int v2_4), (3, .int v3_4), (4, .int v4_15)] → W p l e { frames := 2, cells := 0, slots := 0, locals := 50 } s m ([.ref (ad 5), .int a1] : List Value).toArray below meth c H locs 0 0 Q (F0 m 42 ls []) := by
          intro v4_15 v5_15 M_alive_15 H locs ls hex_15 hP hD hS hl
          subst hex_15
          have h := h_15
          refine lv_iload_n hx hb dX5_shrink_42 rfl (lv_at hl 2 rfl) ?_
          refine lv_if_ne (tgt := 51) hx hb dX5_shrink_43 (by decide) (fun c_43 => ?_) (fun c_43 => ?_)
          · have h := ox_f c_43 h
            refine lv_iconst (v := 1) hx hb dX5_shrink_51 (by decide) ?_
            refine lv_goto (tgt := 56) hx hb dX5_shrink_52 (by decide) ?_
            refine lv_istore_n (lv' := [(2, .int 1), (0, .ref (ad 5)), (1, .int a1), (3, .int v3_4), (4, .int v4_15)]) hx hb dX5_shrink_56 rfl hl (by decide) rfl (fun ls hl => ?_)
            refine lv_iinc (v := v3_4 + 1) (lv' := [(3, .int (v3_4 + 1)), (2, .int 1), (0, .ref (ad 5)), (1, .int a1), (4, .int v4_15)]) hx hb dX5_shrink_57 hl (k := 3) rfl rfl (by decide) rfl (fun ls hl => ?_)
            refine lv_goto (tgt := 4) hx hb dX5_shrink_60 (by decide) ?_
            obtain rfl := Option.some.inj h
            exact ih_4 1 (v3_4 + 1) M_alive_15 H locs ls hlp_4 hP hD hS (lv_sub hl [2, 3, 1, 0] rfl)
          · have h := ox_t c_43 h
            refine lv_iload hx hb dX5_shrink_46 (lv_at hl 4 rfl) ?_
            refine lv_if_eq (tgt := 55) hx hb dX5_shrink_48 (by decide) (fun c_48 => ?_) (fun c_48 => ?_)
            · have h := ox_t c_48 h
              refine lv_iconst (v := 0) hx hb dX5_shrink_55 (by decide) ?_
              refine lv_istore_n (lv' := [(2, .int 0), (0, .ref (ad 5)), (1, .int a1), (3, .int v3_4), (4, .int v4_15)]) hx hb dX5_shrink_56 rfl hl (by decide) rfl (fun ls hl => ?_)
              refine lv_iinc (v := v3_4 + 1) (lv' := [(3, .int (v3_4 + 1)), (2, .int 0), (0, .ref (ad 5)), (1, .int a1), (4, .int v4_15)]) hx hb dX5_shrink_57 hl (k := 3) rfl rfl (by decide) rfl (fun ls hl => ?_)
              refine lv_goto (tgt := 4) hx hb dX5_shrink_60 (by decide) ?_
              obtain rfl := Option.some.inj h
              exact ih_4 0 (v3_4 + 1) M_alive_15 H locs ls hlp_4 hP hD hS (lv_sub hl [2, 3, 1, 0] rfl)
            · have h := ox_f c_48 h
              refine lv_iconst (v := 1) hx hb dX5_shrink_51 (by decide) ?_
              refine lv_goto (tgt := 56) hx hb dX5_shrink_52 (by decide) ?_
              refine lv_istore_n (lv' := [(2, .int 1), (0, .ref (ad 5)), (1, .int a1), (3, .int v3_4), (4, .int v4_15)]) hx hb dX5_shrink_56 rfl hl (by decide) rfl (fun ls hl => ?_)
              refine lv_iinc (v := v3_4 + 1) (lv' := [(3, .int (v3_4 + 1)), (2, .int 1), (0, .ref (ad 5)), (1, .int a1), (4, .int v4_15)]) hx hb dX5_shrink_57 hl (k := 3) rfl rfl (by decide) rfl (fun ls hl => ?_)
              refine lv_goto (tgt := 4) hx hb dX5_shrink_60 (by decide) ?_
              obtain rfl := Option.some.inj h
              exact ih_4 1 (v3_4 + 1) M_alive_15 H locs ls hlp_4 hP hD hS (lv_sub hl [2, 3, 1, 0] rfl)
        have hL_15 : ∀ (n : Nat) (v4_15 : Int32) (v5_15 : Int32) (M_alive_15 : Nat → Int32) (H : Heap) (locs : List Loc) (ls : Array Slot), ox_l (fn_X5_shrink_l15 M_states M_moves M_from M_to M_labelOf M_how M_first M_next M_partOf v3_4) n (v4_15, v5_15, M_alive_15) = some ex_15 → va_P D vwCl [(kM ad M_thrown M_states M_moves M_known M_come M_lookedAt M_parts M_whole), (kI cI (ad 33) 600 M_from), (kI cI (ad 34) 600 M_to), (kI cI (ad 35) 600 M_labelOf), (kI cI (ad 36) 16 M_how), (kI cI (ad 37) 200 M_first), (kI cI (ad 39) 600 M_next), (kZ cZ (ad 45) 200 M_alive_15), (kI cI (ad 49) 200 M_partOf)] H → va_D A [(kM ad M_thrown M_states M_moves M_known M_come M_lookedAt M_parts M_whole), (kI cI (ad 33) 600 M_from), (kI cI (ad 34) 600 M_to), (kI cI (ad 35) 600 M_labelOf), (kI cI (ad 36) 16 M_how), (kI cI (ad 37) 200 M_first), (kI cI (ad 39) 600 M_next), (kZ cZ (ad 45) 200 M_alive_15), (kI cI (ad 49) 200 M_partOf)] → va_S A s.heap H locs → lv_has ls 6 [(0, .ref (ad 5)), (1, .int a1), (2, .int v2_4), (3, .int v3_4), (4, .int v4_15), (5, .int v5_15)] → W p l e { frames := 2, cells := 0, slots := 0, locals := 50 } s m ([.ref (ad 5), .int a1] : List Value).toArray below meth c H locs 0 0 Q (F0 m 15 ls []) := by
          intro n
          induction n with
          | zero => intro v4_15 v5_15 M_alive_15 H locs ls hlp; exact ox_l_0 hlp
          | succ n ih_15 =>
            intro v4_15 v5_15 M_alive_15 H locs ls hlp_15 hP hD hS hl
            obtain ⟨z_15, h, hlp_15⟩ := ox_l_of hlp_15
            refine lv_iload hx hb dX5_shrink_15 (lv_at hl 5 rfl) ?_
            refine lv_bipush (v := 16) hx hb dX5_shrink_17 (by decide) ?_
            refine lv_icmp_ge (tgt := 42) hx hb dX5_shrink_19 (by decide) (fun c_19 => ?_) (fun c_19 => ?_)
            · have h := ox_t c_19 h
              obtain rfl := Option.some.inj h
              exact hX_15 v4_15 v5_15 M_alive_15 H locs ls hlp_15 hP hD hS (lv_sub hl [0, 1, 2, 3, 4] rfl)
            · have h := ox_f c_19 h
              refine lv_iload hx hb dX5_shrink_22 (lv_at hl 4 rfl) ?_
              refine lv_if_ne (tgt := 42) hx hb dX5_shrink_24 (by decide) (fun c_24 => ?_) (fun c_24 => ?_)
              · have h := ox_f c_24 h
                obtain rfl := Option.some.inj h
                exact hX_15 v4_15 v5_15 M_alive_15 H locs ls hlp_15 hP hD hS (lv_sub hl [0, 1, 2, 3, 4] rfl)
              · have h := ox_t c_24 h
                refine lv_aload_n hx hb dX5_shrink_27 rfl (lv_at hl 0 rfl) ?_
                refine lv_iload hx hb dX5_shrink_28 (lv_at hl 5 rfl) ?_
                refine lv_iload_n hx hb dX5_shrink_30 rfl (lv_at hl 3 rfl) ?_
                obtain ⟨⟨r_31, M_alive_31⟩, hc_31, h⟩ := ox_b_of h
                refine mc_callV (As := [.int v5_15, .int v3_4]) (rest := []) (b := ad 5) (Wc := [(kM ad M_thrown M_states M_moves M_known M_come M_lookedAt M_parts M_whole), (kI cI (ad 33) 600 M_from), (kI cI (ad 34) 600 M_to), (kI cI (ad 35) 600 M_labelOf), (kI cI (ad 36) 16 M_how), (kI cI (ad 37) 200 M_first), (kI cI (ad 39) 600 M_next), (kZ cZ (ad 45) 200 M_alive_15), (kI cI (ad 49) 200 M_partOf)]) (wr := []) (W1 := [(kM ad M_thrown M_states M_moves M_known M_come M_lookedAt M_parts M_whole), (kI cI (ad 33) 600 M_from), (kI cI (ad 34) 600 M_to), (kI cI (ad 35) 600 M_labelOf), (kI cI (ad 36) 16 M_how), (kI cI (ad 37) 200 M_first), (kI cI (ad 39) 600 M_next), (kZ cZ (ad 45) 200 M_alive_31), (kI cI (ad 49) 200 M_partOf)]) (wn := [(kM ad M_thrown M_states M_moves M_known M_come M_lookedAt M_parts M_whole), (kI cI (ad 33) 600 M_from), (kI cI (ad 34) 600 M_to), (kI cI (ad 35) 600 M_labelOf), (kI cI (ad 36) 16 M_how), (kI cI (ad 37) 200 M_first), (kI cI (ad 39) 600 M_next), (kZ cZ (ad 45) 200 M_alive_31), (kI cI (ad 49) 200 M_partOf)]) (rv := some (.int r_31)) ⟨hx, hb, hml, hown, hts⟩ (c_X5_takeAway l D cI cZ ad M_thrown M_states M_moves M_known M_come M_lookedAt M_parts M_whole M_from M_to M_labelOf M_how M_first M_next M_alive_15 M_partOf v5_15 v3_4 _ hc_31) (cwV 2 hts (gl_V wk_344 wk_345 wk_346 wk_5 wk_347) rfl rfl rfl (by decide +kernel) ⟨Nat.le_of_ble_eq_true rfl, Nat.le_of_ble_eq_true rfl⟩) hK hP hD hS hA 5 0 rfl rfl rfl [0, 1, 2, 3, 4, 5, 6, 7, 8] [] [0, 1, 2, 3, 4, 5, 6, 7, 8] rfl rfl (by decide) rfl (by decide) (by decide) rfl rfl (by decide) rfl rfl hl.1 (Nat.le_of_ble_eq_true rfl) dX5_shrink_31 ⟨Nat.zero_le _, Nat.zero_le _⟩ (fun H locs hP hD hS => ?_)
                show W p l e { frames := 2, cells := 0, slots := 0, locals := 50 } s m ([.ref (ad 5), .int a1] : List Value).toArray below meth c H locs 0 0 Q (F0 m 34 ls [.int r_31])
                refine lv_istore (lv' := [(4, .int r_31), (0, .ref (ad 5)), (1, .int a1), (2, .int v2_4), (3, .int v3_4), (5, .int v5_15)]) hx hb dX5_shrink_34 hl (by decide) rfl (fun ls hl => ?_)
                refine lv_iinc (v := v5_15 + 1) (lv' := [(5, .int (v5_15 + 1)), (4, .int r_31), (0, .ref (ad 5)), (1, .int a1), (2, .int v2_4), (3, .int v3_4)]) hx hb dX5_shrink_36 hl (k := 5) rfl rfl (by decide) rfl (fun ls hl => ?_)
                refine lv_goto (tgt := 15) hx hb dX5_shrink_39 (by decide) ?_
                obtain rfl := Option.some.inj h
                exact ih_15 r_31 (v5_15 + 1) M_alive_31 H locs ls hlp_15 hP hD hS (lv_sub hl [2, 3, 4, 5, 1, 0] rfl)
        exact hL_15 1000000 0 0 M_alive_4 H locs ls hex_15 hP hD hS (lv_sub hl [2, 3, 4, 5, 1, 0] rfl)
  exact hL_4 1000000 0 0 M_alive H locs ls hex_4 hP hD hS (lv_sub hl [2, 3, 1, 0] rfl)
set_option maxHeartbeats 4000000 in
set_option maxRecDepth 100000 in
theorem c_X5_look (l : Launch) (D : va_G) (cI cZ : ClassId) (ad : Nat → Nat) (M_thrown : Int32) (M_states : Int32) (M_moves : Int32) (M_known : Int32) (M_come : Int32) (M_lookedAt : Int32) (M_parts : Int32) (M_whole : Int32) (M_asks : Nat → Int32) (M_from : Nat → Int32) (M_to : Nat → Int32) (M_labelOf : Nat → Int32) (M_how : Nat → Int32) (M_first : Nat → Int32) (M_next : Nat → Int32) (M_queue : Nat → Int32) (M_by : Nat → Int32) (M_isReached : Nat → Int32) (M_alive : Nat → Int32) (M_reach : Nat → Int32) (M_its : Nat → Int32) (M_partOf : Nat → Int32) (a1 : Int32) (res : Int32 × Int32 × Int32 × Int32 × Int32 × (Nat → Int32) × (Nat → Int32) × (Nat → Int32) × (Nat → Int32) × (Nat → Int32) × (Nat → Int32) × (Nat → Int32)) (h : fn_X5_look M_states M_moves M_known M_come M_lookedAt M_parts M_whole M_asks M_from M_to M_labelOf M_how M_first M_next M_queue M_by M_isReached M_alive M_reach M_its M_partOf a1 = some res) : mc_C l yX5_look wv_X5_look { frames := 3, cells := 0, slots := 0, locals := 75 } D [(cI, .int), (cZ, .boolean)] [.ref (ad 5), .int a1] [(kM ad M_thrown M_states M_moves M_known M_come M_lookedAt M_parts M_whole), (kI cI (ad 32) 200 M_asks), (kI cI (ad 33) 600 M_from), (kI cI (ad 34) 600 M_to), (kI cI (ad 35) 600 M_labelOf), (kI cI (ad 36) 16 M_how), (kI cI (ad 37) 200 M_first), (kI cI (ad 39) 600 M_next), (kI cI (ad 41) 200 M_queue), (kI cI (ad 42) 200 M_by), (kZ cZ (ad 44) 200 M_isReached), (kZ cZ (ad 45) 200 M_alive), (kZ cZ (ad 46) 40000 M_reach), (kZ cZ (ad 47) 200 M_its), (kI cI (ad 49) 200 M_partOf)] (none) [(kM ad M_thrown M_states M_moves res.1 res.2.1 res.2.2.1 res.2.2.2.1 res.2.2.2.2.1), (kI cI (ad 32) 200 M_asks), (kI cI (ad 33) 600 M_from), (kI cI (ad 34) 600 M_to), (kI cI (ad 35) 600 M_labelOf), (kI cI (ad 36) 16 M_how), (kI cI (ad 37) 200 M_first), (kI cI (ad 39) 600 M_next), (kI cI (ad 41) 200 res.2.2.2.2.2.1), (kI cI (ad 42) 200 res.2.2.2.2.2.2.1), (kZ cZ (ad 44) 200 res.2.2.2.2.2.2.2.1), (kZ cZ (ad 45) 200 res.2.2.2.2.2.2.2.2.1), (kZ cZ (ad 46) 40000 res.2.2.2.2.2.2.2.2.2.1), (kZ cZ (ad 47) 200 res.2.2.2.2.2.2.2.2.2.2.1), (kI cI (ad 49) 200 res.2.2.2.2.2.2.2.2.2.2.2)] := by
  refine mc_ofv (own := RX5) (by decide) rfl rfl (Nat.le_of_ble_eq_true rfl) ?_
  intro p e s m below meth c A Q ls hx hb hml hown hts hK hP hD hA hl hend
  have hS : va_S A s.heap s.heap [] := va_S.rf
  have hl : lv_has ls 6 [(0, .ref (ad 5)), (1, .int a1)] := hl
  obtain ⟨H, hH⟩ : ∃ H, H = s.heap := ⟨_, rfl⟩
  obtain ⟨locs, hlo⟩ : ∃ locs : List Loc, locs = [] := ⟨_, rfl⟩
  have hS : va_S A s.heap H locs := by rw [hH, hlo]; exact hS
  have hP : va_P D vwCl [(kM ad M_thrown M_states M_moves M_known M_come M_lookedAt M_parts M_whole), (kI cI (ad 32) 200 M_asks), (kI cI (ad 33) 600 M_from), (kI cI (ad 34) 600 M_to), (kI cI (ad 35) 600 M_labelOf), (kI cI (ad 36) 16 M_how), (kI cI (ad 37) 200 M_first), (kI cI (ad 39) 600 M_next), (kI cI (ad 41) 200 M_queue), (kI cI (ad 42) 200 M_by), (kZ cZ (ad 44) 200 M_isReached), (kZ cZ (ad 45) 200 M_alive), (kZ cZ (ad 46) 40000 M_reach), (kZ cZ (ad 47) 200 M_its), (kI cI (ad 49) 200 M_partOf)] H := by rw [hH]; exact hP
  suffices h9 : W p l e { frames := 3, cells := 0, slots := 0, locals := 75 } s m ([.ref (ad 5), .int a1] : List Value).toArray below meth c H locs 0 0 Q (F0 m 0 ls []) by rw [hH, hlo] at h9; exact h9
  clear hH hlo
  have hiX5 : ∀ w ∈ wsX50, w ∈ wv_X5_look := fun w h => List.mem_cons_of_mem _ (inlX5 w h)
  have hk0 := hts (.fieldLink RX5 50 "FairLoopsModel" "lookedAt" "I") (List.mem_cons_of_mem _ wk_86)
  have hk1 := hts (.fieldLink RX5 123 "FairLoopsModel" "whole" "I") (List.mem_cons_of_mem _ wk_323)
  have hk2 := hts (.fieldLink RX5 129 "FairLoopsModel" "parts" "I") (List.mem_cons_of_mem _ wk_318)
  have hk3 := hts (.fieldLink RX5 76 "FairLoopsModel" "known" "Z") (List.mem_cons_of_mem _ wk_126)
  have hk4 := hts (.fieldLink RX5 80 "FairLoopsModel" "states" "I") (List.mem_cons_of_mem _ wk_120)
  have hk5 := hts (.fieldLink RX5 67 "FairLoopsModel" "partOf" "[I") (List.mem_cons_of_mem _ wk_92)
  have hk6 := hts (.fieldLink RX5 61 "FairLoopsModel" "its" "[Z") (List.mem_cons_of_mem _ wk_90)
  have hk7 := hts (.fieldLink RX5 47 "FairLoopsModel" "isReached" "[Z") (List.mem_cons_of_mem _ wk_85)
  have hk8 := hts (.fieldLink RX5 54 "FairLoopsModel" "alive" "[Z") (List.mem_cons_of_mem _ wk_87)
  have hk9 := hts (.fieldLink RX5 7 "FairLoopsModel" "asks" "[I") (List.mem_cons_of_mem _ wk_73)
  refine lv_aload_n hx hb dX5_look_0 rfl (lv_at hl 0 rfl) ?_
  refine va_get (D := D) (ci := 5) (v := .int M_lookedAt) (C := RX5) (T := TX5) (N := 27) hx hb hts hiX5 hown hK hP 0 rfl rfl 18 (by decide) hk0 (fun _ h9 => h9) rfl dX5_look_1 ?_
  refine lv_iload_n hx hb dX5_look_4 rfl (lv_at hl 1 rfl) ?_
  refine lv_icmp_ne (tgt := 9) hx hb dX5_look_5 (by decide) (fun c_5 => ?_) (fun c_5 => ?_)
  · have h := ox_f c_5 h
    refine lv_aload_n hx hb dX5_look_9 rfl (lv_at hl 0 rfl) ?_
    obtain ⟨⟨M_known_10, M_come_10, M_queue_10, M_by_10, M_isReached_10⟩, hc_10, h⟩ := ox_b_of h
    refine mc_callV (As := []) (rest := []) (b := ad 5) (Wc := [(kM ad M_thrown M_states M_moves M_known M_come M_lookedAt M_parts M_whole), (kI cI (ad 34) 600 M_to), (kI cI (ad 37) 200 M_first), (kI cI (ad 39) 600 M_next), (kI cI (ad 41) 200 M_queue), (kI cI (ad 42) 200 M_by), (kZ cZ (ad 44) 200 M_isReached)]) (wr := [(kI cI (ad 32) 200 M_asks), (kI cI (ad 33) 600 M_from), (kI cI (ad 35) 600 M_labelOf), (kI cI (ad 36) 16 M_how), (kZ cZ (ad 45) 200 M_alive), (kZ cZ (ad 46) 40000 M_reach), (kZ cZ (ad 47) 200 M_its), (kI cI (ad 49) 200 M_partOf)]) (W1 := [(kM ad M_thrown M_states M_moves M_known_10 M_come_10 M_lookedAt M_parts M_whole), (kI cI (ad 34) 600 M_to), (kI cI (ad 37) 200 M_first), (kI cI (ad 39) 600 M_next), (kI cI (ad 41) 200 M_queue_10), (kI cI (ad 42) 200 M_by_10), (kZ cZ (ad 44) 200 M_isReached_10)]) (wn := [(kM ad M_thrown M_states M_moves M_known_10 M_come_10 M_lookedAt M_parts M_whole), (kI cI (ad 32) 200 M_asks), (kI cI (ad 33) 600 M_from), (kI cI (ad 34) 600 M_to), (kI cI (ad 35) 600 M_labelOf), (kI cI (ad 36) 16 M_how), (kI cI (ad 37) 200 M_first), (kI cI (ad 39) 600 M_next), (kI cI (ad 41) 200 M_queue_10), (kI cI (ad 42) 200 M_by_10), (kZ cZ (ad 44) 200 M_isReached_10), (kZ cZ (ad 45) 200 M_alive), (kZ cZ (ad 46) 40000 M_reach), (kZ cZ (ad 47) 200 M_its), (kI cI (ad 49) 200 M_partOf)]) (rv := none) ⟨hx, hb, hml, hown, hts⟩ (c_X5_walk l D cI cZ ad M_thrown M_states M_moves M_known M_come M_lookedAt M_parts M_whole M_to M_first M_next M_queue M_by M_isReached  _ hc_10) (cwV 0 hts (gl_V wk_196 wk_197 wk_198 wk_5 wk_199) rfl rfl rfl (by decide +kernel) ⟨Nat.le_of_ble_eq_true rfl, Nat.le_of_ble_eq_true rfl⟩) hK hP hD hS hA 5 0 rfl rfl rfl [0, 3, 6, 7, 8, 9, 10] [1, 2, 4, 5, 11, 12, 13, 14] [8, 0, 1, 9, 2, 3, 10, 11, 12, 13, 14, 4, 5, 6, 7] rfl rfl (by decide) rfl (by decide) (by decide) rfl rfl (by decide) rfl rfl hl.1 (Nat.le_of_ble_eq_true rfl) dX5_look_10 ⟨Nat.zero_le _, Nat.zero_le _⟩ (fun H locs hP hD hS => ?_)
    show W p l e { frames := 3, cells := 0, slots := 0, locals := 75 } s m ([.ref (ad 5), .int a1] : List Value).toArray below meth c H locs 0 0 Q (F0 m 13 ls [])
    refine lv_iconst (v := 0) hx hb dX5_look_13 (by decide) ?_
    refine lv_istore_n (lv' := [(2, .int 0), (0, .ref (ad 5)), (1, .int a1)]) hx hb dX5_look_14 rfl hl (by decide) rfl (fun ls hl => ?_)
    obtain ⟨ex_15, hex_15, h_15⟩ := ox_b_of h
    have hX_15 : ∀ (v2_15 : Int32) (M_alive_15 : Nat → Int32) (M_its_15 : Nat → Int32) (H : Heap) (locs : List Loc) (ls : Array Slot), (v2_15, M_alive_15, M_its_15) = ex_15 → va_P D vwCl [(kM ad M_thrown M_states M_moves M_known_10 M_come_10 M_lookedAt M_parts M_whole), (kI cI (ad 32) 200 M_asks), (kI cI (ad 33) 600 M_from), (kI cI (ad 34) 600 M_to), (kI cI (ad 35) 600 M_labelOf), (kI cI (ad 36) 16 M_how), (kI cI (ad 37) 200 M_first), (kI cI (ad 39) 600 M_next), (kI cI (ad 41) 200 M_queue_10), (kI cI (ad 42) 200 M_by_10), (kZ cZ (ad 44) 200 M_isReached_10), (kZ cZ (ad 45) 200 M_alive_15), (kZ cZ (ad 46) 40000 M_reach), (kZ cZ (ad 47) 200 M_its_15), (kI cI (ad 49) 200 M_partOf)] H → va_D A [(kM ad M_thrown M_states M_moves M_known_10 M_come_10 M_lookedAt M_parts M_whole), (kI cI (ad 32) 200 M_asks), (kI cI (ad 33) 600 M_from), (kI cI (ad 34) 600 M_to), (kI cI (ad 35) 600 M_labelOf), (kI cI (ad 36) 16 M_how), (kI cI (ad 37) 200 M_first), (kI cI (ad 39) 600 M_next), (kI cI (ad 41) 200 M_queue_10), (kI cI (ad 42) 200 M_by_10), (kZ cZ (ad 44) 200 M_isReached_10), (kZ cZ (ad 45) 200 M_alive_15), (kZ cZ (ad 46) 40000 M_reach), (kZ cZ (ad 47) 200 M_its_15), (kI cI (ad 49) 200 M_partOf)] → va_S A s.heap H locs → lv_has ls 6 [(0, .ref (ad 5)), (1, .int a1)] → W p l e { frames := 3, cells := 0, slots := 0, locals := 75 } s m ([.ref (ad 5), .int a1] : List Value).toArray below meth c H locs 0 0 Q (F0 m 75 ls []) := by
      intro v2_15 M_alive_15 M_its_15 H locs ls hex_15 hP hD hS hl
      subst hex_15
      have h := h_15
      refine lv_aload_n hx hb dX5_look_75 rfl (lv_at hl 0 rfl) ?_
      obtain ⟨⟨r_76, M_queue_76, M_alive_76, M_reach_76, M_partOf_76⟩, hc_76, h⟩ := ox_b_of h
      refine mc_callV (As := []) (rest := []) (b := ad 5) (Wc := [(kM ad M_thrown M_states M_moves M_known_10 M_come_10 M_lookedAt M_parts M_whole), (kI cI (ad 34) 600 M_to), (kI cI (ad 37) 200 M_first), (kI cI (ad 39) 600 M_next), (kI cI (ad 41) 200 M_queue_10), (kZ cZ (ad 45) 200 M_alive_15), (kZ cZ (ad 46) 40000 M_reach), (kI cI (ad 49) 200 M_partOf)]) (wr := [(kI cI (ad 32) 200 M_asks), (kI cI (ad 33) 600 M_from), (kI cI (ad 35) 600 M_labelOf), (kI cI (ad 36) 16 M_how), (kI cI (ad 42) 200 M_by_10), (kZ cZ (ad 44) 200 M_isReached_10), (kZ cZ (ad 47) 200 M_its_15)]) (W1 := [(kM ad M_thrown M_states M_moves M_known_10 M_come_10 M_lookedAt M_parts M_whole), (kI cI (ad 34) 600 M_to), (kI cI (ad 37) 200 M_first), (kI cI (ad 39) 600 M_next), (kI cI (ad 41) 200 M_queue_76), (kZ cZ (ad 45) 200 M_alive_76), (kZ cZ (ad 46) 40000 M_reach_76), (kI cI (ad 49) 200 M_partOf_76)]) (wn := [(kM ad M_thrown M_states M_moves M_known_10 M_come_10 M_lookedAt M_parts M_whole), (kI cI (ad 32) 200 M_asks), (kI cI (ad 33) 600 M_from), (kI cI (ad 34) 600 M_to), (kI cI (ad 35) 600 M_labelOf), (kI cI (ad 36) 16 M_how), (kI cI (ad 37) 200 M_first), (kI cI (ad 39) 600 M_next), (kI cI (ad 41) 200 M_queue_76), (kI cI (ad 42) 200 M_by_10), (kZ cZ (ad 44) 200 M_isReached_10), (kZ cZ (ad 45) 200 M_alive_76), (kZ cZ (ad 46) 40000 M_reach_76), (kZ cZ (ad 47) 200 M_its_15), (kI cI (ad 49) 200 M_partOf_76)]) (rv := some (.int r_76)) ⟨hx, hb, hml, hown, hts⟩ (c_X5_divide l D cI cZ ad M_thrown M_states M_moves M_known_10 M_come_10 M_lookedAt M_parts M_whole M_to M_first M_next M_queue_10 M_alive_15 M_reach M_partOf  _ hc_76) (cwV 0 hts (gl_V wk_324 wk_325 wk_326 wk_5 wk_327) rfl rfl rfl (by decide +kernel) ⟨Nat.le_of_ble_eq_true rfl, Nat.le_of_ble_eq_true rfl⟩) hK hP hD hS hA 5 0 rfl rfl rfl [0, 3, 6, 7, 8, 11, 12, 14] [1, 2, 4, 5, 9, 10, 13] [7, 0, 1, 8, 2, 3, 9, 10, 11, 4, 5, 12, 13, 6, 14] rfl rfl (by decide) rfl (by decide) (by decide) rfl rfl (by decide) rfl rfl hl.1 (Nat.le_of_ble_eq_true rfl) dX5_look_76 ⟨Nat.zero_le _, Nat.zero_le _⟩ (fun H locs hP hD hS => ?_)
      show W p l e { frames := 3, cells := 0, slots := 0, locals := 75 } s m ([.ref (ad 5), .int a1] : List Value).toArray below meth c H locs 0 0 Q (F0 m 79 ls [.int r_76])
      refine lv_istore_n (lv' := [(2, .int r_76), (0, .ref (ad 5)), (1, .int a1)]) hx hb dX5_look_79 rfl hl (by decide) rfl (fun ls hl => ?_)
      refine lv_aload_n hx hb dX5_look_80 rfl (lv_at hl 1 rfl) ?_
      refine lv_iconst (v := 0) hx hb dX5_look_81 (by decide) ?_
      refine va_put (D := D) (ci := 5) (v := .int 0) (ty := .int) (C := RX5) (T := TX5) (N := 27) hx hb hts hiX5 tyX5 tyX5_ok nmX5 hown hK hP hD hS 0 rfl rfl 25 (by decide) hk1 (fun _ h9 => h9) rfl (by decide +kernel) rfl rfl (Nat.le_of_ble_eq_true rfl) dX5_look_82 (fun H locs hP hD hS => ?_)
      have hP : va_P D vwCl [(kM ad M_thrown M_states M_moves M_known_10 M_come_10 M_lookedAt M_parts 0), (kI cI (ad 32) 200 M_asks), (kI cI (ad 33) 600 M_from), (kI cI (ad 34) 600 M_to), (kI cI (ad 35) 600 M_labelOf), (kI cI (ad 36) 16 M_how), (kI cI (ad 37) 200 M_first), (kI cI (ad 39) 600 M_next), (kI cI (ad 41) 200 M_queue_76), (kI cI (ad 42) 200 M_by_10), (kZ cZ (ad 44) 200 M_isReached_10), (kZ cZ (ad 45) 200 M_alive_76), (kZ cZ (ad 46) 40000 M_reach_76), (kZ cZ (ad 47) 200 M_its_15), (kI cI (ad 49) 200 M_partOf_76)] H := hP
      have hD : va_D A [(kM ad M_thrown M_states M_moves M_known_10 M_come_10 M_lookedAt M_parts 0), (kI cI (ad 32) 200 M_asks), (kI cI (ad 33) 600 M_from), (kI cI (ad 34) 600 M_to), (kI cI (ad 35) 600 M_labelOf), (kI cI (ad 36) 16 M_how), (kI cI (ad 37) 200 M_first), (kI cI (ad 39) 600 M_next), (kI cI (ad 41) 200 M_queue_76), (kI cI (ad 42) 200 M_by_10), (kZ cZ (ad 44) 200 M_isReached_10), (kZ cZ (ad 45) 200 M_alive_76), (kZ cZ (ad 46) 40000 M_reach_76), (kZ cZ (ad 47) 200 M_its_15), (kI cI (ad 49) 200 M_partOf_76)] := hD
      refine lv_iconst (v := 0) hx hb dX5_look_85 (by decide) ?_
      refine lv_istore_n (lv' := [(3, .int 0), (2, .int r_76), (0, .ref (ad 5)), (1, .int a1)]) hx hb dX5_look_86 rfl hl (by decide) rfl (fun ls hl => ?_)
      obtain ⟨ex_87, hex_87, h_87⟩ := ox_b_of h
      have hX_87 : ∀ (v3_87 : Int32) (M_whole_87 : Int32) (H : Heap) (locs : List Loc) (ls : Array Slot), (v3_87, M_whole_87) = ex_87 → va_P D vwCl [(kM ad M_thrown M_states M_moves M_known_10 M_come_10 M_lookedAt M_parts M_whole_87), (kI cI (ad 32) 200 M_asks), (kI cI (ad 33) 600 M_from), (kI cI (ad 34) 600 M_to), (kI cI (ad 35) 600 M_labelOf), (kI cI (ad 36) 16 M_how), (kI cI (ad 37) 200 M_first), (kI cI (ad 39) 600 M_next), (kI cI (ad 41) 200 M_queue_76), (kI cI (ad 42) 200 M_by_10), (kZ cZ (ad 44) 200 M_isReached_10), (kZ cZ (ad 45) 200 M_alive_76), (kZ cZ (ad 46) 40000 M_reach_76), (kZ cZ (ad 47) 200 M_its_15), (kI cI (ad 49) 200 M_partOf_76)] H → va_D A [(kM ad M_thrown M_states M_moves M_known_10 M_come_10 M_lookedAt M_parts M_whole_87), (kI cI (ad 32) 200 M_asks), (kI cI (ad 33) 600 M_from), (kI cI (ad 34) 600 M_to), (kI cI (ad 35) 600 M_labelOf), (kI cI (ad 36) 16 M_how), (kI cI (ad 37) 200 M_first), (kI cI (ad 39) 600 M_next), (kI cI (ad 41) 200 M_queue_76), (kI cI (ad 42) 200 M_by_10), (kZ cZ (ad 44) 200 M_isReached_10), (kZ cZ (ad 45) 200 M_alive_76), (kZ cZ (ad 46) 40000 M_reach_76), (kZ cZ (ad 47) 200 M_its_15), (kI cI (ad 49) 200 M_partOf_76)] → va_S A s.heap H locs → lv_has ls 6 [(0, .ref (ad 5)), (1, .int a1), (2, .int r_76)] → W p l e { frames := 3, cells := 0, slots := 0, locals := 75 } s m ([.ref (ad 5), .int a1] : List Value).toArray below meth c H locs 0 0 Q (F0 m 162 ls []) := by
        intro v3_87 M_whole_87 H locs ls hex_87 hP hD hS hl
        subst hex_87
        have h := h_87
        obtain ⟨ex_162, hex_162, h_162⟩ := ox_b_of h
        have hX_162 : ∀ (v2_162 : Int32) (M_queue_162 : Nat → Int32) (M_alive_162 : Nat → Int32) (M_reach_162 : Nat → Int32) (M_partOf_162 : Nat → Int32) (H : Heap) (locs : List Loc) (ls : Array Slot), (v2_162, M_queue_162, M_alive_162, M_reach_162, M_partOf_162) = ex_162 → va_P D vwCl [(kM ad M_thrown M_states M_moves M_known_10 M_come_10 M_lookedAt M_parts M_whole_87), (kI cI (ad 32) 200 M_asks), (kI cI (ad 33) 600 M_from), (kI cI (ad 34) 600 M_to), (kI cI (ad 35) 600 M_labelOf), (kI cI (ad 36) 16 M_how), (kI cI (ad 37) 200 M_first), (kI cI (ad 39) 600 M_next), (kI cI (ad 41) 200 M_queue_162), (kI cI (ad 42) 200 M_by_10), (kZ cZ (ad 44) 200 M_isReached_10), (kZ cZ (ad 45) 200 M_alive_162), (kZ cZ (ad 46) 40000 M_reach_162), (kZ cZ (ad 47) 200 M_its_15), (kI cI (ad 49) 200 M_partOf_162)] H → va_D A [(kM ad M_thrown M_states M_moves M_known_10 M_come_10 M_lookedAt M_parts M_whole_87), (kI cI (ad 32) 200 M_asks), (kI cI (ad 33) 600 M_from), (kI cI (ad 34) 600 M_to), (kI cI (ad 35) 600 M_labelOf), (kI cI (ad 36) 16 M_how), (kI cI (ad 37) 200 M_first), (kI cI (ad 39) 600 M_next), (kI cI (ad 41) 200 M_queue_162), (kI cI (ad 42) 200 M_by_10), (kZ cZ (ad 44) 200 M_isReached_10), (kZ cZ (ad 45) 200 M_alive_162), (kZ cZ (ad 46) 40000 M_reach_162), (kZ cZ (ad 47) 200 M_its_15), (kI cI (ad 49) 200 M_partOf_162)] → va_S A s.heap H locs → lv_has ls 6 [(0, .ref (ad 5)), (1, .int a1), (2, .int v2_162)] → W p l e { frames := 3, cells := 0, slots := 0, locals := 75 } s m ([.ref (ad 5), .int a1] : List Value).toArray below meth c H locs 0 0 Q (F0 m 178 ls []) := by
          intro v2_162 M_queue_162 M_alive_162 M_reach_162 M_partOf_162 H locs ls hex_162 hP hD hS hl
          subst hex_162
          have h := h_162
          refine lv_aload_n hx hb dX5_look_178 rfl (lv_at hl 0 rfl) ?_
          refine lv_iload_n hx hb dX5_look_179 rfl (lv_at hl 2 rfl) ?_
          refine va_put (D := D) (ci := 5) (v := .int v2_162) (ty := .int) (C := RX5) (T := TX5) (N := 27) hx hb hts hiX5 tyX5 tyX5_ok nmX5 hown hK hP hD hS 0 rfl rfl 24 (by decide) hk2 (fun _ h9 => h9) rfl (by decide +kernel) rfl rfl (Nat.le_of_ble_eq_true rfl) dX5_look_180 (fun H locs hP hD hS => ?_)
          have hP : va_P D vwCl [(kM ad M_thrown M_states M_moves M_known_10 M_come_10 M_lookedAt v2_162 M_whole_87), (kI cI (ad 32) 200 M_asks), (kI cI (ad 33) 600 M_from), (kI cI (ad 34) 600 M_to), (kI cI (ad 35) 600 M_labelOf), (kI cI (ad 36) 16 M_how), (kI cI (ad 37) 200 M_first), (kI cI (ad 39) 600 M_next), (kI cI (ad 41) 200 M_queue_162), (kI cI (ad 42) 200 M_by_10), (kZ cZ (ad 44) 200 M_isReached_10), (kZ cZ (ad 45) 200 M_alive_162), (kZ cZ (ad 46) 40000 M_reach_162), (kZ cZ (ad 47) 200 M_its_15), (kI cI (ad 49) 200 M_partOf_162)] H := hP
          have hD : va_D A [(kM ad M_thrown M_states M_moves M_known_10 M_come_10 M_lookedAt v2_162 M_whole_87), (kI cI (ad 32) 200 M_asks), (kI cI (ad 33) 600 M_from), (kI cI (ad 34) 600 M_to), (kI cI (ad 35) 600 M_labelOf), (kI cI (ad 36) 16 M_how), (kI cI (ad 37) 200 M_first), (kI cI (ad 39) 600 M_next), (kI cI (ad 41) 200 M_queue_162), (kI cI (ad 42) 200 M_by_10), (kZ cZ (ad 44) 200 M_isReached_10), (kZ cZ (ad 45) 200 M_alive_162), (kZ cZ (ad 46) 40000 M_reach_162), (kZ cZ (ad 47) 200 M_its_15), (kI cI (ad 49) 200 M_partOf_162)] := hD
          refine lv_aload_n hx hb dX5_look_183 rfl (lv_at hl 0 rfl) ?_
          refine lv_iload_n hx hb dX5_look_184 rfl (lv_at hl 1 rfl) ?_
          refine va_put (D := D) (ci := 5) (v := .int a1) (ty := .int) (C := RX5) (T := TX5) (N := 27) hx hb hts hiX5 tyX5 tyX5_ok nmX5 hown hK hP hD hS 0 rfl rfl 18 (by decide) hk0 (fun _ h9 => h9) rfl (by decide +kernel) rfl rfl (Nat.le_of_ble_eq_true rfl) dX5_look_185 (fun H locs hP hD hS => ?_)
          have hP : va_P D vwCl [(kM ad M_thrown M_states M_moves M_known_10 M_come_10 a1 v2_162 M_whole_87), (kI cI (ad 32) 200 M_asks), (kI cI (ad 33) 600 M_from), (kI cI (ad 34) 600 M_to), (kI cI (ad 35) 600 M_labelOf), (kI cI (ad 36) 16 M_how), (kI cI (ad 37) 200 M_first), (kI cI (ad 39) 600 M_next), (kI cI (ad 41) 200 M_queue_162), (kI cI (ad 42) 200 M_by_10), (kZ cZ (ad 44) 200 M_isReached_10), (kZ cZ (ad 45) 200 M_alive_162), (kZ cZ (ad 46) 40000 M_reach_162), (kZ cZ (ad 47) 200 M_its_15), (kI cI (ad 49) 200 M_partOf_162)] H := hP
          have hD : va_D A [(kM ad M_thrown M_states M_moves M_known_10 M_come_10 a1 v2_162 M_whole_87), (kI cI (ad 32) 200 M_asks), (kI cI (ad 33) 600 M_from), (kI cI (ad 34) 600 M_to), (kI cI (ad 35) 600 M_labelOf), (kI cI (ad 36) 16 M_how), (kI cI (ad 37) 200 M_first), (kI cI (ad 39) 600 M_next), (kI cI (ad 41) 200 M_queue_162), (kI cI (ad 42) 200 M_by_10), (kZ cZ (ad 44) 200 M_isReached_10), (kZ cZ (ad 45) 200 M_alive_162), (kZ cZ (ad 46) 40000 M_reach_162), (kZ cZ (ad 47) 200 M_its_15), (kI cI (ad 49) 200 M_partOf_162)] := hD
          refine lv_aload_n hx hb dX5_look_188 rfl (lv_at hl 0 rfl) ?_
          refine lv_iconst (v := 0) hx hb dX5_look_189 (by decide) ?_
          refine va_put (D := D) (ci := 5) (v := .int 0) (ty := .boolean) (C := RX5) (T := TX5) (N := 27) hx hb hts hiX5 tyX5 tyX5_ok nmX5 hown hK hP hD hS 0 rfl rfl 12 (by decide) hk3 (fun _ h9 => h9) rfl (by decide +kernel) rfl rfl (Nat.le_of_ble_eq_true rfl) dX5_look_190 (fun H locs hP hD hS => ?_)
          have hP : va_P D vwCl [(kM ad M_thrown M_states M_moves 0 M_come_10 a1 v2_162 M_whole_87), (kI cI (ad 32) 200 M_asks), (kI cI (ad 33) 600 M_from), (kI cI (ad 34) 600 M_to), (kI cI (ad 35) 600 M_labelOf), (kI cI (ad 36) 16 M_how), (kI cI (ad 37) 200 M_first), (kI cI (ad 39) 600 M_next), (kI cI (ad 41) 200 M_queue_162), (kI cI (ad 42) 200 M_by_10), (kZ cZ (ad 44) 200 M_isReached_10), (kZ cZ (ad 45) 200 M_alive_162), (kZ cZ (ad 46) 40000 M_reach_162), (kZ cZ (ad 47) 200 M_its_15), (kI cI (ad 49) 200 M_partOf_162)] H := hP
          have hD : va_D A [(kM ad M_thrown M_states M_moves 0 M_come_10 a1 v2_162 M_whole_87), (kI cI (ad 32) 200 M_asks), (kI cI (ad 33) 600 M_from), (kI cI (ad 34) 600 M_to), (kI cI (ad 35) 600 M_labelOf), (kI cI (ad 36) 16 M_how), (kI cI (ad 37) 200 M_first), (kI cI (ad 39) 600 M_next), (kI cI (ad 41) 200 M_queue_162), (kI cI (ad 42) 200 M_by_10), (kZ cZ (ad 44) 200 M_isReached_10), (kZ cZ (ad 45) 200 M_alive_162), (kZ cZ (ad 46) 40000 M_reach_162), (kZ cZ (ad 47) 200 M_its_15), (kI cI (ad 49) 200 M_partOf_162)] := hD
          have h := Option.some.inj h
          subst h
          exact hend H locs _ ls hP hD hS dX5_look_193 trivial
        have hL_162 : ∀ (n : Nat) (v2_162 : Int32) (M_queue_162 : Nat → Int32) (M_alive_162 : Nat → Int32) (M_reach_162 : Nat → Int32) (M_partOf_162 : Nat → Int32) (H : Heap) (locs : List Loc) (ls : Array Slot), ox_l (fn_X5_look_l162 M_states M_moves M_from M_to M_labelOf M_how M_first M_next) n (v2_162, M_queue_162, M_alive_162, M_reach_162, M_partOf_162) = some ex_162 → va_P D vwCl [(kM ad M_thrown M_states M_moves M_known_10 M_come_10 M_lookedAt M_parts M_whole_87), (kI cI (ad 32) 200 M_asks), (kI cI (ad 33) 600 M_from), (kI cI (ad 34) 600 M_to), (kI cI (ad 35) 600 M_labelOf), (kI cI (ad 36) 16 M_how), (kI cI (ad 37) 200 M_first), (kI cI (ad 39) 600 M_next), (kI cI (ad 41) 200 M_queue_162), (kI cI (ad 42) 200 M_by_10), (kZ cZ (ad 44) 200 M_isReached_10), (kZ cZ (ad 45) 200 M_alive_162), (kZ cZ (ad 46) 40000 M_reach_162), (kZ cZ (ad 47) 200 M_its_15), (kI cI (ad 49) 200 M_partOf_162)] H → va_D A [(kM ad M_thrown M_states M_moves M_known_10 M_come_10 M_lookedAt M_parts M_whole_87), (kI cI (ad 32) 200 M_asks), (kI cI (ad 33) 600 M_from), (kI cI (ad 34) 600 M_to), (kI cI (ad 35) 600 M_labelOf), (kI cI (ad 36) 16 M_how), (kI cI (ad 37) 200 M_first), (kI cI (ad 39) 600 M_next), (kI cI (ad 41) 200 M_queue_162), (kI cI (ad 42) 200 M_by_10), (kZ cZ (ad 44) 200 M_isReached_10), (kZ cZ (ad 45) 200 M_alive_162), (kZ cZ (ad 46) 40000 M_reach_162), (kZ cZ (ad 47) 200 M_its_15), (kI cI (ad 49) 200 M_partOf_162)] → va_S A s.heap H locs → lv_has ls 6 [(0, .ref (ad 5)), (1, .int a1), (2, .int v2_162)] → W p l e { frames := 3, cells := 0, slots := 0, locals := 75 } s m ([.ref (ad 5), .int a1] : List Value).toArray below meth c H locs 0 0 Q (F0 m 162 ls []) := by
          intro n
          induction n with
          | zero => intro v2_162 M_queue_162 M_alive_162 M_reach_162 M_partOf_162 H locs ls hlp; exact ox_l_0 hlp
          | succ n ih_162 =>
            intro v2_162 M_queue_162 M_alive_162 M_reach_162 M_partOf_162 H locs ls hlp_162 hP hD hS hl
            obtain ⟨z_162, h, hlp_162⟩ := ox_l_of hlp_162
            refine lv_aload_n hx hb dX5_look_162 rfl (lv_at hl 0 rfl) ?_
            refine lv_iload_n hx hb dX5_look_163 rfl (lv_at hl 2 rfl) ?_
            obtain ⟨⟨r_164, M_alive_164⟩, hc_164, h⟩ := ox_b_of h
            refine mc_callV (As := [.int v2_162]) (rest := []) (b := ad 5) (Wc := [(kM ad M_thrown M_states M_moves M_known_10 M_come_10 M_lookedAt M_parts M_whole_87), (kI cI (ad 33) 600 M_from), (kI cI (ad 34) 600 M_to), (kI cI (ad 35) 600 M_labelOf), (kI cI (ad 36) 16 M_how), (kI cI (ad 37) 200 M_first), (kI cI (ad 39) 600 M_next), (kZ cZ (ad 45) 200 M_alive_162), (kI cI (ad 49) 200 M_partOf_162)]) (wr := [(kI cI (ad 32) 200 M_asks), (kI cI (ad 41) 200 M_queue_162), (kI cI (ad 42) 200 M_by_10), (kZ cZ (ad 44) 200 M_isReached_10), (kZ cZ (ad 46) 40000 M_reach_162), (kZ cZ (ad 47) 200 M_its_15)]) (W1 := [(kM ad M_thrown M_states M_moves M_known_10 M_come_10 M_lookedAt M_parts M_whole_87), (kI cI (ad 33) 600 M_from), (kI cI (ad 34) 600 M_to), (kI cI (ad 35) 600 M_labelOf), (kI cI (ad 36) 16 M_how), (kI cI (ad 37) 200 M_first), (kI cI (ad 39) 600 M_next), (kZ cZ (ad 45) 200 M_alive_164), (kI cI (ad 49) 200 M_partOf_162)]) (wn := [(kM ad M_thrown M_states M_moves M_known_10 M_come_10 M_lookedAt M_parts M_whole_87), (kI cI (ad 32) 200 M_asks), (kI cI (ad 33) 600 M_from), (kI cI (ad 34) 600 M_to), (kI cI (ad 35) 600 M_labelOf), (kI cI (ad 36) 16 M_how), (kI cI (ad 37) 200 M_first), (kI cI (ad 39) 600 M_next), (kI cI (ad 41) 200 M_queue_162), (kI cI (ad 42) 200 M_by_10), (kZ cZ (ad 44) 200 M_isReached_10), (kZ cZ (ad 45) 200 M_alive_164), (kZ cZ (ad 46) 40000 M_reach_162), (kZ cZ (ad 47) 200 M_its_15), (kI cI (ad 49) 200 M_partOf_162)]) (rv := some (.int r_164)) ⟨hx, hb, hml, hown, hts⟩ (c_X5_shrink l D cI cZ ad M_thrown M_states M_moves M_known_10 M_come_10 M_lookedAt M_parts M_whole_87 M_from M_to M_labelOf M_how M_first M_next M_alive_162 M_partOf_162 v2_162 _ hc_164) (cwV 1 hts (gl_V wk_340 wk_341 wk_342 wk_5 wk_343) rfl rfl rfl (by decide +kernel) ⟨Nat.le_of_ble_eq_true rfl, Nat.le_of_ble_eq_true rfl⟩) hK hP hD hS hA 5 0 rfl rfl rfl [0, 2, 3, 4, 5, 6, 7, 11, 14] [1, 8, 9, 10, 12, 13] [6, 0, 7, 8, 9, 10, 11, 12, 1, 2, 3, 13, 4, 5, 14] rfl rfl (by decide) rfl (by decide) (by decide) rfl rfl (by decide) rfl rfl hl.1 (Nat.le_of_ble_eq_true rfl) dX5_look_164 ⟨Nat.zero_le _, Nat.zero_le _⟩ (fun H locs hP hD hS => ?_)
            show W p l e { frames := 3, cells := 0, slots := 0, locals := 75 } s m ([.ref (ad 5), .int a1] : List Value).toArray below meth c H locs 0 0 Q (F0 m 167 ls [.int r_164])
            refine lv_if_eq (tgt := 178) hx hb dX5_look_167 (by decide) (fun c_167 => ?_) (fun c_167 => ?_)
            · have h := ox_t c_167 h
              obtain rfl := Option.some.inj h
              exact hX_162 v2_162 M_queue_162 M_alive_164 M_reach_162 M_partOf_162 H locs ls hlp_162 hP hD hS (lv_sub hl [0, 1, 2] rfl)
            · have h := ox_f c_167 h
              refine lv_aload_n hx hb dX5_look_170 rfl (lv_at hl 0 rfl) ?_
              obtain ⟨⟨r_171, M_queue_171, M_alive_171, M_reach_171, M_partOf_171⟩, hc_171, h⟩ := ox_b_of h
              refine mc_callV (As := []) (rest := []) (b := ad 5) (Wc := [(kM ad M_thrown M_states M_moves M_known_10 M_come_10 M_lookedAt M_parts M_whole_87), (kI cI (ad 34) 600 M_to), (kI cI (ad 37) 200 M_first), (kI cI (ad 39) 600 M_next), (kI cI (ad 41) 200 M_queue_162), (kZ cZ (ad 45) 200 M_alive_164), (kZ cZ (ad 46) 40000 M_reach_162), (kI cI (ad 49) 200 M_partOf_162)]) (wr := [(kI cI (ad 32) 200 M_asks), (kI cI (ad 33) 600 M_from), (kI cI (ad 35) 600 M_labelOf), (kI cI (ad 36) 16 M_how), (kI cI (ad 42) 200 M_by_10), (kZ cZ (ad 44) 200 M_isReached_10), (kZ cZ (ad 47) 200 M_its_15)]) (W1 := [(kM ad M_thrown M_states M_moves M_known_10 M_come_10 M_lookedAt M_parts M_whole_87), (kI cI (ad 34) 600 M_to), (kI cI (ad 37) 200 M_first), (kI cI (ad 39) 600 M_next), (kI cI (ad 41) 200 M_queue_171), (kZ cZ (ad 45) 200 M_alive_171), (kZ cZ (ad 46) 40000 M_reach_171), (kI cI (ad 49) 200 M_partOf_171)]) (wn := [(kM ad M_thrown M_states M_moves M_known_10 M_come_10 M_lookedAt M_parts M_whole_87), (kI cI (ad 32) 200 M_asks), (kI cI (ad 33) 600 M_from), (kI cI (ad 34) 600 M_to), (kI cI (ad 35) 600 M_labelOf), (kI cI (ad 36) 16 M_how), (kI cI (ad 37) 200 M_first), (kI cI (ad 39) 600 M_next), (kI cI (ad 41) 200 M_queue_171), (kI cI (ad 42) 200 M_by_10), (kZ cZ (ad 44) 200 M_isReached_10), (kZ cZ (ad 45) 200 M_alive_171), (kZ cZ (ad 46) 40000 M_reach_171), (kZ cZ (ad 47) 200 M_its_15), (kI cI (ad 49) 200 M_partOf_171)]) (rv := some (.int r_171)) ⟨hx, hb, hml, hown, hts⟩ (c_X5_divide l D cI cZ ad M_thrown M_states M_moves M_known_10 M_come_10 M_lookedAt M_parts M_whole_87 M_to M_first M_next M_queue_162 M_alive_164 M_reach_162 M_partOf_162  _ hc_171) (cwV 0 hts (gl_V wk_324 wk_325 wk_326 wk_5 wk_327) rfl rfl rfl (by decide +kernel) ⟨Nat.le_of_ble_eq_true rfl, Nat.le_of_ble_eq_true rfl⟩) hK hP hD hS hA 5 0 rfl rfl rfl [0, 3, 6, 7, 8, 11, 12, 14] [1, 2, 4, 5, 9, 10, 13] [7, 0, 1, 8, 2, 3, 9, 10, 11, 4, 5, 12, 13, 6, 14] rfl rfl (by decide) rfl (by decide) (by decide) rfl rfl (by decide) rfl rfl hl.1 (Nat.le_of_ble_eq_true rfl) dX5_look_171 ⟨Nat.zero_le _, Nat.zero_le _⟩ (fun H locs hP hD hS => ?_)
              show W p l e { frames := 3, cells := 0, slots := 0, locals := 75 } s m ([.ref (ad 5), .int a1] : List Value).toArray below meth c H locs 0 0 Q (F0 m 174 ls [.int r_171])
              refine lv_istore_n (lv' := [(2, .int r_171), (0, .ref (ad 5)), (1, .int a1)]) hx hb dX5_look_174 rfl hl (by decide) rfl (fun ls hl => ?_)
              refine lv_goto (tgt := 162) hx hb dX5_look_175 (by decide) ?_
              obtain rfl := Option.some.inj h
              exact ih_162 r_171 M_queue_171 M_alive_171 M_reach_171 M_partOf_171 H locs ls hlp_162 hP hD hS (lv_sub hl [1, 2, 0] rfl)
        exact hL_162 1000000 r_76 M_queue_76 M_alive_76 M_reach_76 M_partOf_76 H locs ls hex_162 hP hD hS (lv_sub hl [0, 1, 2] rfl)
      have hL_87 : ∀ (n : Nat) (v3_87 : Int32) (M_whole_87 : Int32) (H : Heap) (locs : List Loc) (ls : Array Slot), ox_l (fn_X5_look_l87 r_76 M_states M_partOf_76) n (v3_87, M_whole_87) = some ex_87 → va_P D vwCl [(kM ad M_thrown M_states M_moves M_known_10 M_come_10 M_lookedAt M_parts M_whole_87), (kI cI (ad 32) 200 M_asks), (kI cI (ad 33) 600 M_from), (kI cI (ad 34) 600 M_to), (kI cI (ad 35) 600 M_labelOf), (kI cI (ad 36) 16 M_how), (kI cI (ad 37) 200 M_first), (kI cI (ad 39) 600 M_next), (kI cI (ad 41) 200 M_queue_76), (kI cI (ad 42) 200 M_by_10), (kZ cZ (ad 44) 200 M_isReached_10), (kZ cZ (ad 45) 200 M_alive_76), (kZ cZ (ad 46) 40000 M_reach_76), (kZ cZ (ad 47) 200 M_its_15), (kI cI (ad 49) 200 M_partOf_76)] H → va_D A [(kM ad M_thrown M_states M_moves M_known_10 M_come_10 M_lookedAt M_parts M_whole_87), (kI cI (ad 32) 200 M_asks), (kI cI (ad 33) 600 M_from), (kI cI (ad 34) 600 M_to), (kI cI (ad 35) 600 M_labelOf), (kI cI (ad 36) 16 M_how), (kI cI (ad 37) 200 M_first), (kI cI (ad 39) 600 M_next), (kI cI (ad 41) 200 M_queue_76), (kI cI (ad 42) 200 M_by_10), (kZ cZ (ad 44) 200 M_isReached_10), (kZ cZ (ad 45) 200 M_alive_76), (kZ cZ (ad 46) 40000 M_reach_76), (kZ cZ (ad 47) 200 M_its_15), (kI cI (ad 49) 200 M_partOf_76)] → va_S A s.heap H locs → lv_has ls 6 [(0, .ref (ad 5)), (1, .int a1), (2, .int r_76), (3, .int v3_87)] → W p l e { frames := 3, cells := 0, slots := 0, locals := 75 } s m ([.ref (ad 5), .int a1] : List Value).toArray below meth c H locs 0 0 Q (F0 m 87 ls []) := by
        intro n
        induction n with
        | zero => intro v3_87 M_whole_87 H locs ls hlp; exact ox_l_0 hlp
        | succ n ih_87 =>
          intro v3_87 M_whole_87 H locs ls hlp_87 hP hD hS hl
          obtain ⟨z_87, h, hlp_87⟩ := ox_l_of hlp_87
          refine lv_iload_n hx hb dX5_look_87 rfl (lv_at hl 3 rfl) ?_
          refine lv_iload_n hx hb dX5_look_88 rfl (lv_at hl 2 rfl) ?_
          refine lv_icmp_ge (tgt := 162) hx hb dX5_look_89 (by decide) (fun c_89 => ?_) (fun c_89 => ?_)
          · have h := ox_t c_89 h
            obtain rfl := Option.some.inj h
            exact hX_87 v3_87 M_whole_87 H locs ls hlp_87 hP hD hS (lv_sub hl [0, 1, 2] rfl)
          · have h := ox_f c_89 h
            refine lv_iconst (v := 0) hx hb dX5_look_92 (by decide) ?_
            refine lv_istore (lv' := [(4, .int 0), (0, .ref (ad 5)), (1, .int a1), (2, .int r_76), (3, .int v3_87)]) hx hb dX5_look_93 hl (by decide) rfl (fun ls hl => ?_)
            refine lv_iconst (v := 0) hx hb dX5_look_95 (by decide) ?_
            refine lv_istore (lv' := [(5, .int 0), (4, .int 0), (0, .ref (ad 5)), (1, .int a1), (2, .int r_76), (3, .int v3_87)]) hx hb dX5_look_96 hl (by decide) rfl (fun ls hl => ?_)
            obtain ⟨ex_98, hex_98, h_98⟩ := ox_b_of h
            have hX_98 : ∀ (v4_98 : Int32) (v5_98 : Int32) (H : Heap) (locs : List Loc) (ls : Array Slot), (v4_98, v5_98) = ex_98 → va_P D vwCl [(kM ad M_thrown M_states M_moves M_known_10 M_come_10 M_lookedAt M_parts M_whole_87), (kI cI (ad 32) 200 M_asks), (kI cI (ad 33) 600 M_from), (kI cI (ad 34) 600 M_to), (kI cI (ad 35) 600 M_labelOf), (kI cI (ad 36) 16 M_how), (kI cI (ad 37) 200 M_first), (kI cI (ad 39) 600 M_next), (kI cI (ad 41) 200 M_queue_76), (kI cI (ad 42) 200 M_by_10), (kZ cZ (ad 44) 200 M_isReached_10), (kZ cZ (ad 45) 200 M_alive_76), (kZ cZ (ad 46) 40000 M_reach_76), (kZ cZ (ad 47) 200 M_its_15), (kI cI (ad 49) 200 M_partOf_76)] H → va_D A [(kM ad M_thrown M_states M_moves M_known_10 M_come_10 M_lookedAt M_parts M_whole_87), (kI cI (ad 32) 200 M_asks), (kI cI (ad 33) 600 M_from), (kI cI (ad 34) 600 M_to), (kI cI (ad 35) 600 M_labelOf), (kI cI (ad 36) 16 M_how), (kI cI (ad 37) 200 M_first), (kI cI (ad 39) 600 M_next), (kI cI (ad 41) 200 M_queue_76), (kI cI (ad 42) 200 M_by_10), (kZ cZ (ad 44) 200 M_isReached_10), (kZ cZ (ad 45) 200 M_alive_76), (kZ cZ (ad 46) 40000 M_reach_76), (kZ cZ (ad 47) 200 M_its_15), (kI cI (ad 49) 200 M_partOf_76)] → va_S A s.heap H locs → lv_has ls 6 [(0, .ref (ad 5)), (1, .int a1), (2, .int r_76), (3, .int v3_87), (4, .int v4_98)] → W p l e { frames := 3, cells := 0, slots := 0, locals := 75 } s m ([.ref (ad 5), .int a1] : List Value).toArray below meth c H locs 0 0 Q (F0 m 134 ls []) := by
              intro v4_98 v5_98 H locs ls hex_98 hP hD hS hl
              subst hex_98
              have h := h_98
              refine lv_aload_n hx hb dX5_look_134 rfl (lv_at hl 0 rfl) ?_
              refine lv_iload hx hb dX5_look_135 (lv_at hl 4 rfl) ?_
              refine lv_aload_n hx hb dX5_look_137 rfl (lv_at hl 0 rfl) ?_
              refine va_get (D := D) (ci := 5) (v := .int M_whole_87) (C := RX5) (T := TX5) (N := 27) hx hb hts hiX5 hown hK hP 0 rfl rfl 25 (by decide) hk1 (fun _ h9 => h9) rfl dX5_look_138 ?_
              refine lv_icmp_le (tgt := 149) hx hb dX5_look_141 (by decide) (fun c_141 => ?_) (fun c_141 => ?_)
              · have h := ox_t c_141 h
                refine lv_aload_n hx hb dX5_look_149 rfl (lv_at hl 0 rfl) ?_
                refine va_get (D := D) (ci := 5) (v := .int M_whole_87) (C := RX5) (T := TX5) (N := 27) hx hb hts hiX5 hown hK hP 0 rfl rfl 25 (by decide) hk1 (fun _ h9 => h9) rfl dX5_look_150 ?_
                refine va_put (D := D) (ci := 5) (v := .int M_whole_87) (ty := .int) (C := RX5) (T := TX5) (N := 27) hx hb hts hiX5 tyX5 tyX5_ok nmX5 hown hK hP hD hS 0 rfl rfl 25 (by decide) hk1 (fun _ h9 => h9) rfl (by decide +kernel) rfl rfl (Nat.le_of_ble_eq_true rfl) dX5_look_153 (fun H locs hP hD hS => ?_)
                have hP : va_P D vwCl [(kM ad M_thrown M_states M_moves M_known_10 M_come_10 M_lookedAt M_parts M_whole_87), (kI cI (ad 32) 200 M_asks), (kI cI (ad 33) 600 M_from), (kI cI (ad 34) 600 M_to), (kI cI (ad 35) 600 M_labelOf), (kI cI (ad 36) 16 M_how), (kI cI (ad 37) 200 M_first), (kI cI (ad 39) 600 M_next), (kI cI (ad 41) 200 M_queue_76), (kI cI (ad 42) 200 M_by_10), (kZ cZ (ad 44) 200 M_isReached_10), (kZ cZ (ad 45) 200 M_alive_76), (kZ cZ (ad 46) 40000 M_reach_76), (kZ cZ (ad 47) 200 M_its_15), (kI cI (ad 49) 200 M_partOf_76)] H := hP
                have hD : va_D A [(kM ad M_thrown M_states M_moves M_known_10 M_come_10 M_lookedAt M_parts M_whole_87), (kI cI (ad 32) 200 M_asks), (kI cI (ad 33) 600 M_from), (kI cI (ad 34) 600 M_to), (kI cI (ad 35) 600 M_labelOf), (kI cI (ad 36) 16 M_how), (kI cI (ad 37) 200 M_first), (kI cI (ad 39) 600 M_next), (kI cI (ad 41) 200 M_queue_76), (kI cI (ad 42) 200 M_by_10), (kZ cZ (ad 44) 200 M_isReached_10), (kZ cZ (ad 45) 200 M_alive_76), (kZ cZ (ad 46) 40000 M_reach_76), (kZ cZ (ad 47) 200 M_its_15), (kI cI (ad 49) 200 M_partOf_76)] := hD
                refine lv_iinc (v := v3_87 + 1) (lv' := [(3, .int (v3_87 + 1)), (0, .ref (ad 5)), (1, .int a1), (2, .int r_76), (4, .int v4_98)]) hx hb dX5_look_156 hl (k := 3) rfl rfl (by decide) rfl (fun ls hl => ?_)
                refine lv_goto (tgt := 87) hx hb dX5_look_159 (by decide) ?_
                obtain rfl := Option.some.inj h
                exact ih_87 (v3_87 + 1) M_whole_87 H locs ls hlp_87 hP hD hS (lv_sub hl [1, 2, 3, 0] rfl)
              · have h := ox_f c_141 h
                refine lv_iload hx hb dX5_look_144 (lv_at hl 4 rfl) ?_
                refine lv_goto (tgt := 153) hx hb dX5_look_146 (by decide) ?_
                refine va_put (D := D) (ci := 5) (v := .int v4_98) (ty := .int) (C := RX5) (T := TX5) (N := 27) hx hb hts hiX5 tyX5 tyX5_ok nmX5 hown hK hP hD hS 0 rfl rfl 25 (by decide) hk1 (fun _ h9 => h9) rfl (by decide +kernel) rfl rfl (Nat.le_of_ble_eq_true rfl) dX5_look_153 (fun H locs hP hD hS => ?_)
                have hP : va_P D vwCl [(kM ad M_thrown M_states M_moves M_known_10 M_come_10 M_lookedAt M_parts v4_98), (kI cI (ad 32) 200 M_asks), (kI cI (ad 33) 600 M_from), (kI cI (ad 34) 600 M_to), (kI cI (ad 35) 600 M_labelOf), (kI cI (ad 36) 16 M_how), (kI cI (ad 37) 200 M_first), (kI cI (ad 39) 600 M_next), (kI cI (ad 41) 200 M_queue_76), (kI cI (ad 42) 200 M_by_10), (kZ cZ (ad 44) 200 M_isReached_10), (kZ cZ (ad 45) 200 M_alive_76), (kZ cZ (ad 46) 40000 M_reach_76), (kZ cZ (ad 47) 200 M_its_15), (kI cI (ad 49) 200 M_partOf_76)] H := hP
                have hD : va_D A [(kM ad M_thrown M_states M_moves M_known_10 M_come_10 M_lookedAt M_parts v4_98), (kI cI (ad 32) 200 M_asks), (kI cI (ad 33) 600 M_from), (kI cI (ad 34) 600 M_to), (kI cI (ad 35) 600 M_labelOf), (kI cI (ad 36) 16 M_how), (kI cI (ad 37) 200 M_first), (kI cI (ad 39) 600 M_next), (kI cI (ad 41) 200 M_queue_76), (kI cI (ad 42) 200 M_by_10), (kZ cZ (ad 44) 200 M_isReached_10), (kZ cZ (ad 45) 200 M_alive_76), (kZ cZ (ad 46) 40000 M_reach_76), (kZ cZ (ad 47) 200 M_its_15), (kI cI (ad 49) 200 M_partOf_76)] := hD
                refine lv_iinc (v := v3_87 + 1) (lv' := [(3, .int (v3_87 + 1)), (0, .ref (ad 5)), (1, .int a1), (2, .int r_76), (4, .int v4_98)]) hx hb dX5_look_156 hl (k := 3) rfl rfl (by decide) rfl (fun ls hl => ?_)
                refine lv_goto (tgt := 87) hx hb dX5_look_159 (by decide) ?_
                obtain rfl := Option.some.inj h
                exact ih_87 (v3_87 + 1) v4_98 H locs ls hlp_87 hP hD hS (lv_sub hl [1, 2, 3, 0] rfl)
            have hL_98 : ∀ (n : Nat) (v4_98 : Int32) (v5_98 : Int32) (H : Heap) (locs : List Loc) (ls : Array Slot), ox_l (fn_X5_look_l98 M_states M_partOf_76 v3_87) n (v4_98, v5_98) = some ex_98 → va_P D vwCl [(kM ad M_thrown M_states M_moves M_known_10 M_come_10 M_lookedAt M_parts M_whole_87), (kI cI (ad 32) 200 M_asks), (kI cI (ad 33) 600 M_from), (kI cI (ad 34) 600 M_to), (kI cI (ad 35) 600 M_labelOf), (kI cI (ad 36) 16 M_how), (kI cI (ad 37) 200 M_first), (kI cI (ad 39) 600 M_next), (kI cI (ad 41) 200 M_queue_76), (kI cI (ad 42) 200 M_by_10), (kZ cZ (ad 44) 200 M_isReached_10), (kZ cZ (ad 45) 200 M_alive_76), (kZ cZ (ad 46) 40000 M_reach_76), (kZ cZ (ad 47) 200 M_its_15), (kI cI (ad 49) 200 M_partOf_76)] H → va_D A [(kM ad M_thrown M_states M_moves M_known_10 M_come_10 M_lookedAt M_parts M_whole_87), (kI cI (ad 32) 200 M_asks), (kI cI (ad 33) 600 M_from), (kI cI (ad 34) 600 M_to), (kI cI (ad 35) 600 M_labelOf), (kI cI (ad 36) 16 M_how), (kI cI (ad 37) 200 M_first), (kI cI (ad 39) 600 M_next), (kI cI (ad 41) 200 M_queue_76), (kI cI (ad 42) 200 M_by_10), (kZ cZ (ad 44) 200 M_isReached_10), (kZ cZ (ad 45) 200 M_alive_76), (kZ cZ (ad 46) 40000 M_reach_76), (kZ cZ (ad 47) 200 M_its_15), (kI cI (ad 49) 200 M_partOf_76)] → va_S A s.heap H locs → lv_has ls 6 [(0, .ref (ad 5)), (1, .int a1), (2, .int r_76), (3, .int v3_87), (4, .int v4_98), (5, .int v5_98)] → W p l e { frames := 3, cells := 0, slots := 0, locals := 75 } s m ([.ref (ad 5), .int a1] : List Value).toArray below meth c H locs 0 0 Q (F0 m 98 ls []) := by
              intro n
              induction n with
              | zero => intro v4_98 v5_98 H locs ls hlp; exact ox_l_0 hlp
              | succ n ih_98 =>
                intro v4_98 v5_98 H locs ls hlp_98 hP hD hS hl
                obtain ⟨z_98, h, hlp_98⟩ := ox_l_of hlp_98
                refine lv_iload hx hb dX5_look_98 (lv_at hl 5 rfl) ?_
                refine lv_aload_n hx hb dX5_look_100 rfl (lv_at hl 0 rfl) ?_
                refine va_get (D := D) (ci := 5) (v := .int M_states) (C := RX5) (T := TX5) (N := 27) hx hb hts hiX5 hown hK hP 0 rfl rfl 1 (by decide) hk4 (fun _ h9 => h9) rfl dX5_look_101 ?_
                refine lv_icmp_ge (tgt := 134) hx hb dX5_look_104 (by decide) (fun c_104 => ?_) (fun c_104 => ?_)
                · have h := ox_t c_104 h
                  obtain rfl := Option.some.inj h
                  exact hX_98 v4_98 v5_98 H locs ls hlp_98 hP hD hS (lv_sub hl [0, 1, 2, 3, 4] rfl)
                · have h := ox_f c_104 h
                  refine lv_iload hx hb dX5_look_107 (lv_at hl 4 rfl) ?_
                  refine lv_aload_n hx hb dX5_look_109 rfl (lv_at hl 0 rfl) ?_
                  refine va_get (D := D) (ci := 5) (v := .ref (ad 49)) (C := RX5) (T := TX5) (N := 27) hx hb hts hiX5 hown hK hP 0 rfl rfl 23 (by decide) hk5 (fun _ h9 => h9) rfl dX5_look_110 ?_
                  refine lv_iload hx hb dX5_look_113 (lv_at hl 5 rfl) ?_
                  obtain ⟨hi_115, h⟩ := ox_i_of h
                  refine va_iald hx hb hK hP 14 0 rfl rfl hi_115 dX5_look_115 ?_
                  refine lv_iload_n hx hb dX5_look_116 rfl (lv_at hl 3 rfl) ?_
                  refine lv_icmp_ne (tgt := 124) hx hb dX5_look_117 (by decide) (fun c_117 => ?_) (fun c_117 => ?_)
                  · have h := ox_f c_117 h
                    refine lv_iconst (v := 0) hx hb dX5_look_124 (by decide) ?_
                    refine lv_iadd hx hb dX5_look_125 ?_
                    refine lv_istore (lv' := [(4, .int (v4_98 + 0)), (0, .ref (ad 5)), (1, .int a1), (2, .int r_76), (3, .int v3_87), (5, .int v5_98)]) hx hb dX5_look_126 hl (by decide) rfl (fun ls hl => ?_)
                    refine lv_iinc (v := v5_98 + 1) (lv' := [(5, .int (v5_98 + 1)), (4, .int (v4_98 + 0)), (0, .ref (ad 5)), (1, .int a1), (2, .int r_76), (3, .int v3_87)]) hx hb dX5_look_128 hl (k := 5) rfl rfl (by decide) rfl (fun ls hl => ?_)
                    refine lv_goto (tgt := 98) hx hb dX5_look_131 (by decide) ?_
                    obtain rfl := Option.some.inj h
                    exact ih_98 (v4_98 + 0) (v5_98 + 1) H locs ls hlp_98 hP hD hS (lv_sub hl [2, 3, 4, 5, 1, 0] rfl)
                  · have h := ox_t c_117 h
                    refine lv_iconst (v := 1) hx hb dX5_look_120 (by decide) ?_
                    refine lv_goto (tgt := 125) hx hb dX5_look_121 (by decide) ?_
                    refine lv_iadd hx hb dX5_look_125 ?_
                    refine lv_istore (lv' := [(4, .int (v4_98 + 1)), (0, .ref (ad 5)), (1, .int a1), (2, .int r_76), (3, .int v3_87), (5, .int v5_98)]) hx hb dX5_look_126 hl (by decide) rfl (fun ls hl => ?_)
                    refine lv_iinc (v := v5_98 + 1) (lv' := [(5, .int (v5_98 + 1)), (4, .int (v4_98 + 1)), (0, .ref (ad 5)), (1, .int a1), (2, .int r_76), (3, .int v3_87)]) hx hb dX5_look_128 hl (k := 5) rfl rfl (by decide) rfl (fun ls hl => ?_)
                    refine lv_goto (tgt := 98) hx hb dX5_look_131 (by decide) ?_
                    obtain rfl := Option.some.inj h
                    exact ih_98 (v4_98 + 1) (v5_98 + 1) H locs ls hlp_98 hP hD hS (lv_sub hl [2, 3, 4, 5, 1, 0] rfl)
            exact hL_98 1000000 0 0 H locs ls hex_98 hP hD hS (lv_sub hl [2, 3, 4, 5, 1, 0] rfl)
      exact hL_87 1000000 0 0 H locs ls hex_87 hP hD hS (lv_sub hl [2, 3, 1, 0] rfl)
    have hL_15 : ∀ (n : Nat) (v2_15 : Int32) (M_alive_15 : Nat → Int32) (M_its_15 : Nat → Int32) (H : Heap) (locs : List Loc) (ls : Array Slot), ox_l (fn_X5_look_l15 M_states M_isReached_10 M_asks a1) n (v2_15, M_alive_15, M_its_15) = some ex_15 → va_P D vwCl [(kM ad M_thrown M_states M_moves M_known_10 M_come_10 M_lookedAt M_parts M_whole), (kI cI (ad 32) 200 M_asks), (kI cI (ad 33) 600 M_from), (kI cI (ad 34) 600 M_to), (kI cI (ad 35) 600 M_labelOf), (kI cI (ad 36) 16 M_how), (kI cI (ad 37) 200 M_first), (kI cI (ad 39) 600 M_next), (kI cI (ad 41) 200 M_queue_10), (kI cI (ad 42) 200 M_by_10), (kZ cZ (ad 44) 200 M_isReached_10), (kZ cZ (ad 45) 200 M_alive_15), (kZ cZ (ad 46) 40000 M_reach), (kZ cZ (ad 47) 200 M_its_15), (kI cI (ad 49) 200 M_partOf)] H → va_D A [(kM ad M_thrown M_states M_moves M_known_10 M_come_10 M_lookedAt M_parts M_whole), (kI cI (ad 32) 200 M_asks), (kI cI (ad 33) 600 M_from), (kI cI (ad 34) 600 M_to), (kI cI (ad 35) 600 M_labelOf), (kI cI (ad 36) 16 M_how), (kI cI (ad 37) 200 M_first), (kI cI (ad 39) 600 M_next), (kI cI (ad 41) 200 M_queue_10), (kI cI (ad 42) 200 M_by_10), (kZ cZ (ad 44) 200 M_isReached_10), (kZ cZ (ad 45) 200 M_alive_15), (kZ cZ (ad 46) 40000 M_reach), (kZ cZ (ad 47) 200 M_its_15), (kI cI (ad 49) 200 M_partOf)] → va_S A s.heap H locs → lv_has ls 6 [(0, .ref (ad 5)), (1, .int a1), (2, .int v2_15)] → W p l e { frames := 3, cells := 0, slots := 0, locals := 75 } s m ([.ref (ad 5), .int a1] : List Value).toArray below meth c H locs 0 0 Q (F0 m 15 ls []) := by
      intro n
      induction n with
      | zero => intro v2_15 M_alive_15 M_its_15 H locs ls hlp; exact ox_l_0 hlp
      | succ n ih_15 =>
        intro v2_15 M_alive_15 M_its_15 H locs ls hlp_15 hP hD hS hl
        obtain ⟨z_15, h, hlp_15⟩ := ox_l_of hlp_15
        refine lv_iload_n hx hb dX5_look_15 rfl (lv_at hl 2 rfl) ?_
        refine lv_aload_n hx hb dX5_look_16 rfl (lv_at hl 0 rfl) ?_
        refine va_get (D := D) (ci := 5) (v := .int M_states) (C := RX5) (T := TX5) (N := 27) hx hb hts hiX5 hown hK hP 0 rfl rfl 1 (by decide) hk4 (fun _ h9 => h9) rfl dX5_look_17 ?_
        refine lv_icmp_ge (tgt := 75) hx hb dX5_look_20 (by decide) (fun c_20 => ?_) (fun c_20 => ?_)
        · have h := ox_t c_20 h
          obtain rfl := Option.some.inj h
          exact hX_15 v2_15 M_alive_15 M_its_15 H locs ls hlp_15 hP hD hS (lv_sub hl [0, 1] rfl)
        · have h := ox_f c_20 h
          refine lv_aload_n hx hb dX5_look_23 rfl (lv_at hl 0 rfl) ?_
          refine va_get (D := D) (ci := 5) (v := .ref (ad 47)) (C := RX5) (T := TX5) (N := 27) hx hb hts hiX5 hown hK hP 0 rfl rfl 21 (by decide) hk6 (fun _ h9 => h9) rfl dX5_look_24 ?_
          refine lv_iload_n hx hb dX5_look_27 rfl (lv_at hl 2 rfl) ?_
          refine lv_aload_n hx hb dX5_look_28 rfl (lv_at hl 0 rfl) ?_
          refine va_get (D := D) (ci := 5) (v := .ref (ad 44)) (C := RX5) (T := TX5) (N := 27) hx hb hts hiX5 hown hK hP 0 rfl rfl 17 (by decide) hk7 (fun _ h9 => h9) rfl dX5_look_29 ?_
          refine lv_iload_n hx hb dX5_look_32 rfl (lv_at hl 2 rfl) ?_
          obtain ⟨hi_33, h⟩ := ox_i_of h
          refine va_zald hx hb hK hP 10 1 rfl rfl hi_33 dX5_look_33 ?_
          refine lv_if_eq (tgt := 55) hx hb dX5_look_34 (by decide) (fun c_34 => ?_) (fun c_34 => ?_)
          · have h := ox_t c_34 h
            refine lv_iconst (v := 0) hx hb dX5_look_55 (by decide) ?_
            obtain ⟨hi_56, h⟩ := ox_i_of h
            refine va_zast hx hb hK hP hD hS 13 1 rfl rfl hi_56 dX5_look_56 (fun H locs hP hD hS => ?_)
            have hP : va_P D vwCl [(kM ad M_thrown M_states M_moves M_known_10 M_come_10 M_lookedAt M_parts M_whole), (kI cI (ad 32) 200 M_asks), (kI cI (ad 33) 600 M_from), (kI cI (ad 34) 600 M_to), (kI cI (ad 35) 600 M_labelOf), (kI cI (ad 36) 16 M_how), (kI cI (ad 37) 200 M_first), (kI cI (ad 39) 600 M_next), (kI cI (ad 41) 200 M_queue_10), (kI cI (ad 42) 200 M_by_10), (kZ cZ (ad 44) 200 M_isReached_10), (kZ cZ (ad 45) 200 M_alive_15), (kZ cZ (ad 46) 40000 M_reach), (kZ cZ (ad 47) 200 (upd M_its_15 v2_15.toNatClampNeg (vp_nar .boolean 0))), (kI cI (ad 49) 200 M_partOf)] H := hP
            have hD : va_D A [(kM ad M_thrown M_states M_moves M_known_10 M_come_10 M_lookedAt M_parts M_whole), (kI cI (ad 32) 200 M_asks), (kI cI (ad 33) 600 M_from), (kI cI (ad 34) 600 M_to), (kI cI (ad 35) 600 M_labelOf), (kI cI (ad 36) 16 M_how), (kI cI (ad 37) 200 M_first), (kI cI (ad 39) 600 M_next), (kI cI (ad 41) 200 M_queue_10), (kI cI (ad 42) 200 M_by_10), (kZ cZ (ad 44) 200 M_isReached_10), (kZ cZ (ad 45) 200 M_alive_15), (kZ cZ (ad 46) 40000 M_reach), (kZ cZ (ad 47) 200 (upd M_its_15 v2_15.toNatClampNeg (vp_nar .boolean 0))), (kI cI (ad 49) 200 M_partOf)] := hD
            refine lv_aload_n hx hb dX5_look_57 rfl (lv_at hl 0 rfl) ?_
            refine va_get (D := D) (ci := 5) (v := .ref (ad 45)) (C := RX5) (T := TX5) (N := 27) hx hb hts hiX5 hown hK hP 0 rfl rfl 19 (by decide) hk8 (fun _ h9 => h9) rfl dX5_look_58 ?_
            refine lv_iload_n hx hb dX5_look_61 rfl (lv_at hl 2 rfl) ?_
            refine lv_aload_n hx hb dX5_look_62 rfl (lv_at hl 0 rfl) ?_
            refine va_get (D := D) (ci := 5) (v := .ref (ad 47)) (C := RX5) (T := TX5) (N := 27) hx hb hts hiX5 hown hK hP 0 rfl rfl 21 (by decide) hk6 (fun _ h9 => h9) rfl dX5_look_63 ?_
            refine lv_iload_n hx hb dX5_look_66 rfl (lv_at hl 2 rfl) ?_
            obtain ⟨hi_67, h⟩ := ox_i_of h
            refine va_zald hx hb hK hP 13 1 rfl rfl hi_67 dX5_look_67 ?_
            obtain ⟨hi_68, h⟩ := ox_i_of h
            refine va_zast hx hb hK hP hD hS 11 1 rfl rfl hi_68 dX5_look_68 (fun H locs hP hD hS => ?_)
            have hP : va_P D vwCl [(kM ad M_thrown M_states M_moves M_known_10 M_come_10 M_lookedAt M_parts M_whole), (kI cI (ad 32) 200 M_asks), (kI cI (ad 33) 600 M_from), (kI cI (ad 34) 600 M_to), (kI cI (ad 35) 600 M_labelOf), (kI cI (ad 36) 16 M_how), (kI cI (ad 37) 200 M_first), (kI cI (ad 39) 600 M_next), (kI cI (ad 41) 200 M_queue_10), (kI cI (ad 42) 200 M_by_10), (kZ cZ (ad 44) 200 M_isReached_10), (kZ cZ (ad 45) 200 (upd M_alive_15 v2_15.toNatClampNeg (vp_nar .boolean ((upd M_its_15 v2_15.toNatClampNeg (vp_nar .boolean 0)) v2_15.toNatClampNeg)))), (kZ cZ (ad 46) 40000 M_reach), (kZ cZ (ad 47) 200 (upd M_its_15 v2_15.toNatClampNeg (vp_nar .boolean 0))), (kI cI (ad 49) 200 M_partOf)] H := hP
            have hD : va_D A [(kM ad M_thrown M_states M_moves M_known_10 M_come_10 M_lookedAt M_parts M_whole), (kI cI (ad 32) 200 M_asks), (kI cI (ad 33) 600 M_from), (kI cI (ad 34) 600 M_to), (kI cI (ad 35) 600 M_labelOf), (kI cI (ad 36) 16 M_how), (kI cI (ad 37) 200 M_first), (kI cI (ad 39) 600 M_next), (kI cI (ad 41) 200 M_queue_10), (kI cI (ad 42) 200 M_by_10), (kZ cZ (ad 44) 200 M_isReached_10), (kZ cZ (ad 45) 200 (upd M_alive_15 v2_15.toNatClampNeg (vp_nar .boolean ((upd M_its_15 v2_15.toNatClampNeg (vp_nar .boolean 0)) v2_15.toNatClampNeg)))), (kZ cZ (ad 46) 40000 M_reach), (kZ cZ (ad 47) 200 (upd M_its_15 v2_15.toNatClampNeg (vp_nar .boolean 0))), (kI cI (ad 49) 200 M_partOf)] := hD
            refine lv_iinc (v := v2_15 + 1) (lv' := [(2, .int (v2_15 + 1)), (0, .ref (ad 5)), (1, .int a1)]) hx hb dX5_look_69 hl (k := 2) rfl rfl (by decide) rfl (fun ls hl => ?_)
            refine lv_goto (tgt := 15) hx hb dX5_look_72 (by decide) ?_
            obtain rfl := Option.some.inj h
            exact ih_15 (v2_15 + 1) (upd M_alive_15 v2_15.toNatClampNeg (vp_nar .boolean ((upd M_its_15 v2_15.toNatClampNeg (vp_nar .boolean 0)) v2_15.toNatClampNeg))) (upd M_its_15 v2_15.toNatClampNeg (vp_nar .boolean 0)) H locs ls hlp_15 hP hD hS (lv_sub hl [1, 2, 0] rfl)
          · have h := ox_f c_34 h
            refine lv_aload_n hx hb dX5_look_37 rfl (lv_at hl 0 rfl) ?_
            refine va_get (D := D) (ci := 5) (v := .ref (ad 32)) (C := RX5) (T := TX5) (N := 27) hx hb hts hiX5 hown hK hP 0 rfl rfl 3 (by decide) hk9 (fun _ h9 => h9) rfl dX5_look_38 ?_
            refine lv_iload_n hx hb dX5_look_41 rfl (lv_at hl 2 rfl) ?_
            obtain ⟨hi_42, h⟩ := ox_i_of h
            refine va_iald hx hb hK hP 1 0 rfl rfl hi_42 dX5_look_42 ?_
            refine lv_iload_n hx hb dX5_look_43 rfl (lv_at hl 1 rfl) ?_
            refine lv_ishr hx hb dX5_look_44 ?_
            refine lv_iconst (v := 1) hx hb dX5_look_45 (by decide) ?_
            refine lv_iand hx hb dX5_look_46 ?_
            refine lv_iconst (v := 1) hx hb dX5_look_47 (by decide) ?_
            refine lv_icmp_ne (tgt := 55) hx hb dX5_look_48 (by decide) (fun c_48 => ?_) (fun c_48 => ?_)
            · have h := ox_f c_48 h
              refine lv_iconst (v := 0) hx hb dX5_look_55 (by decide) ?_
              obtain ⟨hi_56, h⟩ := ox_i_of h
              refine va_zast hx hb hK hP hD hS 13 1 rfl rfl hi_56 dX5_look_56 (fun H locs hP hD hS => ?_)
              have hP : va_P D vwCl [(kM ad M_thrown M_states M_moves M_known_10 M_come_10 M_lookedAt M_parts M_whole), (kI cI (ad 32) 200 M_asks), (kI cI (ad 33) 600 M_from), (kI cI (ad 34) 600 M_to), (kI cI (ad 35) 600 M_labelOf), (kI cI (ad 36) 16 M_how), (kI cI (ad 37) 200 M_first), (kI cI (ad 39) 600 M_next), (kI cI (ad 41) 200 M_queue_10), (kI cI (ad 42) 200 M_by_10), (kZ cZ (ad 44) 200 M_isReached_10), (kZ cZ (ad 45) 200 M_alive_15), (kZ cZ (ad 46) 40000 M_reach), (kZ cZ (ad 47) 200 (upd M_its_15 v2_15.toNatClampNeg (vp_nar .boolean 0))), (kI cI (ad 49) 200 M_partOf)] H := hP
              have hD : va_D A [(kM ad M_thrown M_states M_moves M_known_10 M_come_10 M_lookedAt M_parts M_whole), (kI cI (ad 32) 200 M_asks), (kI cI (ad 33) 600 M_from), (kI cI (ad 34) 600 M_to), (kI cI (ad 35) 600 M_labelOf), (kI cI (ad 36) 16 M_how), (kI cI (ad 37) 200 M_first), (kI cI (ad 39) 600 M_next), (kI cI (ad 41) 200 M_queue_10), (kI cI (ad 42) 200 M_by_10), (kZ cZ (ad 44) 200 M_isReached_10), (kZ cZ (ad 45) 200 M_alive_15), (kZ cZ (ad 46) 40000 M_reach), (kZ cZ (ad 47) 200 (upd M_its_15 v2_15.toNatClampNeg (vp_nar .boolean 0))), (kI cI (ad 49) 200 M_partOf)] := hD
              refine lv_aload_n hx hb dX5_look_57 rfl (lv_at hl 0 rfl) ?_
              refine va_get (D := D) (ci := 5) (v := .ref (ad 45)) (C := RX5) (T := TX5) (N := 27) hx hb hts hiX5 hown hK hP 0 rfl rfl 19 (by decide) hk8 (fun _ h9 => h9) rfl dX5_look_58 ?_
              refine lv_iload_n hx hb dX5_look_61 rfl (lv_at hl 2 rfl) ?_
              refine lv_aload_n hx hb dX5_look_62 rfl (lv_at hl 0 rfl) ?_
              refine va_get (D := D) (ci := 5) (v := .ref (ad 47)) (C := RX5) (T := TX5) (N := 27) hx hb hts hiX5 hown hK hP 0 rfl rfl 21 (by decide) hk6 (fun _ h9 => h9) rfl dX5_look_63 ?_
              refine lv_iload_n hx hb dX5_look_66 rfl (lv_at hl 2 rfl) ?_
              obtain ⟨hi_67, h⟩ := ox_i_of h
              refine va_zald hx hb hK hP 13 1 rfl rfl hi_67 dX5_look_67 ?_
              obtain ⟨hi_68, h⟩ := ox_i_of h
              refine va_zast hx hb hK hP hD hS 11 1 rfl rfl hi_68 dX5_look_68 (fun H locs hP hD hS => ?_)
              have hP : va_P D vwCl [(kM ad M_thrown M_states M_moves M_known_10 M_come_10 M_lookedAt M_parts M_whole), (kI cI (ad 32) 200 M_asks), (kI cI (ad 33) 600 M_from), (kI cI (ad 34) 600 M_to), (kI cI (ad 35) 600 M_labelOf), (kI cI (ad 36) 16 M_how), (kI cI (ad 37) 200 M_first), (kI cI (ad 39) 600 M_next), (kI cI (ad 41) 200 M_queue_10), (kI cI (ad 42) 200 M_by_10), (kZ cZ (ad 44) 200 M_isReached_10), (kZ cZ (ad 45) 200 (upd M_alive_15 v2_15.toNatClampNeg (vp_nar .boolean ((upd M_its_15 v2_15.toNatClampNeg (vp_nar .boolean 0)) v2_15.toNatClampNeg)))), (kZ cZ (ad 46) 40000 M_reach), (kZ cZ (ad 47) 200 (upd M_its_15 v2_15.toNatClampNeg (vp_nar .boolean 0))), (kI cI (ad 49) 200 M_partOf)] H := hP
              have hD : va_D A [(kM ad M_thrown M_states M_moves M_known_10 M_come_10 M_lookedAt M_parts M_whole), (kI cI (ad 32) 200 M_asks), (kI cI (ad 33) 600 M_from), (kI cI (ad 34) 600 M_to), (kI cI (ad 35) 600 M_labelOf), (kI cI (ad 36) 16 M_how), (kI cI (ad 37) 200 M_first), (kI cI (ad 39) 600 M_next), (kI cI (ad 41) 200 M_queue_10), (kI cI (ad 42) 200 M_by_10), (kZ cZ (ad 44) 200 M_isReached_10), (kZ cZ (ad 45) 200 (upd M_alive_15 v2_15.toNatClampNeg (vp_nar .boolean ((upd M_its_15 v2_15.toNatClampNeg (vp_nar .boolean 0)) v2_15.toNatClampNeg)))), (kZ cZ (ad 46) 40000 M_reach), (kZ cZ (ad 47) 200 (upd M_its_15 v2_15.toNatClampNeg (vp_nar .boolean 0))), (kI cI (ad 49) 200 M_partOf)] := hD
              refine lv_iinc (v := v2_15 + 1) (lv' := [(2, .int (v2_15 + 1)), (0, .ref (ad 5)), (1, .int a1)]) hx hb dX5_look_69 hl (k := 2) rfl rfl (by decide) rfl (fun ls hl => ?_)
              refine lv_goto (tgt := 15) hx hb dX5_look_72 (by decide) ?_
              obtain rfl := Option.some.inj h
              exact ih_15 (v2_15 + 1) (upd M_alive_15 v2_15.toNatClampNeg (vp_nar .boolean ((upd M_its_15 v2_15.toNatClampNeg (vp_nar .boolean 0)) v2_15.toNatClampNeg))) (upd M_its_15 v2_15.toNatClampNeg (vp_nar .boolean 0)) H locs ls hlp_15 hP hD hS (lv_sub hl [1, 2, 0] rfl)
            · have h := ox_t c_48 h
              refine lv_iconst (v := 1) hx hb dX5_look_51 (by decide) ?_
              refine lv_goto (tgt := 56) hx hb dX5_look_52 (by decide) ?_
              obtain ⟨hi_56, h⟩ := ox_i_of h
              refine va_zast hx hb hK hP hD hS 13 1 rfl rfl hi_56 dX5_look_56 (fun H locs hP hD hS => ?_)
              have hP : va_P D vwCl [(kM ad M_thrown M_states M_moves M_known_10 M_come_10 M_lookedAt M_parts M_whole), (kI cI (ad 32) 200 M_asks), (kI cI (ad 33) 600 M_from), (kI cI (ad 34) 600 M_to), (kI cI (ad 35) 600 M_labelOf), (kI cI (ad 36) 16 M_how), (kI cI (ad 37) 200 M_first), (kI cI (ad 39) 600 M_next), (kI cI (ad 41) 200 M_queue_10), (kI cI (ad 42) 200 M_by_10), (kZ cZ (ad 44) 200 M_isReached_10), (kZ cZ (ad 45) 200 M_alive_15), (kZ cZ (ad 46) 40000 M_reach), (kZ cZ (ad 47) 200 (upd M_its_15 v2_15.toNatClampNeg (vp_nar .boolean 1))), (kI cI (ad 49) 200 M_partOf)] H := hP
              have hD : va_D A [(kM ad M_thrown M_states M_moves M_known_10 M_come_10 M_lookedAt M_parts M_whole), (kI cI (ad 32) 200 M_asks), (kI cI (ad 33) 600 M_from), (kI cI (ad 34) 600 M_to), (kI cI (ad 35) 600 M_labelOf), (kI cI (ad 36) 16 M_how), (kI cI (ad 37) 200 M_first), (kI cI (ad 39) 600 M_next), (kI cI (ad 41) 200 M_queue_10), (kI cI (ad 42) 200 M_by_10), (kZ cZ (ad 44) 200 M_isReached_10), (kZ cZ (ad 45) 200 M_alive_15), (kZ cZ (ad 46) 40000 M_reach), (kZ cZ (ad 47) 200 (upd M_its_15 v2_15.toNatClampNeg (vp_nar .boolean 1))), (kI cI (ad 49) 200 M_partOf)] := hD
              refine lv_aload_n hx hb dX5_look_57 rfl (lv_at hl 0 rfl) ?_
              refine va_get (D := D) (ci := 5) (v := .ref (ad 45)) (C := RX5) (T := TX5) (N := 27) hx hb hts hiX5 hown hK hP 0 rfl rfl 19 (by decide) hk8 (fun _ h9 => h9) rfl dX5_look_58 ?_
              refine lv_iload_n hx hb dX5_look_61 rfl (lv_at hl 2 rfl) ?_
              refine lv_aload_n hx hb dX5_look_62 rfl (lv_at hl 0 rfl) ?_
              refine va_get (D := D) (ci := 5) (v := .ref (ad 47)) (C := RX5) (T := TX5) (N := 27) hx hb hts hiX5 hown hK hP 0 rfl rfl 21 (by decide) hk6 (fun _ h9 => h9) rfl dX5_look_63 ?_
              refine lv_iload_n hx hb dX5_look_66 rfl (lv_at hl 2 rfl) ?_
              obtain ⟨hi_67, h⟩ := ox_i_of h
              refine va_zald hx hb hK hP 13 1 rfl rfl hi_67 dX5_look_67 ?_
              obtain ⟨hi_68, h⟩ := ox_i_of h
              refine va_zast hx hb hK hP hD hS 11 1 rfl rfl hi_68 dX5_look_68 (fun H locs hP hD hS => ?_)
              have hP : va_P D vwCl [(kM ad M_thrown M_states M_moves M_known_10 M_come_10 M_lookedAt M_parts M_whole), (kI cI (ad 32) 200 M_asks), (kI cI (ad 33) 600 M_from), (kI cI (ad 34) 600 M_to), (kI cI (ad 35) 600 M_labelOf), (kI cI (ad 36) 16 M_how), (kI cI (ad 37) 200 M_first), (kI cI (ad 39) 600 M_next), (kI cI (ad 41) 200 M_queue_10), (kI cI (ad 42) 200 M_by_10), (kZ cZ (ad 44) 200 M_isReached_10), (kZ cZ (ad 45) 200 (upd M_alive_15 v2_15.toNatClampNeg (vp_nar .boolean ((upd M_its_15 v2_15.toNatClampNeg (vp_nar .boolean 1)) v2_15.toNatClampNeg)))), (kZ cZ (ad 46) 40000 M_reach), (kZ cZ (ad 47) 200 (upd M_its_15 v2_15.toNatClampNeg (vp_nar .boolean 1))), (kI cI (ad 49) 200 M_partOf)] H := hP
              have hD : va_D A [(kM ad M_thrown M_states M_moves M_known_10 M_come_10 M_lookedAt M_parts M_whole), (kI cI (ad 32) 200 M_asks), (kI cI (ad 33) 600 M_from), (kI cI (ad 34) 600 M_to), (kI cI (ad 35) 600 M_labelOf), (kI cI (ad 36) 16 M_how), (kI cI (ad 37) 200 M_first), (kI cI (ad 39) 600 M_next), (kI cI (ad 41) 200 M_queue_10), (kI cI (ad 42) 200 M_by_10), (kZ cZ (ad 44) 200 M_isReached_10), (kZ cZ (ad 45) 200 (upd M_alive_15 v2_15.toNatClampNeg (vp_nar .boolean ((upd M_its_15 v2_15.toNatClampNeg (vp_nar .boolean 1)) v2_15.toNatClampNeg)))), (kZ cZ (ad 46) 40000 M_reach), (kZ cZ (ad 47) 200 (upd M_its_15 v2_15.toNatClampNeg (vp_nar .boolean 1))), (kI cI (ad 49) 200 M_partOf)] := hD
              refine lv_iinc (v := v2_15 + 1) (lv' := [(2, .int (v2_15 + 1)), (0, .ref (ad 5)), (1, .int a1)]) hx hb dX5_look_69 hl (k := 2) rfl rfl (by decide) rfl (fun ls hl => ?_)
              refine lv_goto (tgt := 15) hx hb dX5_look_72 (by decide) ?_
              obtain rfl := Option.some.inj h
              exact ih_15 (v2_15 + 1) (upd M_alive_15 v2_15.toNatClampNeg (vp_nar .boolean ((upd M_its_15 v2_15.toNatClampNeg (vp_nar .boolean 1)) v2_15.toNatClampNeg))) (upd M_its_15 v2_15.toNatClampNeg (vp_nar .boolean 1)) H locs ls hlp_15 hP hD hS (lv_sub hl [1, 2, 0] rfl)
    exact hL_15 1000000 0 M_alive M_its H locs ls hex_15 hP hD hS (lv_sub hl [1, 2, 0] rfl)
  · have h := ox_t c_5 h
    have h := Option.some.inj h
    subst h
    exact hend H locs _ ls hP hD hS dX5_look_8 trivial
set_option maxHeartbeats 4000000 in
set_option maxRecDepth 100000 in
theorem c_X5_isAsk (l : Launch) (D : va_G) (cI cZ : ClassId) (ad : Nat → Nat) (M_thrown : Int32) (M_states : Int32) (M_moves : Int32) (M_known : Int32) (M_come : Int32) (M_lookedAt : Int32) (M_parts : Int32) (M_whole : Int32) (a1 : Int32) (res : Int32 × Int32) (h : fn_X5_isAsk M_thrown a1 = some res) : mc_C l yX5_isAsk wv_X5_isAsk { frames := 0, cells := 0, slots := 0, locals := 0 } D [(cI, .int), (cZ, .boolean)] [.ref (ad 5), .int a1] [(kM ad M_thrown M_states M_moves M_known M_come M_lookedAt M_parts M_whole)] (some (.int res.1)) [(kM ad res.2 M_states M_moves M_known M_come M_lookedAt M_parts M_whole)] := by
  refine mc_ofz (own := RX5) (by decide) rfl rfl (Nat.le_of_ble_eq_true rfl) ?_
  intro p e s m below meth c A Q ls hx hb hml hown hts hK hP hD hA hl hend
  have hS : va_S A s.heap s.heap [] := va_S.rf
  have hl : lv_has ls 2 [(0, .ref (ad 5)), (1, .int a1)] := hl
  obtain ⟨H, hH⟩ : ∃ H, H = s.heap := ⟨_, rfl⟩
  obtain ⟨locs, hlo⟩ : ∃ locs : List Loc, locs = [] := ⟨_, rfl⟩
  have hS : va_S A s.heap H locs := by rw [hH, hlo]; exact hS
  have hP : va_P D vwCl [(kM ad M_thrown M_states M_moves M_known M_come M_lookedAt M_parts M_whole)] H := by rw [hH]; exact hP
  suffices h9 : W p l e { frames := 0, cells := 0, slots := 0, locals := 0 } s m ([.ref (ad 5), .int a1] : List Value).toArray below meth c H locs 0 0 Q (F0 m 0 ls []) by rw [hH, hlo] at h9; exact h9
  clear hH hlo
  have hiX5 : ∀ w ∈ wsX50, w ∈ wv_X5_isAsk := fun w h => List.mem_cons_of_mem _ (inlX5 w h)
  have hk0 := hts (.fieldLink RX5 73 "FairLoopsModel" "thrown" "I") (List.mem_cons_of_mem _ wk_121)
  refine lv_aload_n hx hb dX5_isAsk_0 rfl (lv_at hl 0 rfl) ?_
  refine lv_iload_n hx hb dX5_isAsk_1 rfl (lv_at hl 1 rfl) ?_
  refine lv_if_lt (tgt := 11) hx hb dX5_isAsk_2 (by decide) (fun c_2 => ?_) (fun c_2 => ?_)
  · have h := ox_t c_2 h
    refine lv_iconst (v := 1) hx hb dX5_isAsk_11 (by decide) ?_
    refine lv_goto (tgt := 16) hx hb dX5_isAsk_12 (by decide) ?_
    refine va_put (D := D) (ci := 5) (v := .int 1) (ty := .int) (C := RX5) (T := TX5) (N := 27) hx hb hts hiX5 tyX5 tyX5_ok nmX5 hown hK hP hD hS 0 rfl rfl 0 (by decide) hk0 (fun _ h9 => h9) rfl (by decide +kernel) rfl rfl (Nat.le_of_ble_eq_true rfl) dX5_isAsk_16 (fun H locs hP hD hS => ?_)
    have hP : va_P D vwCl [(kM ad 1 M_states M_moves M_known M_come M_lookedAt M_parts M_whole)] H := hP
    have hD : va_D A [(kM ad 1 M_states M_moves M_known M_come M_lookedAt M_parts M_whole)] := hD
    refine lv_aload_n hx hb dX5_isAsk_19 rfl (lv_at hl 0 rfl) ?_
    refine va_get (D := D) (ci := 5) (v := .int 1) (C := RX5) (T := TX5) (N := 27) hx hb hts hiX5 hown hK hP 0 rfl rfl 0 (by decide) hk0 (fun _ h9 => h9) rfl dX5_isAsk_20 ?_
    refine lv_if_ne (tgt := 30) hx hb dX5_isAsk_23 (by decide) (fun c_23 => ?_) (fun c_23 => ?_)
    · skip
      refine lv_iconst (v := 0) hx hb dX5_isAsk_30 (by decide) ?_
      have h := Option.some.inj h
      subst h
      exact hend H locs _ ls hP hD hS dX5_isAsk_31 nb_0
    · exact absurd c_23 (by decide)
  · have h := ox_f c_2 h
    refine lv_iload_n hx hb dX5_isAsk_5 rfl (lv_at hl 1 rfl) ?_
    refine lv_bipush (v := 7) hx hb dX5_isAsk_6 (by decide) ?_
    refine lv_icmp_le (tgt := 15) hx hb dX5_isAsk_8 (by decide) (fun c_8 => ?_) (fun c_8 => ?_)
    · have h := ox_t c_8 h
      refine lv_iconst (v := 0) hx hb dX5_isAsk_15 (by decide) ?_
      refine va_put (D := D) (ci := 5) (v := .int 0) (ty := .int) (C := RX5) (T := TX5) (N := 27) hx hb hts hiX5 tyX5 tyX5_ok nmX5 hown hK hP hD hS 0 rfl rfl 0 (by decide) hk0 (fun _ h9 => h9) rfl (by decide +kernel) rfl rfl (Nat.le_of_ble_eq_true rfl) dX5_isAsk_16 (fun H locs hP hD hS => ?_)
      have hP : va_P D vwCl [(kM ad 0 M_states M_moves M_known M_come M_lookedAt M_parts M_whole)] H := hP
      have hD : va_D A [(kM ad 0 M_states M_moves M_known M_come M_lookedAt M_parts M_whole)] := hD
      refine lv_aload_n hx hb dX5_isAsk_19 rfl (lv_at hl 0 rfl) ?_
      refine va_get (D := D) (ci := 5) (v := .int 0) (C := RX5) (T := TX5) (N := 27) hx hb hts hiX5 hown hK hP 0 rfl rfl 0 (by decide) hk0 (fun _ h9 => h9) rfl dX5_isAsk_20 ?_
      refine lv_if_ne (tgt := 30) hx hb dX5_isAsk_23 (by decide) (fun c_23 => ?_) (fun c_23 => ?_)
      · exact absurd c_23 (by decide)
      · skip
        refine lv_iconst (v := 1) hx hb dX5_isAsk_26 (by decide) ?_
        refine lv_goto (tgt := 31) hx hb dX5_isAsk_27 (by decide) ?_
        have h := Option.some.inj h
        subst h
        exact hend H locs _ ls hP hD hS dX5_isAsk_31 nb_1
    · have h := ox_f c_8 h
      refine lv_iconst (v := 1) hx hb dX5_isAsk_11 (by decide) ?_
      refine lv_goto (tgt := 16) hx hb dX5_isAsk_12 (by decide) ?_
      refine va_put (D := D) (ci := 5) (v := .int 1) (ty := .int) (C := RX5) (T := TX5) (N := 27) hx hb hts hiX5 tyX5 tyX5_ok nmX5 hown hK hP hD hS 0 rfl rfl 0 (by decide) hk0 (fun _ h9 => h9) rfl (by decide +kernel) rfl rfl (Nat.le_of_ble_eq_true rfl) dX5_isAsk_16 (fun H locs hP hD hS => ?_)
      have hP : va_P D vwCl [(kM ad 1 M_states M_moves M_known M_come M_lookedAt M_parts M_whole)] H := hP
      have hD : va_D A [(kM ad 1 M_states M_moves M_known M_come M_lookedAt M_parts M_whole)] := hD
      refine lv_aload_n hx hb dX5_isAsk_19 rfl (lv_at hl 0 rfl) ?_
      refine va_get (D := D) (ci := 5) (v := .int 1) (C := RX5) (T := TX5) (N := 27) hx hb hts hiX5 hown hK hP 0 rfl rfl 0 (by decide) hk0 (fun _ h9 => h9) rfl dX5_isAsk_20 ?_
      refine lv_if_ne (tgt := 30) hx hb dX5_isAsk_23 (by decide) (fun c_23 => ?_) (fun c_23 => ?_)
      · skip
        refine lv_iconst (v := 0) hx hb dX5_isAsk_30 (by decide) ?_
        have h := Option.some.inj h
        subst h
        exact hend H locs _ ls hP hD hS dX5_isAsk_31 nb_0
      · exact absurd c_23 (by decide)
set_option maxHeartbeats 4000000 in
set_option maxRecDepth 100000 in
theorem c_X5_begins (l : Launch) (D : va_G) (cI cZ : ClassId) (ad : Nat → Nat) (M_thrown : Int32) (M_states : Int32) (M_moves : Int32) (M_known : Int32) (M_come : Int32) (M_lookedAt : Int32) (M_parts : Int32) (M_whole : Int32) (M_first : Nat → Int32) (a1 : Int32) (res : Int32) (h : fn_X5_begins M_first a1 = some res) : mc_C l yX5_begins wv_X5_begins { frames := 0, cells := 0, slots := 0, locals := 0 } D [(cI, .int), (cZ, .boolean)] [.ref (ad 5), .int a1] [(kM ad M_thrown M_states M_moves M_known M_come M_lookedAt M_parts M_whole), (kI cI (ad 37) 200 M_first)] (some (.int res)) [(kM ad M_thrown M_states M_moves M_known M_come M_lookedAt M_parts M_whole), (kI cI (ad 37) 200 M_first)] := by
  refine mc_ofz (own := RX5) (by decide) rfl rfl (Nat.le_of_ble_eq_true rfl) ?_
  intro p e s m below meth c A Q ls hx hb hml hown hts hK hP hD hA hl hend
  have hS : va_S A s.heap s.heap [] := va_S.rf
  have hl : lv_has ls 2 [(0, .ref (ad 5)), (1, .int a1)] := hl
  obtain ⟨H, hH⟩ : ∃ H, H = s.heap := ⟨_, rfl⟩
  obtain ⟨locs, hlo⟩ : ∃ locs : List Loc, locs = [] := ⟨_, rfl⟩
  have hS : va_S A s.heap H locs := by rw [hH, hlo]; exact hS
  have hP : va_P D vwCl [(kM ad M_thrown M_states M_moves M_known M_come M_lookedAt M_parts M_whole), (kI cI (ad 37) 200 M_first)] H := by rw [hH]; exact hP
  suffices h9 : W p l e { frames := 0, cells := 0, slots := 0, locals := 0 } s m ([.ref (ad 5), .int a1] : List Value).toArray below meth c H locs 0 0 Q (F0 m 0 ls []) by rw [hH, hlo] at h9; exact h9
  clear hH hlo
  have hiX5 : ∀ w ∈ wsX50, w ∈ wv_X5_begins := fun w h => List.mem_cons_of_mem _ (inlX5 w h)
  have hk0 := hts (.fieldLink RX5 25 "FairLoopsModel" "first" "[I") (List.mem_cons_of_mem _ wk_78)
  refine lv_aload_n hx hb dX5_begins_0 rfl (lv_at hl 0 rfl) ?_
  refine va_get (D := D) (ci := 5) (v := .ref (ad 37)) (C := RX5) (T := TX5) (N := 27) hx hb hts hiX5 hown hK hP 0 rfl rfl 8 (by decide) hk0 (fun _ h9 => h9) rfl dX5_begins_1 ?_
  refine lv_iload_n hx hb dX5_begins_4 rfl (lv_at hl 1 rfl) ?_
  obtain ⟨hi_5, h⟩ := ox_i_of h
  refine va_iald hx hb hK hP 1 0 rfl rfl hi_5 dX5_begins_5 ?_
  refine lv_iconst (v := (-1)) hx hb dX5_begins_6 (by decide) ?_
  refine lv_icmp_eq (tgt := 14) hx hb dX5_begins_7 (by decide) (fun c_7 => ?_) (fun c_7 => ?_)
  · have h := ox_t c_7 h
    refine lv_iconst (v := 0) hx hb dX5_begins_14 (by decide) ?_
    have h := Option.some.inj h
    subst h
    exact hend H locs _ ls hP hD hS dX5_begins_15 nb_0
  · have h := ox_f c_7 h
    refine lv_iconst (v := 1) hx hb dX5_begins_10 (by decide) ?_
    refine lv_goto (tgt := 15) hx hb dX5_begins_11 (by decide) ?_
    have h := Option.some.inj h
    subst h
    exact hend H locs _ ls hP hD hS dX5_begins_15 nb_1
set_option maxHeartbeats 4000000 in
set_option maxRecDepth 100000 in
theorem c_X5_isDead (l : Launch) (D : va_G) (cI cZ : ClassId) (ad : Nat → Nat) (M_thrown : Int32) (M_states : Int32) (M_moves : Int32) (M_known : Int32) (M_come : Int32) (M_lookedAt : Int32) (M_parts : Int32) (M_whole : Int32) (M_first : Nat → Int32) (M_end : Nat → Int32) (M_its : Nat → Int32) (a1 : Int32) (res : Int32) (h : fn_X5_isDead M_first M_end M_its a1 = some res) : mc_C l yX5_isDead wv_X5_isDead { frames := 1, cells := 0, slots := 0, locals := 21 } D [(cI, .int), (cZ, .boolean)] [.ref (ad 5), .int a1] [(kM ad M_thrown M_states M_moves M_known M_come M_lookedAt M_parts M_whole), (kI cI (ad 37) 200 M_first), (kZ cZ (ad 40) 200 M_end), (kZ cZ (ad 47) 200 M_its)] (some (.int res)) [(kM ad M_thrown M_states M_moves M_known M_come M_lookedAt M_parts M_whole), (kI cI (ad 37) 200 M_first), (kZ cZ (ad 40) 200 M_end), (kZ cZ (ad 47) 200 M_its)] := by
  refine mc_ofz (own := RX5) (by decide) rfl rfl (Nat.le_of_ble_eq_true rfl) ?_
  intro p e s m below meth c A Q ls hx hb hml hown hts hK hP hD hA hl hend
  have hS : va_S A s.heap s.heap [] := va_S.rf
  have hl : lv_has ls 2 [(0, .ref (ad 5)), (1, .int a1)] := hl
  obtain ⟨H, hH⟩ : ∃ H, H = s.heap := ⟨_, rfl⟩
  obtain ⟨locs, hlo⟩ : ∃ locs : List Loc, locs = [] := ⟨_, rfl⟩
  have hS : va_S A s.heap H locs := by rw [hH, hlo]; exact hS
  have hP : va_P D vwCl [(kM ad M_thrown M_states M_moves M_known M_come M_lookedAt M_parts M_whole), (kI cI (ad 37) 200 M_first), (kZ cZ (ad 40) 200 M_end), (kZ cZ (ad 47) 200 M_its)] H := by rw [hH]; exact hP
  suffices h9 : W p l e { frames := 1, cells := 0, slots := 0, locals := 21 } s m ([.ref (ad 5), .int a1] : List Value).toArray below meth c H locs 0 0 Q (F0 m 0 ls []) by rw [hH, hlo] at h9; exact h9
  clear hH hlo
  have hiX5 : ∀ w ∈ wsX50, w ∈ wv_X5_isDead := fun w h => List.mem_cons_of_mem _ (inlX5 w h)
  have hk0 := hts (.fieldLink RX5 61 "FairLoopsModel" "its" "[Z") (List.mem_cons_of_mem _ wk_90)
  have hk1 := hts (.fieldLink RX5 34 "FairLoopsModel" "end" "[Z") (List.mem_cons_of_mem _ wk_81)
  refine lv_aload_n hx hb dX5_isDead_0 rfl (lv_at hl 0 rfl) ?_
  refine va_get (D := D) (ci := 5) (v := .ref (ad 47)) (C := RX5) (T := TX5) (N := 27) hx hb hts hiX5 hown hK hP 0 rfl rfl 21 (by decide) hk0 (fun _ h9 => h9) rfl dX5_isDead_1 ?_
  refine lv_iload_n hx hb dX5_isDead_4 rfl (lv_at hl 1 rfl) ?_
  obtain ⟨hi_5, h⟩ := ox_i_of h
  refine va_zald hx hb hK hP 3 1 rfl rfl hi_5 dX5_isDead_5 ?_
  refine lv_if_eq (tgt := 30) hx hb dX5_isDead_6 (by decide) (fun c_6 => ?_) (fun c_6 => ?_)
  · have h := ox_t c_6 h
    refine lv_iconst (v := 0) hx hb dX5_isDead_30 (by decide) ?_
    have h := Option.some.inj h
    subst h
    exact hend H locs _ ls hP hD hS dX5_isDead_31 nb_0
  · have h := ox_f c_6 h
    refine lv_aload_n hx hb dX5_isDead_9 rfl (lv_at hl 0 rfl) ?_
    refine va_get (D := D) (ci := 5) (v := .ref (ad 40)) (C := RX5) (T := TX5) (N := 27) hx hb hts hiX5 hown hK hP 0 rfl rfl 11 (by decide) hk1 (fun _ h9 => h9) rfl dX5_isDead_10 ?_
    refine lv_iload_n hx hb dX5_isDead_13 rfl (lv_at hl 1 rfl) ?_
    obtain ⟨hi_14, h⟩ := ox_i_of h
    refine va_zald hx hb hK hP 2 1 rfl rfl hi_14 dX5_isDead_14 ?_
    refine lv_if_ne (tgt := 30) hx hb dX5_isDead_15 (by decide) (fun c_15 => ?_) (fun c_15 => ?_)
    · have h := ox_f c_15 h
      refine lv_iconst (v := 0) hx hb dX5_isDead_30 (by decide) ?_
      have h := Option.some.inj h
      subst h
      exact hend H locs _ ls hP hD hS dX5_isDead_31 nb_0
    · have h := ox_t c_15 h
      refine lv_aload_n hx hb dX5_isDead_18 rfl (lv_at hl 0 rfl) ?_
      refine lv_iload_n hx hb dX5_isDead_19 rfl (lv_at hl 1 rfl) ?_
      obtain ⟨r_20, hc_20, h⟩ := ox_b_of h
      refine mc_callV (As := [.int a1]) (rest := []) (b := ad 5) (Wc := [(kM ad M_thrown M_states M_moves M_known M_come M_lookedAt M_parts M_whole), (kI cI (ad 37) 200 M_first)]) (wr := [(kZ cZ (ad 40) 200 M_end), (kZ cZ (ad 47) 200 M_its)]) (W1 := [(kM ad M_thrown M_states M_moves M_known M_come M_lookedAt M_parts M_whole), (kI cI (ad 37) 200 M_first)]) (wn := [(kM ad M_thrown M_states M_moves M_known M_come M_lookedAt M_parts M_whole), (kI cI (ad 37) 200 M_first), (kZ cZ (ad 40) 200 M_end), (kZ cZ (ad 47) 200 M_its)]) (rv := some (.int r_20)) ⟨hx, hb, hml, hown, hts⟩ (c_X5_begins l D cI cZ ad M_thrown M_states M_moves M_known M_come M_lookedAt M_parts M_whole M_first a1 _ hc_20) (cwV 1 hts (gl_V wk_360 wk_361 wk_362 wk_5 wk_363) rfl rfl rfl (by decide +kernel) ⟨Nat.le_of_ble_eq_true rfl, Nat.le_of_ble_eq_true rfl⟩) hK hP hD hS hA 5 0 rfl rfl rfl [0, 1] [2, 3] [2, 3, 0, 1] rfl rfl (by decide) rfl (by decide) (by decide) rfl rfl (by decide) rfl rfl hl.1 (Nat.le_of_ble_eq_true rfl) dX5_isDead_20 ⟨Nat.zero_le _, Nat.zero_le _⟩ (fun H locs hP hD hS => ?_)
      show W p l e { frames := 1, cells := 0, slots := 0, locals := 21 } s m ([.ref (ad 5), .int a1] : List Value).toArray below meth c H locs 0 0 Q (F0 m 23 ls [.int r_20])
      refine lv_if_ne (tgt := 30) hx hb dX5_isDead_23 (by decide) (fun c_23 => ?_) (fun c_23 => ?_)
      · have h := ox_f c_23 h
        refine lv_iconst (v := 0) hx hb dX5_isDead_30 (by decide) ?_
        have h := Option.some.inj h
        subst h
        exact hend H locs _ ls hP hD hS dX5_isDead_31 nb_0
      · have h := ox_t c_23 h
        refine lv_iconst (v := 1) hx hb dX5_isDead_26 (by decide) ?_
        refine lv_goto (tgt := 31) hx hb dX5_isDead_27 (by decide) ?_
        have h := Option.some.inj h
        subst h
        exact hend H locs _ ls hP hD hS dX5_isDead_31 nb_1
set_option maxHeartbeats 4000000 in
set_option maxRecDepth 100000 in
theorem c_X5_isLive (l : Launch) (D : va_G) (cI cZ : ClassId) (ad : Nat → Nat) (M_thrown : Int32) (M_states : Int32) (M_moves : Int32) (M_known : Int32) (M_come : Int32) (M_lookedAt : Int32) (M_parts : Int32) (M_whole : Int32) (M_asks : Nat → Int32) (M_from : Nat → Int32) (M_to : Nat → Int32) (M_labelOf : Nat → Int32) (M_how : Nat → Int32) (M_first : Nat → Int32) (M_next : Nat → Int32) (M_end : Nat → Int32) (M_queue : Nat → Int32) (M_by : Nat → Int32) (M_isReached : Nat → Int32) (M_alive : Nat → Int32) (M_reach : Nat → Int32) (M_its : Nat → Int32) (M_partOf : Nat → Int32) (a1 : Int32) (res : Int32 × Int32 × Int32 × Int32 × Int32 × Int32 × (Nat → Int32) × (Nat → Int32) × (Nat → Int32) × (Nat → Int32) × (Nat → Int32) × (Nat → Int32) × (Nat → Int32)) (h : fn_X5_isLive M_states M_moves M_known M_come M_lookedAt M_parts M_whole M_asks M_from M_to M_labelOf M_how M_first M_next M_end M_queue M_by M_isReached M_alive M_reach M_its M_partOf a1 = some res) : mc_C l yX5_isLive wv_X5_isLive { frames := 4, cells := 0, slots := 0, locals := 100 } D [(cI, .int), (cZ, .boolean)] [.ref (ad 5), .int a1] [(kM ad M_thrown M_states M_moves M_known M_come M_lookedAt M_parts M_whole), (kI cI (ad 32) 200 M_asks), (kI cI (ad 33) 600 M_from), (kI cI (ad 34) 600 M_to), (kI cI (ad 35) 600 M_labelOf), (kI cI (ad 36) 16 M_how), (kI cI (ad 37) 200 M_first), (kI cI (ad 39) 600 M_next), (kZ cZ (ad 40) 200 M_end), (kI cI (ad 41) 200 M_queue), (kI cI (ad 42) 200 M_by), (kZ cZ (ad 44) 200 M_isReached), (kZ cZ (ad 45) 200 M_alive), (kZ cZ (ad 46) 40000 M_reach), (kZ cZ (ad 47) 200 M_its), (kI cI (ad 49) 200 M_partOf)] (some (.int res.1)) [(kM ad M_thrown M_states M_moves res.2.1 res.2.2.1 res.2.2.2.1 res.2.2.2.2.1 res.2.2.2.2.2.1), (kI cI (ad 32) 200 M_asks), (kI cI (ad 33) 600 M_from), (kI cI (ad 34) 600 M_to), (kI cI (ad 35) 600 M_labelOf), (kI cI (ad 36) 16 M_how), (kI cI (ad 37) 200 M_first), (kI cI (ad 39) 600 M_next), (kZ cZ (ad 40) 200 M_end), (kI cI (ad 41) 200 res.2.2.2.2.2.2.1), (kI cI (ad 42) 200 res.2.2.2.2.2.2.2.1), (kZ cZ (ad 44) 200 res.2.2.2.2.2.2.2.2.1), (kZ cZ (ad 45) 200 res.2.2.2.2.2.2.2.2.2.1), (kZ cZ (ad 46) 40000 res.2.2.2.2.2.2.2.2.2.2.1), (kZ cZ (ad 47) 200 res.2.2.2.2.2.2.2.2.2.2.2.1), (kI cI (ad 49) 200 res.2.2.2.2.2.2.2.2.2.2.2.2)] := by
  refine mc_ofz (own := RX5) (by decide) rfl rfl (Nat.le_of_ble_eq_true rfl) ?_
  intro p e s m below meth c A Q ls hx hb hml hown hts hK hP hD hA hl hend
  have hS : va_S A s.heap s.heap [] := va_S.rf
  have hl : lv_has ls 4 [(0, .ref (ad 5)), (1, .int a1)] := hl
  obtain ⟨H, hH⟩ : ∃ H, H = s.heap := ⟨_, rfl⟩
  obtain ⟨locs, hlo⟩ : ∃ locs : List Loc, locs = [] := ⟨_, rfl⟩
  have hS : va_S A s.heap H locs := by rw [hH, hlo]; exact hS
  have hP : va_P D vwCl [(kM ad M_thrown M_states M_moves M_known M_come M_lookedAt M_parts M_whole), (kI cI (ad 32) 200 M_asks), (kI cI (ad 33) 600 M_from), (kI cI (ad 34) 600 M_to), (kI cI (ad 35) 600 M_labelOf), (kI cI (ad 36) 16 M_how), (kI cI (ad 37) 200 M_first), (kI cI (ad 39) 600 M_next), (kZ cZ (ad 40) 200 M_end), (kI cI (ad 41) 200 M_queue), (kI cI (ad 42) 200 M_by), (kZ cZ (ad 44) 200 M_isReached), (kZ cZ (ad 45) 200 M_alive), (kZ cZ (ad 46) 40000 M_reach), (kZ cZ (ad 47) 200 M_its), (kI cI (ad 49) 200 M_partOf)] H := by rw [hH]; exact hP
  suffices h9 : W p l e { frames := 4, cells := 0, slots := 0, locals := 100 } s m ([.ref (ad 5), .int a1] : List Value).toArray below meth c H locs 0 0 Q (F0 m 0 ls []) by rw [hH, hlo] at h9; exact h9
  clear hH hlo
  have hiX5 : ∀ w ∈ wsX50, w ∈ wv_X5_isLive := fun w h => List.mem_cons_of_mem _ (inlX5 w h)
  have hk0 := hts (.fieldLink RX5 129 "FairLoopsModel" "parts" "I") (List.mem_cons_of_mem _ wk_318)
  have hk1 := hts (.fieldLink RX5 80 "FairLoopsModel" "states" "I") (List.mem_cons_of_mem _ wk_120)
  refine lv_aload_n hx hb dX5_isLive_0 rfl (lv_at hl 0 rfl) ?_
  refine lv_iload_n hx hb dX5_isLive_1 rfl (lv_at hl 1 rfl) ?_
  obtain ⟨⟨M_known_2, M_come_2, M_lookedAt_2, M_parts_2, M_whole_2, M_queue_2, M_by_2, M_isReached_2, M_alive_2, M_reach_2, M_its_2, M_partOf_2⟩, hc_2, h⟩ := ox_b_of h
  refine mc_callV (As := [.int a1]) (rest := []) (b := ad 5) (Wc := [(kM ad M_thrown M_states M_moves M_known M_come M_lookedAt M_parts M_whole), (kI cI (ad 32) 200 M_asks), (kI cI (ad 33) 600 M_from), (kI cI (ad 34) 600 M_to), (kI cI (ad 35) 600 M_labelOf), (kI cI (ad 36) 16 M_how), (kI cI (ad 37) 200 M_first), (kI cI (ad 39) 600 M_next), (kI cI (ad 41) 200 M_queue), (kI cI (ad 42) 200 M_by), (kZ cZ (ad 44) 200 M_isReached), (kZ cZ (ad 45) 200 M_alive), (kZ cZ (ad 46) 40000 M_reach), (kZ cZ (ad 47) 200 M_its), (kI cI (ad 49) 200 M_partOf)]) (wr := [(kZ cZ (ad 40) 200 M_end)]) (W1 := [(kM ad M_thrown M_states M_moves M_known_2 M_come_2 M_lookedAt_2 M_parts_2 M_whole_2), (kI cI (ad 32) 200 M_asks), (kI cI (ad 33) 600 M_from), (kI cI (ad 34) 600 M_to), (kI cI (ad 35) 600 M_labelOf), (kI cI (ad 36) 16 M_how), (kI cI (ad 37) 200 M_first), (kI cI (ad 39) 600 M_next), (kI cI (ad 41) 200 M_queue_2), (kI cI (ad 42) 200 M_by_2), (kZ cZ (ad 44) 200 M_isReached_2), (kZ cZ (ad 45) 200 M_alive_2), (kZ cZ (ad 46) 40000 M_reach_2), (kZ cZ (ad 47) 200 M_its_2), (kI cI (ad 49) 200 M_partOf_2)]) (wn := [(kM ad M_thrown M_states M_moves M_known_2 M_come_2 M_lookedAt_2 M_parts_2 M_whole_2), (kI cI (ad 32) 200 M_asks), (kI cI (ad 33) 600 M_from), (kI cI (ad 34) 600 M_to), (kI cI (ad 35) 600 M_labelOf), (kI cI (ad 36) 16 M_how), (kI cI (ad 37) 200 M_first), (kI cI (ad 39) 600 M_next), (kZ cZ (ad 40) 200 M_end), (kI cI (ad 41) 200 M_queue_2), (kI cI (ad 42) 200 M_by_2), (kZ cZ (ad 44) 200 M_isReached_2), (kZ cZ (ad 45) 200 M_alive_2), (kZ cZ (ad 46) 40000 M_reach_2), (kZ cZ (ad 47) 200 M_its_2), (kI cI (ad 49) 200 M_partOf_2)]) (rv := none) ⟨hx, hb, hml, hown, hts⟩ (c_X5_look l D cI cZ ad M_thrown M_states M_moves M_known M_come M_lookedAt M_parts M_whole M_asks M_from M_to M_labelOf M_how M_first M_next M_queue M_by M_isReached M_alive M_reach M_its M_partOf a1 _ hc_2) (cwV 1 hts (gl_V wk_319 wk_320 wk_321 wk_5 wk_322) rfl rfl rfl (by decide +kernel) ⟨Nat.le_of_ble_eq_true rfl, Nat.le_of_ble_eq_true rfl⟩) hK hP hD hS hA 5 0 rfl rfl rfl [0, 1, 2, 3, 4, 5, 6, 7, 9, 10, 11, 12, 13, 14, 15] [8] [1, 2, 3, 4, 5, 6, 7, 8, 0, 9, 10, 11, 12, 13, 14, 15] rfl rfl (by decide) rfl (by decide) (by decide) rfl rfl (by decide) rfl rfl hl.1 (Nat.le_of_ble_eq_true rfl) dX5_isLive_2 ⟨Nat.zero_le _, Nat.zero_le _⟩ (fun H locs hP hD hS => ?_)
  show W p l e { frames := 4, cells := 0, slots := 0, locals := 100 } s m ([.ref (ad 5), .int a1] : List Value).toArray below meth c H locs 0 0 Q (F0 m 5 ls [])
  refine lv_aload_n hx hb dX5_isLive_5 rfl (lv_at hl 0 rfl) ?_
  refine va_get (D := D) (ci := 5) (v := .int M_parts_2) (C := RX5) (T := TX5) (N := 27) hx hb hts hiX5 hown hK hP 0 rfl rfl 24 (by decide) hk0 (fun _ h9 => h9) rfl dX5_isLive_6 ?_
  have hJ_17 : ∀ (t0_17 : Int32) (H : Heap) (locs : List Loc) (ls : Array Slot), fn_X5_isLive_j17 M_states M_first M_end M_its_2 M_known_2 M_come_2 M_lookedAt_2 M_parts_2 M_whole_2 M_queue_2 M_by_2 M_isReached_2 M_alive_2 M_reach_2 M_partOf_2 t0_17 = some res → va_P D vwCl [(kM ad M_thrown M_states M_moves M_known_2 M_come_2 M_lookedAt_2 M_parts_2 M_whole_2), (kI cI (ad 32) 200 M_asks), (kI cI (ad 33) 600 M_from), (kI cI (ad 34) 600 M_to), (kI cI (ad 35) 600 M_labelOf), (kI cI (ad 36) 16 M_how), (kI cI (ad 37) 200 M_first), (kI cI (ad 39) 600 M_next), (kZ cZ (ad 40) 200 M_end), (kI cI (ad 41) 200 M_queue_2), (kI cI (ad 42) 200 M_by_2), (kZ cZ (ad 44) 200 M_isReached_2), (kZ cZ (ad 45) 200 M_alive_2), (kZ cZ (ad 46) 40000 M_reach_2), (kZ cZ (ad 47) 200 M_its_2), (kI cI (ad 49) 200 M_partOf_2)] H → va_D A [(kM ad M_thrown M_states M_moves M_known_2 M_come_2 M_lookedAt_2 M_parts_2 M_whole_2), (kI cI (ad 32) 200 M_asks), (kI cI (ad 33) 600 M_from), (kI cI (ad 34) 600 M_to), (kI cI (ad 35) 600 M_labelOf), (kI cI (ad 36) 16 M_how), (kI cI (ad 37) 200 M_first), (kI cI (ad 39) 600 M_next), (kZ cZ (ad 40) 200 M_end), (kI cI (ad 41) 200 M_queue_2), (kI cI (ad 42) 200 M_by_2), (kZ cZ (ad 44) 200 M_isReached_2), (kZ cZ (ad 45) 200 M_alive_2), (kZ cZ (ad 46) 40000 M_reach_2), (kZ cZ (ad 47) 200 M_its_2), (kI cI (ad 49) 200 M_partOf_2)] → va_S A s.heap H locs → lv_has ls 4 [(0, .ref (ad 5))] → W p l e { frames := 4, cells := 0, slots := 0, locals := 100 } s m ([.ref (ad 5), .int a1] : List Value).toArray below meth c H locs 0 0 Q (F0 m 17 ls [.int t0_17]) := by
    intro t0_17 H locs ls h hP hD hS hl
    refine lv_istore_n (lv' := [(2, .int t0_17), (0, .ref (ad 5))]) hx hb dX5_isLive_17 rfl hl (by decide) rfl (fun ls hl => ?_)
    refine lv_iconst (v := 0) hx hb dX5_isLive_18 (by decide) ?_
    refine lv_istore_n (lv' := [(3, .int 0), (2, .int t0_17), (0, .ref (ad 5))]) hx hb dX5_isLive_19 rfl hl (by decide) rfl (fun ls hl => ?_)
    obtain ⟨ex_20, hex_20, h_20⟩ := ox_b_of h
    have hX_20 : ∀ (v2_20 : Int32) (v3_20 : Int32) (H : Heap) (locs : List Loc) (ls : Array Slot), (v2_20, v3_20) = ex_20 → va_P D vwCl [(kM ad M_thrown M_states M_moves M_known_2 M_come_2 M_lookedAt_2 M_parts_2 M_whole_2), (kI cI (ad 32) 200 M_asks), (kI cI (ad 33) 600 M_from), (kI cI (ad 34) 600 M_to), (kI cI (ad 35) 600 M_labelOf), (kI cI (ad 36) 16 M_how), (kI cI (ad 37) 200 M_first), (kI cI (ad 39) 600 M_next), (kZ cZ (ad 40) 200 M_end), (kI cI (ad 41) 200 M_queue_2), (kI cI (ad 42) 200 M_by_2), (kZ cZ (ad 44) 200 M_isReached_2), (kZ cZ (ad 45) 200 M_alive_2), (kZ cZ (ad 46) 40000 M_reach_2), (kZ cZ (ad 47) 200 M_its_2), (kI cI (ad 49) 200 M_partOf_2)] H → va_D A [(kM ad M_thrown M_states M_moves M_known_2 M_come_2 M_lookedAt_2 M_parts_2 M_whole_2), (kI cI (ad 32) 200 M_asks), (kI cI (ad 33) 600 M_from), (kI cI (ad 34) 600 M_to), (kI cI (ad 35) 600 M_labelOf), (kI cI (ad 36) 16 M_how), (kI cI (ad 37) 200 M_first), (kI cI (ad 39) 600 M_next), (kZ cZ (ad 40) 200 M_end), (kI cI (ad 41) 200 M_queue_2), (kI cI (ad 42) 200 M_by_2), (kZ cZ (ad 44) 200 M_isReached_2), (kZ cZ (ad 45) 200 M_alive_2), (kZ cZ (ad 46) 40000 M_reach_2), (kZ cZ (ad 47) 200 M_its_2), (kI cI (ad 49) 200 M_partOf_2)] → va_S A s.heap H locs → lv_has ls 4 [(2, .int v2_20)] → W p l e { frames := 4, cells := 0, slots := 0, locals := 100 } s m ([.ref (ad 5), .int a1] : List Value).toArray below meth c H locs 0 0 Q (F0 m 52 ls []) := by
      intro v2_20 v3_20 H locs ls hex_20 hP hD hS hl
      subst hex_20
      have h := h_20
      refine lv_iload_n hx hb dX5_isLive_52 rfl (lv_at hl 0 rfl) ?_
      obtain ⟨hz_53, h⟩ := ox_z_of h
      have h := Option.some.inj h
      subst h
      exact hend H locs _ ls hP hD hS dX5_isLive_53 hz_53
    have hL_20 : ∀ (n : Nat) (v2_20 : Int32) (v3_20 : Int32) (H : Heap) (locs : List Loc) (ls : Array Slot), ox_l (fn_X5_isLive_l20 M_states M_first M_end M_its_2) n (v2_20, v3_20) = some ex_20 → va_P D vwCl [(kM ad M_thrown M_states M_moves M_known_2 M_come_2 M_lookedAt_2 M_parts_2 M_whole_2), (kI cI (ad 32) 200 M_asks), (kI cI (ad 33) 600 M_from), (kI cI (ad 34) 600 M_to), (kI cI (ad 35) 600 M_labelOf), (kI cI (ad 36) 16 M_how), (kI cI (ad 37) 200 M_first), (kI cI (ad 39) 600 M_next), (kZ cZ (ad 40) 200 M_end), (kI cI (ad 41) 200 M_queue_2), (kI cI (ad 42) 200 M_by_2), (kZ cZ (ad 44) 200 M_isReached_2), (kZ cZ (ad 45) 200 M_alive_2), (kZ cZ (ad 46) 40000 M_reach_2), (kZ cZ (ad 47) 200 M_its_2), (kI cI (ad 49) 200 M_partOf_2)] H → va_D A [(kM ad M_thrown M_states M_moves M_known_2 M_come_2 M_lookedAt_2 M_parts_2 M_whole_2), (kI cI (ad 32) 200 M_asks), (kI cI (ad 33) 600 M_from), (kI cI (ad 34) 600 M_to), (kI cI (ad 35) 600 M_labelOf), (kI cI (ad 36) 16 M_how), (kI cI (ad 37) 200 M_first), (kI cI (ad 39) 600 M_next), (kZ cZ (ad 40) 200 M_end), (kI cI (ad 41) 200 M_queue_2), (kI cI (ad 42) 200 M_by_2), (kZ cZ (ad 44) 200 M_isReached_2), (kZ cZ (ad 45) 200 M_alive_2), (kZ cZ (ad 46) 40000 M_reach_2), (kZ cZ (ad 47) 200 M_its_2), (kI cI (ad 49) 200 M_partOf_2)] → va_S A s.heap H locs → lv_has ls 4 [(0, .ref (ad 5)), (2, .int v2_20), (3, .int v3_20)] → W p l e { frames := 4, cells := 0, slots := 0, locals := 100 } s m ([.ref (ad 5), .int a1] : List Value).toArray below meth c H locs 0 0 Q (F0 m 20 ls []) := by
      intro n
      induction n with
      | zero => intro v2_20 v3_20 H locs ls hlp; exact ox_l_0 hlp
      | succ n ih_20 =>
        intro v2_20 v3_20 H locs ls hlp_20 hP hD hS hl
        obtain ⟨z_20, h, hlp_20⟩ := ox_l_of hlp_20
        refine lv_iload_n hx hb dX5_isLive_20 rfl (lv_at hl 2 rfl) ?_
        refine lv_aload_n hx hb dX5_isLive_21 rfl (lv_at hl 0 rfl) ?_
        refine va_get (D := D) (ci := 5) (v := .int M_states) (C := RX5) (T := TX5) (N := 27) hx hb hts hiX5 hown hK hP 0 rfl rfl 1 (by decide) hk1 (fun _ h9 => h9) rfl dX5_isLive_22 ?_
        refine lv_icmp_ge (tgt := 52) hx hb dX5_isLive_25 (by decide) (fun c_25 => ?_) (fun c_25 => ?_)
        · have h := ox_t c_25 h
          obtain rfl := Option.some.inj h
          exact hX_20 v2_20 v3_20 H locs ls hlp_20 hP hD hS (lv_sub hl [1] rfl)
        · have h := ox_f c_25 h
          refine lv_iload_n hx hb dX5_isLive_28 rfl (lv_at hl 1 rfl) ?_
          refine lv_if_eq (tgt := 52) hx hb dX5_isLive_29 (by decide) (fun c_29 => ?_) (fun c_29 => ?_)
          · have h := ox_t c_29 h
            obtain rfl := Option.some.inj h
            exact hX_20 v2_20 v3_20 H locs ls hlp_20 hP hD hS (lv_sub hl [1] rfl)
          · have h := ox_f c_29 h
            refine lv_aload_n hx hb dX5_isLive_32 rfl (lv_at hl 0 rfl) ?_
            refine lv_iload_n hx hb dX5_isLive_33 rfl (lv_at hl 2 rfl) ?_
            obtain ⟨r_34, hc_34, h⟩ := ox_b_of h
            refine mc_callV (As := [.int v3_20]) (rest := []) (b := ad 5) (Wc := [(kM ad M_thrown M_states M_moves M_known_2 M_come_2 M_lookedAt_2 M_parts_2 M_whole_2), (kI cI (ad 37) 200 M_first), (kZ cZ (ad 40) 200 M_end), (kZ cZ (ad 47) 200 M_its_2)]) (wr := [(kI cI (ad 32) 200 M_asks), (kI cI (ad 33) 600 M_from), (kI cI (ad 34) 600 M_to), (kI cI (ad 35) 600 M_labelOf), (kI cI (ad 36) 16 M_how), (kI cI (ad 39) 600 M_next), (kI cI (ad 41) 200 M_queue_2), (kI cI (ad 42) 200 M_by_2), (kZ cZ (ad 44) 200 M_isReached_2), (kZ cZ (ad 45) 200 M_alive_2), (kZ cZ (ad 46) 40000 M_reach_2), (kI cI (ad 49) 200 M_partOf_2)]) (W1 := [(kM ad M_thrown M_states M_moves M_known_2 M_come_2 M_lookedAt_2 M_parts_2 M_whole_2), (kI cI (ad 37) 200 M_first), (kZ cZ (ad 40) 200 M_end), (kZ cZ (ad 47) 200 M_its_2)]) (wn := [(kM ad M_thrown M_states M_moves M_known_2 M_come_2 M_lookedAt_2 M_parts_2 M_whole_2), (kI cI (ad 32) 200 M_asks), (kI cI (ad 33) 600 M_from), (kI cI (ad 34) 600 M_to), (kI cI (ad 35) 600 M_labelOf), (kI cI (ad 36) 16 M_how), (kI cI (ad 37) 200 M_first), (kI cI (ad 39) 600 M_next), (kZ cZ (ad 40) 200 M_end), (kI cI (ad 41) 200 M_queue_2), (kI cI (ad 42) 200 M_by_2), (kZ cZ (ad 44) 200 M_isReached_2), (kZ cZ (ad 45) 200 M_alive_2), (kZ cZ (ad 46) 40000 M_reach_2), (kZ cZ (ad 47) 200 M_its_2), (kI cI (ad 49) 200 M_partOf_2)]) (rv := some (.int r_34)) ⟨hx, hb, hml, hown, hts⟩ (c_X5_isDead l D cI cZ ad M_thrown M_states M_moves M_known_2 M_come_2 M_lookedAt_2 M_parts_2 M_whole_2 M_first M_end M_its_2 v3_20 _ hc_34) (cwV 1 hts (gl_V wk_356 wk_357 wk_358 wk_5 wk_359) rfl rfl rfl (by decide +kernel) ⟨Nat.le_of_ble_eq_true rfl, Nat.le_of_ble_eq_true rfl⟩) hK hP hD hS hA 5 0 rfl rfl rfl [0, 6, 8, 14] [1, 2, 3, 4, 5, 7, 9, 10, 11, 12, 13, 15] [12, 0, 1, 2, 3, 4, 13, 5, 14, 6, 7, 8, 9, 10, 15, 11] rfl rfl (by decide) rfl (by decide) (by decide) rfl rfl (by decide) rfl rfl hl.1 (Nat.le_of_ble_eq_true rfl) dX5_isLive_34 ⟨Nat.zero_le _, Nat.zero_le _⟩ (fun H locs hP hD hS => ?_)
            show W p l e { frames := 4, cells := 0, slots := 0, locals := 100 } s m ([.ref (ad 5), .int a1] : List Value).toArray below meth c H locs 0 0 Q (F0 m 37 ls [.int r_34])
            refine lv_if_ne (tgt := 44) hx hb dX5_isLive_37 (by decide) (fun c_37 => ?_) (fun c_37 => ?_)
            · have h := ox_f c_37 h
              refine lv_iconst (v := 0) hx hb dX5_isLive_44 (by decide) ?_
              refine lv_istore_n (lv' := [(2, .int 0), (0, .ref (ad 5)), (3, .int v3_20)]) hx hb dX5_isLive_45 rfl hl (by decide) rfl (fun ls hl => ?_)
              refine lv_iinc (v := v3_20 + 1) (lv' := [(3, .int (v3_20 + 1)), (2, .int 0), (0, .ref (ad 5))]) hx hb dX5_isLive_46 hl (k := 2) rfl rfl (by decide) rfl (fun ls hl => ?_)
              refine lv_goto (tgt := 20) hx hb dX5_isLive_49 (by decide) ?_
              obtain rfl := Option.some.inj h
              exact ih_20 0 (v3_20 + 1) H locs ls hlp_20 hP hD hS (lv_sub hl [2, 1, 0] rfl)
            · have h := ox_t c_37 h
              refine lv_iconst (v := 1) hx hb dX5_isLive_40 (by decide) ?_
              refine lv_goto (tgt := 45) hx hb dX5_isLive_41 (by decide) ?_
              refine lv_istore_n (lv' := [(2, .int 1), (0, .ref (ad 5)), (3, .int v3_20)]) hx hb dX5_isLive_45 rfl hl (by decide) rfl (fun ls hl => ?_)
              refine lv_iinc (v := v3_20 + 1) (lv' := [(3, .int (v3_20 + 1)), (2, .int 1), (0, .ref (ad 5))]) hx hb dX5_isLive_46 hl (k := 2) rfl rfl (by decide) rfl (fun ls hl => ?_)
              refine lv_goto (tgt := 20) hx hb dX5_isLive_49 (by decide) ?_
              obtain rfl := Option.some.inj h
              exact ih_20 1 (v3_20 + 1) H locs ls hlp_20 hP hD hS (lv_sub hl [2, 1, 0] rfl)
    exact hL_20 1000000 t0_17 0 H locs ls hex_20 hP hD hS (lv_sub hl [2, 1, 0] rfl)
  refine lv_if_ne (tgt := 16) hx hb dX5_isLive_9 (by decide) (fun c_9 => ?_) (fun c_9 => ?_)
  · have h := ox_f c_9 h
    refine lv_iconst (v := 0) hx hb dX5_isLive_16 (by decide) ?_
    exact hJ_17 0 H locs ls h hP hD hS (lv_sub hl [0] rfl)
  · have h := ox_t c_9 h
    refine lv_iconst (v := 1) hx hb dX5_isLive_12 (by decide) ?_
    refine lv_goto (tgt := 17) hx hb dX5_isLive_13 (by decide) ?_
    exact hJ_17 1 H locs ls h hP hD hS (lv_sub hl [0] rfl)
set_option maxHeartbeats 4000000 in
set_option maxRecDepth 100000 in
theorem c_X5_live (l : Launch) (D : va_G) (cI cZ : ClassId) (ad : Nat → Nat) (M_thrown : Int32) (M_states : Int32) (M_moves : Int32) (M_known : Int32) (M_come : Int32) (M_lookedAt : Int32) (M_parts : Int32) (M_whole : Int32) (M_asks : Nat → Int32) (M_from : Nat → Int32) (M_to : Nat → Int32) (M_labelOf : Nat → Int32) (M_how : Nat → Int32) (M_first : Nat → Int32) (M_next : Nat → Int32) (M_end : Nat → Int32) (M_queue : Nat → Int32) (M_by : Nat → Int32) (M_isReached : Nat → Int32) (M_alive : Nat → Int32) (M_reach : Nat → Int32) (M_its : Nat → Int32) (M_partOf : Nat → Int32) (a1 : Int32) (res : Int32 × Int32 × Int32 × Int32 × Int32 × Int32 × Int32 × (Nat → Int32) × (Nat → Int32) × (Nat → Int32) × (Nat → Int32) × (Nat → Int32) × (Nat → Int32) × (Nat → Int32)) (h : fn_X5_live M_thrown M_states M_moves M_known M_come M_lookedAt M_parts M_whole M_asks M_from M_to M_labelOf M_how M_first M_next M_end M_queue M_by M_isReached M_alive M_reach M_its M_partOf a1 = some res) : mc_C l yX5_live wv_X5_live { frames := 5, cells := 0, slots := 0, locals := 123 } D [(cI, .int), (cZ, .boolean)] [.ref (ad 5), .int a1] [(kM ad M_thrown M_states M_moves M_known M_come M_lookedAt M_parts M_whole), (kI cI (ad 32) 200 M_asks), (kI cI (ad 33) 600 M_from), (kI cI (ad 34) 600 M_to), (kI cI (ad 35) 600 M_labelOf), (kI cI (ad 36) 16 M_how), (kI cI (ad 37) 200 M_first), (kI cI (ad 39) 600 M_next), (kZ cZ (ad 40) 200 M_end), (kI cI (ad 41) 200 M_queue), (kI cI (ad 42) 200 M_by), (kZ cZ (ad 44) 200 M_isReached), (kZ cZ (ad 45) 200 M_alive), (kZ cZ (ad 46) 40000 M_reach), (kZ cZ (ad 47) 200 M_its), (kI cI (ad 49) 200 M_partOf)] (some (.int res.1)) [(kM ad res.2.1 M_states M_moves res.2.2.1 res.2.2.2.1 res.2.2.2.2.1 res.2.2.2.2.2.1 res.2.2.2.2.2.2.1), (kI cI (ad 32) 200 M_asks), (kI cI (ad 33) 600 M_from), (kI cI (ad 34) 600 M_to), (kI cI (ad 35) 600 M_labelOf), (kI cI (ad 36) 16 M_how), (kI cI (ad 37) 200 M_first), (kI cI (ad 39) 600 M_next), (kZ cZ (ad 40) 200 M_end), (kI cI (ad 41) 200 res.2.2.2.2.2.2.2.1), (kI cI (ad 42) 200 res.2.2.2.2.2.2.2.2.1), (kZ cZ (ad 44) 200 res.2.2.2.2.2.2.2.2.2.1), (kZ cZ (ad 45) 200 res.2.2.2.2.2.2.2.2.2.2.1), (kZ cZ (ad 46) 40000 res.2.2.2.2.2.2.2.2.2.2.2.1), (kZ cZ (ad 47) 200 res.2.2.2.2.2.2.2.2.2.2.2.2.1), (kI cI (ad 49) 200 res.2.2.2.2.2.2.2.2.2.2.2.2.2)] := by
  refine mc_ofz (own := RX5) (by decide) rfl rfl (Nat.le_of_ble_eq_true rfl) ?_
  intro p e s m below meth c A Q ls hx hb hml hown hts hK hP hD hA hl hend
  have hS : va_S A s.heap s.heap [] := va_S.rf
  have hl : lv_has ls 2 [(0, .ref (ad 5)), (1, .int a1)] := hl
  obtain ⟨H, hH⟩ : ∃ H, H = s.heap := ⟨_, rfl⟩
  obtain ⟨locs, hlo⟩ : ∃ locs : List Loc, locs = [] := ⟨_, rfl⟩
  have hS : va_S A s.heap H locs := by rw [hH, hlo]; exact hS
  have hP : va_P D vwCl [(kM ad M_thrown M_states M_moves M_known M_come M_lookedAt M_parts M_whole), (kI cI (ad 32) 200 M_asks), (kI cI (ad 33) 600 M_from), (kI cI (ad 34) 600 M_to), (kI cI (ad 35) 600 M_labelOf), (kI cI (ad 36) 16 M_how), (kI cI (ad 37) 200 M_first), (kI cI (ad 39) 600 M_next), (kZ cZ (ad 40) 200 M_end), (kI cI (ad 41) 200 M_queue), (kI cI (ad 42) 200 M_by), (kZ cZ (ad 44) 200 M_isReached), (kZ cZ (ad 45) 200 M_alive), (kZ cZ (ad 46) 40000 M_reach), (kZ cZ (ad 47) 200 M_its), (kI cI (ad 49) 200 M_partOf)] H := by rw [hH]; exact hP
  suffices h9 : W p l e { frames := 5, cells := 0, slots := 0, locals := 123 } s m ([.ref (ad 5), .int a1] : List Value).toArray below meth c H locs 0 0 Q (F0 m 0 ls []) by rw [hH, hlo] at h9; exact h9
  clear hH hlo
  refine lv_aload_n hx hb dX5_live_0 rfl (lv_at hl 0 rfl) ?_
  refine lv_iload_n hx hb dX5_live_1 rfl (lv_at hl 1 rfl) ?_
  obtain ⟨⟨r_2, M_thrown_2⟩, hc_2, h⟩ := ox_b_of h
  refine mc_callV (As := [.int a1]) (rest := []) (b := ad 5) (Wc := [(kM ad M_thrown M_states M_moves M_known M_come M_lookedAt M_parts M_whole)]) (wr := [(kI cI (ad 32) 200 M_asks), (kI cI (ad 33) 600 M_from), (kI cI (ad 34) 600 M_to), (kI cI (ad 35) 600 M_labelOf), (kI cI (ad 36) 16 M_how), (kI cI (ad 37) 200 M_first), (kI cI (ad 39) 600 M_next), (kZ cZ (ad 40) 200 M_end), (kI cI (ad 41) 200 M_queue), (kI cI (ad 42) 200 M_by), (kZ cZ (ad 44) 200 M_isReached), (kZ cZ (ad 45) 200 M_alive), (kZ cZ (ad 46) 40000 M_reach), (kZ cZ (ad 47) 200 M_its), (kI cI (ad 49) 200 M_partOf)]) (W1 := [(kM ad M_thrown_2 M_states M_moves M_known M_come M_lookedAt M_parts M_whole)]) (wn := [(kM ad M_thrown_2 M_states M_moves M_known M_come M_lookedAt M_parts M_whole), (kI cI (ad 32) 200 M_asks), (kI cI (ad 33) 600 M_from), (kI cI (ad 34) 600 M_to), (kI cI (ad 35) 600 M_labelOf), (kI cI (ad 36) 16 M_how), (kI cI (ad 37) 200 M_first), (kI cI (ad 39) 600 M_next), (kZ cZ (ad 40) 200 M_end), (kI cI (ad 41) 200 M_queue), (kI cI (ad 42) 200 M_by), (kZ cZ (ad 44) 200 M_isReached), (kZ cZ (ad 45) 200 M_alive), (kZ cZ (ad 46) 40000 M_reach), (kZ cZ (ad 47) 200 M_its), (kI cI (ad 49) 200 M_partOf)]) (rv := some (.int r_2)) ⟨hx, hb, hml, hown, hts⟩ (c_X5_isAsk l D cI cZ ad M_thrown M_states M_moves M_known M_come M_lookedAt M_parts M_whole a1 _ hc_2) (cwV 1 hts (gl_V wk_310 wk_311 wk_312 wk_5 wk_313) rfl rfl rfl (by decide +kernel) ⟨Nat.le_of_ble_eq_true rfl, Nat.le_of_ble_eq_true rfl⟩) hK hP hD hS hA 5 0 rfl rfl rfl [0] [1, 2, 3, 4, 5, 6, 7, 8, 9, 10, 11, 12, 13, 14, 15] [15, 0, 1, 2, 3, 4, 5, 6, 7, 8, 9, 10, 11, 12, 13, 14] rfl rfl (by decide) rfl (by decide) (by decide) rfl rfl (by decide) rfl rfl hl.1 (Nat.le_of_ble_eq_true rfl) dX5_live_2 ⟨Nat.zero_le _, Nat.zero_le _⟩ (fun H locs hP hD hS => ?_)
  show W p l e { frames := 5, cells := 0, slots := 0, locals := 123 } s m ([.ref (ad 5), .int a1] : List Value).toArray below meth c H locs 0 0 Q (F0 m 5 ls [.int r_2])
  refine lv_if_eq (tgt := 20) hx hb dX5_live_5 (by decide) (fun c_5 => ?_) (fun c_5 => ?_)
  · have h := ox_t c_5 h
    refine lv_iconst (v := 0) hx hb dX5_live_20 (by decide) ?_
    have h := Option.some.inj h
    subst h
    exact hend H locs _ ls hP hD hS dX5_live_21 nb_0
  · have h := ox_f c_5 h
    refine lv_aload_n hx hb dX5_live_8 rfl (lv_at hl 0 rfl) ?_
    refine lv_iload_n hx hb dX5_live_9 rfl (lv_at hl 1 rfl) ?_
    obtain ⟨⟨r_10, M_known_10, M_come_10, M_lookedAt_10, M_parts_10, M_whole_10, M_queue_10, M_by_10, M_isReached_10, M_alive_10, M_reach_10, M_its_10, M_partOf_10⟩, hc_10, h⟩ := ox_b_of h
    refine mc_callV (As := [.int a1]) (rest := []) (b := ad 5) (Wc := [(kM ad M_thrown_2 M_states M_moves M_known M_come M_lookedAt M_parts M_whole), (kI cI (ad 32) 200 M_asks), (kI cI (ad 33) 600 M_from), (kI cI (ad 34) 600 M_to), (kI cI (ad 35) 600 M_labelOf), (kI cI (ad 36) 16 M_how), (kI cI (ad 37) 200 M_first), (kI cI (ad 39) 600 M_next), (kZ cZ (ad 40) 200 M_end), (kI cI (ad 41) 200 M_queue), (kI cI (ad 42) 200 M_by), (kZ cZ (ad 44) 200 M_isReached), (kZ cZ (ad 45) 200 M_alive), (kZ cZ (ad 46) 40000 M_reach), (kZ cZ (ad 47) 200 M_its), (kI cI (ad 49) 200 M_partOf)]) (wr := []) (W1 := [(kM ad M_thrown_2 M_states M_moves M_known_10 M_come_10 M_lookedAt_10 M_parts_10 M_whole_10), (kI cI (ad 32) 200 M_asks), (kI cI (ad 33) 600 M_from), (kI cI (ad 34) 600 M_to), (kI cI (ad 35) 600 M_labelOf), (kI cI (ad 36) 16 M_how), (kI cI (ad 37) 200 M_first), (kI cI (ad 39) 600 M_next), (kZ cZ (ad 40) 200 M_end), (kI cI (ad 41) 200 M_queue_10), (kI cI (ad 42) 200 M_by_10), (kZ cZ (ad 44) 200 M_isReached_10), (kZ cZ (ad 45) 200 M_alive_10), (kZ cZ (ad 46) 40000 M_reach_10), (kZ cZ (ad 47) 200 M_its_10), (kI cI (ad 49) 200 M_partOf_10)]) (wn := [(kM ad M_thrown_2 M_states M_moves M_known_10 M_come_10 M_lookedAt_10 M_parts_10 M_whole_10), (kI cI (ad 32) 200 M_asks), (kI cI (ad 33) 600 M_from), (kI cI (ad 34) 600 M_to), (kI cI (ad 35) 600 M_labelOf), (kI cI (ad 36) 16 M_how), (kI cI (ad 37) 200 M_first), (kI cI (ad 39) 600 M_next), (kZ cZ (ad 40) 200 M_end), (kI cI (ad 41) 200 M_queue_10), (kI cI (ad 42) 200 M_by_10), (kZ cZ (ad 44) 200 M_isReached_10), (kZ cZ (ad 45) 200 M_alive_10), (kZ cZ (ad 46) 40000 M_reach_10), (kZ cZ (ad 47) 200 M_its_10), (kI cI (ad 49) 200 M_partOf_10)]) (rv := some (.int r_10)) ⟨hx, hb, hml, hown, hts⟩ (c_X5_isLive l D cI cZ ad M_thrown_2 M_states M_moves M_known M_come M_lookedAt M_parts M_whole M_asks M_from M_to M_labelOf M_how M_first M_next M_end M_queue M_by M_isReached M_alive M_reach M_its M_partOf a1 _ hc_10) (cwV 1 hts (gl_V wk_314 wk_315 wk_316 wk_5 wk_317) rfl rfl rfl (by decide +kernel) ⟨Nat.le_of_ble_eq_true rfl, Nat.le_of_ble_eq_true rfl⟩) hK hP hD hS hA 5 0 rfl rfl rfl [0, 1, 2, 3, 4, 5, 6, 7, 8, 9, 10, 11, 12, 13, 14, 15] [] [0, 1, 2, 3, 4, 5, 6, 7, 8, 9, 10, 11, 12, 13, 14, 15] rfl rfl (by decide) rfl (by decide) (by decide) rfl rfl (by decide) rfl rfl hl.1 (Nat.le_of_ble_eq_true rfl) dX5_live_10 ⟨Nat.zero_le _, Nat.zero_le _⟩ (fun H locs hP hD hS => ?_)
    show W p l e { frames := 5, cells := 0, slots := 0, locals := 123 } s m ([.ref (ad 5), .int a1] : List Value).toArray below meth c H locs 0 0 Q (F0 m 13 ls [.int r_10])
    refine lv_if_eq (tgt := 20) hx hb dX5_live_13 (by decide) (fun c_13 => ?_) (fun c_13 => ?_)
    · have h := ox_t c_13 h
      refine lv_iconst (v := 0) hx hb dX5_live_20 (by decide) ?_
      have h := Option.some.inj h
      subst h
      exact hend H locs _ ls hP hD hS dX5_live_21 nb_0
    · have h := ox_f c_13 h
      refine lv_iconst (v := 1) hx hb dX5_live_16 (by decide) ?_
      refine lv_goto (tgt := 21) hx hb dX5_live_17 (by decide) ?_
      have h := Option.some.inj h
      subst h
      exact hend H locs _ ls hP hD hS dX5_live_21 nb_1
set_option maxHeartbeats 4000000 in
set_option maxRecDepth 100000 in
theorem c_X5_parts (l : Launch) (D : va_G) (cI cZ : ClassId) (ad : Nat → Nat) (M_thrown : Int32) (M_states : Int32) (M_moves : Int32) (M_known : Int32) (M_come : Int32) (M_lookedAt : Int32) (M_parts : Int32) (M_whole : Int32) (M_asks : Nat → Int32) (M_from : Nat → Int32) (M_to : Nat → Int32) (M_labelOf : Nat → Int32) (M_how : Nat → Int32) (M_first : Nat → Int32) (M_next : Nat → Int32) (M_queue : Nat → Int32) (M_by : Nat → Int32) (M_isReached : Nat → Int32) (M_alive : Nat → Int32) (M_reach : Nat → Int32) (M_its : Nat → Int32) (M_partOf : Nat → Int32) (a1 : Int32) (res : Int32 × Int32 × Int32 × Int32 × Int32 × Int32 × Int32 × (Nat → Int32) × (Nat → Int32) × (Nat → Int32) × (Nat → Int32) × (Nat → Int32) × (Nat → Int32) × (Nat → Int32)) (h : fn_X5_parts M_thrown M_states M_moves M_known M_come M_lookedAt M_parts M_whole M_asks M_from M_to M_labelOf M_how M_first M_next M_queue M_by M_isReached M_alive M_reach M_its M_partOf a1 = some res) : mc_C l yX5_parts wv_X5_parts { frames := 4, cells := 0, slots := 0, locals := 100 } D [(cI, .int), (cZ, .boolean)] [.ref (ad 5), .int a1] [(kM ad M_thrown M_states M_moves M_known M_come M_lookedAt M_parts M_whole), (kI cI (ad 32) 200 M_asks), (kI cI (ad 33) 600 M_from), (kI cI (ad 34) 600 M_to), (kI cI (ad 35) 600 M_labelOf), (kI cI (ad 36) 16 M_how), (kI cI (ad 37) 200 M_first), (kI cI (ad 39) 600 M_next), (kI cI (ad 41) 200 M_queue), (kI cI (ad 42) 200 M_by), (kZ cZ (ad 44) 200 M_isReached), (kZ cZ (ad 45) 200 M_alive), (kZ cZ (ad 46) 40000 M_reach), (kZ cZ (ad 47) 200 M_its), (kI cI (ad 49) 200 M_partOf)] (some (.int res.1)) [(kM ad res.2.1 M_states M_moves res.2.2.1 res.2.2.2.1 res.2.2.2.2.1 res.2.2.2.2.2.1 res.2.2.2.2.2.2.1), (kI cI (ad 32) 200 M_asks), (kI cI (ad 33) 600 M_from), (kI cI (ad 34) 600 M_to), (kI cI (ad 35) 600 M_labelOf), (kI cI (ad 36) 16 M_how), (kI cI (ad 37) 200 M_first), (kI cI (ad 39) 600 M_next), (kI cI (ad 41) 200 res.2.2.2.2.2.2.2.1), (kI cI (ad 42) 200 res.2.2.2.2.2.2.2.2.1), (kZ cZ (ad 44) 200 res.2.2.2.2.2.2.2.2.2.1), (kZ cZ (ad 45) 200 res.2.2.2.2.2.2.2.2.2.2.1), (kZ cZ (ad 46) 40000 res.2.2.2.2.2.2.2.2.2.2.2.1), (kZ cZ (ad 47) 200 res.2.2.2.2.2.2.2.2.2.2.2.2.1), (kI cI (ad 49) 200 res.2.2.2.2.2.2.2.2.2.2.2.2.2)] := by
  refine mc_ofi (own := RX5) (by decide) rfl rfl (Nat.le_of_ble_eq_true rfl) ?_
  intro p e s m below meth c A Q ls hx hb hml hown hts hK hP hD hA hl hend
  have hS : va_S A s.heap s.heap [] := va_S.rf
  have hl : lv_has ls 2 [(0, .ref (ad 5)), (1, .int a1)] := hl
  obtain ⟨H, hH⟩ : ∃ H, H = s.heap := ⟨_, rfl⟩
  obtain ⟨locs, hlo⟩ : ∃ locs : List Loc, locs = [] := ⟨_, rfl⟩
  have hS : va_S A s.heap H locs := by rw [hH, hlo]; exact hS
  have hP : va_P D vwCl [(kM ad M_thrown M_states M_moves M_known M_come M_lookedAt M_parts M_whole), (kI cI (ad 32) 200 M_asks), (kI cI (ad 33) 600 M_from), (kI cI (ad 34) 600 M_to), (kI cI (ad 35) 600 M_labelOf), (kI cI (ad 36) 16 M_how), (kI cI (ad 37) 200 M_first), (kI cI (ad 39) 600 M_next), (kI cI (ad 41) 200 M_queue), (kI cI (ad 42) 200 M_by), (kZ cZ (ad 44) 200 M_isReached), (kZ cZ (ad 45) 200 M_alive), (kZ cZ (ad 46) 40000 M_reach), (kZ cZ (ad 47) 200 M_its), (kI cI (ad 49) 200 M_partOf)] H := by rw [hH]; exact hP
  suffices h9 : W p l e { frames := 4, cells := 0, slots := 0, locals := 100 } s m ([.ref (ad 5), .int a1] : List Value).toArray below meth c H locs 0 0 Q (F0 m 0 ls []) by rw [hH, hlo] at h9; exact h9
  clear hH hlo
  have hiX5 : ∀ w ∈ wsX50, w ∈ wv_X5_parts := fun w h => List.mem_cons_of_mem _ (inlX5 w h)
  have hk0 := hts (.fieldLink RX5 129 "FairLoopsModel" "parts" "I") (List.mem_cons_of_mem _ wk_318)
  refine lv_aload_n hx hb dX5_parts_0 rfl (lv_at hl 0 rfl) ?_
  refine lv_iload_n hx hb dX5_parts_1 rfl (lv_at hl 1 rfl) ?_
  obtain ⟨⟨r_2, M_thrown_2⟩, hc_2, h⟩ := ox_b_of h
  refine mc_callV (As := [.int a1]) (rest := []) (b := ad 5) (Wc := [(kM ad M_thrown M_states M_moves M_known M_come M_lookedAt M_parts M_whole)]) (wr := [(kI cI (ad 32) 200 M_asks), (kI cI (ad 33) 600 M_from), (kI cI (ad 34) 600 M_to), (kI cI (ad 35) 600 M_labelOf), (kI cI (ad 36) 16 M_how), (kI cI (ad 37) 200 M_first), (kI cI (ad 39) 600 M_next), (kI cI (ad 41) 200 M_queue), (kI cI (ad 42) 200 M_by), (kZ cZ (ad 44) 200 M_isReached), (kZ cZ (ad 45) 200 M_alive), (kZ cZ (ad 46) 40000 M_reach), (kZ cZ (ad 47) 200 M_its), (kI cI (ad 49) 200 M_partOf)]) (W1 := [(kM ad M_thrown_2 M_states M_moves M_known M_come M_lookedAt M_parts M_whole)]) (wn := [(kM ad M_thrown_2 M_states M_moves M_known M_come M_lookedAt M_parts M_whole), (kI cI (ad 32) 200 M_asks), (kI cI (ad 33) 600 M_from), (kI cI (ad 34) 600 M_to), (kI cI (ad 35) 600 M_labelOf), (kI cI (ad 36) 16 M_how), (kI cI (ad 37) 200 M_first), (kI cI (ad 39) 600 M_next), (kI cI (ad 41) 200 M_queue), (kI cI (ad 42) 200 M_by), (kZ cZ (ad 44) 200 M_isReached), (kZ cZ (ad 45) 200 M_alive), (kZ cZ (ad 46) 40000 M_reach), (kZ cZ (ad 47) 200 M_its), (kI cI (ad 49) 200 M_partOf)]) (rv := some (.int r_2)) ⟨hx, hb, hml, hown, hts⟩ (c_X5_isAsk l D cI cZ ad M_thrown M_states M_moves M_known M_come M_lookedAt M_parts M_whole a1 _ hc_2) (cwV 1 hts (gl_V wk_310 wk_311 wk_312 wk_5 wk_313) rfl rfl rfl (by decide +kernel) ⟨Nat.le_of_ble_eq_true rfl, Nat.le_of_ble_eq_true rfl⟩) hK hP hD hS hA 5 0 rfl rfl rfl [0] [1, 2, 3, 4, 5, 6, 7, 8, 9, 10, 11, 12, 13, 14] [14, 0, 1, 2, 3, 4, 5, 6, 7, 8, 9, 10, 11, 12, 13] rfl rfl (by decide) rfl (by decide) (by decide) rfl rfl (by decide) rfl rfl hl.1 (Nat.le_of_ble_eq_true rfl) dX5_parts_2 ⟨Nat.zero_le _, Nat.zero_le _⟩ (fun H locs hP hD hS => ?_)
  show W p l e { frames := 4, cells := 0, slots := 0, locals := 100 } s m ([.ref (ad 5), .int a1] : List Value).toArray below meth c H locs 0 0 Q (F0 m 5 ls [.int r_2])
  refine lv_if_ne (tgt := 10) hx hb dX5_parts_5 (by decide) (fun c_5 => ?_) (fun c_5 => ?_)
  · have h := ox_f c_5 h
    refine lv_aload_n hx hb dX5_parts_10 rfl (lv_at hl 0 rfl) ?_
    refine lv_iload_n hx hb dX5_parts_11 rfl (lv_at hl 1 rfl) ?_
    obtain ⟨⟨M_known_12, M_come_12, M_lookedAt_12, M_parts_12, M_whole_12, M_queue_12, M_by_12, M_isReached_12, M_alive_12, M_reach_12, M_its_12, M_partOf_12⟩, hc_12, h⟩ := ox_b_of h
    refine mc_callV (As := [.int a1]) (rest := []) (b := ad 5) (Wc := [(kM ad M_thrown_2 M_states M_moves M_known M_come M_lookedAt M_parts M_whole), (kI cI (ad 32) 200 M_asks), (kI cI (ad 33) 600 M_from), (kI cI (ad 34) 600 M_to), (kI cI (ad 35) 600 M_labelOf), (kI cI (ad 36) 16 M_how), (kI cI (ad 37) 200 M_first), (kI cI (ad 39) 600 M_next), (kI cI (ad 41) 200 M_queue), (kI cI (ad 42) 200 M_by), (kZ cZ (ad 44) 200 M_isReached), (kZ cZ (ad 45) 200 M_alive), (kZ cZ (ad 46) 40000 M_reach), (kZ cZ (ad 47) 200 M_its), (kI cI (ad 49) 200 M_partOf)]) (wr := []) (W1 := [(kM ad M_thrown_2 M_states M_moves M_known_12 M_come_12 M_lookedAt_12 M_parts_12 M_whole_12), (kI cI (ad 32) 200 M_asks), (kI cI (ad 33) 600 M_from), (kI cI (ad 34) 600 M_to), (kI cI (ad 35) 600 M_labelOf), (kI cI (ad 36) 16 M_how), (kI cI (ad 37) 200 M_first), (kI cI (ad 39) 600 M_next), (kI cI (ad 41) 200 M_queue_12), (kI cI (ad 42) 200 M_by_12), (kZ cZ (ad 44) 200 M_isReached_12), (kZ cZ (ad 45) 200 M_alive_12), (kZ cZ (ad 46) 40000 M_reach_12), (kZ cZ (ad 47) 200 M_its_12), (kI cI (ad 49) 200 M_partOf_12)]) (wn := [(kM ad M_thrown_2 M_states M_moves M_known_12 M_come_12 M_lookedAt_12 M_parts_12 M_whole_12), (kI cI (ad 32) 200 M_asks), (kI cI (ad 33) 600 M_from), (kI cI (ad 34) 600 M_to), (kI cI (ad 35) 600 M_labelOf), (kI cI (ad 36) 16 M_how), (kI cI (ad 37) 200 M_first), (kI cI (ad 39) 600 M_next), (kI cI (ad 41) 200 M_queue_12), (kI cI (ad 42) 200 M_by_12), (kZ cZ (ad 44) 200 M_isReached_12), (kZ cZ (ad 45) 200 M_alive_12), (kZ cZ (ad 46) 40000 M_reach_12), (kZ cZ (ad 47) 200 M_its_12), (kI cI (ad 49) 200 M_partOf_12)]) (rv := none) ⟨hx, hb, hml, hown, hts⟩ (c_X5_look l D cI cZ ad M_thrown_2 M_states M_moves M_known M_come M_lookedAt M_parts M_whole M_asks M_from M_to M_labelOf M_how M_first M_next M_queue M_by M_isReached M_alive M_reach M_its M_partOf a1 _ hc_12) (cwV 1 hts (gl_V wk_319 wk_320 wk_321 wk_5 wk_322) rfl rfl rfl (by decide +kernel) ⟨Nat.le_of_ble_eq_true rfl, Nat.le_of_ble_eq_true rfl⟩) hK hP hD hS hA 5 0 rfl rfl rfl [0, 1, 2, 3, 4, 5, 6, 7, 8, 9, 10, 11, 12, 13, 14] [] [0, 1, 2, 3, 4, 5, 6, 7, 8, 9, 10, 11, 12, 13, 14] rfl rfl (by decide) rfl (by decide) (by decide) rfl rfl (by decide) rfl rfl hl.1 (Nat.le_of_ble_eq_true rfl) dX5_parts_12 ⟨Nat.zero_le _, Nat.zero_le _⟩ (fun H locs hP hD hS => ?_)
    show W p l e { frames := 4, cells := 0, slots := 0, locals := 100 } s m ([.ref (ad 5), .int a1] : List Value).toArray below meth c H locs 0 0 Q (F0 m 15 ls [])
    refine lv_aload_n hx hb dX5_parts_15 rfl (lv_at hl 0 rfl) ?_
    refine va_get (D := D) (ci := 5) (v := .int M_parts_12) (C := RX5) (T := TX5) (N := 27) hx hb hts hiX5 hown hK hP 0 rfl rfl 24 (by decide) hk0 (fun _ h9 => h9) rfl dX5_parts_16 ?_
    have h := Option.some.inj h
    subst h
    exact hend H locs _ ls hP hD hS dX5_parts_19 trivial
  · have h := ox_t c_5 h
    refine lv_iconst (v := 0) hx hb dX5_parts_8 (by decide) ?_
    have h := Option.some.inj h
    subst h
    exact hend H locs _ ls hP hD hS dX5_parts_9 trivial
set_option maxHeartbeats 4000000 in
set_option maxRecDepth 100000 in
theorem c_X5_part (l : Launch) (D : va_G) (cI cZ : ClassId) (ad : Nat → Nat) (M_thrown : Int32) (M_states : Int32) (M_moves : Int32) (M_known : Int32) (M_come : Int32) (M_lookedAt : Int32) (M_parts : Int32) (M_whole : Int32) (M_asks : Nat → Int32) (M_from : Nat → Int32) (M_to : Nat → Int32) (M_labelOf : Nat → Int32) (M_how : Nat → Int32) (M_first : Nat → Int32) (M_next : Nat → Int32) (M_queue : Nat → Int32) (M_by : Nat → Int32) (M_isReached : Nat → Int32) (M_alive : Nat → Int32) (M_reach : Nat → Int32) (M_its : Nat → Int32) (M_partOf : Nat → Int32) (a1 : Int32) (a2 : Int32) (a3 : Int32) (res : Int32 × Int32 × Int32 × Int32 × Int32 × Int32 × Int32 × (Nat → Int32) × (Nat → Int32) × (Nat → Int32) × (Nat → Int32) × (Nat → Int32) × (Nat → Int32) × (Nat → Int32)) (h : fn_X5_part M_thrown M_states M_moves M_known M_come M_lookedAt M_parts M_whole M_asks M_from M_to M_labelOf M_how M_first M_next M_queue M_by M_isReached M_alive M_reach M_its M_partOf a1 a2 a3 = some res) : mc_C l yX5_part wv_X5_part { frames := 4, cells := 0, slots := 0, locals := 100 } D [(cI, .int), (cZ, .boolean)] [.ref (ad 5), .int a1, .int a2, .int a3] [(kM ad M_thrown M_states M_moves M_known M_come M_lookedAt M_parts M_whole), (kI cI (ad 32) 200 M_asks), (kI cI (ad 33) 600 M_from), (kI cI (ad 34) 600 M_to), (kI cI (ad 35) 600 M_labelOf), (kI cI (ad 36) 16 M_how), (kI cI (ad 37) 200 M_first), (kI cI (ad 39) 600 M_next), (kI cI (ad 41) 200 M_queue), (kI cI (ad 42) 200 M_by), (kZ cZ (ad 44) 200 M_isReached), (kZ cZ (ad 45) 200 M_alive), (kZ cZ (ad 46) 40000 M_reach), (kZ cZ (ad 47) 200 M_its), (kI cI (ad 49) 200 M_partOf)] (some (.int res.1)) [(kM ad res.2.1 M_states M_moves res.2.2.1 res.2.2.2.1 res.2.2.2.2.1 res.2.2.2.2.2.1 res.2.2.2.2.2.2.1), (kI cI (ad 32) 200 M_asks), (kI cI (ad 33) 600 M_from), (kI cI (ad 34) 600 M_to), (kI cI (ad 35) 600 M_labelOf), (kI cI (ad 36) 16 M_how), (kI cI (ad 37) 200 M_first), (kI cI (ad 39) 600 M_next), (kI cI (ad 41) 200 res.2.2.2.2.2.2.2.1), (kI cI (ad 42) 200 res.2.2.2.2.2.2.2.2.1), (kZ cZ (ad 44) 200 res.2.2.2.2.2.2.2.2.2.1), (kZ cZ (ad 45) 200 res.2.2.2.2.2.2.2.2.2.2.1), (kZ cZ (ad 46) 40000 res.2.2.2.2.2.2.2.2.2.2.2.1), (kZ cZ (ad 47) 200 res.2.2.2.2.2.2.2.2.2.2.2.2.1), (kI cI (ad 49) 200 res.2.2.2.2.2.2.2.2.2.2.2.2.2)] := by
  refine mc_ofi (own := RX5) (by decide) rfl rfl (Nat.le_of_ble_eq_true rfl) ?_
  intro p e s m below meth c A Q ls hx hb hml hown hts hK hP hD hA hl hend
  have hS : va_S A s.heap s.heap [] := va_S.rf
  have hl : lv_has ls 6 [(0, .ref (ad 5)), (1, .int a1), (2, .int a2), (3, .int a3)] := hl
  obtain ⟨H, hH⟩ : ∃ H, H = s.heap := ⟨_, rfl⟩
  obtain ⟨locs, hlo⟩ : ∃ locs : List Loc, locs = [] := ⟨_, rfl⟩
  have hS : va_S A s.heap H locs := by rw [hH, hlo]; exact hS
  have hP : va_P D vwCl [(kM ad M_thrown M_states M_moves M_known M_come M_lookedAt M_parts M_whole), (kI cI (ad 32) 200 M_asks), (kI cI (ad 33) 600 M_from), (kI cI (ad 34) 600 M_to), (kI cI (ad 35) 600 M_labelOf), (kI cI (ad 36) 16 M_how), (kI cI (ad 37) 200 M_first), (kI cI (ad 39) 600 M_next), (kI cI (ad 41) 200 M_queue), (kI cI (ad 42) 200 M_by), (kZ cZ (ad 44) 200 M_isReached), (kZ cZ (ad 45) 200 M_alive), (kZ cZ (ad 46) 40000 M_reach), (kZ cZ (ad 47) 200 M_its), (kI cI (ad 49) 200 M_partOf)] H := by rw [hH]; exact hP
  suffices h9 : W p l e { frames := 4, cells := 0, slots := 0, locals := 100 } s m ([.ref (ad 5), .int a1, .int a2, .int a3] : List Value).toArray below meth c H locs 0 0 Q (F0 m 0 ls []) by rw [hH, hlo] at h9; exact h9
  clear hH hlo
  have hiX5 : ∀ w ∈ wsX50, w ∈ wv_X5_part := fun w h => List.mem_cons_of_mem _ (inlX5 w h)
  have hk0 := hts (.fieldLink RX5 73 "FairLoopsModel" "thrown" "I") (List.mem_cons_of_mem _ wk_121)
  have hk1 := hts (.fieldLink RX5 80 "FairLoopsModel" "states" "I") (List.mem_cons_of_mem _ wk_120)
  have hk2 := hts (.fieldLink RX5 67 "FairLoopsModel" "partOf" "[I") (List.mem_cons_of_mem _ wk_92)
  refine lv_aload_n hx hb dX5_part_0 rfl (lv_at hl 0 rfl) ?_
  refine lv_iload_n hx hb dX5_part_1 rfl (lv_at hl 1 rfl) ?_
  obtain ⟨⟨r_2, M_thrown_2⟩, hc_2, h⟩ := ox_b_of h
  refine mc_callV (As := [.int a1]) (rest := []) (b := ad 5) (Wc := [(kM ad M_thrown M_states M_moves M_known M_come M_lookedAt M_parts M_whole)]) (wr := [(kI cI (ad 32) 200 M_asks), (kI cI (ad 33) 600 M_from), (kI cI (ad 34) 600 M_to), (kI cI (ad 35) 600 M_labelOf), (kI cI (ad 36) 16 M_how), (kI cI (ad 37) 200 M_first), (kI cI (ad 39) 600 M_next), (kI cI (ad 41) 200 M_queue), (kI cI (ad 42) 200 M_by), (kZ cZ (ad 44) 200 M_isReached), (kZ cZ (ad 45) 200 M_alive), (kZ cZ (ad 46) 40000 M_reach), (kZ cZ (ad 47) 200 M_its), (kI cI (ad 49) 200 M_partOf)]) (W1 := [(kM ad M_thrown_2 M_states M_moves M_known M_come M_lookedAt M_parts M_whole)]) (wn := [(kM ad M_thrown_2 M_states M_moves M_known M_come M_lookedAt M_parts M_whole), (kI cI (ad 32) 200 M_asks), (kI cI (ad 33) 600 M_from), (kI cI (ad 34) 600 M_to), (kI cI (ad 35) 600 M_labelOf), (kI cI (ad 36) 16 M_how), (kI cI (ad 37) 200 M_first), (kI cI (ad 39) 600 M_next), (kI cI (ad 41) 200 M_queue), (kI cI (ad 42) 200 M_by), (kZ cZ (ad 44) 200 M_isReached), (kZ cZ (ad 45) 200 M_alive), (kZ cZ (ad 46) 40000 M_reach), (kZ cZ (ad 47) 200 M_its), (kI cI (ad 49) 200 M_partOf)]) (rv := some (.int r_2)) ⟨hx, hb, hml, hown, hts⟩ (c_X5_isAsk l D cI cZ ad M_thrown M_states M_moves M_known M_come M_lookedAt M_parts M_whole a1 _ hc_2) (cwV 1 hts (gl_V wk_310 wk_311 wk_312 wk_5 wk_313) rfl rfl rfl (by decide +kernel) ⟨Nat.le_of_ble_eq_true rfl, Nat.le_of_ble_eq_true rfl⟩) hK hP hD hS hA 5 0 rfl rfl rfl [0] [1, 2, 3, 4, 5, 6, 7, 8, 9, 10, 11, 12, 13, 14] [14, 0, 1, 2, 3, 4, 5, 6, 7, 8, 9, 10, 11, 12, 13] rfl rfl (by decide) rfl (by decide) (by decide) rfl rfl (by decide) rfl rfl hl.1 (Nat.le_of_ble_eq_true rfl) dX5_part_2 ⟨Nat.zero_le _, Nat.zero_le _⟩ (fun H locs hP hD hS => ?_)
  show W p l e { frames := 4, cells := 0, slots := 0, locals := 100 } s m ([.ref (ad 5), .int a1, .int a2, .int a3] : List Value).toArray below meth c H locs 0 0 Q (F0 m 5 ls [.int r_2])
  refine lv_if_ne (tgt := 10) hx hb dX5_part_5 (by decide) (fun c_5 => ?_) (fun c_5 => ?_)
  · have h := ox_f c_5 h
    refine lv_aload_n hx hb dX5_part_10 rfl (lv_at hl 0 rfl) ?_
    refine lv_iload_n hx hb dX5_part_11 rfl (lv_at hl 1 rfl) ?_
    obtain ⟨⟨M_known_12, M_come_12, M_lookedAt_12, M_parts_12, M_whole_12, M_queue_12, M_by_12, M_isReached_12, M_alive_12, M_reach_12, M_its_12, M_partOf_12⟩, hc_12, h⟩ := ox_b_of h
    refine mc_callV (As := [.int a1]) (rest := []) (b := ad 5) (Wc := [(kM ad M_thrown_2 M_states M_moves M_known M_come M_lookedAt M_parts M_whole), (kI cI (ad 32) 200 M_asks), (kI cI (ad 33) 600 M_from), (kI cI (ad 34) 600 M_to), (kI cI (ad 35) 600 M_labelOf), (kI cI (ad 36) 16 M_how), (kI cI (ad 37) 200 M_first), (kI cI (ad 39) 600 M_next), (kI cI (ad 41) 200 M_queue), (kI cI (ad 42) 200 M_by), (kZ cZ (ad 44) 200 M_isReached), (kZ cZ (ad 45) 200 M_alive), (kZ cZ (ad 46) 40000 M_reach), (kZ cZ (ad 47) 200 M_its), (kI cI (ad 49) 200 M_partOf)]) (wr := []) (W1 := [(kM ad M_thrown_2 M_states M_moves M_known_12 M_come_12 M_lookedAt_12 M_parts_12 M_whole_12), (kI cI (ad 32) 200 M_asks), (kI cI (ad 33) 600 M_from), (kI cI (ad 34) 600 M_to), (kI cI (ad 35) 600 M_labelOf), (kI cI (ad 36) 16 M_how), (kI cI (ad 37) 200 M_first), (kI cI (ad 39) 600 M_next), (kI cI (ad 41) 200 M_queue_12), (kI cI (ad 42) 200 M_by_12), (kZ cZ (ad 44) 200 M_isReached_12), (kZ cZ (ad 45) 200 M_alive_12), (kZ cZ (ad 46) 40000 M_reach_12), (kZ cZ (ad 47) 200 M_its_12), (kI cI (ad 49) 200 M_partOf_12)]) (wn := [(kM ad M_thrown_2 M_states M_moves M_known_12 M_come_12 M_lookedAt_12 M_parts_12 M_whole_12), (kI cI (ad 32) 200 M_asks), (kI cI (ad 33) 600 M_from), (kI cI (ad 34) 600 M_to), (kI cI (ad 35) 600 M_labelOf), (kI cI (ad 36) 16 M_how), (kI cI (ad 37) 200 M_first), (kI cI (ad 39) 600 M_next), (kI cI (ad 41) 200 M_queue_12), (kI cI (ad 42) 200 M_by_12), (kZ cZ (ad 44) 200 M_isReached_12), (kZ cZ (ad 45) 200 M_alive_12), (kZ cZ (ad 46) 40000 M_reach_12), (kZ cZ (ad 47) 200 M_its_12), (kI cI (ad 49) 200 M_partOf_12)]) (rv := none) ⟨hx, hb, hml, hown, hts⟩ (c_X5_look l D cI cZ ad M_thrown_2 M_states M_moves M_known M_come M_lookedAt M_parts M_whole M_asks M_from M_to M_labelOf M_how M_first M_next M_queue M_by M_isReached M_alive M_reach M_its M_partOf a1 _ hc_12) (cwV 1 hts (gl_V wk_319 wk_320 wk_321 wk_5 wk_322) rfl rfl rfl (by decide +kernel) ⟨Nat.le_of_ble_eq_true rfl, Nat.le_of_ble_eq_true rfl⟩) hK hP hD hS hA 5 0 rfl rfl rfl [0, 1, 2, 3, 4, 5, 6, 7, 8, 9, 10, 11, 12, 13, 14] [] [0, 1, 2, 3, 4, 5, 6, 7, 8, 9, 10, 11, 12, 13, 14] rfl rfl (by decide) rfl (by decide) (by decide) rfl rfl (by decide) rfl rfl hl.1 (Nat.le_of_ble_eq_true rfl) dX5_part_12 ⟨Nat.zero_le _, Nat.zero_le _⟩ (fun H locs hP hD hS => ?_)
    show W p l e { frames := 4, cells := 0, slots := 0, locals := 100 } s m ([.ref (ad 5), .int a1, .int a2, .int a3] : List Value).toArray below meth c H locs 0 0 Q (F0 m 15 ls [])
    refine lv_iconst (v := 0) hx hb dX5_part_15 (by decide) ?_
    refine lv_istore (lv' := [(4, .int 0), (0, .ref (ad 5)), (1, .int a1), (2, .int a2), (3, .int a3)]) hx hb dX5_part_16 hl (by decide) rfl (fun ls hl => ?_)
    refine lv_iconst (v := 0) hx hb dX5_part_18 (by decide) ?_
    refine lv_istore (lv' := [(5, .int 0), (4, .int 0), (0, .ref (ad 5)), (1, .int a1), (2, .int a2), (3, .int a3)]) hx hb dX5_part_19 hl (by decide) rfl (fun ls hl => ?_)
    obtain ⟨ex_21, hex_21, h_21⟩ := ox_b_of h
    have hX_21 : ∀ (v4_21 : Int32) (v5_21 : Int32) (H : Heap) (locs : List Loc) (ls : Array Slot), Sum.inl (v4_21, v5_21) = ex_21 → va_P D vwCl [(kM ad M_thrown_2 M_states M_moves M_known_12 M_come_12 M_lookedAt_12 M_parts_12 M_whole_12), (kI cI (ad 32) 200 M_asks), (kI cI (ad 33) 600 M_from), (kI cI (ad 34) 600 M_to), (kI cI (ad 35) 600 M_labelOf), (kI cI (ad 36) 16 M_how), (kI cI (ad 37) 200 M_first), (kI cI (ad 39) 600 M_next), (kI cI (ad 41) 200 M_queue_12), (kI cI (ad 42) 200 M_by_12), (kZ cZ (ad 44) 200 M_isReached_12), (kZ cZ (ad 45) 200 M_alive_12), (kZ cZ (ad 46) 40000 M_reach_12), (kZ cZ (ad 47) 200 M_its_12), (kI cI (ad 49) 200 M_partOf_12)] H → va_D A [(kM ad M_thrown_2 M_states M_moves M_known_12 M_come_12 M_lookedAt_12 M_parts_12 M_whole_12), (kI cI (ad 32) 200 M_asks), (kI cI (ad 33) 600 M_from), (kI cI (ad 34) 600 M_to), (kI cI (ad 35) 600 M_labelOf), (kI cI (ad 36) 16 M_how), (kI cI (ad 37) 200 M_first), (kI cI (ad 39) 600 M_next), (kI cI (ad 41) 200 M_queue_12), (kI cI (ad 42) 200 M_by_12), (kZ cZ (ad 44) 200 M_isReached_12), (kZ cZ (ad 45) 200 M_alive_12), (kZ cZ (ad 46) 40000 M_reach_12), (kZ cZ (ad 47) 200 M_its_12), (kI cI (ad 49) 200 M_partOf_12)] → va_S A s.heap H locs → lv_has ls 6 [(0, .ref (ad 5))] → W p l e { frames := 4, cells := 0, slots := 0, locals := 100 } s m ([.ref (ad 5), .int a1, .int a2, .int a3] : List Value).toArray below meth c H locs 0 0 Q (F0 m 67 ls []) := by
      intro v4_21 v5_21 H locs ls hex_21 hP hD hS hl
      subst hex_21
      have h := h_21
      refine lv_aload_n hx hb dX5_part_67 rfl (lv_at hl 0 rfl) ?_
      refine lv_iconst (v := 2) hx hb dX5_part_68 (by decide) ?_
      refine va_put (D := D) (ci := 5) (v := .int 2) (ty := .int) (C := RX5) (T := TX5) (N := 27) hx hb hts hiX5 tyX5 tyX5_ok nmX5 hown hK hP hD hS 0 rfl rfl 0 (by decide) hk0 (fun _ h9 => h9) rfl (by decide +kernel) rfl rfl (Nat.le_of_ble_eq_true rfl) dX5_part_69 (fun H locs hP hD hS => ?_)
      have hP : va_P D vwCl [(kM ad 2 M_states M_moves M_known_12 M_come_12 M_lookedAt_12 M_parts_12 M_whole_12), (kI cI (ad 32) 200 M_asks), (kI cI (ad 33) 600 M_from), (kI cI (ad 34) 600 M_to), (kI cI (ad 35) 600 M_labelOf), (kI cI (ad 36) 16 M_how), (kI cI (ad 37) 200 M_first), (kI cI (ad 39) 600 M_next), (kI cI (ad 41) 200 M_queue_12), (kI cI (ad 42) 200 M_by_12), (kZ cZ (ad 44) 200 M_isReached_12), (kZ cZ (ad 45) 200 M_alive_12), (kZ cZ (ad 46) 40000 M_reach_12), (kZ cZ (ad 47) 200 M_its_12), (kI cI (ad 49) 200 M_partOf_12)] H := hP
      have hD : va_D A [(kM ad 2 M_states M_moves M_known_12 M_come_12 M_lookedAt_12 M_parts_12 M_whole_12), (kI cI (ad 32) 200 M_asks), (kI cI (ad 33) 600 M_from), (kI cI (ad 34) 600 M_to), (kI cI (ad 35) 600 M_labelOf), (kI cI (ad 36) 16 M_how), (kI cI (ad 37) 200 M_first), (kI cI (ad 39) 600 M_next), (kI cI (ad 41) 200 M_queue_12), (kI cI (ad 42) 200 M_by_12), (kZ cZ (ad 44) 200 M_isReached_12), (kZ cZ (ad 45) 200 M_alive_12), (kZ cZ (ad 46) 40000 M_reach_12), (kZ cZ (ad 47) 200 M_its_12), (kI cI (ad 49) 200 M_partOf_12)] := hD
      refine lv_iconst (v := 0) hx hb dX5_part_72 (by decide) ?_
      have h := Option.some.inj h
      subst h
      exact hend H locs _ ls hP hD hS dX5_part_73 trivial
    have hL_21 : ∀ (n : Nat) (v4_21 : Int32) (v5_21 : Int32) (H : Heap) (locs : List Loc) (ls : Array Slot), ox_l (fn_X5_part_l21 M_states a2 a3 M_partOf_12 M_thrown_2 M_known_12 M_come_12 M_lookedAt_12 M_parts_12 M_whole_12 M_queue_12 M_by_12 M_isReached_12 M_alive_12 M_reach_12 M_its_12) n (v4_21, v5_21) = some ex_21 → va_P D vwCl [(kM ad M_thrown_2 M_states M_moves M_known_12 M_come_12 M_lookedAt_12 M_parts_12 M_whole_12), (kI cI (ad 32) 200 M_asks), (kI cI (ad 33) 600 M_from), (kI cI (ad 34) 600 M_to), (kI cI (ad 35) 600 M_labelOf), (kI cI (ad 36) 16 M_how), (kI cI (ad 37) 200 M_first), (kI cI (ad 39) 600 M_next), (kI cI (ad 41) 200 M_queue_12), (kI cI (ad 42) 200 M_by_12), (kZ cZ (ad 44) 200 M_isReached_12), (kZ cZ (ad 45) 200 M_alive_12), (kZ cZ (ad 46) 40000 M_reach_12), (kZ cZ (ad 47) 200 M_its_12), (kI cI (ad 49) 200 M_partOf_12)] H → va_D A [(kM ad M_thrown_2 M_states M_moves M_known_12 M_come_12 M_lookedAt_12 M_parts_12 M_whole_12), (kI cI (ad 32) 200 M_asks), (kI cI (ad 33) 600 M_from), (kI cI (ad 34) 600 M_to), (kI cI (ad 35) 600 M_labelOf), (kI cI (ad 36) 16 M_how), (kI cI (ad 37) 200 M_first), (kI cI (ad 39) 600 M_next), (kI cI (ad 41) 200 M_queue_12), (kI cI (ad 42) 200 M_by_12), (kZ cZ (ad 44) 200 M_isReached_12), (kZ cZ (ad 45) 200 M_alive_12), (kZ cZ (ad 46) 40000 M_reach_12), (kZ cZ (ad 47) 200 M_its_12), (kI cI (ad 49) 200 M_partOf_12)] → va_S A s.heap H locs → lv_has ls 6 [(0, .ref (ad 5)), (2, .int a2), (3, .int a3), (4, .int v4_21), (5, .int v5_21)] → W p l e { frames := 4, cells := 0, slots := 0, locals := 100 } s m ([.ref (ad 5), .int a1, .int a2, .int a3] : List Value).toArray below meth c H locs 0 0 Q (F0 m 21 ls []) := by
      intro n
      induction n with
      | zero => intro v4_21 v5_21 H locs ls hlp; exact ox_l_0 hlp
      | succ n ih_21 =>
        intro v4_21 v5_21 H locs ls hlp_21 hP hD hS hl
        obtain ⟨z_21, h, hlp_21⟩ := ox_l_of hlp_21
        refine lv_iload hx hb dX5_part_21 (lv_at hl 4 rfl) ?_
        refine lv_aload_n hx hb dX5_part_23 rfl (lv_at hl 0 rfl) ?_
        refine va_get (D := D) (ci := 5) (v := .int M_states) (C := RX5) (T := TX5) (N := 27) hx hb hts hiX5 hown hK hP 0 rfl rfl 1 (by decide) hk1 (fun _ h9 => h9) rfl dX5_part_24 ?_
        refine lv_icmp_ge (tgt := 67) hx hb dX5_part_27 (by decide) (fun c_27 => ?_) (fun c_27 => ?_)
        · have h := ox_t c_27 h
          obtain rfl := Option.some.inj h
          exact hX_21 v4_21 v5_21 H locs ls hlp_21 hP hD hS (lv_sub hl [0] rfl)
        · have h := ox_f c_27 h
          refine lv_iload_n hx hb dX5_part_30 rfl (lv_at hl 1 rfl) ?_
          refine lv_if_lt (tgt := 67) hx hb dX5_part_31 (by decide) (fun c_31 => ?_) (fun c_31 => ?_)
          · have h := ox_t c_31 h
            obtain rfl := Option.some.inj h
            exact hX_21 v4_21 v5_21 H locs ls hlp_21 hP hD hS (lv_sub hl [0] rfl)
          · have h := ox_f c_31 h
            refine lv_iload_n hx hb dX5_part_34 rfl (lv_at hl 2 rfl) ?_
            refine lv_if_lt (tgt := 67) hx hb dX5_part_35 (by decide) (fun c_35 => ?_) (fun c_35 => ?_)
            · have h := ox_t c_35 h
              obtain rfl := Option.some.inj h
              exact hX_21 v4_21 v5_21 H locs ls hlp_21 hP hD hS (lv_sub hl [0] rfl)
            · have h := ox_f c_35 h
              refine lv_aload_n hx hb dX5_part_38 rfl (lv_at hl 0 rfl) ?_
              refine va_get (D := D) (ci := 5) (v := .ref (ad 49)) (C := RX5) (T := TX5) (N := 27) hx hb hts hiX5 hown hK hP 0 rfl rfl 23 (by decide) hk2 (fun _ h9 => h9) rfl dX5_part_39 ?_
              refine lv_iload hx hb dX5_part_42 (lv_at hl 4 rfl) ?_
              obtain ⟨hi_44, h⟩ := ox_i_of h
              refine va_iald hx hb hK hP 14 0 rfl rfl hi_44 dX5_part_44 ?_
              refine lv_iload_n hx hb dX5_part_45 rfl (lv_at hl 1 rfl) ?_
              refine lv_icmp_ne (tgt := 61) hx hb dX5_part_46 (by decide) (fun c_46 => ?_) (fun c_46 => ?_)
              · have h := ox_f c_46 h
                refine lv_iinc (v := v5_21 + 1) (lv' := [(5, .int (v5_21 + 1)), (0, .ref (ad 5)), (2, .int a2), (3, .int a3), (4, .int v4_21)]) hx hb dX5_part_61 hl (k := 4) rfl rfl (by decide) rfl (fun ls hl => ?_)
                refine lv_goto (tgt := 21) hx hb dX5_part_64 (by decide) ?_
                obtain rfl := Option.some.inj h
                exact ih_21 v4_21 (v5_21 + 1) H locs ls hlp_21 hP hD hS (lv_sub hl [1, 2, 3, 4, 0] rfl)
              · have h := ox_t c_46 h
                refine lv_iload hx hb dX5_part_49 (lv_at hl 3 rfl) ?_
                refine lv_iload_n hx hb dX5_part_51 rfl (lv_at hl 2 rfl) ?_
                refine lv_icmp_ne (tgt := 58) hx hb dX5_part_52 (by decide) (fun c_52 => ?_) (fun c_52 => ?_)
                · have h := ox_f c_52 h
                  refine lv_iinc (v := v4_21 + 1) (lv' := [(4, .int (v4_21 + 1)), (0, .ref (ad 5)), (2, .int a2), (3, .int a3), (5, .int v5_21)]) hx hb dX5_part_58 hl (k := 3) rfl rfl (by decide) rfl (fun ls hl => ?_)
                  refine lv_iinc (v := v5_21 + 1) (lv' := [(5, .int (v5_21 + 1)), (4, .int (v4_21 + 1)), (0, .ref (ad 5)), (2, .int a2), (3, .int a3)]) hx hb dX5_part_61 hl (k := 4) rfl rfl (by decide) rfl (fun ls hl => ?_)
                  refine lv_goto (tgt := 21) hx hb dX5_part_64 (by decide) ?_
                  obtain rfl := Option.some.inj h
                  exact ih_21 (v4_21 + 1) (v5_21 + 1) H locs ls hlp_21 hP hD hS (lv_sub hl [2, 3, 4, 1, 0] rfl)
                · have h := ox_t c_52 h
                  refine lv_iload hx hb dX5_part_55 (lv_at hl 4 rfl) ?_
                  have h := Option.some.inj h
                  subst h
                  have hlp_21 : _ = ex_21 := hlp_21
                  subst hlp_21
                  have h_21 := Option.some.inj h_21
                  subst h_21
                  exact hend H locs _ ls hP hD hS dX5_part_57 trivial
    exact hL_21 1000000 0 0 H locs ls hex_21 hP hD hS (lv_sub hl [2, 4, 5, 1, 0] rfl)
  · have h := ox_t c_5 h
    refine lv_iconst (v := 0) hx hb dX5_part_8 (by decide) ?_
    have h := Option.some.inj h
    subst h
    exact hend H locs _ ls hP hD hS dX5_part_9 trivial
set_option maxHeartbeats 4000000 in
set_option maxRecDepth 100000 in
theorem c_X5_dead (l : Launch) (D : va_G) (cI cZ : ClassId) (ad : Nat → Nat) (M_thrown : Int32) (M_states : Int32) (M_moves : Int32) (M_known : Int32) (M_come : Int32) (M_lookedAt : Int32) (M_parts : Int32) (M_whole : Int32) (M_asks : Nat → Int32) (M_from : Nat → Int32) (M_to : Nat → Int32) (M_labelOf : Nat → Int32) (M_how : Nat → Int32) (M_first : Nat → Int32) (M_next : Nat → Int32) (M_end : Nat → Int32) (M_queue : Nat → Int32) (M_by : Nat → Int32) (M_isReached : Nat → Int32) (M_alive : Nat → Int32) (M_reach : Nat → Int32) (M_its : Nat → Int32) (M_partOf : Nat → Int32) (a1 : Int32) (a2 : Int32) (res : Int32 × Int32 × Int32 × Int32 × Int32 × Int32 × Int32 × (Nat → Int32) × (Nat → Int32) × (Nat → Int32) × (Nat → Int32) × (Nat → Int32) × (Nat → Int32) × (Nat → Int32)) (h : fn_X5_dead M_thrown M_states M_moves M_known M_come M_lookedAt M_parts M_whole M_asks M_from M_to M_labelOf M_how M_first M_next M_end M_queue M_by M_isReached M_alive M_reach M_its M_partOf a1 a2 = some res) : mc_C l yX5_dead wv_X5_dead { frames := 4, cells := 0, slots := 0, locals := 100 } D [(cI, .int), (cZ, .boolean)] [.ref (ad 5), .int a1, .int a2] [(kM ad M_thrown M_states M_moves M_known M_come M_lookedAt M_parts M_whole), (kI cI (ad 32) 200 M_asks), (kI cI (ad 33) 600 M_from), (kI cI (ad 34) 600 M_to), (kI cI (ad 35) 600 M_labelOf), (kI cI (ad 36) 16 M_how), (kI cI (ad 37) 200 M_first), (kI cI (ad 39) 600 M_next), (kZ cZ (ad 40) 200 M_end), (kI cI (ad 41) 200 M_queue), (kI cI (ad 42) 200 M_by), (kZ cZ (ad 44) 200 M_isReached), (kZ cZ (ad 45) 200 M_alive), (kZ cZ (ad 46) 40000 M_reach), (kZ cZ (ad 47) 200 M_its), (kI cI (ad 49) 200 M_partOf)] (some (.int res.1)) [(kM ad res.2.1 M_states M_moves res.2.2.1 res.2.2.2.1 res.2.2.2.2.1 res.2.2.2.2.2.1 res.2.2.2.2.2.2.1), (kI cI (ad 32) 200 M_asks), (kI cI (ad 33) 600 M_from), (kI cI (ad 34) 600 M_to), (kI cI (ad 35) 600 M_labelOf), (kI cI (ad 36) 16 M_how), (kI cI (ad 37) 200 M_first), (kI cI (ad 39) 600 M_next), (kZ cZ (ad 40) 200 M_end), (kI cI (ad 41) 200 res.2.2.2.2.2.2.2.1), (kI cI (ad 42) 200 res.2.2.2.2.2.2.2.2.1), (kZ cZ (ad 44) 200 res.2.2.2.2.2.2.2.2.2.1), (kZ cZ (ad 45) 200 res.2.2.2.2.2.2.2.2.2.2.1), (kZ cZ (ad 46) 40000 res.2.2.2.2.2.2.2.2.2.2.2.1), (kZ cZ (ad 47) 200 res.2.2.2.2.2.2.2.2.2.2.2.2.1), (kI cI (ad 49) 200 res.2.2.2.2.2.2.2.2.2.2.2.2.2)] := by
  refine mc_ofi (own := RX5) (by decide) rfl rfl (Nat.le_of_ble_eq_true rfl) ?_
  intro p e s m below meth c A Q ls hx hb hml hown hts hK hP hD hA hl hend
  have hS : va_S A s.heap s.heap [] := va_S.rf
  have hl : lv_has ls 5 [(0, .ref (ad 5)), (1, .int a1), (2, .int a2)] := hl
  obtain ⟨H, hH⟩ : ∃ H, H = s.heap := ⟨_, rfl⟩
  obtain ⟨locs, hlo⟩ : ∃ locs : List Loc, locs = [] := ⟨_, rfl⟩
  have hS : va_S A s.heap H locs := by rw [hH, hlo]; exact hS
  have hP : va_P D vwCl [(kM ad M_thrown M_states M_moves M_known M_come M_lookedAt M_parts M_whole), (kI cI (ad 32) 200 M_asks), (kI cI (ad 33) 600 M_from), (kI cI (ad 34) 600 M_to), (kI cI (ad 35) 600 M_labelOf), (kI cI (ad 36) 16 M_how), (kI cI (ad 37) 200 M_first), (kI cI (ad 39) 600 M_next), (kZ cZ (ad 40) 200 M_end), (kI cI (ad 41) 200 M_queue), (kI cI (ad 42) 200 M_by), (kZ cZ (ad 44) 200 M_isReached), (kZ cZ (ad 45) 200 M_alive), (kZ cZ (ad 46) 40000 M_reach), (kZ cZ (ad 47) 200 M_its), (kI cI (ad 49) 200 M_partOf)] H := by rw [hH]; exact hP
  suffices h9 : W p l e { frames := 4, cells := 0, slots := 0, locals := 100 } s m ([.ref (ad 5), .int a1, .int a2] : List Value).toArray below meth c H locs 0 0 Q (F0 m 0 ls []) by rw [hH, hlo] at h9; exact h9
  clear hH hlo
  have hiX5 : ∀ w ∈ wsX50, w ∈ wv_X5_dead := fun w h => List.mem_cons_of_mem _ (inlX5 w h)
  have hk0 := hts (.fieldLink RX5 73 "FairLoopsModel" "thrown" "I") (List.mem_cons_of_mem _ wk_121)
  have hk1 := hts (.fieldLink RX5 80 "FairLoopsModel" "states" "I") (List.mem_cons_of_mem _ wk_120)
  refine lv_aload_n hx hb dX5_dead_0 rfl (lv_at hl 0 rfl) ?_
  refine lv_iload_n hx hb dX5_dead_1 rfl (lv_at hl 1 rfl) ?_
  obtain ⟨⟨r_2, M_thrown_2⟩, hc_2, h⟩ := ox_b_of h
  refine mc_callV (As := [.int a1]) (rest := []) (b := ad 5) (Wc := [(kM ad M_thrown M_states M_moves M_known M_come M_lookedAt M_parts M_whole)]) (wr := [(kI cI (ad 32) 200 M_asks), (kI cI (ad 33) 600 M_from), (kI cI (ad 34) 600 M_to), (kI cI (ad 35) 600 M_labelOf), (kI cI (ad 36) 16 M_how), (kI cI (ad 37) 200 M_first), (kI cI (ad 39) 600 M_next), (kZ cZ (ad 40) 200 M_end), (kI cI (ad 41) 200 M_queue), (kI cI (ad 42) 200 M_by), (kZ cZ (ad 44) 200 M_isReached), (kZ cZ (ad 45) 200 M_alive), (kZ cZ (ad 46) 40000 M_reach), (kZ cZ (ad 47) 200 M_its), (kI cI (ad 49) 200 M_partOf)]) (W1 := [(kM ad M_thrown_2 M_states M_moves M_known M_come M_lookedAt M_parts M_whole)]) (wn := [(kM ad M_thrown_2 M_states M_moves M_known M_come M_lookedAt M_parts M_whole), (kI cI (ad 32) 200 M_asks), (kI cI (ad 33) 600 M_from), (kI cI (ad 34) 600 M_to), (kI cI (ad 35) 600 M_labelOf), (kI cI (ad 36) 16 M_how), (kI cI (ad 37) 200 M_first), (kI cI (ad 39) 600 M_next), (kZ cZ (ad 40) 200 M_end), (kI cI (ad 41) 200 M_queue), (kI cI (ad 42) 200 M_by), (kZ cZ (ad 44) 200 M_isReached), (kZ cZ (ad 45) 200 M_alive), (kZ cZ (ad 46) 40000 M_reach), (kZ cZ (ad 47) 200 M_its), (kI cI (ad 49) 200 M_partOf)]) (rv := some (.int r_2)) ⟨hx, hb, hml, hown, hts⟩ (c_X5_isAsk l D cI cZ ad M_thrown M_states M_moves M_known M_come M_lookedAt M_parts M_whole a1 _ hc_2) (cwV 1 hts (gl_V wk_310 wk_311 wk_312 wk_5 wk_313) rfl rfl rfl (by decide +kernel) ⟨Nat.le_of_ble_eq_true rfl, Nat.le_of_ble_eq_true rfl⟩) hK hP hD hS hA 5 0 rfl rfl rfl [0] [1, 2, 3, 4, 5, 6, 7, 8, 9, 10, 11, 12, 13, 14, 15] [15, 0, 1, 2, 3, 4, 5, 6, 7, 8, 9, 10, 11, 12, 13, 14] rfl rfl (by decide) rfl (by decide) (by decide) rfl rfl (by decide) rfl rfl hl.1 (Nat.le_of_ble_eq_true rfl) dX5_dead_2 ⟨Nat.zero_le _, Nat.zero_le _⟩ (fun H locs hP hD hS => ?_)
  show W p l e { frames := 4, cells := 0, slots := 0, locals := 100 } s m ([.ref (ad 5), .int a1, .int a2] : List Value).toArray below meth c H locs 0 0 Q (F0 m 5 ls [.int r_2])
  refine lv_if_ne (tgt := 10) hx hb dX5_dead_5 (by decide) (fun c_5 => ?_) (fun c_5 => ?_)
  · have h := ox_f c_5 h
    refine lv_aload_n hx hb dX5_dead_10 rfl (lv_at hl 0 rfl) ?_
    refine lv_iload_n hx hb dX5_dead_11 rfl (lv_at hl 1 rfl) ?_
    obtain ⟨⟨M_known_12, M_come_12, M_lookedAt_12, M_parts_12, M_whole_12, M_queue_12, M_by_12, M_isReached_12, M_alive_12, M_reach_12, M_its_12, M_partOf_12⟩, hc_12, h⟩ := ox_b_of h
    refine mc_callV (As := [.int a1]) (rest := []) (b := ad 5) (Wc := [(kM ad M_thrown_2 M_states M_moves M_known M_come M_lookedAt M_parts M_whole), (kI cI (ad 32) 200 M_asks), (kI cI (ad 33) 600 M_from), (kI cI (ad 34) 600 M_to), (kI cI (ad 35) 600 M_labelOf), (kI cI (ad 36) 16 M_how), (kI cI (ad 37) 200 M_first), (kI cI (ad 39) 600 M_next), (kI cI (ad 41) 200 M_queue), (kI cI (ad 42) 200 M_by), (kZ cZ (ad 44) 200 M_isReached), (kZ cZ (ad 45) 200 M_alive), (kZ cZ (ad 46) 40000 M_reach), (kZ cZ (ad 47) 200 M_its), (kI cI (ad 49) 200 M_partOf)]) (wr := [(kZ cZ (ad 40) 200 M_end)]) (W1 := [(kM ad M_thrown_2 M_states M_moves M_known_12 M_come_12 M_lookedAt_12 M_parts_12 M_whole_12), (kI cI (ad 32) 200 M_asks), (kI cI (ad 33) 600 M_from), (kI cI (ad 34) 600 M_to), (kI cI (ad 35) 600 M_labelOf), (kI cI (ad 36) 16 M_how), (kI cI (ad 37) 200 M_first), (kI cI (ad 39) 600 M_next), (kI cI (ad 41) 200 M_queue_12), (kI cI (ad 42) 200 M_by_12), (kZ cZ (ad 44) 200 M_isReached_12), (kZ cZ (ad 45) 200 M_alive_12), (kZ cZ (ad 46) 40000 M_reach_12), (kZ cZ (ad 47) 200 M_its_12), (kI cI (ad 49) 200 M_partOf_12)]) (wn := [(kM ad M_thrown_2 M_states M_moves M_known_12 M_come_12 M_lookedAt_12 M_parts_12 M_whole_12), (kI cI (ad 32) 200 M_asks), (kI cI (ad 33) 600 M_from), (kI cI (ad 34) 600 M_to), (kI cI (ad 35) 600 M_labelOf), (kI cI (ad 36) 16 M_how), (kI cI (ad 37) 200 M_first), (kI cI (ad 39) 600 M_next), (kZ cZ (ad 40) 200 M_end), (kI cI (ad 41) 200 M_queue_12), (kI cI (ad 42) 200 M_by_12), (kZ cZ (ad 44) 200 M_isReached_12), (kZ cZ (ad 45) 200 M_alive_12), (kZ cZ (ad 46) 40000 M_reach_12), (kZ cZ (ad 47) 200 M_its_12), (kI cI (ad 49) 200 M_partOf_12)]) (rv := none) ⟨hx, hb, hml, hown, hts⟩ (c_X5_look l D cI cZ ad M_thrown_2 M_states M_moves M_known M_come M_lookedAt M_parts M_whole M_asks M_from M_to M_labelOf M_how M_first M_next M_queue M_by M_isReached M_alive M_reach M_its M_partOf a1 _ hc_12) (cwV 1 hts (gl_V wk_319 wk_320 wk_321 wk_5 wk_322) rfl rfl rfl (by decide +kernel) ⟨Nat.le_of_ble_eq_true rfl, Nat.le_of_ble_eq_true rfl⟩) hK hP hD hS hA 5 0 rfl rfl rfl [0, 1, 2, 3, 4, 5, 6, 7, 9, 10, 11, 12, 13, 14, 15] [8] [1, 2, 3, 4, 5, 6, 7, 8, 0, 9, 10, 11, 12, 13, 14, 15] rfl rfl (by decide) rfl (by decide) (by decide) rfl rfl (by decide) rfl rfl hl.1 (Nat.le_of_ble_eq_true rfl) dX5_dead_12 ⟨Nat.zero_le _, Nat.zero_le _⟩ (fun H locs hP hD hS => ?_)
    show W p l e { frames := 4, cells := 0, slots := 0, locals := 100 } s m ([.ref (ad 5), .int a1, .int a2] : List Value).toArray below meth c H locs 0 0 Q (F0 m 15 ls [])
    refine lv_iconst (v := 0) hx hb dX5_dead_15 (by decide) ?_
    refine lv_istore_n (lv' := [(3, .int 0), (0, .ref (ad 5)), (1, .int a1), (2, .int a2)]) hx hb dX5_dead_16 rfl hl (by decide) rfl (fun ls hl => ?_)
    refine lv_iconst (v := 0) hx hb dX5_dead_17 (by decide) ?_
    refine lv_istore (lv' := [(4, .int 0), (3, .int 0), (0, .ref (ad 5)), (1, .int a1), (2, .int a2)]) hx hb dX5_dead_18 hl (by decide) rfl (fun ls hl => ?_)
    obtain ⟨ex_20, hex_20, h_20⟩ := ox_b_of h
    have hX_20 : ∀ (v3_20 : Int32) (v4_20 : Int32) (H : Heap) (locs : List Loc) (ls : Array Slot), Sum.inl (v3_20, v4_20) = ex_20 → va_P D vwCl [(kM ad M_thrown_2 M_states M_moves M_known_12 M_come_12 M_lookedAt_12 M_parts_12 M_whole_12), (kI cI (ad 32) 200 M_asks), (kI cI (ad 33) 600 M_from), (kI cI (ad 34) 600 M_to), (kI cI (ad 35) 600 M_labelOf), (kI cI (ad 36) 16 M_how), (kI cI (ad 37) 200 M_first), (kI cI (ad 39) 600 M_next), (kZ cZ (ad 40) 200 M_end), (kI cI (ad 41) 200 M_queue_12), (kI cI (ad 42) 200 M_by_12), (kZ cZ (ad 44) 200 M_isReached_12), (kZ cZ (ad 45) 200 M_alive_12), (kZ cZ (ad 46) 40000 M_reach_12), (kZ cZ (ad 47) 200 M_its_12), (kI cI (ad 49) 200 M_partOf_12)] H → va_D A [(kM ad M_thrown_2 M_states M_moves M_known_12 M_come_12 M_lookedAt_12 M_parts_12 M_whole_12), (kI cI (ad 32) 200 M_asks), (kI cI (ad 33) 600 M_from), (kI cI (ad 34) 600 M_to), (kI cI (ad 35) 600 M_labelOf), (kI cI (ad 36) 16 M_how), (kI cI (ad 37) 200 M_first), (kI cI (ad 39) 600 M_next), (kZ cZ (ad 40) 200 M_end), (kI cI (ad 41) 200 M_queue_12), (kI cI (ad 42) 200 M_by_12), (kZ cZ (ad 44) 200 M_isReached_12), (kZ cZ (ad 45) 200 M_alive_12), (kZ cZ (ad 46) 40000 M_reach_12), (kZ cZ (ad 47) 200 M_its_12), (kI cI (ad 49) 200 M_partOf_12)] → va_S A s.heap H locs → lv_has ls 5 [(0, .ref (ad 5))] → W p l e { frames := 4, cells := 0, slots := 0, locals := 100 } s m ([.ref (ad 5), .int a1, .int a2] : List Value).toArray below meth c H locs 0 0 Q (F0 m 59 ls []) := by
      intro v3_20 v4_20 H locs ls hex_20 hP hD hS hl
      subst hex_20
      have h := h_20
      refine lv_aload_n hx hb dX5_dead_59 rfl (lv_at hl 0 rfl) ?_
      refine lv_iconst (v := 2) hx hb dX5_dead_60 (by decide) ?_
      refine va_put (D := D) (ci := 5) (v := .int 2) (ty := .int) (C := RX5) (T := TX5) (N := 27) hx hb hts hiX5 tyX5 tyX5_ok nmX5 hown hK hP hD hS 0 rfl rfl 0 (by decide) hk0 (fun _ h9 => h9) rfl (by decide +kernel) rfl rfl (Nat.le_of_ble_eq_true rfl) dX5_dead_61 (fun H locs hP hD hS => ?_)
      have hP : va_P D vwCl [(kM ad 2 M_states M_moves M_known_12 M_come_12 M_lookedAt_12 M_parts_12 M_whole_12), (kI cI (ad 32) 200 M_asks), (kI cI (ad 33) 600 M_from), (kI cI (ad 34) 600 M_to), (kI cI (ad 35) 600 M_labelOf), (kI cI (ad 36) 16 M_how), (kI cI (ad 37) 200 M_first), (kI cI (ad 39) 600 M_next), (kZ cZ (ad 40) 200 M_end), (kI cI (ad 41) 200 M_queue_12), (kI cI (ad 42) 200 M_by_12), (kZ cZ (ad 44) 200 M_isReached_12), (kZ cZ (ad 45) 200 M_alive_12), (kZ cZ (ad 46) 40000 M_reach_12), (kZ cZ (ad 47) 200 M_its_12), (kI cI (ad 49) 200 M_partOf_12)] H := hP
      have hD : va_D A [(kM ad 2 M_states M_moves M_known_12 M_come_12 M_lookedAt_12 M_parts_12 M_whole_12), (kI cI (ad 32) 200 M_asks), (kI cI (ad 33) 600 M_from), (kI cI (ad 34) 600 M_to), (kI cI (ad 35) 600 M_labelOf), (kI cI (ad 36) 16 M_how), (kI cI (ad 37) 200 M_first), (kI cI (ad 39) 600 M_next), (kZ cZ (ad 40) 200 M_end), (kI cI (ad 41) 200 M_queue_12), (kI cI (ad 42) 200 M_by_12), (kZ cZ (ad 44) 200 M_isReached_12), (kZ cZ (ad 45) 200 M_alive_12), (kZ cZ (ad 46) 40000 M_reach_12), (kZ cZ (ad 47) 200 M_its_12), (kI cI (ad 49) 200 M_partOf_12)] := hD
      refine lv_iconst (v := 0) hx hb dX5_dead_64 (by decide) ?_
      have h := Option.some.inj h
      subst h
      exact hend H locs _ ls hP hD hS dX5_dead_65 trivial
    have hL_20 : ∀ (n : Nat) (v3_20 : Int32) (v4_20 : Int32) (H : Heap) (locs : List Loc) (ls : Array Slot), ox_l (fn_X5_dead_l20 M_states a2 M_first M_end M_its_12 M_thrown_2 M_known_12 M_come_12 M_lookedAt_12 M_parts_12 M_whole_12 M_queue_12 M_by_12 M_isReached_12 M_alive_12 M_reach_12 M_partOf_12) n (v3_20, v4_20) = some ex_20 → va_P D vwCl [(kM ad M_thrown_2 M_states M_moves M_known_12 M_come_12 M_lookedAt_12 M_parts_12 M_whole_12), (kI cI (ad 32) 200 M_asks), (kI cI (ad 33) 600 M_from), (kI cI (ad 34) 600 M_to), (kI cI (ad 35) 600 M_labelOf), (kI cI (ad 36) 16 M_how), (kI cI (ad 37) 200 M_first), (kI cI (ad 39) 600 M_next), (kZ cZ (ad 40) 200 M_end), (kI cI (ad 41) 200 M_queue_12), (kI cI (ad 42) 200 M_by_12), (kZ cZ (ad 44) 200 M_isReached_12), (kZ cZ (ad 45) 200 M_alive_12), (kZ cZ (ad 46) 40000 M_reach_12), (kZ cZ (ad 47) 200 M_its_12), (kI cI (ad 49) 200 M_partOf_12)] H → va_D A [(kM ad M_thrown_2 M_states M_moves M_known_12 M_come_12 M_lookedAt_12 M_parts_12 M_whole_12), (kI cI (ad 32) 200 M_asks), (kI cI (ad 33) 600 M_from), (kI cI (ad 34) 600 M_to), (kI cI (ad 35) 600 M_labelOf), (kI cI (ad 36) 16 M_how), (kI cI (ad 37) 200 M_first), (kI cI (ad 39) 600 M_next), (kZ cZ (ad 40) 200 M_end), (kI cI (ad 41) 200 M_queue_12), (kI cI (ad 42) 200 M_by_12), (kZ cZ (ad 44) 200 M_isReached_12), (kZ cZ (ad 45) 200 M_alive_12), (kZ cZ (ad 46) 40000 M_reach_12), (kZ cZ (ad 47) 200 M_its_12), (kI cI (ad 49) 200 M_partOf_12)] → va_S A s.heap H locs → lv_has ls 5 [(0, .ref (ad 5)), (2, .int a2), (3, .int v3_20), (4, .int v4_20)] → W p l e { frames := 4, cells := 0, slots := 0, locals := 100 } s m ([.ref (ad 5), .int a1, .int a2] : List Value).toArray below meth c H locs 0 0 Q (F0 m 20 ls []) := by
      intro n
      induction n with
      | zero => intro v3_20 v4_20 H locs ls hlp; exact ox_l_0 hlp
      | succ n ih_20 =>
        intro v3_20 v4_20 H locs ls hlp_20 hP hD hS hl
        obtain ⟨z_20, h, hlp_20⟩ := ox_l_of hlp_20
        refine lv_iload hx hb dX5_dead_20 (lv_at hl 3 rfl) ?_
        refine lv_aload_n hx hb dX5_dead_22 rfl (lv_at hl 0 rfl) ?_
        refine va_get (D := D) (ci := 5) (v := .int M_states) (C := RX5) (T := TX5) (N := 27) hx hb hts hiX5 hown hK hP 0 rfl rfl 1 (by decide) hk1 (fun _ h9 => h9) rfl dX5_dead_23 ?_
        refine lv_icmp_ge (tgt := 59) hx hb dX5_dead_26 (by decide) (fun c_26 => ?_) (fun c_26 => ?_)
        · have h := ox_t c_26 h
          obtain rfl := Option.some.inj h
          exact hX_20 v3_20 v4_20 H locs ls hlp_20 hP hD hS (lv_sub hl [0] rfl)
        · have h := ox_f c_26 h
          refine lv_iload_n hx hb dX5_dead_29 rfl (lv_at hl 1 rfl) ?_
          refine lv_if_lt (tgt := 59) hx hb dX5_dead_30 (by decide) (fun c_30 => ?_) (fun c_30 => ?_)
          · have h := ox_t c_30 h
            obtain rfl := Option.some.inj h
            exact hX_20 v3_20 v4_20 H locs ls hlp_20 hP hD hS (lv_sub hl [0] rfl)
          · have h := ox_f c_30 h
            refine lv_aload_n hx hb dX5_dead_33 rfl (lv_at hl 0 rfl) ?_
            refine lv_iload hx hb dX5_dead_34 (lv_at hl 3 rfl) ?_
            obtain ⟨r_36, hc_36, h⟩ := ox_b_of h
            refine mc_callV (As := [.int v4_20]) (rest := []) (b := ad 5) (Wc := [(kM ad M_thrown_2 M_states M_moves M_known_12 M_come_12 M_lookedAt_12 M_parts_12 M_whole_12), (kI cI (ad 37) 200 M_first), (kZ cZ (ad 40) 200 M_end), (kZ cZ (ad 47) 200 M_its_12)]) (wr := [(kI cI (ad 32) 200 M_asks), (kI cI (ad 33) 600 M_from), (kI cI (ad 34) 600 M_to), (kI cI (ad 35) 600 M_labelOf), (kI cI (ad 36) 16 M_how), (kI cI (ad 39) 600 M_next), (kI cI (ad 41) 200 M_queue_12), (kI cI (ad 42) 200 M_by_12), (kZ cZ (ad 44) 200 M_isReached_12), (kZ cZ (ad 45) 200 M_alive_12), (kZ cZ (ad 46) 40000 M_reach_12), (kI cI (ad 49) 200 M_partOf_12)]) (W1 := [(kM ad M_thrown_2 M_states M_moves M_known_12 M_come_12 M_lookedAt_12 M_parts_12 M_whole_12), (kI cI (ad 37) 200 M_first), (kZ cZ (ad 40) 200 M_end), (kZ cZ (ad 47) 200 M_its_12)]) (wn := [(kM ad M_thrown_2 M_states M_moves M_known_12 M_come_12 M_lookedAt_12 M_parts_12 M_whole_12), (kI cI (ad 32) 200 M_asks), (kI cI (ad 33) 600 M_from), (kI cI (ad 34) 600 M_to), (kI cI (ad 35) 600 M_labelOf), (kI cI (ad 36) 16 M_how), (kI cI (ad 37) 200 M_first), (kI cI (ad 39) 600 M_next), (kZ cZ (ad 40) 200 M_end), (kI cI (ad 41) 200 M_queue_12), (kI cI (ad 42) 200 M_by_12), (kZ cZ (ad 44) 200 M_isReached_12), (kZ cZ (ad 45) 200 M_alive_12), (kZ cZ (ad 46) 40000 M_reach_12), (kZ cZ (ad 47) 200 M_its_12), (kI cI (ad 49) 200 M_partOf_12)]) (rv := some (.int r_36)) ⟨hx, hb, hml, hown, hts⟩ (c_X5_isDead l D cI cZ ad M_thrown_2 M_states M_moves M_known_12 M_come_12 M_lookedAt_12 M_parts_12 M_whole_12 M_first M_end M_its_12 v4_20 _ hc_36) (cwV 1 hts (gl_V wk_356 wk_357 wk_358 wk_5 wk_359) rfl rfl rfl (by decide +kernel) ⟨Nat.le_of_ble_eq_true rfl, Nat.le_of_ble_eq_true rfl⟩) hK hP hD hS hA 5 0 rfl rfl rfl [0, 6, 8, 14] [1, 2, 3, 4, 5, 7, 9, 10, 11, 12, 13, 15] [12, 0, 1, 2, 3, 4, 13, 5, 14, 6, 7, 8, 9, 10, 15, 11] rfl rfl (by decide) rfl (by decide) (by decide) rfl rfl (by decide) rfl rfl hl.1 (Nat.le_of_ble_eq_true rfl) dX5_dead_36 ⟨Nat.zero_le _, Nat.zero_le _⟩ (fun H locs hP hD hS => ?_)
            show W p l e { frames := 4, cells := 0, slots := 0, locals := 100 } s m ([.ref (ad 5), .int a1, .int a2] : List Value).toArray below meth c H locs 0 0 Q (F0 m 39 ls [.int r_36])
            refine lv_if_eq (tgt := 53) hx hb dX5_dead_39 (by decide) (fun c_39 => ?_) (fun c_39 => ?_)
            · have h := ox_t c_39 h
              refine lv_iinc (v := v4_20 + 1) (lv' := [(4, .int (v4_20 + 1)), (0, .ref (ad 5)), (2, .int a2), (3, .int v3_20)]) hx hb dX5_dead_53 hl (k := 3) rfl rfl (by decide) rfl (fun ls hl => ?_)
              refine lv_goto (tgt := 20) hx hb dX5_dead_56 (by decide) ?_
              obtain rfl := Option.some.inj h
              exact ih_20 v3_20 (v4_20 + 1) H locs ls hlp_20 hP hD hS (lv_sub hl [1, 2, 3, 0] rfl)
            · have h := ox_f c_39 h
              refine lv_iload_n hx hb dX5_dead_42 rfl (lv_at hl 2 rfl) ?_
              refine lv_iload_n hx hb dX5_dead_43 rfl (lv_at hl 1 rfl) ?_
              refine lv_icmp_ne (tgt := 50) hx hb dX5_dead_44 (by decide) (fun c_44 => ?_) (fun c_44 => ?_)
              · have h := ox_f c_44 h
                refine lv_iinc (v := v3_20 + 1) (lv' := [(3, .int (v3_20 + 1)), (0, .ref (ad 5)), (2, .int a2), (4, .int v4_20)]) hx hb dX5_dead_50 hl (k := 2) rfl rfl (by decide) rfl (fun ls hl => ?_)
                refine lv_iinc (v := v4_20 + 1) (lv' := [(4, .int (v4_20 + 1)), (3, .int (v3_20 + 1)), (0, .ref (ad 5)), (2, .int a2)]) hx hb dX5_dead_53 hl (k := 3) rfl rfl (by decide) rfl (fun ls hl => ?_)
                refine lv_goto (tgt := 20) hx hb dX5_dead_56 (by decide) ?_
                obtain rfl := Option.some.inj h
                exact ih_20 (v3_20 + 1) (v4_20 + 1) H locs ls hlp_20 hP hD hS (lv_sub hl [2, 3, 1, 0] rfl)
              · have h := ox_t c_44 h
                refine lv_iload hx hb dX5_dead_47 (lv_at hl 3 rfl) ?_
                have h := Option.some.inj h
                subst h
                have hlp_20 : _ = ex_20 := hlp_20
                subst hlp_20
                have h_20 := Option.some.inj h_20
                subst h_20
                exact hend H locs _ ls hP hD hS dX5_dead_49 trivial
    exact hL_20 1000000 0 0 H locs ls hex_20 hP hD hS (lv_sub hl [2, 4, 1, 0] rfl)
  · have h := ox_t c_5 h
    refine lv_iconst (v := 0) hx hb dX5_dead_8 (by decide) ?_
    have h := Option.some.inj h
    subst h
    exact hend H locs _ ls hP hD hS dX5_dead_9 trivial
set_option maxHeartbeats 4000000 in
set_option maxRecDepth 100000 in
theorem c_X5_measure (l : Launch) (D : va_G) (cI cZ : ClassId) (ad : Nat → Nat) (M_thrown : Int32) (M_states : Int32) (M_moves : Int32) (M_known : Int32) (M_come : Int32) (M_lookedAt : Int32) (M_parts : Int32) (M_whole : Int32) (M_asks : Nat → Int32) (M_from : Nat → Int32) (M_to : Nat → Int32) (M_labelOf : Nat → Int32) (M_how : Nat → Int32) (M_first : Nat → Int32) (M_next : Nat → Int32) (M_queue : Nat → Int32) (M_by : Nat → Int32) (M_isReached : Nat → Int32) (M_alive : Nat → Int32) (M_reach : Nat → Int32) (M_its : Nat → Int32) (M_partOf : Nat → Int32) (M_longestFrom : Nat → Int32) (a1 : Int32) (res : Int32 × Int32 × Int32 × Int32 × Int32 × Int32 × (Nat → Int32) × (Nat → Int32) × (Nat → Int32) × (Nat → Int32) × (Nat → Int32) × (Nat → Int32) × (Nat → Int32) × (Nat → Int32)) (h : fn_X5_measure M_states M_moves M_known M_come M_lookedAt M_parts M_whole M_asks M_from M_to M_labelOf M_how M_first M_next M_queue M_by M_isReached M_alive M_reach M_its M_partOf M_longestFrom a1 = some res) : mc_C l yX5_measure wv_X5_measure { frames := 4, cells := 0, slots := 0, locals := 100 } D [(cI, .int), (cZ, .boolean)] [.ref (ad 5), .int a1] [(kM ad M_thrown M_states M_moves M_known M_come M_lookedAt M_parts M_whole), (kI cI (ad 32) 200 M_asks), (kI cI (ad 33) 600 M_from), (kI cI (ad 34) 600 M_to), (kI cI (ad 35) 600 M_labelOf), (kI cI (ad 36) 16 M_how), (kI cI (ad 37) 200 M_first), (kI cI (ad 39) 600 M_next), (kI cI (ad 41) 200 M_queue), (kI cI (ad 42) 200 M_by), (kZ cZ (ad 44) 200 M_isReached), (kZ cZ (ad 45) 200 M_alive), (kZ cZ (ad 46) 40000 M_reach), (kZ cZ (ad 47) 200 M_its), (kI cI (ad 49) 200 M_partOf), (kI cI (ad 50) 200 M_longestFrom)] (some (.int res.1)) [(kM ad M_thrown M_states M_moves res.2.1 res.2.2.1 res.2.2.2.1 res.2.2.2.2.1 res.2.2.2.2.2.1), (kI cI (ad 32) 200 M_asks), (kI cI (ad 33) 600 M_from), (kI cI (ad 34) 600 M_to), (kI cI (ad 35) 600 M_labelOf), (kI cI (ad 36) 16 M_how), (kI cI (ad 37) 200 M_first), (kI cI (ad 39) 600 M_next), (kI cI (ad 41) 200 res.2.2.2.2.2.2.1), (kI cI (ad 42) 200 res.2.2.2.2.2.2.2.1), (kZ cZ (ad 44) 200 res.2.2.2.2.2.2.2.2.1), (kZ cZ (ad 45) 200 res.2.2.2.2.2.2.2.2.2.1), (kZ cZ (ad 46) 40000 res.2.2.2.2.2.2.2.2.2.2.1), (kZ cZ (ad 47) 200 res.2.2.2.2.2.2.2.2.2.2.2.1), (kI cI (ad 49) 200 res.2.2.2.2.2.2.2.2.2.2.2.2.1), (kI cI (ad 50) 200 res.2.2.2.2.2.2.2.2.2.2.2.2.2)] := by
  refine mc_ofz (own := RX5) (by decide) rfl rfl (Nat.le_of_ble_eq_true rfl) ?_
  intro p e s m below meth c A Q ls hx hb hml hown hts hK hP hD hA hl hend
  have hS : va_S A s.heap s.heap [] := va_S.rf
  have hl : lv_has ls 6 [(0, .ref (ad 5)), (1, .int a1)] := hl
  obtain ⟨H, hH⟩ : ∃ H, H = s.heap := ⟨_, rfl⟩
  obtain ⟨locs, hlo⟩ : ∃ locs : List Loc, locs = [] := ⟨_, rfl⟩
  have hS : va_S A s.heap H locs := by rw [hH, hlo]; exact hS
  have hP : va_P D vwCl [(kM ad M_thrown M_states M_moves M_known M_come M_lookedAt M_parts M_whole), (kI cI (ad 32) 200 M_asks), (kI cI (ad 33) 600 M_from), (kI cI (ad 34) 600 M_to), (kI cI (ad 35) 600 M_labelOf), (kI cI (ad 36) 16 M_how), (kI cI (ad 37) 200 M_first), (kI cI (ad 39) 600 M_next), (kI cI (ad 41) 200 M_queue), (kI cI (ad 42) 200 M_by), (kZ cZ (ad 44) 200 M_isReached), (kZ cZ (ad 45) 200 M_alive), (kZ cZ (ad 46) 40000 M_reach), (kZ cZ (ad 47) 200 M_its), (kI cI (ad 49) 200 M_partOf), (kI cI (ad 50) 200 M_longestFrom)] H := by rw [hH]; exact hP
  suffices h9 : W p l e { frames := 4, cells := 0, slots := 0, locals := 100 } s m ([.ref (ad 5), .int a1] : List Value).toArray below meth c H locs 0 0 Q (F0 m 0 ls []) by rw [hH, hlo] at h9; exact h9
  clear hH hlo
  have hiX5 : ∀ w ∈ wsX50, w ∈ wv_X5_measure := fun w h => List.mem_cons_of_mem _ (inlX5 w h)
  have hk0 := hts (.fieldLink RX5 123 "FairLoopsModel" "whole" "I") (List.mem_cons_of_mem _ wk_323)
  have hk1 := hts (.fieldLink RX5 90 "FairLoopsModel" "moves" "I") (List.mem_cons_of_mem _ wk_154)
  have hk2 := hts (.fieldLink RX5 13 "FairLoopsModel" "from" "[I") (List.mem_cons_of_mem _ wk_74)
  have hk3 := hts (.fieldLink RX5 16 "FairLoopsModel" "to" "[I") (List.mem_cons_of_mem _ wk_75)
  have hk4 := hts (.fieldLink RX5 61 "FairLoopsModel" "its" "[Z") (List.mem_cons_of_mem _ wk_90)
  have hk5 := hts (.fieldLink RX5 70 "FairLoopsModel" "longestFrom" "[I") (List.mem_cons_of_mem _ wk_93)
  have hk6 := hts (.fieldLink RX5 80 "FairLoopsModel" "states" "I") (List.mem_cons_of_mem _ wk_120)
  refine lv_aload_n hx hb dX5_measure_0 rfl (lv_at hl 0 rfl) ?_
  refine lv_iload_n hx hb dX5_measure_1 rfl (lv_at hl 1 rfl) ?_
  obtain ⟨⟨M_known_2, M_come_2, M_lookedAt_2, M_parts_2, M_whole_2, M_queue_2, M_by_2, M_isReached_2, M_alive_2, M_reach_2, M_its_2, M_partOf_2⟩, hc_2, h⟩ := ox_b_of h
  refine mc_callV (As := [.int a1]) (rest := []) (b := ad 5) (Wc := [(kM ad M_thrown M_states M_moves M_known M_come M_lookedAt M_parts M_whole), (kI cI (ad 32) 200 M_asks), (kI cI (ad 33) 600 M_from), (kI cI (ad 34) 600 M_to), (kI cI (ad 35) 600 M_labelOf), (kI cI (ad 36) 16 M_how), (kI cI (ad 37) 200 M_first), (kI cI (ad 39) 600 M_next), (kI cI (ad 41) 200 M_queue), (kI cI (ad 42) 200 M_by), (kZ cZ (ad 44) 200 M_isReached), (kZ cZ (ad 45) 200 M_alive), (kZ cZ (ad 46) 40000 M_reach), (kZ cZ (ad 47) 200 M_its), (kI cI (ad 49) 200 M_partOf)]) (wr := [(kI cI (ad 50) 200 M_longestFrom)]) (W1 := [(kM ad M_thrown M_states M_moves M_known_2 M_come_2 M_lookedAt_2 M_parts_2 M_whole_2), (kI cI (ad 32) 200 M_asks), (kI cI (ad 33) 600 M_from), (kI cI (ad 34) 600 M_to), (kI cI (ad 35) 600 M_labelOf), (kI cI (ad 36) 16 M_how), (kI cI (ad 37) 200 M_first), (kI cI (ad 39) 600 M_next), (kI cI (ad 41) 200 M_queue_2), (kI cI (ad 42) 200 M_by_2), (kZ cZ (ad 44) 200 M_isReached_2), (kZ cZ (ad 45) 200 M_alive_2), (kZ cZ (ad 46) 40000 M_reach_2), (kZ cZ (ad 47) 200 M_its_2), (kI cI (ad 49) 200 M_partOf_2)]) (wn := [(kM ad M_thrown M_states M_moves M_known_2 M_come_2 M_lookedAt_2 M_parts_2 M_whole_2), (kI cI (ad 32) 200 M_asks), (kI cI (ad 33) 600 M_from), (kI cI (ad 34) 600 M_to), (kI cI (ad 35) 600 M_labelOf), (kI cI (ad 36) 16 M_how), (kI cI (ad 37) 200 M_first), (kI cI (ad 39) 600 M_next), (kI cI (ad 41) 200 M_queue_2), (kI cI (ad 42) 200 M_by_2), (kZ cZ (ad 44) 200 M_isReached_2), (kZ cZ (ad 45) 200 M_alive_2), (kZ cZ (ad 46) 40000 M_reach_2), (kZ cZ (ad 47) 200 M_its_2), (kI cI (ad 49) 200 M_partOf_2), (kI cI (ad 50) 200 M_longestFrom)]) (rv := none) ⟨hx, hb, hml, hown, hts⟩ (c_X5_look l D cI cZ ad M_thrown M_states M_moves M_known M_come M_lookedAt M_parts M_whole M_asks M_from M_to M_labelOf M_how M_first M_next M_queue M_by M_isReached M_alive M_reach M_its M_partOf a1 _ hc_2) (cwV 1 hts (gl_V wk_319 wk_320 wk_321 wk_5 wk_322) rfl rfl rfl (by decide +kernel) ⟨Nat.le_of_ble_eq_true rfl, Nat.le_of_ble_eq_true rfl⟩) hK hP hD hS hA 5 0 rfl rfl rfl [0, 1, 2, 3, 4, 5, 6, 7, 8, 9, 10, 11, 12, 13, 14] [15] [1, 2, 3, 4, 5, 6, 7, 8, 9, 10, 11, 12, 13, 14, 15, 0] rfl rfl (by decide) rfl (by decide) (by decide) rfl rfl (by decide) rfl rfl hl.1 (Nat.le_of_ble_eq_true rfl) dX5_measure_2 ⟨Nat.zero_le _, Nat.zero_le _⟩ (fun H locs hP hD hS => ?_)
  show W p l e { frames := 4, cells := 0, slots := 0, locals := 100 } s m ([.ref (ad 5), .int a1] : List Value).toArray below meth c H locs 0 0 Q (F0 m 5 ls [])
  refine lv_iconst (v := 0) hx hb dX5_measure_5 (by decide) ?_
  refine lv_istore_n (lv' := [(2, .int 0), (0, .ref (ad 5)), (1, .int a1)]) hx hb dX5_measure_6 rfl hl (by decide) rfl (fun ls hl => ?_)
  obtain ⟨ex_7, hex_7, h_7⟩ := ox_b_of h
  have hX_7 : ∀ (v2_7 : Int32) (M_longestFrom_7 : Nat → Int32) (H : Heap) (locs : List Loc) (ls : Array Slot), (v2_7, M_longestFrom_7) = ex_7 → va_P D vwCl [(kM ad M_thrown M_states M_moves M_known_2 M_come_2 M_lookedAt_2 M_parts_2 M_whole_2), (kI cI (ad 32) 200 M_asks), (kI cI (ad 33) 600 M_from), (kI cI (ad 34) 600 M_to), (kI cI (ad 35) 600 M_labelOf), (kI cI (ad 36) 16 M_how), (kI cI (ad 37) 200 M_first), (kI cI (ad 39) 600 M_next), (kI cI (ad 41) 200 M_queue_2), (kI cI (ad 42) 200 M_by_2), (kZ cZ (ad 44) 200 M_isReached_2), (kZ cZ (ad 45) 200 M_alive_2), (kZ cZ (ad 46) 40000 M_reach_2), (kZ cZ (ad 47) 200 M_its_2), (kI cI (ad 49) 200 M_partOf_2), (kI cI (ad 50) 200 M_longestFrom_7)] H → va_D A [(kM ad M_thrown M_states M_moves M_known_2 M_come_2 M_lookedAt_2 M_parts_2 M_whole_2), (kI cI (ad 32) 200 M_asks), (kI cI (ad 33) 600 M_from), (kI cI (ad 34) 600 M_to), (kI cI (ad 35) 600 M_labelOf), (kI cI (ad 36) 16 M_how), (kI cI (ad 37) 200 M_first), (kI cI (ad 39) 600 M_next), (kI cI (ad 41) 200 M_queue_2), (kI cI (ad 42) 200 M_by_2), (kZ cZ (ad 44) 200 M_isReached_2), (kZ cZ (ad 45) 200 M_alive_2), (kZ cZ (ad 46) 40000 M_reach_2), (kZ cZ (ad 47) 200 M_its_2), (kI cI (ad 49) 200 M_partOf_2), (kI cI (ad 50) 200 M_longestFrom_7)] → va_S A s.heap H locs → lv_has ls 6 [(0, .ref (ad 5))] → W p l e { frames := 4, cells := 0, slots := 0, locals := 100 } s m ([.ref (ad 5), .int a1] : List Value).toArray below meth c H locs 0 0 Q (F0 m 41 ls []) := by
    intro v2_7 M_longestFrom_7 H locs ls hex_7 hP hD hS hl
    subst hex_7
    have h := h_7
    refine lv_aload_n hx hb dX5_measure_41 rfl (lv_at hl 0 rfl) ?_
    refine va_get (D := D) (ci := 5) (v := .int M_whole_2) (C := RX5) (T := TX5) (N := 27) hx hb hts hiX5 hown hK hP 0 rfl rfl 25 (by decide) hk0 (fun _ h9 => h9) rfl dX5_measure_42 ?_
    refine lv_if_le (tgt := 50) hx hb dX5_measure_45 (by decide) (fun c_45 => ?_) (fun c_45 => ?_)
    · have h := ox_t c_45 h
      refine lv_iconst (v := 1) hx hb dX5_measure_50 (by decide) ?_
      refine lv_istore_n (lv' := [(2, .int 1), (0, .ref (ad 5))]) hx hb dX5_measure_51 rfl hl (by decide) rfl (fun ls hl => ?_)
      obtain ⟨ex_52, hex_52, h_52⟩ := ox_b_of h
      have hX_52 : ∀ (v2_52 : Int32) (M_longestFrom_52 : Nat → Int32) (H : Heap) (locs : List Loc) (ls : Array Slot), (v2_52, M_longestFrom_52) = ex_52 → va_P D vwCl [(kM ad M_thrown M_states M_moves M_known_2 M_come_2 M_lookedAt_2 M_parts_2 M_whole_2), (kI cI (ad 32) 200 M_asks), (kI cI (ad 33) 600 M_from), (kI cI (ad 34) 600 M_to), (kI cI (ad 35) 600 M_labelOf), (kI cI (ad 36) 16 M_how), (kI cI (ad 37) 200 M_first), (kI cI (ad 39) 600 M_next), (kI cI (ad 41) 200 M_queue_2), (kI cI (ad 42) 200 M_by_2), (kZ cZ (ad 44) 200 M_isReached_2), (kZ cZ (ad 45) 200 M_alive_2), (kZ cZ (ad 46) 40000 M_reach_2), (kZ cZ (ad 47) 200 M_its_2), (kI cI (ad 49) 200 M_partOf_2), (kI cI (ad 50) 200 M_longestFrom_52)] H → va_D A [(kM ad M_thrown M_states M_moves M_known_2 M_come_2 M_lookedAt_2 M_parts_2 M_whole_2), (kI cI (ad 32) 200 M_asks), (kI cI (ad 33) 600 M_from), (kI cI (ad 34) 600 M_to), (kI cI (ad 35) 600 M_labelOf), (kI cI (ad 36) 16 M_how), (kI cI (ad 37) 200 M_first), (kI cI (ad 39) 600 M_next), (kI cI (ad 41) 200 M_queue_2), (kI cI (ad 42) 200 M_by_2), (kZ cZ (ad 44) 200 M_isReached_2), (kZ cZ (ad 45) 200 M_alive_2), (kZ cZ (ad 46) 40000 M_reach_2), (kZ cZ (ad 47) 200 M_its_2), (kI cI (ad 49) 200 M_partOf_2), (kI cI (ad 50) 200 M_longestFrom_52)] → va_S A s.heap H locs → lv_has ls 6 [] → W p l e { frames := 4, cells := 0, slots := 0, locals := 100 } s m ([.ref (ad 5), .int a1] : List Value).toArray below meth c H locs 0 0 Q (F0 m 148 ls []) := by
        intro v2_52 M_longestFrom_52 H locs ls hex_52 hP hD hS hl
        subst hex_52
        have h := h_52
        refine lv_iconst (v := 1) hx hb dX5_measure_148 (by decide) ?_
        have h := Option.some.inj h
        subst h
        exact hend H locs _ ls hP hD hS dX5_measure_149 nb_1
      have hL_52 : ∀ (n : Nat) (v2_52 : Int32) (M_longestFrom_52 : Nat → Int32) (H : Heap) (locs : List Loc) (ls : Array Slot), ox_l (fn_X5_measure_l52 M_moves M_from M_its_2 M_to) n (v2_52, M_longestFrom_52) = some ex_52 → va_P D vwCl [(kM ad M_thrown M_states M_moves M_known_2 M_come_2 M_lookedAt_2 M_parts_2 M_whole_2), (kI cI (ad 32) 200 M_asks), (kI cI (ad 33) 600 M_from), (kI cI (ad 34) 600 M_to), (kI cI (ad 35) 600 M_labelOf), (kI cI (ad 36) 16 M_how), (kI cI (ad 37) 200 M_first), (kI cI (ad 39) 600 M_next), (kI cI (ad 41) 200 M_queue_2), (kI cI (ad 42) 200 M_by_2), (kZ cZ (ad 44) 200 M_isReached_2), (kZ cZ (ad 45) 200 M_alive_2), (kZ cZ (ad 46) 40000 M_reach_2), (kZ cZ (ad 47) 200 M_its_2), (kI cI (ad 49) 200 M_partOf_2), (kI cI (ad 50) 200 M_longestFrom_52)] H → va_D A [(kM ad M_thrown M_states M_moves M_known_2 M_come_2 M_lookedAt_2 M_parts_2 M_whole_2), (kI cI (ad 32) 200 M_asks), (kI cI (ad 33) 600 M_from), (kI cI (ad 34) 600 M_to), (kI cI (ad 35) 600 M_labelOf), (kI cI (ad 36) 16 M_how), (kI cI (ad 37) 200 M_first), (kI cI (ad 39) 600 M_next), (kI cI (ad 41) 200 M_queue_2), (kI cI (ad 42) 200 M_by_2), (kZ cZ (ad 44) 200 M_isReached_2), (kZ cZ (ad 45) 200 M_alive_2), (kZ cZ (ad 46) 40000 M_reach_2), (kZ cZ (ad 47) 200 M_its_2), (kI cI (ad 49) 200 M_partOf_2), (kI cI (ad 50) 200 M_longestFrom_52)] → va_S A s.heap H locs → lv_has ls 6 [(0, .ref (ad 5)), (2, .int v2_52)] → W p l e { frames := 4, cells := 0, slots := 0, locals := 100 } s m ([.ref (ad 5), .int a1] : List Value).toArray below meth c H locs 0 0 Q (F0 m 52 ls []) := by
        intro n
        induction n with
        | zero => intro v2_52 M_longestFrom_52 H locs ls hlp; exact ox_l_0 hlp
        | succ n ih_52 =>
          intro v2_52 M_longestFrom_52 H locs ls hlp_52 hP hD hS hl
          obtain ⟨z_52, h, hlp_52⟩ := ox_l_of hlp_52
          refine lv_iload_n hx hb dX5_measure_52 rfl (lv_at hl 1 rfl) ?_
          refine lv_if_eq (tgt := 148) hx hb dX5_measure_53 (by decide) (fun c_53 => ?_) (fun c_53 => ?_)
          · have h := ox_t c_53 h
            obtain rfl := Option.some.inj h
            exact hX_52 v2_52 M_longestFrom_52 H locs ls hlp_52 hP hD hS (lv_sub hl [] rfl)
          · have h := ox_f c_53 h
            refine lv_iconst (v := 0) hx hb dX5_measure_56 (by decide) ?_
            refine lv_istore_n (lv' := [(2, .int 0), (0, .ref (ad 5))]) hx hb dX5_measure_57 rfl hl (by decide) rfl (fun ls hl => ?_)
            refine lv_iconst (v := 0) hx hb dX5_measure_58 (by decide) ?_
            refine lv_istore_n (lv' := [(3, .int 0), (2, .int 0), (0, .ref (ad 5))]) hx hb dX5_measure_59 rfl hl (by decide) rfl (fun ls hl => ?_)
            obtain ⟨ex_60, hex_60, h_60⟩ := ox_b_of h
            have hX_60 : ∀ (v2_60 : Int32) (v3_60 : Int32) (M_longestFrom_60 : Nat → Int32) (H : Heap) (locs : List Loc) (ls : Array Slot), (v2_60, v3_60, M_longestFrom_60) = ex_60 → va_P D vwCl [(kM ad M_thrown M_states M_moves M_known_2 M_come_2 M_lookedAt_2 M_parts_2 M_whole_2), (kI cI (ad 32) 200 M_asks), (kI cI (ad 33) 600 M_from), (kI cI (ad 34) 600 M_to), (kI cI (ad 35) 600 M_labelOf), (kI cI (ad 36) 16 M_how), (kI cI (ad 37) 200 M_first), (kI cI (ad 39) 600 M_next), (kI cI (ad 41) 200 M_queue_2), (kI cI (ad 42) 200 M_by_2), (kZ cZ (ad 44) 200 M_isReached_2), (kZ cZ (ad 45) 200 M_alive_2), (kZ cZ (ad 46) 40000 M_reach_2), (kZ cZ (ad 47) 200 M_its_2), (kI cI (ad 49) 200 M_partOf_2), (kI cI (ad 50) 200 M_longestFrom_60)] H → va_D A [(kM ad M_thrown M_states M_moves M_known_2 M_come_2 M_lookedAt_2 M_parts_2 M_whole_2), (kI cI (ad 32) 200 M_asks), (kI cI (ad 33) 600 M_from), (kI cI (ad 34) 600 M_to), (kI cI (ad 35) 600 M_labelOf), (kI cI (ad 36) 16 M_how), (kI cI (ad 37) 200 M_first), (kI cI (ad 39) 600 M_next), (kI cI (ad 41) 200 M_queue_2), (kI cI (ad 42) 200 M_by_2), (kZ cZ (ad 44) 200 M_isReached_2), (kZ cZ (ad 45) 200 M_alive_2), (kZ cZ (ad 46) 40000 M_reach_2), (kZ cZ (ad 47) 200 M_its_2), (kI cI (ad 49) 200 M_partOf_2), (kI cI (ad 50) 200 M_longestFrom_60)] → va_S A s.heap H locs → lv_has ls 6 [(0, .ref (ad 5)), (2, .int v2_60)] → W p l e { frames := 4, cells := 0, slots := 0, locals := 100 } s m ([.ref (ad 5), .int a1] : List Value).toArray below meth c H locs 0 0 Q (F0 m 145 ls []) := by
              intro v2_60 v3_60 M_longestFrom_60 H locs ls hex_60 hP hD hS hl
              subst hex_60
              have h := h_60
              refine lv_goto (tgt := 52) hx hb dX5_measure_145 (by decide) ?_
              obtain rfl := Option.some.inj h
              exact ih_52 v2_60 M_longestFrom_60 H locs ls hlp_52 hP hD hS (lv_sub hl [0, 1] rfl)
            have hL_60 : ∀ (n : Nat) (v2_60 : Int32) (v3_60 : Int32) (M_longestFrom_60 : Nat → Int32) (H : Heap) (locs : List Loc) (ls : Array Slot), ox_l (fn_X5_measure_l60 M_moves M_from M_its_2 M_to) n (v2_60, v3_60, M_longestFrom_60) = some ex_60 → va_P D vwCl [(kM ad M_thrown M_states M_moves M_known_2 M_come_2 M_lookedAt_2 M_parts_2 M_whole_2), (kI cI (ad 32) 200 M_asks), (kI cI (ad 33) 600 M_from), (kI cI (ad 34) 600 M_to), (kI cI (ad 35) 600 M_labelOf), (kI cI (ad 36) 16 M_how), (kI cI (ad 37) 200 M_first), (kI cI (ad 39) 600 M_next), (kI cI (ad 41) 200 M_queue_2), (kI cI (ad 42) 200 M_by_2), (kZ cZ (ad 44) 200 M_isReached_2), (kZ cZ (ad 45) 200 M_alive_2), (kZ cZ (ad 46) 40000 M_reach_2), (kZ cZ (ad 47) 200 M_its_2), (kI cI (ad 49) 200 M_partOf_2), (kI cI (ad 50) 200 M_longestFrom_60)] H → va_D A [(kM ad M_thrown M_states M_moves M_known_2 M_come_2 M_lookedAt_2 M_parts_2 M_whole_2), (kI cI (ad 32) 200 M_asks), (kI cI (ad 33) 600 M_from), (kI cI (ad 34) 600 M_to), (kI cI (ad 35) 600 M_labelOf), (kI cI (ad 36) 16 M_how), (kI cI (ad 37) 200 M_first), (kI cI (ad 39) 600 M_next), (kI cI (ad 41) 200 M_queue_2), (kI cI (ad 42) 200 M_by_2), (kZ cZ (ad 44) 200 M_isReached_2), (kZ cZ (ad 45) 200 M_alive_2), (kZ cZ (ad 46) 40000 M_reach_2), (kZ cZ (ad 47) 200 M_its_2), (kI cI (ad 49) 200 M_partOf_2), (kI cI (ad 50) 200 M_longestFrom_60)] → va_S A s.heap H locs → lv_has ls 6 [(0, .ref (ad 5)), (2, .int v2_60), (3, .int v3_60)] → W p l e { frames := 4, cells := 0, slots := 0, locals := 100 } s m ([.ref (ad 5), .int a1] : List Value).toArray below meth c H locs 0 0 Q (F0 m 60 ls []) := by
              intro n
              induction n with
              | zero => intro v2_60 v3_60 M_longestFrom_60 H locs ls hlp; exact ox_l_0 hlp
              | succ n ih_60 =>
                intro v2_60 v3_60 M_longestFrom_60 H locs ls hlp_60 hP hD hS hl
                obtain ⟨z_60, h, hlp_60⟩ := ox_l_of hlp_60
                refine lv_iload_n hx hb dX5_measure_60 rfl (lv_at hl 2 rfl) ?_
                refine lv_aload_n hx hb dX5_measure_61 rfl (lv_at hl 0 rfl) ?_
                refine va_get (D := D) (ci := 5) (v := .int M_moves) (C := RX5) (T := TX5) (N := 27) hx hb hts hiX5 hown hK hP 0 rfl rfl 2 (by decide) hk1 (fun _ h9 => h9) rfl dX5_measure_62 ?_
                refine lv_icmp_ge (tgt := 145) hx hb dX5_measure_65 (by decide) (fun c_65 => ?_) (fun c_65 => ?_)
                · have h := ox_t c_65 h
                  obtain rfl := Option.some.inj h
                  exact hX_60 v2_60 v3_60 M_longestFrom_60 H locs ls hlp_60 hP hD hS (lv_sub hl [0, 1] rfl)
                · have h := ox_f c_65 h
                  refine lv_aload_n hx hb dX5_measure_68 rfl (lv_at hl 0 rfl) ?_
                  refine va_get (D := D) (ci := 5) (v := .ref (ad 33)) (C := RX5) (T := TX5) (N := 27) hx hb hts hiX5 hown hK hP 0 rfl rfl 4 (by decide) hk2 (fun _ h9 => h9) rfl dX5_measure_69 ?_
                  refine lv_iload_n hx hb dX5_measure_72 rfl (lv_at hl 2 rfl) ?_
                  obtain ⟨hi_73, h⟩ := ox_i_of h
                  refine va_iald hx hb hK hP 2 0 rfl rfl hi_73 dX5_measure_73 ?_
                  refine lv_istore (lv' := [(4, .int (M_from v3_60.toNatClampNeg)), (0, .ref (ad 5)), (2, .int v2_60), (3, .int v3_60)]) hx hb dX5_measure_74 hl (by decide) rfl (fun ls hl => ?_)
                  refine lv_aload_n hx hb dX5_measure_76 rfl (lv_at hl 1 rfl) ?_
                  refine va_get (D := D) (ci := 5) (v := .ref (ad 34)) (C := RX5) (T := TX5) (N := 27) hx hb hts hiX5 hown hK hP 0 rfl rfl 5 (by decide) hk3 (fun _ h9 => h9) rfl dX5_measure_77 ?_
                  refine lv_iload_n hx hb dX5_measure_80 rfl (lv_at hl 3 rfl) ?_
                  obtain ⟨hi_81, h⟩ := ox_i_of h
                  refine va_iald hx hb hK hP 3 0 rfl rfl hi_81 dX5_measure_81 ?_
                  refine lv_istore (lv' := [(5, .int (M_to v3_60.toNatClampNeg)), (4, .int (M_from v3_60.toNatClampNeg)), (0, .ref (ad 5)), (2, .int v2_60), (3, .int v3_60)]) hx hb dX5_measure_82 hl (by decide) rfl (fun ls hl => ?_)
                  refine lv_aload_n hx hb dX5_measure_84 rfl (lv_at hl 2 rfl) ?_
                  refine va_get (D := D) (ci := 5) (v := .ref (ad 47)) (C := RX5) (T := TX5) (N := 27) hx hb hts hiX5 hown hK hP 0 rfl rfl 21 (by decide) hk4 (fun _ h9 => h9) rfl dX5_measure_85 ?_
                  refine lv_iload hx hb dX5_measure_88 (lv_at hl 1 rfl) ?_
                  obtain ⟨hi_90, h⟩ := ox_i_of h
                  refine va_zald hx hb hK hP 13 1 rfl rfl hi_90 dX5_measure_90 ?_
                  refine lv_if_eq (tgt := 139) hx hb dX5_measure_91 (by decide) (fun c_91 => ?_) (fun c_91 => ?_)
                  · have h := ox_t c_91 h
                    refine lv_iinc (v := v3_60 + 1) (lv' := [(3, .int (v3_60 + 1)), (5, .int (M_to v3_60.toNatClampNeg)), (4, .int (M_from v3_60.toNatClampNeg)), (0, .ref (ad 5)), (2, .int v2_60)]) hx hb dX5_measure_139 hl (k := 4) rfl rfl (by decide) rfl (fun ls hl => ?_)
                    refine lv_goto (tgt := 60) hx hb dX5_measure_142 (by decide) ?_
                    obtain rfl := Option.some.inj h
                    exact ih_60 v2_60 (v3_60 + 1) M_longestFrom_60 H locs ls hlp_60 hP hD hS (lv_sub hl [3, 4, 0] rfl)
                  · have h := ox_f c_91 h
                    refine lv_aload_n hx hb dX5_measure_94 rfl (lv_at hl 2 rfl) ?_
                    refine va_get (D := D) (ci := 5) (v := .ref (ad 47)) (C := RX5) (T := TX5) (N := 27) hx hb hts hiX5 hown hK hP 0 rfl rfl 21 (by decide) hk4 (fun _ h9 => h9) rfl dX5_measure_95 ?_
                    refine lv_iload hx hb dX5_measure_98 (lv_at hl 0 rfl) ?_
                    obtain ⟨hi_100, h⟩ := ox_i_of h
                    refine va_zald hx hb hK hP 13 1 rfl rfl hi_100 dX5_measure_100 ?_
                    refine lv_if_eq (tgt := 139) hx hb dX5_measure_101 (by decide) (fun c_101 => ?_) (fun c_101 => ?_)
                    · have h := ox_t c_101 h
                      refine lv_iinc (v := v3_60 + 1) (lv' := [(3, .int (v3_60 + 1)), (5, .int (M_to v3_60.toNatClampNeg)), (4, .int (M_from v3_60.toNatClampNeg)), (0, .ref (ad 5)), (2, .int v2_60)]) hx hb dX5_measure_139 hl (k := 4) rfl rfl (by decide) rfl (fun ls hl => ?_)
                      refine lv_goto (tgt := 60) hx hb dX5_measure_142 (by decide) ?_
                      obtain rfl := Option.some.inj h
                      exact ih_60 v2_60 (v3_60 + 1) M_longestFrom_60 H locs ls hlp_60 hP hD hS (lv_sub hl [3, 4, 0] rfl)
                    · have h := ox_f c_101 h
                      refine lv_aload_n hx hb dX5_measure_104 rfl (lv_at hl 2 rfl) ?_
                      refine va_get (D := D) (ci := 5) (v := .ref (ad 50)) (C := RX5) (T := TX5) (N := 27) hx hb hts hiX5 hown hK hP 0 rfl rfl 26 (by decide) hk5 (fun _ h9 => h9) rfl dX5_measure_105 ?_
                      refine lv_iload hx hb dX5_measure_108 (lv_at hl 1 rfl) ?_
                      obtain ⟨hi_110, h⟩ := ox_i_of h
                      refine va_iald hx hb hK hP 15 0 rfl rfl hi_110 dX5_measure_110 ?_
                      refine lv_aload_n hx hb dX5_measure_111 rfl (lv_at hl 2 rfl) ?_
                      refine va_get (D := D) (ci := 5) (v := .ref (ad 50)) (C := RX5) (T := TX5) (N := 27) hx hb hts hiX5 hown hK hP 0 rfl rfl 26 (by decide) hk5 (fun _ h9 => h9) rfl dX5_measure_112 ?_
                      refine lv_iload hx hb dX5_measure_115 (lv_at hl 0 rfl) ?_
                      obtain ⟨hi_117, h⟩ := ox_i_of h
                      refine va_iald hx hb hK hP 15 0 rfl rfl hi_117 dX5_measure_117 ?_
                      refine lv_icmp_gt (tgt := 139) hx hb dX5_measure_118 (by decide) (fun c_118 => ?_) (fun c_118 => ?_)
                      · have h := ox_t c_118 h
                        refine lv_iinc (v := v3_60 + 1) (lv' := [(3, .int (v3_60 + 1)), (5, .int (M_to v3_60.toNatClampNeg)), (4, .int (M_from v3_60.toNatClampNeg)), (0, .ref (ad 5)), (2, .int v2_60)]) hx hb dX5_measure_139 hl (k := 4) rfl rfl (by decide) rfl (fun ls hl => ?_)
                        refine lv_goto (tgt := 60) hx hb dX5_measure_142 (by decide) ?_
                        obtain rfl := Option.some.inj h
                        exact ih_60 v2_60 (v3_60 + 1) M_longestFrom_60 H locs ls hlp_60 hP hD hS (lv_sub hl [3, 4, 0] rfl)
                      · have h := ox_f c_118 h
                        refine lv_aload_n hx hb dX5_measure_121 rfl (lv_at hl 2 rfl) ?_
                        refine va_get (D := D) (ci := 5) (v := .ref (ad 50)) (C := RX5) (T := TX5) (N := 27) hx hb hts hiX5 hown hK hP 0 rfl rfl 26 (by decide) hk5 (fun _ h9 => h9) rfl dX5_measure_122 ?_
                        refine lv_iload hx hb dX5_measure_125 (lv_at hl 1 rfl) ?_
                        refine lv_aload_n hx hb dX5_measure_127 rfl (lv_at hl 2 rfl) ?_
                        refine va_get (D := D) (ci := 5) (v := .ref (ad 50)) (C := RX5) (T := TX5) (N := 27) hx hb hts hiX5 hown hK hP 0 rfl rfl 26 (by decide) hk5 (fun _ h9 => h9) rfl dX5_measure_128 ?_
                        refine lv_iload hx hb dX5_measure_131 (lv_at hl 0 rfl) ?_
                        obtain ⟨hi_133, h⟩ := ox_i_of h
                        refine va_iald hx hb hK hP 15 0 rfl rfl hi_133 dX5_measure_133 ?_
                        refine lv_iconst (v := 1) hx hb dX5_measure_134 (by decide) ?_
                        refine lv_iadd hx hb dX5_measure_135 ?_
                        obtain ⟨hi_136, h⟩ := ox_i_of h
                        refine va_iast hx hb hK hP hD hS 15 0 rfl rfl hi_136 dX5_measure_136 (fun H locs hP hD hS => ?_)
                        have hP : va_P D vwCl [(kM ad M_thrown M_states M_moves M_known_2 M_come_2 M_lookedAt_2 M_parts_2 M_whole_2), (kI cI (ad 32) 200 M_asks), (kI cI (ad 33) 600 M_from), (kI cI (ad 34) 600 M_to), (kI cI (ad 35) 600 M_labelOf), (kI cI (ad 36) 16 M_how), (kI cI (ad 37) 200 M_first), (kI cI (ad 39) 600 M_next), (kI cI (ad 41) 200 M_queue_2), (kI cI (ad 42) 200 M_by_2), (kZ cZ (ad 44) 200 M_isReached_2), (kZ cZ (ad 45) 200 M_alive_2), (kZ cZ (ad 46) 40000 M_reach_2), (kZ cZ (ad 47) 200 M_its_2), (kI cI (ad 49) 200 M_partOf_2), (kI cI (ad 50) 200 (upd M_longestFrom_60 (M_from v3_60.toNatClampNeg).toNatClampNeg ((M_longestFrom_60 (M_to v3_60.toNatClampNeg).toNatClampNeg) + 1)))] H := hP
                        have hD : va_D A [(kM ad M_thrown M_states M_moves M_known_2 M_come_2 M_lookedAt_2 M_parts_2 M_whole_2), (kI cI (ad 32) 200 M_asks), (kI cI (ad 33) 600 M_from), (kI cI (ad 34) 600 M_to), (kI cI (ad 35) 600 M_labelOf), (kI cI (ad 36) 16 M_how), (kI cI (ad 37) 200 M_first), (kI cI (ad 39) 600 M_next), (kI cI (ad 41) 200 M_queue_2), (kI cI (ad 42) 200 M_by_2), (kZ cZ (ad 44) 200 M_isReached_2), (kZ cZ (ad 45) 200 M_alive_2), (kZ cZ (ad 46) 40000 M_reach_2), (kZ cZ (ad 47) 200 M_its_2), (kI cI (ad 49) 200 M_partOf_2), (kI cI (ad 50) 200 (upd M_longestFrom_60 (M_from v3_60.toNatClampNeg).toNatClampNeg ((M_longestFrom_60 (M_to v3_60.toNatClampNeg).toNatClampNeg) + 1)))] := hD
                        refine lv_iconst (v := 1) hx hb dX5_measure_137 (by decide) ?_
                        refine lv_istore_n (lv' := [(2, .int 1), (5, .int (M_to v3_60.toNatClampNeg)), (4, .int (M_from v3_60.toNatClampNeg)), (0, .ref (ad 5)), (3, .int v3_60)]) hx hb dX5_measure_138 rfl hl (by decide) rfl (fun ls hl => ?_)
                        refine lv_iinc (v := v3_60 + 1) (lv' := [(3, .int (v3_60 + 1)), (2, .int 1), (5, .int (M_to v3_60.toNatClampNeg)), (4, .int (M_from v3_60.toNatClampNeg)), (0, .ref (ad 5))]) hx hb dX5_measure_139 hl (k := 4) rfl rfl (by decide) rfl (fun ls hl => ?_)
                        refine lv_goto (tgt := 60) hx hb dX5_measure_142 (by decide) ?_
                        obtain rfl := Option.some.inj h
                        exact ih_60 1 (v3_60 + 1) (upd M_longestFrom_60 (M_from v3_60.toNatClampNeg).toNatClampNeg ((M_longestFrom_60 (M_to v3_60.toNatClampNeg).toNatClampNeg) + 1)) H locs ls hlp_60 hP hD hS (lv_sub hl [4, 1, 0] rfl)
            exact hL_60 1000000 0 0 M_longestFrom_52 H locs ls hex_60 hP hD hS (lv_sub hl [2, 1, 0] rfl)
      exact hL_52 1000000 1 M_longestFrom_7 H locs ls hex_52 hP hD hS (lv_sub hl [1, 0] rfl)
    · have h := ox_f c_45 h
      refine lv_iconst (v := 0) hx hb dX5_measure_48 (by decide) ?_
      have h := Option.some.inj h
      subst h
      exact hend H locs _ ls hP hD hS dX5_measure_49 nb_0
  have hL_7 : ∀ (n : Nat) (v2_7 : Int32) (M_longestFrom_7 : Nat → Int32) (H : Heap) (locs : List Loc) (ls : Array Slot), ox_l (fn_X5_measure_l7 M_states M_its_2) n (v2_7, M_longestFrom_7) = some ex_7 → va_P D vwCl [(kM ad M_thrown M_states M_moves M_known_2 M_come_2 M_lookedAt_2 M_parts_2 M_whole_2), (kI cI (ad 32) 200 M_asks), (kI cI (ad 33) 600 M_from), (kI cI (ad 34) 600 M_to), (kI cI (ad 35) 600 M_labelOf), (kI cI (ad 36) 16 M_how), (kI cI (ad 37) 200 M_first), (kI cI (ad 39) 600 M_next), (kI cI (ad 41) 200 M_queue_2), (kI cI (ad 42) 200 M_by_2), (kZ cZ (ad 44) 200 M_isReached_2), (kZ cZ (ad 45) 200 M_alive_2), (kZ cZ (ad 46) 40000 M_reach_2), (kZ cZ (ad 47) 200 M_its_2), (kI cI (ad 49) 200 M_partOf_2), (kI cI (ad 50) 200 M_longestFrom_7)] H → va_D A [(kM ad M_thrown M_states M_moves M_known_2 M_come_2 M_lookedAt_2 M_parts_2 M_whole_2), (kI cI (ad 32) 200 M_asks), (kI cI (ad 33) 600 M_from), (kI cI (ad 34) 600 M_to), (kI cI (ad 35) 600 M_labelOf), (kI cI (ad 36) 16 M_how), (kI cI (ad 37) 200 M_first), (kI cI (ad 39) 600 M_next), (kI cI (ad 41) 200 M_queue_2), (kI cI (ad 42) 200 M_by_2), (kZ cZ (ad 44) 200 M_isReached_2), (kZ cZ (ad 45) 200 M_alive_2), (kZ cZ (ad 46) 40000 M_reach_2), (kZ cZ (ad 47) 200 M_its_2), (kI cI (ad 49) 200 M_partOf_2), (kI cI (ad 50) 200 M_longestFrom_7)] → va_S A s.heap H locs → lv_has ls 6 [(0, .ref (ad 5)), (2, .int v2_7)] → W p l e { frames := 4, cells := 0, slots := 0, locals := 100 } s m ([.ref (ad 5), .int a1] : List Value).toArray below meth c H locs 0 0 Q (F0 m 7 ls []) := by
    intro n
    induction n with
    | zero => intro v2_7 M_longestFrom_7 H locs ls hlp; exact ox_l_0 hlp
    | succ n ih_7 =>
      intro v2_7 M_longestFrom_7 H locs ls hlp_7 hP hD hS hl
      obtain ⟨z_7, h, hlp_7⟩ := ox_l_of hlp_7
      refine lv_iload_n hx hb dX5_measure_7 rfl (lv_at hl 1 rfl) ?_
      refine lv_aload_n hx hb dX5_measure_8 rfl (lv_at hl 0 rfl) ?_
      refine va_get (D := D) (ci := 5) (v := .int M_states) (C := RX5) (T := TX5) (N := 27) hx hb hts hiX5 hown hK hP 0 rfl rfl 1 (by decide) hk6 (fun _ h9 => h9) rfl dX5_measure_9 ?_
      refine lv_icmp_ge (tgt := 41) hx hb dX5_measure_12 (by decide) (fun c_12 => ?_) (fun c_12 => ?_)
      · have h := ox_t c_12 h
        obtain rfl := Option.some.inj h
        exact hX_7 v2_7 M_longestFrom_7 H locs ls hlp_7 hP hD hS (lv_sub hl [0] rfl)
      · have h := ox_f c_12 h
        refine lv_aload_n hx hb dX5_measure_15 rfl (lv_at hl 0 rfl) ?_
        refine va_get (D := D) (ci := 5) (v := .ref (ad 50)) (C := RX5) (T := TX5) (N := 27) hx hb hts hiX5 hown hK hP 0 rfl rfl 26 (by decide) hk5 (fun _ h9 => h9) rfl dX5_measure_16 ?_
        refine lv_iload_n hx hb dX5_measure_19 rfl (lv_at hl 1 rfl) ?_
        refine lv_aload_n hx hb dX5_measure_20 rfl (lv_at hl 0 rfl) ?_
        refine va_get (D := D) (ci := 5) (v := .ref (ad 47)) (C := RX5) (T := TX5) (N := 27) hx hb hts hiX5 hown hK hP 0 rfl rfl 21 (by decide) hk4 (fun _ h9 => h9) rfl dX5_measure_21 ?_
        refine lv_iload_n hx hb dX5_measure_24 rfl (lv_at hl 1 rfl) ?_
        obtain ⟨hi_25, h⟩ := ox_i_of h
        refine va_zald hx hb hK hP 13 1 rfl rfl hi_25 dX5_measure_25 ?_
        refine lv_if_eq (tgt := 33) hx hb dX5_measure_26 (by decide) (fun c_26 => ?_) (fun c_26 => ?_)
        · have h := ox_t c_26 h
          refine lv_iconst (v := (-1)) hx hb dX5_measure_33 (by decide) ?_
          obtain ⟨hi_34, h⟩ := ox_i_of h
          refine va_iast hx hb hK hP hD hS 15 0 rfl rfl hi_34 dX5_measure_34 (fun H locs hP hD hS => ?_)
          have hP : va_P D vwCl [(kM ad M_thrown M_states M_moves M_known_2 M_come_2 M_lookedAt_2 M_parts_2 M_whole_2), (kI cI (ad 32) 200 M_asks), (kI cI (ad 33) 600 M_from), (kI cI (ad 34) 600 M_to), (kI cI (ad 35) 600 M_labelOf), (kI cI (ad 36) 16 M_how), (kI cI (ad 37) 200 M_first), (kI cI (ad 39) 600 M_next), (kI cI (ad 41) 200 M_queue_2), (kI cI (ad 42) 200 M_by_2), (kZ cZ (ad 44) 200 M_isReached_2), (kZ cZ (ad 45) 200 M_alive_2), (kZ cZ (ad 46) 40000 M_reach_2), (kZ cZ (ad 47) 200 M_its_2), (kI cI (ad 49) 200 M_partOf_2), (kI cI (ad 50) 200 (upd M_longestFrom_7 v2_7.toNatClampNeg (-1)))] H := hP
          have hD : va_D A [(kM ad M_thrown M_states M_moves M_known_2 M_come_2 M_lookedAt_2 M_parts_2 M_whole_2), (kI cI (ad 32) 200 M_asks), (kI cI (ad 33) 600 M_from), (kI cI (ad 34) 600 M_to), (kI cI (ad 35) 600 M_labelOf), (kI cI (ad 36) 16 M_how), (kI cI (ad 37) 200 M_first), (kI cI (ad 39) 600 M_next), (kI cI (ad 41) 200 M_queue_2), (kI cI (ad 42) 200 M_by_2), (kZ cZ (ad 44) 200 M_isReached_2), (kZ cZ (ad 45) 200 M_alive_2), (kZ cZ (ad 46) 40000 M_reach_2), (kZ cZ (ad 47) 200 M_its_2), (kI cI (ad 49) 200 M_partOf_2), (kI cI (ad 50) 200 (upd M_longestFrom_7 v2_7.toNatClampNeg (-1)))] := hD
          refine lv_iinc (v := v2_7 + 1) (lv' := [(2, .int (v2_7 + 1)), (0, .ref (ad 5))]) hx hb dX5_measure_35 hl (k := 1) rfl rfl (by decide) rfl (fun ls hl => ?_)
          refine lv_goto (tgt := 7) hx hb dX5_measure_38 (by decide) ?_
          obtain rfl := Option.some.inj h
          exact ih_7 (v2_7 + 1) (upd M_longestFrom_7 v2_7.toNatClampNeg (-1)) H locs ls hlp_7 hP hD hS (lv_sub hl [1, 0] rfl)
        · have h := ox_f c_26 h
          refine lv_iconst (v := 0) hx hb dX5_measure_29 (by decide) ?_
          refine lv_goto (tgt := 34) hx hb dX5_measure_30 (by decide) ?_
          obtain ⟨hi_34, h⟩ := ox_i_of h
          refine va_iast hx hb hK hP hD hS 15 0 rfl rfl hi_34 dX5_measure_34 (fun H locs hP hD hS => ?_)
          have hP : va_P D vwCl [(kM ad M_thrown M_states M_moves M_known_2 M_come_2 M_lookedAt_2 M_parts_2 M_whole_2), (kI cI (ad 32) 200 M_asks), (kI cI (ad 33) 600 M_from), (kI cI (ad 34) 600 M_to), (kI cI (ad 35) 600 M_labelOf), (kI cI (ad 36) 16 M_how), (kI cI (ad 37) 200 M_first), (kI cI (ad 39) 600 M_next), (kI cI (ad 41) 200 M_queue_2), (kI cI (ad 42) 200 M_by_2), (kZ cZ (ad 44) 200 M_isReached_2), (kZ cZ (ad 45) 200 M_alive_2), (kZ cZ (ad 46) 40000 M_reach_2), (kZ cZ (ad 47) 200 M_its_2), (kI cI (ad 49) 200 M_partOf_2), (kI cI (ad 50) 200 (upd M_longestFrom_7 v2_7.toNatClampNeg 0))] H := hP
          have hD : va_D A [(kM ad M_thrown M_states M_moves M_known_2 M_come_2 M_lookedAt_2 M_parts_2 M_whole_2), (kI cI (ad 32) 200 M_asks), (kI cI (ad 33) 600 M_from), (kI cI (ad 34) 600 M_to), (kI cI (ad 35) 600 M_labelOf), (kI cI (ad 36) 16 M_how), (kI cI (ad 37) 200 M_first), (kI cI (ad 39) 600 M_next), (kI cI (ad 41) 200 M_queue_2), (kI cI (ad 42) 200 M_by_2), (kZ cZ (ad 44) 200 M_isReached_2), (kZ cZ (ad 45) 200 M_alive_2), (kZ cZ (ad 46) 40000 M_reach_2), (kZ cZ (ad 47) 200 M_its_2), (kI cI (ad 49) 200 M_partOf_2), (kI cI (ad 50) 200 (upd M_longestFrom_7 v2_7.toNatClampNeg 0))] := hD
          refine lv_iinc (v := v2_7 + 1) (lv' := [(2, .int (v2_7 + 1)), (0, .ref (ad 5))]) hx hb dX5_measure_35 hl (k := 1) rfl rfl (by decide) rfl (fun ls hl => ?_)
          refine lv_goto (tgt := 7) hx hb dX5_measure_38 (by decide) ?_
          obtain rfl := Option.some.inj h
          exact ih_7 (v2_7 + 1) (upd M_longestFrom_7 v2_7.toNatClampNeg 0) H locs ls hlp_7 hP hD hS (lv_sub hl [1, 0] rfl)
  exact hL_7 1000000 0 M_longestFrom H locs ls hex_7 hP hD hS (lv_sub hl [1, 0] rfl)
set_option maxHeartbeats 4000000 in
set_option maxRecDepth 100000 in
theorem c_X5_longest (l : Launch) (D : va_G) (cI cZ : ClassId) (ad : Nat → Nat) (M_thrown : Int32) (M_states : Int32) (M_moves : Int32) (M_known : Int32) (M_come : Int32) (M_lookedAt : Int32) (M_parts : Int32) (M_whole : Int32) (M_asks : Nat → Int32) (M_from : Nat → Int32) (M_to : Nat → Int32) (M_labelOf : Nat → Int32) (M_how : Nat → Int32) (M_first : Nat → Int32) (M_next : Nat → Int32) (M_queue : Nat → Int32) (M_by : Nat → Int32) (M_isReached : Nat → Int32) (M_alive : Nat → Int32) (M_reach : Nat → Int32) (M_its : Nat → Int32) (M_partOf : Nat → Int32) (M_longestFrom : Nat → Int32) (a1 : Int32) (res : Int32 × Int32 × Int32 × Int32 × Int32 × Int32 × Int32 × (Nat → Int32) × (Nat → Int32) × (Nat → Int32) × (Nat → Int32) × (Nat → Int32) × (Nat → Int32) × (Nat → Int32) × (Nat → Int32)) (h : fn_X5_longest M_thrown M_states M_moves M_known M_come M_lookedAt M_parts M_whole M_asks M_from M_to M_labelOf M_how M_first M_next M_queue M_by M_isReached M_alive M_reach M_its M_partOf M_longestFrom a1 = some res) : mc_C l yX5_longest wv_X5_longest { frames := 5, cells := 0, slots := 0, locals := 125 } D [(cI, .int), (cZ, .boolean)] [.ref (ad 5), .int a1] [(kM ad M_thrown M_states M_moves M_known M_come M_lookedAt M_parts M_whole), (kI cI (ad 32) 200 M_asks), (kI cI (ad 33) 600 M_from), (kI cI (ad 34) 600 M_to), (kI cI (ad 35) 600 M_labelOf), (kI cI (ad 36) 16 M_how), (kI cI (ad 37) 200 M_first), (kI cI (ad 39) 600 M_next), (kI cI (ad 41) 200 M_queue), (kI cI (ad 42) 200 M_by), (kZ cZ (ad 44) 200 M_isReached), (kZ cZ (ad 45) 200 M_alive), (kZ cZ (ad 46) 40000 M_reach), (kZ cZ (ad 47) 200 M_its), (kI cI (ad 49) 200 M_partOf), (kI cI (ad 50) 200 M_longestFrom)] (some (.int res.1)) [(kM ad res.2.1 M_states M_moves res.2.2.1 res.2.2.2.1 res.2.2.2.2.1 res.2.2.2.2.2.1 res.2.2.2.2.2.2.1), (kI cI (ad 32) 200 M_asks), (kI cI (ad 33) 600 M_from), (kI cI (ad 34) 600 M_to), (kI cI (ad 35) 600 M_labelOf), (kI cI (ad 36) 16 M_how), (kI cI (ad 37) 200 M_first), (kI cI (ad 39) 600 M_next), (kI cI (ad 41) 200 res.2.2.2.2.2.2.2.1), (kI cI (ad 42) 200 res.2.2.2.2.2.2.2.2.1), (kZ cZ (ad 44) 200 res.2.2.2.2.2.2.2.2.2.1), (kZ cZ (ad 45) 200 res.2.2.2.2.2.2.2.2.2.2.1), (kZ cZ (ad 46) 40000 res.2.2.2.2.2.2.2.2.2.2.2.1), (kZ cZ (ad 47) 200 res.2.2.2.2.2.2.2.2.2.2.2.2.1), (kI cI (ad 49) 200 res.2.2.2.2.2.2.2.2.2.2.2.2.2.1), (kI cI (ad 50) 200 res.2.2.2.2.2.2.2.2.2.2.2.2.2.2)] := by
  refine mc_ofi (own := RX5) (by decide) rfl rfl (Nat.le_of_ble_eq_true rfl) ?_
  intro p e s m below meth c A Q ls hx hb hml hown hts hK hP hD hA hl hend
  have hS : va_S A s.heap s.heap [] := va_S.rf
  have hl : lv_has ls 4 [(0, .ref (ad 5)), (1, .int a1)] := hl
  obtain ⟨H, hH⟩ : ∃ H, H = s.heap := ⟨_, rfl⟩
  obtain ⟨locs, hlo⟩ : ∃ locs : List Loc, locs = [] := ⟨_, rfl⟩
  have hS : va_S A s.heap H locs := by rw [hH, hlo]; exact hS
  have hP : va_P D vwCl [(kM ad M_thrown M_states M_moves M_known M_come M_lookedAt M_parts M_whole), (kI cI (ad 32) 200 M_asks), (kI cI (ad 33) 600 M_from), (kI cI (ad 34) 600 M_to), (kI cI (ad 35) 600 M_labelOf), (kI cI (ad 36) 16 M_how), (kI cI (ad 37) 200 M_first), (kI cI (ad 39) 600 M_next), (kI cI (ad 41) 200 M_queue), (kI cI (ad 42) 200 M_by), (kZ cZ (ad 44) 200 M_isReached), (kZ cZ (ad 45) 200 M_alive), (kZ cZ (ad 46) 40000 M_reach), (kZ cZ (ad 47) 200 M_its), (kI cI (ad 49) 200 M_partOf), (kI cI (ad 50) 200 M_longestFrom)] H := by rw [hH]; exact hP
  suffices h9 : W p l e { frames := 5, cells := 0, slots := 0, locals := 125 } s m ([.ref (ad 5), .int a1] : List Value).toArray below meth c H locs 0 0 Q (F0 m 0 ls []) by rw [hH, hlo] at h9; exact h9
  clear hH hlo
  have hiX5 : ∀ w ∈ wsX50, w ∈ wv_X5_longest := fun w h => List.mem_cons_of_mem _ (inlX5 w h)
  have hk0 := hts (.fieldLink RX5 80 "FairLoopsModel" "states" "I") (List.mem_cons_of_mem _ wk_120)
  have hk1 := hts (.fieldLink RX5 70 "FairLoopsModel" "longestFrom" "[I") (List.mem_cons_of_mem _ wk_93)
  refine lv_aload_n hx hb dX5_longest_0 rfl (lv_at hl 0 rfl) ?_
  refine lv_iload_n hx hb dX5_longest_1 rfl (lv_at hl 1 rfl) ?_
  obtain ⟨⟨r_2, M_thrown_2⟩, hc_2, h⟩ := ox_b_of h
  refine mc_callV (As := [.int a1]) (rest := []) (b := ad 5) (Wc := [(kM ad M_thrown M_states M_moves M_known M_come M_lookedAt M_parts M_whole)]) (wr := [(kI cI (ad 32) 200 M_asks), (kI cI (ad 33) 600 M_from), (kI cI (ad 34) 600 M_to), (kI cI (ad 35) 600 M_labelOf), (kI cI (ad 36) 16 M_how), (kI cI (ad 37) 200 M_first), (kI cI (ad 39) 600 M_next), (kI cI (ad 41) 200 M_queue), (kI cI (ad 42) 200 M_by), (kZ cZ (ad 44) 200 M_isReached), (kZ cZ (ad 45) 200 M_alive), (kZ cZ (ad 46) 40000 M_reach), (kZ cZ (ad 47) 200 M_its), (kI cI (ad 49) 200 M_partOf), (kI cI (ad 50) 200 M_longestFrom)]) (W1 := [(kM ad M_thrown_2 M_states M_moves M_known M_come M_lookedAt M_parts M_whole)]) (wn := [(kM ad M_thrown_2 M_states M_moves M_known M_come M_lookedAt M_parts M_whole), (kI cI (ad 32) 200 M_asks), (kI cI (ad 33) 600 M_from), (kI cI (ad 34) 600 M_to), (kI cI (ad 35) 600 M_labelOf), (kI cI (ad 36) 16 M_how), (kI cI (ad 37) 200 M_first), (kI cI (ad 39) 600 M_next), (kI cI (ad 41) 200 M_queue), (kI cI (ad 42) 200 M_by), (kZ cZ (ad 44) 200 M_isReached), (kZ cZ (ad 45) 200 M_alive), (kZ cZ (ad 46) 40000 M_reach), (kZ cZ (ad 47) 200 M_its), (kI cI (ad 49) 200 M_partOf), (kI cI (ad 50) 200 M_longestFrom)]) (rv := some (.int r_2)) ⟨hx, hb, hml, hown, hts⟩ (c_X5_isAsk l D cI cZ ad M_thrown M_states M_moves M_known M_come M_lookedAt M_parts M_whole a1 _ hc_2) (cwV 1 hts (gl_V wk_310 wk_311 wk_312 wk_5 wk_313) rfl rfl rfl (by decide +kernel) ⟨Nat.le_of_ble_eq_true rfl, Nat.le_of_ble_eq_true rfl⟩) hK hP hD hS hA 5 0 rfl rfl rfl [0] [1, 2, 3, 4, 5, 6, 7, 8, 9, 10, 11, 12, 13, 14, 15] [15, 0, 1, 2, 3, 4, 5, 6, 7, 8, 9, 10, 11, 12, 13, 14] rfl rfl (by decide) rfl (by decide) (by decide) rfl rfl (by decide) rfl rfl hl.1 (Nat.le_of_ble_eq_true rfl) dX5_longest_2 ⟨Nat.zero_le _, Nat.zero_le _⟩ (fun H locs hP hD hS => ?_)
  show W p l e { frames := 5, cells := 0, slots := 0, locals := 125 } s m ([.ref (ad 5), .int a1] : List Value).toArray below meth c H locs 0 0 Q (F0 m 5 ls [.int r_2])
  refine lv_if_ne (tgt := 10) hx hb dX5_longest_5 (by decide) (fun c_5 => ?_) (fun c_5 => ?_)
  · have h := ox_f c_5 h
    refine lv_aload_n hx hb dX5_longest_10 rfl (lv_at hl 0 rfl) ?_
    refine lv_iload_n hx hb dX5_longest_11 rfl (lv_at hl 1 rfl) ?_
    obtain ⟨⟨r_12, M_known_12, M_come_12, M_lookedAt_12, M_parts_12, M_whole_12, M_queue_12, M_by_12, M_isReached_12, M_alive_12, M_reach_12, M_its_12, M_partOf_12, M_longestFrom_12⟩, hc_12, h⟩ := ox_b_of h
    refine mc_callV (As := [.int a1]) (rest := []) (b := ad 5) (Wc := [(kM ad M_thrown_2 M_states M_moves M_known M_come M_lookedAt M_parts M_whole), (kI cI (ad 32) 200 M_asks), (kI cI (ad 33) 600 M_from), (kI cI (ad 34) 600 M_to), (kI cI (ad 35) 600 M_labelOf), (kI cI (ad 36) 16 M_how), (kI cI (ad 37) 200 M_first), (kI cI (ad 39) 600 M_next), (kI cI (ad 41) 200 M_queue), (kI cI (ad 42) 200 M_by), (kZ cZ (ad 44) 200 M_isReached), (kZ cZ (ad 45) 200 M_alive), (kZ cZ (ad 46) 40000 M_reach), (kZ cZ (ad 47) 200 M_its), (kI cI (ad 49) 200 M_partOf), (kI cI (ad 50) 200 M_longestFrom)]) (wr := []) (W1 := [(kM ad M_thrown_2 M_states M_moves M_known_12 M_come_12 M_lookedAt_12 M_parts_12 M_whole_12), (kI cI (ad 32) 200 M_asks), (kI cI (ad 33) 600 M_from), (kI cI (ad 34) 600 M_to), (kI cI (ad 35) 600 M_labelOf), (kI cI (ad 36) 16 M_how), (kI cI (ad 37) 200 M_first), (kI cI (ad 39) 600 M_next), (kI cI (ad 41) 200 M_queue_12), (kI cI (ad 42) 200 M_by_12), (kZ cZ (ad 44) 200 M_isReached_12), (kZ cZ (ad 45) 200 M_alive_12), (kZ cZ (ad 46) 40000 M_reach_12), (kZ cZ (ad 47) 200 M_its_12), (kI cI (ad 49) 200 M_partOf_12), (kI cI (ad 50) 200 M_longestFrom_12)]) (wn := [(kM ad M_thrown_2 M_states M_moves M_known_12 M_come_12 M_lookedAt_12 M_parts_12 M_whole_12), (kI cI (ad 32) 200 M_asks), (kI cI (ad 33) 600 M_from), (kI cI (ad 34) 600 M_to), (kI cI (ad 35) 600 M_labelOf), (kI cI (ad 36) 16 M_how), (kI cI (ad 37) 200 M_first), (kI cI (ad 39) 600 M_next), (kI cI (ad 41) 200 M_queue_12), (kI cI (ad 42) 200 M_by_12), (kZ cZ (ad 44) 200 M_isReached_12), (kZ cZ (ad 45) 200 M_alive_12), (kZ cZ (ad 46) 40000 M_reach_12), (kZ cZ (ad 47) 200 M_its_12), (kI cI (ad 49) 200 M_partOf_12), (kI cI (ad 50) 200 M_longestFrom_12)]) (rv := some (.int r_12)) ⟨hx, hb, hml, hown, hts⟩ (c_X5_measure l D cI cZ ad M_thrown_2 M_states M_moves M_known M_come M_lookedAt M_parts M_whole M_asks M_from M_to M_labelOf M_how M_first M_next M_queue M_by M_isReached M_alive M_reach M_its M_partOf M_longestFrom a1 _ hc_12) (cwV 1 hts (gl_V wk_442 wk_443 wk_444 wk_5 wk_445) rfl rfl rfl (by decide +kernel) ⟨Nat.le_of_ble_eq_true rfl, Nat.le_of_ble_eq_true rfl⟩) hK hP hD hS hA 5 0 rfl rfl rfl [0, 1, 2, 3, 4, 5, 6, 7, 8, 9, 10, 11, 12, 13, 14, 15] [] [0, 1, 2, 3, 4, 5, 6, 7, 8, 9, 10, 11, 12, 13, 14, 15] rfl rfl (by decide) rfl (by decide) (by decide) rfl rfl (by decide) rfl rfl hl.1 (Nat.le_of_ble_eq_true rfl) dX5_longest_12 ⟨Nat.zero_le _, Nat.zero_le _⟩ (fun H locs hP hD hS => ?_)
    show W p l e { frames := 5, cells := 0, slots := 0, locals := 125 } s m ([.ref (ad 5), .int a1] : List Value).toArray below meth c H locs 0 0 Q (F0 m 15 ls [.int r_12])
    refine lv_if_ne (tgt := 20) hx hb dX5_longest_15 (by decide) (fun c_15 => ?_) (fun c_15 => ?_)
    · have h := ox_f c_15 h
      refine lv_iconst (v := 0) hx hb dX5_longest_20 (by decide) ?_
      refine lv_istore_n (lv' := [(2, .int 0), (0, .ref (ad 5)), (1, .int a1)]) hx hb dX5_longest_21 rfl hl (by decide) rfl (fun ls hl => ?_)
      refine lv_iconst (v := 0) hx hb dX5_longest_22 (by decide) ?_
      refine lv_istore_n (lv' := [(3, .int 0), (2, .int 0), (0, .ref (ad 5)), (1, .int a1)]) hx hb dX5_longest_23 rfl hl (by decide) rfl (fun ls hl => ?_)
      obtain ⟨ex_24, hex_24, h_24⟩ := ox_b_of h
      have hX_24 : ∀ (v2_24 : Int32) (v3_24 : Int32) (H : Heap) (locs : List Loc) (ls : Array Slot), (v2_24, v3_24) = ex_24 → va_P D vwCl [(kM ad M_thrown_2 M_states M_moves M_known_12 M_come_12 M_lookedAt_12 M_parts_12 M_whole_12), (kI cI (ad 32) 200 M_asks), (kI cI (ad 33) 600 M_from), (kI cI (ad 34) 600 M_to), (kI cI (ad 35) 600 M_labelOf), (kI cI (ad 36) 16 M_how), (kI cI (ad 37) 200 M_first), (kI cI (ad 39) 600 M_next), (kI cI (ad 41) 200 M_queue_12), (kI cI (ad 42) 200 M_by_12), (kZ cZ (ad 44) 200 M_isReached_12), (kZ cZ (ad 45) 200 M_alive_12), (kZ cZ (ad 46) 40000 M_reach_12), (kZ cZ (ad 47) 200 M_its_12), (kI cI (ad 49) 200 M_partOf_12), (kI cI (ad 50) 200 M_longestFrom_12)] H → va_D A [(kM ad M_thrown_2 M_states M_moves M_known_12 M_come_12 M_lookedAt_12 M_parts_12 M_whole_12), (kI cI (ad 32) 200 M_asks), (kI cI (ad 33) 600 M_from), (kI cI (ad 34) 600 M_to), (kI cI (ad 35) 600 M_labelOf), (kI cI (ad 36) 16 M_how), (kI cI (ad 37) 200 M_first), (kI cI (ad 39) 600 M_next), (kI cI (ad 41) 200 M_queue_12), (kI cI (ad 42) 200 M_by_12), (kZ cZ (ad 44) 200 M_isReached_12), (kZ cZ (ad 45) 200 M_alive_12), (kZ cZ (ad 46) 40000 M_reach_12), (kZ cZ (ad 47) 200 M_its_12), (kI cI (ad 49) 200 M_partOf_12), (kI cI (ad 50) 200 M_longestFrom_12)] → va_S A s.heap H locs → lv_has ls 4 [(2, .int v2_24)] → W p l e { frames := 5, cells := 0, slots := 0, locals := 125 } s m ([.ref (ad 5), .int a1] : List Value).toArray below meth c H locs 0 0 Q (F0 m 59 ls []) := by
        intro v2_24 v3_24 H locs ls hex_24 hP hD hS hl
        subst hex_24
        have h := h_24
        refine lv_iload_n hx hb dX5_longest_59 rfl (lv_at hl 0 rfl) ?_
        have h := Option.some.inj h
        subst h
        exact hend H locs _ ls hP hD hS dX5_longest_60 trivial
      have hL_24 : ∀ (n : Nat) (v2_24 : Int32) (v3_24 : Int32) (H : Heap) (locs : List Loc) (ls : Array Slot), ox_l (fn_X5_longest_l24 M_states M_longestFrom_12) n (v2_24, v3_24) = some ex_24 → va_P D vwCl [(kM ad M_thrown_2 M_states M_moves M_known_12 M_come_12 M_lookedAt_12 M_parts_12 M_whole_12), (kI cI (ad 32) 200 M_asks), (kI cI (ad 33) 600 M_from), (kI cI (ad 34) 600 M_to), (kI cI (ad 35) 600 M_labelOf), (kI cI (ad 36) 16 M_how), (kI cI (ad 37) 200 M_first), (kI cI (ad 39) 600 M_next), (kI cI (ad 41) 200 M_queue_12), (kI cI (ad 42) 200 M_by_12), (kZ cZ (ad 44) 200 M_isReached_12), (kZ cZ (ad 45) 200 M_alive_12), (kZ cZ (ad 46) 40000 M_reach_12), (kZ cZ (ad 47) 200 M_its_12), (kI cI (ad 49) 200 M_partOf_12), (kI cI (ad 50) 200 M_longestFrom_12)] H → va_D A [(kM ad M_thrown_2 M_states M_moves M_known_12 M_come_12 M_lookedAt_12 M_parts_12 M_whole_12), (kI cI (ad 32) 200 M_asks), (kI cI (ad 33) 600 M_from), (kI cI (ad 34) 600 M_to), (kI cI (ad 35) 600 M_labelOf), (kI cI (ad 36) 16 M_how), (kI cI (ad 37) 200 M_first), (kI cI (ad 39) 600 M_next), (kI cI (ad 41) 200 M_queue_12), (kI cI (ad 42) 200 M_by_12), (kZ cZ (ad 44) 200 M_isReached_12), (kZ cZ (ad 45) 200 M_alive_12), (kZ cZ (ad 46) 40000 M_reach_12), (kZ cZ (ad 47) 200 M_its_12), (kI cI (ad 49) 200 M_partOf_12), (kI cI (ad 50) 200 M_longestFrom_12)] → va_S A s.heap H locs → lv_has ls 4 [(0, .ref (ad 5)), (2, .int v2_24), (3, .int v3_24)] → W p l e { frames := 5, cells := 0, slots := 0, locals := 125 } s m ([.ref (ad 5), .int a1] : List Value).toArray below meth c H locs 0 0 Q (F0 m 24 ls []) := by
        intro n
        induction n with
        | zero => intro v2_24 v3_24 H locs ls hlp; exact ox_l_0 hlp
        | succ n ih_24 =>
          intro v2_24 v3_24 H locs ls hlp_24 hP hD hS hl
          obtain ⟨z_24, h, hlp_24⟩ := ox_l_of hlp_24
          refine lv_iload_n hx hb dX5_longest_24 rfl (lv_at hl 2 rfl) ?_
          refine lv_aload_n hx hb dX5_longest_25 rfl (lv_at hl 0 rfl) ?_
          refine va_get (D := D) (ci := 5) (v := .int M_states) (C := RX5) (T := TX5) (N := 27) hx hb hts hiX5 hown hK hP 0 rfl rfl 1 (by decide) hk0 (fun _ h9 => h9) rfl dX5_longest_26 ?_
          refine lv_icmp_ge (tgt := 59) hx hb dX5_longest_29 (by decide) (fun c_29 => ?_) (fun c_29 => ?_)
          · have h := ox_t c_29 h
            obtain rfl := Option.some.inj h
            exact hX_24 v2_24 v3_24 H locs ls hlp_24 hP hD hS (lv_sub hl [1] rfl)
          · have h := ox_f c_29 h
            refine lv_aload_n hx hb dX5_longest_32 rfl (lv_at hl 0 rfl) ?_
            refine va_get (D := D) (ci := 5) (v := .ref (ad 50)) (C := RX5) (T := TX5) (N := 27) hx hb hts hiX5 hown hK hP 0 rfl rfl 26 (by decide) hk1 (fun _ h9 => h9) rfl dX5_longest_33 ?_
            refine lv_iload_n hx hb dX5_longest_36 rfl (lv_at hl 2 rfl) ?_
            obtain ⟨hi_37, h⟩ := ox_i_of h
            refine va_iald hx hb hK hP 15 0 rfl rfl hi_37 dX5_longest_37 ?_
            refine lv_iload_n hx hb dX5_longest_38 rfl (lv_at hl 1 rfl) ?_
            refine lv_icmp_le (tgt := 51) hx hb dX5_longest_39 (by decide) (fun c_39 => ?_) (fun c_39 => ?_)
            · have h := ox_t c_39 h
              refine lv_iload_n hx hb dX5_longest_51 rfl (lv_at hl 1 rfl) ?_
              refine lv_istore_n (lv' := [(2, .int v2_24), (0, .ref (ad 5)), (3, .int v3_24)]) hx hb dX5_longest_52 rfl hl (by decide) rfl (fun ls hl => ?_)
              refine lv_iinc (v := v3_24 + 1) (lv' := [(3, .int (v3_24 + 1)), (2, .int v2_24), (0, .ref (ad 5))]) hx hb dX5_longest_53 hl (k := 2) rfl rfl (by decide) rfl (fun ls hl => ?_)
              refine lv_goto (tgt := 24) hx hb dX5_longest_56 (by decide) ?_
              obtain rfl := Option.some.inj h
              exact ih_24 v2_24 (v3_24 + 1) H locs ls hlp_24 hP hD hS (lv_sub hl [2, 1, 0] rfl)
            · have h := ox_f c_39 h
              refine lv_aload_n hx hb dX5_longest_42 rfl (lv_at hl 0 rfl) ?_
              refine va_get (D := D) (ci := 5) (v := .ref (ad 50)) (C := RX5) (T := TX5) (N := 27) hx hb hts hiX5 hown hK hP 0 rfl rfl 26 (by decide) hk1 (fun _ h9 => h9) rfl dX5_longest_43 ?_
              refine lv_iload_n hx hb dX5_longest_46 rfl (lv_at hl 2 rfl) ?_
              obtain ⟨hi_47, h⟩ := ox_i_of h
              refine va_iald hx hb hK hP 15 0 rfl rfl hi_47 dX5_longest_47 ?_
              refine lv_goto (tgt := 52) hx hb dX5_longest_48 (by decide) ?_
              refine lv_istore_n (lv' := [(2, .int (M_longestFrom_12 v3_24.toNatClampNeg)), (0, .ref (ad 5)), (3, .int v3_24)]) hx hb dX5_longest_52 rfl hl (by decide) rfl (fun ls hl => ?_)
              refine lv_iinc (v := v3_24 + 1) (lv' := [(3, .int (v3_24 + 1)), (2, .int (M_longestFrom_12 v3_24.toNatClampNeg)), (0, .ref (ad 5))]) hx hb dX5_longest_53 hl (k := 2) rfl rfl (by decide) rfl (fun ls hl => ?_)
              refine lv_goto (tgt := 24) hx hb dX5_longest_56 (by decide) ?_
              obtain rfl := Option.some.inj h
              exact ih_24 (M_longestFrom_12 v3_24.toNatClampNeg) (v3_24 + 1) H locs ls hlp_24 hP hD hS (lv_sub hl [2, 1, 0] rfl)
      exact hL_24 1000000 0 0 H locs ls hex_24 hP hD hS (lv_sub hl [2, 1, 0] rfl)
    · have h := ox_t c_15 h
      refine lv_iconst (v := (-1)) hx hb dX5_longest_18 (by decide) ?_
      have h := Option.some.inj h
      subst h
      exact hend H locs _ ls hP hD hS dX5_longest_19 trivial
  · have h := ox_t c_5 h
    refine lv_iconst (v := 0) hx hb dX5_longest_8 (by decide) ?_
    have h := Option.some.inj h
    subst h
    exact hend H locs _ ls hP hD hS dX5_longest_9 trivial
set_option maxHeartbeats 4000000 in
set_option maxRecDepth 100000 in
theorem c_X5_rank (l : Launch) (D : va_G) (cI cZ : ClassId) (ad : Nat → Nat) (M_thrown : Int32) (M_states : Int32) (M_moves : Int32) (M_known : Int32) (M_come : Int32) (M_lookedAt : Int32) (M_parts : Int32) (M_whole : Int32) (M_asks : Nat → Int32) (M_from : Nat → Int32) (M_to : Nat → Int32) (M_labelOf : Nat → Int32) (M_how : Nat → Int32) (M_first : Nat → Int32) (M_next : Nat → Int32) (M_queue : Nat → Int32) (M_by : Nat → Int32) (M_isReached : Nat → Int32) (M_alive : Nat → Int32) (M_reach : Nat → Int32) (M_its : Nat → Int32) (M_partOf : Nat → Int32) (M_longestFrom : Nat → Int32) (a1 : Int32) (a2 : Int32) (res : Int32 × Int32 × Int32 × Int32 × Int32 × Int32 × Int32 × (Nat → Int32) × (Nat → Int32) × (Nat → Int32) × (Nat → Int32) × (Nat → Int32) × (Nat → Int32) × (Nat → Int32) × (Nat → Int32)) (h : fn_X5_rank M_thrown M_states M_moves M_known M_come M_lookedAt M_parts M_whole M_asks M_from M_to M_labelOf M_how M_first M_next M_queue M_by M_isReached M_alive M_reach M_its M_partOf M_longestFrom a1 a2 = some res) : mc_C l yX5_rank wv_X5_rank { frames := 5, cells := 0, slots := 0, locals := 125 } D [(cI, .int), (cZ, .boolean)] [.ref (ad 5), .int a1, .int a2] [(kM ad M_thrown M_states M_moves M_known M_come M_lookedAt M_parts M_whole), (kI cI (ad 32) 200 M_asks), (kI cI (ad 33) 600 M_from), (kI cI (ad 34) 600 M_to), (kI cI (ad 35) 600 M_labelOf), (kI cI (ad 36) 16 M_how), (kI cI (ad 37) 200 M_first), (kI cI (ad 39) 600 M_next), (kI cI (ad 41) 200 M_queue), (kI cI (ad 42) 200 M_by), (kZ cZ (ad 44) 200 M_isReached), (kZ cZ (ad 45) 200 M_alive), (kZ cZ (ad 46) 40000 M_reach), (kZ cZ (ad 47) 200 M_its), (kI cI (ad 49) 200 M_partOf), (kI cI (ad 50) 200 M_longestFrom)] (some (.int res.1)) [(kM ad res.2.1 M_states M_moves res.2.2.1 res.2.2.2.1 res.2.2.2.2.1 res.2.2.2.2.2.1 res.2.2.2.2.2.2.1), (kI cI (ad 32) 200 M_asks), (kI cI (ad 33) 600 M_from), (kI cI (ad 34) 600 M_to), (kI cI (ad 35) 600 M_labelOf), (kI cI (ad 36) 16 M_how), (kI cI (ad 37) 200 M_first), (kI cI (ad 39) 600 M_next), (kI cI (ad 41) 200 res.2.2.2.2.2.2.2.1), (kI cI (ad 42) 200 res.2.2.2.2.2.2.2.2.1), (kZ cZ (ad 44) 200 res.2.2.2.2.2.2.2.2.2.1), (kZ cZ (ad 45) 200 res.2.2.2.2.2.2.2.2.2.2.1), (kZ cZ (ad 46) 40000 res.2.2.2.2.2.2.2.2.2.2.2.1), (kZ cZ (ad 47) 200 res.2.2.2.2.2.2.2.2.2.2.2.2.1), (kI cI (ad 49) 200 res.2.2.2.2.2.2.2.2.2.2.2.2.2.1), (kI cI (ad 50) 200 res.2.2.2.2.2.2.2.2.2.2.2.2.2.2)] := by
  refine mc_ofi (own := RX5) (by decide) rfl rfl (Nat.le_of_ble_eq_true rfl) ?_
  intro p e s m below meth c A Q ls hx hb hml hown hts hK hP hD hA hl hend
  have hS : va_S A s.heap s.heap [] := va_S.rf
  have hl : lv_has ls 3 [(0, .ref (ad 5)), (1, .int a1), (2, .int a2)] := hl
  obtain ⟨H, hH⟩ : ∃ H, H = s.heap := ⟨_, rfl⟩
  obtain ⟨locs, hlo⟩ : ∃ locs : List Loc, locs = [] := ⟨_, rfl⟩
  have hS : va_S A s.heap H locs := by rw [hH, hlo]; exact hS
  have hP : va_P D vwCl [(kM ad M_thrown M_states M_moves M_known M_come M_lookedAt M_parts M_whole), (kI cI (ad 32) 200 M_asks), (kI cI (ad 33) 600 M_from), (kI cI (ad 34) 600 M_to), (kI cI (ad 35) 600 M_labelOf), (kI cI (ad 36) 16 M_how), (kI cI (ad 37) 200 M_first), (kI cI (ad 39) 600 M_next), (kI cI (ad 41) 200 M_queue), (kI cI (ad 42) 200 M_by), (kZ cZ (ad 44) 200 M_isReached), (kZ cZ (ad 45) 200 M_alive), (kZ cZ (ad 46) 40000 M_reach), (kZ cZ (ad 47) 200 M_its), (kI cI (ad 49) 200 M_partOf), (kI cI (ad 50) 200 M_longestFrom)] H := by rw [hH]; exact hP
  suffices h9 : W p l e { frames := 5, cells := 0, slots := 0, locals := 125 } s m ([.ref (ad 5), .int a1, .int a2] : List Value).toArray below meth c H locs 0 0 Q (F0 m 0 ls []) by rw [hH, hlo] at h9; exact h9
  clear hH hlo
  have hiX5 : ∀ w ∈ wsX50, w ∈ wv_X5_rank := fun w h => List.mem_cons_of_mem _ (inlX5 w h)
  have hk0 := hts (.fieldLink RX5 70 "FairLoopsModel" "longestFrom" "[I") (List.mem_cons_of_mem _ wk_93)
  have hk1 := hts (.fieldLink RX5 73 "FairLoopsModel" "thrown" "I") (List.mem_cons_of_mem _ wk_121)
  refine lv_aload_n hx hb dX5_rank_0 rfl (lv_at hl 0 rfl) ?_
  refine lv_iload_n hx hb dX5_rank_1 rfl (lv_at hl 1 rfl) ?_
  obtain ⟨⟨r_2, M_thrown_2⟩, hc_2, h⟩ := ox_b_of h
  refine mc_callV (As := [.int a1]) (rest := []) (b := ad 5) (Wc := [(kM ad M_thrown M_states M_moves M_known M_come M_lookedAt M_parts M_whole)]) (wr := [(kI cI (ad 32) 200 M_asks), (kI cI (ad 33) 600 M_from), (kI cI (ad 34) 600 M_to), (kI cI (ad 35) 600 M_labelOf), (kI cI (ad 36) 16 M_how), (kI cI (ad 37) 200 M_first), (kI cI (ad 39) 600 M_next), (kI cI (ad 41) 200 M_queue), (kI cI (ad 42) 200 M_by), (kZ cZ (ad 44) 200 M_isReached), (kZ cZ (ad 45) 200 M_alive), (kZ cZ (ad 46) 40000 M_reach), (kZ cZ (ad 47) 200 M_its), (kI cI (ad 49) 200 M_partOf), (kI cI (ad 50) 200 M_longestFrom)]) (W1 := [(kM ad M_thrown_2 M_states M_moves M_known M_come M_lookedAt M_parts M_whole)]) (wn := [(kM ad M_thrown_2 M_states M_moves M_known M_come M_lookedAt M_parts M_whole), (kI cI (ad 32) 200 M_asks), (kI cI (ad 33) 600 M_from), (kI cI (ad 34) 600 M_to), (kI cI (ad 35) 600 M_labelOf), (kI cI (ad 36) 16 M_how), (kI cI (ad 37) 200 M_first), (kI cI (ad 39) 600 M_next), (kI cI (ad 41) 200 M_queue), (kI cI (ad 42) 200 M_by), (kZ cZ (ad 44) 200 M_isReached), (kZ cZ (ad 45) 200 M_alive), (kZ cZ (ad 46) 40000 M_reach), (kZ cZ (ad 47) 200 M_its), (kI cI (ad 49) 200 M_partOf), (kI cI (ad 50) 200 M_longestFrom)]) (rv := some (.int r_2)) ⟨hx, hb, hml, hown, hts⟩ (c_X5_isAsk l D cI cZ ad M_thrown M_states M_moves M_known M_come M_lookedAt M_parts M_whole a1 _ hc_2) (cwV 1 hts (gl_V wk_310 wk_311 wk_312 wk_5 wk_313) rfl rfl rfl (by decide +kernel) ⟨Nat.le_of_ble_eq_true rfl, Nat.le_of_ble_eq_true rfl⟩) hK hP hD hS hA 5 0 rfl rfl rfl [0] [1, 2, 3, 4, 5, 6, 7, 8, 9, 10, 11, 12, 13, 14, 15] [15, 0, 1, 2, 3, 4, 5, 6, 7, 8, 9, 10, 11, 12, 13, 14] rfl rfl (by decide) rfl (by decide) (by decide) rfl rfl (by decide) rfl rfl hl.1 (Nat.le_of_ble_eq_true rfl) dX5_rank_2 ⟨Nat.zero_le _, Nat.zero_le _⟩ (fun H locs hP hD hS => ?_)
  show W p l e { frames := 5, cells := 0, slots := 0, locals := 125 } s m ([.ref (ad 5), .int a1, .int a2] : List Value).toArray below meth c H locs 0 0 Q (F0 m 5 ls [.int r_2])
  refine lv_if_ne (tgt := 10) hx hb dX5_rank_5 (by decide) (fun c_5 => ?_) (fun c_5 => ?_)
  · have h := ox_f c_5 h
    refine lv_aload_n hx hb dX5_rank_10 rfl (lv_at hl 0 rfl) ?_
    refine lv_iload_n hx hb dX5_rank_11 rfl (lv_at hl 2 rfl) ?_
    obtain ⟨r_12, hc_12, h⟩ := ox_b_of h
    refine mc_callV (As := [.int a2]) (rest := []) (b := ad 5) (Wc := [(kM ad M_thrown_2 M_states M_moves M_known M_come M_lookedAt M_parts M_whole)]) (wr := [(kI cI (ad 32) 200 M_asks), (kI cI (ad 33) 600 M_from), (kI cI (ad 34) 600 M_to), (kI cI (ad 35) 600 M_labelOf), (kI cI (ad 36) 16 M_how), (kI cI (ad 37) 200 M_first), (kI cI (ad 39) 600 M_next), (kI cI (ad 41) 200 M_queue), (kI cI (ad 42) 200 M_by), (kZ cZ (ad 44) 200 M_isReached), (kZ cZ (ad 45) 200 M_alive), (kZ cZ (ad 46) 40000 M_reach), (kZ cZ (ad 47) 200 M_its), (kI cI (ad 49) 200 M_partOf), (kI cI (ad 50) 200 M_longestFrom)]) (W1 := [(kM ad M_thrown_2 M_states M_moves M_known M_come M_lookedAt M_parts M_whole)]) (wn := [(kM ad M_thrown_2 M_states M_moves M_known M_come M_lookedAt M_parts M_whole), (kI cI (ad 32) 200 M_asks), (kI cI (ad 33) 600 M_from), (kI cI (ad 34) 600 M_to), (kI cI (ad 35) 600 M_labelOf), (kI cI (ad 36) 16 M_how), (kI cI (ad 37) 200 M_first), (kI cI (ad 39) 600 M_next), (kI cI (ad 41) 200 M_queue), (kI cI (ad 42) 200 M_by), (kZ cZ (ad 44) 200 M_isReached), (kZ cZ (ad 45) 200 M_alive), (kZ cZ (ad 46) 40000 M_reach), (kZ cZ (ad 47) 200 M_its), (kI cI (ad 49) 200 M_partOf), (kI cI (ad 50) 200 M_longestFrom)]) (rv := some (.int r_12)) ⟨hx, hb, hml, hown, hts⟩ (c_X5_isState l D cI cZ ad M_thrown_2 M_states M_moves M_known M_come M_lookedAt M_parts M_whole a2 _ hc_12) (cwV 1 hts (gl_V wk_155 wk_156 wk_157 wk_5 wk_158) rfl rfl rfl (by decide +kernel) ⟨Nat.le_of_ble_eq_true rfl, Nat.le_of_ble_eq_true rfl⟩) hK hP hD hS hA 5 0 rfl rfl rfl [0] [1, 2, 3, 4, 5, 6, 7, 8, 9, 10, 11, 12, 13, 14, 15] [15, 0, 1, 2, 3, 4, 5, 6, 7, 8, 9, 10, 11, 12, 13, 14] rfl rfl (by decide) rfl (by decide) (by decide) rfl rfl (by decide) rfl rfl hl.1 (Nat.le_of_ble_eq_true rfl) dX5_rank_12 ⟨Nat.zero_le _, Nat.zero_le _⟩ (fun H locs hP hD hS => ?_)
    show W p l e { frames := 5, cells := 0, slots := 0, locals := 125 } s m ([.ref (ad 5), .int a1, .int a2] : List Value).toArray below meth c H locs 0 0 Q (F0 m 15 ls [.int r_12])
    refine lv_if_ne (tgt := 25) hx hb dX5_rank_15 (by decide) (fun c_15 => ?_) (fun c_15 => ?_)
    · have h := ox_f c_15 h
      refine lv_aload_n hx hb dX5_rank_25 rfl (lv_at hl 0 rfl) ?_
      refine lv_iload_n hx hb dX5_rank_26 rfl (lv_at hl 1 rfl) ?_
      obtain ⟨⟨r_27, M_known_27, M_come_27, M_lookedAt_27, M_parts_27, M_whole_27, M_queue_27, M_by_27, M_isReached_27, M_alive_27, M_reach_27, M_its_27, M_partOf_27, M_longestFrom_27⟩, hc_27, h⟩ := ox_b_of h
      refine mc_callV (As := [.int a1]) (rest := []) (b := ad 5) (Wc := [(kM ad M_thrown_2 M_states M_moves M_known M_come M_lookedAt M_parts M_whole), (kI cI (ad 32) 200 M_asks), (kI cI (ad 33) 600 M_from), (kI cI (ad 34) 600 M_to), (kI cI (ad 35) 600 M_labelOf), (kI cI (ad 36) 16 M_how), (kI cI (ad 37) 200 M_first), (kI cI (ad 39) 600 M_next), (kI cI (ad 41) 200 M_queue), (kI cI (ad 42) 200 M_by), (kZ cZ (ad 44) 200 M_isReached), (kZ cZ (ad 45) 200 M_alive), (kZ cZ (ad 46) 40000 M_reach), (kZ cZ (ad 47) 200 M_its), (kI cI (ad 49) 200 M_partOf), (kI cI (ad 50) 200 M_longestFrom)]) (wr := []) (W1 := [(kM ad M_thrown_2 M_states M_moves M_known_27 M_come_27 M_lookedAt_27 M_parts_27 M_whole_27), (kI cI (ad 32) 200 M_asks), (kI cI (ad 33) 600 M_from), (kI cI (ad 34) 600 M_to), (kI cI (ad 35) 600 M_labelOf), (kI cI (ad 36) 16 M_how), (kI cI (ad 37) 200 M_first), (kI cI (ad 39) 600 M_next), (kI cI (ad 41) 200 M_queue_27), (kI cI (ad 42) 200 M_by_27), (kZ cZ (ad 44) 200 M_isReached_27), (kZ cZ (ad 45) 200 M_alive_27), (kZ cZ (ad 46) 40000 M_reach_27), (kZ cZ (ad 47) 200 M_its_27), (kI cI (ad 49) 200 M_partOf_27), (kI cI (ad 50) 200 M_longestFrom_27)]) (wn := [(kM ad M_thrown_2 M_states M_moves M_known_27 M_come_27 M_lookedAt_27 M_parts_27 M_whole_27), (kI cI (ad 32) 200 M_asks), (kI cI (ad 33) 600 M_from), (kI cI (ad 34) 600 M_to), (kI cI (ad 35) 600 M_labelOf), (kI cI (ad 36) 16 M_how), (kI cI (ad 37) 200 M_first), (kI cI (ad 39) 600 M_next), (kI cI (ad 41) 200 M_queue_27), (kI cI (ad 42) 200 M_by_27), (kZ cZ (ad 44) 200 M_isReached_27), (kZ cZ (ad 45) 200 M_alive_27), (kZ cZ (ad 46) 40000 M_reach_27), (kZ cZ (ad 47) 200 M_its_27), (kI cI (ad 49) 200 M_partOf_27), (kI cI (ad 50) 200 M_longestFrom_27)]) (rv := some (.int r_27)) ⟨hx, hb, hml, hown, hts⟩ (c_X5_measure l D cI cZ ad M_thrown_2 M_states M_moves M_known M_come M_lookedAt M_parts M_whole M_asks M_from M_to M_labelOf M_how M_first M_next M_queue M_by M_isReached M_alive M_reach M_its M_partOf M_longestFrom a1 _ hc_27) (cwV 1 hts (gl_V wk_442 wk_443 wk_444 wk_5 wk_445) rfl rfl rfl (by decide +kernel) ⟨Nat.le_of_ble_eq_true rfl, Nat.le_of_ble_eq_true rfl⟩) hK hP hD hS hA 5 0 rfl rfl rfl [0, 1, 2, 3, 4, 5, 6, 7, 8, 9, 10, 11, 12, 13, 14, 15] [] [0, 1, 2, 3, 4, 5, 6, 7, 8, 9, 10, 11, 12, 13, 14, 15] rfl rfl (by decide) rfl (by decide) (by decide) rfl rfl (by decide) rfl rfl hl.1 (Nat.le_of_ble_eq_true rfl) dX5_rank_27 ⟨Nat.zero_le _, Nat.zero_le _⟩ (fun H locs hP hD hS => ?_)
      show W p l e { frames := 5, cells := 0, slots := 0, locals := 125 } s m ([.ref (ad 5), .int a1, .int a2] : List Value).toArray below meth c H locs 0 0 Q (F0 m 30 ls [.int r_27])
      refine lv_if_eq (tgt := 42) hx hb dX5_rank_30 (by decide) (fun c_30 => ?_) (fun c_30 => ?_)
      · have h := ox_t c_30 h
        refine lv_iconst (v := (-1)) hx hb dX5_rank_42 (by decide) ?_
        have h := Option.some.inj h
        subst h
        exact hend H locs _ ls hP hD hS dX5_rank_43 trivial
      · have h := ox_f c_30 h
        refine lv_aload_n hx hb dX5_rank_33 rfl (lv_at hl 0 rfl) ?_
        refine va_get (D := D) (ci := 5) (v := .ref (ad 50)) (C := RX5) (T := TX5) (N := 27) hx hb hts hiX5 hown hK hP 0 rfl rfl 26 (by decide) hk0 (fun _ h9 => h9) rfl dX5_rank_34 ?_
        refine lv_iload_n hx hb dX5_rank_37 rfl (lv_at hl 2 rfl) ?_
        obtain ⟨hi_38, h⟩ := ox_i_of h
        refine va_iald hx hb hK hP 15 0 rfl rfl hi_38 dX5_rank_38 ?_
        refine lv_goto (tgt := 43) hx hb dX5_rank_39 (by decide) ?_
        have h := Option.some.inj h
        subst h
        exact hend H locs _ ls hP hD hS dX5_rank_43 trivial
    · have h := ox_t c_15 h
      refine lv_aload_n hx hb dX5_rank_18 rfl (lv_at hl 0 rfl) ?_
      refine lv_iconst (v := 2) hx hb dX5_rank_19 (by decide) ?_
      refine va_put (D := D) (ci := 5) (v := .int 2) (ty := .int) (C := RX5) (T := TX5) (N := 27) hx hb hts hiX5 tyX5 tyX5_ok nmX5 hown hK hP hD hS 0 rfl rfl 0 (by decide) hk1 (fun _ h9 => h9) rfl (by decide +kernel) rfl rfl (Nat.le_of_ble_eq_true rfl) dX5_rank_20 (fun H locs hP hD hS => ?_)
      have hP : va_P D vwCl [(kM ad 2 M_states M_moves M_known M_come M_lookedAt M_parts M_whole), (kI cI (ad 32) 200 M_asks), (kI cI (ad 33) 600 M_from), (kI cI (ad 34) 600 M_to), (kI cI (ad 35) 600 M_labelOf), (kI cI (ad 36) 16 M_how), (kI cI (ad 37) 200 M_first), (kI cI (ad 39) 600 M_next), (kI cI (ad 41) 200 M_queue), (kI cI (ad 42) 200 M_by), (kZ cZ (ad 44) 200 M_isReached), (kZ cZ (ad 45) 200 M_alive), (kZ cZ (ad 46) 40000 M_reach), (kZ cZ (ad 47) 200 M_its), (kI cI (ad 49) 200 M_partOf), (kI cI (ad 50) 200 M_longestFrom)] H := hP
      have hD : va_D A [(kM ad 2 M_states M_moves M_known M_come M_lookedAt M_parts M_whole), (kI cI (ad 32) 200 M_asks), (kI cI (ad 33) 600 M_from), (kI cI (ad 34) 600 M_to), (kI cI (ad 35) 600 M_labelOf), (kI cI (ad 36) 16 M_how), (kI cI (ad 37) 200 M_first), (kI cI (ad 39) 600 M_next), (kI cI (ad 41) 200 M_queue), (kI cI (ad 42) 200 M_by), (kZ cZ (ad 44) 200 M_isReached), (kZ cZ (ad 45) 200 M_alive), (kZ cZ (ad 46) 40000 M_reach), (kZ cZ (ad 47) 200 M_its), (kI cI (ad 49) 200 M_partOf), (kI cI (ad 50) 200 M_longestFrom)] := hD
      refine lv_iconst (v := 0) hx hb dX5_rank_23 (by decide) ?_
      have h := Option.some.inj h
      subst h
      exact hend H locs _ ls hP hD hS dX5_rank_24 trivial
  · have h := ox_t c_5 h
    refine lv_iconst (v := 0) hx hb dX5_rank_8 (by decide) ?_
    have h := Option.some.inj h
    subst h
    exact hend H locs _ ls hP hD hS dX5_rank_9 trivial
set_option maxHeartbeats 4000000 in
set_option maxRecDepth 100000 in
theorem c_X5_largest (l : Launch) (D : va_G) (cI cZ : ClassId) (ad : Nat → Nat) (M_thrown : Int32) (M_states : Int32) (M_moves : Int32) (M_known : Int32) (M_come : Int32) (M_lookedAt : Int32) (M_parts : Int32) (M_whole : Int32) (M_asks : Nat → Int32) (M_from : Nat → Int32) (M_to : Nat → Int32) (M_labelOf : Nat → Int32) (M_how : Nat → Int32) (M_first : Nat → Int32) (M_next : Nat → Int32) (M_queue : Nat → Int32) (M_by : Nat → Int32) (M_isReached : Nat → Int32) (M_alive : Nat → Int32) (M_reach : Nat → Int32) (M_its : Nat → Int32) (M_partOf : Nat → Int32) (a1 : Int32) (res : Int32 × Int32 × Int32 × Int32 × Int32 × Int32 × Int32 × (Nat → Int32) × (Nat → Int32) × (Nat → Int32) × (Nat → Int32) × (Nat → Int32) × (Nat → Int32) × (Nat → Int32)) (h : fn_X5_largest M_thrown M_states M_moves M_known M_come M_lookedAt M_parts M_whole M_asks M_from M_to M_labelOf M_how M_first M_next M_queue M_by M_isReached M_alive M_reach M_its M_partOf a1 = some res) : mc_C l yX5_largest wv_X5_largest { frames := 4, cells := 0, slots := 0, locals := 100 } D [(cI, .int), (cZ, .boolean)] [.ref (ad 5), .int a1] [(kM ad M_thrown M_states M_moves M_known M_come M_lookedAt M_parts M_whole), (kI cI (ad 32) 200 M_asks), (kI cI (ad 33) 600 M_from), (kI cI (ad 34) 600 M_to), (kI cI (ad 35) 600 M_labelOf), (kI cI (ad 36) 16 M_how), (kI cI (ad 37) 200 M_first), (kI cI (ad 39) 600 M_next), (kI cI (ad 41) 200 M_queue), (kI cI (ad 42) 200 M_by), (kZ cZ (ad 44) 200 M_isReached), (kZ cZ (ad 45) 200 M_alive), (kZ cZ (ad 46) 40000 M_reach), (kZ cZ (ad 47) 200 M_its), (kI cI (ad 49) 200 M_partOf)] (some (.int res.1)) [(kM ad res.2.1 M_states M_moves res.2.2.1 res.2.2.2.1 res.2.2.2.2.1 res.2.2.2.2.2.1 res.2.2.2.2.2.2.1), (kI cI (ad 32) 200 M_asks), (kI cI (ad 33) 600 M_from), (kI cI (ad 34) 600 M_to), (kI cI (ad 35) 600 M_labelOf), (kI cI (ad 36) 16 M_how), (kI cI (ad 37) 200 M_first), (kI cI (ad 39) 600 M_next), (kI cI (ad 41) 200 res.2.2.2.2.2.2.2.1), (kI cI (ad 42) 200 res.2.2.2.2.2.2.2.2.1), (kZ cZ (ad 44) 200 res.2.2.2.2.2.2.2.2.2.1), (kZ cZ (ad 45) 200 res.2.2.2.2.2.2.2.2.2.2.1), (kZ cZ (ad 46) 40000 res.2.2.2.2.2.2.2.2.2.2.2.1), (kZ cZ (ad 47) 200 res.2.2.2.2.2.2.2.2.2.2.2.2.1), (kI cI (ad 49) 200 res.2.2.2.2.2.2.2.2.2.2.2.2.2)] := by
  refine mc_ofi (own := RX5) (by decide) rfl rfl (Nat.le_of_ble_eq_true rfl) ?_
  intro p e s m below meth c A Q ls hx hb hml hown hts hK hP hD hA hl hend
  have hS : va_S A s.heap s.heap [] := va_S.rf
  have hl : lv_has ls 2 [(0, .ref (ad 5)), (1, .int a1)] := hl
  obtain ⟨H, hH⟩ : ∃ H, H = s.heap := ⟨_, rfl⟩
  obtain ⟨locs, hlo⟩ : ∃ locs : List Loc, locs = [] := ⟨_, rfl⟩
  have hS : va_S A s.heap H locs := by rw [hH, hlo]; exact hS
  have hP : va_P D vwCl [(kM ad M_thrown M_states M_moves M_known M_come M_lookedAt M_parts M_whole), (kI cI (ad 32) 200 M_asks), (kI cI (ad 33) 600 M_from), (kI cI (ad 34) 600 M_to), (kI cI (ad 35) 600 M_labelOf), (kI cI (ad 36) 16 M_how), (kI cI (ad 37) 200 M_first), (kI cI (ad 39) 600 M_next), (kI cI (ad 41) 200 M_queue), (kI cI (ad 42) 200 M_by), (kZ cZ (ad 44) 200 M_isReached), (kZ cZ (ad 45) 200 M_alive), (kZ cZ (ad 46) 40000 M_reach), (kZ cZ (ad 47) 200 M_its), (kI cI (ad 49) 200 M_partOf)] H := by rw [hH]; exact hP
  suffices h9 : W p l e { frames := 4, cells := 0, slots := 0, locals := 100 } s m ([.ref (ad 5), .int a1] : List Value).toArray below meth c H locs 0 0 Q (F0 m 0 ls []) by rw [hH, hlo] at h9; exact h9
  clear hH hlo
  have hiX5 : ∀ w ∈ wsX50, w ∈ wv_X5_largest := fun w h => List.mem_cons_of_mem _ (inlX5 w h)
  have hk0 := hts (.fieldLink RX5 123 "FairLoopsModel" "whole" "I") (List.mem_cons_of_mem _ wk_323)
  refine lv_aload_n hx hb dX5_largest_0 rfl (lv_at hl 0 rfl) ?_
  refine lv_iload_n hx hb dX5_largest_1 rfl (lv_at hl 1 rfl) ?_
  obtain ⟨⟨r_2, M_thrown_2⟩, hc_2, h⟩ := ox_b_of h
  refine mc_callV (As := [.int a1]) (rest := []) (b := ad 5) (Wc := [(kM ad M_thrown M_states M_moves M_known M_come M_lookedAt M_parts M_whole)]) (wr := [(kI cI (ad 32) 200 M_asks), (kI cI (ad 33) 600 M_from), (kI cI (ad 34) 600 M_to), (kI cI (ad 35) 600 M_labelOf), (kI cI (ad 36) 16 M_how), (kI cI (ad 37) 200 M_first), (kI cI (ad 39) 600 M_next), (kI cI (ad 41) 200 M_queue), (kI cI (ad 42) 200 M_by), (kZ cZ (ad 44) 200 M_isReached), (kZ cZ (ad 45) 200 M_alive), (kZ cZ (ad 46) 40000 M_reach), (kZ cZ (ad 47) 200 M_its), (kI cI (ad 49) 200 M_partOf)]) (W1 := [(kM ad M_thrown_2 M_states M_moves M_known M_come M_lookedAt M_parts M_whole)]) (wn := [(kM ad M_thrown_2 M_states M_moves M_known M_come M_lookedAt M_parts M_whole), (kI cI (ad 32) 200 M_asks), (kI cI (ad 33) 600 M_from), (kI cI (ad 34) 600 M_to), (kI cI (ad 35) 600 M_labelOf), (kI cI (ad 36) 16 M_how), (kI cI (ad 37) 200 M_first), (kI cI (ad 39) 600 M_next), (kI cI (ad 41) 200 M_queue), (kI cI (ad 42) 200 M_by), (kZ cZ (ad 44) 200 M_isReached), (kZ cZ (ad 45) 200 M_alive), (kZ cZ (ad 46) 40000 M_reach), (kZ cZ (ad 47) 200 M_its), (kI cI (ad 49) 200 M_partOf)]) (rv := some (.int r_2)) ⟨hx, hb, hml, hown, hts⟩ (c_X5_isAsk l D cI cZ ad M_thrown M_states M_moves M_known M_come M_lookedAt M_parts M_whole a1 _ hc_2) (cwV 1 hts (gl_V wk_310 wk_311 wk_312 wk_5 wk_313) rfl rfl rfl (by decide +kernel) ⟨Nat.le_of_ble_eq_true rfl, Nat.le_of_ble_eq_true rfl⟩) hK hP hD hS hA 5 0 rfl rfl rfl [0] [1, 2, 3, 4, 5, 6, 7, 8, 9, 10, 11, 12, 13, 14] [14, 0, 1, 2, 3, 4, 5, 6, 7, 8, 9, 10, 11, 12, 13] rfl rfl (by decide) rfl (by decide) (by decide) rfl rfl (by decide) rfl rfl hl.1 (Nat.le_of_ble_eq_true rfl) dX5_largest_2 ⟨Nat.zero_le _, Nat.zero_le _⟩ (fun H locs hP hD hS => ?_)
  show W p l e { frames := 4, cells := 0, slots := 0, locals := 100 } s m ([.ref (ad 5), .int a1] : List Value).toArray below meth c H locs 0 0 Q (F0 m 5 ls [.int r_2])
  refine lv_if_ne (tgt := 10) hx hb dX5_largest_5 (by decide) (fun c_5 => ?_) (fun c_5 => ?_)
  · have h := ox_f c_5 h
    refine lv_aload_n hx hb dX5_largest_10 rfl (lv_at hl 0 rfl) ?_
    refine lv_iload_n hx hb dX5_largest_11 rfl (lv_at hl 1 rfl) ?_
    obtain ⟨⟨M_known_12, M_come_12, M_lookedAt_12, M_parts_12, M_whole_12, M_queue_12, M_by_12, M_isReached_12, M_alive_12, M_reach_12, M_its_12, M_partOf_12⟩, hc_12, h⟩ := ox_b_of h
    refine mc_callV (As := [.int a1]) (rest := []) (b := ad 5) (Wc := [(kM ad M_thrown_2 M_states M_moves M_known M_come M_lookedAt M_parts M_whole), (kI cI (ad 32) 200 M_asks), (kI cI (ad 33) 600 M_from), (kI cI (ad 34) 600 M_to), (kI cI (ad 35) 600 M_labelOf), (kI cI (ad 36) 16 M_how), (kI cI (ad 37) 200 M_first), (kI cI (ad 39) 600 M_next), (kI cI (ad 41) 200 M_queue), (kI cI (ad 42) 200 M_by), (kZ cZ (ad 44) 200 M_isReached), (kZ cZ (ad 45) 200 M_alive), (kZ cZ (ad 46) 40000 M_reach), (kZ cZ (ad 47) 200 M_its), (kI cI (ad 49) 200 M_partOf)]) (wr := []) (W1 := [(kM ad M_thrown_2 M_states M_moves M_known_12 M_come_12 M_lookedAt_12 M_parts_12 M_whole_12), (kI cI (ad 32) 200 M_asks), (kI cI (ad 33) 600 M_from), (kI cI (ad 34) 600 M_to), (kI cI (ad 35) 600 M_labelOf), (kI cI (ad 36) 16 M_how), (kI cI (ad 37) 200 M_first), (kI cI (ad 39) 600 M_next), (kI cI (ad 41) 200 M_queue_12), (kI cI (ad 42) 200 M_by_12), (kZ cZ (ad 44) 200 M_isReached_12), (kZ cZ (ad 45) 200 M_alive_12), (kZ cZ (ad 46) 40000 M_reach_12), (kZ cZ (ad 47) 200 M_its_12), (kI cI (ad 49) 200 M_partOf_12)]) (wn := [(kM ad M_thrown_2 M_states M_moves M_known_12 M_come_12 M_lookedAt_12 M_parts_12 M_whole_12), (kI cI (ad 32) 200 M_asks), (kI cI (ad 33) 600 M_from), (kI cI (ad 34) 600 M_to), (kI cI (ad 35) 600 M_labelOf), (kI cI (ad 36) 16 M_how), (kI cI (ad 37) 200 M_first), (kI cI (ad 39) 600 M_next), (kI cI (ad 41) 200 M_queue_12), (kI cI (ad 42) 200 M_by_12), (kZ cZ (ad 44) 200 M_isReached_12), (kZ cZ (ad 45) 200 M_alive_12), (kZ cZ (ad 46) 40000 M_reach_12), (kZ cZ (ad 47) 200 M_its_12), (kI cI (ad 49) 200 M_partOf_12)]) (rv := none) ⟨hx, hb, hml, hown, hts⟩ (c_X5_look l D cI cZ ad M_thrown_2 M_states M_moves M_known M_come M_lookedAt M_parts M_whole M_asks M_from M_to M_labelOf M_how M_first M_next M_queue M_by M_isReached M_alive M_reach M_its M_partOf a1 _ hc_12) (cwV 1 hts (gl_V wk_319 wk_320 wk_321 wk_5 wk_322) rfl rfl rfl (by decide +kernel) ⟨Nat.le_of_ble_eq_true rfl, Nat.le_of_ble_eq_true rfl⟩) hK hP hD hS hA 5 0 rfl rfl rfl [0, 1, 2, 3, 4, 5, 6, 7, 8, 9, 10, 11, 12, 13, 14] [] [0, 1, 2, 3, 4, 5, 6, 7, 8, 9, 10, 11, 12, 13, 14] rfl rfl (by decide) rfl (by decide) (by decide) rfl rfl (by decide) rfl rfl hl.1 (Nat.le_of_ble_eq_true rfl) dX5_largest_12 ⟨Nat.zero_le _, Nat.zero_le _⟩ (fun H locs hP hD hS => ?_)
    show W p l e { frames := 4, cells := 0, slots := 0, locals := 100 } s m ([.ref (ad 5), .int a1] : List Value).toArray below meth c H locs 0 0 Q (F0 m 15 ls [])
    refine lv_aload_n hx hb dX5_largest_15 rfl (lv_at hl 0 rfl) ?_
    refine va_get (D := D) (ci := 5) (v := .int M_whole_12) (C := RX5) (T := TX5) (N := 27) hx hb hts hiX5 hown hK hP 0 rfl rfl 25 (by decide) hk0 (fun _ h9 => h9) rfl dX5_largest_16 ?_
    have h := Option.some.inj h
    subst h
    exact hend H locs _ ls hP hD hS dX5_largest_19 trivial
  · have h := ox_t c_5 h
    refine lv_iconst (v := 0) hx hb dX5_largest_8 (by decide) ?_
    have h := Option.some.inj h
    subst h
    exact hend H locs _ ls hP hD hS dX5_largest_9 trivial
set_option maxHeartbeats 4000000 in
set_option maxRecDepth 100000 in
theorem c_X5_count (l : Launch) (D : va_G) (cI cZ : ClassId) (ad : Nat → Nat) (M_thrown : Int32) (M_states : Int32) (M_moves : Int32) (M_known : Int32) (M_come : Int32) (M_lookedAt : Int32) (M_parts : Int32) (M_whole : Int32) (M_asks : Nat → Int32) (M_from : Nat → Int32) (M_to : Nat → Int32) (M_labelOf : Nat → Int32) (M_how : Nat → Int32) (M_first : Nat → Int32) (M_next : Nat → Int32) (M_end : Nat → Int32) (M_queue : Nat → Int32) (M_by : Nat → Int32) (M_isReached : Nat → Int32) (M_alive : Nat → Int32) (M_reach : Nat → Int32) (M_its : Nat → Int32) (M_partOf : Nat → Int32) (a1 : Int32) (res : Int32 × Int32 × Int32 × Int32 × Int32 × Int32 × Int32 × (Nat → Int32) × (Nat → Int32) × (Nat → Int32) × (Nat → Int32) × (Nat → Int32) × (Nat → Int32) × (Nat → Int32)) (h : fn_X5_count M_thrown M_states M_moves M_known M_come M_lookedAt M_parts M_whole M_asks M_from M_to M_labelOf M_how M_first M_next M_end M_queue M_by M_isReached M_alive M_reach M_its M_partOf a1 = some res) : mc_C l yX5_count wv_X5_count { frames := 5, cells := 0, slots := 0, locals := 123 } D [(cI, .int), (cZ, .boolean)] [.ref (ad 5), .int a1] [(kM ad M_thrown M_states M_moves M_known M_come M_lookedAt M_parts M_whole), (kI cI (ad 32) 200 M_asks), (kI cI (ad 33) 600 M_from), (kI cI (ad 34) 600 M_to), (kI cI (ad 35) 600 M_labelOf), (kI cI (ad 36) 16 M_how), (kI cI (ad 37) 200 M_first), (kI cI (ad 39) 600 M_next), (kZ cZ (ad 40) 200 M_end), (kI cI (ad 41) 200 M_queue), (kI cI (ad 42) 200 M_by), (kZ cZ (ad 44) 200 M_isReached), (kZ cZ (ad 45) 200 M_alive), (kZ cZ (ad 46) 40000 M_reach), (kZ cZ (ad 47) 200 M_its), (kI cI (ad 49) 200 M_partOf)] (some (.int res.1)) [(kM ad res.2.1 M_states M_moves res.2.2.1 res.2.2.2.1 res.2.2.2.2.1 res.2.2.2.2.2.1 res.2.2.2.2.2.2.1), (kI cI (ad 32) 200 M_asks), (kI cI (ad 33) 600 M_from), (kI cI (ad 34) 600 M_to), (kI cI (ad 35) 600 M_labelOf), (kI cI (ad 36) 16 M_how), (kI cI (ad 37) 200 M_first), (kI cI (ad 39) 600 M_next), (kZ cZ (ad 40) 200 M_end), (kI cI (ad 41) 200 res.2.2.2.2.2.2.2.1), (kI cI (ad 42) 200 res.2.2.2.2.2.2.2.2.1), (kZ cZ (ad 44) 200 res.2.2.2.2.2.2.2.2.2.1), (kZ cZ (ad 45) 200 res.2.2.2.2.2.2.2.2.2.2.1), (kZ cZ (ad 46) 40000 res.2.2.2.2.2.2.2.2.2.2.2.1), (kZ cZ (ad 47) 200 res.2.2.2.2.2.2.2.2.2.2.2.2.1), (kI cI (ad 49) 200 res.2.2.2.2.2.2.2.2.2.2.2.2.2)] := by
  refine mc_ofi (own := RX5) (by decide) rfl rfl (Nat.le_of_ble_eq_true rfl) ?_
  intro p e s m below meth c A Q ls hx hb hml hown hts hK hP hD hA hl hend
  have hS : va_S A s.heap s.heap [] := va_S.rf
  have hl : lv_has ls 4 [(0, .ref (ad 5)), (1, .int a1)] := hl
  obtain ⟨H, hH⟩ : ∃ H, H = s.heap := ⟨_, rfl⟩
  obtain ⟨locs, hlo⟩ : ∃ locs : List Loc, locs = [] := ⟨_, rfl⟩
  have hS : va_S A s.heap H locs := by rw [hH, hlo]; exact hS
  have hP : va_P D vwCl [(kM ad M_thrown M_states M_moves M_known M_come M_lookedAt M_parts M_whole), (kI cI (ad 32) 200 M_asks), (kI cI (ad 33) 600 M_from), (kI cI (ad 34) 600 M_to), (kI cI (ad 35) 600 M_labelOf), (kI cI (ad 36) 16 M_how), (kI cI (ad 37) 200 M_first), (kI cI (ad 39) 600 M_next), (kZ cZ (ad 40) 200 M_end), (kI cI (ad 41) 200 M_queue), (kI cI (ad 42) 200 M_by), (kZ cZ (ad 44) 200 M_isReached), (kZ cZ (ad 45) 200 M_alive), (kZ cZ (ad 46) 40000 M_reach), (kZ cZ (ad 47) 200 M_its), (kI cI (ad 49) 200 M_partOf)] H := by rw [hH]; exact hP
  suffices h9 : W p l e { frames := 5, cells := 0, slots := 0, locals := 123 } s m ([.ref (ad 5), .int a1] : List Value).toArray below meth c H locs 0 0 Q (F0 m 0 ls []) by rw [hH, hlo] at h9; exact h9
  clear hH hlo
  have hiX5 : ∀ w ∈ wsX50, w ∈ wv_X5_count := fun w h => List.mem_cons_of_mem _ (inlX5 w h)
  have hk0 := hts (.fieldLink RX5 73 "FairLoopsModel" "thrown" "I") (List.mem_cons_of_mem _ wk_121)
  have hk1 := hts (.fieldLink RX5 80 "FairLoopsModel" "states" "I") (List.mem_cons_of_mem _ wk_120)
  have hk2 := hts (.fieldLink RX5 90 "FairLoopsModel" "moves" "I") (List.mem_cons_of_mem _ wk_154)
  have hk3 := hts (.fieldLink RX5 34 "FairLoopsModel" "end" "[Z") (List.mem_cons_of_mem _ wk_81)
  have hk4 := hts (.fieldLink RX5 22 "FairLoopsModel" "how" "[I") (List.mem_cons_of_mem _ wk_77)
  refine lv_aload_n hx hb dX5_count_0 rfl (lv_at hl 0 rfl) ?_
  refine lv_iconst (v := 0) hx hb dX5_count_1 (by decide) ?_
  refine va_put (D := D) (ci := 5) (v := .int 0) (ty := .int) (C := RX5) (T := TX5) (N := 27) hx hb hts hiX5 tyX5 tyX5_ok nmX5 hown hK hP hD hS 0 rfl rfl 0 (by decide) hk0 (fun _ h9 => h9) rfl (by decide +kernel) rfl rfl (Nat.le_of_ble_eq_true rfl) dX5_count_2 (fun H locs hP hD hS => ?_)
  have hP : va_P D vwCl [(kM ad 0 M_states M_moves M_known M_come M_lookedAt M_parts M_whole), (kI cI (ad 32) 200 M_asks), (kI cI (ad 33) 600 M_from), (kI cI (ad 34) 600 M_to), (kI cI (ad 35) 600 M_labelOf), (kI cI (ad 36) 16 M_how), (kI cI (ad 37) 200 M_first), (kI cI (ad 39) 600 M_next), (kZ cZ (ad 40) 200 M_end), (kI cI (ad 41) 200 M_queue), (kI cI (ad 42) 200 M_by), (kZ cZ (ad 44) 200 M_isReached), (kZ cZ (ad 45) 200 M_alive), (kZ cZ (ad 46) 40000 M_reach), (kZ cZ (ad 47) 200 M_its), (kI cI (ad 49) 200 M_partOf)] H := hP
  have hD : va_D A [(kM ad 0 M_states M_moves M_known M_come M_lookedAt M_parts M_whole), (kI cI (ad 32) 200 M_asks), (kI cI (ad 33) 600 M_from), (kI cI (ad 34) 600 M_to), (kI cI (ad 35) 600 M_labelOf), (kI cI (ad 36) 16 M_how), (kI cI (ad 37) 200 M_first), (kI cI (ad 39) 600 M_next), (kZ cZ (ad 40) 200 M_end), (kI cI (ad 41) 200 M_queue), (kI cI (ad 42) 200 M_by), (kZ cZ (ad 44) 200 M_isReached), (kZ cZ (ad 45) 200 M_alive), (kZ cZ (ad 46) 40000 M_reach), (kZ cZ (ad 47) 200 M_its), (kI cI (ad 49) 200 M_partOf)] := hD
  refine lv_iconst (v := 0) hx hb dX5_count_5 (by decide) ?_
  refine lv_istore_n (lv' := [(2, .int 0), (0, .ref (ad 5)), (1, .int a1)]) hx hb dX5_count_6 rfl hl (by decide) rfl (fun ls hl => ?_)
  refine lv_iload_n hx hb dX5_count_7 rfl (lv_at hl 2 rfl) ?_
  by_cases c_8_0 : a1 = 0
  · have h := ox_t c_8_0 h
    refine lv_tableIn (tgt := 48) hx hb dX5_count_8 (by rw [c_8_0]; decide) (by rw [c_8_0]; decide) (by rw [c_8_0]; rfl) (by decide) ?_
    refine lv_aload_n hx hb dX5_count_48 rfl (lv_at hl 1 rfl) ?_
    refine va_get (D := D) (ci := 5) (v := .int M_states) (C := RX5) (T := TX5) (N := 27) hx hb hts hiX5 hown hK hP 0 rfl rfl 1 (by decide) hk1 (fun _ h9 => h9) rfl dX5_count_49 ?_
    have h := Option.some.inj h
    subst h
    exact hend H locs _ ls hP hD hS dX5_count_52 trivial
  have h := ox_f c_8_0 h
  by_cases c_8_1 : a1 = 1
  · have h := ox_t c_8_1 h
    refine lv_tableIn (tgt := 53) hx hb dX5_count_8 (by rw [c_8_1]; decide) (by rw [c_8_1]; decide) (by rw [c_8_1]; rfl) (by decide) ?_
    refine lv_aload_n hx hb dX5_count_53 rfl (lv_at hl 1 rfl) ?_
    refine va_get (D := D) (ci := 5) (v := .int M_moves) (C := RX5) (T := TX5) (N := 27) hx hb hts hiX5 hown hK hP 0 rfl rfl 2 (by decide) hk2 (fun _ h9 => h9) rfl dX5_count_54 ?_
    have h := Option.some.inj h
    subst h
    exact hend H locs _ ls hP hD hS dX5_count_57 trivial
  have h := ox_f c_8_1 h
  by_cases c_8_2 : a1 = 2
  · have h := ox_t c_8_2 h
    refine lv_tableIn (tgt := 58) hx hb dX5_count_8 (by rw [c_8_2]; decide) (by rw [c_8_2]; decide) (by rw [c_8_2]; rfl) (by decide) ?_
    refine lv_iconst (v := 0) hx hb dX5_count_58 (by decide) ?_
    refine lv_istore_n (lv' := [(3, .int 0), (2, .int 0), (0, .ref (ad 5)), (1, .int a1)]) hx hb dX5_count_59 rfl hl (by decide) rfl (fun ls hl => ?_)
    obtain ⟨ex_60, hex_60, h_60⟩ := ox_b_of h
    have hX_60 : ∀ (v2_60 : Int32) (v3_60 : Int32) (H : Heap) (locs : List Loc) (ls : Array Slot), (v2_60, v3_60) = ex_60 → va_P D vwCl [(kM ad 0 M_states M_moves M_known M_come M_lookedAt M_parts M_whole), (kI cI (ad 32) 200 M_asks), (kI cI (ad 33) 600 M_from), (kI cI (ad 34) 600 M_to), (kI cI (ad 35) 600 M_labelOf), (kI cI (ad 36) 16 M_how), (kI cI (ad 37) 200 M_first), (kI cI (ad 39) 600 M_next), (kZ cZ (ad 40) 200 M_end), (kI cI (ad 41) 200 M_queue), (kI cI (ad 42) 200 M_by), (kZ cZ (ad 44) 200 M_isReached), (kZ cZ (ad 45) 200 M_alive), (kZ cZ (ad 46) 40000 M_reach), (kZ cZ (ad 47) 200 M_its), (kI cI (ad 49) 200 M_partOf)] H → va_D A [(kM ad 0 M_states M_moves M_known M_come M_lookedAt M_parts M_whole), (kI cI (ad 32) 200 M_asks), (kI cI (ad 33) 600 M_from), (kI cI (ad 34) 600 M_to), (kI cI (ad 35) 600 M_labelOf), (kI cI (ad 36) 16 M_how), (kI cI (ad 37) 200 M_first), (kI cI (ad 39) 600 M_next), (kZ cZ (ad 40) 200 M_end), (kI cI (ad 41) 200 M_queue), (kI cI (ad 42) 200 M_by), (kZ cZ (ad 44) 200 M_isReached), (kZ cZ (ad 45) 200 M_alive), (kZ cZ (ad 46) 40000 M_reach), (kZ cZ (ad 47) 200 M_its), (kI cI (ad 49) 200 M_partOf)] → va_S A s.heap H locs → lv_has ls 4 [(2, .int v2_60)] → W p l e { frames := 5, cells := 0, slots := 0, locals := 123 } s m ([.ref (ad 5), .int a1] : List Value).toArray below meth c H locs 0 0 Q (F0 m 91 ls []) := by
      intro v2_60 v3_60 H locs ls hex_60 hP hD hS hl
      subst hex_60
      have h := h_60
      refine lv_iload_n hx hb dX5_count_91 rfl (lv_at hl 0 rfl) ?_
      have h := Option.some.inj h
      subst h
      exact hend H locs _ ls hP hD hS dX5_count_92 trivial
    have hL_60 : ∀ (n : Nat) (v2_60 : Int32) (v3_60 : Int32) (H : Heap) (locs : List Loc) (ls : Array Slot), ox_l (fn_X5_count_l60 M_states M_end) n (v2_60, v3_60) = some ex_60 → va_P D vwCl [(kM ad 0 M_states M_moves M_known M_come M_lookedAt M_parts M_whole), (kI cI (ad 32) 200 M_asks), (kI cI (ad 33) 600 M_from), (kI cI (ad 34) 600 M_to), (kI cI (ad 35) 600 M_labelOf), (kI cI (ad 36) 16 M_how), (kI cI (ad 37) 200 M_first), (kI cI (ad 39) 600 M_next), (kZ cZ (ad 40) 200 M_end), (kI cI (ad 41) 200 M_queue), (kI cI (ad 42) 200 M_by), (kZ cZ (ad 44) 200 M_isReached), (kZ cZ (ad 45) 200 M_alive), (kZ cZ (ad 46) 40000 M_reach), (kZ cZ (ad 47) 200 M_its), (kI cI (ad 49) 200 M_partOf)] H → va_D A [(kM ad 0 M_states M_moves M_known M_come M_lookedAt M_parts M_whole), (kI cI (ad 32) 200 M_asks), (kI cI (ad 33) 600 M_from), (kI cI (ad 34) 600 M_to), (kI cI (ad 35) 600 M_labelOf), (kI cI (ad 36) 16 M_how), (kI cI (ad 37) 200 M_first), (kI cI (ad 39) 600 M_next), (kZ cZ (ad 40) 200 M_end), (kI cI (ad 41) 200 M_queue), (kI cI (ad 42) 200 M_by), (kZ cZ (ad 44) 200 M_isReached), (kZ cZ (ad 45) 200 M_alive), (kZ cZ (ad 46) 40000 M_reach), (kZ cZ (ad 47) 200 M_its), (kI cI (ad 49) 200 M_partOf)] → va_S A s.heap H locs → lv_has ls 4 [(0, .ref (ad 5)), (2, .int v2_60), (3, .int v3_60)] → W p l e { frames := 5, cells := 0, slots := 0, locals := 123 } s m ([.ref (ad 5), .int a1] : List Value).toArray below meth c H locs 0 0 Q (F0 m 60 ls []) := by
      intro n
      induction n with
      | zero => intro v2_60 v3_60 H locs ls hlp; exact ox_l_0 hlp
      | succ n ih_60 =>
        intro v2_60 v3_60 H locs ls hlp_60 hP hD hS hl
        obtain ⟨z_60, h, hlp_60⟩ := ox_l_of hlp_60
        refine lv_iload_n hx hb dX5_count_60 rfl (lv_at hl 2 rfl) ?_
        refine lv_aload_n hx hb dX5_count_61 rfl (lv_at hl 0 rfl) ?_
        refine va_get (D := D) (ci := 5) (v := .int M_states) (C := RX5) (T := TX5) (N := 27) hx hb hts hiX5 hown hK hP 0 rfl rfl 1 (by decide) hk1 (fun _ h9 => h9) rfl dX5_count_62 ?_
        refine lv_icmp_ge (tgt := 91) hx hb dX5_count_65 (by decide) (fun c_65 => ?_) (fun c_65 => ?_)
        · have h := ox_t c_65 h
          obtain rfl := Option.some.inj h
          exact hX_60 v2_60 v3_60 H locs ls hlp_60 hP hD hS (lv_sub hl [1] rfl)
        · have h := ox_f c_65 h
          refine lv_iload_n hx hb dX5_count_68 rfl (lv_at hl 1 rfl) ?_
          refine lv_aload_n hx hb dX5_count_69 rfl (lv_at hl 0 rfl) ?_
          refine va_get (D := D) (ci := 5) (v := .ref (ad 40)) (C := RX5) (T := TX5) (N := 27) hx hb hts hiX5 hown hK hP 0 rfl rfl 11 (by decide) hk3 (fun _ h9 => h9) rfl dX5_count_70 ?_
          refine lv_iload_n hx hb dX5_count_73 rfl (lv_at hl 2 rfl) ?_
          obtain ⟨hi_74, h⟩ := ox_i_of h
          refine va_zald hx hb hK hP 8 1 rfl rfl hi_74 dX5_count_74 ?_
          refine lv_if_eq (tgt := 82) hx hb dX5_count_75 (by decide) (fun c_75 => ?_) (fun c_75 => ?_)
          · have h := ox_t c_75 h
            refine lv_iconst (v := 0) hx hb dX5_count_82 (by decide) ?_
            refine lv_iadd hx hb dX5_count_83 ?_
            refine lv_istore_n (lv' := [(2, .int (v2_60 + 0)), (0, .ref (ad 5)), (3, .int v3_60)]) hx hb dX5_count_84 rfl hl (by decide) rfl (fun ls hl => ?_)
            refine lv_iinc (v := v3_60 + 1) (lv' := [(3, .int (v3_60 + 1)), (2, .int (v2_60 + 0)), (0, .ref (ad 5))]) hx hb dX5_count_85 hl (k := 2) rfl rfl (by decide) rfl (fun ls hl => ?_)
            refine lv_goto (tgt := 60) hx hb dX5_count_88 (by decide) ?_
            obtain rfl := Option.some.inj h
            exact ih_60 (v2_60 + 0) (v3_60 + 1) H locs ls hlp_60 hP hD hS (lv_sub hl [2, 1, 0] rfl)
          · have h := ox_f c_75 h
            refine lv_iconst (v := 1) hx hb dX5_count_78 (by decide) ?_
            refine lv_goto (tgt := 83) hx hb dX5_count_79 (by decide) ?_
            refine lv_iadd hx hb dX5_count_83 ?_
            refine lv_istore_n (lv' := [(2, .int (v2_60 + 1)), (0, .ref (ad 5)), (3, .int v3_60)]) hx hb dX5_count_84 rfl hl (by decide) rfl (fun ls hl => ?_)
            refine lv_iinc (v := v3_60 + 1) (lv' := [(3, .int (v3_60 + 1)), (2, .int (v2_60 + 1)), (0, .ref (ad 5))]) hx hb dX5_count_85 hl (k := 2) rfl rfl (by decide) rfl (fun ls hl => ?_)
            refine lv_goto (tgt := 60) hx hb dX5_count_88 (by decide) ?_
            obtain rfl := Option.some.inj h
            exact ih_60 (v2_60 + 1) (v3_60 + 1) H locs ls hlp_60 hP hD hS (lv_sub hl [2, 1, 0] rfl)
    exact hL_60 1000000 0 0 H locs ls hex_60 hP hD hS (lv_sub hl [2, 1, 0] rfl)
  have h := ox_f c_8_2 h
  by_cases c_8_3 : a1 = 3
  · have h := ox_t c_8_3 h
    refine lv_tableIn (tgt := 93) hx hb dX5_count_8 (by rw [c_8_3]; decide) (by rw [c_8_3]; decide) (by rw [c_8_3]; rfl) (by decide) ?_
    refine lv_iconst (v := 0) hx hb dX5_count_93 (by decide) ?_
    refine lv_istore_n (lv' := [(3, .int 0), (2, .int 0), (0, .ref (ad 5)), (1, .int a1)]) hx hb dX5_count_94 rfl hl (by decide) rfl (fun ls hl => ?_)
    obtain ⟨ex_95, hex_95, h_95⟩ := ox_b_of h
    have hX_95 : ∀ (v2_95 : Int32) (v3_95 : Int32) (H : Heap) (locs : List Loc) (ls : Array Slot), (v2_95, v3_95) = ex_95 → va_P D vwCl [(kM ad 0 M_states M_moves M_known M_come M_lookedAt M_parts M_whole), (kI cI (ad 32) 200 M_asks), (kI cI (ad 33) 600 M_from), (kI cI (ad 34) 600 M_to), (kI cI (ad 35) 600 M_labelOf), (kI cI (ad 36) 16 M_how), (kI cI (ad 37) 200 M_first), (kI cI (ad 39) 600 M_next), (kZ cZ (ad 40) 200 M_end), (kI cI (ad 41) 200 M_queue), (kI cI (ad 42) 200 M_by), (kZ cZ (ad 44) 200 M_isReached), (kZ cZ (ad 45) 200 M_alive), (kZ cZ (ad 46) 40000 M_reach), (kZ cZ (ad 47) 200 M_its), (kI cI (ad 49) 200 M_partOf)] H → va_D A [(kM ad 0 M_states M_moves M_known M_come M_lookedAt M_parts M_whole), (kI cI (ad 32) 200 M_asks), (kI cI (ad 33) 600 M_from), (kI cI (ad 34) 600 M_to), (kI cI (ad 35) 600 M_labelOf), (kI cI (ad 36) 16 M_how), (kI cI (ad 37) 200 M_first), (kI cI (ad 39) 600 M_next), (kZ cZ (ad 40) 200 M_end), (kI cI (ad 41) 200 M_queue), (kI cI (ad 42) 200 M_by), (kZ cZ (ad 44) 200 M_isReached), (kZ cZ (ad 45) 200 M_alive), (kZ cZ (ad 46) 40000 M_reach), (kZ cZ (ad 47) 200 M_its), (kI cI (ad 49) 200 M_partOf)] → va_S A s.heap H locs → lv_has ls 4 [(2, .int v2_95)] → W p l e { frames := 5, cells := 0, slots := 0, locals := 123 } s m ([.ref (ad 5), .int a1] : List Value).toArray below meth c H locs 0 0 Q (F0 m 127 ls []) := by
      intro v2_95 v3_95 H locs ls hex_95 hP hD hS hl
      subst hex_95
      have h := h_95
      refine lv_iload_n hx hb dX5_count_127 rfl (lv_at hl 0 rfl) ?_
      have h := Option.some.inj h
      subst h
      exact hend H locs _ ls hP hD hS dX5_count_128 trivial
    have hL_95 : ∀ (n : Nat) (v2_95 : Int32) (v3_95 : Int32) (H : Heap) (locs : List Loc) (ls : Array Slot), ox_l (fn_X5_count_l95 M_how a1) n (v2_95, v3_95) = some ex_95 → va_P D vwCl [(kM ad 0 M_states M_moves M_known M_come M_lookedAt M_parts M_whole), (kI cI (ad 32) 200 M_asks), (kI cI (ad 33) 600 M_from), (kI cI (ad 34) 600 M_to), (kI cI (ad 35) 600 M_labelOf), (kI cI (ad 36) 16 M_how), (kI cI (ad 37) 200 M_first), (kI cI (ad 39) 600 M_next), (kZ cZ (ad 40) 200 M_end), (kI cI (ad 41) 200 M_queue), (kI cI (ad 42) 200 M_by), (kZ cZ (ad 44) 200 M_isReached), (kZ cZ (ad 45) 200 M_alive), (kZ cZ (ad 46) 40000 M_reach), (kZ cZ (ad 47) 200 M_its), (kI cI (ad 49) 200 M_partOf)] H → va_D A [(kM ad 0 M_states M_moves M_known M_come M_lookedAt M_parts M_whole), (kI cI (ad 32) 200 M_asks), (kI cI (ad 33) 600 M_from), (kI cI (ad 34) 600 M_to), (kI cI (ad 35) 600 M_labelOf), (kI cI (ad 36) 16 M_how), (kI cI (ad 37) 200 M_first), (kI cI (ad 39) 600 M_next), (kZ cZ (ad 40) 200 M_end), (kI cI (ad 41) 200 M_queue), (kI cI (ad 42) 200 M_by), (kZ cZ (ad 44) 200 M_isReached), (kZ cZ (ad 45) 200 M_alive), (kZ cZ (ad 46) 40000 M_reach), (kZ cZ (ad 47) 200 M_its), (kI cI (ad 49) 200 M_partOf)] → va_S A s.heap H locs → lv_has ls 4 [(0, .ref (ad 5)), (1, .int a1), (2, .int v2_95), (3, .int v3_95)] → W p l e { frames := 5, cells := 0, slots := 0, locals := 123 } s m ([.ref (ad 5), .int a1] : List Value).toArray below meth c H locs 0 0 Q (F0 m 95 ls []) := by
      intro n
      induction n with
      | zero => intro v2_95 v3_95 H locs ls hlp; exact ox_l_0 hlp
      | succ n ih_95 =>
        intro v2_95 v3_95 H locs ls hlp_95 hP hD hS hl
        obtain ⟨z_95, h, hlp_95⟩ := ox_l_of hlp_95
        refine lv_iload_n hx hb dX5_count_95 rfl (lv_at hl 3 rfl) ?_
        refine lv_bipush (v := 16) hx hb dX5_count_96 (by decide) ?_
        refine lv_icmp_ge (tgt := 127) hx hb dX5_count_98 (by decide) (fun c_98 => ?_) (fun c_98 => ?_)
        · have h := ox_t c_98 h
          obtain rfl := Option.some.inj h
          exact hX_95 v2_95 v3_95 H locs ls hlp_95 hP hD hS (lv_sub hl [2] rfl)
        · have h := ox_f c_98 h
          refine lv_iload_n hx hb dX5_count_101 rfl (lv_at hl 2 rfl) ?_
          refine lv_aload_n hx hb dX5_count_102 rfl (lv_at hl 0 rfl) ?_
          refine va_get (D := D) (ci := 5) (v := .ref (ad 36)) (C := RX5) (T := TX5) (N := 27) hx hb hts hiX5 hown hK hP 0 rfl rfl 7 (by decide) hk4 (fun _ h9 => h9) rfl dX5_count_103 ?_
          refine lv_iload_n hx hb dX5_count_106 rfl (lv_at hl 3 rfl) ?_
          obtain ⟨hi_107, h⟩ := ox_i_of h
          refine va_iald hx hb hK hP 5 0 rfl rfl hi_107 dX5_count_107 ?_
          refine lv_iload_n hx hb dX5_count_108 rfl (lv_at hl 1 rfl) ?_
          refine lv_iconst (v := 2) hx hb dX5_count_109 (by decide) ?_
          refine lv_isub hx hb dX5_count_110 ?_
          refine lv_icmp_ne (tgt := 118) hx hb dX5_count_111 (by decide) (fun c_111 => ?_) (fun c_111 => ?_)
          · have h := ox_f c_111 h
            refine lv_iconst (v := 0) hx hb dX5_count_118 (by decide) ?_
            refine lv_iadd hx hb dX5_count_119 ?_
            refine lv_istore_n (lv' := [(2, .int (v2_95 + 0)), (0, .ref (ad 5)), (1, .int a1), (3, .int v3_95)]) hx hb dX5_count_120 rfl hl (by decide) rfl (fun ls hl => ?_)
            refine lv_iinc (v := v3_95 + 1) (lv' := [(3, .int (v3_95 + 1)), (2, .int (v2_95 + 0)), (0, .ref (ad 5)), (1, .int a1)]) hx hb dX5_count_121 hl (k := 3) rfl rfl (by decide) rfl (fun ls hl => ?_)
            refine lv_goto (tgt := 95) hx hb dX5_count_124 (by decide) ?_
            obtain rfl := Option.some.inj h
            exact ih_95 (v2_95 + 0) (v3_95 + 1) H locs ls hlp_95 hP hD hS (lv_sub hl [2, 3, 1, 0] rfl)
          · have h := ox_t c_111 h
            refine lv_iconst (v := 1) hx hb dX5_count_114 (by decide) ?_
            refine lv_goto (tgt := 119) hx hb dX5_count_115 (by decide) ?_
            refine lv_iadd hx hb dX5_count_119 ?_
            refine lv_istore_n (lv' := [(2, .int (v2_95 + 1)), (0, .ref (ad 5)), (1, .int a1), (3, .int v3_95)]) hx hb dX5_count_120 rfl hl (by decide) rfl (fun ls hl => ?_)
            refine lv_iinc (v := v3_95 + 1) (lv' := [(3, .int (v3_95 + 1)), (2, .int (v2_95 + 1)), (0, .ref (ad 5)), (1, .int a1)]) hx hb dX5_count_121 hl (k := 3) rfl rfl (by decide) rfl (fun ls hl => ?_)
            refine lv_goto (tgt := 95) hx hb dX5_count_124 (by decide) ?_
            obtain rfl := Option.some.inj h
            exact ih_95 (v2_95 + 1) (v3_95 + 1) H locs ls hlp_95 hP hD hS (lv_sub hl [2, 3, 1, 0] rfl)
    exact hL_95 1000000 0 0 H locs ls hex_95 hP hD hS (lv_sub hl [2, 3, 1, 0] rfl)
  have h := ox_f c_8_3 h
  by_cases c_8_4 : a1 = 4
  · have h := ox_t c_8_4 h
    refine lv_tableIn (tgt := 93) hx hb dX5_count_8 (by rw [c_8_4]; decide) (by rw [c_8_4]; decide) (by rw [c_8_4]; rfl) (by decide) ?_
    refine lv_iconst (v := 0) hx hb dX5_count_93 (by decide) ?_
    refine lv_istore_n (lv' := [(3, .int 0), (2, .int 0), (0, .ref (ad 5)), (1, .int a1)]) hx hb dX5_count_94 rfl hl (by decide) rfl (fun ls hl => ?_)
    obtain ⟨ex_95, hex_95, h_95⟩ := ox_b_of h
    have hX_95 : ∀ (v2_95 : Int32) (v3_95 : Int32) (H : Heap) (locs : List Loc) (ls : Array Slot), (v2_95, v3_95) = ex_95 → va_P D vwCl [(kM ad 0 M_states M_moves M_known M_come M_lookedAt M_parts M_whole), (kI cI (ad 32) 200 M_asks), (kI cI (ad 33) 600 M_from), (kI cI (ad 34) 600 M_to), (kI cI (ad 35) 600 M_labelOf), (kI cI (ad 36) 16 M_how), (kI cI (ad 37) 200 M_first), (kI cI (ad 39) 600 M_next), (kZ cZ (ad 40) 200 M_end), (kI cI (ad 41) 200 M_queue), (kI cI (ad 42) 200 M_by), (kZ cZ (ad 44) 200 M_isReached), (kZ cZ (ad 45) 200 M_alive), (kZ cZ (ad 46) 40000 M_reach), (kZ cZ (ad 47) 200 M_its), (kI cI (ad 49) 200 M_partOf)] H → va_D A [(kM ad 0 M_states M_moves M_known M_come M_lookedAt M_parts M_whole), (kI cI (ad 32) 200 M_asks), (kI cI (ad 33) 600 M_from), (kI cI (ad 34) 600 M_to), (kI cI (ad 35) 600 M_labelOf), (kI cI (ad 36) 16 M_how), (kI cI (ad 37) 200 M_first), (kI cI (ad 39) 600 M_next), (kZ cZ (ad 40) 200 M_end), (kI cI (ad 41) 200 M_queue), (kI cI (ad 42) 200 M_by), (kZ cZ (ad 44) 200 M_isReached), (kZ cZ (ad 45) 200 M_alive), (kZ cZ (ad 46) 40000 M_reach), (kZ cZ (ad 47) 200 M_its), (kI cI (ad 49) 200 M_partOf)] → va_S A s.heap H locs → lv_has ls 4 [(2, .int v2_95)] → W p l e { frames := 5, cells := 0, slots := 0, locals := 123 } s m ([.ref (ad 5), .int a1] : List Value).toArray below meth c H locs 0 0 Q (F0 m 127 ls []) := by
      intro v2_95 v3_95 H locs ls hex_95 hP hD hS hl
      subst hex_95
      have h := h_95
      refine lv_iload_n hx hb dX5_count_127 rfl (lv_at hl 0 rfl) ?_
      have h := Option.some.inj h
      subst h
      exact hend H locs _ ls hP hD hS dX5_count_128 trivial
    have hL_95 : ∀ (n : Nat) (v2_95 : Int32) (v3_95 : Int32) (H : Heap) (locs : List Loc) (ls : Array Slot), ox_l (fn_X5_count_l95 M_how a1) n (v2_95, v3_95) = some ex_95 → va_P D vwCl [(kM ad 0 M_states M_moves M_known M_come M_lookedAt M_parts M_whole), (kI cI (ad 32) 200 M_asks), (kI cI (ad 33) 600 M_from), (kI cI (ad 34) 600 M_to), (kI cI (ad 35) 600 M_labelOf), (kI cI (ad 36) 16 M_how), (kI cI (ad 37) 200 M_first), (kI cI (ad 39) 600 M_next), (kZ cZ (ad 40) 200 M_end), (kI cI (ad 41) 200 M_queue), (kI cI (ad 42) 200 M_by), (kZ cZ (ad 44) 200 M_isReached), (kZ cZ (ad 45) 200 M_alive), (kZ cZ (ad 46) 40000 M_reach), (kZ cZ (ad 47) 200 M_its), (kI cI (ad 49) 200 M_partOf)] H → va_D A [(kM ad 0 M_states M_moves M_known M_come M_lookedAt M_parts M_whole), (kI cI (ad 32) 200 M_asks), (kI cI (ad 33) 600 M_from), (kI cI (ad 34) 600 M_to), (kI cI (ad 35) 600 M_labelOf), (kI cI (ad 36) 16 M_how), (kI cI (ad 37) 200 M_first), (kI cI (ad 39) 600 M_next), (kZ cZ (ad 40) 200 M_end), (kI cI (ad 41) 200 M_queue), (kI cI (ad 42) 200 M_by), (kZ cZ (ad 44) 200 M_isReached), (kZ cZ (ad 45) 200 M_alive), (kZ cZ (ad 46) 40000 M_reach), (kZ cZ (ad 47) 200 M_its), (kI cI (ad 49) 200 M_partOf)] → va_S A s.heap H locs → lv_has ls 4 [(0, .ref (ad 5)), (1, .int a1), (2, .int v2_95), (3, .int v3_95)] → W p l e { frames := 5, cells := 0, slots := 0, locals := 123 } s m ([.ref (ad 5), .int a1] : List Value).toArray below meth c H locs 0 0 Q (F0 m 95 ls []) := by
      intro n
      induction n with
      | zero => intro v2_95 v3_95 H locs ls hlp; exact ox_l_0 hlp
      | succ n ih_95 =>
        intro v2_95 v3_95 H locs ls hlp_95 hP hD hS hl
        obtain ⟨z_95, h, hlp_95⟩ := ox_l_of hlp_95
        refine lv_iload_n hx hb dX5_count_95 rfl (lv_at hl 3 rfl) ?_
        refine lv_bipush (v := 16) hx hb dX5_count_96 (by decide) ?_
        refine lv_icmp_ge (tgt := 127) hx hb dX5_count_98 (by decide) (fun c_98 => ?_) (fun c_98 => ?_)
        · have h := ox_t c_98 h
          obtain rfl := Option.some.inj h
          exact hX_95 v2_95 v3_95 H locs ls hlp_95 hP hD hS (lv_sub hl [2] rfl)
        · have h := ox_f c_98 h
          refine lv_iload_n hx hb dX5_count_101 rfl (lv_at hl 2 rfl) ?_
          refine lv_aload_n hx hb dX5_count_102 rfl (lv_at hl 0 rfl) ?_
          refine va_get (D := D) (ci := 5) (v := .ref (ad 36)) (C := RX5) (T := TX5) (N := 27) hx hb hts hiX5 hown hK hP 0 rfl rfl 7 (by decide) hk4 (fun _ h9 => h9) rfl dX5_count_103 ?_
          refine lv_iload_n hx hb dX5_count_106 rfl (lv_at hl 3 rfl) ?_
          obtain ⟨hi_107, h⟩ := ox_i_of h
          refine va_iald hx hb hK hP 5 0 rfl rfl hi_107 dX5_count_107 ?_
          refine lv_iload_n hx hb dX5_count_108 rfl (lv_at hl 1 rfl) ?_
          refine lv_iconst (v := 2) hx hb dX5_count_109 (by decide) ?_
          refine lv_isub hx hb dX5_count_110 ?_
          refine lv_icmp_ne (tgt := 118) hx hb dX5_count_111 (by decide) (fun c_111 => ?_) (fun c_111 => ?_)
          · have h := ox_f c_111 h
            refine lv_iconst (v := 0) hx hb dX5_count_118 (by decide) ?_
            refine lv_iadd hx hb dX5_count_119 ?_
            refine lv_istore_n (lv' := [(2, .int (v2_95 + 0)), (0, .ref (ad 5)), (1, .int a1), (3, .int v3_95)]) hx hb dX5_count_120 rfl hl (by decide) rfl (fun ls hl => ?_)
            refine lv_iinc (v := v3_95 + 1) (lv' := [(3, .int (v3_95 + 1)), (2, .int (v2_95 + 0)), (0, .ref (ad 5)), (1, .int a1)]) hx hb dX5_count_121 hl (k := 3) rfl rfl (by decide) rfl (fun ls hl => ?_)
            refine lv_goto (tgt := 95) hx hb dX5_count_124 (by decide) ?_
            obtain rfl := Option.some.inj h
            exact ih_95 (v2_95 + 0) (v3_95 + 1) H locs ls hlp_95 hP hD hS (lv_sub hl [2, 3, 1, 0] rfl)
          · have h := ox_t c_111 h
            refine lv_iconst (v := 1) hx hb dX5_count_114 (by decide) ?_
            refine lv_goto (tgt := 119) hx hb dX5_count_115 (by decide) ?_
            refine lv_iadd hx hb dX5_count_119 ?_
            refine lv_istore_n (lv' := [(2, .int (v2_95 + 1)), (0, .ref (ad 5)), (1, .int a1), (3, .int v3_95)]) hx hb dX5_count_120 rfl hl (by decide) rfl (fun ls hl => ?_)
            refine lv_iinc (v := v3_95 + 1) (lv' := [(3, .int (v3_95 + 1)), (2, .int (v2_95 + 1)), (0, .ref (ad 5)), (1, .int a1)]) hx hb dX5_count_121 hl (k := 3) rfl rfl (by decide) rfl (fun ls hl => ?_)
            refine lv_goto (tgt := 95) hx hb dX5_count_124 (by decide) ?_
            obtain rfl := Option.some.inj h
            exact ih_95 (v2_95 + 1) (v3_95 + 1) H locs ls hlp_95 hP hD hS (lv_sub hl [2, 3, 1, 0] rfl)
    exact hL_95 1000000 0 0 H locs ls hex_95 hP hD hS (lv_sub hl [2, 3, 1, 0] rfl)
  have h := ox_f c_8_4 h
  by_cases c_8_5 : a1 = 5
  · have h := ox_t c_8_5 h
    refine lv_tableIn (tgt := 129) hx hb dX5_count_8 (by rw [c_8_5]; decide) (by rw [c_8_5]; decide) (by rw [c_8_5]; rfl) (by decide) ?_
    refine lv_iconst (v := 0) hx hb dX5_count_129 (by decide) ?_
    refine lv_istore_n (lv' := [(3, .int 0), (2, .int 0), (0, .ref (ad 5)), (1, .int a1)]) hx hb dX5_count_130 rfl hl (by decide) rfl (fun ls hl => ?_)
    obtain ⟨ex_131, hex_131, h_131⟩ := ox_b_of h
    have hX_131 : ∀ (v2_131 : Int32) (v3_131 : Int32) (M_known_131 : Int32) (M_come_131 : Int32) (M_lookedAt_131 : Int32) (M_parts_131 : Int32) (M_whole_131 : Int32) (M_queue_131 : Nat → Int32) (M_by_131 : Nat → Int32) (M_isReached_131 : Nat → Int32) (M_alive_131 : Nat → Int32) (M_reach_131 : Nat → Int32) (M_its_131 : Nat → Int32) (M_partOf_131 : Nat → Int32) (H : Heap) (locs : List Loc) (ls : Array Slot), (v2_131, v3_131, M_known_131, M_come_131, M_lookedAt_131, M_parts_131, M_whole_131, M_queue_131, M_by_131, M_isReached_131, M_alive_131, M_reach_131, M_its_131, M_partOf_131) = ex_131 → va_P D vwCl [(kM ad 0 M_states M_moves M_known_131 M_come_131 M_lookedAt_131 M_parts_131 M_whole_131), (kI cI (ad 32) 200 M_asks), (kI cI (ad 33) 600 M_from), (kI cI (ad 34) 600 M_to), (kI cI (ad 35) 600 M_labelOf), (kI cI (ad 36) 16 M_how), (kI cI (ad 37) 200 M_first), (kI cI (ad 39) 600 M_next), (kZ cZ (ad 40) 200 M_end), (kI cI (ad 41) 200 M_queue_131), (kI cI (ad 42) 200 M_by_131), (kZ cZ (ad 44) 200 M_isReached_131), (kZ cZ (ad 45) 200 M_alive_131), (kZ cZ (ad 46) 40000 M_reach_131), (kZ cZ (ad 47) 200 M_its_131), (kI cI (ad 49) 200 M_partOf_131)] H → va_D A [(kM ad 0 M_states M_moves M_known_131 M_come_131 M_lookedAt_131 M_parts_131 M_whole_131), (kI cI (ad 32) 200 M_asks), (kI cI (ad 33) 600 M_from), (kI cI (ad 34) 600 M_to), (kI cI (ad 35) 600 M_labelOf), (kI cI (ad 36) 16 M_how), (kI cI (ad 37) 200 M_first), (kI cI (ad 39) 600 M_next), (kZ cZ (ad 40) 200 M_end), (kI cI (ad 41) 200 M_queue_131), (kI cI (ad 42) 200 M_by_131), (kZ cZ (ad 44) 200 M_isReached_131), (kZ cZ (ad 45) 200 M_alive_131), (kZ cZ (ad 46) 40000 M_reach_131), (kZ cZ (ad 47) 200 M_its_131), (kI cI (ad 49) 200 M_partOf_131)] → va_S A s.heap H locs → lv_has ls 4 [(2, .int v2_131)] → W p l e { frames := 5, cells := 0, slots := 0, locals := 123 } s m ([.ref (ad 5), .int a1] : List Value).toArray below meth c H locs 0 0 Q (F0 m 159 ls []) := by
      intro v2_131 v3_131 M_known_131 M_come_131 M_lookedAt_131 M_parts_131 M_whole_131 M_queue_131 M_by_131 M_isReached_131 M_alive_131 M_reach_131 M_its_131 M_partOf_131 H locs ls hex_131 hP hD hS hl
      subst hex_131
      have h := h_131
      refine lv_iload_n hx hb dX5_count_159 rfl (lv_at hl 0 rfl) ?_
      have h := Option.some.inj h
      subst h
      exact hend H locs _ ls hP hD hS dX5_count_160 trivial
    have hL_131 : ∀ (n : Nat) (v2_131 : Int32) (v3_131 : Int32) (M_known_131 : Int32) (M_come_131 : Int32) (M_lookedAt_131 : Int32) (M_parts_131 : Int32) (M_whole_131 : Int32) (M_queue_131 : Nat → Int32) (M_by_131 : Nat → Int32) (M_isReached_131 : Nat → Int32) (M_alive_131 : Nat → Int32) (M_reach_131 : Nat → Int32) (M_its_131 : Nat → Int32) (M_partOf_131 : Nat → Int32) (H : Heap) (locs : List Loc) (ls : Array Slot), ox_l (fn_X5_count_l131 M_states M_moves M_asks M_from M_to M_labelOf M_how M_first M_next M_end) n (v2_131, v3_131, M_known_131, M_come_131, M_lookedAt_131, M_parts_131, M_whole_131, M_queue_131, M_by_131, M_isReached_131, M_alive_131, M_reach_131, M_its_131, M_partOf_131) = some ex_131 → va_P D vwCl [(kM ad 0 M_states M_moves M_known_131 M_come_131 M_lookedAt_131 M_parts_131 M_whole_131), (kI cI (ad 32) 200 M_asks), (kI cI (ad 33) 600 M_from), (kI cI (ad 34) 600 M_to), (kI cI (ad 35) 600 M_labelOf), (kI cI (ad 36) 16 M_how), (kI cI (ad 37) 200 M_first), (kI cI (ad 39) 600 M_next), (kZ cZ (ad 40) 200 M_end), (kI cI (ad 41) 200 M_queue_131), (kI cI (ad 42) 200 M_by_131), (kZ cZ (ad 44) 200 M_isReached_131), (kZ cZ (ad 45) 200 M_alive_131), (kZ cZ (ad 46) 40000 M_reach_131), (kZ cZ (ad 47) 200 M_its_131), (kI cI (ad 49) 200 M_partOf_131)] H → va_D A [(kM ad 0 M_states M_moves M_known_131 M_come_131 M_lookedAt_131 M_parts_131 M_whole_131), (kI cI (ad 32) 200 M_asks), (kI cI (ad 33) 600 M_from), (kI cI (ad 34) 600 M_to), (kI cI (ad 35) 600 M_labelOf), (kI cI (ad 36) 16 M_how), (kI cI (ad 37) 200 M_first), (kI cI (ad 39) 600 M_next), (kZ cZ (ad 40) 200 M_end), (kI cI (ad 41) 200 M_queue_131), (kI cI (ad 42) 200 M_by_131), (kZ cZ (ad 44) 200 M_isReached_131), (kZ cZ (ad 45) 200 M_alive_131), (kZ cZ (ad 46) 40000 M_reach_131), (kZ cZ (ad 47) 200 M_its_131), (kI cI (ad 49) 200 M_partOf_131)] → va_S A s.heap H locs → lv_has ls 4 [(0, .ref (ad 5)), (2, .int v2_131), (3, .int v3_131)] → W p l e { frames := 5, cells := 0, slots := 0, locals := 123 } s m ([.ref (ad 5), .int a1] : List Value).toArray below meth c H locs 0 0 Q (F0 m 131 ls []) := by
      intro n
      induction n with
      | zero => intro v2_131 v3_131 M_known_131 M_come_131 M_lookedAt_131 M_parts_131 M_whole_131 M_queue_131 M_by_131 M_isReached_131 M_alive_131 M_reach_131 M_its_131 M_partOf_131 H locs ls hlp; exact ox_l_0 hlp
      | succ n ih_131 =>
        intro v2_131 v3_131 M_known_131 M_come_131 M_lookedAt_131 M_parts_131 M_whole_131 M_queue_131 M_by_131 M_isReached_131 M_alive_131 M_reach_131 M_its_131 M_partOf_131 H locs ls hlp_131 hP hD hS hl
        obtain ⟨z_131, h, hlp_131⟩ := ox_l_of hlp_131
        refine lv_iload_n hx hb dX5_count_131 rfl (lv_at hl 2 rfl) ?_
        refine lv_bipush (v := 8) hx hb dX5_count_132 (by decide) ?_
        refine lv_icmp_ge (tgt := 159) hx hb dX5_count_134 (by decide) (fun c_134 => ?_) (fun c_134 => ?_)
        · have h := ox_t c_134 h
          obtain rfl := Option.some.inj h
          exact hX_131 v2_131 v3_131 M_known_131 M_come_131 M_lookedAt_131 M_parts_131 M_whole_131 M_queue_131 M_by_131 M_isReached_131 M_alive_131 M_reach_131 M_its_131 M_partOf_131 H locs ls hlp_131 hP hD hS (lv_sub hl [1] rfl)
        · have h := ox_f c_134 h
          refine lv_iload_n hx hb dX5_count_137 rfl (lv_at hl 1 rfl) ?_
          refine lv_aload_n hx hb dX5_count_138 rfl (lv_at hl 0 rfl) ?_
          refine lv_iload_n hx hb dX5_count_139 rfl (lv_at hl 2 rfl) ?_
          obtain ⟨⟨r_140, M_known_140, M_come_140, M_lookedAt_140, M_parts_140, M_whole_140, M_queue_140, M_by_140, M_isReached_140, M_alive_140, M_reach_140, M_its_140, M_partOf_140⟩, hc_140, h⟩ := ox_b_of h
          refine mc_callV (As := [.int v3_131]) (rest := [.int v2_131]) (b := ad 5) (Wc := [(kM ad 0 M_states M_moves M_known_131 M_come_131 M_lookedAt_131 M_parts_131 M_whole_131), (kI cI (ad 32) 200 M_asks), (kI cI (ad 33) 600 M_from), (kI cI (ad 34) 600 M_to), (kI cI (ad 35) 600 M_labelOf), (kI cI (ad 36) 16 M_how), (kI cI (ad 37) 200 M_first), (kI cI (ad 39) 600 M_next), (kZ cZ (ad 40) 200 M_end), (kI cI (ad 41) 200 M_queue_131), (kI cI (ad 42) 200 M_by_131), (kZ cZ (ad 44) 200 M_isReached_131), (kZ cZ (ad 45) 200 M_alive_131), (kZ cZ (ad 46) 40000 M_reach_131), (kZ cZ (ad 47) 200 M_its_131), (kI cI (ad 49) 200 M_partOf_131)]) (wr := []) (W1 := [(kM ad 0 M_states M_moves M_known_140 M_come_140 M_lookedAt_140 M_parts_140 M_whole_140), (kI cI (ad 32) 200 M_asks), (kI cI (ad 33) 600 M_from), (kI cI (ad 34) 600 M_to), (kI cI (ad 35) 600 M_labelOf), (kI cI (ad 36) 16 M_how), (kI cI (ad 37) 200 M_first), (kI cI (ad 39) 600 M_next), (kZ cZ (ad 40) 200 M_end), (kI cI (ad 41) 200 M_queue_140), (kI cI (ad 42) 200 M_by_140), (kZ cZ (ad 44) 200 M_isReached_140), (kZ cZ (ad 45) 200 M_alive_140), (kZ cZ (ad 46) 40000 M_reach_140), (kZ cZ (ad 47) 200 M_its_140), (kI cI (ad 49) 200 M_partOf_140)]) (wn := [(kM ad 0 M_states M_moves M_known_140 M_come_140 M_lookedAt_140 M_parts_140 M_whole_140), (kI cI (ad 32) 200 M_asks), (kI cI (ad 33) 600 M_from), (kI cI (ad 34) 600 M_to), (kI cI (ad 35) 600 M_labelOf), (kI cI (ad 36) 16 M_how), (kI cI (ad 37) 200 M_first), (kI cI (ad 39) 600 M_next), (kZ cZ (ad 40) 200 M_end), (kI cI (ad 41) 200 M_queue_140), (kI cI (ad 42) 200 M_by_140), (kZ cZ (ad 44) 200 M_isReached_140), (kZ cZ (ad 45) 200 M_alive_140), (kZ cZ (ad 46) 40000 M_reach_140), (kZ cZ (ad 47) 200 M_its_140), (kI cI (ad 49) 200 M_partOf_140)]) (rv := some (.int r_140)) ⟨hx, hb, hml, hown, hts⟩ (c_X5_isLive l D cI cZ ad 0 M_states M_moves M_known_131 M_come_131 M_lookedAt_131 M_parts_131 M_whole_131 M_asks M_from M_to M_labelOf M_how M_first M_next M_end M_queue_131 M_by_131 M_isReached_131 M_alive_131 M_reach_131 M_its_131 M_partOf_131 v3_131 _ hc_140) (cwV 1 hts (gl_V wk_314 wk_315 wk_316 wk_5 wk_317) rfl rfl rfl (by decide +kernel) ⟨Nat.le_of_ble_eq_true rfl, Nat.le_of_ble_eq_true rfl⟩) hK hP hD hS hA 5 0 rfl rfl rfl [0, 1, 2, 3, 4, 5, 6, 7, 8, 9, 10, 11, 12, 13, 14, 15] [] [0, 1, 2, 3, 4, 5, 6, 7, 8, 9, 10, 11, 12, 13, 14, 15] rfl rfl (by decide) rfl (by decide) (by decide) rfl rfl (by decide) rfl rfl hl.1 (Nat.le_of_ble_eq_true rfl) dX5_count_140 ⟨Nat.zero_le _, Nat.zero_le _⟩ (fun H locs hP hD hS => ?_)
          show W p l e { frames := 5, cells := 0, slots := 0, locals := 123 } s m ([.ref (ad 5), .int a1] : List Value).toArray below meth c H locs 0 0 Q (F0 m 143 ls [.int r_140, .int v2_131])
          refine lv_if_eq (tgt := 150) hx hb dX5_count_143 (by decide) (fun c_143 => ?_) (fun c_143 => ?_)
          · have h := ox_t c_143 h
            refine lv_iconst (v := 0) hx hb dX5_count_150 (by decide) ?_
            refine lv_iadd hx hb dX5_count_151 ?_
            refine lv_istore_n (lv' := [(2, .int (v2_131 + 0)), (0, .ref (ad 5)), (3, .int v3_131)]) hx hb dX5_count_152 rfl hl (by decide) rfl (fun ls hl => ?_)
            refine lv_iinc (v := v3_131 + 1) (lv' := [(3, .int (v3_131 + 1)), (2, .int (v2_131 + 0)), (0, .ref (ad 5))]) hx hb dX5_count_153 hl (k := 2) rfl rfl (by decide) rfl (fun ls hl => ?_)
            refine lv_goto (tgt := 131) hx hb dX5_count_156 (by decide) ?_
            obtain rfl := Option.some.inj h
            exact ih_131 (v2_131 + 0) (v3_131 + 1) M_known_140 M_come_140 M_lookedAt_140 M_parts_140 M_whole_140 M_queue_140 M_by_140 M_isReached_140 M_alive_140 M_reach_140 M_its_140 M_partOf_140 H locs ls hlp_131 hP hD hS (lv_sub hl [2, 1, 0] rfl)
          · have h := ox_f c_143 h
            refine lv_iconst (v := 1) hx hb dX5_count_146 (by decide) ?_
            refine lv_goto (tgt := 151) hx hb dX5_count_147 (by decide) ?_
            refine lv_iadd hx hb dX5_count_151 ?_
            refine lv_istore_n (lv' := [(2, .int (v2_131 + 1)), (0, .ref (ad 5)), (3, .int v3_131)]) hx hb dX5_count_152 rfl hl (by decide) rfl (fun ls hl => ?_)
            refine lv_iinc (v := v3_131 + 1) (lv' := [(3, .int (v3_131 + 1)), (2, .int (v2_131 + 1)), (0, .ref (ad 5))]) hx hb dX5_count_153 hl (k := 2) rfl rfl (by decide) rfl (fun ls hl => ?_)
            refine lv_goto (tgt := 131) hx hb dX5_count_156 (by decide) ?_
            obtain rfl := Option.some.inj h
            exact ih_131 (v2_131 + 1) (v3_131 + 1) M_known_140 M_come_140 M_lookedAt_140 M_parts_140 M_whole_140 M_queue_140 M_by_140 M_isReached_140 M_alive_140 M_reach_140 M_its_140 M_partOf_140 H locs ls hlp_131 hP hD hS (lv_sub hl [2, 1, 0] rfl)
    exact hL_131 1000000 0 0 M_known M_come M_lookedAt M_parts M_whole M_queue M_by M_isReached M_alive M_reach M_its M_partOf H locs ls hex_131 hP hD hS (lv_sub hl [2, 1, 0] rfl)
  have h := ox_f c_8_5 h
  refine lv_tableOut (tgt := 161) hx hb dX5_count_8 (ox_out c_8_0 c_8_1 c_8_2 c_8_3 c_8_4 c_8_5) (by decide) ?_
  refine lv_iconst (v := (-1)) hx hb dX5_count_161 (by decide) ?_
  have h := Option.some.inj h
  subst h
  exact hend H locs _ ls hP hD hS dX5_count_162 trivial
