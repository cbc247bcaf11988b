/-! MACHINE: the law's loop -/
theorem hd_le {i L : Nat} (hL : L ≤ 2048) (hi : i ≤ 2048) (h : ¬ nI L - 4 < nI i) : i + 4 ≤ L := by
  by_cases h4 : 4 ≤ L
  · rw [show (4 : Int32) = nI 4 from rfl, nI_sub h4, nI_ltI (by omega) (by omega)] at h
    omega
  · exfalso
    apply h
    rw [Int32.lt_iff_toInt_lt, nI_toInt (show i < 2 ^ 31 by omega)]
    have h5 : (nI L - 4).toInt < 0 := by
      rcases (show L = 0 ∨ L = 1 ∨ L = 2 ∨ L = 3 by omega) with e | e | e | e <;> (rw [e]; decide)
    omega
set_option maxHeartbeats 4000000 in
theorem la_loop {p : Program} {l : Launch} {e : Env} {s : State} {m : MethodId} {below : List Frame} {meth : Method} {c : Code} {Q : State → Prop} {D : va_G} {cI cZ cJ : ClassId} {sa ad : Nat → Nat} {A : Nat → Prop} {b L : Nat} {xs : Nat → Int32} {c0 : Cond} (hst : l.stackTraces = false) (hC : la_At p s m c b L xs c0 D cI cZ cJ sa A) (hL : L ≤ 2048) (hend : ∀ (H : Heap) (locs : List Loc) (ls : Array Slot) (cells slots : Nat), cells ≤ 601024 → slots ≤ 7293034 → va_S A s.heap H locs → ls.size = 7 → W p l e room_1 s m #[Value.ref b] below meth c H locs cells slots Q (F0 m 895 ls [])) : ∀ (n i cells slots : Nat), L ≤ i + 4 * n → i ≤ 2048 → cells + n ≤ 601024 → slots + 6 * n ≤ 7293034 → la_K p l e s m below meth c Q D cI cZ cJ A b ad 23 (nI i) cells slots := by
  intro n
  induction n with
  | zero =>
    intro i cells slots h1 h2 h3 h4 G_states G_moves G_ends R_found K_found K_closed K_entries K_depth K_opened M_thrown M_states M_moves M_known M_come M_lookedAt M_parts M_whole F_kinds F_ranks G_asks G_isEnd G_able G_from G_to G_labelOf G_out G_start R_line R_far R_lastMove K_chosen K_knotOf K_order K_entered K_low K_nextOut K_path K_open S_size S_lowest S_ableInAll S_inside S_goesRound M_asks M_from M_to M_labelOf M_how M_first M_last M_next M_end M_queue M_by M_row M_isReached M_alive M_reach M_its M_fairly M_partOf M_longestFrom out H locs ls cells1 slots1 k1 k2 hj hP hD hS hl
    obtain ⟨hx, hb, hml, hown, hts, hK, hE, hA, hX, hbl, hbA⟩ := hC
    refine lv_iload hx hb dL_law_23 (lv_at hl 4 rfl) ?_
    refine lv_aload_n hx hb dL_law_25 rfl (lv_at hl 0 rfl) ?_
    refine va_slen hx hb hX hbl hbA hS dL_law_26 ?_
    refine lv_iconst (v := 4) hx hb dL_law_27 (by decide) ?_
    refine lv_isub hx hb dL_law_28 ?_
    refine lv_icmp_gt (tgt := 895) hx hb dL_law_29 (by decide) (fun _ => hend H locs ls _ _ (by omega) (by omega) hS hl.1) (fun c9 => ?_)
    have := hd_le hL h2 c9
    omega
  | succ n ih =>
    intro i cells slots h1 h2 h3 h4 G_states G_moves G_ends R_found K_found K_closed K_entries K_depth K_opened M_thrown M_states M_moves M_known M_come M_lookedAt M_parts M_whole F_kinds F_ranks G_asks G_isEnd G_able G_from G_to G_labelOf G_out G_start R_line R_far R_lastMove K_chosen K_knotOf K_order K_entered K_low K_nextOut K_path K_open S_size S_lowest S_ableInAll S_inside S_goesRound M_asks M_from M_to M_labelOf M_how M_first M_last M_next M_end M_queue M_by M_row M_isReached M_alive M_reach M_its M_fairly M_partOf M_longestFrom out H locs ls cells1 slots1 k1 k2 hj hP hD hS hl
    obtain ⟨hx, hb, hml, hown, hts, hK, hE, hA, hX, hbl, hbA⟩ := id hC
    refine lv_iload hx hb dL_law_23 (lv_at hl 4 rfl) ?_
    refine lv_aload_n hx hb dL_law_25 rfl (lv_at hl 0 rfl) ?_
    refine va_slen hx hb hX hbl hbA hS dL_law_26 ?_
    refine lv_iconst (v := 4) hx hb dL_law_27 (by decide) ?_
    refine lv_isub hx hb dL_law_28 ?_
    refine lv_icmp_gt (tgt := 895) hx hb dL_law_29 (by decide) (fun _ => hend H locs ls _ _ (by omega) (by omega) hS hl.1) (fun c9 => ?_)
    have hi4 := hd_le hL h2 c9
    have i0 : vp_in (nI i) L := in_nI (by omega) (by omega)
    have i1 : vp_in (nI i + 1) L := by rw [nI_1]; exact in_nI (by omega) (by omega)
    have i2 : vp_in (nI i + 2) L := by rw [show nI i + 2 = nI (i + 2) by rw [show (2 : Int32) = nI 2 from rfl, nI_add]]; exact in_nI (by omega) (by omega)
    have i3 : vp_in (nI i + 3) L := by rw [show nI i + 3 = nI (i + 3) by rw [show (3 : Int32) = nI 3 from rfl, nI_add]]; exact in_nI (by omega) (by omega)
    have kk : la_K p l e s m below meth c Q D cI cZ cJ A b ad 889 (nI i) (cells1 + 1) (slots1 + 6) := by
      intro G_states G_moves G_ends R_found K_found K_closed K_entries K_depth K_opened M_thrown M_states M_moves M_known M_come M_lookedAt M_parts M_whole F_kinds F_ranks G_asks G_isEnd G_able G_from G_to G_labelOf G_out G_start R_line R_far R_lastMove K_chosen K_knotOf K_order K_entered K_low K_nextOut K_path K_open S_size S_lowest S_ableInAll S_inside S_goesRound M_asks M_from M_to M_labelOf M_how M_first M_last M_next M_end M_queue M_by M_row M_isReached M_alive M_reach M_its M_fairly M_partOf M_longestFrom out H locs ls cells2 slots2 k3 k4 hj hP hD hS hl
      refine lv_iinc (v := nI (i + 4)) (lv' := [(4, .int (nI (i + 4))), (0, .ref b), (1, .ref (ad 0)), (2, .ref (ad 5)), (3, .ref (ad 51))]) hx hb dL_law_889 hl (k := 4) rfl (by rw [show (i + 4) = i + 4 from rfl, ← nI_add]; rfl) (by decide) rfl (fun ls hl => ?_)
      refine lv_goto (tgt := 23) hx hb dL_law_892 (by decide) ?_
      exact ih (i + 4) (cells + 1) (slots + 6) (by omega) (by omega) (by omega) (by omega) G_states G_moves G_ends R_found K_found K_closed K_entries K_depth K_opened M_thrown M_states M_moves M_known M_come M_lookedAt M_parts M_whole F_kinds F_ranks G_asks G_isEnd G_able G_from G_to G_labelOf G_out G_start R_line R_far R_lastMove K_chosen K_knotOf K_order K_entered K_low K_nextOut K_path K_open S_size S_lowest S_ableInAll S_inside S_goesRound M_asks M_from M_to M_labelOf M_how M_first M_last M_next M_end M_queue M_by M_row M_isReached M_alive M_reach M_its M_fairly M_partOf M_longestFrom out H locs ls cells2 slots2 (by omega) (by omega) hj hP hD hS (lv_sub hl [1, 2, 3, 4, 0] rfl)
    have hf : cells1 + 1 ≤ room_1.cells ∧ slots1 + 6 ≤ room_1.slots := ⟨by show _ ≤ 601024; omega, by show _ ≤ 7293034; omega⟩
    refine lv_aload_n hx hb dL_law_32 rfl (lv_at hl 0 rfl) ?_
    refine lv_iload hx hb dL_law_33 (lv_at hl 4 rfl) ?_
    refine va_sld hx hb hX hbl hbA hS i0 dL_law_35 ?_
    refine lv_bipush (v := 15) hx hb dL_law_36 (by decide) ?_
    refine lv_iand hx hb dL_law_38 ?_
    generalize xs (nI i).toNatClampNeg &&& 15 = x
    by_cases c0 : x = 0
    · refine lv_tableIn (tgt := 104) hx hb dL_law_39 (by rw [c0]; decide) (by rw [c0]; decide) (by rw [c0]; rfl) (by decide) ?_
      exact lc_state hst hC hf i1 i2 i3 hj hP hD hS hl kk
    by_cases c1 : x = 1
    · refine lv_tableIn (tgt := 188) hx hb dL_law_39 (by rw [c1]; decide) (by rw [c1]; decide) (by rw [c1]; rfl) (by decide) ?_
      exact lc_move hst hC hf i1 i2 i3 hj hP hD hS hl kk
    by_cases c2 : x = 2
    · refine lv_tableIn (tgt := 268) hx hb dL_law_39 (by rw [c2]; decide) (by rw [c2]; decide) (by rw [c2]; rfl) (by decide) ?_
      exact lc_label hst hC hf i1 i2 i3 hj hP hD hS hl kk
    by_cases c3 : x = 3
    · refine lv_tableIn (tgt := 336) hx hb dL_law_39 (by rw [c3]; decide) (by rw [c3]; decide) (by rw [c3]; rfl) (by decide) ?_
      exact lc_reached hst hC hf i1 i2 i3 hj hP hD hS hl kk
    by_cases c4 : x = 4
    · refine lv_tableIn (tgt := 349) hx hb dL_law_39 (by rw [c4]; decide) (by rw [c4]; decide) (by rw [c4]; rfl) (by decide) ?_
      exact lc_live hst hC hf i1 i2 i3 hj hP hD hS hl kk
    by_cases c5 : x = 5
    · refine lv_tableIn (tgt := 412) hx hb dL_law_39 (by rw [c5]; decide) (by rw [c5]; decide) (by rw [c5]; rfl) (by decide) ?_
      exact lc_parts hst hC hf i1 i2 i3 hj hP hD hS hl kk
    by_cases c6 : x = 6
    · refine lv_tableIn (tgt := 468) hx hb dL_law_39 (by rw [c6]; decide) (by rw [c6]; decide) (by rw [c6]; rfl) (by decide) ?_
      exact lc_part hst hC hf i1 i2 i3 hj hP hD hS hl kk
    by_cases c7 : x = 7
    · refine lv_tableIn (tgt := 548) hx hb dL_law_39 (by rw [c7]; decide) (by rw [c7]; decide) (by rw [c7]; rfl) (by decide) ?_
      exact lc_dead hst hC hf i1 i2 i3 hj hP hD hS hl kk
    by_cases c8 : x = 8
    · refine lv_tableIn (tgt := 616) hx hb dL_law_39 (by rw [c8]; decide) (by rw [c8]; decide) (by rw [c8]; rfl) (by decide) ?_
      exact lc_longest hst hC hf i1 i2 i3 hj hP hD hS hl kk
    by_cases c9 : x = 9
    · refine lv_tableIn (tgt := 672) hx hb dL_law_39 (by rw [c9]; decide) (by rw [c9]; decide) (by rw [c9]; rfl) (by decide) ?_
      exact lc_rank hst hC hf i1 i2 i3 hj hP hD hS hl kk
    by_cases c10 : x = 10
    · refine lv_tableIn (tgt := 740) hx hb dL_law_39 (by rw [c10]; decide) (by rw [c10]; decide) (by rw [c10]; rfl) (by decide) ?_
      exact lc_row hst hC hf i1 i2 i3 hj hP hD hS hl kk
    by_cases c11 : x = 11
    · refine lv_tableIn (tgt := 808) hx hb dL_law_39 (by rw [c11]; decide) (by rw [c11]; decide) (by rw [c11]; rfl) (by decide) ?_
      exact lc_largest hst hC hf i1 i2 i3 hj hP hD hS hl kk
    by_cases c12 : x = 12
    · refine lv_tableIn (tgt := 864) hx hb dL_law_39 (by rw [c12]; decide) (by rw [c12]; decide) (by rw [c12]; rfl) (by decide) ?_
      exact lc_count hst hC hf i1 i2 i3 hj hP hD hS hl kk
    refine lv_tableOut (tgt := 889) hx hb dL_law_39 (ox_out13 c0 c1 c2 c3 c4 c5 c6 c7 c8 c9 c10 c11 c12) (by decide) ?_
    exact kk G_states G_moves G_ends R_found K_found K_closed K_entries K_depth K_opened M_thrown M_states M_moves M_known M_come M_lookedAt M_parts M_whole F_kinds F_ranks G_asks G_isEnd G_able G_from G_to G_labelOf G_out G_start R_line R_far R_lastMove K_chosen K_knotOf K_order K_entered K_low K_nextOut K_path K_open S_size S_lowest S_ableInAll S_inside S_goesRound M_asks M_from M_to M_labelOf M_how M_first M_last M_next M_end M_queue M_by M_row M_isReached M_alive M_reach M_its M_fairly M_partOf M_longestFrom out H locs ls cells1 slots1 (by omega) (by omega) hj hP hD hS hl
