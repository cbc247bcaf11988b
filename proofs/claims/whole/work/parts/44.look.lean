/-- an ask's states: reached, and it waits there -/
def it_I (n : Nat) (X : bf_X) (ak : Nat → Int32) (a : Int32) : Nat → Prop := fun v => v < n ∧ X.2.2.1 v = true ∧ ((ak v >>> (a &&& 31)) &&& 1) = 1
/-- what look leaves for an ask -/
def mk_D (n m : Nat) (fr to : Nat → Nat) (lb hw : Nat → Int32) (I : Nat → Prop) (xp xw : Int32) (its al pf : Nat → Int32) : Prop :=
  z01 n its ∧ cz n its = I ∧ mp_E n m fr to lb hw I al pf xp ∧ ∃ L, xw = nI L ∧ L ≤ 200 ∧ lg_M n m fr to I L
/-- the walk's own rows: not known, or right -/
def wk_D (n : Nat) (X : bf_X) (kn co : Int32) (qu bm re : Nat → Int32) : Prop := kn = 0 ∨ kn = 1 ∧ bf_I n X ∧ bf_M n X co qu bm re
section LP
variable {n m : Nat} {aj : Nat → List Nat} {fr to st : Nat → Nat} {lb hw ak : Nat → Int32} {mfr mto mlb mfi mnx mhw mas : Nat → Int32} {gto gout gst gas : Nat → Int32}
theorem lp_its (hn : n ≤ 200) {X : bf_X} {re : Nat → Int32} (hre : ∀ v, v < n → (X.2.2.1 v = true → re v = 1) ∧ (X.2.2.1 v = false → re v = 0)) (hak : ∀ v, v < n → mas v = ak v) (a : Int32) {al its : Nat → Int32} :
    ot_T (ox_l (fn_X5_look_l15 (nI n) re mas a) 1000000 (0, al, its)) (fun r => z01 n r.2.1 ∧ z01 n r.2.2 ∧ cz n r.2.1 = it_I n X ak a ∧ cz n r.2.2 = it_I n X ak a) := by
  refine ot_m (P := fun r => ∀ v, v < n → (it_I n X ak a v → r.2.1 v = 1 ∧ r.2.2 v = 1) ∧ (¬ it_I n X ak a v → r.2.1 v = 0 ∧ r.2.2 v = 0)) ?_ ?_
  · refine ot_for (fun i x => x.1 = nI i ∧ ∀ v, v < i → (it_I n X ak a v → x.2.1 v = 1 ∧ x.2.2 v = 1) ∧ (¬ it_I n X ak a v → x.2.1 v = 0 ∧ x.2.2 v = 0)) n ?_ ?_ 1000000 0 _ (Nat.zero_le _) ⟨nI_0.symm, fun v h => absurd h (Nat.not_lt_zero v)⟩ (by omega)
    · rintro i ⟨v2, al, its⟩ hi ⟨e1, q⟩
      dsimp only at e1 q
      subst e1
      unfold fn_X5_look_l15
      dsimp only
      simp only [cl_nI (show i < 2 ^ 31 by omega), hak i hi, nz_b0, nz_b1, upd_s]
      have hset : ∀ x : Int32, ((it_I n X ak a i → x = 1) ∧ (¬ it_I n X ak a i → x = 0)) → ∀ v, v < i + 1 → (it_I n X ak a v → upd al i x v = 1 ∧ upd its i x v = 1) ∧ (¬ it_I n X ak a v → upd al i x v = 0 ∧ upd its i x v = 0) := by
        intro x hx v hv
        by_cases hvi : v = i
        · subst hvi; rw [upd_s, upd_s]; exact ⟨fun h => ⟨hx.1 h, hx.1 h⟩, fun h => ⟨hx.2 h, hx.2 h⟩⟩
        · rw [upd_n hvi, upd_n hvi]; exact q v (by omega)
      refine ot_f (fun h => by rw [nI_leI (by omega) (by omega)] at h; omega) (ot_i (in_nI (by omega) (by decide)) ?_)
      cases hsn : X.2.2.1 i with
      | false =>
        refine ot_t ((hre i hi).2 hsn) (ot_i (in_nI (by omega) (by decide)) (ot_i (in_nI (by omega) (by decide)) (ot_i (in_nI (by omega) (by decide)) (ot_s ⟨nI_1 i, hset 0 ⟨fun h => ?_, fun _ => rfl⟩⟩))))
        have h9 := h.2.1
        rw [hsn] at h9; exact absurd h9 (by decide)
      | true =>
        refine ot_f (by rw [(hre i hi).1 hsn]; decide) (ot_i (in_nI (by omega) (by decide)) (ot_if (fun c => ?_) (fun c => ?_)))
        · exact ot_i (in_nI (by omega) (by decide)) (ot_i (in_nI (by omega) (by decide)) (ot_i (in_nI (by omega) (by decide)) (ot_s ⟨nI_1 i, hset 1 ⟨fun _ => rfl, fun h => absurd ⟨hi, hsn, c⟩ h⟩⟩)))
        · exact ot_i (in_nI (by omega) (by decide)) (ot_i (in_nI (by omega) (by decide)) (ot_i (in_nI (by omega) (by decide)) (ot_s ⟨nI_1 i, hset 0 ⟨fun h => absurd h.2.2 c, fun _ => rfl⟩⟩)))
    · rintro ⟨v2, al, its⟩ ⟨e1, q⟩
      dsimp only at e1 q
      subst e1
      unfold fn_X5_look_l15
      dsimp only
      exact ot_t (by rw [nI_leI (by omega) (by omega)]; exact Nat.le_refl _) (ot_s q)
  · rintro ⟨v2, al, its⟩ q
    dsimp only at q ⊢
    have key : ∀ x : Nat → Int32, (∀ v, v < n → (it_I n X ak a v → x v = 1) ∧ (¬ it_I n X ak a v → x v = 0)) → z01 n x ∧ cz n x = it_I n X ak a := by
      intro x hx
      refine ⟨fun v hv => ?_, ?_⟩
      · by_cases h : it_I n X ak a v
        · exact Or.inr ((hx v hv).1 h)
        · exact Or.inl ((hx v hv).2 h)
      · funext v
        refine propext ⟨fun h => Classical.byContradiction (fun hn' => ?_), fun h => ⟨h.1, (hx v h.1).1 h⟩⟩
        have h1 := h.2
        rw [(hx v h.1).2 hn'] at h1
        exact absurd h1 (by decide)
    have k1 := key al (fun v hv => ⟨fun h => ((q v hv).1 h).1, fun h => ((q v hv).2 h).1⟩)
    have k2 := key its (fun v hv => ⟨fun h => ((q v hv).1 h).2, fun h => ((q v hv).2 h).2⟩)
    exact ⟨k1.1, k2.1, k1.2, k2.2⟩
/-- look -/
theorem lk_look (hg : gm_R n m aj to mto mfi mnx) (ha : gr_A n m aj fr to) (hs : gs_R n m fr to lb mfr mto mlb) (hh : ∀ l, l < 16 → mhw l = hw l) (hhw : ∀ l, l < 16 → hw l = 0 ∨ hw l = 1 ∨ hw l = 2) (hak : ∀ v, v < n → mas v = ak v) (a : Int32)
    {kn co xl xp xw : Int32} {qu bm ir al re its pf : Nat → Int32} (hw1 : wk_D n (bf_all aj to n) kn co qu bm ir) (hl1 : xl = a → mk_D n m fr to lb hw (it_I n (bf_all aj to n) ak a) xp xw its al pf) :
    ot_T (fn_X5_look (nI n) (nI m) kn co xl xp xw mas mfr mto mlb mhw mfi mnx qu bm ir al re its pf a) (fun r => wk_D n (bf_all aj to n) r.1 r.2.1 r.2.2.2.2.2.1 r.2.2.2.2.2.2.1 r.2.2.2.2.2.2.2.1 ∧ r.2.2.1 = a ∧ mk_D n m fr to lb hw (it_I n (bf_all aj to n) ak a) r.2.2.2.1 r.2.2.2.2.1 r.2.2.2.2.2.2.2.2.2.2.1 r.2.2.2.2.2.2.2.2.1 r.2.2.2.2.2.2.2.2.2.2.2) := by
  have hn := hg.1
  unfold fn_X5_look
  refine ot_if (fun c => ot_s ⟨hw1, c, hl1 c⟩) (fun c => ?_)
  refine ot_b (wm_walk hg hw1) ?_
  rintro ⟨kn1, co1, qu1, bm1, ir1⟩ ⟨e1, w1, w2⟩
  dsimp only at e1 w2 ⊢
  refine ot_b (lp_its (X := bf_all aj to n) hn (fun v hv => ⟨fun h => (w2.2.2.1 v hv h).1, fun h => w2.2.2.2 v hv h⟩) hak a) ?_
  rintro ⟨v2, al1, its1⟩ ⟨i1, i2, i3, i4⟩
  dsimp only at i1 i2 i3 i4 ⊢
  refine ot_b (dv_divide hg ha i1) ?_
  rintro ⟨xn1, qu2, al2, re2, pf2⟩ ⟨d1, d2, d3, d4⟩
  dsimp only at d1 d2 d3 d4 ⊢
  have hS : mp_S n m fr to al2 pf2 xn1 := mp_of (fun v (h : cz n al1 v) => h.1) d1 d2 d3 d4
  have hY : ∀ v, cz n al2 v ↔ rd_Y m fr to (cz n al1) v := fun v => ⟨fun h => ((d4 v).mp h).2, fun h => (d4 v).mpr ⟨((rp_X h).1).1, h⟩⟩
  have hcn := cn_le (P := lo_Y m fr to (cz n al1)) n
  rw [d1]
  refine ot_b (lo_whole (pf := pf2) hn (N := cn_P (lo_Y m fr to (cz n al1)) n) (by omega)) ?_
  rintro ⟨v3, xw1⟩ ⟨L, e2, q0, q1, q2⟩
  dsimp only at e2 ⊢
  have hlo : ∀ u, lo_Y m fr to (cz n al1) u ↔ lo_Y m fr to (cz n al2) u := fun u => lo_Y_Y hY
  have hcn2 : cn_P (lo_Y m fr to (cz n al1)) n = cn_P (lo_Y m fr to (cz n al2)) n := cn_congr (fun v _ => hlo v)
  have hsize : ∀ u, cz n al2 u → ∀ p, pf2 u = nI p → cn_P (fun v => pf2 v = nI p) n = cn_P (fp_C m fr to (cz n al1) u) n := by
    intro u hu p hp
    refine cn_congr (fun v hv => ?_)
    rw [← hp, mp_C hn hS hu hv]
    exact (rd_C_Y hY hu).symm
  have hlg : lg_M n m fr to (cz n al1) L := by
    refine ⟨fun u hu => ?_, ?_⟩
    · have hcu := (hY u).mpr hu
      obtain ⟨w, w1, w2, w3, w4⟩ := (hS.2.2.1 u hcu.1).1 hcu
      have hun := hcu.1
      have hp := cn_lt w2 (show w < n by omega)
      rw [← hsize u hcu _ w4]
      exact q1 _ (by rw [hcn2]; exact hp)
    · rcases q2 with h | ⟨p, p1, p2⟩
      · exact Or.inl h
      · rw [hcn2] at p1
        obtain ⟨w, w1, w2, w3, w4⟩ := mp_hit hS p1
        have hcw : cz n al2 w := (rp_X w2.1).1
        exact Or.inr ⟨w, (hY w).mp hcw, by rw [← hsize w hcw p w4]; exact p2⟩
  have hXI : ∀ v, cz n al2 v → it_I n (bf_all aj to n) ak a v := fun v hv => by rw [← i3]; exact (rp_X ((hY v).mp hv)).1
  refine ot_b (lo_rounds (I := it_I n (bf_all aj to n) ak a) hg ha hs hh hhw (qu := qu2) (re := re2) (d1 ▸ hS) hXI (fun P hP v hv => ?_)) ?_
  · refine (hY v).mpr ?_
    have hPX : ∀ x, P x → cz n al1 x := fun x hx => by rw [i3]; exact hP.2.1 x hx
    obtain ⟨w, w1, w2⟩ := hP.2.2.1 v v hv hv
    exact ⟨w, fp_E_mono hPX w1, rc_mono (fun _ _ he => fp_E_mono hPX he) w2⟩
  · rintro ⟨xn3, qu3, al3, re3, pf3⟩ hE
    exact ot_s ⟨Or.inl rfl, rfl, i2, i4, hE, L, e2, q0, by rw [← i3]; exact hlg⟩
/-- chooseStatesOf, the class's side -/
theorem ch_choose (hg : gc_R n m aj to st gto gout gst) (hak : ∀ v, v < n → gas v = ak v) (a : Int32) {fo : Int32} {li fa lm kc : Nat → Int32} :
    ot_T (fn_X4_chooseStatesOf (nI n) fo gas gto gout gst li fa lm kc a) (fun r => bf_I n (bf_all aj to n) ∧ bf_C n (bf_all aj to n) r.1 r.2.1 r.2.2.1 r.2.2.2.1 ∧ z01 n r.2.2.2.2 ∧ cz n r.2.2.2.2 = it_I n (bf_all aj to n) ak a) := by
  have hn := hg.1
  unfold fn_X4_chooseStatesOf
  refine ot_b (wc_walk hg) ?_
  rintro ⟨fo1, li1, fa1, lm1⟩ ⟨w1, w2⟩
  dsimp only at w2 ⊢
  refine ot_b (P := fun x => ∀ v, v < n → (it_I n (bf_all aj to n) ak a v → x.2 v = 1) ∧ (¬ it_I n (bf_all aj to n) ak a v → x.2 v = 0)) ?_ ?_
  · refine ot_for (fun i x => x.1 = nI i ∧ ∀ v, v < i → (it_I n (bf_all aj to n) ak a v → x.2 v = 1) ∧ (¬ it_I n (bf_all aj to n) ak a v → x.2 v = 0)) n ?_ ?_ 1000000 0 _ (Nat.zero_le _) ⟨nI_0.symm, fun v h => absurd h (Nat.not_lt_zero v)⟩ (by omega)
    · rintro i ⟨v2, kc⟩ hi ⟨e1, q⟩
      dsimp only at e1 q
      subst e1
      unfold fn_X4_chooseStatesOf_l13
      dsimp only
      simp only [cl_nI (show i < 2 ^ 31 by omega), hak i hi, nz_b0, nz_b1]
      have hset : ∀ x : Int32, ((it_I n (bf_all aj to n) ak a i → x = 1) ∧ (¬ it_I n (bf_all aj to n) ak a i → x = 0)) → ∀ v, v < i + 1 → (it_I n (bf_all aj to n) ak a v → upd kc i x v = 1) ∧ (¬ it_I n (bf_all aj to n) ak a v → upd kc i x v = 0) := by
        intro x hx v hv
        by_cases hvi : v = i
        · subst hvi; rw [upd_s]; exact hx
        · rw [upd_n hvi]; exact q v (by omega)
      refine ot_f (fun h => by rw [nI_leI (by omega) (by omega)] at h; omega) (ot_i (in_nI (by omega) (by decide)) ?_)
      cases hsn : (bf_all aj to n).2.2.1 i with
      | false =>
        refine ot_t (w2.2.2.2 i hi hsn) (ot_i (in_nI (by omega) (by decide)) (ot_s ⟨nI_1 i, hset 0 ⟨fun h => ?_, fun _ => rfl⟩⟩))
        have := h.2.1
        rw [hsn] at this; exact absurd this (by decide)
      | true =>
        have hfa := (w2.2.2.1 i hi hsn).1
        have hb : (bf_all aj to n).2.2.2.2 i < 2 ^ 31 := by
          have h1 := bf_I_c w1
          generalize bf_all aj to n = X at w1 h1 hsn
          obtain ⟨c, q, sn, bm, fa9⟩ := X
          have h2 := w1.2.2.2 i hsn
          have h1 : c ≤ n := h1
          show fa9 i < 2 ^ 31
          omega
        refine ot_f (by rw [hfa]; exact nI_m1 hb) (ot_i (in_nI (by omega) (by decide)) (ot_if (fun c => ?_) (fun c => ?_)))
        · exact ot_i (in_nI (by omega) (by decide)) (ot_s ⟨nI_1 i, hset 1 ⟨fun _ => rfl, fun h => absurd ⟨hi, hsn, c⟩ h⟩⟩)
        · exact ot_i (in_nI (by omega) (by decide)) (ot_s ⟨nI_1 i, hset 0 ⟨fun h => absurd h.2.2 c, fun _ => rfl⟩⟩)
    · rintro ⟨v2, kc⟩ ⟨e1, q⟩
      dsimp only at e1 q
      subst e1
      unfold fn_X4_chooseStatesOf_l13
      dsimp only
      exact ot_t (by rw [nI_leI (by omega) (by omega)]; exact Nat.le_refl _) (ot_s q)
  · rintro ⟨v2, kc⟩ q
    dsimp only at q ⊢
    refine ot_s ⟨w1, w2, fun v hv => ?_, ?_⟩
    · by_cases h : it_I n (bf_all aj to n) ak a v
      · exact Or.inr ((q v hv).1 h)
      · exact Or.inl ((q v hv).2 h)
    · funext v
      refine propext ⟨fun h => Classical.byContradiction (fun hn' => ?_), fun h => ⟨h.1, (q v h.1).1 h⟩⟩
      have h1 := h.2
      have h2 : kc v = 0 := (q v h.1).2 hn'
      have h1 : kc v = 1 := h1
      rw [h2] at h1
      exact absurd h1 (by decide)
end LP
