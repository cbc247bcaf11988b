section DW
variable {n m : Nat} {aj : Nat → List Nat} {fr to : Nat → Nat} {mto mfi mnx al : Nat → Int32} {X : Nat → Prop}
/-- what divide writes of v: the number of its knot, by the knots' lowest states -/
def pt_V (m : Nat) (fr to : Nat → Nat) (X : Nat → Prop) (pf : Nat → Int32) (v : Nat) : Prop :=
  (rd_Y m fr to X v → ∃ w, w ≤ v ∧ lo_Y m fr to X w ∧ fp_C m fr to X v w ∧ pf v = nI (cn_P (lo_Y m fr to X) w)) ∧ (¬ rd_Y m fr to X v → pf v = -1)
theorem dv_seek (hn : n ≤ 200) {re : Nat → Int32} (hr : re_R n m fr to X re) {s : Nat} (hs : s < n) (hY : rd_Y m fr to X s) {pf : Nat → Int32} (hpf : ∀ v, v < s → pt_V m fr to X pf v) (h0 : pf s = -1) :
    ot_T (ox_l (fn_X5_divide_l46 (nI s) re) 1000000 (0, pf)) (fun r => (∀ v, v ≠ s → r.2 v = pf v) ∧ ((r.2 s = -1 ∧ ∀ t, t < s → ¬ fp_C m fr to X s t) ∨ (∃ t, t < s ∧ fp_C m fr to X s t ∧ r.2 s = pf t ∧ ∃ k, k < 2 ^ 31 ∧ pf t = nI k))) := by
  have hpt : ∀ t, t < s → (pf t = -1 ∧ ¬ rd_Y m fr to X t) ∨ ((∃ k, k < 2 ^ 31 ∧ pf t = nI k) ∧ rd_Y m fr to X t) := by
    intro t ht
    by_cases h : rd_Y m fr to X t
    · obtain ⟨w, w1, w2, w3, w4⟩ := (hpf t ht).1 h
      have := cn_le (P := lo_Y m fr to X) w
      exact Or.inr ⟨⟨_, by omega, w4⟩, h⟩
    · exact Or.inl ⟨(hpf t ht).2 h, h⟩
  refine ot_for (fun i x => x.1 = nI i ∧ (∀ v, v ≠ s → x.2 v = pf v) ∧ ((x.2 s = -1 ∧ ∀ t, t < i → ¬ fp_C m fr to X s t) ∨ (∃ t, t < s ∧ fp_C m fr to X s t ∧ x.2 s = pf t ∧ ∃ k, k < 2 ^ 31 ∧ pf t = nI k))) s ?_ ?_ 1000000 0 _ (Nat.zero_le _) ⟨nI_0.symm, fun _ _ => rfl, Or.inl ⟨h0, fun t ht => absurd ht (Nat.not_lt_zero t)⟩⟩ (by omega)
  · rintro i ⟨v3, p2⟩ hi ⟨e1, q1, q2⟩
    dsimp only at e1 q1 q2
    subst e1
    unfold fn_X5_divide_l46
    dsimp only
    simp only [cl_nI (show s < 2 ^ 31 by omega), cl_nI (show i < 2 ^ 31 by omega)]
    refine ot_f (fun h => by rw [nI_leI (by omega) (by omega)] at h; omega) (ot_i (in_nI (by omega) (by decide)) ?_)
    rcases q2 with ⟨a1, a2⟩ | ⟨t, t1, t2, t3, k, k1, k2⟩
    · refine ot_t a1 (ot_i (in_nI (by omega) (by decide)) ?_)
      rw [q1 i (by omega)]
      have hno : ¬ fp_C m fr to X s i → (∀ v, v ≠ s → upd p2 s (-1) v = pf v) ∧ ((upd p2 s (-1) s = -1 ∧ ∀ t, t < i + 1 → ¬ fp_C m fr to X s t) ∨ (∃ t, t < s ∧ fp_C m fr to X s t ∧ upd p2 s (-1) s = pf t ∧ ∃ k, k < 2 ^ 31 ∧ pf t = nI k)) := by
        intro hc
        refine ⟨fun v hv => by rw [upd_n hv]; exact q1 v hv, Or.inl ⟨upd_s, fun t ht => ?_⟩⟩
        by_cases hti : t = i
        · rw [hti]; exact hc
        · exact a2 t (by omega)
      rcases hpt i hi with ⟨b1, b2⟩ | ⟨⟨k, b1, b2⟩, b3⟩
      · exact ot_t b1 (ot_i (in_nI (by omega) (by decide)) (ot_s ⟨nI_1 i, hno (fun h => b2 (rd_of_C hY h))⟩))
      · refine ot_f (by rw [b2]; exact nI_m1 b1) ?_
        refine ot_b (tg_is hn hr hs (by omega : i < n)) ?_
        rintro r (⟨rfl, c1⟩ | ⟨rfl, c1⟩)
        · refine ot_f (by decide) (ot_i (in_nI (by omega) (by decide)) (ot_i (in_nI (by omega) (by decide)) (ot_s ⟨nI_1 i, fun v hv => ?_, Or.inr ⟨i, hi, (rd_C hY).mpr c1, ?_, k, b1, b2⟩⟩)))
          · show upd p2 s (pf i) v = pf v
            rw [upd_n hv]; exact q1 v hv
          · show upd p2 s (pf i) s = pf i
            exact upd_s
        · exact ot_t rfl (ot_i (in_nI (by omega) (by decide)) (ot_s ⟨nI_1 i, hno (fun h => c1 ((rd_C hY).mp h))⟩))
    · exact ot_f (by rw [t3, k2]; exact nI_m1 k1) (ot_s ⟨q1, Or.inr ⟨t, t1, t2, t3, k, k1, k2⟩⟩)
  · rintro ⟨v3, p2⟩ ⟨e1, q1, q2⟩
    dsimp only at e1 q1 q2
    subst e1
    unfold fn_X5_divide_l46
    dsimp only
    exact ot_t (by rw [nI_leI (by omega) (by omega)]; exact Nat.le_refl _) (ot_s ⟨q1, q2⟩)
theorem dv_number (hn : n ≤ 200) (hz : z01 n al) {re : Nat → Int32} (hr : re_R n m fr to (cz n al) re) {pf : Nat → Int32} :
    ot_T (ox_l (fn_X5_divide_l8 (nI n) al re) 1000000 (0, 0, pf)) (fun r => r.1 = nI (cn_P (lo_Y m fr to (cz n al)) n) ∧ ∀ v, v < n → pt_V m fr to (cz n al) r.2.2 v) := by
  refine ot_for (fun i x => x.2.1 = nI i ∧ x.1 = nI (cn_P (lo_Y m fr to (cz n al)) i) ∧ ∀ v, v < i → pt_V m fr to (cz n al) x.2.2 v) n ?_ ?_ 1000000 0 _ (Nat.zero_le _) ⟨nI_0.symm, nI_0.symm, fun v h => absurd h (Nat.not_lt_zero v)⟩ (by omega)
  · rintro i ⟨v1, v2, pf⟩ hi ⟨e1, e2, q⟩
    dsimp only at e1 e2 q
    subst e1
    subst e2
    have hcn := cn_le (P := lo_Y m fr to (cz n al)) i
    unfold fn_X5_divide_l8
    dsimp only
    simp only [cl_nI (show i < 2 ^ 31 by omega)]
    refine ot_f (fun h => by rw [nI_leI (by omega) (by omega)] at h; omega) (ot_i (in_nI (by omega) (by decide)) (ot_i (in_nI (by omega) (by decide)) ?_))
    have hq1 : ∀ v, v < i → pt_V m fr to (cz n al) (upd pf i (-1)) v := fun v hv => by
      unfold pt_V
      rw [upd_n (by omega)]
      exact q v hv
    have hno : ¬ rd_Y m fr to (cz n al) i → nI (cn_P (lo_Y m fr to (cz n al)) i) = nI (cn_P (lo_Y m fr to (cz n al)) (i + 1)) ∧ ∀ v, v < i + 1 → pt_V m fr to (cz n al) (upd pf i (-1)) v := by
      intro hY
      refine ⟨by rw [cn_f (fun h => hY h.1)], fun v hv => ?_⟩
      by_cases hvi : v = i
      · subst hvi; exact ⟨fun h => absurd h hY, fun _ => upd_s⟩
      · exact hq1 v (by omega)
    rcases cz_or hz i hi with ⟨z1, z2⟩ | ⟨z1, z2⟩
    · have hY : ¬ rd_Y m fr to (cz n al) i := fun h => z2 (rp_X h).1
      exact ot_t z1 (ot_s ⟨nI_1 i, hno hY⟩)
    · refine ot_f (by rw [z1]; decide) ?_
      refine ot_b (tg_is hn hr hi hi) ?_
      rintro r (⟨rfl, c1⟩ | ⟨rfl, c1⟩)
      · have hY : rd_Y m fr to (cz n al) i := c1.1
        refine ot_f (by decide) ?_
        refine ot_b (dv_seek hn hr hi hY hq1 upd_s) ?_
        rintro ⟨v3, p2⟩ ⟨r1, r2⟩
        dsimp only at r1 r2 ⊢
        refine ot_i (in_nI (by omega) (by decide)) ?_
        have hbelow : ∀ v, v < i → pt_V m fr to (cz n al) p2 v := fun v hv => by
          have := hq1 v hv
          unfold pt_V at this ⊢
          rw [r1 v (by omega)]
          exact this
        rcases r2 with ⟨a1, a2⟩ | ⟨t, t1, t2, t3, k, k1, k2⟩
        · have hlo : lo_Y m fr to (cz n al) i := ⟨hY, a2⟩
          refine ot_t a1 (ot_i (in_nI (by omega) (by decide)) (ot_s ⟨nI_1 i, ?_, fun v hv => ?_⟩))
          · show nI (cn_P (lo_Y m fr to (cz n al)) i) + 1 = _
            rw [nI_1, cn_t hlo]
          · show pt_V m fr to (cz n al) (upd p2 i (nI (cn_P (lo_Y m fr to (cz n al)) i))) v
            by_cases hvi : v = i
            · subst hvi
              exact ⟨fun _ => ⟨v, Nat.le_refl _, hlo, fp_C_refl z2, upd_s⟩, fun h => absurd hY h⟩
            · have := hbelow v (by omega)
              unfold pt_V at this ⊢
              rw [upd_n hvi]
              exact this
        · have hnlo : ¬ lo_Y m fr to (cz n al) i := fun h => h.2 t t1 t2
          refine ot_f (by rw [t3, k2]; exact nI_m1 k1) (ot_s ⟨nI_1 i, by show nI _ = nI _; rw [cn_f hnlo], fun v hv => ?_⟩)
          show pt_V m fr to (cz n al) p2 v
          by_cases hvi : v = i
          · subst hvi
            refine ⟨fun _ => ?_, fun h => absurd hY h⟩
            obtain ⟨w, w1, w2, w3, w4⟩ := (hq1 t t1).1 (rd_of_C hY t2)
            exact ⟨w, by omega, w2, fp_C_trans t2 w3, t3.trans w4⟩
          · exact hbelow v (by omega)
      · have hY : ¬ rd_Y m fr to (cz n al) i := fun h => c1 ⟨h, h⟩
        exact ot_t rfl (ot_s ⟨nI_1 i, hno hY⟩)
  · rintro ⟨v1, v2, pf⟩ ⟨e1, e2, q⟩
    dsimp only at e1 e2 q
    subst e1
    unfold fn_X5_divide_l8
    dsimp only
    exact ot_t (by rw [nI_leI (by omega) (by omega)]; exact Nat.le_refl _) (ot_s ⟨e2, q⟩)
/-- divide: the knots that go round, numbered; the others are dropped -/
theorem dv_divide (hg : gm_R n m aj to mto mfi mnx) (ha : gr_A n m aj fr to) (hz : z01 n al) {qu re pf : Nat → Int32} :
    ot_T (fn_X5_divide (nI n) mto mfi mnx qu al re pf) (fun r => r.1 = nI (cn_P (lo_Y m fr to (cz n al)) n) ∧ (∀ v, v < n → pt_V m fr to (cz n al) r.2.2.2.2 v) ∧ z01 n r.2.2.1 ∧ ∀ v, cz n r.2.2.1 v ↔ (v < n ∧ rd_Y m fr to (cz n al) v)) := by
  have hn := hg.1
  unfold fn_X5_divide
  refine ot_b (cl_close hg ha hz) ?_
  rintro ⟨qu1, re1⟩ hr
  dsimp only at hr ⊢
  refine ot_b (dv_number hn hz hr) ?_
  rintro ⟨v1, v2, p1⟩ ⟨h1, h2⟩
  dsimp only at h1 h2 ⊢
  refine ot_b (P := fun x => ∀ v, v < n → (rd_Y m fr to (cz n al) v → x.2 v = 1) ∧ (¬ rd_Y m fr to (cz n al) v → x.2 v = 0)) ?_ ?_
  · refine ot_for (fun i x => x.1 = nI i ∧ ∀ v, v < i → (rd_Y m fr to (cz n al) v → x.2 v = 1) ∧ (¬ rd_Y m fr to (cz n al) v → x.2 v = 0)) n ?_ ?_ 1000000 0 _ (Nat.zero_le _) ⟨nI_0.symm, fun v h => absurd h (Nat.not_lt_zero v)⟩ (by omega)
    · rintro i ⟨v2, al2⟩ hi ⟨e1, q⟩
      dsimp only at e1 q
      subst e1
      unfold fn_X5_divide_l130
      dsimp only
      simp only [cl_nI (show i < 2 ^ 31 by omega), nz_b0, nz_b1]
      refine ot_f (fun h => by rw [nI_leI (by omega) (by omega)] at h; omega) (ot_i (in_nI (by omega) (by decide)) ?_)
      by_cases hY : rd_Y m fr to (cz n al) i
      · obtain ⟨w, w1, w2, w3, w4⟩ := (h2 i hi).1 hY
        have := cn_le (P := lo_Y m fr to (cz n al)) w
        refine ot_f (by rw [w4]; exact nI_m1 (by omega)) (ot_i (in_nI (by omega) (by decide)) (ot_s ⟨nI_1 i, fun v hv => ?_⟩))
        show (rd_Y m fr to (cz n al) v → upd al2 i 1 v = 1) ∧ (¬ rd_Y m fr to (cz n al) v → upd al2 i 1 v = 0)
        by_cases hvi : v = i
        · subst hvi; rw [upd_s]; exact ⟨fun _ => rfl, fun h => absurd hY h⟩
        · rw [upd_n hvi]; exact q v (by omega)
      · refine ot_t ((h2 i hi).2 hY) (ot_i (in_nI (by omega) (by decide)) (ot_s ⟨nI_1 i, fun v hv => ?_⟩))
        show (rd_Y m fr to (cz n al) v → upd al2 i 0 v = 1) ∧ (¬ rd_Y m fr to (cz n al) v → upd al2 i 0 v = 0)
        by_cases hvi : v = i
        · subst hvi; rw [upd_s]; exact ⟨fun h => absurd h hY, fun _ => rfl⟩
        · rw [upd_n hvi]; exact q v (by omega)
    · rintro ⟨v2, al2⟩ ⟨e1, q⟩
      dsimp only at e1 q
      subst e1
      unfold fn_X5_divide_l130
      dsimp only
      exact ot_t (by rw [nI_leI (by omega) (by omega)]; exact Nat.le_refl _) (ot_s q)
  · rintro ⟨v2, al2⟩ q
    dsimp only at q ⊢
    refine ot_s ⟨h1, h2, fun v hv => ?_, fun v => ?_⟩
    · by_cases hY : rd_Y m fr to (cz n al) v
      · exact Or.inr ((q v hv).1 hY)
      · exact Or.inl ((q v hv).2 hY)
    · constructor
      · rintro ⟨a1, a2⟩
        refine ⟨a1, Classical.byContradiction (fun hY => ?_)⟩
        have a2 : al2 v = 1 := a2
        rw [(q v a1).2 hY] at a2
        exact absurd a2 (by decide)
      · rintro ⟨a1, a2⟩
        exact ⟨a1, (q v a1).1 a2⟩
/-- the knots that go round are the same inside what goes round -/
theorem rd_C_Y {Y : Nat → Prop} (hY : ∀ v, Y v ↔ rd_Y m fr to X v) {u v : Nat} (hu : Y u) : fp_C m fr to X u v ↔ fp_C m fr to Y u v := by
  have hYX : ∀ v, Y v → X v := fun v h => (rp_X ((hY v).mp h)).1
  constructor
  · intro h
    have hu' := (hY u).mp hu
    have hCY : ∀ w, fp_C m fr to X u w → Y w := fun w hw => (hY w).mpr (rd_of_C hu' hw)
    have e : ∀ a b, fp_E m fr to (fp_C m fr to X u) a b → fp_E m fr to Y a b := fun a b he => ⟨hCY a he.1, hCY b he.2.1, he.2.2⟩
    have hr := fp_C_refl (m := m) (fr := fr) (to := to) (hYX u hu)
    exact ⟨hu, hCY v h, rc_mono e (fp_way hr h), rc_mono e (fp_way h hr)⟩
  · rintro ⟨h1, h2, h3, h4⟩
    exact ⟨hYX u h1, hYX v h2, rc_mono (fun _ _ he => fp_E_mono hYX he) h3, rc_mono (fun _ _ he => fp_E_mono hYX he) h4⟩
theorem rd_Y_Y {Y : Nat → Prop} (hY : ∀ v, Y v ↔ rd_Y m fr to X v) {u : Nat} (hu : Y u) : rd_Y m fr to Y u := by
  have hu' := (hY u).mp hu
  obtain ⟨w, w1, w2⟩ := hu'
  have hC : fp_C m fr to X u w := ⟨w1.1, w1.2.1, rc_edge w1, w2⟩
  have hC2 := (rd_C_Y hY hu).mp hC
  exact ⟨w, ⟨hu, hC2.2.1, w1.2.2⟩, hC2.2.2.2⟩
theorem lo_Y_Y {Y : Nat → Prop} (hY : ∀ v, Y v ↔ rd_Y m fr to X v) {u : Nat} : lo_Y m fr to X u ↔ lo_Y m fr to Y u := by
  constructor
  · rintro ⟨h1, h2⟩
    have hu := (hY u).mpr h1
    exact ⟨rd_Y_Y hY hu, fun t ht hc => h2 t ht ((rd_C_Y hY hu).mpr hc)⟩
  · rintro ⟨h1, h2⟩
    have hu : Y u := (rp_X h1).1
    exact ⟨(hY u).mp hu, fun t ht hc => h2 t ht ((rd_C_Y hY hu).mp hc)⟩
end DW
