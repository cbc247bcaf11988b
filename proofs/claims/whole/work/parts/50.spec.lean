/-! PURE: what both sides answer: fair parts, dead ends, live asks -/
/-- the states of fair parts -/
def fu_F (m : Nat) (fr to : Nat → Nat) (lb hw : Nat → Int32) (I : Nat → Prop) : Nat → Prop := fun v => ∃ P, fp_F m fr to lb hw I P ∧ P v
/-- the states of fair part number k -/
def pa_P (m : Nat) (fr to : Nat → Nat) (Y : Nat → Prop) (k : Int32) : Nat → Prop := fun v => ∃ w, lo_Y m fr to Y w ∧ fp_C m fr to Y v w ∧ nI (cn_P (lo_Y m fr to Y) w) = k
section SPC
variable {n m : Nat} {aj : Nat → List Nat} {fr to st : Nat → Nat} {lb hw ak en : Nat → Int32} {gab kc kn sz lw al ins gr pf : Nat → Int32} {I : Nat → Prop} {xf xp : Int32}
theorem kp_fu (hk : kp_E n m fr to lb hw gab I xf kc kn sz lw al ins gr) : cz n kc = fu_F m fr to lb hw I := by
  obtain ⟨k1, k2, k3, k4, -⟩ := hk
  funext v
  exact propext ⟨fun h => ⟨_, fp_end k2 k4 h, fp_C_refl h⟩, fun ⟨P, p1, p2⟩ => k3 P p1 v p2⟩
theorem mp_fu (hk : mp_E n m fr to lb hw I al pf xp) : cz n al = fu_F m fr to lb hw I := by
  obtain ⟨k1, k2, k3, k4⟩ := hk
  funext v
  exact propext ⟨fun h => ⟨_, fp_end k2 k4 h, fp_C_refl h⟩, fun ⟨P, p1, p2⟩ => k3 P p1 v p2⟩
theorem kp_xf (hk : kp_E n m fr to lb hw gab I xf kc kn sz lw al ins gr) : xf = nI (cn_P (lo_Y m fr to (fu_F m fr to lb hw I)) n) := by
  obtain ⟨k1, k2, k3, k4, K, od, f, c, hK, hkn, hxf, hs⟩ := id hk
  rw [hxf, kp_count hk hK hs, kp_fu hk]
theorem mp_xp (hk : mp_E n m fr to lb hw I al pf xp) : xp = nI (cn_P (lo_Y m fr to (fu_F m fr to lb hw I)) n) := by
  rw [← mp_fu hk]; exact hk.1.2.2.2
/-- the model's number of a state's part -/
theorem mp_pf (hn : n ≤ 200) (hk : mp_E n m fr to lb hw I al pf xp) {v : Nat} (hv : v < n) (k : Int32) : (¬ k < 0 ∧ pf v = k) ↔ pa_P m fr to (fu_F m fr to lb hw I) k v := by
  have hS := hk.1
  rw [← mp_fu hk]
  have h1 := hS.2.2.1 v hv
  constructor
  · rintro ⟨h2, h3⟩
    by_cases hc : cz n al v
    · obtain ⟨w, w1, w2, w3, w4⟩ := h1.1 hc
      exact ⟨w, w2, w3, w4.symm.trans h3⟩
    · rw [h1.2 hc] at h3
      rw [← h3] at h2
      exact absurd (by decide) h2
  · rintro ⟨w, w1, w2, w3⟩
    have hc : cz n al v := w2.1
    obtain ⟨x, x1, x2, x3, x4⟩ := h1.1 hc
    have hxw : x = w := lo_one x2 w1 (fp_C_trans (fp_C_symm x3) w2)
    have hcw := cn_le (P := lo_Y m fr to (cz n al)) w
    have hwn : w < n := w2.2.1.1
    rw [hxw] at x4
    refine ⟨?_, x4.trans w3⟩
    rw [← w3]
    exact nI_pos (by omega)
/-- the class's way to a part's state -/
theorem pa_none (hn : n ≤ 200) (hk : kp_E n m fr to lb hw gab I xf kc kn sz lw al ins gr) {k : Int32} (h : ¬ ∃ i, i < n ∧ lo_Y m fr to (cz n kc) i ∧ nI (cn_P (lo_Y m fr to (cz n kc)) i) = k) (j : Int32) : nt_S n (pa_P m fr to (fu_F m fr to lb hw I) k) j (-1) := by
  rw [← kp_fu hk]
  refine Or.inr ⟨rfl, ?_⟩
  rintro ⟨i, i1, ⟨w, w1, w2, w3⟩, i3⟩
  exact h ⟨w, w2.2.1.1, w1, w3⟩
theorem cn_ext {P Q : Nat → Prop} (h : ∀ v, v < n → (P v ↔ Q v)) {j r : Int32} (hs : nt_S n P j r) : nt_S n Q j r := by
  rcases hs with ⟨i, i1, i2, i3, i4⟩ | ⟨h1, h2⟩
  · exact Or.inl ⟨i, i1, (h i i1).mp i2, by rw [← cn_congr (P := P) (fun v hv => h v (by omega))]; exact i3, i4⟩
  · refine Or.inr ⟨h1, ?_⟩
    rintro ⟨i, i1, i2, i3⟩
    exact h2 ⟨i, i1, (h i i1).mpr i2, by rw [cn_congr (P := P) (fun v hv => h v (by omega))]; exact i3⟩
theorem pa_some (hn : n ≤ 200) (hk : kp_E n m fr to lb hw gab I xf kc kn sz lw al ins gr) {k x : Int32} {i : Nat} (hi : i < n) (hlo : lo_Y m fr to (cz n kc) i) (hik : nI (cn_P (lo_Y m fr to (cz n kc)) i) = k) (hx : x = kn i) {j r : Int32} (hr : nt_S n (fun v => cz n kc v ∧ kn v = x) j r) : nt_S n (pa_P m fr to (fu_F m fr to lb hw I) k) j r := by
  obtain ⟨k1, k2, k3, k4, K, od, f, c, hK, hkn, hxf, hs⟩ := id hk
  rw [← kp_fu hk]
  refine cn_ext (fun v hv => ?_) hr
  have hci : cz n kc i := (rp_X hlo.1).1
  have hKn : ∀ u, cz n kc u → ∃ q, K u = q + 1 ∧ kn u = nI q ∧ q < 200 := by
    intro u hu
    have h1 := (hK.1 u hu.1).mpr hu
    have h2 := hK.2.1 u hu.1
    have h3 := hK.2.2.2.2.2.2.2.2.1
    obtain ⟨q, hq⟩ : ∃ q, K u = q + 1 := ⟨K u - 1, by omega⟩
    exact ⟨q, hq, by rw [hkn u hu.1]; simp only [h1, if_false]; rw [hq]; rfl, by omega⟩
  obtain ⟨qi, a1, a2, a3⟩ := hKn i hci
  constructor
  · rintro ⟨h1, h2⟩
    obtain ⟨q, b1, b2, b3⟩ := hKn v h1
    rw [hx, a2, b2, nI_eq (by omega) (by omega)] at h2
    exact ⟨i, hlo, (hK.2.2.1 v i h1 hci).mp (by omega), hik⟩
  · rintro ⟨w, w1, w2, w3⟩
    have hcw := cn_le (P := lo_Y m fr to (cz n kc)) w
    have hci' := cn_le (P := lo_Y m fr to (cz n kc)) i
    have hwn : w < n := w2.2.1.1
    have hwi : w = i := cn_inj w1 hlo ((nI_eq (by omega) (by omega)).mp (w3.trans hik.symm))
    rw [hwi] at w2
    have h1 : cz n kc v := w2.1
    obtain ⟨q, b1, b2, b3⟩ := hKn v h1
    have := (hK.2.2.1 v i h1 hci).mpr w2
    have hqq : q = qi := by omega
    exact ⟨h1, by rw [hx, a2, b2, hqq]⟩
theorem kn_ne (hn : n ≤ 200) (hk : kp_E n m fr to lb hw gab I xf kc kn sz lw al ins gr) {i : Nat} (hlo : lo_Y m fr to (cz n kc) i) : ¬ kn i = -1 := by
  obtain ⟨k1, k2, k3, k4, K, od, f, c, hK, hkn, hxf, hs⟩ := id hk
  have hci : cz n kc i := (rp_X hlo.1).1
  have h1 := (hK.1 i hci.1).mpr hci
  have h2 := hK.2.1 i hci.1
  have h3 := hK.2.2.2.2.2.2.2.2.1
  rw [hkn i hci.1]
  simp only [h1, if_false]
  exact nI_m1 (by omega)
/-- the model's loops over states -/
theorem nt_neg {ρ : Type} {P : Nat → Prop} (hn : n ≤ 200) {k : Int32} (hk : k < 0) {val : Nat → ρ} {f : Int32 × Int32 → Option ((Int32 × Int32) ⊕ ((Int32 × Int32) ⊕ ρ))} (hf : ∃ y, f (0, 0) = some (.inr (.inl y))) : ot_T (ox_l f 1000000 (0, 0)) (nt_Q n P k val) := by
  obtain ⟨y, hy⟩ := hf
  refine ⟨.inl y, by simp only [ox_l, hy], ?_⟩
  rintro ⟨i, i1, i2, i3⟩
  have hc := cn_le (P := P) i
  rw [← i3] at hk
  exact nI_pos (by omega) hk
theorem de_M {mto mfi mnx men its : Nat → Int32} (hg : gm_R n m aj to mto mfi mnx) (hen : ∀ v, v < n → men v = en v) (hz : z01 n its) (k : Int32) (t x1 x2 x3 x4 x5 : Int32) (y1 y2 y3 y4 y5 y7 : Nat → Int32) :
    ot_T (ox_l (fn_X5_dead_l20 (nI n) k mfi men its t x1 x2 x3 x4 x5 y1 y2 y3 y4 y5 y7) 1000000 (0, 0)) (nt_Q n (dd_P aj en (cz n its)) k (fun i => (nI i, t, x1, x2, x3, x4, x5, y1, y2, y3, y4, y5, its, y7))) := by
  have hn := hg.1
  by_cases hk : k < 0
  · refine nt_neg hn hk ?_
    unfold fn_X5_dead_l20
    dsimp only
    by_cases h0 : nI n ≤ 0
    · exact ⟨_, if_pos h0⟩
    · exact ⟨_, by rw [if_neg h0, if_pos hk]⟩
  refine nt_loop hn (dd_P aj en (cz n its)) k _ (fun c => ?_) (fun c i hi hP => ?_) (fun c i hc hi hP hck => ?_) (fun c i hc hi hP hck => ?_)
  · unfold fn_X5_dead_l20
    dsimp only
    exact ot_t (by rw [nI_leI (by omega) (by omega)]; exact Nat.le_refl _) (ot_s ⟨_, rfl⟩)
  · unfold fn_X5_dead_l20
    dsimp only
    refine ot_f (fun h => by rw [nI_leI (by omega) (by omega)] at h; omega) (ot_f hk (ot_b (is_dead hg hen hz hi) ?_))
    rintro r (⟨r1, r2⟩ | ⟨r1, r2⟩)
    · exact absurd r2 hP
    · exact ot_t r1 (ot_s (by rw [nI_1]))
  · unfold fn_X5_dead_l20
    dsimp only
    refine ot_f (fun h => by rw [nI_leI (by omega) (by omega)] at h; omega) (ot_f hk (ot_b (is_dead hg hen hz hi) ?_))
    rintro r (⟨r1, r2⟩ | ⟨r1, r2⟩)
    · exact ot_f (by rw [r1]; decide) (ot_t hck (ot_s rfl))
    · exact absurd hP r2
  · unfold fn_X5_dead_l20
    dsimp only
    refine ot_f (fun h => by rw [nI_leI (by omega) (by omega)] at h; omega) (ot_f hk (ot_b (is_dead hg hen hz hi) ?_))
    rintro r (⟨r1, r2⟩ | ⟨r1, r2⟩)
    · exact ot_f (by rw [r1]; decide) (ot_f hck (ot_s (by rw [nI_1, nI_1])))
    · exact absurd hP r2
theorem pa_M (hn : n ≤ 200) (hk : mp_E n m fr to lb hw I al pf xp) (k j : Int32) (t x1 x2 x3 x4 x5 : Int32) (y1 y2 y3 y4 y5 y6 : Nat → Int32) :
    ot_T (ox_l (fn_X5_part_l21 (nI n) k j pf t x1 x2 x3 x4 x5 y1 y2 y3 y4 y5 y6) 1000000 (0, 0)) (nt_Q n (pa_P m fr to (fu_F m fr to lb hw I) k) j (fun i => (nI i, t, x1, x2, x3, x4, x5, y1, y2, y3, y4, y5, y6, pf))) := by
  by_cases hj : j < 0
  · refine nt_neg hn hj ?_
    unfold fn_X5_part_l21
    dsimp only
    by_cases h0 : nI n ≤ 0
    · exact ⟨_, if_pos h0⟩
    · by_cases h1 : k < 0
      · exact ⟨_, by rw [if_neg h0, if_pos h1]⟩
      · exact ⟨_, by rw [if_neg h0, if_neg h1, if_pos hj]⟩
  by_cases hk0 : k < 0
  · refine ⟨.inl (0, 0), ?_, ?_⟩
    · unfold fn_X5_part_l21
      by_cases h0 : nI n ≤ 0
      · simp only [ox_l, h0, if_true]
      · simp only [ox_l, h0, if_false, hk0, if_true]
    · rintro ⟨i, i1, ⟨w, w1, w2, w3⟩, i3⟩
      have hcw := cn_le (P := lo_Y m fr to (fu_F m fr to lb hw I)) w
      have hwn : w < n := by
        have h9 := w2.2.1
        rw [← mp_fu hk] at h9
        exact h9.1
      rw [← w3] at hk0
      exact nI_pos (by omega) hk0
  refine nt_loop hn _ j _ (fun c => ?_) (fun c i hi hP => ?_) (fun c i hc hi hP hck => ?_) (fun c i hc hi hP hck => ?_)
  · unfold fn_X5_part_l21
    dsimp only
    exact ot_t (by rw [nI_leI (by omega) (by omega)]; exact Nat.le_refl _) (ot_s ⟨_, rfl⟩)
  · unfold fn_X5_part_l21
    dsimp only
    rw [cl_nI (show i < 2 ^ 31 by omega)]
    refine ot_f (fun h => by rw [nI_leI (by omega) (by omega)] at h; omega) (ot_f hk0 (ot_f hj (ot_i (in_nI (by omega) (by decide)) (ot_f (fun h => hP ((mp_pf hn hk hi k).mp ⟨hk0, h⟩)) (ot_s (by rw [nI_1]))))))
  · unfold fn_X5_part_l21
    dsimp only
    rw [cl_nI (show i < 2 ^ 31 by omega)]
    refine ot_f (fun h => by rw [nI_leI (by omega) (by omega)] at h; omega) (ot_f hk0 (ot_f hj (ot_i (in_nI (by omega) (by decide)) (ot_t ((mp_pf hn hk hi k).mpr hP).2 (ot_t hck (ot_s rfl))))))
  · unfold fn_X5_part_l21
    dsimp only
    rw [cl_nI (show i < 2 ^ 31 by omega)]
    refine ot_f (fun h => by rw [nI_leI (by omega) (by omega)] at h; omega) (ot_f hk0 (ot_f hj (ot_i (in_nI (by omega) (by decide)) (ot_t ((mp_pf hn hk hi k).mpr hP).2 (ot_f hck (ot_s (by rw [nI_1, nI_1])))))))
/-- live -/
def lv_P (n m : Nat) (aj : Nat → List Nat) (fr to : Nat → Nat) (lb hw en : Nat → Int32) (I : Nat → Prop) : Prop := cn_P (lo_Y m fr to (fu_F m fr to lb hw I)) n = 0 ∧ ∀ v, v < n → ¬ dd_P aj en I v
theorem il_M {mto mfi mnx men its : Nat → Int32} (hg : gm_R n m aj to mto mfi mnx) (hen : ∀ v, v < n → men v = en v) (hz : z01 n its) {t0 : Int32} (ht : t0 = 0 ∨ t0 = 1) :
    ot_T (ox_l (fn_X5_isLive_l20 (nI n) mfi men its) 1000000 (t0, 0)) (fun r => (r.1 = 1 ∧ t0 = 1 ∧ ∀ v, v < n → ¬ dd_P aj en (cz n its) v) ∨ (r.1 = 0 ∧ ¬ (t0 = 1 ∧ ∀ v, v < n → ¬ dd_P aj en (cz n its) v))) := by
  have hn := hg.1
  refine ot_for (fun i x => x.2 = nI i ∧ ((x.1 = 1 ∧ t0 = 1 ∧ ∀ v, v < i → ¬ dd_P aj en (cz n its) v) ∨ (x.1 = 0 ∧ ¬ (t0 = 1 ∧ ∀ v, v < n → ¬ dd_P aj en (cz n its) v)))) n ?_ ?_ 1000000 0 _ (Nat.zero_le _) ⟨nI_0.symm, ?_⟩ (by omega)
  · rintro i ⟨v2, v3⟩ hi ⟨e1, q⟩
    dsimp only at e1 q
    subst e1
    unfold fn_X5_isLive_l20
    dsimp only
    refine ot_f (fun h => by rw [nI_leI (by omega) (by omega)] at h; omega) ?_
    rcases q with ⟨q1, q2, q3⟩ | ⟨q1, q2⟩
    · refine ot_f (by rw [q1]; decide) (ot_b (is_dead hg hen hz hi) ?_)
      rintro r (⟨r1, r2⟩ | ⟨r1, r2⟩)
      · exact ot_f (by rw [r1]; decide) (ot_s ⟨nI_1 i, Or.inr ⟨rfl, fun h => h.2 i hi r2⟩⟩)
      · refine ot_t r1 (ot_s ⟨nI_1 i, Or.inl ⟨rfl, q2, fun v hv => ?_⟩⟩)
        by_cases hvi : v = i
        · rw [hvi]; exact r2
        · exact q3 v (by omega)
    · exact ot_t q1 (ot_s (Or.inr ⟨q1, q2⟩))
  · rintro ⟨v2, v3⟩ ⟨e1, q⟩
    dsimp only at e1 q
    subst e1
    unfold fn_X5_isLive_l20
    dsimp only
    exact ot_t (by rw [nI_leI (by omega) (by omega)]; exact Nat.le_refl _) (ot_s q)
  · rcases ht with rfl | rfl
    · exact Or.inr ⟨rfl, fun h => absurd h.1 (by decide)⟩
    · exact Or.inl ⟨rfl, rfl, fun v h => absurd h (Nat.not_lt_zero v)⟩
end SPC
