/-! PURE: the model's row; dead ends on both sides; the model's part -/
theorem nI_sub {a b : Nat} (h : b ≤ a) : nI a - nI b = nI (a - b) := by
  have h1 : nI a = nI (a - b) + nI b := by rw [nI_add, Nat.sub_add_cancel h]
  rw [h1, Int32.add_sub_cancel]
section RX
variable {n m : Nat} {aj : Nat → List Nat} {fr to st : Nat → Nat}
theorem rw_L {X : bf_X} (hn : n ≤ 200) (hm : m ≤ 600) (hI : bf_I n X) (hT : bf_T m fr to X) {mfr : Nat → Int32} (hfr : ∀ j, j < m → mfr j = nI (fr j)) {bm row : Nat → Int32} (hbm : ∀ v, v < n → X.2.2.1 v = true → bm v = X.2.2.2.1 v) {v : Nat} (hsn : X.2.2.1 v = true) :
    ot_T (ox_l (fn_X5_row_l50 bm mfr) 1000000 (0, nI v, row)) (fun r => r.1 = nI (X.2.2.2.2 v) ∧ ∀ k, k < X.2.2.2.2 v → r.2.2 k = X.2.2.2.1 (pd_N fr X.2.2.2.1 v k)) := by
  have hlt : ∀ u, X.2.2.1 u = true → u < n ∧ X.2.2.2.2 u < n := by
    intro u hu
    have hc := bf_I_c hI
    obtain ⟨c, q, sn, bm, f9⟩ := X
    obtain ⟨k, k1, k2⟩ := (hI.1 u).mp hu
    have h1 := hI.2.1 k k1
    have h2 := hI.2.2.2 u hu
    have hc : c ≤ n := hc
    exact ⟨by rw [← k2]; exact h1, by show f9 u < n; omega⟩
  have hD := (hlt v hsn).2
  refine ot_for (fun k x => x.1 = nI k ∧ x.2.1 = nI (pd_N fr X.2.2.2.1 v k) ∧ ∀ q, q < k → x.2.2 q = X.2.2.2.1 (pd_N fr X.2.2.2.1 v q)) (X.2.2.2.2 v) ?_ ?_ 1000000 0 _ (Nat.zero_le _) ⟨nI_0.symm, rfl, fun q h => absurd h (Nat.not_lt_zero q)⟩ (by omega)
  · rintro k ⟨v3, v4, row⟩ hk ⟨e1, e2, q⟩
    dsimp only at e1 e2 q
    subst e1
    subst e2
    have hk2 : k < 200 := by omega
    obtain ⟨p1, p2, p3⟩ := pd_at hm hT hsn k (by omega)
    obtain ⟨j, j1, j2, j3⟩ := p3 hk
    have hp := (hlt _ p1).1
    clear p3
    have hj : j < 600 := by omega
    have hp2 : pd_N fr X.2.2.2.1 v k < 200 := by omega
    unfold fn_X5_row_l50
    dsimp only
    rw [cl_nI (show pd_N fr X.2.2.2.1 v k < 2 ^ 31 by omega), hbm _ hp p1, j2, cl_nI (show j < 2 ^ 31 by omega), hfr j j1, cl_nI (show k < 2 ^ 31 by omega)]
    refine ot_i (in_nI hp2 (by decide)) (ot_f (nI_m1 (by omega)) (ot_i (in_nI hp2 (by decide)) (ot_i (in_nI hk2 (by decide)) (ot_i (in_nI hp2 (by decide)) (ot_i (in_nI hj (by decide)) (ot_s ⟨nI_1 k, by rw [j3], fun x hx => ?_⟩))))))
    dsimp only
    by_cases hxk : x = k
    · subst hxk; rw [upd_s, j2]
    · rw [upd_n hxk]; exact q x (by omega)
  · rintro ⟨v3, v4, row⟩ ⟨e1, e2, q⟩
    dsimp only at e1 e2 q
    subst e1
    subst e2
    obtain ⟨p1, p2, p3⟩ := pd_at hm hT hsn (X.2.2.2.2 v) (Nat.le_refl _)
    have hp := (hlt _ p1).1
    have hp2 : pd_N fr X.2.2.2.1 v (X.2.2.2.2 v) < 200 := by omega
    unfold fn_X5_row_l50
    dsimp only
    rw [cl_nI (show pd_N fr X.2.2.2.1 v (X.2.2.2.2 v) < 2 ^ 31 by omega), hbm _ hp p1]
    refine ot_i (in_nI hp2 (by decide)) (ot_t ?_ (ot_s ⟨rfl, q⟩))
    rcases hT _ p1 with ⟨h1, h2⟩ | ⟨j, h1, h2, h3, h4, h5⟩
    · exact h1
    · omega
/-- row's second half: the way back, and the answer -/
theorem rw_M {mto mfi mnx : Nat → Int32} (hg : gm_R n m aj to mto mfi mnx) (ha : gr_A n m aj fr to) {mfr : Nat → Int32} (hfr : ∀ j, j < m → mfr j = nI (fr j)) {kn co : Int32} {qu bm re row : Nat → Int32} (hk : wk_D n (bf_all aj to n) kn co qu bm re) {v i : Nat} (hv : v < n) (hi : i < 2 ^ 31) :
    ot_T (fn_X5_row_j18 (nI n) kn co mto mfi mnx qu bm re (nI v) row mfr (nI i) 0) (fun r => r.1 = rw_V fr (bf_all aj to n) v i ∧ r.2.1 = 0 ∧ wk_D n (bf_all aj to n) r.2.2.1 r.2.2.2.1 r.2.2.2.2.1 r.2.2.2.2.2.1 r.2.2.2.2.2.2.2) := by
  have hn := hg.1
  have hm := hg.2.1
  have hT := bf_T_all (aj := aj) ha
  unfold fn_X5_row_j18
  dsimp only
  refine ot_t (by decide) (ot_b (wm_walk hg hk) ?_)
  rintro ⟨kn, co, qu, bm, re⟩ ⟨w1, w2, w3⟩
  dsimp only at w1 w2 w3 ⊢
  have hD : ∀ u, (bf_all aj to n).2.2.1 u = true → (bf_all aj to n).2.2.2.2 u < n := by
    intro u hu
    have hc := bf_I_c w2
    generalize bf_all aj to n = X at w2 hu hc ⊢
    obtain ⟨c, q, sn, bm, f9⟩ := X
    have h2 := w2.2.2.2 u hu
    have hc : c ≤ n := hc
    show f9 u < n
    omega
  rw [cl_nI (show v < 2 ^ 31 by omega)]
  refine ot_i (in_nI (by omega) (by decide)) ?_
  cases hsn : (bf_all aj to n).2.2.1 v with
  | false =>
    refine ot_t (w3.2.2.2 v hv hsn) (ot_s ⟨?_, rfl, Or.inr ⟨w1, w2, w3⟩⟩)
    unfold rw_V
    rw [if_neg (fun h => by rw [hsn] at h; exact absurd h.1 (by decide))]
  | true =>
    have hDv := hD v hsn
    refine ot_f (by rw [(w3.2.2.1 v hv hsn).1]; decide) (ot_b (rw_L hn hm w2 hT hfr (fun u h1 h2 => (w3.2.2.1 u h1 h2).2) hsn) ?_)
    rintro ⟨v3, v4, row⟩ ⟨e1, e2⟩
    dsimp only at e1 e2 ⊢
    subst e1
    by_cases hid : i < (bf_all aj to n).2.2.2.2 v
    · refine ot_f (by rw [nI_leI (by omega) hi]; omega) ?_
      have he : (nI ((bf_all aj to n).2.2.2.2 v) - 1) - nI i = nI ((bf_all aj to n).2.2.2.2 v - 1 - i) := by
        rw [show (1 : Int32) = nI 1 from rfl, nI_sub (by omega), nI_sub (by omega)]
      rw [he, cl_nI (by omega)]
      refine ot_i (in_nI (by omega) (by decide)) (ot_s ⟨?_, rfl, Or.inr ⟨w1, w2, w3⟩⟩)
      dsimp only
      rw [e2 _ (by omega)]
      unfold rw_V
      rw [if_pos ⟨hsn, hid⟩]
    · refine ot_t (by rw [nI_leI (by omega) hi]; omega) (ot_s ⟨?_, rfl, Or.inr ⟨w1, w2, w3⟩⟩)
      unfold rw_V
      rw [if_neg (fun h => hid h.2)]
/-- a dead end of a set -/
def dd_P (aj : Nat → List Nat) (en : Nat → Int32) (I : Nat → Prop) : Nat → Prop := fun v => I v ∧ en v = 0 ∧ aj v = []
/-- number k of a kind -/
def nt_S (n : Nat) (P : Nat → Prop) (k r : Int32) : Prop := (∃ i, i < n ∧ P i ∧ nI (cn_P P i) = k ∧ r = nI i) ∨ (r = -1 ∧ ¬ ∃ i, i < n ∧ P i ∧ nI (cn_P P i) = k)
theorem nt_S_one {P : Nat → Prop} {k r r' : Int32} (hn : n ≤ 200) (h : nt_S n P k r) (h' : nt_S n P k r') : r = r' := by
  rcases h with ⟨i, i1, i2, i3, i4⟩ | ⟨h1, h2⟩
  · rcases h' with ⟨j, j1, j2, j3, j4⟩ | ⟨h1', h2'⟩
    · have hci := cn_le (P := P) i
      have hcj := cn_le (P := P) j
      have := cn_inj i2 j2 ((nI_eq (by omega) (by omega)).mp (i3.trans j3.symm))
      rw [i4, j4, this]
    · exact absurd ⟨i, i1, i2, i3⟩ h2'
  · rcases h' with ⟨j, j1, j2, j3, j4⟩ | ⟨h1', h2'⟩
    · exact absurd ⟨j, j1, j2, j3⟩ h2
    · rw [h1, h1']
theorem gc_empty {gto gout gst : Nat → Int32} (hg : gc_R n m aj to st gto gout gst) {v : Nat} (hv : v < n) : gst v = gst (v + 1) ↔ aj v = [] := by
  obtain ⟨h1, h2, h3, h4, h5, h6, h7, h8, h9⟩ := id hg
  have ha := gc_le hg (show v ≤ n by omega)
  have hb := gc_le hg (show v + 1 ≤ n by omega)
  rw [h5 v (by omega), h5 (v + 1) (by omega), nI_eq (by omega) (by omega), h6 v hv]
  constructor
  · intro h
    exact List.eq_nil_of_length_eq_zero (by omega)
  · intro h
    rw [h]; rfl
theorem gm_empty {mto mfi mnx : Nat → Int32} (hg : gm_R n m aj to mto mfi mnx) {v : Nat} (hv : v < n) : mfi v = -1 ↔ aj v = [] := by
  have h := hg.2.2.1 v hv
  have hm := hg.2.1
  have hj := hg.2.2.2.2.1 v
  cases hl : aj v with
  | nil => rw [hl] at h; exact ⟨fun _ => rfl, fun _ => h⟩
  | cons j l =>
    rw [hl] at h
    have := hj j hv (by rw [hl]; exact List.mem_cons_self ..)
    exact ⟨fun e => absurd (h.1.symm.trans e) (nI_m1 (by omega)), fun e => absurd e (by simp)⟩
theorem is_stuck {gto gout gst gie : Nat → Int32} {en : Nat → Int32} (hg : gc_R n m aj to st gto gout gst) (hen : ∀ v, v < n → gie v = en v) {v : Nat} (hv : v < n) :
    ot_T (fn_X0_isStuck gie gst (nI v)) (fun r => (r = 1 ∧ en v = 0 ∧ aj v = []) ∨ (r = 0 ∧ ¬ (en v = 0 ∧ aj v = []))) := by
  have hn := hg.1
  unfold fn_X0_isStuck
  rw [nI_1, cl_nI (show v < 2 ^ 31 by omega), cl_nI (show v + 1 < 2 ^ 31 by omega), hen v hv]
  refine ot_i (in_nI (by omega) (by decide)) (ot_if (fun c => ?_) (fun c => ot_s (Or.inr ⟨rfl, fun h => c h.1⟩)))
  refine ot_i (in_nI (by omega) (by decide)) (ot_i (in_nI (by omega) (by decide)) (ot_if (fun d => ?_) (fun d => ?_)))
  · exact ot_s (Or.inl ⟨rfl, c, (gc_empty hg hv).mp d⟩)
  · exact ot_s (Or.inr ⟨rfl, fun h => d ((gc_empty hg hv).mpr h.2)⟩)
theorem de_C {gto gout gst gie kc : Nat → Int32} {en : Nat → Int32} (hg : gc_R n m aj to st gto gout gst) (hen : ∀ v, v < n → gie v = en v) (hz : z01 n kc) (k : Int32) :
    ot_T (fn_X4_deadEnd (nI n) gie gst kc k) (nt_S n (dd_P aj en (cz n kc)) k) := by
  have hn := hg.1
  unfold fn_X4_deadEnd
  refine ot_b (nt_loop hn (dd_P aj en (cz n kc)) k (fun i => nI i) (fun c => ?_) (fun c i hi hP => ?_) (fun c i hc hi hP hck => ?_) (fun c i hc hi hP hck => ?_)) ?_
  · unfold fn_X4_deadEnd_l4
    dsimp only
    exact ot_t (by rw [nI_leI (by omega) (by omega)]; exact Nat.le_refl _) (ot_s ⟨_, rfl⟩)
  · unfold fn_X4_deadEnd_l4
    dsimp only
    simp only [cl_nI (show i < 2 ^ 31 by omega)]
    refine ot_f (fun h => by rw [nI_leI (by omega) (by omega)] at h; omega) (ot_i (in_nI (by omega) (by decide)) ?_)
    rcases cz_or hz i hi with ⟨z1, z2⟩ | ⟨z1, z2⟩
    · exact ot_t z1 (ot_s (by rw [nI_1]))
    · refine ot_f (by rw [z1]; decide) (ot_b (is_stuck hg hen hi) ?_)
      rintro r (⟨r1, r2, r3⟩ | ⟨r1, r2⟩)
      · exact absurd ⟨z2, r2, r3⟩ hP
      · exact ot_t r1 (ot_s (by rw [nI_1]))
  · unfold fn_X4_deadEnd_l4
    dsimp only
    simp only [cl_nI (show i < 2 ^ 31 by omega)]
    refine ot_f (fun h => by rw [nI_leI (by omega) (by omega)] at h; omega) (ot_i (in_nI (by omega) (by decide)) (ot_f (by rw [hP.1.2]; decide) (ot_b (is_stuck hg hen hi) ?_)))
    rintro r (⟨r1, r2, r3⟩ | ⟨r1, r2⟩)
    · exact ot_f (by rw [r1]; decide) (ot_t hck (ot_s rfl))
    · exact absurd hP.2 r2
  · unfold fn_X4_deadEnd_l4
    dsimp only
    simp only [cl_nI (show i < 2 ^ 31 by omega)]
    refine ot_f (fun h => by rw [nI_leI (by omega) (by omega)] at h; omega) (ot_i (in_nI (by omega) (by decide)) (ot_f (by rw [hP.1.2]; decide) (ot_b (is_stuck hg hen hi) ?_)))
    rintro r (⟨r1, r2, r3⟩ | ⟨r1, r2⟩)
    · exact ot_f (by rw [r1]; decide) (ot_f hck (ot_s (by rw [nI_1, nI_1])))
    · exact absurd hP.2 r2
  · rintro (⟨a, b⟩ | r) h
    · exact ot_s (Or.inr ⟨rfl, h⟩)
    · exact ot_s (Or.inl h)
theorem is_dead {mto mfi mnx men its : Nat → Int32} {en : Nat → Int32} (hg : gm_R n m aj to mto mfi mnx) (hen : ∀ v, v < n → men v = en v) (hz : z01 n its) {v : Nat} (hv : v < n) :
    ot_T (fn_X5_isDead mfi men its (nI v)) (fun r => (r = 1 ∧ dd_P aj en (cz n its) v) ∨ (r = 0 ∧ ¬ dd_P aj en (cz n its) v)) := by
  have hn := hg.1
  unfold fn_X5_isDead fn_X5_begins
  rw [cl_nI (show v < 2 ^ 31 by omega), hen v hv]
  refine ot_i (in_nI (by omega) (by decide)) ?_
  rcases cz_or hz v hv with ⟨z1, z2⟩ | ⟨z1, z2⟩
  · exact ot_t z1 (ot_s (Or.inr ⟨rfl, fun h => z2 h.1⟩))
  · refine ot_f (by rw [z1]; decide) (ot_i (in_nI (by omega) (by decide)) (ot_if (fun c => ?_) (fun c => ot_s (Or.inr ⟨rfl, fun h => c h.2.1⟩))))
    refine ot_b (P := fun r => (r = 0 ∧ aj v = []) ∨ (r = 1 ∧ ¬ aj v = [])) (ot_i (in_nI (by omega) (by decide)) (ot_if (fun d => ot_s (Or.inl ⟨rfl, (gm_empty hg hv).mp d⟩)) (fun d => ot_s (Or.inr ⟨rfl, fun e => d ((gm_empty hg hv).mpr e)⟩)))) ?_
    rintro r (⟨r1, r2⟩ | ⟨r1, r2⟩)
    · exact ot_t r1 (ot_s (Or.inl ⟨rfl, z2, c, r2⟩))
    · exact ot_f (by rw [r1]; decide) (ot_s (Or.inr ⟨rfl, fun h => r2 h.2.2⟩))
end RX
