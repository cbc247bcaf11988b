/-! PURE: the model's look -/
theorem cn_hit {P : Nat → Prop} : ∀ {n p : Nat}, p < cn_P P n → ∃ w, w < n ∧ P w ∧ cn_P P w = p := by
  intro n
  induction n with
  | zero => intro p h; exact absurd h (Nat.not_lt_zero p)
  | succ n ih =>
    intro p h
    by_cases hP : P n
    · rw [cn_t hP] at h
      by_cases hp : p = cn_P P n
      · exact ⟨n, by omega, hP, hp.symm⟩
      · obtain ⟨w, w1, w2, w3⟩ := ih (p := p) (by omega)
        exact ⟨w, by omega, w2, w3⟩
    · rw [cn_f hP] at h
      obtain ⟨w, w1, w2, w3⟩ := ih h
      exact ⟨w, by omega, w2, w3⟩
theorem cn_zero {P : Nat → Prop} {n : Nat} (h : cn_P P n = 0) : ∀ v, v < n → ¬ P v := fun v hv hp => by
  have := cn_lt hp hv
  omega
section LO
variable {n m : Nat} {aj : Nat → List Nat} {fr to : Nat → Nat} {lb hw : Nat → Int32} {mfr mto mlb mfi mnx mhw al pf : Nat → Int32} {I : Nat → Prop}
theorem mp_hit {xn : Int32} (h : mp_S n m fr to al pf xn) {p : Nat} (hp : p < cn_P (lo_Y m fr to (cz n al)) n) : ∃ w, w < n ∧ lo_Y m fr to (cz n al) w ∧ cn_P (lo_Y m fr to (cz n al)) w = p ∧ pf w = nI p := by
  obtain ⟨w, w1, w2, w3⟩ := cn_hit hp
  have hcw : cz n al w := (rp_X w2.1).1
  obtain ⟨x, x1, x2, x3, x4⟩ := (h.2.2.1 w w1).1 hcw
  have e : w = x := lo_one w2 x2 x3
  exact ⟨w, w1, w2, w3, by rw [x4, ← e, w3]⟩
theorem tk_U {xn : Int32} (hn : n ≤ 200) (ha : gr_A n m aj fr to) (hhw : ∀ l, l < 16 → hw l = 0 ∨ hw l = 1 ∨ hw l = 2) (h : mp_S n m fr to al pf xn) {v l p : Nat} (hv : cz n al v) (hl : l < 16) (hp : pf v = nI p) (hT : tk_T n m fr to lb hw pf l p) (hab : fp_ab m fr lb l v) : fp_U m fr to lb hw (cz n al) v := by
  have hC : ∀ u, u < n → (pf u = nI p ↔ fp_C m fr to (cz n al) v u) := fun u hu => by rw [← hp]; exact mp_C hn h hv hu
  have hno : ¬ fp_tk m fr to lb (fp_C m fr to (cz n al) v) l := fun ⟨j, j1, j2, j3, j4⟩ => hT.2.1 ⟨j, j1, j4, (hC _ (ha.2 j j1).1).mpr j2, (hC _ (ha.2 j j1).2).mpr j3⟩
  rcases hhw l hl with h0 | h1 | h2
  · exact absurd h0 hT.1
  · exact Or.inr (Or.inl ⟨l, hl, h1, fun u hu => hT.2.2.1 h1 u hu.2.1.1 ((hC u hu.2.1.1).mpr hu), hno⟩)
  · exact Or.inr (Or.inr ⟨l, hl, h2, hab, hno⟩)
theorem tk_no {xn : Int32} (hn : n ≤ 200) (ha : gr_A n m aj fr to) (h : mp_S n m fr to al pf xn) (hT : ∀ p l, p < cn_P (lo_Y m fr to (cz n al)) n → l < 16 → ¬ tk_T n m fr to lb hw pf l p) {v : Nat} (hv : cz n al v) : ¬ fp_U m fr to lb hw (cz n al) v := by
  obtain ⟨w, w1, w2, w3, w4⟩ := (h.2.2.1 v hv.1).1 hv
  have hvn := hv.1
  have hp := cn_lt w2 (show w < n by omega)
  have hC : ∀ u, u < n → (pf u = nI (cn_P (lo_Y m fr to (cz n al)) w) ↔ fp_C m fr to (cz n al) v u) := fun u hu => by rw [← w4]; exact mp_C hn h hv hu
  have htk : ∀ l, ¬ fp_tk m fr to lb (fp_C m fr to (cz n al) v) l → ¬ ∃ j, j < m ∧ lb j = nI l ∧ pf (fr j) = nI (cn_P (lo_Y m fr to (cz n al)) w) ∧ pf (to j) = nI (cn_P (lo_Y m fr to (cz n al)) w) := fun l hno ⟨j, j1, j2, j3, j4⟩ => hno ⟨j, j1, (hC _ (ha.2 j j1).1).mp j3, (hC _ (ha.2 j j1).2).mp j4, j2⟩
  rintro (hU | ⟨l, l1, l2, l3, l4⟩ | ⟨l, l1, l2, l3, l4⟩)
  · obtain ⟨x, ⟨e1, e2, j, j1, j2, j3⟩, hx⟩ := h.2.1 v hv
    refine hU ⟨j, j1, ?_, ?_⟩
    · rw [j2]; exact fp_C_refl hv
    · rw [j3]; exact ⟨hv, e2, rc_edge ⟨e1, e2, j, j1, j2, j3⟩, hx⟩
  · exact hT _ l hp l1 ⟨by rw [l2]; decide, htk l l4, fun _ u hu hpu => l3 u ((hC u hu).mp hpu), fun h => absurd l2 h⟩
  · exact hT _ l hp l1 ⟨by rw [l2]; decide, htk l l4, fun h => by rw [l2] at h; exact absurd h (by decide), fun _ => ⟨v, hv.1, w4, l3⟩⟩
/-- the end of look: the parts are the fair parts -/
def mp_E (n m : Nat) (fr to : Nat → Nat) (lb hw : Nat → Int32) (I : Nat → Prop) (al pf : Nat → Int32) (xn : Int32) : Prop :=
  mp_S n m fr to al pf xn ∧ (∀ v, cz n al v → I v) ∧ (∀ P, fp_F m fr to lb hw I P → ∀ v, P v → cz n al v) ∧ (∀ v, cz n al v → ¬ fp_U m fr to lb hw (cz n al) v)
theorem lo_rounds (hg : gm_R n m aj to mto mfi mnx) (ha : gr_A n m aj fr to) (hs : gs_R n m fr to lb mfr mto mlb) (hh : ∀ l, l < 16 → mhw l = hw l) (hhw : ∀ l, l < 16 → hw l = 0 ∨ hw l = 1 ∨ hw l = 2) {xn : Int32} {qu re : Nat → Int32} (h : mp_S n m fr to al pf xn) (hI : ∀ v, cz n al v → I v) (hF : ∀ P, fp_F m fr to lb hw I P → ∀ v, P v → cz n al v) :
    ot_T (ox_l (fn_X5_look_l162 (nI n) (nI m) mfr mto mlb mhw mfi mnx) 1000000 (xn, qu, al, re, pf)) (fun r => mp_E n m fr to lb hw I r.2.2.1 r.2.2.2.2 r.1) := by
  have hn := hg.1
  refine ot_loop (fun x => mp_S n m fr to x.2.2.1 x.2.2.2.2 x.1 ∧ (∀ v, cz n x.2.2.1 v → I v) ∧ ∀ P, fp_F m fr to lb hw I P → ∀ v, P v → cz n x.2.2.1 v) (fun x => sm_N (fun v => if x.2.2.1 v = 1 then 1 else 0) n) ?_ 1000000 _ ⟨h, hI, hF⟩ (by
    have := sm_ones (f := fun v => if al v = 1 then 1 else 0) (n := n) (fun i _ => by split <;> omega)
    show sm_N (fun v => if al v = 1 then 1 else 0) n < 1000000
    omega)
  rintro ⟨xn, qu, al, re, pf⟩ ⟨hS, hI, hF⟩
  dsimp only at hS hI hF
  have hxn := hS.2.2.2
  have hcn := cn_le (P := lo_Y m fr to (cz n al)) n
  unfold fn_X5_look_l162
  dsimp only
  rw [hxn]
  have hal : ∀ v p, v < n → p < cn_P (lo_Y m fr to (cz n al)) n → pf v = nI p → al v = 1 := by
    intro v p hv hp e
    rcases hS.1 v hv with h0 | h1
    · exfalso
      have : ¬ cz n al v := fun h => by rw [h.2] at h0; exact absurd h0 (by decide)
      rw [(hS.2.2.1 v hv).2 this] at e
      exact nI_m1 (by omega) e.symm
    · exact h1
  refine ot_b (sh_shrink (N := cn_P (lo_Y m fr to (cz n al)) n) hg ha hs hh hS.1 (by omega) hal (fun p hp => by
    obtain ⟨w, w1, w2, w3, w4⟩ := mp_hit hS hp
    exact ⟨w, w1, w4⟩)) ?_
  rintro ⟨r, al2⟩ ⟨q0, q1, q2⟩
  dsimp only at q0 q1 q2 ⊢
  have hsub : ∀ v, cz n al2 v → cz n al v := by
    rintro v ⟨a1, a2⟩
    rcases q1 v a1 with h | ⟨h, -⟩
    · exact ⟨a1, by rw [← h]; exact a2⟩
    · rw [h] at a2; exact absurd a2 (by decide)
  have hfair : ∀ P, fp_F m fr to lb hw I P → ∀ v, P v → cz n al2 v := by
    intro P hP v hv
    have hc := hF P hP v hv
    rcases q1 v hc.1 with h | ⟨h1, h2, l, p, l1, p1, hT, hp, hab⟩
    · exact ⟨hc.1, by rw [h]; exact hc.2⟩
    · exact absurd (tk_U hn ha hhw hS hc l1 hp hT hab) (fp_keep hP (X := cz n al) (hF P hP) hv)
  rcases q2 with ⟨rfl, b1, b2⟩ | ⟨rfl, v, v1, v2, v3⟩
  · refine ot_t rfl (ot_s ?_)
    have hcz : cz n al2 = cz n al := by
      funext v
      exact propext ⟨hsub v, fun h => ⟨h.1, by rw [b1 v h.1]; exact h.2⟩⟩
    show mp_E n m fr to lb hw I al2 pf (nI (cn_P (lo_Y m fr to (cz n al)) n))
    refine ⟨⟨q0, ?_, ?_, ?_⟩, fun v hv => hI v (hsub v hv), hfair, ?_⟩
    · rw [hcz]; exact hS.2.1
    · rw [hcz]; exact hS.2.2.1
    · rw [hcz]
    · rw [hcz]; exact fun v hv => tk_no hn ha hS b2 hv
  · refine ot_f (by decide) ?_
    refine ot_b (dv_divide hg ha q0) ?_
    rintro ⟨xn3, qu3, al3, re3, pf3⟩ ⟨d1, d2, d3, d4⟩
    dsimp only at d1 d2 d3 d4
    have hS3 : mp_S n m fr to al3 pf3 xn3 := mp_of (fun v (h : cz n al2 v) => h.1) d1 d2 d3 d4
    have hsub3 : ∀ v, cz n al3 v → cz n al2 v := fun v h => (rp_X ((d4 v).mp h).2).1
    refine ot_s ⟨⟨hS3, fun v hv => hI v (hsub v (hsub3 v hv)), fun P hP v hv => ?_⟩, ?_⟩
    · -- a fair part goes round
      refine (d4 v).mpr ⟨(hfair P hP v hv).1, ?_⟩
      obtain ⟨w, w1, w2⟩ := hP.2.2.1 v v hv hv
      exact ⟨w, fp_E_mono (hfair P hP) w1, rc_mono (fun _ _ he => fp_E_mono (hfair P hP) he) w2⟩
    · show sm_N (fun v => if al3 v = 1 then 1 else 0) n < sm_N (fun v => if al v = 1 then 1 else 0) n
      refine sm_lt (k := v) v1 (fun i hi => ?_) ?_
      · by_cases h : al3 i = 1
        · have := (hsub i (hsub3 i ⟨hi, h⟩)).2
          simp only [h, this, if_true]; exact Nat.le_refl _
        · simp only [h, if_false]; exact Nat.zero_le _
      · have h3 : ¬ al3 v = 1 := fun h => by
          have := (hsub3 v ⟨v1, h⟩).2
          rw [v3] at this
          exact absurd this (by decide)
        simp only [h3, v2, if_true, if_false]
        decide
theorem lo_size (hn : n ≤ 200) (p : Nat) : ot_T (ox_l (fn_X5_look_l98 (nI n) pf (nI p)) 1000000 (0, 0)) (fun r => r.1 = nI (cn_P (fun v => pf v = nI p) n)) := by
  refine ot_for (fun i x => x.2 = nI i ∧ x.1 = nI (cn_P (fun v => pf v = nI p) i)) n ?_ ?_ 1000000 0 _ (Nat.zero_le _) ⟨nI_0.symm, nI_0.symm⟩ (by omega)
  · rintro i ⟨v4, v5⟩ hi ⟨e1, e2⟩
    dsimp only at e1 e2
    subst e1
    subst e2
    unfold fn_X5_look_l98
    dsimp only
    simp only [cl_nI (show i < 2 ^ 31 by omega)]
    refine ot_f (fun h => by rw [nI_leI (by omega) (by omega)] at h; omega) (ot_i (in_nI (by omega) (by decide)) (ot_if (fun c => ?_) (fun c => ?_)))
    · refine ot_s ⟨nI_1 i, ?_⟩
      show nI _ + 1 = nI _
      rw [cn_t (P := fun v => pf v = nI p) c, nI_1]
    · refine ot_s ⟨nI_1 i, ?_⟩
      show nI _ + 0 = nI _
      rw [cn_f (P := fun v => pf v = nI p) c, ← nI_0, nI_add]
      rfl
  · rintro ⟨v4, v5⟩ ⟨e1, e2⟩
    dsimp only at e1 e2
    subst e1
    unfold fn_X5_look_l98
    dsimp only
    exact ot_t (by rw [nI_leI (by omega) (by omega)]; exact Nat.le_refl _) (ot_s e2)
theorem lo_whole (hn : n ≤ 200) {N : Nat} (hN : N ≤ 200) : ot_T (ox_l (fn_X5_look_l87 (nI N) (nI n) pf) 1000000 (0, 0)) (fun r => ∃ L, r.2 = nI L ∧ L ≤ 200 ∧ (∀ p, p < N → cn_P (fun v => pf v = nI p) n ≤ L) ∧ (L = 0 ∨ ∃ p, p < N ∧ cn_P (fun v => pf v = nI p) n = L)) := by
  refine ot_for (fun i x => x.1 = nI i ∧ ∃ L, x.2 = nI L ∧ L ≤ 200 ∧ (∀ p, p < i → cn_P (fun v => pf v = nI p) n ≤ L) ∧ (L = 0 ∨ ∃ p, p < N ∧ cn_P (fun v => pf v = nI p) n = L)) N ?_ ?_ 1000000 0 _ (Nat.zero_le _) ⟨nI_0.symm, 0, nI_0.symm, by decide, fun p h => absurd h (Nat.not_lt_zero p), Or.inl rfl⟩ (by omega)
  · rintro i ⟨v3, v⟩ hi ⟨e1, L, e2, q0, q1, q2⟩
    dsimp only at e1 e2
    subst e1
    subst e2
    unfold fn_X5_look_l87
    dsimp only
    refine ot_f (fun h => by rw [nI_leI (by omega) (by omega)] at h; omega) ?_
    refine ot_b (lo_size hn i) ?_
    rintro ⟨v4, v5⟩ e3
    dsimp only at e3 ⊢
    subst e3
    have hc := cn_le (P := fun v => pf v = nI i) n
    by_cases hle : cn_P (fun v => pf v = nI i) n ≤ L
    · refine ot_t (by rw [nI_leI (by omega) (by omega)]; exact hle) (ot_s ⟨nI_1 i, L, rfl, q0, fun p hp => ?_, q2⟩)
      by_cases hpi : p = i
      · rw [hpi]; exact hle
      · exact q1 p (by omega)
    · refine ot_f (by rw [nI_leI (by omega) (by omega)]; exact hle) (ot_s ⟨nI_1 i, _, rfl, by omega, fun p hp => ?_, Or.inr ⟨i, hi, rfl⟩⟩)
      by_cases hpi : p = i
      · rw [hpi]; exact Nat.le_refl _
      · have := q1 p (by omega); omega
  · rintro ⟨v3, v⟩ ⟨e1, q⟩
    dsimp only at e1 q
    subst e1
    unfold fn_X5_look_l87
    dsimp only
    exact ot_t (by rw [nI_leI (by omega) (by omega)]; exact Nat.le_refl _) (ot_s q)
/-- the largest knot that goes round in X -/
def lg_M (n m : Nat) (fr to : Nat → Nat) (X : Nat → Prop) (L : Nat) : Prop := (∀ u, rd_Y m fr to X u → cn_P (fp_C m fr to X u) n ≤ L) ∧ (L = 0 ∨ ∃ u, rd_Y m fr to X u ∧ cn_P (fp_C m fr to X u) n = L)
theorem lg_one {X : Nat → Prop} {L L' : Nat} (h : lg_M n m fr to X L) (h' : lg_M n m fr to X L') : L = L' := by
  have key : ∀ {A B : Nat}, lg_M n m fr to X A → lg_M n m fr to X B → A ≤ B := by
    rintro A B ⟨-, h2⟩ ⟨h3, -⟩
    rcases h2 with h2 | ⟨u, u1, u2⟩
    · omega
    · have := h3 u u1; omega
  exact Nat.le_antisymm (key h h') (key h' h)
end LO
