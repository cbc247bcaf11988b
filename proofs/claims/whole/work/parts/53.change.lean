/-! PURE: state, move and label keep both sides' cells with one abstract graph -/
section CHG
variable {n m : Nat} {aj : Nat → List Nat} {fr to st : Nat → Nat} {lb ak en hw : Nat → Int32} {gE : Int32} {fk gas gie gab gfr gto glb gout gst : Nat → Int32} {mas mfr mto mlb mhw mfi mla mnx men : Nat → Int32}
/-! a state more -/
theorem sa_W (h : gw_W n m aj fr to en hw) {e : Int32} (he : e = 0 ∨ e = 1) : gw_W (n + 1) m (va_up aj n []) fr to (va_up en n e) hw := by
  obtain ⟨⟨h1, h2⟩, h3, h4, h5⟩ := h
  refine ⟨⟨fun v j hv => ?_, fun j hj => ⟨by have := (h2 j hj).1; omega, by have := (h2 j hj).2; omega⟩⟩, h3, fun v hv => ?_, fun v hv => ?_⟩
  · by_cases e : v = n
    · rw [e, up_s]
      exact ⟨fun h => absurd h (by simp), fun h => by have := (h2 j h.1).1; omega⟩
    · rw [up_n e]; exact h1 v j (by omega)
  · by_cases e : v = n
    · rw [e, up_s]; exact he
    · rw [up_n e]; exact h4 v (by omega)
  · by_cases e : v = n
    · rw [e, up_s]; exact List.nodup_nil
    · rw [up_n e]; exact h5 v (by omega)
theorem cn_up {e : Nat → Int32} {x : Int32} {n : Nat} : cn_P (fun v => va_up e n x v = 1) n = cn_P (fun v => e v = 1) n := cn_congr (fun v hv => by rw [up_n (by omega)])
theorem sa_C (hw0 : gw_W n m aj fr to en hw) (hc : cl_R n m aj fr to st lb ak en hw gE fk gas gie gab gfr gto glb gout gst) (hn : n < 200) {a e : Int32} (he : e = 0 ∨ e = 1) :
    ot_T (fn_X0_addState (nI n) (nI m) gE gas gie gst a e) (fun r => match r with | (r, xs, gE, gas, gie, gst) => r = nI n ∧ xs = nI (n + 1) ∧ cl_R (n + 1) m (va_up aj n []) fr to (va_up st (n + 1) m) lb (va_up ak n a) (va_up en n e) hw gE fk gas gie gab gfr gto glb gout gst) := by
  obtain ⟨⟨g1, g2, g3, g4, g5, g6, g7, g8, g9⟩, c2, c3, c4, c5, c6, c7, c8⟩ := hc
  have key : ∀ gE' : Int32, gE' = nI (cn_P (fun v => va_up en n e v = 1) (n + 1)) → ot_T (fn_X0_addState_j33 (nI n) gas a gie e gst (nI m) gE') (fun r => match r with | (r, xs, gE, gas, gie, gst) => r = nI n ∧ xs = nI (n + 1) ∧ cl_R (n + 1) m (va_up aj n []) fr to (va_up st (n + 1) m) lb (va_up ak n a) (va_up en n e) hw gE fk gas gie gab gfr gto glb gout gst) := by
    intro gE' hE
    unfold fn_X0_addState_j33
    dsimp only
    rw [nI_1, cl_nI (show n < 2 ^ 31 by omega), cl_nI (show n + 1 < 2 ^ 31 by omega)]
    refine ot_i (in_nI (by omega) (by decide)) (ot_s ?_)
    dsimp only
    refine ⟨rfl, rfl, ⟨by omega, g2, ?_, ?_, ?_, ?_, ?_, ?_, ?_⟩, ?_, ?_, c4, ?_, ?_, ?_, hE⟩
    · rw [up_n (by omega)]; exact g3
    · rw [up_s]
    · intro i hi
      by_cases h : i = n + 1
      · rw [h, up_s, upd_s]
      · rw [up_n h, upd_n h]; exact g5 i (by omega)
    · intro v hv
      by_cases h : v = n
      · rw [h, up_s, up_n (by omega), up_s]; rw [g4]; rfl
      · rw [up_n (by omega), up_n (by omega), up_n h]; exact g6 v (by omega)
    · intro v i j hv hj
      by_cases h : v = n
      · rw [h, up_s] at hj; simp at hj
      · rw [up_n h] at hj; rw [up_n (by omega)]; exact g7 v i j (by omega) hj
    · intro v j hv hj
      by_cases h : v = n
      · rw [h, up_s] at hj; simp at hj
      · rw [up_n h] at hj; exact g8 v j (by omega) hj
    · intro j hj; exact ⟨(g9 j hj).1, by have := (g9 j hj).2; omega⟩
    · intro j hj
      obtain ⟨x1, x2, x3, x4, x5⟩ := c2 j hj
      exact ⟨x1, by omega, x3, by omega, x5⟩
    · intro v b hv hb
      by_cases h : v = n
      · rw [h, c7 n (Nat.le_refl _), b_0]
        exact ⟨fun h => absurd h (by decide), fun ⟨j, j1, j2, _⟩ => by have := (hw0.1.2 j j1).1; omega⟩
      · exact c3 v b (by omega) hb
    · intro v hv
      by_cases h : v = n
      · rw [h, up_s, upd_s]
      · rw [up_n h, upd_n h]; exact c5 v (by omega)
    · intro v hv
      by_cases h : v = n
      · rw [h, up_s, upd_s]
        rcases he with rfl | rfl
        · exact nz_b0
        · exact nz_b1
      · rw [up_n h, upd_n h]; exact c6 v (by omega)
    · intro v hv; exact c7 v (by omega)
  unfold fn_X0_addState
  refine ot_i (in_nI hn (by decide)) (ot_i (in_nI hn (by decide)) ?_)
  rcases he with rfl | rfl
  · refine ot_t rfl (key gE ?_)
    rw [cn_f (P := fun v => va_up en n 0 v = 1) (by show ¬ va_up en n 0 n = 1; rw [up_s]; decide), cn_up]; exact c8
  · refine ot_f (by decide) (key (gE + 1) ?_)
    rw [cn_t (P := fun v => va_up en n 1 v = 1) (by show va_up en n 1 n = 1; rw [up_s]), cn_up, c8, nI_1]
theorem sa_M (hm0 : ml_R n m aj fr to lb ak en hw mas mfr mto mlb mhw mfi mla mnx men) (hn : n < 200) {a e : Int32} (he : e = 0 ∨ e = 1) :
    ml_R (n + 1) m (va_up aj n []) fr to lb (va_up ak n a) (va_up en n e) hw (upd mas n a) mfr mto mlb mhw (upd mfi n (-1)) (upd mla n (-1)) mnx (upd men n (vp_nar .boolean e)) := by
  obtain ⟨⟨g1, g2, g3, g4, g5, g6⟩, m2, m3, m4, m5, m6⟩ := hm0
  refine ⟨⟨by omega, g2, ?_, ?_, ?_, ?_⟩, ?_, m3, ?_, ?_, ?_⟩
  · intro v hv
    by_cases h : v = n
    · rw [h, up_s, upd_s]; rfl
    · rw [up_n h, upd_n h]; exact g3 v (by omega)
  · intro v hv
    by_cases h : v = n
    · rw [h, up_s]; exact Nat.zero_le _
    · rw [up_n h]; exact g4 v (by omega)
  · intro v j hv hj
    by_cases h : v = n
    · rw [h, up_s] at hj; simp at hj
    · rw [up_n h] at hj; exact g5 v j (by omega) hj
  · intro j hj; exact ⟨(g6 j hj).1, by have := (g6 j hj).2; omega⟩
  · intro j hj
    obtain ⟨x1, x2, x3, x4, x5⟩ := m2 j hj
    exact ⟨x1, by omega, x3, by omega, x5⟩
  · intro v hv
    by_cases h : v = n
    · rw [h, up_s, upd_s]
    · rw [up_n h, upd_n h]; exact m4 v (by omega)
  · intro v hv
    by_cases h : v = n
    · rw [h, up_s, upd_s]
      rcases he with rfl | rfl
      · exact nz_b0
      · exact nz_b1
    · rw [up_n h, upd_n h]; exact m5 v (by omega)
  · intro v l j hv hj
    by_cases h : v = n
    · rw [h, up_s] at hj; simp at hj
    · rw [up_n h] at hj; rw [upd_n h]; exact m6 v l j (by omega) hj
/-- nothing is known any more -/
theorem me_0 {co xp xw : Int32} {qu bm ir al its pf : Nat → Int32} : me_D n m aj fr to lb ak hw 0 co (-1) xp xw qu bm ir al its pf :=
  ⟨Or.inl rfl, fun a h1 h2 => absurd (by rw [← h2]; decide) h1⟩
/-! a move more -/
theorem mo_W (h : gw_W n m aj fr to en hw) {a b : Nat} (ha : a < n) (hb : b < n) : gw_W n (m + 1) (va_up aj a (aj a ++ [m])) (va_up fr m a) (va_up to m b) en hw := by
  obtain ⟨⟨h1, h2⟩, h3, h4, h5⟩ := h
  refine ⟨⟨fun v j hv => ?_, fun j hj => ?_⟩, h3, h4, fun v hv => ?_⟩
  · by_cases e : v = a
    · rw [e, up_s, List.mem_append, List.mem_singleton, h1 a j ha]
      by_cases e2 : j = m
      · rw [e2, up_s]; exact ⟨fun _ => ⟨by omega, rfl⟩, fun _ => Or.inr rfl⟩
      · rw [up_n e2]; exact ⟨fun h => by rcases h with h | h; exact ⟨by omega, h.2⟩; exact absurd h e2, fun h => Or.inl ⟨by omega, h.2⟩⟩
    · rw [up_n e, h1 v j hv]
      by_cases e2 : j = m
      · rw [e2, up_s]; exact ⟨fun h => absurd h.1 (by omega), fun h => absurd h.2.symm e⟩
      · rw [up_n e2]; exact ⟨fun h => ⟨by omega, h.2⟩, fun h => ⟨by omega, h.2⟩⟩
  · by_cases e2 : j = m
    · rw [e2, up_s, up_s]; exact ⟨ha, hb⟩
    · rw [up_n e2, up_n e2]; exact h2 j (by omega)
  · by_cases e : v = a
    · rw [e, up_s, List.nodup_append]
      refine ⟨h5 a ha, by simp, fun x hx y hy => ?_⟩
      rw [List.mem_singleton] at hy
      have := ((h1 a x ha).mp hx).1
      omega
    · rw [up_n e]; exact h5 v hv
/-- the row of moves makes room -/
theorem mo_shift {a p : Nat} (ha : a + 1 < 201) (hgs : gst (a + 1) = nI p) (hp : p ≤ m) (hm : m < 600) :
    ot_T (ox_l (fn_X0_addMove_l51 (nI a) gst) 1000000 (nI m, gout)) (fun r => ∀ k, r.2 k = if p < k ∧ k ≤ m then gout (k - 1) else gout k) := by
  refine ot_for (fun i x => x.1 = nI (m - i) ∧ ∀ k, x.2 k = if m - i < k ∧ k ≤ m then gout (k - 1) else gout k) (m - p) ?_ ?_ 1000000 0 _ (Nat.zero_le _) ⟨rfl, fun k => by rw [if_neg (by omega)]⟩ (by omega)
  · rintro i ⟨v5, go⟩ hi ⟨e1, q⟩
    dsimp only at e1 q
    subst e1
    have h1 : m - i = (m - (i + 1)) + 1 := by omega
    have h2 : m - i < 2 ^ 31 := by omega
    unfold fn_X0_addMove_l51
    dsimp only
    rw [nI_1, cl_nI (show a + 1 < 2 ^ 31 by omega), hgs, cl_nI h2, show nI (m - i) - 1 = nI (m - (i + 1)) by rw [h1, nI_pred], cl_nI (show m - (i + 1) < 2 ^ 31 by omega)]
    refine ot_i (in_nI ha (by decide)) (ot_f (by rw [nI_leI h2 (by omega)]; omega) (ot_i (in_nI (by omega) (by decide)) (ot_i (in_nI (by omega) (by decide)) (ot_s ⟨?_, fun k => ?_⟩))))
    · show nI (m - i) + (-1) = _
      rw [h1, pk_m1]
    · dsimp only
      by_cases hk : k = m - i
      · rw [hk, upd_s, q, if_neg (by omega), if_pos (by omega), h1]
        rfl
      · rw [upd_n hk, q k]
        by_cases hk2 : m - i < k ∧ k ≤ m
        · rw [if_pos hk2, if_pos (by omega)]
        · rw [if_neg hk2, if_neg (by omega)]
  · rintro ⟨v5, go⟩ ⟨e1, q⟩
    dsimp only at e1 q
    subst e1
    have h1 : m - (m - p) = p := by omega
    rw [h1] at q ⊢
    unfold fn_X0_addMove_l51
    dsimp only
    rw [nI_1, cl_nI (show a + 1 < 2 ^ 31 by omega), hgs]
    exact ot_i (in_nI ha (by decide)) (ot_t (by rw [nI_leI (by omega) (by omega)]; exact Nat.le_refl _) (ot_s q))
theorem mo_start {a : Nat} (ha : a < n) (hn : n ≤ 200) :
    ot_T (ox_l (fn_X0_addMove_l106 (nI n)) 1000000 (nI (a + 1), gst)) (fun r => ∀ k, r.2 k = if a < k ∧ k ≤ n then gst k + 1 else gst k) := by
  refine ot_for (fun i x => x.1 = nI (a + 1 + i) ∧ ∀ k, x.2 k = if a < k ∧ k < a + 1 + i then gst k + 1 else gst k) (n - a) ?_ ?_ 1000000 0 _ (Nat.zero_le _) ⟨rfl, fun k => by rw [if_neg (by omega)]⟩ (by omega)
  · rintro i ⟨v5, gs⟩ hi ⟨e1, q⟩
    dsimp only at e1 q
    subst e1
    unfold fn_X0_addMove_l106
    dsimp only
    rw [cl_nI (show a + 1 + i < 2 ^ 31 by omega)]
    refine ot_f (by rw [nI_ltI (by omega) (by omega)]; omega) (ot_i (in_nI (by omega) (by decide)) (ot_i (in_nI (by omega) (by decide)) (ot_s ⟨?_, fun k => ?_⟩)))
    · show nI (a + 1 + i) + 1 = _
      rw [nI_1]; rfl
    · dsimp only
      by_cases hk : k = a + 1 + i
      · rw [hk, upd_s, q, if_neg (by omega), if_pos (by omega)]
      · rw [upd_n hk, q k]
        by_cases hk2 : a < k ∧ k < a + 1 + i
        · rw [if_pos hk2, if_pos (by omega)]
        · rw [if_neg hk2, if_neg (by omega)]
  · rintro ⟨v5, gs⟩ ⟨e1, q⟩
    dsimp only at e1 q
    subst e1
    unfold fn_X0_addMove_l106
    dsimp only
    refine ot_t (by rw [nI_ltI (by omega) (by omega)]; omega) (ot_s (fun k => ?_))
    dsimp only
    rw [q k]
    by_cases hk2 : a < k ∧ k ≤ n
    · rw [if_pos hk2, if_pos (by omega)]
    · rw [if_neg hk2, if_neg (by omega)]
theorem mo_R {gfr' gto' glb' : Nat → Int32} (h : gs_R n m fr to lb gfr' gto' glb') {a b : Nat} (ha : a < n) (hb : b < n) {l : Int32} (hl : l = -1 ∨ ∃ x, x < 16 ∧ l = nI x) : gs_R n (m + 1) (va_up fr m a) (va_up to m b) (va_up lb m l) (upd gfr' m (nI a)) (upd gto' m (nI b)) (upd glb' m l) := by
  intro j hj
  by_cases e : j = m
  · rw [e, up_s, up_s, up_s, upd_s, upd_s, upd_s]; exact ⟨rfl, ha, rfl, hb, rfl, hl⟩
  · rw [up_n e, up_n e, up_n e, upd_n e, upd_n e, upd_n e]; exact h j (by omega)
theorem mo_A (hw0 : gw_W n m aj fr to en hw) (h : ab_R n m fr lb gab) {a : Nat} (ha : a < n) {l : Int32} (hl : l = -1 ∨ ∃ x, x < 16 ∧ l = nI x) {gab' : Nat → Int32} (hg : ∀ v, v ≠ a → gab' v = gab v) (hga : (l = -1 ∧ gab' a = gab a) ∨ (¬ l = -1 ∧ gab' a = gab a ||| (1 <<< (l &&& 31)))) : ab_R n (m + 1) (va_up fr m a) (va_up lb m l) gab' := by
  intro v b hv hb
  have hsplit : fp_ab (m + 1) (va_up fr m a) (va_up lb m l) b v ↔ fp_ab m fr lb b v ∨ (a = v ∧ l = nI b) := by
    constructor
    · rintro ⟨j, j1, j2, j3⟩
      by_cases e : j = m
      · rw [e, up_s] at j2 j3; exact Or.inr ⟨j2, j3⟩
      · rw [up_n e] at j2 j3; exact Or.inl ⟨j, by omega, j2, j3⟩
    · rintro (⟨j, j1, j2, j3⟩ | ⟨h1, h2⟩)
      · exact ⟨j, by omega, by rw [up_n (by omega)]; exact j2, by rw [up_n (by omega)]; exact j3⟩
      · exact ⟨m, by omega, by rw [up_s]; exact h1, by rw [up_s]; exact h2⟩
  rw [hsplit]
  by_cases e : v = a
  · subst e
    rcases hga with ⟨g1, g2⟩ | ⟨g1, g2⟩
    · rw [g2, h v b hv hb]
      exact ⟨Or.inl, fun q => by
        rcases q with q | q
        · exact q
        · exact absurd (q.2.symm.trans g1) (nI_m1 (by omega))⟩
    · rcases hl with hl | ⟨x, x1, x2⟩
      · exact absurd hl g1
      · rw [g2, b_or, x2, b_one x (by omega) hb, Bool.or_eq_true, decide_eq_true_iff, h v b hv hb]
        constructor
        · rintro (q | q)
          · exact Or.inl q
          · exact Or.inr ⟨rfl, by rw [q]⟩
        · rintro (q | ⟨_, q⟩)
          · exact Or.inl q
          · exact Or.inr ((nI_eq (by omega) (by omega)).mp q.symm)
  · rw [hg v e, h v b hv hb]
    exact ⟨Or.inl, fun q => by
      rcases q with q | q
      · exact q
      · exact absurd q.1.symm e⟩
theorem mo_C (hw0 : gw_W n m aj fr to en hw) (hc : cl_R n m aj fr to st lb ak en hw gE fk gas gie gab gfr gto glb gout gst) (hm : m < 600) {a b : Nat} (ha : a < n) (hb : b < n) {l : Int32} (hl : l = -1 ∨ ∃ x, x < 16 ∧ l = nI x) :
    ot_T (fn_X0_addMove (nI n) (nI m) gab gfr gto glb gout gst (nI a) (nI b) l) (fun r => match r with | (r, xm, gab, gfr, gto, glb, gout, gst) => r = nI m ∧ xm = nI (m + 1) ∧ cl_R n (m + 1) (va_up aj a (aj a ++ [m])) (va_up fr m a) (va_up to m b) (fun v => if a < v then st v + 1 else st v) (va_up lb m l) ak en hw gE fk gas gie gab gfr gto glb gout gst) := by
  have hgc := hc.1
  obtain ⟨⟨g1, g2, g3, g4, g5, g6, g7, g8, g9⟩, c2, c3, c4, c5, c6, c7, c8⟩ := hc
  have hle : ∀ v, v ≤ n → st v ≤ m := fun v hv => gc_le hgc hv
  have hmono : ∀ u v, u ≤ v → v ≤ n → st u ≤ st v := fun u v h1 h2 => by
    have := gc_mono hgc (v - u) u (by omega)
    rw [show u + (v - u) = v by omega] at this
    exact this
  have key : ∀ gab' : Nat → Int32, (∀ v, v ≠ a → gab' v = gab v) → ((l = -1 ∧ gab' a = gab a) ∨ (¬ l = -1 ∧ gab' a = gab a ||| (1 <<< (l &&& 31)))) →
      ot_T (fn_X0_addMove_j47 (nI a) gst (nI m) gout (nI n) gfr gto (nI b) glb l gab') (fun r => match r with | (r, xm, gab, gfr, gto, glb, gout, gst) => r = nI m ∧ xm = nI (m + 1) ∧ cl_R n (m + 1) (va_up aj a (aj a ++ [m])) (va_up fr m a) (va_up to m b) (fun v => if a < v then st v + 1 else st v) (va_up lb m l) ak en hw gE fk gas gie gab gfr gto glb gout gst) := by
    intro gab' ha1 ha2
    have hp := g5 (a + 1) (by omega)
    have hpm := hle (a + 1) (by omega)
    unfold fn_X0_addMove_j47
    dsimp only
    refine ot_b (mo_shift (p := st (a + 1)) (by omega) hp hpm hm) ?_
    rintro ⟨v5, go⟩ q1
    dsimp only at q1 ⊢
    rw [nI_1, nI_1, cl_nI (show a + 1 < 2 ^ 31 by omega), hp, cl_nI (show st (a + 1) < 2 ^ 31 by omega), cl_nI (show m < 2 ^ 31 by omega)]
    refine ot_i (in_nI (by omega) (by decide)) (ot_i (in_nI (by omega) (by decide)) (ot_b (mo_start ha g1) ?_))
    rintro ⟨v5', gs⟩ q2
    dsimp only at q2 ⊢
    refine ot_s ?_
    dsimp only
    refine ⟨rfl, rfl, ⟨g1, by omega, ?_, ?_, ?_, ?_, ?_, ?_, ?_⟩, mo_R c2 ha hb hl, mo_A hw0 c3 ha hl ha1 ha2, c4, c5, c6, ?_, c8⟩
    · show (if a < 0 then st 0 + 1 else st 0) = 0
      rw [if_neg (by omega)]; exact g3
    · show (if a < n then st n + 1 else st n) = m + 1
      rw [if_pos ha, g4]
    · intro i hi
      rw [q2 i]
      show _ = nI (if a < i then st i + 1 else st i)
      by_cases h : a < i
      · rw [if_pos ⟨h, hi⟩, if_pos h, g5 i hi, nI_1]
      · rw [if_neg (by omega), if_neg h, g5 i hi]
    · intro v hv
      dsimp only
      by_cases h1 : v = a
      · rw [h1, up_s, if_pos (by omega), if_neg (by omega), g6 a ha, List.length_append]; simp only [List.length_singleton]; omega
      · rw [up_n h1]
        by_cases h2 : a < v
        · rw [if_pos (by omega), if_pos h2, g6 v hv]; omega
        · rw [if_neg (by omega), if_neg h2, g6 v hv]
    · intro v i j hv hj
      show upd go (st (a + 1)) (nI m) ((if a < v then st v + 1 else st v) + i) = nI j
      by_cases h1 : v = a
      · rw [h1] at hj ⊢
        rw [up_s] at hj
        rw [if_neg (by omega)]
        have h6 := g6 a ha
        by_cases h2 : i < (aj a).length
        · rw [List.getElem?_append_left h2] at hj
          rw [upd_n (by omega), q1, if_neg (by omega)]
          exact g7 a i j ha hj
        · rw [List.getElem?_append_right (by omega)] at hj
          have h3 : i = (aj a).length := by
            by_cases h4 : i - (aj a).length = 0
            · omega
            · obtain ⟨z, hz⟩ : ∃ z, i - (aj a).length = z + 1 := ⟨i - (aj a).length - 1, by omega⟩
              rw [hz] at hj; simp at hj
          rw [h3, Nat.sub_self] at hj
          have h5 : m = j := by simpa using hj
          rw [h3, ← h5, show st a + (aj a).length = st (a + 1) by omega, upd_s]
      · rw [up_n h1] at hj
        have h6 := g6 v hv
        have hi : i < (aj v).length := by
          by_cases h9 : i < (aj v).length
          · exact h9
          · rw [List.getElem?_eq_none (by omega)] at hj; cases hj
        by_cases h2 : a < v
        · rw [if_pos h2]
          have h7 := hmono (a + 1) v (by omega) (by omega)
          have h8 := hle (v + 1) (by omega)
          rw [upd_n (by omega), q1, if_pos (by omega), show st v + 1 + i - 1 = st v + i by omega]
          exact g7 v i j hv hj
        · rw [if_neg h2]
          have h7 := hmono (v + 1) (a + 1) (by omega) (by omega)
          have h8 := hmono (v + 1) a (by omega) (by omega)
          rw [upd_n (by omega), q1, if_neg (by omega)]
          exact g7 v i j hv hj
    · intro v j hv hj
      by_cases h1 : v = a
      · rw [h1, up_s, List.mem_append, List.mem_singleton] at hj
        rcases hj with h | h
        · have := g8 a j ha h; omega
        · omega
      · rw [up_n h1] at hj
        have := g8 v j hv hj; omega
    · intro j hj
      by_cases e : j = m
      · rw [e, up_s, upd_s]; exact ⟨rfl, hb⟩
      · rw [up_n e, upd_n e]; exact g9 j (by omega)
    · intro v hv; rw [ha1 v (by omega)]; exact c7 v hv
  unfold fn_X0_addMove
  refine ot_i (in_nI hm (by decide)) (ot_i (in_nI hm (by decide)) (ot_i (in_nI hm (by decide)) (ot_if (fun h => ?_) (fun h => ?_))))
  · exact key gab (fun _ _ => rfl) (Or.inl ⟨h, rfl⟩)
  · rw [cl_nI (show a < 2 ^ 31 by omega)]
    exact ot_i (in_nI (by omega) (by decide)) (ot_i (in_nI (by omega) (by decide)) (key _ (fun v hv => upd_n hv) (Or.inr ⟨h, upd_s⟩)))
theorem lk_up {nx : Nat → Int32} {k : Nat} {y : Int32} : ∀ (l : List Nat) (x : Int32), lk nx x l → k ∉ l → lk (upd nx k y) x l := by
  intro l
  induction l with
  | nil => intro x h _; exact h
  | cons j l ih =>
    intro x h hk
    refine ⟨h.1, ?_⟩
    rw [upd_n (fun e => hk (by rw [e]; exact List.mem_cons_self ..))]
    exact ih _ h.2 (fun e => hk (List.mem_cons_of_mem _ e))
theorem lk_app {nx : Nat → Int32} {m j : Nat} : ∀ (l : List Nat) (x : Int32), lk nx x (l ++ [j]) → j ∉ l → m ∉ l → m ≠ j → lk (upd (upd nx m (-1)) j (nI m)) x (l ++ [j] ++ [m]) := by
  intro l
  induction l with
  | nil =>
    intro x h _ _ hj
    refine ⟨h.1, ?_⟩
    rw [upd_s]
    refine ⟨rfl, ?_⟩
    rw [upd_n hj, upd_s]
    rfl
  | cons i l ih =>
    intro x h h1 h2 hj
    refine ⟨h.1, ?_⟩
    rw [upd_n (fun e => h1 (by rw [e]; exact List.mem_cons_self ..)), upd_n (fun e => h2 (by rw [e]; exact List.mem_cons_self ..))]
    exact ih _ h.2 (fun e => h1 (List.mem_cons_of_mem _ e)) (fun e => h2 (List.mem_cons_of_mem _ e)) hj
theorem mo_M {a : Nat} (hw0 : gw_W n m aj fr to en hw) (hm0 : ml_R n m aj fr to lb ak en hw mas mfr mto mlb mhw mfi mla mnx men) (hm : m < 600) (hlen : ∀ v, v < n → (va_up aj a (aj a ++ [m]) v).length ≤ 600) {b : Nat} (ha : a < n) (hb : b < n) {l : Int32} (hl : l = -1 ∨ ∃ x, x < 16 ∧ l = nI x) (kn xl : Int32) :
    ot_T (fn_X5_move_j59 (nI m) (nI a) mfi kn xl mfr mto (nI b) mlb l mla mnx 0) (fun r => match r with | (r, t, xm, kn, xl, mfr, mto, mlb, mfi, mla, mnx) => r = nI m ∧ t = 0 ∧ xm = nI (m + 1) ∧ kn = 0 ∧ xl = -1 ∧ ml_R n (m + 1) (va_up aj a (aj a ++ [m])) (va_up fr m a) (va_up to m b) (va_up lb m l) ak en hw mas mfr mto mlb mhw mfi mla mnx men) := by
  obtain ⟨⟨g1, g2, g3, g4, g5, g6⟩, m2, m3, m4, m5, m6⟩ := id hm0
  obtain ⟨⟨w1, w2⟩, w3, w4, w5⟩ := hw0
  have key : ∀ (fi nx : Nat → Int32), (∀ v, v < n → lk nx (fi v) (va_up aj a (aj a ++ [m]) v)) →
      ot_T (fn_X5_move_j149 (nI a) kn xl (nI m) 0 mfr mto (nI b) mlb l mla (fi, nx)) (fun r => match r with | (r, t, xm, kn, xl, mfr, mto, mlb, mfi, mla, mnx) => r = nI m ∧ t = 0 ∧ xm = nI (m + 1) ∧ kn = 0 ∧ xl = -1 ∧ ml_R n (m + 1) (va_up aj a (aj a ++ [m])) (va_up fr m a) (va_up to m b) (va_up lb m l) ak en hw mas mfr mto mlb mhw mfi mla mnx men) := by
    intro fi nx hlk
    unfold fn_X5_move_j149 fn_X5_changed
    dsimp only [ox_b]
    rw [nI_1, nI_pred, cl_nI (show a < 2 ^ 31 by omega), cl_nI (show m < 2 ^ 31 by omega)]
    refine ot_i (in_nI (by omega) (by decide)) (ot_s ?_)
    dsimp only
    refine ⟨rfl, rfl, rfl, rfl, rfl, ⟨g1, by omega, hlk, hlen, ?_, ?_⟩, mo_R m2 ha hb hl, m3, m4, m5, ?_⟩
    · intro v j hv hj
      by_cases h1 : v = a
      · rw [h1, up_s, List.mem_append, List.mem_singleton] at hj
        rcases hj with h | h
        · have := g5 a j ha h; omega
        · omega
      · rw [up_n h1] at hj
        have := g5 v j hv hj; omega
    · intro j hj
      by_cases e : j = m
      · rw [e, up_s, upd_s]; exact ⟨rfl, hb⟩
      · rw [up_n e, upd_n e]; exact g6 j (by omega)
    · intro v l j hv hj
      by_cases h1 : v = a
      · rw [h1, up_s] at hj
        rw [h1, upd_s]
        have := List.append_inj_right' hj rfl
        have h2 : m = j := by simpa using this
        rw [h2]
      · rw [up_n h1] at hj; rw [upd_n h1]; exact m6 v l j hv hj
  unfold fn_X5_move_j59
  dsimp only
  rw [cl_nI (show a < 2 ^ 31 by omega), cl_nI (show m < 2 ^ 31 by omega)]
  refine ot_t (by decide) (ot_i (in_nI hm (by decide)) (ot_i (in_nI hm (by decide)) (ot_i (in_nI hm (by decide)) (ot_i (in_nI hm (by decide)) (ot_i (in_nI (by omega) (by decide)) (ot_if (fun h => ?_) (fun h => ?_)))))))
  · have he := (gm_empty hm0.1 ha).mp h
    refine ot_i (in_nI (by omega) (by decide)) (key _ _ (fun v hv => ?_))
    by_cases h1 : v = a
    · rw [h1, up_s, upd_s, he]
      exact ⟨rfl, by rw [upd_s]; rfl⟩
    · rw [up_n h1, upd_n h1]
      exact lk_up _ _ (g3 v hv) (fun h => by have := g5 v m hv h; omega)
  · have hne : ¬ aj a = [] := fun e => h ((gm_empty hm0.1 ha).mpr e)
    obtain ⟨l0, j0, hl0⟩ : ∃ l0 j0, aj a = l0 ++ [j0] := ⟨_, _, (List.dropLast_concat_getLast hne).symm⟩
    have hj0 : j0 ∈ aj a := by rw [hl0]; simp
    have hj0m := g5 a j0 ha hj0
    have hnd := w5 a ha
    rw [hl0, List.nodup_append] at hnd
    rw [m6 a l0 j0 ha hl0, cl_nI (show j0 < 2 ^ 31 by omega)]
    refine ot_i (in_nI (by omega) (by decide)) (ot_i (in_nI (by omega) (by decide)) (key _ _ (fun v hv => ?_)))
    by_cases h1 : v = a
    · rw [h1, up_s, hl0]
      refine lk_app l0 _ (by rw [← hl0]; exact g3 a ha) (fun hh => hnd.2.2 j0 hh j0 (by simp) rfl) (fun hh => ?_) (by omega)
      have := g5 a m ha (by rw [hl0]; exact List.mem_append_left _ hh)
      omega
    · rw [up_n h1]
      refine lk_up _ _ (lk_up _ _ (g3 v hv) (fun h => by have := g5 v m hv h; omega)) (fun hh => ?_)
      exact h1 (((w1 v j0 hv).mp hh).2.symm.trans ((w1 a j0 ha).mp hj0).2)
end CHG
