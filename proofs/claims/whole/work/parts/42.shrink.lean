section SI
variable {n m : Nat} {aj : Nat → List Nat} {fr to : Nat → Nat} {lb hw : Nat → Int32} {mfr mto mlb mfi mnx mhw al pf : Nat → Int32} {N : Nat}
theorem tk_z {l p : Nat} {al' : Nat → Int32} (hz : z01 n al) (h : tk_A n m fr lb pf l p al al') : z01 n al' := by
  intro v hv
  by_cases hc : al v = 1 ∧ pf v = nI p ∧ fp_ab m fr lb l v
  · exact Or.inl ((h v hv).1 hc)
  · rw [(h v hv).2 hc]; exact hz v hv
/-- the labels of one part -/
theorem sh_part (hg : gm_R n m aj to mto mfi mnx) (ha : gr_A n m aj fr to) (hs : gs_R n m fr to lb mfr mto mlb) (hh : ∀ l, l < 16 → mhw l = hw l) (hz : z01 n al) (p : Nat) :
    ot_T (ox_l (fn_X5_shrink_l15 (nI n) (nI m) mfr mto mlb mhw mfi mnx pf (nI p)) 1000000 (0, 0, al)) (fun r => (r.1 = 0 ∧ r.2.2 = al ∧ ∀ l, l < 16 → ¬ tk_T n m fr to lb hw pf l p) ∨ (r.1 = 1 ∧ ∃ l, l < 16 ∧ tk_A n m fr lb pf l p al r.2.2 ∧ tk_T n m fr to lb hw pf l p)) := by
  refine ot_for (fun i x => x.2.1 = nI i ∧ ((x.1 = 0 ∧ x.2.2 = al ∧ ∀ l, l < i → ¬ tk_T n m fr to lb hw pf l p) ∨ (x.1 = 1 ∧ ∃ l, l < 16 ∧ tk_A n m fr lb pf l p al x.2.2 ∧ tk_T n m fr to lb hw pf l p))) 16 ?_ ?_ 1000000 0 _ (Nat.zero_le _) ⟨nI_0.symm, Or.inl ⟨rfl, rfl, fun l h => absurd h (Nat.not_lt_zero l)⟩⟩ (by omega)
  · rintro i ⟨v4, v5, al2⟩ hi ⟨e1, q⟩
    dsimp only at e1 q
    subst e1
    unfold fn_X5_shrink_l15
    dsimp only
    refine ot_f (fun h => by rw [show (16 : Int32) = nI 16 from rfl, nI_leI (by omega) (by omega)] at h; omega) ?_
    rcases q with ⟨rfl, rfl, q⟩ | ⟨rfl, q⟩
    · refine ot_t rfl ?_
      refine ot_b (sh_away hg ha hs hh hz hi) ?_
      rintro ⟨r, al3⟩ (⟨h1, h2, h3⟩ | ⟨h1, h2, h3⟩)
      · dsimp only at h1 h2
        subst h1
        subst h2
        refine ot_s ⟨nI_1 i, Or.inl ⟨rfl, rfl, fun l hl => ?_⟩⟩
        by_cases hli : l = i
        · rw [hli]; exact h3
        · exact q l (by omega)
      · exact ot_s ⟨nI_1 i, Or.inr ⟨h1, i, hi, h2, h3⟩⟩
    · exact ot_f (by decide) (ot_s (Or.inr ⟨rfl, q⟩))
  · rintro ⟨v4, v5, al2⟩ ⟨e1, q⟩
    dsimp only at e1 q
    subst e1
    unfold fn_X5_shrink_l15
    dsimp only
    exact ot_t (by decide) (ot_s q)
theorem sh_shrink (hg : gm_R n m aj to mto mfi mnx) (ha : gr_A n m aj fr to) (hs : gs_R n m fr to lb mfr mto mlb) (hh : ∀ l, l < 16 → mhw l = hw l) (hz : z01 n al) (hN : N ≤ 200) (hal : ∀ v p, v < n → p < N → pf v = nI p → al v = 1) (hne : ∀ p, p < N → ∃ v, v < n ∧ pf v = nI p) :
    ot_T (fn_X5_shrink (nI n) (nI m) mfr mto mlb mhw mfi mnx al pf (nI N)) (fun r => z01 n r.2 ∧ (∀ v, v < n → r.2 v = al v ∨ (r.2 v = 0 ∧ al v = 1 ∧ ∃ l p, l < 16 ∧ p < N ∧ tk_T n m fr to lb hw pf l p ∧ pf v = nI p ∧ fp_ab m fr lb l v)) ∧ ((r.1 = 0 ∧ (∀ v, v < n → r.2 v = al v) ∧ ∀ p l, p < N → l < 16 → ¬ tk_T n m fr to lb hw pf l p) ∨ (r.1 = 1 ∧ ∃ v, v < n ∧ al v = 1 ∧ r.2 v = 0))) := by
  unfold fn_X5_shrink
  refine ot_b (P := fun x => z01 n x.2.2 ∧ (∀ v, v < n → x.2.2 v = al v ∨ (x.2.2 v = 0 ∧ al v = 1 ∧ ∃ l p, l < 16 ∧ p < N ∧ tk_T n m fr to lb hw pf l p ∧ pf v = nI p ∧ fp_ab m fr lb l v)) ∧ ((x.1 = 0 ∧ (∀ v, v < n → x.2.2 v = al v) ∧ ∀ p l, p < N → l < 16 → ¬ tk_T n m fr to lb hw pf l p) ∨ (x.1 = 1 ∧ ∃ v, v < n ∧ al v = 1 ∧ x.2.2 v = 0))) ?_ ?_
  · refine ot_for (fun i x => x.2.1 = nI i ∧ z01 n x.2.2 ∧ (∀ v, v < n → x.2.2 v = al v ∨ (x.2.2 v = 0 ∧ al v = 1 ∧ ∃ l p, l < 16 ∧ p < i ∧ tk_T n m fr to lb hw pf l p ∧ pf v = nI p ∧ fp_ab m fr lb l v)) ∧ ((x.1 = 0 ∧ (∀ v, v < n → x.2.2 v = al v) ∧ ∀ p l, p < i → l < 16 → ¬ tk_T n m fr to lb hw pf l p) ∨ (x.1 = 1 ∧ ∃ v, v < n ∧ al v = 1 ∧ x.2.2 v = 0))) N ?_ ?_ 1000000 0 _ (Nat.zero_le _) ⟨nI_0.symm, hz, fun v _ => Or.inl rfl, Or.inl ⟨rfl, fun _ _ => rfl, fun p l h => absurd h (Nat.not_lt_zero p)⟩⟩ (by omega)
    · rintro i ⟨v2, v3, al2⟩ hi ⟨e1, q0, q1, q2⟩
      dsimp only at e1 q0 q1 q2
      subst e1
      unfold fn_X5_shrink_l4
      dsimp only
      refine ot_f (fun h => by rw [nI_leI (by omega) (by omega)] at h; omega) ?_
      refine ot_b (sh_part hg ha hs hh q0 i) ?_
      rintro ⟨v4, v5, al3⟩ hr
      dsimp only at hr ⊢
      have h01 : v2 = 0 ∨ v2 = 1 := by
        rcases q2 with ⟨h, -⟩ | ⟨h, -⟩
        · exact Or.inl h
        · exact Or.inr h
      rcases hr with ⟨rfl, rfl, h3⟩ | ⟨rfl, l, l1, l2, l3⟩
      · have hq1 : ∀ v, v < n → al3 v = al v ∨ (al3 v = 0 ∧ al v = 1 ∧ ∃ l p, l < 16 ∧ p < i + 1 ∧ tk_T n m fr to lb hw pf l p ∧ pf v = nI p ∧ fp_ab m fr lb l v) := by
          intro v hv
          rcases q1 v hv with h | ⟨a1, a2, l, p, a3, a4, a5⟩
          · exact Or.inl h
          · exact Or.inr ⟨a1, a2, l, p, a3, by omega, a5⟩
        rcases q2 with ⟨rfl, b1, b2⟩ | ⟨rfl, b1⟩
        · refine ot_t rfl (ot_t rfl (ot_s ⟨nI_1 i, q0, hq1, Or.inl ⟨rfl, b1, fun p l hp hl => ?_⟩⟩))
          by_cases hpi : p = i
          · rw [hpi]; exact h3 l hl
          · exact b2 p l (by omega) hl
        · exact ot_f (by decide) (ot_s ⟨nI_1 i, q0, hq1, Or.inr ⟨rfl, b1⟩⟩)
      · have hz3 := tk_z q0 l2
        have hq1 : ∀ v, v < n → al3 v = al v ∨ (al3 v = 0 ∧ al v = 1 ∧ ∃ l p, l < 16 ∧ p < i + 1 ∧ tk_T n m fr to lb hw pf l p ∧ pf v = nI p ∧ fp_ab m fr lb l v) := by
          intro v hv
          by_cases hc : al2 v = 1 ∧ pf v = nI i ∧ fp_ab m fr lb l v
          · exact Or.inr ⟨(l2 v hv).1 hc, hal v i hv hi hc.2.1, l, i, l1, by omega, l3, hc.2⟩
          · rw [(l2 v hv).2 hc]
            rcases q1 v hv with h | ⟨a1, a2, l, p, a3, a4, a5⟩
            · exact Or.inl h
            · exact Or.inr ⟨a1, a2, l, p, a3, by omega, a5⟩
        -- one is taken
        have hone : ∃ v, v < n ∧ al v = 1 ∧ al3 v = 0 := by
          have hv : ∃ v, v < n ∧ pf v = nI i ∧ fp_ab m fr lb l v := by
            by_cases hw1 : hw l = 1
            · obtain ⟨v, v1, v2⟩ := hne i hi
              exact ⟨v, v1, v2, l3.2.2.1 hw1 v v1 v2⟩
            · exact l3.2.2.2 hw1
          obtain ⟨v, v1, v2, v3⟩ := hv
          have hv1 := hal v i v1 hi v2
          refine ⟨v, v1, hv1, (l2 v v1).1 ⟨?_, v2, v3⟩⟩
          rcases q1 v v1 with h | ⟨a1, a2, l', p, a3, a4, a5, a6, a7⟩
          · rw [h]; exact hv1
          · exfalso
            rw [v2] at a6
            have := (nI_eq (by omega) (by omega)).mp a6
            omega
        rcases h01 with rfl | rfl
        · exact ot_t rfl (ot_f (by decide) (ot_s ⟨nI_1 i, hz3, hq1, Or.inr ⟨rfl, hone⟩⟩))
        · exact ot_f (by decide) (ot_s ⟨nI_1 i, hz3, hq1, Or.inr ⟨rfl, hone⟩⟩)
    · rintro ⟨v2, v3, al2⟩ ⟨e1, q0, q1, q2⟩
      dsimp only at e1 q0 q1 q2
      subst e1
      unfold fn_X5_shrink_l4
      dsimp only
      exact ot_t (by rw [nI_leI (by omega) (by omega)]; exact Nat.le_refl _) (ot_s ⟨q0, q1, q2⟩)
  · rintro ⟨v2, v3, al2⟩ ⟨q0, q1, q2⟩
    dsimp only at q0 q1 q2 ⊢
    refine ot_z ?_ (ot_s ⟨q0, q1, q2⟩)
    rcases q2 with ⟨h, -⟩ | ⟨h, -⟩
    · exact Or.inl h
    · exact Or.inr h
/-- the parts as they stand: alive just what goes round, numbered by their lowest states -/
def mp_S (n m : Nat) (fr to : Nat → Nat) (al pf : Nat → Int32) (xn : Int32) : Prop :=
  z01 n al ∧ (∀ v, cz n al v → rd_Y m fr to (cz n al) v) ∧ (∀ v, v < n → (cz n al v → ∃ w, w ≤ v ∧ lo_Y m fr to (cz n al) w ∧ fp_C m fr to (cz n al) v w ∧ pf v = nI (cn_P (lo_Y m fr to (cz n al)) w)) ∧ (¬ cz n al v → pf v = -1)) ∧ xn = nI (cn_P (lo_Y m fr to (cz n al)) n)
theorem mp_of {X : Nat → Prop} {al' : Nat → Int32} {xn : Int32} (hXn : ∀ v, X v → v < n) (h1 : xn = nI (cn_P (lo_Y m fr to X) n)) (h2 : ∀ v, v < n → pt_V m fr to X pf v) (h3 : z01 n al') (h4 : ∀ v, cz n al' v ↔ (v < n ∧ rd_Y m fr to X v)) : mp_S n m fr to al' pf xn := by
  have hY : ∀ v, cz n al' v ↔ rd_Y m fr to X v := fun v => ⟨fun h => ((h4 v).mp h).2, fun h => (h4 v).mpr ⟨hXn v (rp_X h).1, h⟩⟩
  have hlo : ∀ u, lo_Y m fr to X u ↔ lo_Y m fr to (cz n al') u := fun u => lo_Y_Y hY
  have hcn : ∀ k, cn_P (lo_Y m fr to X) k = cn_P (lo_Y m fr to (cz n al')) k := fun k => cn_congr (fun v _ => hlo v)
  refine ⟨h3, fun v hv => rd_Y_Y hY hv, fun v hv => ⟨fun hc => ?_, fun hc => (h2 v hv).2 (fun h => hc ((hY v).mpr h))⟩, by rw [h1, hcn]⟩
  obtain ⟨w, w1, w2, w3, w4⟩ := (h2 v hv).1 ((hY v).mp hc)
  exact ⟨w, w1, (hlo w).mp w2, (rd_C_Y hY hc).mp w3, by rw [w4, hcn]⟩
/-- a part's number, and its knot -/
theorem mp_C {xn : Int32} (hn : n ≤ 200) (h : mp_S n m fr to al pf xn) {u v : Nat} (hu : cz n al u) (hv : v < n) : (pf v = pf u ↔ fp_C m fr to (cz n al) u v) := by
  obtain ⟨h1, h2, h3, h4⟩ := h
  obtain ⟨w, w1, w2, w3, w4⟩ := (h3 u hu.1).1 hu
  have hcw := cn_le (P := lo_Y m fr to (cz n al)) w
  have hun := hu.1
  constructor
  · intro e
    by_cases hcv : cz n al v
    · obtain ⟨x, x1, x2, x3, x4⟩ := (h3 v hv).1 hcv
      have hcx := cn_le (P := lo_Y m fr to (cz n al)) x
      rw [x4, w4] at e
      have e2 := (nI_eq (by omega) (by omega)).mp e
      have e3 := cn_inj x2 w2 e2
      rw [e3] at x3
      exact fp_C_trans w3 (fp_C_symm x3)
    · rw [(h3 v hv).2 hcv, w4] at e
      exact absurd e.symm (nI_m1 (by omega))
  · intro hC
    obtain ⟨x, x1, x2, x3, x4⟩ := (h3 v hv).1 hC.2.1
    have e3 : x = w := lo_one x2 w2 (fp_C_trans (fp_C_symm x3) (fp_C_trans (fp_C_symm hC) w3))
    rw [x4, w4, e3]
end SI
