/-! PURE: the model's spread and close -/
theorem ix_N (s b : Nat) : (200 * nI s) + nI b = nI (200 * s + b) := by rw [show (200 : Int32) = nI 200 from rfl, pk_mul, nI_add]
/-- one row of 'reach' while it is spread: c found, q their line -/
def sp_I (n s : Nat) (X R : Nat → Prop) (re0 : Nat → Int32) (c : Nat) (q : Nat → Nat) (qu re : Nat → Int32) : Prop :=
  (∀ i, i < c → qu i = nI (q i)) ∧ (∀ i, i < c → q i < n ∧ X (q i) ∧ R (q i)) ∧ (∀ i j, i < c → j < c → q i = q j → i = j) ∧ (∀ b, b < n → (re (200 * s + b) = 1 ∧ ∃ i, i < c ∧ q i = b) ∨ (re (200 * s + b) = 0 ∧ ¬ ∃ i, i < c ∧ q i = b)) ∧ (∀ x, (∀ b, b < n → x ≠ 200 * s + b) → re x = re0 x)
theorem sp_c {n s : Nat} {X R : Nat → Prop} {re0 : Nat → Int32} {c : Nat} {q : Nat → Nat} {qu re : Nat → Int32} (h : sp_I n s X R re0 c q qu re) : c ≤ n := ph_le n c q (fun i hi => (h.2.1 i hi).1) h.2.2.1
section SPR
variable {n m : Nat} {aj : Nat → List Nat} {fr to : Nat → Nat} {mto mfi mnx al : Nat → Int32} {R : Nat → Prop} {re0 : Nat → Int32}
theorem sp_node (hg : gm_R n m aj to mto mfi mnx) (hz : z01 n al) {s a : Nat} (hs : s < n) (ha : a < n) (hR : ∀ j, j ∈ aj a → cz n al (to j) → R (to j)) {c : Nat} {q : Nat → Nat} {qu re : Nat → Int32} (hI : sp_I n s (cz n al) R re0 c q qu re) :
    ot_T (ox_l (fn_X5_spread_l34 mto al mnx (nI s)) 1000000 (nI c, mfi a, qu, re)) (fun r => ∃ c' q', r.1 = nI c' ∧ c ≤ c' ∧ (∀ i, i < c → q' i = q i) ∧ sp_I n s (cz n al) R re0 c' q' r.2.2.1 r.2.2.2 ∧ ∀ j, j ∈ aj a → cz n al (to j) → ∃ i, i < c' ∧ q' i = to j) := by
  obtain ⟨g1, g2, g3, g4, g5, g6⟩ := id hg
  refine ot_list (fun (l : List Nat) x => ∃ c' q', x.1 = nI c' ∧ lk mnx x.2.1 l ∧ (∀ j, j ∈ l → j ∈ aj a) ∧ c ≤ c' ∧ (∀ i, i < c → q' i = q i) ∧ sp_I n s (cz n al) R re0 c' q' x.2.2.1 x.2.2.2 ∧ ∀ j, j ∈ aj a → j ∈ l ∨ (cz n al (to j) → ∃ i, i < c' ∧ q' i = to j)) ?_ ?_ 1000000 (aj a) _ ⟨c, q, rfl, g3 a ha, fun _ h => h, Nat.le_refl _, fun _ _ => rfl, hI, fun _ h => Or.inl h⟩ (by have := g4 a ha; omega)
  · rintro b l ⟨v2, v5, qu, re⟩ ⟨c', q', e1, ⟨e2, h2⟩, h3, h4, h5, h6, h7⟩
    dsimp only at e1 e2 h2 h6
    subst e1
    subst e2
    have hb := h3 b (by simp)
    have hbm := g5 a b ha hb
    have hto := g6 b hbm
    have hcn := sp_c h6
    unfold fn_X5_spread_l34
    dsimp only
    simp only [cl_nI (show b < 2 ^ 31 by omega), hto.1, cl_nI (show to b < 2 ^ 31 by omega), ix_N, cl_nI (show 200 * s + to b < 2 ^ 31 by omega), nz_b1]
    refine ot_f (nI_m1 (by omega)) (ot_i (in_nI (by omega) (by decide)) (ot_i (in_nI (by omega) (by decide)) ?_))
    have hrest : ∀ j, j ∈ l → j ∈ aj a := fun j hj => h3 j (List.mem_cons_of_mem _ hj)
    have hskip : (cz n al (to b) → ∃ i, i < c' ∧ q' i = to b) → ∀ j, j ∈ aj a → j ∈ l ∨ (cz n al (to j) → ∃ i, i < c' ∧ q' i = to j) := by
      intro hb2 j hj
      rcases h7 j hj with h | h
      · rcases List.mem_cons.mp h with rfl | h
        · exact Or.inr hb2
        · exact Or.inl h
      · exact Or.inr h
    rcases cz_or hz (to b) hto.2 with ⟨z1, z2⟩ | ⟨z1, z2⟩
    · exact ot_t z1 (ot_i (in_nI (by omega) (by decide)) (ot_s ⟨c', q', rfl, h2, hrest, h4, h5, h6, hskip (fun h => absurd h z2)⟩))
    refine ot_f (by rw [z1]; decide) (ot_i (in_nI (by omega) (by decide)) ?_)
    rcases h6.2.2.2.1 (to b) hto.2 with ⟨r1, r2⟩ | ⟨r1, r2⟩
    · exact ot_f (by rw [r1]; decide) (ot_i (in_nI (by omega) (by decide)) (ot_s ⟨c', q', rfl, h2, hrest, h4, h5, h6, hskip (fun _ => r2)⟩))
    · have hnew : sp_I n s (cz n al) R re0 (c' + 1) (va_up q' c' (to b)) (upd qu c' (nI (to b))) (upd re (200 * s + to b) 1) := by
        obtain ⟨i1, i2, i3, i4, i5⟩ := h6
        have hne : ∀ i, i < c' → q' i ≠ to b := fun i hi e => r2 ⟨i, hi, e⟩
        refine ⟨fun i hi => ?_, fun i hi => ?_, fun i j hi hj e => ?_, fun x hx => ?_, fun x hx => ?_⟩
        · by_cases hic : i = c'
          · rw [hic, upd_s, up_s]
          · rw [upd_n hic, up_n hic]; exact i1 i (by omega)
        · by_cases hic : i = c'
          · rw [hic, up_s]; exact ⟨hto.2, z2, hR b hb z2⟩
          · rw [up_n hic]; exact i2 i (by omega)
        · by_cases hic : i = c'
          · by_cases hjc : j = c'
            · omega
            · rw [hic, up_s, up_n hjc] at e; exact absurd e.symm (hne j (by omega))
          · by_cases hjc : j = c'
            · rw [hjc, up_s, up_n hic] at e; exact absurd e (hne i (by omega))
            · rw [up_n hic, up_n hjc] at e; exact i3 i j (by omega) (by omega) e
        · by_cases hxb : x = to b
          · rw [hxb, upd_s]; exact Or.inl ⟨rfl, c', by omega, up_s⟩
          · rw [upd_n (by omega)]
            rcases i4 x hx with ⟨a1, i, a2, a3⟩ | ⟨a1, a2⟩
            · exact Or.inl ⟨a1, i, by omega, by rw [up_n (by omega)]; exact a3⟩
            · refine Or.inr ⟨a1, fun ⟨i, b1, b2⟩ => ?_⟩
              by_cases hic : i = c'
              · rw [hic, up_s] at b2; exact hxb b2.symm
              · rw [up_n hic] at b2; exact a2 ⟨i, by omega, b2⟩
        · rw [upd_n (hx (to b) hto.2)]; exact i5 x hx
      have hcn2 := sp_c hnew
      refine ot_t r1 (ot_i (in_nI (by omega) (by decide)) (ot_i (in_nI (by omega) (by decide)) (ot_i (in_nI (by omega) (by decide)) (ot_s ?_))))
      rw [cl_nI (show c' < 2 ^ 31 by omega)]
      refine ⟨c' + 1, _, nI_1 c', h2, hrest, by omega, fun i hi => by rw [up_n (by omega)]; exact h5 i hi, hnew, fun j hj => ?_⟩
      rcases h7 j hj with h | h
      · rcases List.mem_cons.mp h with rfl | h
        · exact Or.inr (fun _ => ⟨c', by omega, up_s⟩)
        · exact Or.inl h
      · refine Or.inr (fun hc => ?_)
        obtain ⟨i, a1, a2⟩ := h hc
        exact ⟨i, by omega, by rw [up_n (by omega)]; exact a2⟩
  · rintro ⟨v2, v5, qu, re⟩ ⟨c', q', e1, h2, h3, h4, h5, h6, h7⟩
    dsimp only at e1 h2 h6
    unfold fn_X5_spread_l34
    dsimp only
    refine ot_t h2 (ot_s ⟨c', q', e1, h4, h5, h6, fun j hj => ?_⟩)
    rcases h7 j hj with h | h
    · exact absurd h (by simp)
    · exact h
/-- a whole row -/
theorem sp_spread (hg : gm_R n m aj to mto mfi mnx) (ha : gr_A n m aj fr to) (hz : z01 n al) {s : Nat} (hs : cz n al s) {qu re : Nat → Int32} (h0 : ∀ b, b < n → re (200 * s + b) = 0) :
    ot_T (fn_X5_spread mto mfi mnx qu al re (nI s)) (fun r => (∀ b, b < n → (r.2 (200 * s + b) = 1 ∧ rp_R (fp_E m fr to (cz n al)) s b) ∨ (r.2 (200 * s + b) = 0 ∧ ¬ rp_R (fp_E m fr to (cz n al)) s b)) ∧ (∀ x, (∀ b, b < n → x ≠ 200 * s + b) → r.2 x = re x)) := by
  have hn := hg.1
  have hsn := hs.1
  have hedge : ∀ u j, u < n → cz n al u → j ∈ aj u → cz n al (to j) → fp_E m fr to (cz n al) u (to j) := fun u j hu h1 h2 h3 => ⟨h1, h3, j, ((ha.1 u j hu).mp h2).1, ((ha.1 u j hu).mp h2).2, rfl⟩
  -- at the end: what is marked is just what can be come to
  have hfin : ∀ (c : Nat) (q : Nat → Nat) (qu2 re2 : Nat → Int32), sp_I n s (cz n al) (rp_R (fp_E m fr to (cz n al)) s) re c q qu2 re2 → (∀ j, j ∈ aj s → cz n al (to j) → ∃ i, i < c ∧ q i = to j) → (∀ i, i < c → ∀ j, j ∈ aj (q i) → cz n al (to j) → ∃ i, i < c ∧ q i = to j) →
      (∀ b, b < n → (re2 (200 * s + b) = 1 ∧ rp_R (fp_E m fr to (cz n al)) s b) ∨ (re2 (200 * s + b) = 0 ∧ ¬ rp_R (fp_E m fr to (cz n al)) s b)) ∧ (∀ x, (∀ b, b < n → x ≠ 200 * s + b) → re2 x = re x) := by
    rintro c q qu2 re2 ⟨i1, i2, i3, i4, i5⟩ h1 h2
    refine ⟨fun b hb => ?_, i5⟩
    rcases i4 b hb with ⟨a1, i, a2, a3⟩ | ⟨a1, a2⟩
    · exact Or.inl ⟨a1, a3 ▸ (i2 i a2).2.2⟩
    · refine Or.inr ⟨a1, fun ⟨w, ⟨e1, e2, j, j1, j2, j3⟩, hw⟩ => a2 ?_⟩
      refine hw (fun x => ∃ i, i < c ∧ q i = x) ?_ ?_
      · have := h1 j ((ha.1 s j hsn).mpr ⟨j1, j2⟩) (j3 ▸ e2)
        rw [j3] at this; exact this
      · rintro u v ⟨i, hi, rfl⟩ ⟨f1, f2, j, k1, k2, k3⟩
        have := h2 i hi j ((ha.1 (q i) j (i2 i hi).1).mpr ⟨k1, k2⟩) (k3 ▸ f2)
        rw [k3] at this; exact this
  unfold fn_X5_spread
  refine ot_b (P := fun x => match x with
    | .inl _ => False
    | .inr r => (∀ b, b < n → (r.2 (200 * s + b) = 1 ∧ rp_R (fp_E m fr to (cz n al)) s b) ∨ (r.2 (200 * s + b) = 0 ∧ ¬ rp_R (fp_E m fr to (cz n al)) s b)) ∧ (∀ x, (∀ b, b < n → x ≠ 200 * s + b) → r.2 x = re x)) ?_ ?_
  · refine ot_loop (fun x => ∃ kk c q, x.1 = nI c ∧ x.2.1 + 1 = nI kk ∧ kk ≤ c ∧ sp_I n s (cz n al) (rp_R (fp_E m fr to (cz n al)) s) re c q x.2.2.1 x.2.2.2 ∧ (0 < kk → ∀ j, j ∈ aj s → cz n al (to j) → ∃ i, i < c ∧ q i = to j) ∧ (∀ i, i + 1 < kk → ∀ j, j ∈ aj (q i) → cz n al (to j) → ∃ i, i < c ∧ q i = to j) ∧ (kk = 0 → c = 0) ∧ (x.2.1 = if kk = 0 then -1 else nI (kk - 1))) (fun x => n + 1 - (x.2.1 + 1).toNatClampNeg) ?_ 1000000 _ ⟨0, 0, fun _ => 0, nI_0.symm, (show (-1 : Int32) + 1 = nI 0 by decide), Nat.le_refl _, ⟨fun i hi => absurd hi (Nat.not_lt_zero i), fun i hi => absurd hi (Nat.not_lt_zero i), fun i j hi => absurd hi (Nat.not_lt_zero i), fun b hb => Or.inr ⟨h0 b hb, fun ⟨i, hi, _⟩ => absurd hi (Nat.not_lt_zero i)⟩, fun _ _ => rfl⟩, fun h => absurd h (Nat.lt_irrefl 0), fun i hi => absurd hi (Nat.not_lt_zero _), fun _ => rfl, rfl⟩ (by omega)
    rintro ⟨v2, v3, qu, re1⟩ ⟨kk, c, q, e1, e2, h3, h4, h5, h6, h7, h8⟩
    dsimp only at e1 e2 h4 h8
    subst e1
    have hcn := sp_c h4
    -- the step, from the node a
    have hstep : ∀ a, a < n → (∀ j, j ∈ aj a → cz n al (to j) → rp_R (fp_E m fr to (cz n al)) s (to j)) → (kk = 0 → a = s) → (∀ i, kk = i + 1 → a = q i) →
        ot_T (fn_X5_spread_j23 mto al mnx (nI s) (nI c) mfi qu re1 v3 (nI a)) (ot_R (fun y => (∃ kk c q, y.1 = nI c ∧ y.2.1 + 1 = nI kk ∧ kk ≤ c ∧ sp_I n s (cz n al) (rp_R (fp_E m fr to (cz n al)) s) re c q y.2.2.1 y.2.2.2 ∧ (0 < kk → ∀ j, j ∈ aj s → cz n al (to j) → ∃ i, i < c ∧ q i = to j) ∧ (∀ i, i + 1 < kk → ∀ j, j ∈ aj (q i) → cz n al (to j) → ∃ i, i < c ∧ q i = to j) ∧ (kk = 0 → c = 0) ∧ (y.2.1 = if kk = 0 then -1 else nI (kk - 1))) ∧ n + 1 - (y.2.1 + 1).toNatClampNeg < n + 1 - (v3 + 1).toNatClampNeg) (fun x => match x with
          | .inl _ => False
          | .inr r => (∀ b, b < n → (r.2 (200 * s + b) = 1 ∧ rp_R (fp_E m fr to (cz n al)) s b) ∨ (r.2 (200 * s + b) = 0 ∧ ¬ rp_R (fp_E m fr to (cz n al)) s b)) ∧ (∀ x, (∀ b, b < n → x ≠ 200 * s + b) → r.2 x = re x))) := by
      intro a han hRa ha0 ha1
      unfold fn_X5_spread_j23
      simp only [cl_nI (show a < 2 ^ 31 by omega)]
      refine ot_i (in_nI (by omega) (by decide)) ?_
      refine ot_b (sp_node hg hz hsn han hRa h4) ?_
      rintro ⟨v2', v5', qu', re'⟩ ⟨c', q', f1, f2, f3, f4, f5⟩
      dsimp only at f1 f4 ⊢
      subst f1
      have hcn' := sp_c f4
      rw [e2]
      have hs1 : ∀ j, j ∈ aj s → cz n al (to j) → ∃ i, i < c' ∧ q' i = to j := by
        intro j hj hcj
        rcases Nat.eq_zero_or_pos kk with hk | hk
        · rw [ha0 hk] at f5; exact f5 j hj hcj
        · obtain ⟨i, b1, b2⟩ := h5 hk j hj hcj
          exact ⟨i, by omega, by rw [f3 i b1]; exact b2⟩
      have hs2 : ∀ i, i < kk → ∀ j, j ∈ aj (q' i) → cz n al (to j) → ∃ i, i < c' ∧ q' i = to j := by
        intro i hi j hj hcj
        rw [f3 i (by omega)] at hj
        by_cases hik : kk = i + 1
        · rw [ha1 i hik] at f5; exact f5 j hj hcj
        · obtain ⟨i', b1, b2⟩ := h6 i (by omega) j hj hcj
          exact ⟨i', by omega, by rw [f3 i' b1]; exact b2⟩
      by_cases hkc : kk = c'
      · refine ot_t (by rw [hkc]) (ot_s ?_)
        exact hfin c' q' qu' re' f4 hs1 (fun i hi => hs2 i (by omega))
      · refine ot_f (fun h => hkc ((nI_eq (by omega) (by omega)).mp h)) (ot_s ⟨⟨kk + 1, c', q', rfl, nI_1 kk, by omega, f4, fun _ => hs1, fun i hi => hs2 i (by omega), fun h => by omega, ?_⟩, ?_⟩)
        · simp
        · show n + 1 - (nI kk + 1).toNatClampNeg < n + 1 - (nI kk).toNatClampNeg
          rw [nI_1, cl_nI (by omega), cl_nI (by omega)]
          omega
    unfold fn_X5_spread_l4
    dsimp only
    rcases Nat.eq_zero_or_pos kk with hk | hk
    · subst hk
      have hv : v3 = -1 := by rw [h8]; rfl
      have hc0 := h7 rfl
      subst hc0
      refine ot_f (by rw [hv, nI_0]; decide) (ot_f (by rw [hv]; decide) ?_)
      exact hstep s hsn (fun j hj hcj => ⟨to j, hedge s j hsn hs hj hcj, rc_refl⟩) (fun _ => rfl) (fun i hi => by omega)
    · obtain ⟨k, rfl⟩ : ∃ k, kk = k + 1 := ⟨kk - 1, by omega⟩
      have hv : v3 = nI k := by rw [h8]; simp
      have hqk := h4.2.1 k (by omega)
      refine ot_f (by rw [hv, nI_leI (by omega) (by omega)]; omega) (ot_t (by rw [hv]; exact nI_pos' (by omega)) ?_)
      rw [hv, cl_nI (show k < 2 ^ 31 by omega), h4.1 k (by omega)]
      refine ot_i (in_nI (by omega) (by decide)) ?_
      have := hstep (q k) hqk.1 (fun j hj hcj => by
        obtain ⟨w, w1, w2⟩ := hqk.2.2
        exact ⟨w, w1, rc_trans w2 (rc_edge (hedge (q k) j hqk.1 hqk.2.1 hj hcj))⟩) (fun h => by omega) (fun i hi => by rw [show k = i by omega])
      rw [hv] at this
      exact this
  · rintro (x | ⟨qu2, re2⟩) h
    · exact absurd h id
    · exact ot_s h
end SPR
