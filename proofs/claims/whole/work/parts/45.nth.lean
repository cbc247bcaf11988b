/-! PURE: the k-th of a kind -/
def nt_Q (n : Nat) (P : Nat → Prop) (k : Int32) {σ ρ : Type} (val : Nat → ρ) (z : σ ⊕ ρ) : Prop := match z with
  | .inl _ => ¬ ∃ i, i < n ∧ P i ∧ nI (cn_P P i) = k
  | .inr v => ∃ i, i < n ∧ P i ∧ nI (cn_P P i) = k ∧ v = val i
theorem nt_loop {ρ : Type} {n : Nat} {f : Int32 × Int32 → Option ((Int32 × Int32) ⊕ ((Int32 × Int32) ⊕ ρ))} (hn : n ≤ 200) (P : Nat → Prop) (k : Int32) (val : Nat → ρ) (hend : ∀ c, ot_T (f (nI c, nI n)) (ot_R (fun _ => False) (fun r => ∃ y, r = .inl y)))
    (hno : ∀ c i, i < n → ¬ P i → ot_T (f (nI c, nI i)) (fun z => z = .inl (nI c, nI (i + 1)))) (hhit : ∀ c i, c ≤ 200 → i < n → P i → nI c = k → ot_T (f (nI c, nI i)) (fun z => z = .inr (.inr (val i)))) (hmiss : ∀ c i, c ≤ 200 → i < n → P i → ¬ nI c = k → ot_T (f (nI c, nI i)) (fun z => z = .inl (nI (c + 1), nI (i + 1)))) :
    ot_T (ox_l f 1000000 (0, 0)) (nt_Q n P k val) := by
  refine ot_for (fun i x => x = (nI (cn_P P i), nI i) ∧ ¬ ∃ j, j < i ∧ P j ∧ nI (cn_P P j) = k) n ?_ ?_ 1000000 0 _ (Nat.zero_le _) ⟨by rw [show cn_P P 0 = 0 from rfl, nI_0], fun ⟨j, h, _⟩ => absurd h (Nat.not_lt_zero j)⟩ (by omega)
  · rintro i x hi ⟨rfl, q⟩
    have hc := cn_le (P := P) i
    by_cases hP : P i
    · by_cases hk : nI (cn_P P i) = k
      · refine ot_m (hhit _ i (by omega) hi hP hk) ?_
        rintro z rfl
        exact ⟨i, hi, hP, hk, rfl⟩
      · refine ot_m (hmiss _ i (by omega) hi hP hk) ?_
        rintro z rfl
        refine ⟨by rw [cn_t hP], fun ⟨j, j1, j2, j3⟩ => ?_⟩
        by_cases hji : j = i
        · rw [hji] at j3; exact hk j3
        · exact q ⟨j, by omega, j2, j3⟩
    · refine ot_m (hno _ i hi hP) ?_
      rintro z rfl
      refine ⟨by rw [cn_f hP], fun ⟨j, j1, j2, j3⟩ => ?_⟩
      by_cases hji : j = i
      · rw [hji] at j2; exact hP j2
      · exact q ⟨j, by omega, j2, j3⟩
  · rintro x ⟨rfl, q⟩
    refine ot_m (hend _) ?_
    rintro (y | r) h
    · exact h
    · obtain ⟨y, rfl⟩ := h
      exact q
section NT
variable {n m : Nat} {aj : Nat → List Nat} {fr to st : Nat → Nat} {lb hw ak en : Nat → Int32} {gab kc kn sz lw al ins gr pf : Nat → Int32} {I : Nat → Prop} {xf xp : Int32}
/-- both ends are one set -/
theorem en_same (hk : kp_E n m fr to lb hw gab I xf kc kn sz lw al ins gr) {al' : Nat → Int32} (hm : mp_E n m fr to lb hw I al' pf xp) : cz n kc = cz n al' := by
  obtain ⟨k1, k2, k3, k4, -⟩ := hk
  obtain ⟨m1, m2, m3, m4⟩ := hm
  funext v
  exact propext (fp_same (fun v hv => fp_end k2 k4 hv) k3 (fun v hv => fp_end m2 m4 hv) m3 v)
theorem kp_round (hk : kp_E n m fr to lb hw gab I xf kc kn sz lw al ins gr) {v : Nat} (hv : cz n kc v) : rd_Y m fr to (cz n kc) v := by
  obtain ⟨k1, k2, k3, k4, -⟩ := hk
  have hF := fp_end k2 k4 hv
  obtain ⟨w, w1, w2⟩ := hF.2.2.1 v v (fp_C_refl hv) (fp_C_refl hv)
  have hsub : ∀ x, fp_C m fr to (cz n kc) v x → cz n kc x := fun x h => h.2.1
  exact ⟨w, fp_E_mono hsub w1, rc_mono (fun _ _ he => fp_E_mono hsub he) w2⟩
/-- a knot's lowest state, by its number -/
theorem kp_low {K od : Nat → Nat} {f c : Nat} (hk : kp_E n m fr to lb hw gab I xf kc kn sz lw al ins gr) (hK : kn_P n m fr to (cz n kc) K od f c) {q w : Nat} (hq : q < f) (hw1 : w < n) (hw2 : K w = q + 1) (hw3 : ∀ v, v < w → K v ≠ q + 1) : lo_Y m fr to (cz n kc) w := by
  have hcw : cz n kc w := (hK.1 w hw1).mp (by omega)
  refine ⟨kp_round hk hcw, fun t ht hC => ?_⟩
  have := (hK.2.2.1 w t hcw hC.2.1).mpr hC
  exact hw3 t ht (by omega)
theorem kp_count {K od : Nat → Nat} {f c : Nat} (hk : kp_E n m fr to lb hw gab I xf kc kn sz lw al ins gr) (hK : kn_P n m fr to (cz n kc) K od f c) (hs : su_P n m fr to lb gab K f sz lw al ins gr) : f = cn_P (lo_Y m fr to (cz n kc)) n := by
  have hlow : ∀ q, ∃ w, q < f → w < n ∧ K w = q + 1 ∧ lo_Y m fr to (cz n kc) w := fun q => by
    by_cases hq : q < f
    · obtain ⟨w, w1, w2, w3, w4⟩ := hs.2.1 q hq
      exact ⟨w, fun _ => ⟨w1, w2, kp_low hk hK hq w1 w2 w4⟩⟩
    · exact ⟨0, fun h => absurd h hq⟩
  apply Nat.le_antisymm
  · refine ph_le _ f (fun q => cn_P (lo_Y m fr to (cz n kc)) (Classical.choose (hlow q))) (fun q hq => ?_) (fun i j hi hj e => ?_)
    · obtain ⟨a1, a2, a3⟩ := Classical.choose_spec (hlow q) hq
      exact cn_lt a3 a1
    · obtain ⟨a1, a2, a3⟩ := Classical.choose_spec (hlow i) hi
      obtain ⟨b1, b2, b3⟩ := Classical.choose_spec (hlow j) hj
      have := cn_inj a3 b3 e
      rw [this] at a2
      omega
  · have hhit : ∀ i, ∃ w, i < cn_P (lo_Y m fr to (cz n kc)) n → w < n ∧ lo_Y m fr to (cz n kc) w ∧ cn_P (lo_Y m fr to (cz n kc)) w = i := fun i => by
      by_cases hi : i < cn_P (lo_Y m fr to (cz n kc)) n
      · obtain ⟨w, w1, w2, w3⟩ := cn_hit hi
        exact ⟨w, fun _ => ⟨w1, w2, w3⟩⟩
      · exact ⟨0, fun h => absurd h hi⟩
    have hcz : ∀ w, lo_Y m fr to (cz n kc) w → cz n kc w := fun w h => (rp_X h.1).1
    refine ph_le f _ (fun i => K (Classical.choose (hhit i)) - 1) (fun i hi => ?_) (fun i j hi hj e => ?_)
    · obtain ⟨a1, a2, a3⟩ := Classical.choose_spec (hhit i) hi
      have h1 := (hK.1 _ a1).mpr (hcz _ a2)
      have h2 := hK.2.1 _ a1
      show K (Classical.choose (hhit i)) - 1 < f
      omega
    · obtain ⟨a1, a2, a3⟩ := Classical.choose_spec (hhit i) hi
      obtain ⟨b1, b2, b3⟩ := Classical.choose_spec (hhit j) hj
      have h1 := (hK.1 _ a1).mpr (hcz _ a2)
      have h2 := (hK.1 _ b1).mpr (hcz _ b2)
      have e : K (Classical.choose (hhit i)) - 1 = K (Classical.choose (hhit j)) - 1 := e
      have hC := (hK.2.2.1 _ _ (hcz _ a2) (hcz _ b2)).mp (by omega)
      have := lo_one a2 b2 hC
      rw [← a3, ← b3, this]
/-- the k-th fair part: the number of its knot -/
theorem kl_low (hn : n ≤ 200) (hk : kp_E n m fr to lb hw gab I xf kc kn sz lw al ins gr) (k : Int32) :
    ot_T (fn_X4_knotByLowestState (nI n) kc kn lw k) (fun r => (∃ i, i < n ∧ lo_Y m fr to (cz n kc) i ∧ nI (cn_P (lo_Y m fr to (cz n kc)) i) = k ∧ r = kn i) ∨ (r = -1 ∧ ¬ ∃ i, i < n ∧ lo_Y m fr to (cz n kc) i ∧ nI (cn_P (lo_Y m fr to (cz n kc)) i) = k)) := by
  obtain ⟨k1, k2, k3, k4, K, od, f, c, hK, hkn, hxf, hs⟩ := id hk
  unfold fn_X4_knotByLowestState
  -- at a chosen state: its knot, and whether it is the lowest
  have hat : ∀ i, i < n → cz n kc i → ∃ q, q < f ∧ K i = q + 1 ∧ kn i = nI q ∧ (lw q = nI i ↔ lo_Y m fr to (cz n kc) i) := by
    intro i hi hc
    have h1 := (hK.1 i hi).mpr hc
    have h2 := hK.2.1 i hi
    obtain ⟨q, hq⟩ : ∃ q, K i = q + 1 := ⟨K i - 1, by omega⟩
    refine ⟨q, by omega, hq, by rw [hkn i hi]; simp only [h1, if_false]; rw [hq]; rfl, ?_⟩
    obtain ⟨w, w1, w2, w3, w4⟩ := hs.2.1 q (by omega)
    rw [w3, nI_eq (by omega) (by omega)]
    constructor
    · rintro rfl; exact kp_low hk hK (by omega) w1 w2 w4
    · intro hlo
      have hlw := kp_low hk hK (show q < f by omega) w1 w2 w4
      exact lo_one hlw hlo ((hK.2.2.1 w i ((rp_X hlw.1).1) hc).mp (w2.trans hq.symm))
  have hfn := hK.2.2.2.2.2.2.2.2.1
  refine ot_b (nt_loop hn (lo_Y m fr to (cz n kc)) k kn (fun c => ?_) (fun c i hi hP => ?_) (fun c i hc hi hP hck => ?_) (fun c i hc hi hP hck => ?_)) ?_
  · unfold fn_X4_knotByLowestState_l4
    dsimp only
    exact ot_t (by rw [nI_leI (by omega) (by omega)]; exact Nat.le_refl _) (ot_s ⟨_, rfl⟩)
  · unfold fn_X4_knotByLowestState_l4
    dsimp only
    simp only [cl_nI (show i < 2 ^ 31 by omega)]
    refine ot_f (fun h => by rw [nI_leI (by omega) (by omega)] at h; omega) (ot_i (in_nI (by omega) (by decide)) ?_)
    rcases cz_or k1 i hi with ⟨z1, z2⟩ | ⟨z1, z2⟩
    · exact ot_t z1 (ot_s (by rw [nI_1]))
    · obtain ⟨q, q1, q2, q3, q4⟩ := hat i hi z2
      refine ot_f (by rw [z1]; decide) ?_
      rw [q3, cl_nI (show q < 2 ^ 31 by omega)]
      exact ot_i (in_nI (by omega) (by decide)) (ot_i (in_nI (by omega) (by decide)) (ot_f (fun h => hP (q4.mp h)) (ot_s (by rw [nI_1]))))
  · unfold fn_X4_knotByLowestState_l4
    dsimp only
    simp only [cl_nI (show i < 2 ^ 31 by omega)]
    have hci : cz n kc i := (rp_X hP.1).1
    obtain ⟨q, q1, q2, q3, q4⟩ := hat i hi hci
    refine ot_f (fun h => by rw [nI_leI (by omega) (by omega)] at h; omega) (ot_i (in_nI (by omega) (by decide)) (ot_f (by rw [hci.2]; decide) ?_))
    rw [q3, cl_nI (show q < 2 ^ 31 by omega)]
    exact ot_i (in_nI (by omega) (by decide)) (ot_i (in_nI (by omega) (by decide)) (ot_t (q4.mpr hP) (ot_t hck (ot_i (in_nI (by omega) (by decide)) (ot_s rfl)))))
  · unfold fn_X4_knotByLowestState_l4
    dsimp only
    simp only [cl_nI (show i < 2 ^ 31 by omega)]
    have hci : cz n kc i := (rp_X hP.1).1
    obtain ⟨q, q1, q2, q3, q4⟩ := hat i hi hci
    refine ot_f (fun h => by rw [nI_leI (by omega) (by omega)] at h; omega) (ot_i (in_nI (by omega) (by decide)) (ot_f (by rw [hci.2]; decide) ?_))
    rw [q3, cl_nI (show q < 2 ^ 31 by omega)]
    exact ot_i (in_nI (by omega) (by decide)) (ot_i (in_nI (by omega) (by decide)) (ot_t (q4.mpr hP) (ot_f hck (ot_s (by rw [nI_1, nI_1])))))
  · rintro (y | r) h
    · exact ot_s (Or.inr ⟨rfl, h⟩)
    · obtain ⟨i, h1, h2, h3, h4⟩ := h
      exact ot_s (Or.inl ⟨i, h1, h2, h3, h4⟩)
/-- the i-th state of a knot -/
theorem kl_state (hn : n ≤ 200) (hz : z01 n kc) (x j : Int32) :
    ot_T (fn_X4_stateOfKnot (nI n) kc kn x j) (fun r => (∃ i, i < n ∧ (cz n kc i ∧ kn i = x) ∧ nI (cn_P (fun v => cz n kc v ∧ kn v = x) i) = j ∧ r = nI i) ∨ (r = -1 ∧ ¬ ∃ i, i < n ∧ (cz n kc i ∧ kn i = x) ∧ nI (cn_P (fun v => cz n kc v ∧ kn v = x) i) = j)) := by
  unfold fn_X4_stateOfKnot
  refine ot_b (nt_loop hn (fun v => cz n kc v ∧ kn v = x) j (fun i => nI i) (fun c => ?_) (fun c i hi hP => ?_) (fun c i hc hi hP hck => ?_) (fun c i hc hi hP hck => ?_)) ?_
  · unfold fn_X4_stateOfKnot_l5
    dsimp only
    exact ot_t (by rw [nI_leI (by omega) (by omega)]; exact Nat.le_refl _) (ot_s ⟨_, rfl⟩)
  · unfold fn_X4_stateOfKnot_l5
    dsimp only
    simp only [cl_nI (show i < 2 ^ 31 by omega)]
    refine ot_f (fun h => by rw [nI_leI (by omega) (by omega)] at h; omega) (ot_i (in_nI (by omega) (by decide)) ?_)
    rcases cz_or hz i hi with ⟨z1, z2⟩ | ⟨z1, z2⟩
    · exact ot_t z1 (ot_s (by rw [nI_1]))
    · exact ot_f (by rw [z1]; decide) (ot_i (in_nI (by omega) (by decide)) (ot_f (fun h => hP ⟨z2, h⟩) (ot_s (by rw [nI_1]))))
  · unfold fn_X4_stateOfKnot_l5
    dsimp only
    simp only [cl_nI (show i < 2 ^ 31 by omega)]
    exact ot_f (fun h => by rw [nI_leI (by omega) (by omega)] at h; omega) (ot_i (in_nI (by omega) (by decide)) (ot_f (by rw [hP.1.2]; decide) (ot_i (in_nI (by omega) (by decide)) (ot_t hP.2 (ot_t hck (ot_s rfl))))))
  · unfold fn_X4_stateOfKnot_l5
    dsimp only
    simp only [cl_nI (show i < 2 ^ 31 by omega)]
    exact ot_f (fun h => by rw [nI_leI (by omega) (by omega)] at h; omega) (ot_i (in_nI (by omega) (by decide)) (ot_f (by rw [hP.1.2]; decide) (ot_i (in_nI (by omega) (by decide)) (ot_t hP.2 (ot_f hck (ot_s (by rw [nI_1, nI_1])))))))
  · rintro (y | r) h
    · exact ot_s (Or.inr ⟨rfl, h⟩)
    · obtain ⟨i, h1, h2, h3, h4⟩ := h
      exact ot_s (Or.inl ⟨i, h1, h2, h3, h4⟩)
end NT
