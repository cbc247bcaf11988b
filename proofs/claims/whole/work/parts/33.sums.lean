/-! PURE: Sums.take -/
/-- how many v below i have K v = q -/
def ct_N (K : Nat → Nat) (q i : Nat) : Nat := sm_N (fun v => if K v = q then 1 else 0) i
theorem ct_le {K : Nat → Nat} {q : Nat} : ∀ i, ct_N K q i ≤ i := by
  intro i
  induction i with
  | zero => exact Nat.le_refl _
  | succ i ih =>
    have : ct_N K q (i + 1) = ct_N K q i + (if K i = q then 1 else 0) := rfl
    rw [this]
    split <;> omega
theorem ct_s {K : Nat → Nat} {q i : Nat} : ct_N K q (i + 1) = ct_N K q i + (if K i = q then 1 else 0) := rfl
theorem ct_0 {K : Nat → Nat} {q : Nat} : ∀ {i : Nat}, ct_N K q i = 0 ↔ ∀ v, v < i → K v ≠ q := by
  intro i
  induction i with
  | zero => exact ⟨fun _ v h => absurd h (Nat.not_lt_zero v), fun _ => rfl⟩
  | succ i ih =>
    rw [ct_s]
    constructor
    · intro h v hv e
      by_cases hi : K i = q
      · simp only [hi, if_true] at h; omega
      · simp only [hi, if_false] at h
        by_cases hvi : v = i
        · rw [hvi] at e; exact hi e
        · exact ih.mp (by omega) v (by omega) e
    · intro h
      have h1 := ih.mpr (fun v hv => h v (by omega))
      have h2 := h i (by omega)
      simp only [h2, if_false, h1]
/-- the moves, as told -/
def gs_R (n m : Nat) (fr to : Nat → Nat) (lb : Nat → Int32) (gfr gto glb : Nat → Int32) : Prop :=
  ∀ j, j < m → gfr j = nI (fr j) ∧ fr j < n ∧ gto j = nI (to j) ∧ to j < n ∧ glb j = lb j ∧ (lb j = -1 ∨ ∃ l, l < 16 ∧ lb j = nI l)
/-- knot q has a move inside; one with the label of bit b -/
def kq_in (m : Nat) (fr to K : Nat → Nat) (q j : Nat) : Prop := j < m ∧ K (fr j) = q + 1 ∧ K (to j) = q + 1
/-- what Sums.take leaves, knot by knot -/
def su_P (n m : Nat) (fr to : Nat → Nat) (lb : Nat → Int32) (gab : Nat → Int32) (K : Nat → Nat) (f : Nat) (sz lw al ins gr : Nat → Int32) : Prop :=
  (∀ q, q < f → sz q = nI (ct_N K (q + 1) n)) ∧ (∀ q, q < f → ∃ w, w < n ∧ K w = q + 1 ∧ lw q = nI w ∧ ∀ v, v < w → K v ≠ q + 1) ∧
  (∀ q b, q < f → b < 32 → (bt (al q) b = true ↔ ∀ v, v < n → K v = q + 1 → bt (gab v) b = true)) ∧
  (∀ q b, q < f → b < 32 → (bt (ins q) b = true ↔ ∃ j, kq_in m fr to K q j ∧ lb j = nI b)) ∧
  (∀ q, q < f → (gr q = 1 ∧ ∃ j, kq_in m fr to K q j) ∨ (gr q = 0 ∧ ¬ ∃ j, kq_in m fr to K q j))
section SU
variable {n m : Nat} {fr to : Nat → Nat} {lb : Nat → Int32} {gfr gto glb gab kc kn : Nat → Int32} {ch : Nat → Prop} {K : Nat → Nat} {f : Nat}
theorem su_clear (hf : f ≤ 200) {sz al ins gr : Nat → Int32} : ot_T (ox_l (fn_X3_take_l2 (nI f)) 1000000 (0, sz, al, ins, gr)) (fun r => ∀ q, q < f → r.2.1 q = 0 ∧ r.2.2.1 q = -1 ∧ r.2.2.2.1 q = 0 ∧ r.2.2.2.2 q = 0) := by
  refine ot_for (fun i x => x.1 = nI i ∧ ∀ q, q < i → x.2.1 q = 0 ∧ x.2.2.1 q = -1 ∧ x.2.2.2.1 q = 0 ∧ x.2.2.2.2 q = 0) f ?_ ?_ 1000000 0 _ (Nat.zero_le _) ⟨nI_0.symm, fun v h => absurd h (Nat.not_lt_zero v)⟩ (by omega)
  · rintro i ⟨v3, a, b, c, d⟩ hi ⟨rfl, h⟩
    dsimp only at h
    unfold fn_X3_take_l2
    dsimp only
    simp only [cl_nI (show i < 2 ^ 31 by omega), nz_b0]
    refine ot_f (fun h => by rw [nI_leI (by omega) (by omega)] at h; omega) (ot_i (in_nI (by omega) (by decide)) (ot_i (in_nI (by omega) (by decide)) (ot_i (in_nI (by omega) (by decide)) (ot_i (in_nI (by omega) (by decide)) (ot_s ⟨nI_1 i, fun v hv => ?_⟩)))))
    show upd a i 0 v = 0 ∧ upd b i (-1) v = -1 ∧ upd c i 0 v = 0 ∧ upd d i 0 v = 0
    by_cases hvi : v = i
    · rw [hvi, upd_s, upd_s, upd_s, upd_s]; exact ⟨rfl, rfl, rfl, rfl⟩
    · rw [upd_n hvi, upd_n hvi, upd_n hvi, upd_n hvi]; exact h v (by omega)
  · rintro ⟨v3, a, b, c, d⟩ ⟨rfl, h⟩
    unfold fn_X3_take_l2
    dsimp only
    exact ot_t (by rw [nI_leI (by omega) (by omega)]; exact Nat.le_refl _) (ot_s h)
theorem su_addState {sz lw al : Nat → Int32} {s q : Nat} {ab : Int32} (hq : q < 200) : fn_X3_addState sz lw al (nI s) (nI q) ab = some (upd sz q (sz q + 1), (if sz q = 0 then upd lw q (nI s) else lw), upd al q (al q &&& ab)) := by
  unfold fn_X3_addState fn_X3_addState_j16
  have e1 : ox_in (nI q) 200 = true := ox_in_t (in_nI hq (by decide))
  simp only [e1, cl_nI (show q < 2 ^ 31 by omega)]
  by_cases h : sz q = 0
  · simp only [h, if_true]; rfl
  · simp only [h, if_false]; rfl
theorem su_states (hn : n ≤ 200) (hf : f ≤ n) (hch : ∀ v, v < n → (kc v = 0 ∧ ¬ ch v) ∨ (kc v = 1 ∧ ch v)) (hK1 : ∀ v, v < n → (K v ≠ 0 ↔ ch v)) (hK2 : ∀ v, v < n → K v ≤ f) (hkn : ∀ v, v < n → kn v = if K v = 0 then -1 else nI (K v - 1)) {sz lw al : Nat → Int32} (h0 : ∀ q, q < f → sz q = 0 ∧ al q = -1) :
    ot_T (ox_l (fn_X3_take_l46 (nI n) kc kn gab) 1000000 (0, sz, lw, al)) (fun r => (∀ q, q < f → r.2.1 q = nI (ct_N K (q + 1) n)) ∧ (∀ q, q < f → (∃ v, v < n ∧ K v = q + 1) → ∃ w, w < n ∧ K w = q + 1 ∧ r.2.2.1 q = nI w ∧ ∀ v, v < w → K v ≠ q + 1) ∧ (∀ q b, q < f → b < 32 → (bt (r.2.2.2 q) b = true ↔ ∀ v, v < n → K v = q + 1 → bt (gab v) b = true))) := by
  refine ot_for (fun i x => x.1 = nI i ∧ (∀ q, q < f → x.2.1 q = nI (ct_N K (q + 1) i)) ∧ (∀ q, q < f → (∃ v, v < i ∧ K v = q + 1) → ∃ w, w < i ∧ K w = q + 1 ∧ x.2.2.1 q = nI w ∧ ∀ v, v < w → K v ≠ q + 1) ∧ (∀ q b, q < f → b < 32 → (bt (x.2.2.2 q) b = true ↔ ∀ v, v < i → K v = q + 1 → bt (gab v) b = true))) n ?_ ?_ 1000000 0 _ (Nat.zero_le _) ?_ (by omega)
  · rintro i ⟨v3, sz, lw, al⟩ hi ⟨rfl, q1, q2, q3⟩
    dsimp only at q1 q2 q3
    unfold fn_X3_take_l46
    dsimp only
    simp only [cl_nI (show i < 2 ^ 31 by omega)]
    refine ot_f (fun h => by rw [nI_leI (by omega) (by omega)] at h; omega) (ot_i (in_nI (by omega) (by decide)) ?_)
    rcases hch i hi with ⟨z1, z2⟩ | ⟨z1, z2⟩
    · have hKi : K i = 0 := Decidable.byContradiction (fun h => z2 ((hK1 i hi).mp h))
      refine ot_t z1 (ot_s ⟨nI_1 i, fun q hq => ?_, fun q hq => ?_, fun q b hq hb => ?_⟩)
      · show sz q = _
        have : ¬ K i = q + 1 := by omega
        rw [ct_s]; simp only [this, if_false]; exact q1 q hq
      · rintro ⟨v, hv, e⟩
        have hvi : v ≠ i := fun h => by rw [h, hKi] at e; omega
        obtain ⟨w, w1, w2, w3, w4⟩ := q2 q hq ⟨v, by omega, e⟩
        exact ⟨w, by omega, w2, w3, w4⟩
      · show bt (al q) b = true ↔ _
        rw [q3 q b hq hb]
        exact ⟨fun h v hv e => h v (by rcases Nat.lt_or_ge v i with q | q; exact q; exfalso; have : v = i := by omega
                                       rw [this, hKi] at e; omega) e, fun h v hv e => h v (by omega) e⟩
    · have hKi : K i ≠ 0 := (hK1 i hi).mpr z2
      have hKf := hK2 i hi
      obtain ⟨q0, hq0⟩ : ∃ q0, K i = q0 + 1 := ⟨K i - 1, by omega⟩
      have hkni : kn i = nI q0 := by rw [hkn i hi]; simp only [hKi, if_false]; rw [hq0]; rfl
      refine ot_f (by rw [z1]; decide) (ot_i (in_nI (by omega) (by decide)) (ot_i (in_nI (by omega) (by decide)) ?_))
      rw [hkni, su_addState (by omega)]
      refine ot_b (ot_s (Q := fun z => z = _) rfl) (fun z hz => ?_)
      subst hz
      have hcl := ct_le (K := K) (q := q0 + 1) i
      have hs0 : (sz q0 = 0) ↔ ∀ v, v < i → K v ≠ q0 + 1 := by
        rw [q1 q0 (by omega), ← ct_0]
        exact ⟨fun h => (nI_eq (by omega) (by decide)).mp (h.trans nI_0.symm), fun h => by rw [h]; exact nI_0⟩
      refine ot_s ⟨nI_1 i, fun q hq => ?_, fun q hq => ?_, fun q b hq hb => ?_⟩
      · show upd sz q0 (sz q0 + 1) q = _
        rw [ct_s]
        by_cases hqq : q = q0
        · rw [hqq, upd_s, q1 q0 (by omega), nI_1]; simp only [hq0, if_true]
        · have : ¬ K i = q + 1 := by omega
          rw [upd_n hqq]; simp only [this, if_false]; exact q1 q hq
      · rintro ⟨v, hv, e⟩
        show ∃ w, w < i + 1 ∧ K w = q + 1 ∧ (if sz q0 = 0 then upd lw q0 (nI i) else lw) q = nI w ∧ ∀ v, v < w → K v ≠ q + 1
        by_cases hqq : q = q0
        · subst hqq
          by_cases hs : sz q = 0
          · simp only [hs, if_true]
            exact ⟨i, by omega, hq0, upd_s, hs0.mp hs⟩
          · simp only [hs, if_false]
            have : ∃ v, v < i ∧ K v = q + 1 := Classical.byContradiction (fun hno => hs (hs0.mpr (fun v hv e => hno ⟨v, hv, e⟩)))
            obtain ⟨w, w1, w2, w3, w4⟩ := q2 q hq this
            exact ⟨w, by omega, w2, w3, w4⟩
        · have hvi : v ≠ i := fun h => by rw [h, hq0] at e; omega
          obtain ⟨w, w1, w2, w3, w4⟩ := q2 q hq ⟨v, by omega, e⟩
          refine ⟨w, by omega, w2, ?_, w4⟩
          by_cases hs : sz q0 = 0
          · simp only [hs, if_true]; rw [upd_n hqq]; exact w3
          · simp only [hs, if_false]; exact w3
      · show bt (upd al q0 (al q0 &&& gab i) q) b = true ↔ _
        by_cases hqq : q = q0
        · subst hqq
          rw [upd_s, b_and, Bool.and_eq_true, q3 q b hq hb]
          constructor
          · rintro ⟨h1, h2⟩ v hv e
            by_cases hvi : v = i
            · rw [hvi]; exact h2
            · exact h1 v (by omega) e
          · intro h
            exact ⟨fun v hv e => h v (by omega) e, h i (by omega) hq0⟩
        · rw [upd_n hqq, q3 q b hq hb]
          constructor
          · intro h v hv e
            have hvi : v ≠ i := fun h' => by rw [h', hq0] at e; omega
            exact h v (by omega) e
          · intro h v hv e
            exact h v (by omega) e
  · rintro ⟨v3, sz, lw, al⟩ ⟨rfl, q1, q2, q3⟩
    unfold fn_X3_take_l46
    dsimp only
    exact ot_t (by rw [nI_leI (by omega) (by omega)]; exact Nat.le_refl _) (ot_s ⟨q1, q2, q3⟩)
  · refine ⟨nI_0.symm, fun q hq => (h0 q hq).1.trans nI_0.symm, fun q hq => ?_, fun q b hq hb => ?_⟩
    · rintro ⟨v, hv, -⟩; exact absurd hv (Nat.not_lt_zero v)
    · show bt (al q) b = true ↔ _
      rw [(h0 q hq).2, b_m1 b hb]
      exact ⟨fun _ v hv => absurd hv (Nat.not_lt_zero v), fun _ => rfl⟩
end SU
