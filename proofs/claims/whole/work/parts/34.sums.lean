section SV
variable {n m : Nat} {fr to : Nat → Nat} {lb : Nat → Int32} {gfr gto glb gab kc kn : Nat → Int32} {ch : Nat → Prop} {K : Nat → Nat} {f : Nat}
theorem su_moves (hn : n ≤ 200) (hm : m ≤ 600) (hf : f ≤ n) (hg : gs_R n m fr to lb gfr gto glb) (hch : ∀ v, v < n → (kc v = 0 ∧ ¬ ch v) ∨ (kc v = 1 ∧ ch v)) (hK1 : ∀ v, v < n → (K v ≠ 0 ↔ ch v)) (hK2 : ∀ v, v < n → K v ≤ f) (hkn : ∀ v, v < n → kn v = if K v = 0 then -1 else nI (K v - 1)) {ins gr : Nat → Int32} (h0 : ∀ q, q < f → ins q = 0 ∧ gr q = 0) :
    ot_T (ox_l (fn_X3_take_l88 (nI m) gfr kc gto kn glb) 1000000 (0, ins, gr)) (fun r => (∀ q b, q < f → b < 32 → (bt (r.2.1 q) b = true ↔ ∃ j, kq_in m fr to K q j ∧ lb j = nI b)) ∧ (∀ q, q < f → (r.2.2 q = 1 ∧ ∃ j, kq_in m fr to K q j) ∨ (r.2.2 q = 0 ∧ ¬ ∃ j, kq_in m fr to K q j))) := by
  refine ot_for (fun i x => x.1 = nI i ∧ (∀ q b, q < f → b < 32 → (bt (x.2.1 q) b = true ↔ ∃ j, kq_in i fr to K q j ∧ lb j = nI b)) ∧ (∀ q, q < f → (x.2.2 q = 1 ∧ ∃ j, kq_in i fr to K q j) ∨ (x.2.2 q = 0 ∧ ¬ ∃ j, kq_in i fr to K q j))) m ?_ ?_ 1000000 0 _ (Nat.zero_le _) ?_ (by omega)
  · rintro i ⟨v3, ins, gr⟩ hi ⟨rfl, q1, q2⟩
    dsimp only at q1 q2
    obtain ⟨g1, g2, g3, g4, g5, g6⟩ := hg i hi
    -- where move i is in no knot
    have hout : (∀ q, ¬ (K (fr i) = q + 1 ∧ K (to i) = q + 1)) → ((∀ q b, q < f → b < 32 → (bt (ins q) b = true ↔ ∃ j, kq_in (i + 1) fr to K q j ∧ lb j = nI b)) ∧ (∀ q, q < f → (gr q = 1 ∧ ∃ j, kq_in (i + 1) fr to K q j) ∨ (gr q = 0 ∧ ¬ ∃ j, kq_in (i + 1) fr to K q j))) := by
      intro hno
      have hk : ∀ q j, kq_in (i + 1) fr to K q j ↔ kq_in i fr to K q j := by
        intro q j
        constructor
        · rintro ⟨a1, a2, a3⟩
          by_cases hji : j = i
          · rw [hji] at a2 a3; exact absurd ⟨a2, a3⟩ (hno q)
          · exact ⟨by omega, a2, a3⟩
        · rintro ⟨a1, a2, a3⟩; exact ⟨by omega, a2, a3⟩
      simp only [hk]
      exact ⟨q1, q2⟩
    unfold fn_X3_take_l88
    dsimp only
    simp only [cl_nI (show i < 2 ^ 31 by omega), g1, g3, g5, cl_nI (show fr i < 2 ^ 31 by omega), cl_nI (show to i < 2 ^ 31 by omega)]
    refine ot_f (fun h => by rw [nI_leI (by omega) (by omega)] at h; omega) (ot_i (in_nI (by omega) (by decide)) (ot_i (in_nI (by omega) (by decide)) (ot_i (in_nI (by omega) (by decide)) ?_)))
    rcases hch (fr i) g2 with ⟨z1, z2⟩ | ⟨z1, z2⟩
    · refine ot_t z1 (ot_s ⟨nI_1 i, hout (fun q h => z2 ((hK1 _ g2).mp (by omega)))⟩)
    refine ot_f (by rw [z1]; decide) (ot_i (in_nI (by omega) (by decide)) ?_)
    rcases hch (to i) g4 with ⟨y1, y2⟩ | ⟨y1, y2⟩
    · refine ot_t y1 (ot_s ⟨nI_1 i, hout (fun q h => y2 ((hK1 _ g4).mp (by omega)))⟩)
    refine ot_f (by rw [y1]; decide) (ot_i (in_nI (by omega) (by decide)) (ot_i (in_nI (by omega) (by decide)) ?_))
    have hKa := (hK1 _ g2).mpr z2
    have hKb := (hK1 _ g4).mpr y2
    have hKaf := hK2 _ g2
    have hKbf := hK2 _ g4
    have ea : kn (fr i) = nI (K (fr i) - 1) := by rw [hkn _ g2]; simp only [hKa, if_false]
    have eb : kn (to i) = nI (K (to i) - 1) := by rw [hkn _ g4]; simp only [hKb, if_false]
    rw [ea, eb]
    by_cases hsame : K (fr i) = K (to i)
    · refine ot_t (by rw [hsame]) (ot_i (in_nI (by omega) (by decide)) (ot_i (in_nI (by omega) (by decide)) ?_))
      obtain ⟨q0, hq0⟩ : ∃ q0, K (fr i) = q0 + 1 := ⟨K (fr i) - 1, by omega⟩
      rw [hq0]
      show ot_T (ox_b (fn_X3_addMove ins gr (nI q0) (lb i)) _) _
      have hin : kq_in (i + 1) fr to K q0 i := ⟨by omega, hq0, hsame ▸ hq0⟩
      have hk : ∀ q j, kq_in (i + 1) fr to K q j ↔ (kq_in i fr to K q j ∨ (q = q0 ∧ j = i)) := by
        intro q j
        constructor
        · rintro ⟨a1, a2, a3⟩
          by_cases hji : j = i
          · rw [hji] at a2; exact Or.inr ⟨by omega, hji⟩
          · exact Or.inl ⟨by omega, a2, a3⟩
        · rintro (⟨a1, a2, a3⟩ | ⟨rfl, rfl⟩)
          · exact ⟨by omega, a2, a3⟩
          · exact hin
      have hgr : ∀ q, q < f → (upd gr q0 1 q = 1 ∧ ∃ j, kq_in (i + 1) fr to K q j) ∨ (upd gr q0 1 q = 0 ∧ ¬ ∃ j, kq_in (i + 1) fr to K q j) := by
        intro q hq
        by_cases hqq : q = q0
        · rw [hqq, upd_s]; exact Or.inl ⟨rfl, i, hin⟩
        · rw [upd_n hqq]
          rcases q2 q hq with ⟨a1, j, a2⟩ | ⟨a1, a2⟩
          · exact Or.inl ⟨a1, j, (hk q j).mpr (Or.inl a2)⟩
          · refine Or.inr ⟨a1, fun ⟨j, hj⟩ => ?_⟩
            rcases (hk q j).mp hj with h | h
            · exact a2 ⟨j, h⟩
            · exact hqq h.1
      unfold fn_X3_addMove
      simp only [cl_nI (show q0 < 2 ^ 31 by omega), nz_b1]
      have e1 : ox_in (nI q0) 200 = true := ox_in_t (in_nI (by omega) (by decide))
      simp only [e1]
      rcases g6 with hl | ⟨l, hl1, hl2⟩
      · simp only [hl, if_true]
        refine ot_b (ot_s (Q := fun z => z = _) rfl) (fun z hz => ?_)
        subst hz
        refine ot_s ⟨nI_1 i, fun q b hq hb => ?_, hgr⟩
        show bt (ins q) b = true ↔ _
        rw [q1 q b hq hb]
        constructor
        · rintro ⟨j, a1, a2⟩; exact ⟨j, (hk q j).mpr (Or.inl a1), a2⟩
        · rintro ⟨j, a1, a2⟩
          rcases (hk q j).mp a1 with h | ⟨h1, h2⟩
          · exact ⟨j, h, a2⟩
          · rw [h2, hl] at a2
            exact absurd a2.symm (nI_m1 (by omega))
      · have hne : ¬ lb i = -1 := by rw [hl2]; exact nI_m1 (by omega)
        simp only [hne, if_false]
        refine ot_b (ot_s (Q := fun z => z = (upd ins q0 (ins q0 ||| (1 <<< (lb i &&& 31))), upd gr q0 1)) rfl) (fun z hz => ?_)
        subst hz
        refine ot_s ⟨nI_1 i, fun q b hq hb => ?_, hgr⟩
        show bt (upd ins q0 (ins q0 ||| (1 <<< (lb i &&& 31))) q) b = true ↔ _
        by_cases hqq : q = q0
        · subst hqq
          rw [upd_s, b_or, Bool.or_eq_true, q1 q b hq hb, hl2, b_one l (by omega) hb, decide_eq_true_eq]
          constructor
          · rintro (⟨j, a1, a2⟩ | h)
            · exact ⟨j, (hk q j).mpr (Or.inl a1), a2⟩
            · exact ⟨i, hin, by rw [hl2, h]⟩
          · rintro ⟨j, a1, a2⟩
            rcases (hk q j).mp a1 with h | ⟨h1, h2⟩
            · exact Or.inl ⟨j, h, a2⟩
            · rw [h2, hl2] at a2
              exact Or.inr ((nI_eq (by omega) (by omega)).mp a2).symm
        · rw [upd_n hqq, q1 q b hq hb]
          constructor
          · rintro ⟨j, a1, a2⟩; exact ⟨j, (hk q j).mpr (Or.inl a1), a2⟩
          · rintro ⟨j, a1, a2⟩
            rcases (hk q j).mp a1 with h | ⟨h1, h2⟩
            · exact ⟨j, h, a2⟩
            · exact absurd h1 hqq
    · refine ot_f (fun h => hsame (by have := (nI_eq (by omega) (by omega)).mp h; omega)) (ot_s ⟨nI_1 i, hout (fun q h => hsame (h.1.trans h.2.symm))⟩)
  · rintro ⟨v3, ins, gr⟩ ⟨rfl, q1, q2⟩
    unfold fn_X3_take_l88
    dsimp only
    exact ot_t (by rw [nI_leI (by omega) (by omega)]; exact Nat.le_refl _) (ot_s ⟨q1, q2⟩)
  · refine ⟨nI_0.symm, fun q b hq hb => ?_, fun q hq => Or.inr ⟨(h0 q hq).2, fun ⟨j, h, _⟩ => absurd h (Nat.not_lt_zero j)⟩⟩
    show bt (ins q) b = true ↔ _
    rw [(h0 q hq).1, b_0]
    exact ⟨fun h => (by cases h), fun ⟨j, ⟨h, _⟩, _⟩ => absurd h (Nat.not_lt_zero j)⟩
/-- Sums.take -/
theorem su_take (hn : n ≤ 200) (hm : m ≤ 600) (hf : f ≤ n) (hg : gs_R n m fr to lb gfr gto glb) (hch : ∀ v, v < n → (kc v = 0 ∧ ¬ ch v) ∨ (kc v = 1 ∧ ch v)) (hK1 : ∀ v, v < n → (K v ≠ 0 ↔ ch v)) (hK2 : ∀ v, v < n → K v ≤ f) (hK3 : ∀ q, q < f → ∃ v, v < n ∧ K v = q + 1) (hkn : ∀ v, v < n → kn v = if K v = 0 then -1 else nI (K v - 1)) {sz lw al ins gr : Nat → Int32} :
    ot_T (fn_X3_take (nI n) (nI m) (nI f) gab gfr gto glb kc kn sz lw al ins gr) (fun r => su_P n m fr to lb gab K f r.1 r.2.1 r.2.2.1 r.2.2.2.1 r.2.2.2.2) := by
  unfold fn_X3_take
  refine ot_b (su_clear (by omega)) ?_
  rintro ⟨v3, sz, al, ins, gr⟩ h0
  dsimp only at h0 ⊢
  refine ot_b (su_states (gab := gab) hn hf hch hK1 hK2 hkn (fun q hq => ⟨(h0 q hq).1, (h0 q hq).2.1⟩)) ?_
  rintro ⟨v3, sz, lw, al⟩ ⟨q1, q2, q3⟩
  dsimp only at q1 q2 q3 ⊢
  refine ot_b (su_moves hn hm hf hg hch hK1 hK2 hkn (fun q hq => (h0 q hq).2.2)) ?_
  rintro ⟨v3, ins, gr⟩ ⟨q4, q5⟩
  exact ot_s ⟨q1, fun q hq => q2 q hq (hK3 q hq), q3, q4, q5⟩
/-- Sums.largestSize: the largest size of a knot that goes round, 0 without -/
theorem su_largest (hf : f ≤ 200) {sz gr : Nat → Int32} {S : Nat → Nat} (hS : ∀ q, q < f → sz q = nI (S q) ∧ S q < 2 ^ 31) (hgr : ∀ q, q < f → gr q = 1 ∨ gr q = 0) :
    ot_T (fn_X3_largestSize sz gr (nI f)) (fun r => ∃ L, r = nI L ∧ L < 2 ^ 31 ∧ (∀ q, q < f → gr q = 1 → S q ≤ L) ∧ (L = 0 ∨ ∃ q, q < f ∧ gr q = 1 ∧ S q = L)) := by
  unfold fn_X3_largestSize
  refine ot_b (P := fun x => ∃ L, x.1 = nI L ∧ L < 2 ^ 31 ∧ (∀ q, q < f → gr q = 1 → S q ≤ L) ∧ (L = 0 ∨ ∃ q, q < f ∧ gr q = 1 ∧ S q = L)) ?_ (by rintro ⟨a, b⟩ h; exact ot_s h)
  refine ot_for (fun i x => x.2 = nI i ∧ ∃ L, x.1 = nI L ∧ L < 2 ^ 31 ∧ (∀ q, q < i → gr q = 1 → S q ≤ L) ∧ (L = 0 ∨ ∃ q, q < f ∧ gr q = 1 ∧ S q = L)) f ?_ ?_ 1000000 0 _ (Nat.zero_le _) ⟨nI_0.symm, 0, nI_0.symm, by decide, fun q h => absurd h (Nat.not_lt_zero q), Or.inl rfl⟩ (by omega)
  · rintro i ⟨v2, v3⟩ hi ⟨e1, L, e2, q0, q1, q2⟩
    dsimp only at e1 e2
    subst e1
    subst e2
    unfold fn_X3_largestSize_l4
    dsimp only
    simp only [cl_nI (show i < 2 ^ 31 by omega)]
    refine ot_f (fun h => by rw [nI_leI (by omega) (by omega)] at h; omega) (ot_i (in_nI (by omega) (by decide)) ?_)
    rcases hgr i hi with hg | hg
    · refine ot_f (by rw [hg]; decide) (ot_i (in_nI (by omega) (by decide)) ?_)
      rw [(hS i hi).1]
      by_cases hle : S i ≤ L
      · refine ot_t (by rw [nI_leI (hS i hi).2 q0]; exact hle) (ot_s ⟨nI_1 i, L, rfl, q0, fun q hq hgq => ?_, q2⟩)
        by_cases hqi : q = i
        · rw [hqi]; exact hle
        · exact q1 q (by omega) hgq
      · refine ot_f (by rw [nI_leI (hS i hi).2 q0]; exact hle) (ot_i (in_nI (by omega) (by decide)) (ot_s ⟨nI_1 i, S i, rfl, (hS i hi).2, fun q hq hgq => ?_, Or.inr ⟨i, hi, hg, rfl⟩⟩))
        by_cases hqi : q = i
        · rw [hqi]; exact Nat.le_refl _
        · have := q1 q (by omega) hgq; omega
    · refine ot_t hg (ot_s ⟨nI_1 i, L, rfl, q0, fun q hq hgq => ?_, q2⟩)
      by_cases hqi : q = i
      · rw [hqi, hg] at hgq; exact absurd hgq (by decide)
      · exact q1 q (by omega) hgq
  · rintro ⟨v2, v3⟩ ⟨e1, h⟩
    dsimp only at e1 h
    subst e1
    unfold fn_X3_largestSize_l4
    dsimp only
    exact ot_t (by rw [nI_leI (by omega) (by omega)]; exact Nat.le_refl _) (ot_s h)
end SV
