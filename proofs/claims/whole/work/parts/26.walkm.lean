/-! PURE: FairLoopsModel.walk does bf_all -/
def lk (nx : Nat → Int32) : Int32 → List Nat → Prop
  | x, [] => x = -1
  | x, j :: l => x = nI j ∧ lk nx (nx j) l
/-- the model's moves by their states: linked rows -/
def gm_R (n m : Nat) (aj : Nat → List Nat) (to : Nat → Nat) (mto mfi mnx : Nat → Int32) : Prop :=
  n ≤ 200 ∧ m ≤ 600 ∧ (∀ v, v < n → lk mnx (mfi v) (aj v)) ∧ (∀ v, v < n → (aj v).length ≤ 600) ∧ (∀ v j, v < n → j ∈ aj v → j < m) ∧ (∀ j, j < m → mto j = nI (to j) ∧ to j < n)
section WKM
variable {n m : Nat} {aj : Nat → List Nat} {to : Nat → Nat} {mto mfi mnx : Nat → Int32}
theorem wm_node (hg : gm_R n m aj to mto mfi mnx) {s : Nat} {X : bf_X} {co : Int32} {qu bm re : Nat → Int32} (hs : s < n) (hI : bf_I n X) (hM : bf_M n X co qu bm re) (hsn : X.2.2.1 s = true) :
    ot_T (ox_l (fn_X5_walk_l97 mto mnx) 1000000 (mfi s, co, qu, bm, re)) (fun r => ∃ X', X' = bf_node aj to X s ∧ bf_I n X' ∧ bf_M n X' r.2.1 r.2.2.1 r.2.2.2.1 r.2.2.2.2 ∧ X'.2.2.1 s = true) := by
  obtain ⟨g1, g2, g3, g4, g5, g6⟩ := id hg
  refine ot_list (fun (l : List Nat) x => ∃ (Y : bf_X), lk mnx x.1 l ∧ (∀ a, a ∈ l → a < m) ∧ bf_I n Y ∧ bf_M n Y x.2.1 x.2.2.1 x.2.2.2.1 x.2.2.2.2 ∧ Y.2.2.1 s = true ∧ l.foldl (bf_step to s) Y = bf_node aj to X s) ?_ ?_ 1000000 (aj s) _ ?_ ?_
  · rintro a l ⟨v2, co, qu, bm, re⟩ ⟨Y, ⟨h1, h2⟩, h4, h5, h6, h7, h8⟩
    have h1 : v2 = nI a := h1
    subst h1
    have h6 : bf_M n Y co qu bm re := h6
    have ha : a < m := h4 a (by simp)
    have hto := g6 a ha
    unfold fn_X5_walk_l97
    dsimp only
    rw [cl_nI (show a < 2 ^ 31 by omega), hto.1, cl_nI (show to a < 2 ^ 31 by omega)]
    refine ot_f (nI_m1 (by omega)) (ot_i (in_nI (by omega) (by decide)) (ot_i (in_nI (by omega) (by decide)) ?_))
    have hnext : ∀ (Y' : bf_X) (co qu bm re), Y' = bf_step to s Y a → bf_I n Y' → bf_M n Y' co qu bm re → ∃ (Y : bf_X), lk mnx (mnx a) l ∧ (∀ a, a ∈ l → a < m) ∧ bf_I n Y ∧ bf_M n Y co qu bm re ∧ Y.2.2.1 s = true ∧ l.foldl (bf_step to s) Y = bf_node aj to X s := by
      intro Y' co qu bm re e1 e2 e3
      exact ⟨Y', h2, fun b hb => h4 b (List.mem_cons_of_mem _ hb), e2, e3, by rw [e1]; exact (bf_step_le Y).2.2 s h7, by rw [e1]; exact h8⟩
    by_cases hn : Y.2.2.1 (to a) = true
    · have hre := (h6.2.2.1 (to a) hto.2 hn).1
      refine ot_f (fun h => ?_) (ot_i (in_nI (by omega) (by decide)) (ot_s ?_))
      · rw [hre] at h; exact absurd h (by decide)
      · refine hnext Y co qu bm re ?_ h5 h6
        obtain ⟨c, q, sn, b9, fa9⟩ := Y
        have hn : sn (to a) = true := hn
        unfold bf_step
        simp only [hn, if_true]
    · have hre := h6.2.2.2 (to a) hto.2 (by cases h : Y.2.2.1 (to a) with | true => exact absurd h hn | false => rfl)
      have hI' := bf_I_step (to := to) (s := s) (m := a) h5 h7 hto.2
      have hc : Y.1 < n := by
        have := bf_I_c hI'
        obtain ⟨c, q, sn, b9, fa9⟩ := Y
        have hn : ¬ sn (to a) = true := hn
        unfold bf_step at this
        simp only [hn, if_false] at this
        have : c + 1 ≤ n := this
        show c < n
        omega
      have hco : co = nI Y.1 := h6.1
      refine ot_t hre ?_
      rw [hco, cl_nI (show Y.1 < 2 ^ 31 by omega), nz_b1]
      refine ot_i (in_nI (by omega) (by decide)) (ot_i (in_nI (by omega) (by decide)) (ot_i (in_nI (by omega) (by decide)) (ot_i (in_nI (by omega) (by decide)) (ot_i (in_nI (by omega) (by decide)) (ot_i (in_nI (by omega) (by decide)) (ot_i (in_nI (by omega) (by decide)) (ot_s ?_)))))))
      have h9 := bf_M_new (to := to) (s := s) (m := a) h6 hn
      rw [hco] at h9
      exact hnext _ _ _ _ _ rfl hI' h9
  · rintro ⟨v2, co, qu, bm, re⟩ ⟨Y, h1, h4, h5, h6, h7, h8⟩
    unfold fn_X5_walk_l97
    dsimp only
    exact ot_t h1 (ot_s ⟨Y, h8, h5, h6, h7⟩)
  · exact ⟨X, g3 s hs, fun a h => g5 s a hs h, hI, hM, hsn, rfl⟩
  · have := g4 s hs; omega
theorem wm_lines (hg : gm_R n m aj to mto mfi mnx) {X0 : bf_X} {co : Int32} {qu bm re : Nat → Int32} (hI : bf_I n X0) (hC : bf_M n X0 co qu bm re) :
    ot_T (ox_l (fn_X5_walk_l77 mto mnx mfi) 1000000 (0, co, qu, bm, re)) (fun r => bf_I n (bf_run aj to n 0 X0) ∧ bf_M n (bf_run aj to n 0 X0) r.2.1 r.2.2.1 r.2.2.2.1 r.2.2.2.2) := by
  obtain ⟨g1, g2, g3, g4, g5, g6⟩ := id hg
  refine ot_loop (fun x => ∃ (k : Nat) (X : bf_X), x.1 = nI k ∧ k ≤ X.1 ∧ bf_I n X ∧ bf_M n X x.2.1 x.2.2.1 x.2.2.2.1 x.2.2.2.2 ∧ bf_run aj to (n - k) k X = bf_run aj to n 0 X0) (fun x => n - x.1.toNatClampNeg) ?_ 1000000 _ ⟨0, X0, nI_0.symm, Nat.zero_le _, hI, hC, rfl⟩ (by omega)
  rintro ⟨v2, co, qu, bm, re⟩ ⟨k, X, rfl, h2, h3, h4, h5⟩
  have h4 : bf_M n X co qu bm re := h4
  have hc := bf_I_c h3
  unfold fn_X5_walk_l77
  dsimp only
  by_cases hk : k < X.1
  · have hq : X.2.1 k < n := by
      obtain ⟨c, q, sn, b9, fa9⟩ := X
      exact h3.2.1 k hk
    have hs : X.2.2.1 (X.2.1 k) = true := by
      obtain ⟨c, q, sn, b9, fa9⟩ := X
      exact (h3.1 (q k)).mpr ⟨k, hk, rfl⟩
    have hlk : qu k = nI (X.2.1 k) := h4.2.1 k hk
    refine ot_f (fun h => by rw [h4.1, nI_leI (by omega) (by omega)] at h; omega) ?_
    rw [cl_nI (by omega), hlk]
    refine ot_i (in_nI (by omega) (by decide)) (ot_i (in_nI (by omega) (by decide)) ?_)
    rw [cl_nI (show X.2.1 k < 2 ^ 31 by omega)]
    refine ot_b (wm_node hg hq h3 h4 hs) ?_
    rintro ⟨v4, co', qu', bm', re'⟩ ⟨X', e1, e2, e3, e4⟩
    refine ot_s ⟨⟨k + 1, X', nI_1 k, ?_, e2, e3, ?_⟩, ?_⟩
    · rw [e1]
      have : X.1 ≤ (bf_node aj to X (X.2.1 k)).1 := by
        have key : ∀ (l : List Nat) (Y : bf_X), Y.1 ≤ (l.foldl (bf_step to (X.2.1 k)) Y).1 := by
          intro l
          induction l with
          | nil => intro Y; exact Nat.le_refl _
          | cons a l ih => intro Y; exact Nat.le_trans (bf_step_le Y).1 (ih _)
        exact key _ _
      omega
    · rw [← h5, e1, show n - k = (n - (k + 1)) + 1 by omega]
      simp only [bf_run, hk, if_true]
    · show n - (nI k + 1).toNatClampNeg < n - k
      rw [nI_1, cl_nI (by omega)]
      omega
  · refine ot_t (by rw [h4.1, nI_leI (by omega) (by omega)]; omega) (ot_s ?_)
    have : bf_run aj to (n - k) k X = X := by
      cases n - k with
      | zero => rfl
      | succ f => simp only [bf_run, hk, if_false]
    rw [this] at h5
    show bf_I n (bf_run aj to n 0 X0) ∧ bf_M n (bf_run aj to n 0 X0) co qu bm re
    rw [← h5]
    exact ⟨h3, h4⟩
theorem wm_reset (hn : n ≤ 200) {re : Nat → Int32} : ot_T (ox_l (fn_X5_walk_l20 (nI n)) 1000000 (0, re)) (fun r => ∀ v, v < n → r.2 v = 0) := by
  refine ot_for (fun i x => x.1 = nI i ∧ ∀ v, v < i → x.2 v = 0) n ?_ ?_ 1000000 0 _ (Nat.zero_le _) ⟨nI_0.symm, fun v h => absurd h (Nat.not_lt_zero v)⟩ (by omega)
  · rintro i ⟨v2, fa⟩ hi ⟨rfl, h⟩
    unfold fn_X5_walk_l20
    dsimp only
    refine ot_f (fun h => by rw [nI_leI (by omega) (by omega)] at h; omega) (ot_i (in_nI (by omega) (by decide)) (ot_s ⟨nI_1 i, fun v hv => ?_⟩))
    rw [cl_nI (by omega), nz_b0]
    show upd fa i 0 v = 0
    by_cases hvi : v = i
    · rw [hvi, upd_s]
    · rw [upd_n hvi]; exact h v (by omega)
  · rintro ⟨v2, fa⟩ ⟨rfl, h⟩
    unfold fn_X5_walk_l20
    dsimp only
    exact ot_t (by rw [nI_leI (by omega) (by omega)]; exact Nat.le_refl _) (ot_s h)
/-- FairLoopsModel.walk: where it is not known, it is worked out; known: it stays -/
theorem wm_walk (hg : gm_R n m aj to mto mfi mnx) {kn co : Int32} {qu bm re : Nat → Int32} (hk : kn = 0 ∨ kn = 1 ∧ bf_I n (bf_all aj to n) ∧ bf_M n (bf_all aj to n) co qu bm re) :
    ot_T (fn_X5_walk (nI n) kn co mto mfi mnx qu bm re) (fun r => r.1 = 1 ∧ bf_I n (bf_all aj to n) ∧ bf_M n (bf_all aj to n) r.2.1 r.2.2.1 r.2.2.2.1 r.2.2.2.2) := by
  have hn := hg.1
  unfold fn_X5_walk
  rcases hk with rfl | ⟨rfl, hI, hM⟩
  · refine ot_t rfl ?_
    refine ot_b (wm_reset hn) ?_
    rintro ⟨v2, re1⟩ hre
    dsimp only
    by_cases h0 : n = 0
    · subst h0
      refine ot_t nI_0 (ot_s ⟨rfl, ?_, ?_⟩)
      · exact ⟨fun v => ⟨fun h => (by cases h), fun ⟨i, hi, _⟩ => absurd hi (Nat.not_lt_zero i)⟩, fun i hi => absurd hi (Nat.not_lt_zero i), fun i j hi => absurd hi (Nat.not_lt_zero i), fun v h => (by cases h)⟩
      · exact ⟨nI_0.symm, fun i hi => absurd hi (Nat.not_lt_zero i), fun v hv => absurd hv (Nat.not_lt_zero v), fun v hv => absurd hv (Nat.not_lt_zero v)⟩
    · refine ot_f (fun h => by rw [← nI_0, nI_eq (by omega) (by omega)] at h; omega) ?_
      have i0 : vp_in 0 200 := by rw [← nI_0]; exact in_nI (by decide) (by decide)
      refine ot_i i0 (ot_i i0 (ot_i i0 ?_))
      have hI1 : bf_I n bf_1 := by
        refine ⟨fun v => ?_, fun i hi => (by show 0 < n; omega), fun i j hi hj _ => (by have : i < 1 := hi; have : j < 1 := hj; omega), fun v h => (by show 0 < 1; omega)⟩
        show va_up (fun _ => false) 0 true v = true ↔ ∃ i, i < 1 ∧ 0 = v
        by_cases hv : v = 0
        · subst hv; rw [up_s]; exact ⟨fun _ => ⟨0, by omega, rfl⟩, fun _ => rfl⟩
        · rw [up_n hv]; exact ⟨fun h => (by cases h), fun ⟨_, _, e⟩ => absurd e.symm hv⟩
      have hc0 : (0 : Int32).toNatClampNeg = 0 := by decide
      rw [hc0, nz_b1]
      have hM1 : bf_M n bf_1 1 (upd qu 0 0) (upd bm 0 (-1)) (upd re1 0 1) := by
        refine ⟨rfl, fun i hi => ?_, fun v hv hs => ?_, fun v hv hs => ?_⟩
        · have : i = 0 := by have : i < 1 := hi; omega
          subst this
          rw [upd_s]
          exact nI_0.symm
        · by_cases hv0 : v = 0
          · subst hv0; rw [upd_s, upd_s]; exact ⟨rfl, rfl⟩
          · have hs : va_up (fun _ => false) 0 true v = true := hs
            rw [up_n hv0] at hs; cases hs
        · by_cases hv0 : v = 0
          · have hs : va_up (fun _ => false) 0 true v = false := hs
            rw [hv0, up_s] at hs; cases hs
          · rw [upd_n hv0]; exact hre v hv
      refine ot_b (wm_lines hg hI1 hM1) ?_
      rintro ⟨v1, co', qu', bm', re'⟩ ⟨e1, e2⟩
      have he : bf_run aj to n 0 bf_1 = bf_all aj to n := by simp only [bf_all, h0, if_false]
      rw [he] at e1 e2
      exact ot_s ⟨rfl, e1, e2⟩
  · refine ot_f (by decide) (ot_s ⟨rfl, hI, hM⟩)
end WKM
