/-! PURE: Reach.walk does bf_all -/
/-- the class's moves by their states: n states, m moves, aj v the moves of v by number -/
def gc_R (n m : Nat) (aj : Nat → List Nat) (to st : Nat → Nat) (gto gout gst : Nat → Int32) : Prop :=
  n ≤ 200 ∧ m ≤ 600 ∧ st 0 = 0 ∧ st n = m ∧ (∀ i, i ≤ n → gst i = nI (st i)) ∧ (∀ v, v < n → st (v + 1) = st v + (aj v).length) ∧ (∀ v i j, v < n → (aj v)[i]? = some j → gout (st v + i) = nI j) ∧ (∀ v j, v < n → j ∈ aj v → j < m) ∧ (∀ j, j < m → gto j = nI (to j) ∧ to j < n)
theorem gc_mono {n m : Nat} {aj : Nat → List Nat} {to st : Nat → Nat} {gto gout gst : Nat → Int32} (h : gc_R n m aj to st gto gout gst) : ∀ d v, v + d ≤ n → st v ≤ st (v + d) := by
  obtain ⟨h1, h2, h3, h4, h5, h6, h7, h8, h9⟩ := h
  intro d
  induction d with
  | zero => intro v _; exact Nat.le_refl _
  | succ d ih =>
    intro v hv
    have a1 := ih v (by omega)
    have a2 := h6 (v + d) (by omega)
    have : v + (d + 1) = v + d + 1 := by omega
    rw [this, a2]
    omega
theorem gc_le {n m : Nat} {aj : Nat → List Nat} {to st : Nat → Nat} {gto gout gst : Nat → Int32} (h : gc_R n m aj to st gto gout gst) {v : Nat} (hv : v ≤ n) : st v ≤ m := by
  have := gc_mono h (n - v) v (by omega)
  rw [show v + (n - v) = n by omega, h.2.2.2.1] at this
  exact this
section WKC
variable {n m : Nat} {aj : Nat → List Nat} {to st : Nat → Nat} {gto gout gst : Nat → Int32}
theorem wc_join {n : Nat} {fo : Int32} {li fa lm : Nat → Int32} {c t : Nat} {d b : Int32} (hf : fo = nI c) (hc : c < 200) (ht : t < 200) : fn_X2_join fo li fa lm (nI t) d b = some (fo + 1, upd li c (nI t), upd fa t d, upd lm t b) := by
  subst hf
  unfold fn_X2_join
  have e1 : ox_in (nI t) 200 = true := ox_in_t (in_nI ht (by decide))
  have e2 : ox_in (nI c) 200 = true := ox_in_t (in_nI hc (by decide))
  rw [e1, e2, cl_nI (by omega), cl_nI (by omega)]
  rfl
/-- the moves of one state -/
theorem wc_node (hg : gc_R n m aj to st gto gout gst) {s k : Nat} {X : bf_X} {fo : Int32} {li fa lm : Nat → Int32} (hs : s < n) (hli : li k = nI s) (hk : k < 200) (hI : bf_I n X) (hC : bf_C n X fo li fa lm) (hsn : X.2.2.1 s = true) (li0 : Nat → Int32) (hl0 : li0 k = nI s) :
    ot_T (ox_l (fn_X2_walk_l75 li0 (nI k) gst gout gto) 1000000 (nI (st s), fo, li, fa, lm)) (fun r => ∃ X', X' = bf_node aj to X s ∧ bf_I n X' ∧ bf_C n X' r.2.1 r.2.2.1 r.2.2.2.1 r.2.2.2.2 ∧ X'.2.2.1 s = true) := by
  obtain ⟨g1, g2, g3, g4, g5, g6, g7, g8, g9⟩ := id hg
  refine ot_list (fun (l : List Nat) x => ∃ (j : Nat) (Y : bf_X), x.1 = nI j ∧ j + l.length = st (s + 1) ∧ (∀ i a, l[i]? = some a → gout (j + i) = nI a) ∧ (∀ a, a ∈ l → a < m) ∧ bf_I n Y ∧ bf_C n Y x.2.1 x.2.2.1 x.2.2.2.1 x.2.2.2.2 ∧ Y.2.2.1 s = true ∧ l.foldl (bf_step to s) Y = bf_node aj to X s) ?_ ?_ 1000000 (aj s) _ ?_ ?_
  · rintro a l ⟨v4, fo, li, fa, lm⟩ ⟨j, Y, rfl, h2, h3, h4, h5, h6, h7, h8⟩
    have h6 : bf_C n Y fo li fa lm := h6
    have hst : st (s + 1) ≤ m := gc_le hg (by omega)
    have hj : j < 600 := by simp only [List.length_cons] at h2; omega
    have ha : a < m := h4 a (by simp)
    have hga : gout j = nI a := by have := h3 0 a (by simp); simpa using this
    have hto := g9 a ha
    unfold fn_X2_walk_l75
    dsimp only
    rw [cl_nI (by omega), hl0, nI_1, cl_nI (show s + 1 < 2 ^ 31 by omega), g5 (s + 1) (by omega), cl_nI (show s < 2 ^ 31 by omega), cl_nI (show j < 2 ^ 31 by omega), hga, cl_nI (show a < 2 ^ 31 by omega), hto.1, cl_nI (show to a < 2 ^ 31 by omega)]
    refine ot_i (in_nI (by omega) (by decide)) ?_
    refine ot_f (fun h => by rw [nI_leI (by omega) (by omega)] at h; simp only [List.length_cons] at h2; omega) ?_
    refine ot_i (in_nI hj (by decide)) (ot_i (in_nI (by omega) (by decide)) (ot_i (in_nI (by omega) (by decide)) ?_))
    have hnext : ∀ (Y' : bf_X) (fo li fa lm), Y' = bf_step to s Y a → bf_I n Y' → bf_C n Y' fo li fa lm → ∃ (j' : Nat) (Y : bf_X), nI j + 1 = nI j' ∧ j' + l.length = st (s + 1) ∧ (∀ i a, l[i]? = some a → gout (j' + i) = nI a) ∧ (∀ a, a ∈ l → a < m) ∧ bf_I n Y ∧ bf_C n Y fo li fa lm ∧ Y.2.2.1 s = true ∧ l.foldl (bf_step to s) Y = bf_node aj to X s := by
      intro Y' fo li fa lm e1 e2 e3
      refine ⟨j + 1, Y', nI_1 j, by simp only [List.length_cons] at h2; omega, fun i b hb => ?_, fun b hb => h4 b (List.mem_cons_of_mem _ hb), e2, e3, by rw [e1]; exact (bf_step_le Y).2.2 s h7, by rw [e1]; exact h8⟩
      have := h3 (i + 1) b (by simpa using hb)
      rw [show j + 1 + i = j + (i + 1) by omega]
      exact this
    by_cases hn : Y.2.2.1 (to a) = true
    · have hfa := (h6.2.2.1 (to a) hto.2 hn).1
      have hle := h5
      refine ot_f (fun h => ?_) (ot_s ?_)
      · rw [hfa] at h
        obtain ⟨c, q, sn, bm, fa9⟩ := Y
        have h1 := h5.2.2.2 (to a) hn
        have h2 := bf_I_c h5
        exact nI_m1 (by have : c ≤ n := h2; show fa9 (to a) < 2 ^ 31; omega) h
      · refine hnext Y fo li fa lm ?_ h5 h6
        obtain ⟨c, q, sn, bm, fa9⟩ := Y
        have hn : sn (to a) = true := hn
        unfold bf_step
        simp only [hn, if_true]
    · have hfa := h6.2.2.2 (to a) hto.2 (by cases h : Y.2.2.1 (to a) with | true => exact absurd h hn | false => rfl)
      refine ot_t hfa (ot_i (in_nI (by omega) (by decide)) (ot_i (in_nI (by omega) (by decide)) ?_))
      have hI' := bf_I_step (to := to) (s := s) (m := a) h5 h7 hto.2
      have hc : Y.1 < n := by
        have := bf_I_c hI'
        obtain ⟨c, q, sn, bm, fa9⟩ := Y
        have hn : ¬ sn (to a) = true := hn
        unfold bf_step at this
        simp only [hn, if_false] at this
        have : c + 1 ≤ n := this
        show c < n
        omega
      have hfs := (h6.2.2.1 s hs h7).1
      rw [wc_join (n := n) (c := Y.1) h6.1 (by omega) (by omega), hfs, nI_1]
      refine ot_b (ot_s (Q := fun z => z = _) rfl) (fun z hz => ?_)
      subst hz
      exact ot_s (hnext _ _ _ _ _ rfl hI' (bf_C_new h6 hn))
  · rintro ⟨v4, fo, li, fa, lm⟩ ⟨j, Y, rfl, h2, h3, h4, h5, h6, h7, h8⟩
    have hst : st (s + 1) ≤ m := gc_le hg (by omega)
    simp only [List.length_nil] at h2
    unfold fn_X2_walk_l75
    dsimp only
    rw [cl_nI (show k < 2 ^ 31 by omega), hl0, nI_1, cl_nI (show s + 1 < 2 ^ 31 by omega), g5 (s + 1) (by omega)]
    refine ot_i (in_nI (by omega) (by decide)) (ot_t ?_ (ot_s ?_))
    · rw [nI_leI (by omega) (by omega)]; omega
    · exact ⟨Y, h8, h5, h6, h7⟩
  · exact ⟨st s, X, rfl, (g6 s hs).symm, fun i a h => g7 s i a hs h, fun a h => g8 s a hs h, hI, hC, hsn, rfl⟩
  · have := g6 s hs
    have := gc_le hg (v := s + 1) (by omega)
    omega
theorem wc_lines (hg : gc_R n m aj to st gto gout gst) {X0 : bf_X} {fo : Int32} {li fa lm : Nat → Int32} (hI : bf_I n X0) (hC : bf_C n X0 fo li fa lm) :
    ot_T (ox_l (fn_X2_walk_l44 (nI n) gst gout gto) 1000000 (0, fo, li, fa, lm)) (fun r => bf_I n (bf_run aj to n 0 X0) ∧ bf_C n (bf_run aj to n 0 X0) r.2.1 r.2.2.1 r.2.2.2.1 r.2.2.2.2) := by
  obtain ⟨g1, g2, g3, g4, g5, g6, g7, g8, g9⟩ := id hg
  refine ot_loop (fun x => ∃ (k : Nat) (X : bf_X), x.1 = nI k ∧ k ≤ X.1 ∧ bf_I n X ∧ bf_C n X x.2.1 x.2.2.1 x.2.2.2.1 x.2.2.2.2 ∧ bf_run aj to (n - k) k X = bf_run aj to n 0 X0) (fun x => n - x.1.toNatClampNeg) ?_ 1000000 _ ⟨0, X0, nI_0.symm, Nat.zero_le _, hI, hC, rfl⟩ (by omega)
  rintro ⟨v2, fo, li, fa, lm⟩ ⟨k, X, rfl, h2, h3, h4, h5⟩
  have h4 : bf_C n X fo li fa lm := h4
  have hc := bf_I_c h3
  unfold fn_X2_walk_l44
  dsimp only
  by_cases hk : k < X.1
  · have hq : X.2.1 k < n := by
      obtain ⟨c, q, sn, bm, fa9⟩ := X
      exact h3.2.1 k hk
    have hs : X.2.2.1 (X.2.1 k) = true := by
      obtain ⟨c, q, sn, bm, fa9⟩ := X
      exact (h3.1 (q k)).mpr ⟨k, hk, rfl⟩
    have hlk : li k = nI (X.2.1 k) := h4.2.1 k hk
    refine ot_f (fun h => by rw [nI_leI (by omega) (by omega)] at h; omega) ?_
    refine ot_f (fun h => by rw [h4.1, nI_leI (by omega) (by omega)] at h; omega) ?_
    rw [cl_nI (by omega), hlk]
    refine ot_i (in_nI (by omega) (by decide)) (ot_i (in_nI (by omega) (by decide)) ?_)
    rw [cl_nI (show X.2.1 k < 2 ^ 31 by omega), g5 _ (by omega)]
    refine ot_b (wc_node hg hq hlk (by omega) h3 h4 hs li hlk) ?_
    rintro ⟨v4, fo', li', fa', lm'⟩ ⟨X', e1, e2, e3, e4⟩
    refine ot_s ⟨⟨k + 1, X', nI_1 k, ?_, e2, e3, ?_⟩, ?_⟩
    · rw [e1]
      have : X.1 ≤ (bf_node aj to X (X.2.1 k)).1 := by
        have key : ∀ (l : List Nat) (Y : bf_X), Y.1 ≤ (l.foldl (bf_step to (X.2.1 k)) Y).1 := by
          intro l
          induction l with
          | nil => intro Y; exact Nat.le_refl _
          | cons a l ih => intro Y; exact Nat.le_trans (bf_step_le Y).1 (ih _)
        exact key _ _
      omega
    · rw [← h5, e1, show n - k = (n - (k + 1)) + 1 by omega]
      simp only [bf_run, hk, if_true]
    · show n - (nI k + 1).toNatClampNeg < n - k
      rw [nI_1, cl_nI (by omega)]
      omega
  · have he : bf_run aj to (n - k) k X = X := by
      cases n - k with
      | zero => rfl
      | succ f => simp only [bf_run, hk, if_false]
    rw [he] at h5
    have hd : bf_I n (bf_run aj to n 0 X0) ∧ bf_C n (bf_run aj to n 0 X0) fo li fa lm := by
      rw [← h5]
      exact ⟨h3, h4⟩
    by_cases hnk : n ≤ k
    · exact ot_t (by rw [nI_leI (by omega) (by omega)]; exact hnk) (ot_s hd)
    · refine ot_f (fun h => by rw [nI_leI (by omega) (by omega)] at h; omega) ?_
      exact ot_t (by rw [h4.1, nI_leI (by omega) (by omega)]; omega) (ot_s hd)
theorem wc_reset (hn : n ≤ 200) {fa : Nat → Int32} : ot_T (ox_l (fn_X2_walk_l2 (nI n)) 1000000 (0, fa)) (fun r => ∀ v, v < n → r.2 v = -1) := by
  refine ot_for (fun i x => x.1 = nI i ∧ ∀ v, v < i → x.2 v = -1) n ?_ ?_ 1000000 0 _ (Nat.zero_le _) ⟨nI_0.symm, fun v h => absurd h (Nat.not_lt_zero v)⟩ (by omega)
  · rintro i ⟨v2, fa⟩ hi ⟨rfl, h⟩
    unfold fn_X2_walk_l2
    dsimp only
    refine ot_f (fun h => by rw [nI_leI (by omega) (by omega)] at h; omega) (ot_i (in_nI (by omega) (by decide)) (ot_s ⟨nI_1 i, fun v hv => ?_⟩))
    rw [cl_nI (by omega)]
    show upd fa i (-1) v = -1
    by_cases hvi : v = i
    · rw [hvi, upd_s]
    · rw [upd_n hvi]; exact h v (by omega)
  · rintro ⟨v2, fa⟩ ⟨rfl, h⟩
    unfold fn_X2_walk_l2
    dsimp only
    exact ot_t (by rw [nI_leI (by omega) (by omega)]; exact Nat.le_refl _) (ot_s h)
/-- Reach.walk -/
theorem wc_walk (hg : gc_R n m aj to st gto gout gst) {fo : Int32} {li fa lm : Nat → Int32} :
    ot_T (fn_X2_walk (nI n) fo gto gout gst li fa lm) (fun r => bf_I n (bf_all aj to n) ∧ bf_C n (bf_all aj to n) r.1 r.2.1 r.2.2.1 r.2.2.2) := by
  have hn := hg.1
  have hend : ∀ {X0 : bf_X} {fo : Int32} {li fa lm : Nat → Int32}, bf_I n X0 → bf_C n X0 fo li fa lm → bf_run aj to n 0 X0 = bf_all aj to n →
      ot_T (fn_X2_walk_j42 (nI n) gst gout gto (fo, li, fa, lm)) (fun r => bf_I n (bf_all aj to n) ∧ bf_C n (bf_all aj to n) r.1 r.2.1 r.2.2.1 r.2.2.2) := by
    intro X0 fo li fa lm hI hC he
    unfold fn_X2_walk_j42
    dsimp only
    refine ot_b (wc_lines hg hI hC) ?_
    rintro ⟨v2, fo', li', fa', lm'⟩ h
    rw [he] at h
    exact ot_s h
  unfold fn_X2_walk
  refine ot_b (wc_reset hn) ?_
  rintro ⟨v2, fa1⟩ hfa
  dsimp only
  by_cases h0 : n = 0
  · subst h0
    refine ot_t (by decide) ?_
    refine hend (X0 := bf_0) ?_ ?_ ?_
    · exact ⟨fun v => ⟨fun h => (by cases h), fun ⟨i, hi, _⟩ => absurd hi (Nat.not_lt_zero i)⟩, fun i hi => absurd hi (Nat.not_lt_zero i), fun i j hi => absurd hi (Nat.not_lt_zero i), fun v h => (by cases h)⟩
    · exact ⟨nI_0.symm, fun i hi => absurd hi (Nat.not_lt_zero i), fun v hv => absurd hv (Nat.not_lt_zero v), fun v hv => absurd hv (Nat.not_lt_zero v)⟩
    · rfl
  · refine ot_f (fun h => by rw [← nI_0, nI_leI (by omega) (by omega)] at h; omega) ?_
    have hj := wc_join (n := n) (fo := 0) (li := li) (fa := fa1) (lm := lm) (c := 0) (t := 0) (d := 0) (b := -1) nI_0.symm (by decide) (by decide)
    rw [nI_0] at hj
    rw [hj]
    refine ot_b (ot_s (Q := fun z => z = _) rfl) (fun z hz => ?_)
    subst hz
    refine hend (X0 := bf_1) ?_ ?_ ?_
    · refine ⟨fun v => ?_, fun i hi => (by show 0 < n; omega), fun i j hi hj _ => (by have : i < 1 := hi; have : j < 1 := hj; omega), fun v h => (by show 0 < 1; omega)⟩
      show va_up (fun _ => false) 0 true v = true ↔ ∃ i, i < 1 ∧ 0 = v
      by_cases hv : v = 0
      · subst hv; rw [up_s]; exact ⟨fun _ => ⟨0, by omega, rfl⟩, fun _ => rfl⟩
      · rw [up_n hv]; exact ⟨fun h => (by cases h), fun ⟨_, _, e⟩ => absurd e.symm hv⟩
    · show bf_C n bf_1 (0 + 1) (upd li 0 0) (upd fa1 0 0) (upd lm 0 (-1))
      refine ⟨(by show (0 : Int32) + 1 = nI 1; rw [← nI_0]; exact nI_1 0), fun i hi => ?_, fun v hv hs => ?_, fun v hv hs => ?_⟩
      · have : i = 0 := by have : i < 1 := hi; omega
        subst this
        rw [upd_s]
        exact nI_0.symm
      · by_cases hv0 : v = 0
        · subst hv0; rw [upd_s, upd_s]; exact ⟨nI_0.symm, rfl⟩
        · have hs : va_up (fun _ => false) 0 true v = true := hs
          rw [up_n hv0] at hs; cases hs
      · by_cases hv0 : v = 0
        · have hs : va_up (fun _ => false) 0 true v = false := hs
          rw [hv0, up_s] at hs; cases hs
        · rw [upd_n hv0]; exact hfa v hv
    · simp only [bf_all, h0, if_false]
end WKC
