section KTD
variable {n m : Nat} {aj : Nat → List Nat} {to st : Nat → Nat} {gto gout gst : Nat → Int32} {ch : Nat → Prop} {kc : Nat → Int32}
variable {E L N K pa op od : Nat → Nat} {e d k c f : Nat} {xf xc xe xd xo : Int32} {kn or en lo nx pt ops : Nat → Int32}
theorem nI_0m {j : Nat} (h : 0 < j) (hj : j < 2 ^ 31) : ¬ nI j ≤ 0 := nI_nle h hj
/-- the loop that closes a knot -/
theorem kt_pop {s i0 : Nat} (hn : n ≤ 200) (h1 : ∀ i, i < k → op i < n ∧ kn (op i) = -1) (h2 : ∀ i j, i < j → j < k → op i ≠ op j) (ho : ∀ i, i < k → ops i = nI (op i)) (hi0 : i0 < k) (hs : op i0 = s) (hk : k ≤ 200) (hc : c + (k - i0) ≤ 200) (hf : f < 2 ^ 31) :
    ot_T (ox_l (fn_X1_closeKnotBegunBy_l16 (nI s) ops (nI f)) 1000000 (nI c, nI k, kn, or)) (fun r => r.1 = nI (c + (k - i0)) ∧ r.2.1 = nI i0 ∧ (∀ v, v < n → (∃ i, i0 ≤ i ∧ i < k ∧ op i = v) → r.2.2.1 v = nI f) ∧ (∀ v, v < n → ¬ (∃ i, i0 ≤ i ∧ i < k ∧ op i = v) → r.2.2.1 v = kn v) ∧ (∀ i, i < c → r.2.2.2 i = or i) ∧ (∀ x, i0 ≤ x → x < k → r.2.2.2 (c + (k - 1 - x)) = nI (op x))) := by
  have hsn : s < n := hs ▸ (h1 i0 hi0).1
  have hnot : ∀ j, i0 < j → ¬ ∃ i, j ≤ i ∧ i < k ∧ op i = s := by
    rintro j hj ⟨i, q1, q2, q3⟩
    exact h2 i0 i (by omega) q2 (hs.trans q3.symm)
  refine ot_for (fun p x => x.1 = nI (c + p) ∧ x.2.1 = nI (k - p) ∧ (∀ v, v < n → (∃ i, k - p ≤ i ∧ i < k ∧ op i = v) → x.2.2.1 v = nI f) ∧ (∀ v, v < n → ¬ (∃ i, k - p ≤ i ∧ i < k ∧ op i = v) → x.2.2.1 v = kn v) ∧ (∀ i, i < c → x.2.2.2 i = or i) ∧ (∀ x', k - p ≤ x' → x' < k → x.2.2.2 (c + (k - 1 - x')) = nI (op x'))) (k - i0) ?_ ?_ 1000000 0 _ (Nat.zero_le _) ?_ (by omega)
  · rintro p ⟨x1, x2, kn', or'⟩ hp ⟨rfl, rfl, q3, q4, q5, q6⟩
    obtain ⟨j, hj⟩ : ∃ j, k - p = j + 1 := ⟨k - p - 1, by omega⟩
    dsimp only at q3 q4 q5 q6
    rw [hj] at q3 q4 q6
    have hks : kn' s = -1 := by
      rw [q4 s hsn (hnot (j + 1) (by omega)), ← hs]
      exact (h1 i0 hi0).2
    have hjk : j < k := by omega
    have hoj := (h1 j hjk).1
    unfold fn_X1_closeKnotBegunBy_l16
    dsimp only
    rw [hj]
    simp only [nI_pred, cl_nI (show s < 2 ^ 31 by omega), cl_nI (show j < 2 ^ 31 by omega), cl_nI (show c + p < 2 ^ 31 by omega), hks, ho j hjk, cl_nI (show op j < 2 ^ 31 by omega)]
    refine ot_f (nI_0m (by omega) (by omega)) (ot_i (in_nI (by omega) (by decide)) (ot_t (by simp) (ot_i (in_nI (by omega) (by decide)) (ot_i (in_nI (by omega) (by decide)) (ot_i (in_nI (by omega) (by decide)) (ot_s ?_))))))
    refine ⟨by rw [nI_1]; rfl, by show nI j = nI (k - (p + 1)); congr 1; omega, ?_, ?_, ?_, ?_⟩
    · rintro v hv ⟨i, i1, i2, i3⟩
      show upd kn' (op j) (nI f) v = nI f
      by_cases hvj : v = op j
      · rw [hvj, upd_s]
      · rw [upd_n hvj]
        refine q3 v hv ⟨i, ?_, i2, i3⟩
        by_cases hij : i = j
        · rw [hij] at i3; exact absurd i3.symm hvj
        · omega
    · intro v hv hno
      show upd kn' (op j) (nI f) v = kn v
      have hvj : v ≠ op j := fun h => hno ⟨j, by omega, hjk, h.symm⟩
      rw [upd_n hvj]
      exact q4 v hv (fun ⟨i, i1, i2, i3⟩ => hno ⟨i, by omega, i2, i3⟩)
    · intro i hi
      show upd or' (c + p) (nI (op j)) i = or i
      rw [upd_n (by omega)]
      exact q5 i hi
    · intro x' hx1 hx2
      show upd or' (c + p) (nI (op j)) (c + (k - 1 - x')) = nI (op x')
      by_cases hxj : x' = j
      · rw [hxj, show c + (k - 1 - j) = c + p by omega, upd_s]
      · rw [upd_n (by omega)]
        exact q6 x' (by omega) hx2
  · rintro ⟨x1, x2, kn', or'⟩ ⟨rfl, rfl, q3, q4, q5, q6⟩
    rw [show k - (k - i0) = i0 by omega] at q3 q4 q6
    have hks : kn' s = nI f := q3 s hsn ⟨i0, by omega, hi0, hs⟩
    unfold fn_X1_closeKnotBegunBy_l16
    dsimp only
    rw [show k - (k - i0) = i0 by omega]
    simp only [cl_nI (show s < 2 ^ 31 by omega), hks]
    refine ot_if (fun _ => ot_s ⟨rfl, rfl, q3, q4, q5, q6⟩) (fun _ => ot_i (in_nI (by omega) (by decide)) (ot_f (nI_m1 hf) (ot_s ⟨rfl, rfl, q3, q4, q5, q6⟩)))
  · refine ⟨rfl, rfl, ?_, ?_, ?_, ?_⟩
    · rintro v hv ⟨i, i1, i2, -⟩; omega
    · intro v hv _; rfl
    · intro i hi; rfl
    · intro x' hx1 hx2; omega
theorem up_comm {α : Type} {g : Nat → α} {s t : Nat} {a b : α} (h : s ≠ t) : va_up (va_up g s a) t b = va_up (va_up g t b) s a := by
  funext v
  by_cases hs : v = s
  · subst hs; rw [up_n h, up_s, up_s]
  · by_cases ht : v = t
    · subst ht; rw [up_s, up_n hs, up_s]
    · rw [up_n ht, up_n hs, up_n hs, up_n ht]
/-- how far the walk is -/
def kt_m (n : Nat) (st E N : Nat → Nat) (e d : Nat) : Nat := sm_N (fun v => if E v = 0 then 0 else N v - st v) n + (e - d)
theorem sm_tele (hg : gc_R n m aj to st gto gout gst) : ∀ a, a ≤ n → sm_N (fun v => st (v + 1) - st v) a = st a := by
  intro a
  induction a with
  | zero => intro _; exact hg.2.2.1.symm
  | succ a ih =>
    intro ha
    simp only [sm_N]
    rw [ih (by omega)]
    have := hg.2.2.2.2.2.1 a (by omega)
    omega
theorem kt_m_le (hg : gc_R n m aj to st gto gout gst) (hN : tj_N n ch st (kt_t to gout) E N d pa) : sm_N (fun v => if E v = 0 then 0 else N v - st v) n ≤ m := by
  have h1 := sm_tele hg n (Nat.le_refl n)
  rw [hg.2.2.2.1] at h1
  rw [← h1]
  refine sm_le (fun v hv => ?_)
  by_cases hE : E v = 0
  · simp only [hE, if_true]; exact Nat.zero_le _
  · simp only [hE, if_false]
    have := hN.1 v hv hE
    omega
theorem kt_m_next {s : Nat} (hs : s < n) (hE : E s ≠ 0) (h1 : st s ≤ N s) : kt_m n st E (va_up N s (N s + 1)) e d = kt_m n st E N e d + 1 := by
  unfold kt_m
  have h2 := sm_up (f := fun v => if E v = 0 then 0 else va_up N s (N s + 1) v - st v) (g := fun v => if E v = 0 then 0 else N v - st v) (k := s) hs (fun i hi hne => by simp only [up_n hne])
  simp only [hE, if_false, up_s] at h2
  omega
theorem kt_m_enter {t : Nat} (ht : t < n) (h0 : E t = 0) : kt_m n st (va_up E t (e + 1)) (va_up N t (st t)) (e + 1) (d + 1) = kt_m n st E N e d := by
  unfold kt_m
  have h2 : sm_N (fun v => if va_up E t (e + 1) v = 0 then 0 else va_up N t (st t) v - st v) n = sm_N (fun v => if E v = 0 then 0 else N v - st v) n := by
    refine sm_congr (fun v hv => ?_)
    by_cases hvt : v = t
    · subst hvt
      simp only [up_s, h0, if_true]
      simp
    · simp only [up_n hvt]
  rw [h2]
  omega
end KTD
