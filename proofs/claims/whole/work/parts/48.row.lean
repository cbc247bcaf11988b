/-! PURE: rows -/
/-- how each state was come to -/
def bf_T (m : Nat) (fr to : Nat → Nat) (X : bf_X) : Prop := ∀ v, X.2.2.1 v = true → (X.2.2.2.1 v = -1 ∧ X.2.2.2.2 v = 0) ∨ ∃ j, j < m ∧ X.2.2.2.1 v = nI j ∧ to j = v ∧ X.2.2.1 (fr j) = true ∧ X.2.2.2.2 v = X.2.2.2.2 (fr j) + 1
section RW
variable {n m : Nat} {aj : Nat → List Nat} {fr to : Nat → Nat}
theorem bf_T_step {X : bf_X} {s j : Nat} (hT : bf_T m fr to X) (hs : X.2.2.1 s = true) (hj : j < m) (hfr : fr j = s) : bf_T m fr to (bf_step to s X j) := by
  by_cases hn : X.2.2.1 (to j) = true
  · rw [bf_step_t hn]; exact hT
  · rw [bf_step_f hn]
    intro v hv
    have hv : va_up X.2.2.1 (to j) true v = true := hv
    have hne : ∀ u, X.2.2.1 u = true → u ≠ to j := fun u hu h => hn (h ▸ hu)
    show (va_up X.2.2.2.1 (to j) (nI j) v = -1 ∧ va_up X.2.2.2.2 (to j) (X.2.2.2.2 s + 1) v = 0) ∨ ∃ j', j' < m ∧ va_up X.2.2.2.1 (to j) (nI j) v = nI j' ∧ to j' = v ∧ va_up X.2.2.1 (to j) true (fr j') = true ∧ va_up X.2.2.2.2 (to j) (X.2.2.2.2 s + 1) v = va_up X.2.2.2.2 (to j) (X.2.2.2.2 s + 1) (fr j') + 1
    by_cases hvt : v = to j
    · subst hvt
      refine Or.inr ⟨j, hj, up_s, rfl, ?_, ?_⟩
      · rw [hfr, up_n (hne s hs)]; exact hs
      · rw [up_s, hfr, up_n (hne s hs)]
    · rw [up_n hvt] at hv
      rw [up_n hvt, up_n hvt]
      rcases hT v hv with h | ⟨j', h1, h2, h3, h4, h5⟩
      · exact Or.inl h
      · exact Or.inr ⟨j', h1, h2, h3, by rw [up_n (hne _ h4)]; exact h4, by rw [up_n (hne _ h4)]; exact h5⟩
theorem bf_T_fold {s : Nat} : ∀ (l : List Nat) (X : bf_X), (∀ j, j ∈ l → j < m ∧ fr j = s ∧ to j < n) → bf_I n X → bf_T m fr to X → X.2.2.1 s = true → bf_I n (l.foldl (bf_step to s) X) ∧ bf_T m fr to (l.foldl (bf_step to s) X) := by
  intro l
  induction l with
  | nil => intro X _ hI hT _; exact ⟨hI, hT⟩
  | cons j l ih =>
    intro X hl hI hT hs
    have hj := hl j (by simp)
    exact ih (bf_step to s X j) (fun i hi => hl i (List.mem_cons_of_mem _ hi)) (bf_I_step hI hs hj.2.2) (bf_T_step hT hs hj.1 hj.2.1) ((bf_step_le X).2.2 s hs)
theorem bf_T_run (ha : gr_A n m aj fr to) : ∀ (f k : Nat) (X : bf_X), bf_I n X → bf_T m fr to X → bf_T m fr to (bf_run aj to f k X) := by
  intro f
  induction f with
  | zero => intro k X _ hT; exact hT
  | succ f ih =>
    intro k X hI hT
    unfold bf_run
    by_cases hk : k < X.1
    · simp only [hk, if_true]
      have hq : X.2.1 k < n := by
        obtain ⟨c, q, sn, bm, fa⟩ := X
        exact hI.2.1 k hk
      have hs : X.2.2.1 (X.2.1 k) = true := by
        obtain ⟨c, q, sn, bm, fa⟩ := X
        exact (hI.1 (q k)).mpr ⟨k, hk, rfl⟩
      have := bf_T_fold (n := n) (m := m) (fr := fr) (to := to) (s := X.2.1 k) (aj (X.2.1 k)) X (fun j hj => ⟨((ha.1 _ j hq).mp hj).1, ((ha.1 _ j hq).mp hj).2, (ha.2 j ((ha.1 _ j hq).mp hj).1).2⟩) hI hT hs
      exact ih (k + 1) _ this.1 this.2
    · simp only [hk, if_false]; exact hT
theorem bf_T_all (ha : gr_A n m aj fr to) : bf_T m fr to (bf_all aj to n) := by
  unfold bf_all
  by_cases h0 : n = 0
  · simp only [h0, if_true]
    intro v hv
    have hv : false = true := hv
    cases hv
  · simp only [h0, if_false]
    refine bf_T_run ha n 0 bf_1 ?_ ?_
    · refine ⟨fun v => ?_, fun i hi => (by show 0 < n; omega), fun i j hi hj _ => (by have : i < 1 := hi; have : j < 1 := hj; omega), fun v h => (by show 0 < 1; omega)⟩
      show va_up (fun _ => false) 0 true v = true ↔ ∃ i, i < 1 ∧ 0 = v
      by_cases hv : v = 0
      · subst hv; rw [up_s]; exact ⟨fun _ => ⟨0, by omega, rfl⟩, fun _ => rfl⟩
      · rw [up_n hv]; exact ⟨fun h => (by cases h), fun ⟨_, _, e⟩ => absurd e.symm hv⟩
    · intro v hv
      exact Or.inl ⟨rfl, rfl⟩
/-- k moves back from v -/
def pd_N (fr : Nat → Nat) (bm : Nat → Int32) (v : Nat) : Nat → Nat
  | 0 => v
  | k + 1 => fr (bm (pd_N fr bm v k)).toNatClampNeg
theorem pd_at {X : bf_X} (hm : m ≤ 600) (hT : bf_T m fr to X) {v : Nat} (hv : X.2.2.1 v = true) : ∀ k, k ≤ X.2.2.2.2 v → X.2.2.1 (pd_N fr X.2.2.2.1 v k) = true ∧ X.2.2.2.2 (pd_N fr X.2.2.2.1 v k) + k = X.2.2.2.2 v ∧ (k < X.2.2.2.2 v → ∃ j, j < m ∧ X.2.2.2.1 (pd_N fr X.2.2.2.1 v k) = nI j ∧ pd_N fr X.2.2.2.1 v (k + 1) = fr j) := by
  intro k
  induction k with
  | zero =>
    intro _
    refine ⟨hv, rfl, fun hk => ?_⟩
    rcases hT v hv with ⟨h1, h2⟩ | ⟨j, h1, h2, h3, h4, h5⟩
    · omega
    · exact ⟨j, h1, h2, by show fr (X.2.2.2.1 v).toNatClampNeg = fr j; rw [h2, cl_nI (by omega)]⟩
  | succ k ih =>
    intro hk
    obtain ⟨i1, i2, i3⟩ := ih (by omega)
    obtain ⟨j, j1, j2, j3⟩ := i3 (by omega)
    rcases hT _ i1 with ⟨h1, h2⟩ | ⟨j', h1, h2, h3, h4, h5⟩
    · omega
    · have hjj : j' = j := (nI_eq (by omega) (by omega)).mp (h2.symm.trans j2)
      rw [hjj] at h4 h5
      rw [j3]
      refine ⟨h4, by omega, fun hk2 => ?_⟩
      rcases hT _ h4 with ⟨g1, g2⟩ | ⟨x, g1, g2, g3, g4, g5⟩
      · omega
      · refine ⟨x, g1, g2, ?_⟩
        show fr (X.2.2.2.1 (pd_N fr X.2.2.2.1 v (k + 1))).toNatClampNeg = fr x
        rw [j3, g2, cl_nI (by omega)]
/-- move i of the row to v -/
def rw_V (fr : Nat → Nat) (X : bf_X) (v i : Nat) : Int32 := if X.2.2.1 v = true ∧ i < X.2.2.2.2 v then X.2.2.2.1 (pd_N fr X.2.2.2.1 v (X.2.2.2.2 v - 1 - i)) else -1
theorem rw_C {X : bf_X} (hn : n ≤ 200) (hm : m ≤ 600) (hI : bf_I n X) (hT : bf_T m fr to X) {gfr : Nat → Int32} (hfr : ∀ j, j < m → gfr j = nI (fr j)) {fo : Int32} {li fa lm : Nat → Int32} (hC : bf_C n X fo li fa lm) {v i : Nat} (hv : v < n) (hi : i < 2 ^ 31) :
    ot_T (fn_X2_moveOnWayTo gfr fa lm (nI v) (nI i)) (fun r => r = rw_V fr X v i) := by
  have hlt : ∀ u, X.2.2.1 u = true → u < n ∧ X.2.2.2.2 u < n := by
    intro u hu
    have hc := bf_I_c hI
    obtain ⟨c, q, sn, bm, f9⟩ := X
    obtain ⟨k, k1, k2⟩ := (hI.1 u).mp hu
    have h1 := hI.2.1 k k1
    have h2 := hI.2.2.2 u hu
    have hc : c ≤ n := hc
    exact ⟨by rw [← k2]; exact h1, by show f9 u < n; omega⟩
  unfold fn_X2_moveOnWayTo
  rw [cl_nI (show v < 2 ^ 31 by omega)]
  refine ot_i (in_nI (by omega) (by decide)) ?_
  unfold rw_V
  cases hsn : X.2.2.1 v with
  | false =>
    rw [hC.2.2.2 v hv hsn]
    refine ot_f (fun h => ?_) (ot_s ?_)
    · have h0 : (0 : Int32) ≤ nI i := nI_pos' hi
      exact absurd (Int32.lt_of_le_of_lt h0 h) (by decide)
    · simp
  | true =>
    have hD := (hlt v hsn).2
    rw [(hC.2.2.1 v hv hsn).1]
    by_cases hid : i < X.2.2.2.2 v
    · refine ot_t (by rw [nI_ltI hi (by omega)]; exact hid) (ot_i (in_nI (by omega) (by decide)) ?_)
      obtain ⟨D, hDe⟩ : ∃ D, X.2.2.2.2 v = D + 1 := ⟨X.2.2.2.2 v - 1, by omega⟩
      rw [hDe, nI_pred]
      refine ot_b (P := fun x => x.1 = nI (pd_N fr X.2.2.2.1 v (D - i))) ?_ ?_
      · refine ot_for (fun k x => x.1 = nI (pd_N fr X.2.2.2.1 v k) ∧ x.2 = nI (D - k)) (D - i) ?_ ?_ 1000000 0 _ (Nat.zero_le _) ⟨rfl, rfl⟩ (by omega)
        · rintro k ⟨v4, v5⟩ hk ⟨e1, e2⟩
          dsimp only at e1 e2
          subst e1
          subst e2
          have hik : ¬ (D - k ≤ i) := by omega
          have hDk : D - k = (D - (k + 1)) + 1 := by omega
          have hDl : D - k < 2 ^ 31 := by omega
          obtain ⟨p1, p2, p3⟩ := pd_at hm hT hsn k (by omega)
          obtain ⟨j, j1, j2, j3⟩ := p3 (by omega)
          have hp := (hlt _ p1).1
          unfold fn_X2_moveOnWayTo_l25
          dsimp only
          rw [cl_nI (show pd_N fr X.2.2.2.1 v k < 2 ^ 31 by omega), (hC.2.2.1 _ hp p1).2, j2, cl_nI (show j < 2 ^ 31 by omega), hfr j j1]
          refine ot_f (by rw [nI_leI hDl hi]; exact hik) (ot_i (in_nI (by omega) (by decide)) (ot_i (in_nI (by omega) (by decide)) (ot_s ⟨by rw [j3], ?_⟩)))
          show nI (D - k) + (-1) = nI (D - (k + 1))
          rw [hDk, pk_m1]
        · rintro ⟨v4, v5⟩ ⟨e1, e2⟩
          dsimp only at e1 e2
          subst e2
          unfold fn_X2_moveOnWayTo_l25
          dsimp only
          exact ot_t (by rw [nI_leI (by omega) hi]; omega) (ot_s e1)
      · rintro ⟨v4, v5⟩ e1
        dsimp only at e1 ⊢
        subst e1
        obtain ⟨p1, p2, p3⟩ := pd_at hm hT hsn (D - i) (by omega)
        have hp := (hlt _ p1).1
        rw [cl_nI (show pd_N fr X.2.2.2.1 v (D - i) < 2 ^ 31 by omega)]
        refine ot_i (in_nI (by omega) (by decide)) (ot_s ?_)
        rw [(hC.2.2.1 _ hp p1).2]
        have : True ∧ i < D + 1 := ⟨trivial, by omega⟩
        simp [show i < D + 1 by omega]
    · refine ot_f (by rw [nI_ltI hi (by omega)]; exact hid) (ot_s ?_)
      simp [hid]
end RW
