/-! PURE: the walk over the graph, as both sides do it. A state X: how many are found, their line, which they are, by which move, how far -/
abbrev bf_X : Type := Nat × (Nat → Nat) × (Nat → Bool) × (Nat → Int32) × (Nat → Nat)
def bf_step (to : Nat → Nat) (s : Nat) (X : bf_X) (m : Nat) : bf_X := match X with
  | (c, q, sn, bm, fa) => if sn (to m) = true then (c, q, sn, bm, fa) else (c + 1, va_up q c (to m), va_up sn (to m) true, va_up bm (to m) (nI m), va_up fa (to m) (fa s + 1))
def bf_node (aj : Nat → List Nat) (to : Nat → Nat) (X : bf_X) (s : Nat) : bf_X := (aj s).foldl (bf_step to s) X
def bf_run (aj : Nat → List Nat) (to : Nat → Nat) : Nat → Nat → bf_X → bf_X
  | 0, _, X => X
  | f + 1, k, X => if k < X.1 then bf_run aj to f (k + 1) (bf_node aj to X (X.2.1 k)) else X
def bf_0 : bf_X := (0, fun _ => 0, fun _ => false, fun _ => -1, fun _ => 0)
def bf_1 : bf_X := (1, fun _ => 0, va_up (fun _ => false) 0 true, fun _ => -1, fun _ => 0)
def bf_all (aj : Nat → List Nat) (to : Nat → Nat) (n : Nat) : bf_X := if n = 0 then bf_0 else bf_run aj to n 0 bf_1
def bf_I (n : Nat) (X : bf_X) : Prop := match X with
  | (c, q, sn, _, fa) => (∀ v, sn v = true ↔ ∃ i, i < c ∧ q i = v) ∧ (∀ i, i < c → q i < n) ∧ (∀ i j, i < c → j < c → q i = q j → i = j) ∧ (∀ v, sn v = true → fa v < c)
theorem bf_I_c {n : Nat} {X : bf_X} (h : bf_I n X) : X.1 ≤ n := by
  obtain ⟨c, q, sn, bm, fa⟩ := X
  obtain ⟨h1, h2, h3, h4⟩ := h
  exact ph_le n c q h2 h3
theorem bf_I_step {n : Nat} {to : Nat → Nat} {s m : Nat} {X : bf_X} (h : bf_I n X) (hs : X.2.2.1 s = true) (ht : to m < n) : bf_I n (bf_step to s X m) := by
  obtain ⟨c, q, sn, bm, fa⟩ := X
  obtain ⟨h1, h2, h3, h4⟩ := h
  have hs : sn s = true := hs
  show bf_I n (if sn (to m) = true then (c, q, sn, bm, fa) else (c + 1, va_up q c (to m), va_up sn (to m) true, va_up bm (to m) (nI m), va_up fa (to m) (fa s + 1)))
  by_cases hn : sn (to m) = true
  · rw [if_pos hn]
    exact ⟨h1, h2, h3, h4⟩
  · rw [if_neg hn]
    have hnew : ∀ i, i < c → q i ≠ to m := fun i hi e => hn ((h1 _).mpr ⟨i, hi, e⟩)
    refine ⟨?_, ?_, ?_, ?_⟩
    · intro v
      by_cases hv : v = to m
      · subst hv
        rw [up_s]
        exact ⟨fun _ => ⟨c, by omega, up_s⟩, fun _ => rfl⟩
      · rw [up_n hv, h1]
        constructor
        · rintro ⟨i, hi, e⟩
          exact ⟨i, by omega, by rw [up_n (by omega)]; exact e⟩
        · rintro ⟨i, hi, e⟩
          by_cases hic : i = c
          · rw [hic, up_s] at e; exact absurd e.symm hv
          · rw [up_n hic] at e; exact ⟨i, by omega, e⟩
    · intro i hi
      by_cases hic : i = c
      · rw [hic, up_s]; exact ht
      · rw [up_n hic]; exact h2 i (by omega)
    · intro i j hi hj e
      by_cases hic : i = c
      · by_cases hjc : j = c
        · omega
        · rw [hic, up_s, up_n hjc] at e
          exact absurd e.symm (hnew j (by omega))
      · by_cases hjc : j = c
        · rw [hjc, up_s, up_n hic] at e
          exact absurd e (hnew i (by omega))
        · rw [up_n hic, up_n hjc] at e
          exact h3 i j (by omega) (by omega) e
    · intro v hv
      by_cases hvt : v = to m
      · rw [hvt, up_s]; have := h4 s hs; omega
      · rw [up_n hvt] at hv ⊢; have := h4 v hv; omega
theorem bf_step_t {to : Nat → Nat} {s m : Nat} {X : bf_X} (h : X.2.2.1 (to m) = true) : bf_step to s X m = X := by
  obtain ⟨c, q, sn, bm, fa⟩ := X
  exact if_pos h
theorem bf_step_f {to : Nat → Nat} {s m : Nat} {X : bf_X} (h : ¬ X.2.2.1 (to m) = true) : bf_step to s X m = (X.1 + 1, va_up X.2.1 X.1 (to m), va_up X.2.2.1 (to m) true, va_up X.2.2.2.1 (to m) (nI m), va_up X.2.2.2.2 (to m) (X.2.2.2.2 s + 1)) := by
  obtain ⟨c, q, sn, bm, fa⟩ := X
  exact if_neg h
/-- what is seen stays seen, the line only grows -/
theorem bf_step_le {to : Nat → Nat} {s m : Nat} (X : bf_X) : X.1 ≤ (bf_step to s X m).1 ∧ (∀ i, i < X.1 → (bf_step to s X m).2.1 i = X.2.1 i) ∧ (∀ v, X.2.2.1 v = true → (bf_step to s X m).2.2.1 v = true) := by
  by_cases hn : X.2.2.1 (to m) = true
  · rw [bf_step_t hn]
    exact ⟨Nat.le_refl _, fun _ _ => rfl, fun _ h => h⟩
  · rw [bf_step_f hn]
    refine ⟨Nat.le_succ _, fun i hi => up_n (by omega), fun v hv => ?_⟩
    show va_up X.2.2.1 (to m) true v = true
    by_cases hvt : v = to m
    · rw [hvt, up_s]
    · rw [up_n hvt]; exact hv
/-- the class's side -/
def bf_C (n : Nat) (X : bf_X) (fo : Int32) (li fa lm : Nat → Int32) : Prop := fo = nI X.1 ∧ (∀ i, i < X.1 → li i = nI (X.2.1 i)) ∧ (∀ v, v < n → X.2.2.1 v = true → fa v = nI (X.2.2.2.2 v) ∧ lm v = X.2.2.2.1 v) ∧ (∀ v, v < n → X.2.2.1 v = false → fa v = -1)
/-- the model's side -/
def bf_M (n : Nat) (X : bf_X) (co : Int32) (qu bm re : Nat → Int32) : Prop := co = nI X.1 ∧ (∀ i, i < X.1 → qu i = nI (X.2.1 i)) ∧ (∀ v, v < n → X.2.2.1 v = true → re v = 1 ∧ bm v = X.2.2.2.1 v) ∧ (∀ v, v < n → X.2.2.1 v = false → re v = 0)
theorem bf_C_new {n : Nat} {to : Nat → Nat} {s m : Nat} {X : bf_X} {fo : Int32} {li fa lm : Nat → Int32} (h : bf_C n X fo li fa lm) (hn : ¬ X.2.2.1 (to m) = true) :
    bf_C n (bf_step to s X m) (fo + 1) (upd li X.1 (nI (to m))) (upd fa (to m) (nI (X.2.2.2.2 s + 1))) (upd lm (to m) (nI m)) := by
  obtain ⟨c, q, sn, bm, fa9⟩ := X
  obtain ⟨h1, h2, h3, h4⟩ := h
  have hn : ¬ sn (to m) = true := hn
  unfold bf_step
  simp only [hn, if_false]
  refine ⟨?_, ?_, ?_, ?_⟩
  · rw [h1]; exact nI_1 c
  · intro i hi
    show upd li c (nI (to m)) i = nI (va_up q c (to m) i)
    by_cases hic : i = c
    · rw [hic, upd_s, up_s]
    · rw [upd_n hic, up_n hic]
      exact h2 i (by have : i < c + 1 := hi; show i < c; omega)
  · intro v hv hs
    by_cases hvt : v = to m
    · subst hvt
      rw [upd_s, upd_s]
      exact ⟨by show nI (fa9 s + 1) = nI (va_up fa9 (to m) (fa9 s + 1) (to m)); rw [up_s], by show nI m = va_up bm (to m) (nI m) (to m); rw [up_s]⟩
    · have hs : va_up sn (to m) true v = true := hs
      rw [up_n hvt] at hs
      rw [upd_n hvt, upd_n hvt]
      have := h3 v hv hs
      exact ⟨by show fa v = nI (va_up fa9 (to m) (fa9 s + 1) v); rw [up_n hvt]; exact this.1, by show lm v = va_up bm (to m) (nI m) v; rw [up_n hvt]; exact this.2⟩
  · intro v hv hs
    have hs : va_up sn (to m) true v = false := hs
    by_cases hvt : v = to m
    · rw [hvt, up_s] at hs; cases hs
    · rw [up_n hvt] at hs
      rw [upd_n hvt]
      exact h4 v hv hs
theorem bf_M_new {n : Nat} {to : Nat → Nat} {s m : Nat} {X : bf_X} {co : Int32} {qu bm re : Nat → Int32} (h : bf_M n X co qu bm re) (hn : ¬ X.2.2.1 (to m) = true) :
    bf_M n (bf_step to s X m) (co + 1) (upd qu X.1 (nI (to m))) (upd bm (to m) (nI m)) (upd re (to m) 1) := by
  obtain ⟨c, q, sn, b9, fa9⟩ := X
  obtain ⟨h1, h2, h3, h4⟩ := h
  have hn : ¬ sn (to m) = true := hn
  unfold bf_step
  simp only [hn, if_false]
  refine ⟨?_, ?_, ?_, ?_⟩
  · rw [h1]; exact nI_1 c
  · intro i hi
    show upd qu c (nI (to m)) i = nI (va_up q c (to m) i)
    by_cases hic : i = c
    · rw [hic, upd_s, up_s]
    · rw [upd_n hic, up_n hic]
      exact h2 i (by have : i < c + 1 := hi; show i < c; omega)
  · intro v hv hs
    by_cases hvt : v = to m
    · subst hvt
      rw [upd_s, upd_s]
      exact ⟨rfl, by show nI m = va_up b9 (to m) (nI m) (to m); rw [up_s]⟩
    · have hs : va_up sn (to m) true v = true := hs
      rw [up_n hvt] at hs
      rw [upd_n hvt, upd_n hvt]
      have := h3 v hv hs
      exact ⟨this.1, by show bm v = va_up b9 (to m) (nI m) v; rw [up_n hvt]; exact this.2⟩
  · intro v hv hs
    have hs : va_up sn (to m) true v = false := hs
    by_cases hvt : v = to m
    · rw [hvt, up_s] at hs; cases hs
    · rw [up_n hvt] at hs
      rw [upd_n hvt]
      exact h4 v hv hs
