/-! PURE: reachability, counting, function updates -/
def rc_R (E : Nat → Nat → Prop) (a b : Nat) : Prop := ∀ S : Nat → Prop, S a → (∀ u v, S u → E u v → S v) → S b
theorem rc_refl {E : Nat → Nat → Prop} {a : Nat} : rc_R E a a := fun _ h _ => h
theorem rc_edge {E : Nat → Nat → Prop} {a b : Nat} (h : E a b) : rc_R E a b := fun _ ha hs => hs _ _ ha h
theorem rc_trans {E : Nat → Nat → Prop} {a b c : Nat} (h1 : rc_R E a b) (h2 : rc_R E b c) : rc_R E a c := fun S ha hs => h2 S (h1 S ha hs) hs
theorem rc_stay {E : Nat → Nat → Prop} {a b : Nat} (h : rc_R E a b) (S : Nat → Prop) (ha : S a) (hs : ∀ u v, S u → E u v → S v) : S b := h S ha hs
theorem rc_mono {E F : Nat → Nat → Prop} (hEF : ∀ u v, E u v → F u v) {a b : Nat} (h : rc_R E a b) : rc_R F a b := h (fun x => rc_R F a x) rc_refl (fun _ _ hu he => rc_trans hu (rc_edge (hEF _ _ he)))
/-- the first step, or none -/
theorem rc_cases {E : Nat → Nat → Prop} {a b : Nat} (h : rc_R E a b) : a = b ∨ ∃ c, rc_R E a c ∧ E c b := by
  refine (h (fun x => rc_R E a x ∧ (a = x ∨ ∃ c, rc_R E a c ∧ E c x)) ⟨rc_refl, Or.inl rfl⟩ ?_).2
  intro u v hu he
  exact ⟨rc_trans hu.1 (rc_edge he), Or.inr ⟨u, hu.1, he⟩⟩
theorem rc_front {E : Nat → Nat → Prop} {a b : Nat} (h : rc_R E a b) : a = b ∨ ∃ c, E a c ∧ rc_R E c b := by
  refine h (fun x => a = x ∨ ∃ c, E a c ∧ rc_R E c x) (Or.inl rfl) ?_
  intro u v hu he
  rcases hu with rfl | ⟨c, h1, h2⟩
  · exact Or.inr ⟨v, he, rc_refl⟩
  · exact Or.inr ⟨c, h1, rc_trans h2 (rc_edge he)⟩
theorem up_s {α : Type} {f : Nat → α} {k : Nat} {v : α} : va_up f k v k = v := by simp [va_up]
theorem up_n {α : Type} {f : Nat → α} {k j : Nat} {v : α} (h : j ≠ k) : va_up f k v j = f j := by simp [va_up, h]
/-- pigeonhole -/
theorem ph_le : ∀ (n e : Nat) (g : Nat → Nat), (∀ i, i < e → g i < n) → (∀ i j, i < e → j < e → g i = g j → i = j) → e ≤ n := by
  intro n
  induction n with
  | zero =>
    intro e g h1 _
    cases e with
    | zero => exact Nat.le_refl 0
    | succ e => exact absurd (h1 0 (Nat.succ_pos e)) (Nat.not_lt_zero _)
  | succ n ih =>
    intro e g h1 h2
    cases e with
    | zero => exact Nat.zero_le _
    | succ e =>
      -- drop the place that holds n, if there is one: put g e there
      refine Nat.succ_le_succ (ih e (fun i => if g i = n then g e else g i) ?_ ?_)
      · intro i hi
        have a1 := h1 i (by omega)
        have a2 := h1 e (by omega)
        by_cases h : g i = n
        · simp only [h, if_true]
          have : g e ≠ n := fun h' => by
            have := h2 i e (by omega) (by omega) (h.trans h'.symm)
            omega
          omega
        · simp only [h, if_false]
          omega
      · intro i j hi hj h
        have key := h2 i j (by omega) (by omega)
        have kie := h2 i e (by omega) (by omega)
        have kje := h2 j e (by omega) (by omega)
        by_cases h3 : g i = n
        · by_cases h4 : g j = n
          · exact key (h3.trans h4.symm)
          · simp only [h3, h4, if_true, if_false] at h
            have := kje h.symm
            omega
        · by_cases h4 : g j = n
          · simp only [h3, h4, if_true, if_false] at h
            have := kie h
            omega
          · simp only [h3, h4, if_false] at h
            exact key h
/-- sums -/
def sm_N (f : Nat → Nat) : Nat → Nat
  | 0 => 0
  | n + 1 => sm_N f n + f n
theorem sm_congr {f g : Nat → Nat} : ∀ {n : Nat}, (∀ i, i < n → f i = g i) → sm_N f n = sm_N g n := by
  intro n
  induction n with
  | zero => intro _; rfl
  | succ n ih =>
    intro h
    simp only [sm_N]
    rw [ih (fun i hi => h i (by omega)), h n (by omega)]
theorem sm_le {f g : Nat → Nat} : ∀ {n : Nat}, (∀ i, i < n → f i ≤ g i) → sm_N f n ≤ sm_N g n := by
  intro n
  induction n with
  | zero => intro _; exact Nat.le_refl _
  | succ n ih =>
    intro h
    simp only [sm_N]
    have := ih (fun i hi => h i (by omega))
    have := h n (by omega)
    omega
theorem sm_up {f g : Nat → Nat} {k : Nat} : ∀ {n : Nat}, k < n → (∀ i, i < n → i ≠ k → f i = g i) → sm_N f n + g k = sm_N g n + f k := by
  intro n
  induction n with
  | zero => intro h; exact absurd h (Nat.not_lt_zero _)
  | succ n ih =>
    intro hk h
    simp only [sm_N]
    by_cases hkn : k = n
    · subst hkn
      have : sm_N f k = sm_N g k := sm_congr (fun i hi => h i (by omega) (by omega))
      omega
    · have h1 := ih (by omega) (fun i hi hne => h i (by omega) hne)
      have h2 := h n (by omega) (fun e => hkn e.symm)
      omega
theorem sm_get {f : Nat → Nat} {k : Nat} : ∀ {n : Nat}, k < n → f k ≤ sm_N f n := by
  intro n
  induction n with
  | zero => intro h; exact absurd h (Nat.not_lt_zero _)
  | succ n ih =>
    intro hk
    simp only [sm_N]
    by_cases hkn : k = n
    · subst hkn; omega
    · have := ih (by omega)
      omega
