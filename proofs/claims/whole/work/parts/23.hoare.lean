/-! PURE: total correctness of the Option programs -/
def ot_T {α : Type} (x : Option α) (Q : α → Prop) : Prop := ∃ a, x = some a ∧ Q a
theorem ot_s {α : Type} {a : α} {Q : α → Prop} (h : Q a) : ot_T (some a) Q := ⟨a, rfl, h⟩
theorem ot_m {α : Type} {x : Option α} {P Q : α → Prop} (h : ot_T x P) (hpq : ∀ a, P a → Q a) : ot_T x Q := by
  obtain ⟨a, h1, h2⟩ := h
  exact ⟨a, h1, hpq a h2⟩
theorem ot_b {α β : Type} {x : Option α} {k : α → Option β} {P : α → Prop} {Q : β → Prop} (h : ot_T x P) (hk : ∀ a, P a → ot_T (k a) Q) : ot_T (ox_b x k) Q := by
  obtain ⟨a, h1, h2⟩ := h
  rw [h1]
  exact hk a h2
theorem ot_i {α : Type} {i : Int32} {n : Nat} {k : Option α} {Q : α → Prop} (hi : vp_in i n) (h : ot_T k Q) : ot_T (ox_g (ox_in i n) k) Q := by
  have h1 : ox_in i n = true := ox_in_t hi
  rw [h1]
  exact h
theorem ot_z {α : Type} {v : Int32} {k : Option α} {Q : α → Prop} (hi : v = 0 ∨ v = 1) (h : ot_T k Q) : ot_T (ox_g (ox_z v) k) Q := by
  have h1 : ox_z v = true := decide_eq_true hi
  rw [h1]
  exact h
theorem ot_if {α : Type} {c : Prop} {i : Decidable c} {a b : Option α} {Q : α → Prop} (ht : c → ot_T a Q) (hf : ¬ c → ot_T b Q) : ot_T (@ite _ c i a b) Q := by
  by_cases h : c
  · rw [if_pos h]; exact ht h
  · rw [if_neg h]; exact hf h
theorem ot_t {α : Type} {c : Prop} {i : Decidable c} {a b : Option α} {Q : α → Prop} (hc : c) (ht : ot_T a Q) : ot_T (@ite _ c i a b) Q := by rw [if_pos hc]; exact ht
theorem ot_f {α : Type} {c : Prop} {i : Decidable c} {a b : Option α} {Q : α → Prop} (hc : ¬ c) (ht : ot_T b Q) : ot_T (@ite _ c i a b) Q := by rw [if_neg hc]; exact ht
/-- what one turn of a loop owes -/
def ot_R {σ ρ : Type} (I : σ → Prop) (Q : ρ → Prop) (z : σ ⊕ ρ) : Prop := match z with
  | .inl y => I y
  | .inr r => Q r
theorem ot_loop {σ ρ : Type} {f : σ → Option (σ ⊕ ρ)} (I : σ → Prop) (μ : σ → Nat) {Q : ρ → Prop} (hs : ∀ x, I x → ot_T (f x) (ot_R (fun y => I y ∧ μ y < μ x) Q)) :
    ∀ n x, I x → μ x < n → ot_T (ox_l f n x) Q := by
  intro n
  induction n with
  | zero => intro x _ h; exact absurd h (Nat.not_lt_zero _)
  | succ n ih =>
    intro x hI hμ
    obtain ⟨z, h1, h2⟩ := hs x hI
    cases z with
    | inl y =>
      have h3 := ih y h2.1 (by have := h2.2; omega)
      show ot_T (ox_l f (n + 1) x) Q
      simp only [ox_l, h1]
      exact h3
    | inr r =>
      show ot_T (ox_l f (n + 1) x) Q
      simp only [ox_l, h1]
      exact ot_s h2
/-- a loop that counts i up to e; it may end before -/
theorem ot_for {σ ρ : Type} {f : σ → Option (σ ⊕ ρ)} (I : Nat → σ → Prop) (e : Nat) {Q : ρ → Prop} (hs : ∀ i x, i < e → I i x → ot_T (f x) (ot_R (I (i + 1)) Q)) (hx : ∀ x, I e x → ot_T (f x) (ot_R (fun _ => False) Q)) :
    ∀ n i x, i ≤ e → I i x → e - i < n → ot_T (ox_l f n x) Q := by
  intro n
  induction n with
  | zero => intro i x _ _ h; exact absurd h (Nat.not_lt_zero _)
  | succ n ih =>
    intro i x hi hI hn
    rcases Nat.lt_or_ge i e with q | q
    · obtain ⟨z, h1, h2⟩ := hs i x q hI
      cases z with
      | inl y =>
        have h3 := ih (i + 1) y (by omega) h2 (by omega)
        simp only [ox_l, h1]
        exact h3
      | inr r =>
        simp only [ox_l, h1]
        exact ot_s h2
    · have : i = e := by omega
      subst this
      obtain ⟨z, h1, h2⟩ := hx x hI
      cases z with
      | inl y => exact absurd h2 id
      | inr r =>
        simp only [ox_l, h1]
        exact ot_s h2
/-! numbers -/
theorem in_nI {k n : Nat} (h : k < n) (hn : n < 2 ^ 31) : vp_in (nI k) n := vp_in_nI h hn
theorem cl_nI {k : Nat} (h : k < 2 ^ 31) : (nI k).toNatClampNeg = k := nI_clamp h
theorem nI_m1 {k : Nat} (h : k < 2 ^ 31) : ¬ nI k = -1 := by
  intro e
  have h1 := nI_toInt h
  rw [e] at h1
  have : ((-1 : Int32)).toInt = -1 := by decide
  omega
theorem nz_b0 : vp_nar .boolean 0 = 0 := by rfl
theorem nz_b1 : vp_nar .boolean 1 = 1 := by rfl
theorem upd_s {f : Nat → Int32} {k : Nat} {x : Int32} : upd f k x k = x := pk_us
theorem upd_n {f : Nat → Int32} {k j : Nat} {x : Int32} (h : j ≠ k) : upd f k x j = f j := pk_un h
/-- a loop along a list -/
theorem ot_list {α σ ρ : Type} {f : σ → Option (σ ⊕ ρ)} (J : List α → σ → Prop) {Q : ρ → Prop} (hs : ∀ a l x, J (a :: l) x → ot_T (f x) (ot_R (J l) Q)) (hx : ∀ x, J [] x → ot_T (f x) (ot_R (fun _ => False) Q)) :
    ∀ n l x, J l x → l.length < n → ot_T (ox_l f n x) Q := by
  intro n
  induction n with
  | zero => intro l x _ h; exact absurd h (Nat.not_lt_zero _)
  | succ n ih =>
    intro l x hJ hn
    cases l with
    | nil =>
      obtain ⟨z, h1, h2⟩ := hx x hJ
      cases z with
      | inl y => exact absurd h2 id
      | inr r => simp only [ox_l, h1]; exact ot_s h2
    | cons a l =>
      obtain ⟨z, h1, h2⟩ := hs a l x hJ
      cases z with
      | inl y =>
        have h3 := ih l y h2 (by simp only [List.length_cons] at hn; omega)
        simp only [ox_l, h1]
        exact h3
      | inr r => simp only [ox_l, h1]; exact ot_s h2
