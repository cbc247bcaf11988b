/-! PURE: counting; the model's close and divide -/
noncomputable def cn_P (P : Nat → Prop) : Nat → Nat
  | 0 => 0
  | n + 1 => cn_P P n + @ite Nat (P n) (Classical.propDecidable (P n)) 1 0
theorem cn_t {P : Nat → Prop} {n : Nat} (h : P n) : cn_P P (n + 1) = cn_P P n + 1 := by simp only [cn_P, h, if_true]
theorem cn_f {P : Nat → Prop} {n : Nat} (h : ¬ P n) : cn_P P (n + 1) = cn_P P n := by simp only [cn_P, h, if_false, Nat.add_zero]
theorem cn_le {P : Nat → Prop} : ∀ n, cn_P P n ≤ n := by
  intro n
  induction n with
  | zero => exact Nat.le_refl _
  | succ n ih =>
    by_cases h : P n
    · rw [cn_t h]; omega
    · rw [cn_f h]; omega
theorem cn_mono {P : Nat → Prop} {a : Nat} : ∀ d, cn_P P a ≤ cn_P P (a + d) := by
  intro d
  induction d with
  | zero => exact Nat.le_refl _
  | succ d ih =>
    rw [← Nat.add_assoc]
    by_cases h : P (a + d)
    · rw [cn_t h]; omega
    · rw [cn_f h]; exact ih
theorem cn_lt {P : Nat → Prop} {a b : Nat} (h : P a) (hab : a < b) : cn_P P a < cn_P P b := by
  have h1 := cn_mono (P := P) (a := a + 1) (b - (a + 1))
  rw [show a + 1 + (b - (a + 1)) = b by omega, cn_t h] at h1
  omega
theorem cn_inj {P : Nat → Prop} {a b : Nat} (ha : P a) (hb : P b) (h : cn_P P a = cn_P P b) : a = b := by
  rcases Nat.lt_trichotomy a b with q | q | q
  · have := cn_lt ha q; omega
  · exact q
  · have := cn_lt hb q; omega
theorem cn_congr {P Q : Nat → Prop} : ∀ {n : Nat}, (∀ v, v < n → (P v ↔ Q v)) → cn_P P n = cn_P Q n := by
  intro n
  induction n with
  | zero => intro _; rfl
  | succ n ih =>
    intro h
    have h1 := ih (fun v hv => h v (by omega))
    by_cases hp : P n
    · rw [cn_t hp, cn_t ((h n (by omega)).mp hp), h1]
    · rw [cn_f hp, cn_f (fun q => hp ((h n (by omega)).mpr q)), h1]
/-- u goes round in X; it is the lowest of its knot -/
def rd_Y (m : Nat) (fr to : Nat → Nat) (X : Nat → Prop) (u : Nat) : Prop := rp_R (fp_E m fr to X) u u
def lo_Y (m : Nat) (fr to : Nat → Nat) (X : Nat → Prop) (u : Nat) : Prop := rd_Y m fr to X u ∧ ∀ t, t < u → ¬ fp_C m fr to X u t
section DV
variable {n m : Nat} {aj : Nat → List Nat} {fr to : Nat → Nat} {mto mfi mnx al : Nat → Int32} {X : Nat → Prop}
theorem rp_X {u v : Nat} (h : rp_R (fp_E m fr to X) u v) : X u ∧ X v := by
  obtain ⟨w, h1, h2⟩ := h
  refine ⟨h1.1, ?_⟩
  exact h2 X h1.2.1 (fun a b _ hab => hab.2.1)
theorem rd_C {u v : Nat} (hu : rd_Y m fr to X u) : fp_C m fr to X u v ↔ rp_R (fp_E m fr to X) u v ∧ rp_R (fp_E m fr to X) v u := by
  constructor
  · rintro ⟨h1, h2, h3, h4⟩
    obtain ⟨w, w1, w2⟩ := hu
    refine ⟨⟨w, w1, rc_trans w2 h3⟩, ?_⟩
    rcases rc_front h4 with h | ⟨x, x1, x2⟩
    · rw [h]; exact ⟨w, w1, w2⟩
    · exact ⟨x, x1, x2⟩
  · rintro ⟨h1, h2⟩
    exact ⟨(rp_X h1).1, (rp_X h1).2, rp_rc h1, rp_rc h2⟩
theorem rd_of_C {u v : Nat} (hu : rd_Y m fr to X u) (h : fp_C m fr to X u v) : rd_Y m fr to X v := by
  obtain ⟨h1, h2⟩ := (rd_C hu).mp h
  obtain ⟨w, w1, w2⟩ := h2
  exact ⟨w, w1, rc_trans w2 (rp_rc h1)⟩
/-- a knot's lowest is one -/
theorem lo_one {u v : Nat} (hu : lo_Y m fr to X u) (hv : lo_Y m fr to X v) (h : fp_C m fr to X u v) : u = v := by
  rcases Nat.lt_trichotomy u v with q | q | q
  · exact absurd (fp_C_symm h) (hv.2 u q)
  · exact q
  · exact absurd h (hu.2 v q)
theorem cl_close (hg : gm_R n m aj to mto mfi mnx) (ha : gr_A n m aj fr to) (hz : z01 n al) {qu re : Nat → Int32} :
    ot_T (fn_X5_close (nI n) mto mfi mnx qu al re) (fun r => ∀ s b, s < n → b < n → (r.2 (200 * s + b) = 1 ∧ rp_R (fp_E m fr to (cz n al)) s b) ∨ (r.2 (200 * s + b) = 0 ∧ ¬ rp_R (fp_E m fr to (cz n al)) s b)) := by
  have hn := hg.1
  unfold fn_X5_close
  refine ot_b (P := fun x => ∀ s b, s < n → b < n → (x.2.2 (200 * s + b) = 1 ∧ rp_R (fp_E m fr to (cz n al)) s b) ∨ (x.2.2 (200 * s + b) = 0 ∧ ¬ rp_R (fp_E m fr to (cz n al)) s b)) ?_ (by rintro ⟨a, b, c⟩ h; exact ot_s h)
  refine ot_for (fun i x => x.1 = nI i ∧ ∀ s b, s < i → b < n → (x.2.2 (200 * s + b) = 1 ∧ rp_R (fp_E m fr to (cz n al)) s b) ∨ (x.2.2 (200 * s + b) = 0 ∧ ¬ rp_R (fp_E m fr to (cz n al)) s b)) n ?_ ?_ 1000000 0 _ (Nat.zero_le _) ⟨nI_0.symm, fun s b hs => absurd hs (Nat.not_lt_zero s)⟩ (by omega)
  · rintro i ⟨v1, qu, re⟩ hi ⟨e1, h⟩
    dsimp only at e1 h
    subst e1
    unfold fn_X5_close_l2
    dsimp only
    refine ot_f (fun h => by rw [nI_leI (by omega) (by omega)] at h; omega) ?_
    refine ot_b (P := fun x => (∀ b, b < n → x.2 (200 * i + b) = 0) ∧ ∀ x', (∀ b, b < n → x' ≠ 200 * i + b) → x.2 x' = re x') ?_ ?_
    · refine ot_for (fun j x => x.1 = nI j ∧ (∀ b, b < j → x.2 (200 * i + b) = 0) ∧ ∀ x', (∀ b, b < n → x' ≠ 200 * i + b) → x.2 x' = re x') n ?_ ?_ 1000000 0 _ (Nat.zero_le _) ⟨nI_0.symm, fun b hb => absurd hb (Nat.not_lt_zero b), fun _ _ => rfl⟩ (by omega)
      · rintro j ⟨v2, re2⟩ hj ⟨e2, q1, q2⟩
        dsimp only at e2 q1 q2
        subst e2
        unfold fn_X5_close_l12
        dsimp only
        simp only [ix_N, cl_nI (show 200 * i + j < 2 ^ 31 by omega), nz_b0]
        refine ot_f (fun h => by rw [nI_leI (by omega) (by omega)] at h; omega) (ot_i (in_nI (by omega) (by decide)) (ot_s ⟨nI_1 j, fun b hb => ?_, fun x' hx => ?_⟩))
        · show upd re2 (200 * i + j) 0 (200 * i + b) = 0
          by_cases hbj : b = j
          · rw [hbj, upd_s]
          · rw [upd_n (by omega)]; exact q1 b (by omega)
        · show upd re2 (200 * i + j) 0 x' = re x'
          rw [upd_n (hx j hj)]; exact q2 x' hx
      · rintro ⟨v2, re2⟩ ⟨e2, q1, q2⟩
        dsimp only at e2 q1 q2
        subst e2
        unfold fn_X5_close_l12
        dsimp only
        exact ot_t (by rw [nI_leI (by omega) (by omega)]; exact Nat.le_refl _) (ot_s ⟨q1, q2⟩)
    · rintro ⟨v2, re2⟩ ⟨q1, q2⟩
      dsimp only at q1 q2 ⊢
      rw [cl_nI (show i < 2 ^ 31 by omega)]
      refine ot_i (in_nI (by omega) (by decide)) ?_
      have hold : ∀ s b, s < i → b < n → re2 (200 * s + b) = re (200 * s + b) := fun s b hs hb => q2 _ (fun b' hb' => by omega)
      rcases cz_or hz i hi with ⟨z1, z2⟩ | ⟨z1, z2⟩
      · refine ot_t z1 (ot_s ⟨nI_1 i, fun s b hs hb => ?_⟩)
        show (re2 (200 * s + b) = 1 ∧ _) ∨ (re2 (200 * s + b) = 0 ∧ _)
        by_cases hsi : s = i
        · subst hsi; exact Or.inr ⟨q1 b hb, fun hr => z2 (rp_X hr).1⟩
        · rw [hold s b (by omega) hb]; exact h s b (by omega) hb
      · refine ot_f (by rw [z1]; decide) ?_
        refine ot_b (sp_spread hg ha hz z2 q1) ?_
        rintro ⟨qu3, re3⟩ ⟨r1, r2⟩
        dsimp only at r1 r2
        refine ot_s ⟨nI_1 i, fun s b hs hb => ?_⟩
        show (re3 (200 * s + b) = 1 ∧ _) ∨ (re3 (200 * s + b) = 0 ∧ _)
        by_cases hsi : s = i
        · subst hsi; exact r1 b hb
        · rw [r2 _ (fun b' hb' => by omega), hold s b (by omega) hb]; exact h s b (by omega) hb
  · rintro ⟨v1, qu, re⟩ ⟨e1, h⟩
    dsimp only at e1 h
    subst e1
    unfold fn_X5_close_l2
    dsimp only
    exact ot_t (by rw [nI_leI (by omega) (by omega)]; exact Nat.le_refl _) (ot_s h)
/-- 'reach' holds just the ways -/
def re_R (n m : Nat) (fr to : Nat → Nat) (X : Nat → Prop) (re : Nat → Int32) : Prop := ∀ s b, s < n → b < n → (re (200 * s + b) = 1 ∧ rp_R (fp_E m fr to X) s b) ∨ (re (200 * s + b) = 0 ∧ ¬ rp_R (fp_E m fr to X) s b)
theorem tg_is (hn : n ≤ 200) {re : Nat → Int32} (hr : re_R n m fr to X re) {a b : Nat} (ha : a < n) (hb : b < n) : ot_T (fn_X5_together re (nI a) (nI b)) (fun r => (r = 1 ∧ rp_R (fp_E m fr to X) a b ∧ rp_R (fp_E m fr to X) b a) ∨ (r = 0 ∧ ¬ (rp_R (fp_E m fr to X) a b ∧ rp_R (fp_E m fr to X) b a))) := by
  unfold fn_X5_together
  simp only [ix_N, cl_nI (show 200 * a + b < 2 ^ 31 by omega), cl_nI (show 200 * b + a < 2 ^ 31 by omega)]
  refine ot_i (in_nI (by omega) (by decide)) ?_
  rcases hr a b ha hb with ⟨h1, h2⟩ | ⟨h1, h2⟩
  · refine ot_f (by rw [h1]; decide) (ot_i (in_nI (by omega) (by decide)) ?_)
    rcases hr b a hb ha with ⟨h3, h4⟩ | ⟨h3, h4⟩
    · exact ot_f (by rw [h3]; decide) (ot_s (Or.inl ⟨rfl, h2, h4⟩))
    · exact ot_t h3 (ot_s (Or.inr ⟨rfl, fun h => h4 h.2⟩))
  · exact ot_t h1 (ot_s (Or.inr ⟨rfl, fun h => h2 h.1⟩))
end DV
