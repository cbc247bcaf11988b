/-! PURE: fair parts. fr, to, lb: the moves; hw: what the labels are -/
def fp_E (m : Nat) (fr to : Nat → Nat) (X : Nat → Prop) (u v : Nat) : Prop := X u ∧ X v ∧ ∃ j, j < m ∧ fr j = u ∧ to j = v
/-- by one or more moves -/
def rp_R (E : Nat → Nat → Prop) (u v : Nat) : Prop := ∃ w, E u w ∧ rc_R E w v
def fp_ab (m : Nat) (fr : Nat → Nat) (lb : Nat → Int32) (l v : Nat) : Prop := ∃ j, j < m ∧ fr j = v ∧ lb j = nI l
def fp_tk (m : Nat) (fr to : Nat → Nat) (lb : Nat → Int32) (P : Nat → Prop) (l : Nat) : Prop := ∃ j, j < m ∧ P (fr j) ∧ P (to j) ∧ lb j = nI l
def fp_F (m : Nat) (fr to : Nat → Nat) (lb hw : Nat → Int32) (I P : Nat → Prop) : Prop :=
  (∃ v, P v) ∧ (∀ v, P v → I v) ∧ (∀ u v, P u → P v → rp_R (fp_E m fr to P) u v) ∧ ∀ l, l < 16 → (hw l = 1 → (∀ v, P v → fp_ab m fr lb l v) → fp_tk m fr to lb P l) ∧ (hw l = 2 → (∃ v, P v ∧ fp_ab m fr lb l v) → fp_tk m fr to lb P l)
/-- the knot of u inside X -/
def fp_C (m : Nat) (fr to : Nat → Nat) (X : Nat → Prop) (u v : Nat) : Prop := X u ∧ X v ∧ rc_R (fp_E m fr to X) u v ∧ rc_R (fp_E m fr to X) v u
def fp_in (m : Nat) (fr to : Nat → Nat) (C : Nat → Prop) : Prop := ∃ j, j < m ∧ C (fr j) ∧ C (to j)
/-- u is in no fair part -/
def fp_U (m : Nat) (fr to : Nat → Nat) (lb hw : Nat → Int32) (X : Nat → Prop) (u : Nat) : Prop :=
  ¬ fp_in m fr to (fp_C m fr to X u) ∨ (∃ l, l < 16 ∧ hw l = 1 ∧ (∀ v, fp_C m fr to X u v → fp_ab m fr lb l v) ∧ ¬ fp_tk m fr to lb (fp_C m fr to X u) l) ∨ (∃ l, l < 16 ∧ hw l = 2 ∧ fp_ab m fr lb l u ∧ ¬ fp_tk m fr to lb (fp_C m fr to X u) l)
section FP
variable {m : Nat} {fr to : Nat → Nat} {lb hw : Nat → Int32} {I X P : Nat → Prop}
theorem fp_E_mono {Y : Nat → Prop} (h : ∀ v, X v → Y v) {u v : Nat} (he : fp_E m fr to X u v) : fp_E m fr to Y u v := ⟨h _ he.1, h _ he.2.1, he.2.2⟩
theorem rp_rc {E : Nat → Nat → Prop} {u v : Nat} (h : rp_R E u v) : rc_R E u v := by
  obtain ⟨w, h1, h2⟩ := h
  exact rc_trans (rc_edge h1) h2
theorem fp_P_C (hF : fp_F m fr to lb hw I P) (hX : ∀ v, P v → X v) {u v : Nat} (hu : P u) (hv : P v) : fp_C m fr to X u v :=
  ⟨hX u hu, hX v hv, rc_mono (fun _ _ h => fp_E_mono hX h) (rp_rc (hF.2.2.1 u v hu hv)), rc_mono (fun _ _ h => fp_E_mono hX h) (rp_rc (hF.2.2.1 v u hv hu))⟩
/-- what is dropped is in no fair part -/
theorem fp_keep (hF : fp_F m fr to lb hw I P) (hX : ∀ v, P v → X v) {u : Nat} (hu : P u) : ¬ fp_U m fr to lb hw X u := by
  have hC : ∀ v, P v → fp_C m fr to X u v := fun v hv => fp_P_C hF hX hu hv
  have htk : ∀ l, fp_tk m fr to lb P l → fp_tk m fr to lb (fp_C m fr to X u) l := fun l ⟨j, h1, h2, h3, h4⟩ => ⟨j, h1, hC _ h2, hC _ h3, h4⟩
  rintro (h | ⟨l, h1, h2, h3, h4⟩ | ⟨l, h1, h2, h3, h4⟩)
  · obtain ⟨w, ⟨e1, e2, j, j1, j2, j3⟩, -⟩ := hF.2.2.1 u u hu hu
    exact h ⟨j, j1, hC _ (j2 ▸ e1), hC _ (j3 ▸ e2)⟩
  · exact h4 (htk l ((hF.2.2.2 l h1).1 h2 (fun v hv => h3 v (hC v hv))))
  · exact h4 (htk l ((hF.2.2.2 l h1).2 h2 ⟨u, hu, h3⟩))
theorem fp_C_refl {u : Nat} (hu : X u) : fp_C m fr to X u u := ⟨hu, hu, rc_refl, rc_refl⟩
theorem fp_C_symm {u v : Nat} (h : fp_C m fr to X u v) : fp_C m fr to X v u := ⟨h.2.1, h.1, h.2.2.2, h.2.2.1⟩
theorem fp_C_trans {u v w : Nat} (h1 : fp_C m fr to X u v) (h2 : fp_C m fr to X v w) : fp_C m fr to X u w := ⟨h1.1, h2.2.1, rc_trans h1.2.2.1 h2.2.2.1, rc_trans h2.2.2.2 h1.2.2.2⟩
/-- a way between two states of a knot stays in it -/
theorem fp_way {u0 u v : Nat} (hu : fp_C m fr to X u0 u) (hv : fp_C m fr to X u0 v) : rc_R (fp_E m fr to (fp_C m fr to X u0)) u v := by
  have huv : rc_R (fp_E m fr to X) u v := (fp_C_trans (fp_C_symm hu) hv).2.2.1
  have key := huv (fun w => rc_R (fp_E m fr to X) u w ∧ (rc_R (fp_E m fr to X) w v → rc_R (fp_E m fr to (fp_C m fr to X u0)) u w ∧ fp_C m fr to X u0 w)) ⟨rc_refl, fun _ => ⟨rc_refl, hu⟩⟩ (by
    rintro a b ⟨h1, h2⟩ he
    refine ⟨rc_trans h1 (rc_edge he), fun hb => ?_⟩
    obtain ⟨h3, h4⟩ := h2 (rc_trans (rc_edge he) hb)
    have hC : fp_C m fr to X u0 b := ⟨hu.1, he.2.1, rc_trans h4.2.2.1 (rc_edge he), rc_trans hb hv.2.2.2⟩
    exact ⟨rc_trans h3 (rc_edge ⟨h4, hC, he.2.2⟩), hC⟩)
  exact (key.2 rc_refl).1
/-- a knot that goes round: from each state to each by one or more moves inside -/
theorem fp_round {u0 u v : Nat} (hin : fp_in m fr to (fp_C m fr to X u0)) (hu : fp_C m fr to X u0 u) (hv : fp_C m fr to X u0 v) : rp_R (fp_E m fr to (fp_C m fr to X u0)) u v := by
  obtain ⟨j, j1, j2, j3⟩ := hin
  have he : fp_E m fr to (fp_C m fr to X u0) (fr j) (to j) := ⟨j2, j3, j, j1, rfl, rfl⟩
  have h2 := fp_way j3 hv
  rcases rc_front (fp_way hu j2) with h | ⟨w, h3, h4⟩
  · exact ⟨to j, h ▸ he, h2⟩
  · exact ⟨w, h3, rc_trans h4 (rc_trans (rc_edge he) h2)⟩
/-- where nothing is to be dropped, each knot is a fair part -/
theorem fp_end (hXI : ∀ v, X v → I v) (hU : ∀ v, X v → ¬ fp_U m fr to lb hw X v) {u : Nat} (hu : X u) : fp_F m fr to lb hw I (fp_C m fr to X u) := by
  have hin : fp_in m fr to (fp_C m fr to X u) := Classical.byContradiction (fun h => hU u hu (Or.inl h))
  refine ⟨⟨u, fp_C_refl hu⟩, fun v hv => hXI v hv.2.1, fun a b ha hb => fp_round hin ha hb, fun l hl => ⟨fun h1 h2 => ?_, fun h1 h2 => ?_⟩⟩
  · exact Classical.byContradiction (fun h => hU u hu (Or.inr (Or.inl ⟨l, hl, h1, h2, h⟩)))
  · obtain ⟨v, v1, v2⟩ := h2
    refine Classical.byContradiction (fun h => hU v v1.2.1 (Or.inr (Or.inr ⟨l, hl, h1, v2, fun ⟨j, j1, j2, j3, j4⟩ => h ⟨j, j1, fp_C_trans v1 j2, fp_C_trans v1 j3, j4⟩⟩)))
/-- two ends are one -/
theorem fp_same {Y : Nat → Prop} (hX1 : ∀ v, X v → fp_F m fr to lb hw I (fp_C m fr to X v)) (hX2 : ∀ P, fp_F m fr to lb hw I P → ∀ v, P v → X v) (hY1 : ∀ v, Y v → fp_F m fr to lb hw I (fp_C m fr to Y v)) (hY2 : ∀ P, fp_F m fr to lb hw I P → ∀ v, P v → Y v) : ∀ v, X v ↔ Y v :=
  fun v => ⟨fun h => hY2 _ (hX1 v h) v (fp_C_refl h), fun h => hX2 _ (hY1 v h) v (fp_C_refl h)⟩
end FP
