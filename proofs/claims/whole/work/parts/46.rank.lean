/-! PURE: ranks -/
def rk_P (m : Nat) (fr to : Nat → Nat) (X : Nat → Prop) (g : Nat → Nat) : Prop := (∀ u v, fp_E m fr to X u v → g v + 1 ≤ g u) ∧ (∀ u, X u → g u = 0 ∨ ∃ v, fp_E m fr to X u v ∧ g u = g v + 1)
theorem rk_le {m : Nat} {fr to : Nat → Nat} {X : Nat → Prop} {g h : Nat → Nat} (hg : ∀ u, X u → g u = 0 ∨ ∃ v, fp_E m fr to X u v ∧ g u = g v + 1) (hh : ∀ u v, fp_E m fr to X u v → h v + 1 ≤ h u) : ∀ k u, g u ≤ k → X u → g u ≤ h u := by
  intro k
  induction k with
  | zero => intro u h1 _; omega
  | succ k ih =>
    intro u h1 hu
    rcases hg u hu with h2 | ⟨v, h2, h3⟩
    · omega
    · have := ih v (by omega) h2.2.1
      have := hh u v h2
      omega
theorem rk_one {m : Nat} {fr to : Nat → Nat} {X : Nat → Prop} {g h : Nat → Nat} (hg : rk_P m fr to X g) (hh : rk_P m fr to X h) {u : Nat} (hu : X u) : g u = h u :=
  Nat.le_antisymm (rk_le hg.2 hh.1 (g u) u (Nat.le_refl _) hu) (rk_le hh.2 hg.1 (h u) u (Nat.le_refl _) hu)
section RK
variable {n m : Nat} {aj : Nat → List Nat} {fr to st : Nat → Nat} {gto gout gst kc : Nat → Int32}
/-- rankAbove: one more than the highest rank that a move leads to -/
theorem rk_above (hg : gc_R n m aj to st gto gout gst) (ha : gr_A n m aj fr to) (hz : z01 n kc) {s : Nat} (hs : cz n kc s) {rk : Nat → Int32} {r : Nat → Nat} (hr : ∀ v, fp_E m fr to (cz n kc) s v → rk v = nI (r v) ∧ r v < 300) :
    ot_T (fn_X4_rankAbove rk gto gout gst kc (nI s)) (fun x => ∃ R, x = nI R ∧ (∀ v, fp_E m fr to (cz n kc) s v → r v + 1 ≤ R) ∧ (R = 0 ∨ ∃ v, fp_E m fr to (cz n kc) s v ∧ R = r v + 1)) := by
  obtain ⟨g1, g2, g3, g4, g5, g6, g7, g8, g9⟩ := id hg
  have hsn := hs.1
  have hst : st (s + 1) ≤ m := gc_le hg (by omega)
  have h6 := g6 s hsn
  have hedge : ∀ j, j ∈ aj s → cz n kc (to j) → fp_E m fr to (cz n kc) s (to j) := fun j hj hc => ⟨hs, hc, j, ((ha.1 s j hsn).mp hj).1, ((ha.1 s j hsn).mp hj).2, rfl⟩
  unfold fn_X4_rankAbove
  rw [cl_nI (show s < 2 ^ 31 by omega), g5 s (by omega)]
  refine ot_i (in_nI (by omega) (by decide)) ?_
  refine ot_b (P := fun x => ∃ R, x.1 = nI R ∧ (∀ v, fp_E m fr to (cz n kc) s v → r v + 1 ≤ R) ∧ (R = 0 ∨ ∃ v, fp_E m fr to (cz n kc) s v ∧ R = r v + 1)) ?_ (by rintro ⟨a, b⟩ h; exact ot_s h)
  refine ot_list (fun (l : List Nat) x => ∃ (j R : Nat), x.2 = nI j ∧ x.1 = nI R ∧ j + l.length = st (s + 1) ∧ (∀ i a, l[i]? = some a → gout (j + i) = nI a) ∧ (∀ a, a ∈ l → a ∈ aj s) ∧ (∀ a, a ∈ aj s → a ∈ l ∨ (cz n kc (to a) → r (to a) + 1 ≤ R)) ∧ (R = 0 ∨ ∃ v, fp_E m fr to (cz n kc) s v ∧ R = r v + 1)) ?_ ?_ 1000000 (aj s) _ ⟨st s, 0, rfl, nI_0.symm, by omega, fun i a h => g7 s i a hsn h, fun a h => h, fun a h => Or.inl h, Or.inl rfl⟩ (by omega)
  · rintro a l ⟨v2, v3⟩ ⟨j, R, e1, e2, h2, h3, h4, h5, hR⟩
    dsimp only at e1 e2
    subst e1
    subst e2
    have haa := h4 a (by simp)
    have ham := g8 s a hsn haa
    have hga : gout j = nI a := by have := h3 0 a (by simp); simpa using this
    have hto := g9 a ham
    have hj : j < 600 := by simp only [List.length_cons] at h2; omega
    have hR3 : R ≤ 300 := by
      rcases hR with h | ⟨v, v1, v2⟩
      · omega
      · have := (hr v v1).2; omega
    unfold fn_X4_rankAbove_l12
    dsimp only
    simp only [nI_1, cl_nI (show s + 1 < 2 ^ 31 by omega), g5 (s + 1) (by omega), cl_nI (show j < 2 ^ 31 by omega), hga, cl_nI (show a < 2 ^ 31 by omega), hto.1, cl_nI (show to a < 2 ^ 31 by omega)]
    have hnext : ∀ R', R ≤ R' → (cz n kc (to a) → r (to a) + 1 ≤ R') → (R' = 0 ∨ ∃ v, fp_E m fr to (cz n kc) s v ∧ R' = r v + 1) → ∃ (j' R'' : Nat), nI (j + 1) = nI j' ∧ nI R' = nI R'' ∧ j' + l.length = st (s + 1) ∧ (∀ i a, l[i]? = some a → gout (j' + i) = nI a) ∧ (∀ a, a ∈ l → a ∈ aj s) ∧ (∀ a, a ∈ aj s → a ∈ l ∨ (cz n kc (to a) → r (to a) + 1 ≤ R'')) ∧ (R'' = 0 ∨ ∃ v, fp_E m fr to (cz n kc) s v ∧ R'' = r v + 1) := by
      intro R' f1 f2 f3
      refine ⟨j + 1, R', rfl, rfl, by simp only [List.length_cons] at h2; omega, fun i b hb => ?_, fun b hb => h4 b (List.mem_cons_of_mem _ hb), fun b hb => ?_, f3⟩
      · have := h3 (i + 1) b (by simpa using hb)
        rw [show j + 1 + i = j + (i + 1) by omega]
        exact this
      · rcases h5 b hb with h | h
        · rcases List.mem_cons.mp h with rfl | h
          · exact Or.inr f2
          · exact Or.inl h
        · exact Or.inr (fun hc => Nat.le_trans (h hc) f1)
    refine ot_i (in_nI (by omega) (by decide)) (ot_f (fun h => by rw [nI_leI (by omega) (by omega)] at h; simp only [List.length_cons] at h2; omega) (ot_i (in_nI (by omega) (by decide)) (ot_i (in_nI (by omega) (by decide)) (ot_i (in_nI (by omega) (by decide)) ?_))))
    rcases cz_or hz (to a) hto.2 with ⟨z1, z2⟩ | ⟨z1, z2⟩
    · exact ot_t z1 (ot_s (hnext R (Nat.le_refl _) (fun h => absurd h z2) hR))
    · have hE := hedge a haa z2
      have hrv := hr _ hE
      refine ot_f (by rw [z1]; decide) (ot_i (in_nI (by omega) (by decide)) ?_)
      rw [hrv.1]
      by_cases hlt : r (to a) < R
      · exact ot_t (by rw [nI_ltI (by omega) (by omega)]; exact hlt) (ot_s (hnext R (Nat.le_refl _) (fun _ => hlt) hR))
      · refine ot_f (by rw [nI_ltI (by omega) (by omega)]; exact hlt) (ot_i (in_nI (by omega) (by decide)) (ot_s ?_))
        have := hnext (r (to a) + 1) (by omega) (fun _ => Nat.le_refl _) (Or.inr ⟨_, hE, rfl⟩)
        rw [nI_1]
        exact this
  · rintro ⟨v2, v3⟩ ⟨j, R, e1, e2, h2, h3, h4, h5, hR⟩
    dsimp only at e1 e2
    subst e1
    subst e2
    simp only [List.length_nil] at h2
    unfold fn_X4_rankAbove_l12
    dsimp only
    simp only [nI_1, cl_nI (show s + 1 < 2 ^ 31 by omega), g5 (s + 1) (by omega)]
    refine ot_i (in_nI (by omega) (by decide)) (ot_t (by rw [nI_leI (by omega) (by omega)]; omega) (ot_s ⟨R, rfl, fun v hv => ?_, hR⟩))
    obtain ⟨a1, a2, j', j1, j2, j3⟩ := hv
    rcases h5 j' ((ha.1 s j' hsn).mpr ⟨j1, j2⟩) with h | h
    · exact absurd h (by simp)
    · rw [j3] at h; exact h a2
/-- fillRanks, where nothing goes round -/
theorem rk_fill (hg : gc_R n m aj to st gto gout gst) (ha : gr_A n m aj fr to) (hz : z01 n kc) {K od : Nat → Nat} {f c : Nat} (hK : kn_P n m fr to (cz n kc) K od f c) (hno : ∀ u, ¬ rd_Y m fr to (cz n kc) u) {or rk : Nat → Int32} (hor : ∀ i, i < c → or i = nI (od i)) :
    ot_T (fn_X4_fillRanks (nI c) rk gto gout gst kc or) (fun x => ∃ (r : Nat → Nat) (H : Nat), rk_P m fr to (cz n kc) r ∧ (∀ v, cz n kc v → x.2 v = nI (r v) ∧ r v < 200) ∧ x.1 = nI H ∧ (∀ v, cz n kc v → r v ≤ H) ∧ (H = 0 ∨ ∃ v, cz n kc v ∧ r v = H)) := by
  have hn := hg.1
  obtain ⟨k1, k2, k3, k4, k5, k6, k7, k8, k9, k10⟩ := id hK
  -- moves lead to what was closed before
  have hback : ∀ u v, fp_E m fr to (cz n kc) u v → ∀ i i', i < c → i' < c → od i = u → od i' = v → i' < i := by
    intro u v he i i' hi hi' e1 e2
    have h1 := k8 u v he
    have h2 : K v ≠ K u := fun h => by
      have hC := (k3 v u he.2.1 he.1).mp h
      exact hno u ⟨v, he, hC.2.2.1⟩
    rcases Nat.lt_trichotomy i i' with q | q | q
    · have := (k6 i i' q hi').2
      rw [e1, e2] at this
      omega
    · rw [q, e2] at e1; rw [e1] at h2; exact absurd rfl h2
    · exact q
  unfold fn_X4_fillRanks
  refine ot_b (P := fun x => ∃ (r : Nat → Nat) (H : Nat), rk_P m fr to (cz n kc) r ∧ (∀ v, cz n kc v → x.2.2 v = nI (r v) ∧ r v < 200) ∧ x.1 = nI H ∧ (∀ v, cz n kc v → r v ≤ H) ∧ (H = 0 ∨ ∃ v, cz n kc v ∧ r v = H)) ?_ (by rintro ⟨a, b, d⟩ h; exact ot_s h)
  refine ot_for (fun i x => x.2.1 = nI i ∧ ∃ (r : Nat → Nat) (H : Nat), (∀ i', i' < i → x.2.2 (od i') = nI (r (od i')) ∧ r (od i') ≤ i' ∧ (∀ v, fp_E m fr to (cz n kc) (od i') v → r v + 1 ≤ r (od i')) ∧ (r (od i') = 0 ∨ ∃ v, fp_E m fr to (cz n kc) (od i') v ∧ r (od i') = r v + 1)) ∧ x.1 = nI H ∧ H < 300 ∧ (∀ i', i' < i → r (od i') ≤ H) ∧ (H = 0 ∨ ∃ i', i' < i ∧ r (od i') = H)) c ?_ ?_ 1000000 0 _ (Nat.zero_le _) ⟨nI_0.symm, fun _ => 0, 0, fun i' h => absurd h (Nat.not_lt_zero i'), nI_0.symm, by decide, fun i' h => absurd h (Nat.not_lt_zero i'), Or.inl rfl⟩ (by omega)
  · rintro i ⟨v1, v2, rk⟩ hi ⟨e1, r, H, q1, e2, q2, q3, q4⟩
    dsimp only at e1 q1 e2
    subst e1
    subst e2
    obtain ⟨o1, o2⟩ := k5 i hi
    have hne : ∀ i', i' < i → od i' ≠ od i := fun i' h => (k6 i' i h hi).1
    have htgt : ∀ v, fp_E m fr to (cz n kc) (od i) v → ∃ i', i' < i ∧ od i' = v := by
      intro v hv
      obtain ⟨i', a1, a2⟩ := k7 v hv.2.1.1 hv.2.1
      exact ⟨i', hback _ _ hv i i' hi a1 rfl a2, a2⟩
    unfold fn_X4_fillRanks_l4
    dsimp only
    simp only [cl_nI (show i < 2 ^ 31 by omega), hor i hi, cl_nI (show od i < 2 ^ 31 by omega), upd_s]
    refine ot_f (fun h => by rw [nI_leI (by omega) (by omega)] at h; omega) (ot_i (in_nI (by omega) (by decide)) ?_)
    refine ot_b (rk_above (r := r) hg ha hz o2 (fun v hv => by
      obtain ⟨i', a1, rfl⟩ := htgt v hv
      exact ⟨(q1 i' a1).1, by have := (q1 i' a1).2.1; omega⟩)) ?_
    rintro x ⟨R, rfl, f1, f2⟩
    have hRi : R ≤ i := by
      rcases f2 with h | ⟨v, v1, v2⟩
      · omega
      · obtain ⟨i', a1, rfl⟩ := htgt v v1
        have := (q1 i' a1).2.1
        omega
    -- the rows with the new rank
    have hrow : ∀ i', i' < i + 1 → upd rk (od i) (nI R) (od i') = nI (va_up r (od i) R (od i')) ∧ va_up r (od i) R (od i') ≤ i' ∧ (∀ v, fp_E m fr to (cz n kc) (od i') v → va_up r (od i) R v + 1 ≤ va_up r (od i) R (od i')) ∧ (va_up r (od i) R (od i') = 0 ∨ ∃ v, fp_E m fr to (cz n kc) (od i') v ∧ va_up r (od i) R (od i') = va_up r (od i) R v + 1) := by
      intro i' hi'
      have hoff : ∀ v, fp_E m fr to (cz n kc) (od i') v → va_up r (od i) R v = r v := by
        intro v hv
        refine up_n (fun h => ?_)
        obtain ⟨i2, a1, a2⟩ := k7 v hv.2.1.1 hv.2.1
        have hb := hback _ _ hv i' i2 (by omega) a1 rfl a2
        exact hne i2 (by omega) (a2.trans h)
      by_cases hii : i' = i
      · subst hii
        rw [upd_s, up_s]
        refine ⟨rfl, hRi, fun v hv => by rw [hoff v hv]; exact f1 v hv, ?_⟩
        rcases f2 with h | ⟨v, v1, v2⟩
        · exact Or.inl h
        · exact Or.inr ⟨v, v1, by rw [hoff v v1]; exact v2⟩
      · have hne' := hne i' (by omega)
        rw [upd_n hne', up_n hne']
        obtain ⟨b1, b2, b3, b4⟩ := q1 i' (by omega)
        refine ⟨b1, b2, fun v hv => by rw [hoff v hv]; exact b3 v hv, ?_⟩
        rcases b4 with h | ⟨v, v1, v2⟩
        · exact Or.inl h
        · exact Or.inr ⟨v, v1, by rw [hoff v v1]; exact v2⟩
    refine ot_i (in_nI (by omega) (by decide)) (ot_i (in_nI (by omega) (by decide)) ?_)
    by_cases hle : R ≤ H
    · refine ot_t (by rw [nI_leI (by omega) (by omega)]; exact hle) (ot_s ⟨nI_1 i, va_up r (od i) R, H, hrow, rfl, q2, fun i' hi' => ?_, ?_⟩)
      · by_cases hii : i' = i
        · rw [hii, up_s]; exact hle
        · rw [up_n (hne i' (by omega))]; exact q3 i' (by omega)
      · rcases q4 with h | ⟨i', a1, a2⟩
        · exact Or.inl h
        · exact Or.inr ⟨i', by omega, by rw [up_n (hne i' a1)]; exact a2⟩
    · refine ot_f (by rw [nI_leI (by omega) (by omega)]; exact hle) (ot_i (in_nI (by omega) (by decide)) (ot_s ⟨nI_1 i, va_up r (od i) R, R, hrow, rfl, by omega, fun i' hi' => ?_, Or.inr ⟨i, by omega, up_s⟩⟩))
      by_cases hii : i' = i
      · rw [hii, up_s]; exact Nat.le_refl _
      · rw [up_n (hne i' (by omega))]; have := q3 i' (by omega); omega
  · rintro ⟨v1, v2, rk⟩ ⟨e1, r, H, q1, e2, q2, q3, q4⟩
    dsimp only at e1 q1 e2
    subst e1
    subst e2
    unfold fn_X4_fillRanks_l4
    dsimp only
    refine ot_t (by rw [nI_leI (by omega) (by omega)]; exact Nat.le_refl _) (ot_s ⟨r, H, ⟨fun u v he => ?_, fun u hu => ?_⟩, fun v hv => ?_, rfl, fun v hv => ?_, ?_⟩)
    · obtain ⟨i, a1, rfl⟩ := k7 u he.1.1 he.1
      exact (q1 i a1).2.2.1 v he
    · obtain ⟨i, a1, rfl⟩ := k7 u hu.1 hu
      exact (q1 i a1).2.2.2
    · obtain ⟨i, a1, rfl⟩ := k7 v hv.1 hv
      have := (q1 i a1).2.1
      exact ⟨(q1 i a1).1, by omega⟩
    · obtain ⟨i, a1, rfl⟩ := k7 v hv.1 hv
      exact q3 i a1
    · rcases q4 with h | ⟨i, a1, a2⟩
      · exact Or.inl h
      · exact Or.inr ⟨od i, (k5 i a1).2, a2⟩
end RK
