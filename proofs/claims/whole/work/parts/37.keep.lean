theorem sm_lt {f g : Nat → Nat} {k : Nat} : ∀ {n : Nat}, k < n → (∀ i, i < n → f i ≤ g i) → f k < g k → sm_N f n < sm_N g n := by
  intro n
  induction n with
  | zero => intro h; exact absurd h (Nat.not_lt_zero _)
  | succ n ih =>
    intro hk h hlt
    simp only [sm_N]
    have h2 := h n (by omega)
    by_cases hkn : k = n
    · subst hkn
      have h1 := sm_le (f := f) (g := g) (n := k) (fun i hi => h i (by omega))
      omega
    · have h1 := ih (by omega) (fun i hi => h i (by omega)) hlt
      omega
theorem sm_ones {f : Nat → Nat} : ∀ {n : Nat}, (∀ i, i < n → f i ≤ 1) → sm_N f n ≤ n := by
  intro n
  induction n with
  | zero => intro _; exact Nat.le_refl _
  | succ n ih =>
    intro h
    simp only [sm_N]
    have := ih (fun i hi => h i (by omega))
    have := h n (by omega)
    omega
/-- the chosen states -/
def cz (n : Nat) (kc : Nat → Int32) : Nat → Prop := fun v => v < n ∧ kc v = 1
def z01 (n : Nat) (kc : Nat → Int32) : Prop := ∀ v, v < n → kc v = 0 ∨ kc v = 1
theorem cz_or {n : Nat} {kc : Nat → Int32} (h : z01 n kc) : ∀ v, v < n → (kc v = 0 ∧ ¬ cz n kc v) ∨ (kc v = 1 ∧ cz n kc v) := by
  intro v hv
  rcases h v hv with h1 | h1
  · exact Or.inl ⟨h1, fun h2 => by rw [h2.2] at h1; exact absurd h1 (by decide)⟩
  · exact Or.inr ⟨h1, hv, h1⟩
section KQ
variable {n m : Nat} {aj : Nat → List Nat} {fr to st : Nat → Nat} {lb hw : Nat → Int32} {gfr gto glb gout gst gab kc kn : Nat → Int32} {K od : Nat → Nat} {f c : Nat} {sz lw al ins gr : Nat → Int32}
theorem lk_kind {fk : Nat → Int32} (hk : ∀ l, l < 16 → fk l = hw l) (k : Int32) : ot_T (fn_X4_labelsOfKind fk k) (mk_R hw k) := by
  unfold fn_X4_labelsOfKind
  refine ot_b (P := fun x => mk_R hw k x.1) ?_ (by rintro ⟨a, b⟩ h; exact ot_s h)
  refine ot_for (fun i x => x.2 = nI i ∧ ∀ b, b < 32 → (bt x.1 b = true ↔ b < i ∧ hw b = k)) 16 ?_ ?_ 1000000 0 _ (Nat.zero_le _) ⟨nI_0.symm, fun b hb => ?_⟩ (by omega)
  · rintro i ⟨v2, v3⟩ hi ⟨e1, h⟩
    dsimp only at e1 h
    subst e1
    unfold fn_X4_labelsOfKind_l4
    dsimp only
    simp only [cl_nI (show i < 2 ^ 31 by omega), hk i hi]
    refine ot_f (fun h => by rw [show (16 : Int32) = nI 16 from rfl, nI_leI (by omega) (by omega)] at h; omega) (ot_i (in_nI (by omega) (by decide)) ?_)
    by_cases hki : hw i = k
    · refine ot_t hki (ot_s ⟨nI_1 i, fun b hb => ?_⟩)
      show bt (v2 ||| (1 <<< (nI i &&& 31))) b = true ↔ _
      rw [b_or, b_one i (by omega) hb, Bool.or_eq_true, h b hb, decide_eq_true_eq]
      constructor
      · rintro (⟨a1, a2⟩ | rfl)
        · exact ⟨by omega, a2⟩
        · exact ⟨by omega, hki⟩
      · rintro ⟨a1, a2⟩
        by_cases hbi : b = i
        · exact Or.inr hbi
        · exact Or.inl ⟨by omega, a2⟩
    · refine ot_f hki (ot_s ⟨nI_1 i, fun b hb => ?_⟩)
      show bt v2 b = true ↔ _
      rw [h b hb]
      constructor
      · rintro ⟨a1, a2⟩; exact ⟨by omega, a2⟩
      · rintro ⟨a1, a2⟩
        by_cases hbi : b = i
        · rw [hbi] at a2; exact absurd a2 hki
        · exact ⟨by omega, a2⟩
  · rintro ⟨v2, v3⟩ ⟨e1, h⟩
    dsimp only at e1 h
    subst e1
    unfold fn_X4_labelsOfKind_l4
    dsimp only
    exact ot_t (by decide) (ot_s h)
  · show bt 0 b = true ↔ _
    rw [b_0]
    exact ⟨fun h => (by cases h), fun ⟨h, _⟩ => absurd h (Nat.not_lt_zero b)⟩
theorem dr_drop (hn : n ≤ 200) (ha : gr_A n m aj fr to) (hz : z01 n kc) (hK : kn_P n m fr to (cz n kc) K od f c) (hkn : ∀ v, v < n → kn v = if K v = 0 then -1 else nI (K v - 1)) (hs : su_P n m fr to lb gab K f sz lw al ins gr) (hab : ab_R n m fr lb gab) {wk sg : Int32} (hw1 : mk_R hw 1 wk) (hw2 : mk_R hw 2 sg) :
    ot_T (fn_X4_dropUnfairStates (nI n) gab kc kn al ins gr wk sg) (fun r => (∀ v, v < n → (cz n kc v ∧ fp_U m fr to lb hw (cz n kc) v → r.2 v = 0) ∧ (¬ (cz n kc v ∧ fp_U m fr to lb hw (cz n kc) v) → r.2 v = kc v)) ∧ ((r.1 = 1 ∧ ∃ v, cz n kc v ∧ fp_U m fr to lb hw (cz n kc) v) ∨ (r.1 = 0 ∧ ¬ ∃ v, cz n kc v ∧ fp_U m fr to lb hw (cz n kc) v))) := by
  unfold fn_X4_dropUnfairStates
  refine ot_b (P := fun x => (∀ v, v < n → (cz n kc v ∧ fp_U m fr to lb hw (cz n kc) v → x.2.2 v = 0) ∧ (¬ (cz n kc v ∧ fp_U m fr to lb hw (cz n kc) v) → x.2.2 v = kc v)) ∧ ((x.1 = 1 ∧ ∃ v, cz n kc v ∧ fp_U m fr to lb hw (cz n kc) v) ∨ (x.1 = 0 ∧ ¬ ∃ v, cz n kc v ∧ fp_U m fr to lb hw (cz n kc) v))) ?_ ?_
  · refine ot_for (fun i x => x.2.1 = nI i ∧ (∀ v, v < n → (v < i → (cz n kc v ∧ fp_U m fr to lb hw (cz n kc) v → x.2.2 v = 0) ∧ (¬ (cz n kc v ∧ fp_U m fr to lb hw (cz n kc) v) → x.2.2 v = kc v)) ∧ (i ≤ v → x.2.2 v = kc v)) ∧ ((x.1 = 1 ∧ ∃ v, v < i ∧ cz n kc v ∧ fp_U m fr to lb hw (cz n kc) v) ∨ (x.1 = 0 ∧ ¬ ∃ v, v < i ∧ cz n kc v ∧ fp_U m fr to lb hw (cz n kc) v))) n ?_ ?_ 1000000 0 _ (Nat.zero_le _) ?_ (by omega)
    · rintro i ⟨d, v4, k2⟩ hi ⟨e1, q1, q2⟩
      dsimp only at e1 q1 q2
      subst e1
      unfold fn_X4_dropUnfairStates_l5
      dsimp only
      simp only [cl_nI (show i < 2 ^ 31 by omega), (q1 i hi).2 (Nat.le_refl i)]
      refine ot_f (fun h => by rw [nI_leI (by omega) (by omega)] at h; omega) (ot_i (in_nI (by omega) (by decide)) ?_)
      have hkeep : ¬ (cz n kc i ∧ fp_U m fr to lb hw (cz n kc) i) → (∀ v, v < n → (v < i + 1 → (cz n kc v ∧ fp_U m fr to lb hw (cz n kc) v → k2 v = 0) ∧ (¬ (cz n kc v ∧ fp_U m fr to lb hw (cz n kc) v) → k2 v = kc v)) ∧ (i + 1 ≤ v → k2 v = kc v)) ∧ ((d = 1 ∧ ∃ v, v < i + 1 ∧ cz n kc v ∧ fp_U m fr to lb hw (cz n kc) v) ∨ (d = 0 ∧ ¬ ∃ v, v < i + 1 ∧ cz n kc v ∧ fp_U m fr to lb hw (cz n kc) v)) := by
        intro hno
        refine ⟨fun v hv => ⟨fun h1 => ?_, fun h1 => (q1 v hv).2 (by omega)⟩, ?_⟩
        · by_cases hvi : v = i
          · subst hvi; exact ⟨fun h => absurd h hno, fun _ => (q1 v hv).2 (Nat.le_refl v)⟩
          · exact (q1 v hv).1 (by omega)
        · rcases q2 with ⟨a1, v, a2, a3⟩ | ⟨a1, a2⟩
          · exact Or.inl ⟨a1, v, by omega, a3⟩
          · refine Or.inr ⟨a1, fun ⟨v, b1, b2⟩ => ?_⟩
            by_cases hvi : v = i
            · rw [hvi] at b2; exact hno b2
            · exact a2 ⟨v, by omega, b2⟩
      rcases cz_or hz i hi with ⟨z1, z2⟩ | ⟨z1, z2⟩
      · exact ot_t z1 (ot_s ⟨nI_1 i, hkeep (fun h => z2 h.1)⟩)
      · refine ot_f (by rw [z1]; decide) ?_
        refine ot_b (un_is hn ha (fun v h => h.1) hK hkn hs hab hw1 hw2 z2) ?_
        rintro r (⟨rfl, hU⟩ | ⟨rfl, hU⟩)
        · refine ot_f (by decide) (ot_i (in_nI (by omega) (by decide)) (ot_s ⟨nI_1 i, fun v hv => ⟨fun h1 => ?_, fun h1 => ?_⟩, Or.inl ⟨rfl, i, by omega, z2, hU⟩⟩))
          · rw [nz_b0]
            show (cz n kc v ∧ fp_U m fr to lb hw (cz n kc) v → upd k2 i 0 v = 0) ∧ (¬ (cz n kc v ∧ fp_U m fr to lb hw (cz n kc) v) → upd k2 i 0 v = kc v)
            by_cases hvi : v = i
            · subst hvi; rw [upd_s]; exact ⟨fun _ => rfl, fun h => absurd ⟨z2, hU⟩ h⟩
            · rw [upd_n hvi]; exact (q1 v hv).1 (by omega)
          · rw [nz_b0]
            show upd k2 i 0 v = kc v
            rw [upd_n (by omega)]; exact (q1 v hv).2 (by omega)
        · exact ot_t rfl (ot_s ⟨nI_1 i, hkeep (fun h => hU h.2)⟩)
    · rintro ⟨d, v4, k2⟩ ⟨e1, q1, q2⟩
      dsimp only at e1 q1 q2
      subst e1
      unfold fn_X4_dropUnfairStates_l5
      dsimp only
      refine ot_t (by rw [nI_leI (by omega) (by omega)]; exact Nat.le_refl _) (ot_s ⟨fun v hv => (q1 v hv).1 hv, ?_⟩)
      rcases q2 with ⟨a1, v, a2, a3⟩ | ⟨a1, a2⟩
      · exact Or.inl ⟨a1, v, a3⟩
      · exact Or.inr ⟨a1, fun ⟨v, b⟩ => a2 ⟨v, b.1.1, b⟩⟩
    · exact ⟨nI_0.symm, fun v hv => ⟨fun h => absurd h (Nat.not_lt_zero v), fun _ => rfl⟩, Or.inr ⟨rfl, fun ⟨v, h, _⟩ => absurd h (Nat.not_lt_zero v)⟩⟩
  · rintro ⟨d, v4, k2⟩ ⟨q1, q2⟩
    dsimp only at q1 q2 ⊢
    refine ot_z ?_ (ot_s ⟨q1, q2⟩)
    rcases q2 with ⟨h, -⟩ | ⟨h, -⟩
    · exact Or.inr h
    · exact Or.inl h
/-- what stands when no more is dropped: the fair parts are the knots -/
def kp_E (n m : Nat) (fr to : Nat → Nat) (lb hw gab : Nat → Int32) (I : Nat → Prop) (xf : Int32) (kc kn sz lw al ins gr : Nat → Int32) : Prop :=
  z01 n kc ∧ (∀ v, cz n kc v → I v) ∧ (∀ P, fp_F m fr to lb hw I P → ∀ v, P v → cz n kc v) ∧ (∀ v, cz n kc v → ¬ fp_U m fr to lb hw (cz n kc) v) ∧
  ∃ (K od : Nat → Nat) (f c : Nat), kn_P n m fr to (cz n kc) K od f c ∧ (∀ v, v < n → kn v = if K v = 0 then -1 else nI (K v - 1)) ∧ xf = nI f ∧ su_P n m fr to lb gab K f sz lw al ins gr
theorem kp_keep (hg : gc_R n m aj to st gto gout gst) (ha : gr_A n m aj fr to) (hgs : gs_R n m fr to lb gfr gto glb) (hab : ab_R n m fr lb gab) {fk : Nat → Int32} (hfk : ∀ l, l < 16 → fk l = hw l) {I : Nat → Prop} (hz : z01 n kc) (hI : ∀ v, cz n kc v ↔ I v)
    {xf xc xe xd xo : Int32} {or en lo nx pt ops : Nat → Int32} :
    ot_T (fn_X4_keepFairStates (nI n) (nI m) xf xc xe xd xo fk gab gfr gto glb gout gst kc kn or en lo nx pt ops sz lw al ins gr) (fun y => kp_E n m fr to lb hw gab I y.1 y.2.2.2.2.2.1 y.2.2.2.2.2.2.1 y.2.2.2.2.2.2.2.2.2.2.2.2.2.1 y.2.2.2.2.2.2.2.2.2.2.2.2.2.2.1 y.2.2.2.2.2.2.2.2.2.2.2.2.2.2.2.1 y.2.2.2.2.2.2.2.2.2.2.2.2.2.2.2.2.1 y.2.2.2.2.2.2.2.2.2.2.2.2.2.2.2.2.2) := by
  have hn := hg.1
  have hm := hg.2.1
  unfold fn_X4_keepFairStates
  refine ot_b (lk_kind hfk 1) (fun wk hw1 => ot_b (lk_kind hfk 2) (fun sg hw2 => ?_))
  refine ot_b (P := fun x => kp_E n m fr to lb hw gab I x.2.2.1 x.2.2.2.2.2.2.2.1 x.2.2.2.2.2.2.2.2.1 x.2.2.2.2.2.2.2.2.2.2.2.2.2.2.2.1 x.2.2.2.2.2.2.2.2.2.2.2.2.2.2.2.2.1 x.2.2.2.2.2.2.2.2.2.2.2.2.2.2.2.2.2.1 x.2.2.2.2.2.2.2.2.2.2.2.2.2.2.2.2.2.2.1 x.2.2.2.2.2.2.2.2.2.2.2.2.2.2.2.2.2.2.2) ?_ ?_
  · refine ot_for (fun i x => x.2.1 = nI i ∧ z01 n x.2.2.2.2.2.2.2.1 ∧ (∀ v, cz n x.2.2.2.2.2.2.2.1 v → I v) ∧ (∀ P, fp_F m fr to lb hw I P → ∀ v, P v → cz n x.2.2.2.2.2.2.2.1 v) ∧ ((x.1 = 1 ∧ sm_N (fun v => if x.2.2.2.2.2.2.2.1 v = 1 then 1 else 0) n + i ≤ n) ∨ (x.1 = 0 ∧ kp_E n m fr to lb hw gab I x.2.2.1 x.2.2.2.2.2.2.2.1 x.2.2.2.2.2.2.2.2.1 x.2.2.2.2.2.2.2.2.2.2.2.2.2.2.2.1 x.2.2.2.2.2.2.2.2.2.2.2.2.2.2.2.2.1 x.2.2.2.2.2.2.2.2.2.2.2.2.2.2.2.2.2.1 x.2.2.2.2.2.2.2.2.2.2.2.2.2.2.2.2.2.2.1 x.2.2.2.2.2.2.2.2.2.2.2.2.2.2.2.2.2.2.2))) (n + 1) ?_ ?_ 1000000 0 _ (Nat.zero_le _) ?_ (by omega)
    · rintro i ⟨v3, v4, xf, xc, xe, xd, xo, kc, kn, or, en, lo, nx, pt, ops, sz, lw, al, ins, gr⟩ hi ⟨e1, q1, q2, q3, q4⟩
      dsimp only at e1 q1 q2 q3 q4
      subst e1
      unfold fn_X4_keepFairStates_l17
      dsimp only
      refine ot_f (fun h => by rw [nI_ltI (by omega) (by omega)] at h; omega) ?_
      rcases q4 with ⟨rfl, hcnt⟩ | ⟨rfl, hE⟩
      · refine ot_f (by decide) ?_
        refine ot_b (kf_find hg (cz_or q1)) ?_
        rintro ⟨xf1, xc1, xe1, xd1, xo1, kn1, or1, en1, lo1, nx1, pt1, ops1⟩ ⟨K, od, f, c, p1, rfl, rfl, p4, p5⟩
        have hKn := kn_of hg ha (fun v (h : cz n kc v) => h.1) p1
        obtain ⟨k1, k2, k3, k4, k5, k6, k7, k8, k9, k10⟩ := id hKn
        dsimp only at p4 p5 ⊢
        refine ot_b (su_take (gab := gab) hn hm k9 hgs (cz_or q1) k1 k2 k4 p4) ?_
        rintro ⟨sz1, lw1, al1, ins1, gr1⟩ hs
        dsimp only at hs ⊢
        refine ot_b (dr_drop hn ha q1 hKn p4 hs hab hw1 hw2) ?_
        rintro ⟨d, kc2⟩ ⟨r1, r2⟩
        dsimp only at r1 r2 ⊢
        have hz2 : z01 n kc2 := by
          intro v hv
          by_cases hU : cz n kc v ∧ fp_U m fr to lb hw (cz n kc) v
          · exact Or.inl ((r1 v hv).1 hU)
          · rw [(r1 v hv).2 hU]; exact q1 v hv
        have hsub : ∀ v, cz n kc2 v → cz n kc v := by
          rintro v ⟨a1, a2⟩
          by_cases hU : cz n kc v ∧ fp_U m fr to lb hw (cz n kc) v
          · exact hU.1
          · rw [(r1 v a1).2 hU] at a2; exact ⟨a1, a2⟩
        have hfair : ∀ P, fp_F m fr to lb hw I P → ∀ v, P v → cz n kc2 v := by
          intro P hP v hv
          have hc := q3 P hP v hv
          have hno := fp_keep hP (X := cz n kc) (q3 P hP) hv
          exact ⟨hc.1, by rw [(r1 v hc.1).2 (fun h => hno h.2)]; exact hc.2⟩
        refine ot_s ⟨nI_1 i, hz2, fun v h => q2 v (hsub v h), hfair, ?_⟩
        rcases r2 with ⟨rfl, v, h1, h2⟩ | ⟨rfl, hno⟩
        · refine Or.inl ⟨rfl, ?_⟩
          have hlt := sm_lt (f := fun v => if kc2 v = 1 then 1 else 0) (g := fun v => if kc v = 1 then 1 else 0) (k := v) (n := n) h1.1 (fun i hi => by
            by_cases h : kc2 i = 1
            · have := (hsub i ⟨hi, h⟩).2
              simp only [h, this, if_true]; exact Nat.le_refl _
            · simp only [h, if_false]; exact Nat.zero_le _) (by
            have a1 := (r1 v h1.1).1 ⟨h1, h2⟩
            have a2 := h1.2
            simp only [a1, a2, if_true]
            decide)
          show sm_N (fun v => if kc2 v = 1 then 1 else 0) n + (i + 1) ≤ n
          omega
        · have hsame : ∀ v, v < n → kc2 v = kc v := fun v hv => (r1 v hv).2 (fun h => hno ⟨v, h⟩)
          have hcz : cz n kc2 = cz n kc := by
            funext v
            exact propext ⟨fun h => ⟨h.1, by rw [← hsame v h.1]; exact h.2⟩, fun h => ⟨h.1, by rw [hsame v h.1]; exact h.2⟩⟩
          refine Or.inr ⟨rfl, hz2, fun v h => q2 v (hsub v h), hfair, ?_, K, od, f, c, ?_, p4, rfl, hs⟩
          · rw [hcz]; exact fun v h1 h2 => hno ⟨v, h1, h2⟩
          · rw [hcz]; exact hKn
      · exact ot_t rfl (ot_s hE)
    · rintro ⟨v3, v4, xf, xc, xe, xd, xo, kc, kn, or, en, lo, nx, pt, ops, sz, lw, al, ins, gr⟩ ⟨e1, q1, q2, q3, q4⟩
      dsimp only at e1 q1 q2 q3 q4
      subst e1
      unfold fn_X4_keepFairStates_l17
      dsimp only
      refine ot_t (by rw [nI_ltI (by omega) (by omega)]; omega) (ot_s ?_)
      rcases q4 with ⟨rfl, hcnt⟩ | ⟨rfl, hE⟩
      · omega
      · exact hE
    · refine ⟨nI_0.symm, hz, fun v h => (hI v).mp h, fun P hP v hv => (hI v).mpr (hP.2.1 v hv), Or.inl ⟨rfl, ?_⟩⟩
      have := sm_ones (f := fun v => if kc v = 1 then 1 else 0) (n := n) (fun i _ => by split <;> omega)
      exact this
  · rintro ⟨v3, v4, xf, xc, xe, xd, xo, kc, kn, or, en, lo, nx, pt, ops, sz, lw, al, ins, gr⟩ h
    exact ot_s h
end KQ
