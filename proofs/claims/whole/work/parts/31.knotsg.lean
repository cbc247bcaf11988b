section KTG
variable {n m : Nat} {aj : Nat → List Nat} {to st : Nat → Nat} {gto gout gst : Nat → Int32} {ch : Nat → Prop} {kc : Nat → Int32}
/-- a walk from one state on: nothing is left open behind it -/
theorem kw_walk (hg : gc_R n m aj to st gto gout gst) (hch : ∀ v, v < n → (kc v = 0 ∧ ¬ ch v) ∨ (kc v = 1 ∧ ch v)) {V : Nat → Prop} {xf xc xe xd xo : Int32} {kn or en lo nx pt ops : Nat → Int32} {r : Nat} (hr : r < n) (hcr : ch r) (her : en r = 0) (h : kw_S n ch st (kt_t to gout) V 0 0 xf xc xe xd xo kn or en lo nx pt ops) :
    ot_T (fn_X1_walkFrom (nI n) (nI m) xf xc xe xd xo gto gout gst kc kn or en lo nx pt ops (nI r)) (fun y => kw_S n ch st (kt_t to gout) (fun v => V v ∨ v = r) 0 0 y.1 y.2.1 y.2.2.1 y.2.2.2.1 y.2.2.2.2.1 y.2.2.2.2.2.1 y.2.2.2.2.2.2.1 y.2.2.2.2.2.2.2.1 y.2.2.2.2.2.2.2.2.1 y.2.2.2.2.2.2.2.2.2.1 y.2.2.2.2.2.2.2.2.2.2.1 y.2.2.2.2.2.2.2.2.2.2.2) := by
  obtain ⟨E, L, N, K, pa, op, od, e, k, c, f, hI, hR, hm, hV⟩ := h
  obtain ⟨hA, hB, hC, hN, hK, hL, hQ, hS⟩ := id hI
  have hn := hg.1
  have hmm := hg.2.1
  have hEr : E r = 0 := by
    have h1 := hR.2.2.1 r hr
    rw [her] at h1
    have := hA.1 r hr
    have := tj_e_le hA
    exact ((nI_eq (by decide) (by omega)).mp (nI_0.trans h1)).symm
  have hk0 := (tj_done hI).1
  have helt := tj_e_lt hA hr hcr hEr
  obtain ⟨xe', xd', xo', en', lo', nx', pt', ops', w1, w2⟩ := kt_enter hg hR hr (by omega) (by omega)
  have hIe := tj_enter (kt_G hg) hI hr hcr hEr (fun i hi => absurd hi (Nat.not_lt_zero i))
  unfold fn_X1_walkFrom
  rw [w1]
  refine ot_b (ot_s (Q := fun z => z = _) rfl) (fun z hz => ?_)
  subst hz
  dsimp only
  refine ot_b (P := fun y => kw_S n ch st (kt_t to gout) (fun v => V v ∨ v = r) 0 0 y.2.1 y.2.2.1 y.2.2.2.1 y.2.2.2.2.1 y.2.2.2.2.2.1 y.2.2.2.2.2.2.1 y.2.2.2.2.2.2.2.1 y.2.2.2.2.2.2.2.2.1 y.2.2.2.2.2.2.2.2.2.1 y.2.2.2.2.2.2.2.2.2.2.1 y.2.2.2.2.2.2.2.2.2.2.2.1 y.2.2.2.2.2.2.2.2.2.2.2.2) ?_ ?_
  · refine ot_loop (fun x => ∃ (j d : Nat), x.1 = nI j ∧ j ≤ n + m ∧ kw_S n ch st (kt_t to gout) (fun v => V v ∨ v = r) j d x.2.1 x.2.2.1 x.2.2.2.1 x.2.2.2.2.1 x.2.2.2.2.2.1 x.2.2.2.2.2.2.1 x.2.2.2.2.2.2.2.1 x.2.2.2.2.2.2.2.2.1 x.2.2.2.2.2.2.2.2.2.1 x.2.2.2.2.2.2.2.2.2.2.1 x.2.2.2.2.2.2.2.2.2.2.2.1 x.2.2.2.2.2.2.2.2.2.2.2.2) (fun x => n + m - x.1.toNatClampNeg) ?_ 1000000 _ ?_ (by omega)
    · rintro ⟨v4, xf, xc, xe, xd, xo, kn, or, en, lo, nx, pt, ops⟩ ⟨j, d, rfl, hj, hS⟩
      dsimp only at hS
      have hexit : d = 0 → kw_S n ch st (kt_t to gout) (fun v => V v ∨ v = r) 0 0 xf xc xe xd xo kn or en lo nx pt ops := by
        rintro rfl
        obtain ⟨E, L, N, K, pa, op, od, e, k, c, f, q1, q2, q3, q4⟩ := hS
        exact ⟨E, L, N, K, pa, op, od, e, k, c, f, q1, q2, Nat.zero_le _, q4⟩
      rcases Nat.lt_or_ge j (n + m) with q | q
      · cases d with
        | zero =>
          obtain ⟨E, L, N, K, pa, op, od, e, k, c, f, q1, q2, q3, q4⟩ := id hS
          unfold fn_X1_walkFrom_l19
          dsimp only
          refine ot_f (fun h => by rw [nI_add, nI_leI (by omega) (by omega)] at h; omega) (ot_t (by rw [q2.1.2.2.2.1, nI_0]; decide) (ot_s (hexit rfl)))
        | succ d =>
          refine ot_m (kw_step hg hch q hS) ?_
          rintro (⟨v4', xf', xc', xe', xd', xo', kn', or', en', lo', nx', pt', ops'⟩ | y) hy
          · obtain ⟨d', e1, e2⟩ := hy
            have e1 : v4' = nI (j + 1) := e1
            subst e1
            refine ⟨⟨j + 1, d', rfl, by omega, e2⟩, ?_⟩
            show n + m - (nI (j + 1)).toNatClampNeg < n + m - (nI j).toNatClampNeg
            rw [cl_nI (by omega), cl_nI (by omega)]
            omega
          · exact absurd hy id
      · have hd : d = 0 := by
          obtain ⟨E, L, N, K, pa, op, od, e, k, c, f, q1, q2, q3, q4⟩ := id hS
          obtain ⟨hA, hB, hC, hN, hK, hL, hQ, hS⟩ := id q1
          have a1 := kt_m_le hg hN
          have a2 := tj_e_le hA
          have a3 := tj_d_le hA hC
          unfold kt_m at q3
          omega
        unfold fn_X1_walkFrom_l19
        dsimp only
        exact ot_t (by rw [nI_add, nI_leI (by omega) (by omega)]; omega) (ot_s (hexit hd))
    · refine ⟨0, 1, nI_0.symm, Nat.zero_le _, _, _, _, _, _, _, _, _, _, _, _, hIe, w2, Nat.zero_le _, ?_⟩
      rintro v hv (h1 | h1)
      · by_cases hvr : v = r
        · rw [hvr, up_s]; omega
        · rw [up_n hvr]; exact hV v hv h1
      · rw [h1, up_s]; omega
  · rintro ⟨v4, xf, xc, xe, xd, xo, kn, or, en, lo, nx, pt, ops⟩ hy
    exact ot_s hy
/-- what Knots.find leaves: the knots of the chosen states, numbered so that no move leads to a later one, and the order in which they were closed -/
def kf_P (n : Nat) (ch : Nat → Prop) (Ed : Nat → Nat → Prop) (K od : Nat → Nat) (f c : Nat) : Prop :=
  (∀ v, v < n → (K v ≠ 0 ↔ ch v)) ∧ (∀ v, v < n → K v ≤ f) ∧ (∀ u v, u < n → v < n → ch u → ch v → (K u = K v ↔ rc_R Ed u v ∧ rc_R Ed v u)) ∧ (∀ q, q < f → ∃ v, v < n ∧ K v = q + 1) ∧
  (∀ i, i < c → od i < n ∧ ch (od i)) ∧ (∀ i j, i < j → j < c → od i ≠ od j ∧ K (od i) ≤ K (od j)) ∧ (∀ v, v < n → ch v → ∃ i, i < c ∧ od i = v) ∧ (∀ u v, Ed u v → K v ≤ K u) ∧ f ≤ n ∧ c ≤ n
theorem kf_find (hg : gc_R n m aj to st gto gout gst) (hch : ∀ v, v < n → (kc v = 0 ∧ ¬ ch v) ∨ (kc v = 1 ∧ ch v)) {xf xc xe xd xo : Int32} {kn or en lo nx pt ops : Nat → Int32} :
    ot_T (fn_X1_find (nI n) (nI m) xf xc xe xd xo gto gout gst kc kn or en lo nx pt ops) (fun y => ∃ (K od : Nat → Nat) (f c : Nat), kf_P n ch (tj_E n ch st (kt_t to gout)) K od f c ∧ y.1 = nI f ∧ y.2.1 = nI c ∧ (∀ v, v < n → y.2.2.2.2.2.1 v = if K v = 0 then -1 else nI (K v - 1)) ∧ (∀ i, i < c → y.2.2.2.2.2.2.1 i = nI (od i))) := by
  have hn := hg.1
  have hmm := hg.2.1
  unfold fn_X1_find
  refine ot_b (P := fun x => ∀ v, v < n → x.2.1 v = -1 ∧ x.2.2 v = 0) ?_ ?_
  · refine ot_for (fun i x => x.1 = nI i ∧ ∀ v, v < i → x.2.1 v = -1 ∧ x.2.2 v = 0) n ?_ ?_ 1000000 0 _ (Nat.zero_le _) ⟨nI_0.symm, fun v h => absurd h (Nat.not_lt_zero v)⟩ (by omega)
    · rintro i ⟨v2, a, b⟩ hi ⟨rfl, h⟩
      dsimp only at h
      unfold fn_X1_find_l27
      dsimp only
      simp only [cl_nI (show i < 2 ^ 31 by omega)]
      refine ot_f (fun h => by rw [nI_leI (by omega) (by omega)] at h; omega) (ot_i (in_nI (by omega) (by decide)) (ot_i (in_nI (by omega) (by decide)) (ot_s ⟨nI_1 i, fun v hv => ?_⟩)))
      show upd a i (-1) v = -1 ∧ upd b i 0 v = 0
      by_cases hvi : v = i
      · rw [hvi, upd_s, upd_s]; exact ⟨rfl, rfl⟩
      · rw [upd_n hvi, upd_n hvi]; exact h v (by omega)
    · rintro ⟨v2, a, b⟩ ⟨rfl, h⟩
      unfold fn_X1_find_l27
      dsimp only
      exact ot_t (by rw [nI_leI (by omega) (by omega)]; exact Nat.le_refl _) (ot_s h)
  · rintro ⟨v2, kn1, en1⟩ h0
    dsimp only at h0 ⊢
    refine ot_b (P := fun x => kw_S n ch st (kt_t to gout) (fun v => ch v) 0 0 x.2.1 x.2.2.1 x.2.2.2.1 x.2.2.2.2.1 x.2.2.2.2.2.1 x.2.2.2.2.2.2.1 x.2.2.2.2.2.2.2.1 x.2.2.2.2.2.2.2.2.1 x.2.2.2.2.2.2.2.2.2.1 x.2.2.2.2.2.2.2.2.2.2.1 x.2.2.2.2.2.2.2.2.2.2.2.1 x.2.2.2.2.2.2.2.2.2.2.2.2) ?_ ?_
    · refine ot_for (fun i x => x.1 = nI i ∧ kw_S n ch st (kt_t to gout) (fun v => v < i ∧ ch v) 0 0 x.2.1 x.2.2.1 x.2.2.2.1 x.2.2.2.2.1 x.2.2.2.2.2.1 x.2.2.2.2.2.2.1 x.2.2.2.2.2.2.2.1 x.2.2.2.2.2.2.2.2.1 x.2.2.2.2.2.2.2.2.2.1 x.2.2.2.2.2.2.2.2.2.2.1 x.2.2.2.2.2.2.2.2.2.2.2.1 x.2.2.2.2.2.2.2.2.2.2.2.2) n ?_ ?_ 1000000 0 _ (Nat.zero_le _) ?_ (by omega)
      · rintro i ⟨v2, xf, xc, xe, xd, xo, kn, or, en, lo, nx, pt, ops⟩ hi ⟨rfl, hS⟩
        dsimp only at hS
        unfold fn_X1_find_l57
        dsimp only
        simp only [cl_nI (show i < 2 ^ 31 by omega)]
        refine ot_f (fun h => by rw [nI_leI (by omega) (by omega)] at h; omega) (ot_i (in_nI (by omega) (by decide)) ?_)
        have hskip : (¬ ch i ∨ en i ≠ 0) → kw_S n ch st (kt_t to gout) (fun v => v < i + 1 ∧ ch v) 0 0 xf xc xe xd xo kn or en lo nx pt ops := by
          intro hor
          obtain ⟨E, L, N, K, pa, op, od, e, k, c, f, q1, q2, q3, q4⟩ := hS
          refine ⟨E, L, N, K, pa, op, od, e, k, c, f, q1, q2, q3, ?_⟩
          rintro v hv ⟨g1, g2⟩
          by_cases hvi : v = i
          · subst hvi
            rcases hor with h | h
            · exact absurd g2 h
            · intro hE
              rw [q2.2.2.1 v hv, hE, nI_0] at h
              exact h rfl
          · exact q4 v hv ⟨by omega, g2⟩
        rcases hch i hi with ⟨z1, z2⟩ | ⟨z1, z2⟩
        · exact ot_t z1 (ot_s ⟨nI_1 i, hskip (Or.inl z2)⟩)
        · refine ot_f (by rw [z1]; decide) (ot_i (in_nI (by omega) (by decide)) ?_)
          by_cases hen : en i = 0
          · refine ot_t hen ?_
            refine ot_b (kw_walk hg hch hi z2 hen hS) ?_
            rintro ⟨xf', xc', xe', xd', xo', kn', or', en', lo', nx', pt', ops'⟩ hy
            refine ot_s ⟨nI_1 i, ?_⟩
            obtain ⟨E, L, N, K, pa, op, od, e, k, c, f, q1, q2, q3, q4⟩ := hy
            refine ⟨E, L, N, K, pa, op, od, e, k, c, f, q1, q2, q3, ?_⟩
            rintro v hv ⟨g1, g2⟩
            by_cases hvi : v = i
            · exact q4 v hv (Or.inr hvi)
            · exact q4 v hv (Or.inl ⟨by omega, g2⟩)
          · exact ot_f hen (ot_s ⟨nI_1 i, hskip (Or.inr hen)⟩)
      · rintro ⟨v2, xf, xc, xe, xd, xo, kn, or, en, lo, nx, pt, ops⟩ ⟨rfl, hS⟩
        unfold fn_X1_find_l57
        dsimp only
        refine ot_t (by rw [nI_leI (by omega) (by omega)]; exact Nat.le_refl _) (ot_s ?_)
        obtain ⟨E, L, N, K, pa, op, od, e, k, c, f, q1, q2, q3, q4⟩ := hS
        exact ⟨E, L, N, K, pa, op, od, e, k, c, f, q1, q2, q3, fun v hv h => q4 v hv ⟨hv, h⟩⟩
      · refine ⟨nI_0.symm, fun _ => 0, fun _ => 0, fun _ => 0, fun _ => 0, fun _ => 0, fun _ => 0, fun _ => 0, 0, 0, 0, 0, tj_start (fun _ _ => rfl) (fun _ _ => rfl), ⟨⟨nI_0.symm, nI_0.symm, nI_0.symm, nI_0.symm, nI_0.symm⟩, fun v hv => (h0 v hv).1, fun v hv => (h0 v hv).2.trans nI_0.symm, fun v hv h => absurd rfl h, fun i hi => absurd hi (Nat.not_lt_zero i), fun i hi => absurd hi (Nat.not_lt_zero i), fun i hi => absurd hi (Nat.not_lt_zero i)⟩, Nat.zero_le _, ?_⟩
        rintro v hv ⟨h, -⟩
        exact absurd h (Nat.not_lt_zero v)
    · rintro ⟨v2, xf, xc, xe, xd, xo, kn, or, en, lo, nx, pt, ops⟩ ⟨E, L, N, K, pa, op, od, e, k, c, f, q1, q2, q3, q4⟩
      refine ot_s ⟨K, od, f, c, ?_, q2.1.1, q2.1.2.1, q2.2.1, q2.2.2.2.2.2.2⟩
      obtain ⟨hA, hB, hC, hN, hK, hL, hQ, hS⟩ := id q1
      have hd := (tj_done q1).2
      have hiff : ∀ v, v < n → (K v ≠ 0 ↔ ch v) := fun v hv => ⟨fun h => hA.2.2.1 v hv (hK.1 v hv h), fun h => hd v hv (q4 v hv h)⟩
      refine ⟨hiff, hS.1, fun u v hu hv h1 h2 => hS.2.1 u v hu hv ((hiff u hu).mpr h1) ((hiff v hv).mpr h2), hS.2.2.1, fun i hi => ?_, hS.2.2.2.2.1, fun v hv h => hS.2.2.2.2.2.1 v hv ((hiff v hv).mpr h), fun u v h => hS.2.2.2.2.2.2 u v ((hiff u h.1).mpr h.2.2.1) h, ?_, tj_c_le hS⟩
      · have := hS.2.2.2.1 i hi
        exact ⟨this.1, (hiff _ this.1).mp this.2⟩
      · have hc : ∀ q, ∃ v, q < f → v < n ∧ K v = q + 1 := fun q => by
          by_cases hq : q < f
          · obtain ⟨v, a1, a2⟩ := hS.2.2.1 q hq
            exact ⟨v, fun _ => ⟨a1, a2⟩⟩
          · exact ⟨0, fun h => absurd h hq⟩
        refine ph_le n f (fun q => Classical.choose (hc q)) (fun q hq => (Classical.choose_spec (hc q) hq).1) (fun i j hi hj hij => ?_)
        have a1 := (Classical.choose_spec (hc i) hi).2
        have a2 := (Classical.choose_spec (hc j) hj).2
        have hij : Classical.choose (hc i) = Classical.choose (hc j) := hij
        rw [hij] at a1
        omega
end KTG
