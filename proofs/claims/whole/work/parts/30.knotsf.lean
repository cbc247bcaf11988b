section KTF
variable {n m : Nat} {aj : Nat → List Nat} {to st : Nat → Nat} {gto gout gst : Nat → Int32} {ch : Nat → Prop} {kc : Nat → Int32}
/-- the walk's state, as it stands: j steps at least are done, what V names has been entered -/
def kw_S (n : Nat) (ch : Nat → Prop) (st tg : Nat → Nat) (V : Nat → Prop) (j : Nat) (d : Nat) (xf xc xe xd xo : Int32) (kn or en lo nx pt ops : Nat → Int32) : Prop :=
  ∃ (E L N K pa op od : Nat → Nat) (e k c f : Nat), tj_I n ch st tg e E L N K d pa k op c od f ∧ kt_R n E L N K pa op od e d k c f xf xc xe xd xo kn or en lo nx pt ops ∧ j ≤ kt_m n st E N e d ∧ (∀ v, v < n → V v → E v ≠ 0)
theorem kw_step (hg : gc_R n m aj to st gto gout gst) (hch : ∀ v, v < n → (kc v = 0 ∧ ¬ ch v) ∨ (kc v = 1 ∧ ch v)) {V : Nat → Prop} {j d : Nat} {xf xc xe xd xo : Int32} {kn or en lo nx pt ops : Nat → Int32} (hj : j < n + m) (h : kw_S n ch st (kt_t to gout) V j (d + 1) xf xc xe xd xo kn or en lo nx pt ops) :
    ot_T (fn_X1_walkFrom_l19 (nI n) (nI m) gst gout gto kc (nI j, xf, xc, xe, xd, xo, kn, or, en, lo, nx, pt, ops))
      (ot_R (fun y => ∃ d', y.1 = nI (j + 1) ∧ kw_S n ch st (kt_t to gout) V (j + 1) d' y.2.1 y.2.2.1 y.2.2.2.1 y.2.2.2.2.1 y.2.2.2.2.2.1 y.2.2.2.2.2.2.1 y.2.2.2.2.2.2.2.1 y.2.2.2.2.2.2.2.2.1 y.2.2.2.2.2.2.2.2.2.1 y.2.2.2.2.2.2.2.2.2.2.1 y.2.2.2.2.2.2.2.2.2.2.2.1 y.2.2.2.2.2.2.2.2.2.2.2.2) (fun _ => False)) := by
  obtain ⟨E, L, N, K, pa, op, od, e, k, c, f, hI, hR, hm, hV⟩ := h
  obtain ⟨hA, hB, hC, hN, hK, hL, hQ, hS⟩ := id hI
  obtain ⟨⟨rfl, rfl, rfl, rfl, rfl⟩, h2, h3, h4, h5, h6, h7⟩ := id hR
  have hn := hg.1
  have hmm := hg.2.1
  obtain ⟨s, hs⟩ : ∃ s, s = pa d := ⟨_, rfl⟩
  obtain ⟨p1, p2, p3⟩ := hC.1 d (by omega)
  rw [← hs] at p1 p2 p3
  have he := tj_e_le hA
  have hd := tj_d_le hA hC
  have hk := tj_k_le hA hB
  have hpt : pt d = nI s := by rw [h5 d (by omega), hs]
  have hnx : nx s = nI (N s) := (h4 s p1 p2).2
  have hNs := hN.1 s p1 p2
  have hsm : st (s + 1) ≤ m := gc_le hg (by omega)
  have hgs : gst (s + 1) = nI (st (s + 1)) := hg.2.2.2.2.1 (s + 1) (by omega)
  unfold fn_X1_walkFrom_l19
  dsimp only
  simp only [nI_add, nI_pred, cl_nI (show d < 2 ^ 31 by omega), hpt, nI_1, cl_nI (show s < 2 ^ 31 by omega), cl_nI (show s + 1 < 2 ^ 31 by omega), hnx, hgs]
  refine ot_f (fun h => by rw [nI_leI (by omega) (by omega)] at h; omega) (ot_f (nI_0m (by omega) (by omega)) (ot_i (in_nI (by omega) (by decide)) (ot_i (in_nI (by omega) (by decide)) (ot_i (in_nI (by omega) (by decide)) ?_))))
  by_cases hlast : N s = st (s + 1)
  · refine ot_t (by rw [hlast]) ?_
    have hc1 := kt_close hg hI hR (by rw [← hs]; exact hlast)
    rw [← hs] at hc1
    refine ot_b hc1 ?_
    rintro ⟨xf', xc', xo', kn', or'⟩ ⟨K', od', k', c', f', q1, q2, q3⟩
    dsimp only at q3 ⊢
    have hl1 := kt_leave (ch := ch) hn hA hC hL.1 q3
    rw [← hs] at hl1
    refine ot_b hl1 ?_
    rintro ⟨xd', lo'⟩ ⟨r1, r2⟩
    dsimp only at r1 r2 ⊢
    refine ot_s ?_
    by_cases hle : L (pa d) = E (pa d)
    · -- a knot was closed
      have hI2 := q2 (by rw [hs]; exact hle)
      refine ⟨d, rfl, E, L, N, K', pa, op, od', e, k', c', f', hI2, ?_, ?_, hV⟩
      · cases d with
        | zero => exact r2 rfl
        | succ d' =>
          have := r1 d' rfl
          obtain ⟨t1, t2, t3⟩ := hC.1 d' (by omega)
          have hlt := hC.2 d' (d' + 1) (by omega) (by omega)
          have hLd := hL.1 _ t1 t2 t3
          have hno : ¬ L s < L (pa d') := by rw [hs, hle]; omega
          simp only [hno, if_false] at this
          have hsame : va_up L (pa d') (L (pa d')) = L := by
            funext v
            by_cases hv : v = pa d'
            · rw [hv, up_s]
            · rw [up_n hv]
          rw [hsame] at this
          exact this
      · unfold kt_m at hm ⊢; omega
    · obtain ⟨rfl, rfl, rfl, rfl, rfl⟩ := q1 (by rw [hs]; exact hle)
      have hLs := hL.1 (pa d) (by rw [← hs]; exact p1) (by rw [← hs]; exact p2) (by rw [← hs]; exact p3)
      cases d with
      | zero => exact absurd (tj_first hI) hle
      | succ d' =>
        have hR2 := r1 d' rfl
        rw [hs] at hR2
        have hI2 := tj_leave (x := if L (pa (d' + 1)) < L (pa d') then L (pa (d' + 1)) else L (pa d')) hI (by rw [← hs]; exact hlast) (by omega) (by split <;> omega) (by split <;> omega) (by split <;> simp)
        refine ⟨d' + 1, rfl, _, _, _, _, _, _, _, _, _, _, _, hI2, hR2, ?_, hV⟩
        unfold kt_m at hm ⊢; omega
  · refine ot_f (fun h => hlast ((nI_eq (by omega) (by omega)).mp h)) ?_
    obtain ⟨a, ha1, ha2, ha3, ha4, ha5, ha6⟩ := kt_place hg p1 hNs.1 (by omega)
    simp only [cl_nI (show N s < 2 ^ 31 by omega), ha3, cl_nI (show a < 2 ^ 31 by omega), ha5]
    refine ot_i (in_nI (by omega) (by decide)) (ot_i (in_nI (by omega) (by decide)) (ot_i (in_nI (by omega) (by decide)) (ot_i (in_nI (by omega) (by decide)) (ot_i (in_nI (by omega) (by decide)) (ot_i (in_nI (by omega) (by decide)) ?_)))))
    obtain ⟨t, ht⟩ : ∃ t, t = to a := ⟨_, rfl⟩
    rw [← ht] at ha4 ha5 ha6 ⊢
    simp only [cl_nI (show t < 2 ^ 31 by omega), h3 t ha6]
    -- the place behind it, where nothing is entered
    have hmm2 := kt_m_next (E := E) (N := N) (st := st) (e := e) (d := d + 1) p1 p2 hNs.1
    have hplain : ∀ (L' : Nat → Nat) (lo' : Nat → Int32), tj_I n ch st (kt_t to gout) e E L' N K (d + 1) pa k op c od f → (∀ v, v < n → E v ≠ 0 → lo' v = nI (L' v)) → (ch t → E t ≠ 0) → (ch t → K t = 0 → L' s ≤ E t) →
        kw_S n ch st (kt_t to gout) V (j + 1) (d + 1) (nI f) (nI c) (nI e) (nI (d + 1)) (nI k) kn or en lo' (upd nx s (nI (N s + 1))) pt ops := by
      intro L' lo' hI' hlo' g1 g2
      have hI2 := tj_next hI' (kt_G hg) d (by omega) hs.symm (by omega) (by rw [ha4]; exact g1) (by rw [ha4]; exact g2)
      refine ⟨_, _, _, _, _, _, _, _, _, _, _, hI2, ⟨⟨rfl, rfl, rfl, rfl, rfl⟩, h2, h3, fun v hv hE => ⟨hlo' v hv hE, ?_⟩, h5, h6, h7⟩, by omega, hV⟩
      by_cases hvs : v = s
      · rw [hvs, upd_s, up_s]
      · rw [upd_n hvs, up_n hvs]; exact (h4 v hv hE).2
    have hj139 : (ch t → E t ≠ 0) → ot_T (fn_X1_walkFrom_j139 gto gout nx pt (nI (d + 1)) kc (nI j) (nI f) (nI c) (nI e) (nI k) kn or en lo ops ()) (ot_R (fun y => ∃ d', y.1 = nI (j + 1) ∧ kw_S n ch st (kt_t to gout) V (j + 1) d' y.2.1 y.2.2.1 y.2.2.2.1 y.2.2.2.2.1 y.2.2.2.2.2.1 y.2.2.2.2.2.2.1 y.2.2.2.2.2.2.2.1 y.2.2.2.2.2.2.2.2.1 y.2.2.2.2.2.2.2.2.2.1 y.2.2.2.2.2.2.2.2.2.2.1 y.2.2.2.2.2.2.2.2.2.2.2.1 y.2.2.2.2.2.2.2.2.2.2.2.2) (fun _ => False)) := by
      intro hvis
      unfold fn_X1_walkFrom_j139
      simp only [nI_pred, cl_nI (show d < 2 ^ 31 by omega), hpt, cl_nI (show s < 2 ^ 31 by omega), hnx, nI_1, cl_nI (show N s < 2 ^ 31 by omega), ha3, cl_nI (show a < 2 ^ 31 by omega), ha5, cl_nI (show t < 2 ^ 31 by omega), h3 t ha6]
      refine ot_i (in_nI (by omega) (by decide)) ?_
      rcases hch t ha6 with ⟨z1, z2⟩ | ⟨z1, z2⟩
      · exact ot_t z1 (ot_s ⟨d + 1, rfl, hplain L lo hI (fun v hv hE => (h4 v hv hE).1) (fun h => absurd h z2) (fun h => absurd h z2)⟩)
      · refine ot_f (by rw [z1]; decide) (ot_i (in_nI (by omega) (by decide)) ?_)
        have hEt := hvis z2
        have hEte := hA.1 t ha6
        rw [h2 t ha6]
        by_cases hKt : K t = 0
        · simp only [hKt, if_true]
          refine ot_i (in_nI (by omega) (by decide)) ?_
          have hLs := hL.1 s p1 p2 p3
          have hEse := hA.1 s p1
          rw [kt_lower (v := s) (x := E t) (y := L s) (by omega) (by omega) (by omega) (h4 s p1 p2).1]
          refine ot_b (ot_s (Q := fun z => z = _) rfl) (fun z hz => ?_)
          subst hz
          refine ot_s ⟨d + 1, rfl, ?_⟩
          dsimp only
          by_cases hlt : E t < L s
          · simp only [hlt, if_true]
            have hst2 : st s ≤ N s ∧ N s < st (s + 1) := ⟨hNs.1, by omega⟩
            have hEd : tj_E n ch st (kt_t to gout) s t := ⟨p1, ha6, hA.2.2.1 s p1 p2, z2, N s, hst2.1, hst2.2, ha4⟩
            have hI2 := tj_lower (x := E t) hI (by rw [← hs]; omega) ⟨t, ha6, hEt, hKt, rfl, by rw [← hs]; exact rc_edge hEd⟩
            rw [← hs] at hI2
            refine hplain _ _ hI2 (fun v hv hE => ?_) (fun _ => hEt) (fun _ _ => by rw [up_s]; exact Nat.le_refl _)
            by_cases hvs : v = s
            · rw [hvs, upd_s, up_s]
            · rw [upd_n hvs, up_n hvs]; exact (h4 v hv hE).1
          · simp only [hlt, if_false]
            exact hplain L lo hI (fun v hv hE => (h4 v hv hE).1) (fun _ => hEt) (fun _ _ => by omega)
        · simp only [hKt, if_false]
          have hKf := hS.1 t ha6
          have hkn : ¬ nI (K t - 1) = -1 := nI_m1 (by
            have hfn : f ≤ n := by
              have hc : ∀ q, ∃ v, q < f → v < n ∧ K v = q + 1 := fun q => by
                by_cases hq : q < f
                · obtain ⟨v, a1, a2⟩ := hS.2.2.1 q hq
                  exact ⟨v, fun _ => ⟨a1, a2⟩⟩
                · exact ⟨0, fun h => absurd h hq⟩
              refine ph_le n f (fun q => Classical.choose (hc q)) (fun q hq => (Classical.choose_spec (hc q) hq).1) (fun i j hi hj hij => ?_)
              have a1 := (Classical.choose_spec (hc i) hi).2
              have a2 := (Classical.choose_spec (hc j) hj).2
              have hij : Classical.choose (hc i) = Classical.choose (hc j) := hij
              rw [hij] at a1
              omega
            omega)
          exact ot_f hkn (ot_s ⟨d + 1, rfl, hplain L lo hI (fun v hv hE => (h4 v hv hE).1) (fun _ => hEt) (fun _ h => absurd h hKt)⟩)
    rcases hch t ha6 with ⟨z1, z2⟩ | ⟨z1, z2⟩
    · exact ot_t z1 (hj139 (fun h => absurd h z2))
    · refine ot_f (by rw [z1]; decide) (ot_i (in_nI (by omega) (by decide)) ?_)
      by_cases hEt : E t = 0
      · refine ot_t (by rw [hEt, nI_0]) ?_
        have hEd : tj_E n ch st (kt_t to gout) s t := ⟨p1, ha6, hA.2.2.1 s p1 p2, z2, N s, hNs.1, by omega, ha4⟩
        have hst : s ≠ t := fun h => p2 (h ▸ hEt)
        have hIe := tj_enter (kt_G hg) hI ha6 z2 hEt (fun i hi => by
          rcases Nat.lt_or_ge i d with q | q
          · have h9 := hQ.1 i s (by omega) p1 p2 p3 (by have := hC.2 i d q (by omega); rw [hs]; omega)
            exact rc_trans h9 (rc_edge hEd)
          · have : i = d := by omega
            rw [this, ← hs]; exact rc_edge hEd)
        have hRn : kt_R n E L (va_up N s (N s + 1)) K pa op od e (d + 1) k c f (nI f) (nI c) (nI e) (nI (d + 1)) (nI k) kn or en lo (upd nx s (nI (N s + 1))) pt ops := by
          refine ⟨⟨rfl, rfl, rfl, rfl, rfl⟩, h2, h3, fun v hv hE => ⟨(h4 v hv hE).1, ?_⟩, h5, h6, h7⟩
          by_cases hvs : v = s
          · rw [hvs, upd_s, up_s]
          · rw [upd_n hvs, up_n hvs]; exact (h4 v hv hE).2
        have helt := tj_e_lt hA ha6 z2 hEt
        obtain ⟨xe', xd', xo', en', lo', nx', pt', ops', w1, w2⟩ := kt_enter hg hRn ha6 (by omega) (by omega)
        rw [w1]
        refine ot_b (ot_s (Q := fun z => z = _) rfl) (fun z hz => ?_)
        subst hz
        refine ot_s ⟨d + 1 + 1, rfl, ?_⟩
        dsimp only
        have hI2 := tj_next (s := s) hIe (kt_G hg) d (by omega) (by rw [up_n (by omega)]; exact hs.symm) (by rw [up_n hst]; omega) (by rw [up_n hst, ha4, up_s]; intro _; omega) (by
          rw [up_n hst, ha4, up_s, up_n hst]
          intro _ _
          have := hL.1 s p1 p2 p3
          have := hA.1 s p1
          omega)
        rw [up_n hst] at hI2
        rw [up_comm hst] at w2
        refine ⟨_, _, _, _, _, _, _, _, _, _, _, hI2, w2, ?_, ?_⟩
        · have a1 := kt_m_enter (E := E) (N := N) (st := st) (e := e) (d := d + 1) ha6 hEt
          have a2 := kt_m_next (E := va_up E t (e + 1)) (N := va_up N t (st t)) (st := st) (e := e + 1) (d := d + 1 + 1) p1 (by rw [up_n hst]; exact p2) (by rw [up_n hst]; exact hNs.1)
          rw [up_n hst] at a2
          omega
        · intro v hv hVv
          by_cases hvt : v = t
          · rw [hvt, up_s]; omega
          · rw [up_n hvt]; exact hV v hv hVv
      · exact ot_f (fun h => hEt ((nI_eq (by have := hA.1 t ha6; omega) (by decide)).mp (h.trans nI_0.symm))) (hj139 (fun _ => hEt))
end KTF
