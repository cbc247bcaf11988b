section KTE
variable {n m : Nat} {aj : Nat → List Nat} {to st : Nat → Nat} {gto gout gst : Nat → Int32} {ch : Nat → Prop} {kc : Nat → Int32}
variable {E L N K pa op od : Nat → Nat} {e d k c f : Nat} {xf xc xe xd xo : Int32} {kn or en lo nx pt ops : Nat → Int32}
/-- closing, where the state begins a knot -/
theorem kt_close (hg : gc_R n m aj to st gto gout gst) (hI : tj_I n ch st (kt_t to gout) e E L N K (d + 1) pa k op c od f) (hR : kt_R n E L N K pa op od e (d + 1) k c f xf xc xe xd xo kn or en lo nx pt ops) (hN1 : N (pa d) = st (pa d + 1)) :
    ot_T (fn_X1_closeKnotBegunBy xf xc xo kn or en lo ops (nI (pa d))) (fun r => ∃ K' od' k' c' f', (L (pa d) ≠ E (pa d) → K' = K ∧ od' = od ∧ k' = k ∧ c' = c ∧ f' = f) ∧ (L (pa d) = E (pa d) → tj_I n ch st (kt_t to gout) e E L N K' d pa k' op c' od' f') ∧
      kt_R n E L N K' pa op od' e (d + 1) k' c' f' r.1 r.2.1 xe xd r.2.2.1 r.2.2.2.1 r.2.2.2.2 en lo nx pt ops) := by
  classical
  obtain ⟨hA, hB, hC, hN, hK, hL, hQ, hS⟩ := id hI
  obtain ⟨⟨rfl, rfl, rfl, rfl, rfl⟩, h2, h3, h4, h5, h6, h7⟩ := id hR
  have hn := hg.1
  obtain ⟨p1, p2, p3⟩ := hC.1 d (by omega)
  have he := tj_e_le hA
  have hk := tj_k_le hA hB
  have hlo := (h4 _ p1 p2).1
  have hLE : L (pa d) ≤ E (pa d) := hL.1 _ p1 p2 p3
  have hEe : E (pa d) ≤ e := hA.1 _ p1
  unfold fn_X1_closeKnotBegunBy
  simp only [cl_nI (show pa d < 2 ^ 31 by omega), hlo, h3 _ p1]
  refine ot_i (in_nI (by omega) (by decide)) (ot_i (in_nI (by omega) (by decide)) ?_)
  by_cases hle : L (pa d) = E (pa d)
  · refine ot_t (by rw [hle]) ?_
    obtain ⟨i0, hi0, hop⟩ := hB.2.2 _ p1 p2 p3
    have hdist : ∀ i j, i < j → j < k → op i ≠ op j := fun i j hij hj h => by
      have := hB.2.1 i j hij hj
      rw [h] at this
      omega
    have hfn : f ≤ n := by
      have hc : ∀ q, ∃ v, q < f → v < n ∧ K v = q + 1 := fun q => by
        by_cases hq : q < f
        · obtain ⟨v, a1, a2⟩ := hS.2.2.1 q hq
          exact ⟨v, fun _ => ⟨a1, a2⟩⟩
        · exact ⟨0, fun h => absurd h hq⟩
      refine ph_le n f (fun q => Classical.choose (hc q)) (fun q hq => (Classical.choose_spec (hc q) hq).1) (fun i j hi hj hij => ?_)
      have a1 := (Classical.choose_spec (hc i) hi).2
      have a2 := (Classical.choose_spec (hc j) hj).2
      have hij : Classical.choose (hc i) = Classical.choose (hc j) := hij
      rw [hij] at a1
      omega
    -- the new knots and their order, as numbers
    have key := tj_close (K' := fun v => if ∃ i, i0 ≤ i ∧ i < k ∧ op i = v then f + 1 else K v) (od' := fun i => if i < c then od i else op (k - 1 - (i - c))) hI (kt_G hg) rfl hN1 hle hi0 hop
      (fun v _ h => by simp only [h, if_true]) (fun v _ h => by simp only [h, if_false]) (fun i hi => by simp only [hi, if_true]) (fun x hx1 hx2 => by
        have : ¬ c + (k - 1 - x) < c := by omega
        simp only [this, if_false]
        congr 1
        omega)
    have hcn := tj_c_le key.2.2.2.2.2.2.2
    refine ot_b (kt_pop (n := n) (kn := kn) (op := op) (s := pa d) (i0 := i0) (k := k) (c := c) (f := f) hn (fun i hi => ⟨(hB.1 i hi).1, by rw [h2 _ (hB.1 i hi).1, (hB.1 i hi).2.2]; rfl⟩) hdist h6 hi0 hop (by omega) (by omega) (by omega)) ?_
    rintro ⟨xc', xo', kn', or'⟩ ⟨q1, q2, q3, q4, q5, q6⟩
    dsimp only at q1 q2 q3 q4 q5 q6
    refine ot_s ⟨_, _, i0, c + (k - i0), f + 1, fun h => absurd hle h, fun _ => key, ⟨⟨nI_1 f, q1, rfl, rfl, q2⟩, ?_, h3, h4, h5, fun i hi => h6 i (by omega), ?_⟩⟩
    · intro v hv
      show kn' v = _
      by_cases hin : ∃ i, i0 ≤ i ∧ i < k ∧ op i = v
      · rw [q3 v hv hin]
        simp only [hin, if_true]
        rfl
      · rw [q4 v hv hin, h2 v hv]
        simp only [hin, if_false]
    · intro i hi
      show or' i = _
      by_cases hic : i < c
      · rw [q5 i hic, h7 i hic]; simp only [hic, if_true]
      · have := q6 (k - 1 - (i - c)) (by omega) (by omega)
        rw [show c + (k - 1 - (k - 1 - (i - c))) = i by omega] at this
        rw [this]; simp only [hic, if_false]
  · refine ot_f (fun h => hle ((nI_eq (by omega) (by omega)).mp h)) (ot_s ?_)
    exact ⟨K, od, k, c, f, fun _ => ⟨rfl, rfl, rfl, rfl, rfl⟩, fun h => absurd h hle, hR⟩
/-- leaving, behind it -/
theorem kt_leave (hn : n ≤ 200) {K' od' : Nat → Nat} {k' c' f' : Nat} (hA : tj_A n ch e E) (hC : tj_C n E K (d + 1) pa) (hLo : ∀ v, v < n → E v ≠ 0 → K v = 0 → L v ≤ E v) (hR : kt_R n E L N K' pa op od' e (d + 1) k' c' f' xf xc xe xd xo kn or en lo nx pt ops) :
    ot_T (fn_X1_leave xd lo pt (nI (pa d))) (fun r => (∀ d', d = d' + 1 → kt_R n E (va_up L (pa d') (if L (pa d) < L (pa d') then L (pa d) else L (pa d'))) N K' pa op od' e d k' c' f' xf xc xe r.1 xo kn or en r.2 nx pt ops) ∧ (d = 0 → kt_R n E L N K' pa op od' e d k' c' f' xf xc xe r.1 xo kn or en r.2 nx pt ops)) := by
  obtain ⟨⟨rfl, rfl, rfl, rfl, rfl⟩, h2, h3, h4, h5, h6, h7⟩ := id hR
  have he := tj_e_le hA
  have hd := tj_d_le hA hC
  obtain ⟨p1, p2, p3⟩ := hC.1 d (by omega)
  have hEs := hA.1 _ p1
  have hLs := hLo _ p1 p2 p3
  unfold fn_X1_leave
  simp only [nI_pred, cl_nI (show pa d < 2 ^ 31 by omega), (h4 _ p1 p2).1]
  cases d with
  | zero =>
    refine ot_t (by rw [nI_0]; decide) (ot_s ⟨fun d' h => by omega, fun _ => ⟨⟨rfl, rfl, rfl, rfl, rfl⟩, h2, h3, h4, fun i hi => by omega, h6, h7⟩⟩)
  | succ d =>
    obtain ⟨r1, r2, r3⟩ := hC.1 d (by omega)
    have hEp := hA.1 _ r1
    have hLp := hLo _ r1 r2 r3
    refine ot_f (nI_0m (by omega) (by omega)) ?_
    simp only [nI_pred, cl_nI (show d < 2 ^ 31 by omega), h5 d (by omega)]
    refine ot_i (in_nI (by omega) (by decide)) (ot_i (in_nI (by omega) (by decide)) ?_)
    rw [kt_lower (v := pa d) (x := L (pa (d + 1))) (y := L (pa d)) (by omega) (by omega) (by omega) (h4 _ r1 r2).1]
    refine ot_b (ot_s (Q := fun z => z = _) rfl) (fun z hz => ?_)
    subst hz
    refine ot_s ⟨fun d' hd' => ?_, fun h => by omega⟩
    obtain rfl : d = d' := by omega
    refine ⟨⟨rfl, rfl, rfl, rfl, rfl⟩, h2, h3, fun v hv hE => ?_, fun i hi => h5 i (by omega), h6, h7⟩
    have := h4 v hv hE
    refine ⟨?_, this.2⟩
    show (if L (pa (d + 1)) < L (pa d) then upd lo (pa d) (nI (L (pa (d + 1)))) else lo) v = nI (va_up L (pa d) (if L (pa (d + 1)) < L (pa d) then L (pa (d + 1)) else L (pa d)) v)
    by_cases hlt : L (pa (d + 1)) < L (pa d)
    · simp only [hlt, if_true]
      by_cases hvp : v = pa d
      · rw [hvp, upd_s, up_s]
      · rw [upd_n hvp, up_n hvp]; exact this.1
    · simp only [hlt, if_false]
      by_cases hvp : v = pa d
      · rw [hvp, up_s]; rw [hvp] at this; exact this.1
      · rw [up_n hvp]; exact this.1
end KTE
