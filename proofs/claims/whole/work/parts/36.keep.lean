/-! PURE: what is dropped, round by round -/
/-- the graph, as both sides mean it: aj v are the moves that begin in v -/
def gr_A (n m : Nat) (aj : Nat → List Nat) (fr to : Nat → Nat) : Prop := (∀ v j, v < n → (j ∈ aj v ↔ j < m ∧ fr j = v)) ∧ ∀ j, j < m → fr j < n ∧ to j < n
section KP
variable {n m : Nat} {aj : Nat → List Nat} {fr to st : Nat → Nat} {lb hw : Nat → Int32} {gfr gto glb gout gst gab kc kn : Nat → Int32} {ch : Nat → Prop} {K od : Nat → Nat} {f c : Nat} {sz lw al ins gr : Nat → Int32}
theorem ed_iff (hg : gc_R n m aj to st gto gout gst) (ha : gr_A n m aj fr to) (hc : ∀ v, ch v → v < n) {u v : Nat} : tj_E n ch st (kt_t to gout) u v ↔ fp_E m fr to ch u v := by
  constructor
  · rintro ⟨h1, h2, h3, h4, j, j1, j2, j3⟩
    obtain ⟨a, a1, a2, a3, a4, a5, a6⟩ := kt_place hg h1 j1 j2
    have := (ha.1 u a h1).mp a1
    exact ⟨h3, h4, a, this.1, this.2, by rw [← a4, j3]⟩
  · rintro ⟨h3, h4, a, a1, a2, a3⟩
    have h1 := hc u h3
    have hm := (ha.1 u a h1).mpr ⟨a1, a2⟩
    obtain ⟨i, hi, e⟩ := List.getElem_of_mem hm
    have h6 := hg.2.2.2.2.2.1 u h1
    have hpl := kt_place hg h1 (j := st u + i) (by omega) (by omega)
    obtain ⟨b, b1, b2, b3, b4, b5, b6⟩ := hpl
    have h7 := hg.2.2.2.2.2.2.1 u i a h1 (by rw [List.getElem?_eq_getElem hi, e])
    have : a = b := (nI_eq (by have := hg.2.1; omega) (by have := hg.2.1; omega)).mp (h7.symm.trans b3)
    exact ⟨h1, hc v h4, h3, h4, st u + i, by omega, by omega, by rw [b4, ← this]; exact a3⟩
theorem rc_iff (hg : gc_R n m aj to st gto gout gst) (ha : gr_A n m aj fr to) (hc : ∀ v, ch v → v < n) {u v : Nat} : rc_R (tj_E n ch st (kt_t to gout)) u v ↔ rc_R (fp_E m fr to ch) u v :=
  ⟨rc_mono (fun _ _ h => (ed_iff hg ha hc).mp h), rc_mono (fun _ _ h => (ed_iff hg ha hc).mpr h)⟩
/-- the numbers of the knots, as the class has them -/
def kn_P (n m : Nat) (fr to : Nat → Nat) (ch : Nat → Prop) (K od : Nat → Nat) (f c : Nat) : Prop :=
  (∀ v, v < n → (K v ≠ 0 ↔ ch v)) ∧ (∀ v, v < n → K v ≤ f) ∧ (∀ u v, ch u → ch v → (K u = K v ↔ fp_C m fr to ch u v)) ∧ (∀ q, q < f → ∃ v, v < n ∧ K v = q + 1) ∧
  (∀ i, i < c → od i < n ∧ ch (od i)) ∧ (∀ i j, i < j → j < c → od i ≠ od j ∧ K (od i) ≤ K (od j)) ∧ (∀ v, v < n → ch v → ∃ i, i < c ∧ od i = v) ∧ (∀ u v, fp_E m fr to ch u v → K v ≤ K u) ∧ f ≤ n ∧ c ≤ n
theorem kn_of (hg : gc_R n m aj to st gto gout gst) (ha : gr_A n m aj fr to) (hc : ∀ v, ch v → v < n) (h : kf_P n ch (tj_E n ch st (kt_t to gout)) K od f c) : kn_P n m fr to ch K od f c := by
  obtain ⟨h1, h2, h3, h4, h5, h6, h7, h8, h9, h10⟩ := h
  refine ⟨h1, h2, fun u v hu hv => ?_, h4, h5, h6, h7, fun u v he => h8 u v ((ed_iff hg ha hc).mpr he), h9, h10⟩
  rw [h3 u v (hc u hu) (hc v hv) hu hv, rc_iff hg ha hc, rc_iff hg ha hc]
  exact ⟨fun h => ⟨hu, hv, h.1, h.2⟩, fun h => ⟨h.2.2.1, h.2.2.2⟩⟩
theorem msk {a x c : Int32} : ((a &&& x) &&& (c ^^^ (-1))) = 0 ↔ ∀ b, b < 32 → bt a b = true → bt x b = true → bt c b = true := by
  rw [b_zero]
  constructor
  · intro h b hb h1 h2
    have := h b hb
    rw [b_and, b_and, b_not c hb, h1, h2] at this
    cases hc : bt c b with
    | true => rfl
    | false => rw [hc] at this; cases this
  · intro h b hb
    rw [b_and, b_and, b_not c hb]
    cases h1 : bt a b with
    | false => rfl
    | true =>
      cases h2 : bt x b with
      | false => rfl
      | true => rw [h b hb h1 h2]; rfl
/-- the bits of the labels that are able, and of the labels of a kind -/
def ab_R (n m : Nat) (fr : Nat → Nat) (lb gab : Nat → Int32) : Prop := ∀ v b, v < n → b < 32 → (bt (gab v) b = true ↔ fp_ab m fr lb b v)
def mk_R (hw : Nat → Int32) (k x : Int32) : Prop := ∀ b, b < 32 → (bt x b = true ↔ b < 16 ∧ hw b = k)
theorem un_is (hn : n ≤ 200) (ha : gr_A n m aj fr to) (hc : ∀ v, ch v → v < n) (hK : kn_P n m fr to ch K od f c) (hkn : ∀ v, v < n → kn v = if K v = 0 then -1 else nI (K v - 1)) (hs : su_P n m fr to lb gab K f sz lw al ins gr) (hab : ab_R n m fr lb gab) {wk sg : Int32} (hw1 : mk_R hw 1 wk) (hw2 : mk_R hw 2 sg) {s : Nat} (hcs : ch s) :
    ot_T (fn_X4_isUnfair gab kn al ins gr (nI s) wk sg) (fun r => (r = 1 ∧ fp_U m fr to lb hw ch s) ∨ (r = 0 ∧ ¬ fp_U m fr to lb hw ch s)) := by
  obtain ⟨k1, k2, k3, k4, k5, k6, k7, k8, k9, k10⟩ := hK
  obtain ⟨s1, s2, s3, s4, s5⟩ := hs
  have hsn := hc s hcs
  have hKs := (k1 s hsn).mpr hcs
  have hKf := k2 s hsn
  obtain ⟨q, hq⟩ : ∃ q, K s = q + 1 := ⟨K s - 1, by omega⟩
  have hkns : kn s = nI q := by rw [hkn s hsn]; simp only [hKs, if_false]; rw [hq]; rfl
  have hC : ∀ v, v < n → (K v = q + 1 ↔ fp_C m fr to ch s v) := by
    intro v hv
    constructor
    · intro h
      have hcv := (k1 v hv).mp (by omega)
      exact (k3 s v hcs hcv).mp (hq.trans h.symm)
    · intro h
      have := (k3 s v hcs h.2.1).mpr h
      omega
  have hkq : ∀ j, kq_in m fr to K q j ↔ (j < m ∧ fp_C m fr to ch s (fr j) ∧ fp_C m fr to ch s (to j)) := by
    intro j
    constructor
    · rintro ⟨a1, a2, a3⟩
      exact ⟨a1, (hC _ (ha.2 j a1).1).mp a2, (hC _ (ha.2 j a1).2).mp a3⟩
    · rintro ⟨a1, a2, a3⟩
      exact ⟨a1, (hC _ (ha.2 j a1).1).mpr a2, (hC _ (ha.2 j a1).2).mpr a3⟩
  have hin : fp_in m fr to (fp_C m fr to ch s) ↔ ∃ j, kq_in m fr to K q j := ⟨fun ⟨j, h⟩ => ⟨j, (hkq j).mpr h⟩, fun ⟨j, h⟩ => ⟨j, (hkq j).mp h⟩⟩
  have htk : ∀ b, b < 32 → (bt (ins q) b = true ↔ fp_tk m fr to lb (fp_C m fr to ch s) b) := by
    intro b hb
    rw [s4 q b (by omega) hb]
    exact ⟨fun ⟨j, h1, h2⟩ => ⟨j, ((hkq j).mp h1).1, ((hkq j).mp h1).2.1, ((hkq j).mp h1).2.2, h2⟩, fun ⟨j, h1, h2, h3, h4⟩ => ⟨j, (hkq j).mpr ⟨h1, h2, h3⟩, h4⟩⟩
  have hall : ∀ b, b < 32 → (bt (al q) b = true ↔ ∀ v, fp_C m fr to ch s v → fp_ab m fr lb b v) := by
    intro b hb
    rw [s3 q b (by omega) hb]
    constructor
    · intro h v hv
      have hvn := hc v hv.2.1
      exact (hab v b hvn hb).mp (h v hvn ((hC v hvn).mpr hv))
    · intro h v hvn hv
      exact (hab v b hvn hb).mpr (h v ((hC v hvn).mp hv))
  unfold fn_X4_isUnfair
  simp only [cl_nI (show s < 2 ^ 31 by omega), hkns, cl_nI (show q < 2 ^ 31 by omega)]
  refine ot_i (in_nI (by omega) (by decide)) (ot_i (in_nI (by omega) (by decide)) (ot_i (in_nI (by omega) (by decide)) ?_))
  rcases s5 q (by omega) with ⟨g1, g2⟩ | ⟨g1, g2⟩
  · refine ot_f (by rw [g1]; decide) (ot_i (in_nI (by omega) (by decide)) ?_)
    have hweak : ((wk &&& al q) &&& (ins q ^^^ (-1))) = 0 ↔ ¬ ∃ l, l < 16 ∧ hw l = 1 ∧ (∀ v, fp_C m fr to ch s v → fp_ab m fr lb l v) ∧ ¬ fp_tk m fr to lb (fp_C m fr to ch s) l := by
      rw [msk]
      constructor
      · rintro h ⟨l, l1, l2, l3, l4⟩
        exact l4 ((htk l (by omega)).mp (h l (by omega) ((hw1 l (by omega)).mpr ⟨l1, l2⟩) ((hall l (by omega)).mpr l3)))
      · intro h b hb h1 h2
        obtain ⟨b1, b2⟩ := (hw1 b hb).mp h1
        exact (htk b hb).mpr (Classical.byContradiction (fun h3 => h ⟨b, b1, b2, (hall b hb).mp h2, h3⟩))
    have hstrong : ((sg &&& gab s) &&& (ins q ^^^ (-1))) = 0 ↔ ¬ ∃ l, l < 16 ∧ hw l = 2 ∧ fp_ab m fr lb l s ∧ ¬ fp_tk m fr to lb (fp_C m fr to ch s) l := by
      rw [msk]
      constructor
      · rintro h ⟨l, l1, l2, l3, l4⟩
        exact l4 ((htk l (by omega)).mp (h l (by omega) ((hw2 l (by omega)).mpr ⟨l1, l2⟩) ((hab s l hsn (by omega)).mpr l3)))
      · intro h b hb h1 h2
        obtain ⟨b1, b2⟩ := (hw2 b hb).mp h1
        exact (htk b hb).mpr (Classical.byContradiction (fun h3 => h ⟨b, b1, b2, (hab s b hsn hb).mp h2, h3⟩))
    refine ot_if (fun h1 => ?_) (fun h1 => ot_s (Or.inl ⟨rfl, Or.inr (Or.inl (Classical.byContradiction (fun h => h1 (hweak.mpr h))))⟩))
    refine ot_i (in_nI (by omega) (by decide)) (ot_if (fun h2 => ot_s (Or.inr ⟨rfl, ?_⟩)) (fun h2 => ot_s (Or.inl ⟨rfl, Or.inr (Or.inr (Classical.byContradiction (fun h => h2 (hstrong.mpr h))))⟩)))
    rintro (h | h | h)
    · exact h (hin.mpr g2)
    · exact hweak.mp h1 h
    · exact hstrong.mp h2 h
  · exact ot_t g1 (ot_s (Or.inl ⟨rfl, Or.inl (fun h => g2 (hin.mp h))⟩))
end KP
