/-! PURE: knots by one walk (Tarjan's way), over places of arrays.
n states, ch the chosen ones, the moves of v stand at the places st v .. st (v+1) - 1, tg their targets.
e entered so far, E when (0: not yet), L the low marks, N the next place, K the knot + 1 (0: none yet), pa 0 .. d-1 the path, op 0 .. k-1 the open ones, od 0 .. c-1 the closed ones in their order, f knots found. -/
def tj_E (n : Nat) (ch : Nat → Prop) (st tg : Nat → Nat) (u v : Nat) : Prop := u < n ∧ v < n ∧ ch u ∧ ch v ∧ ∃ j, st u ≤ j ∧ j < st (u + 1) ∧ tg j = v
def tj_G (n : Nat) (st tg : Nat → Nat) : Prop := (∀ v, v < n → st v ≤ st (v + 1)) ∧ ∀ v j, v < n → st v ≤ j → j < st (v + 1) → tg j < n
def tj_A (n : Nat) (ch : Nat → Prop) (e : Nat) (E : Nat → Nat) : Prop :=
  (∀ v, v < n → E v ≤ e) ∧ (∀ x, 0 < x → x ≤ e → ∃ v, v < n ∧ E v = x) ∧ (∀ v, v < n → E v ≠ 0 → ch v) ∧ (∀ u v, u < n → v < n → E u ≠ 0 → E u = E v → u = v)
def tj_B (n : Nat) (E K : Nat → Nat) (k : Nat) (op : Nat → Nat) : Prop :=
  (∀ i, i < k → op i < n ∧ E (op i) ≠ 0 ∧ K (op i) = 0) ∧ (∀ i j, i < j → j < k → E (op i) < E (op j)) ∧ (∀ v, v < n → E v ≠ 0 → K v = 0 → ∃ i, i < k ∧ op i = v)
def tj_C (n : Nat) (E K : Nat → Nat) (d : Nat) (pa : Nat → Nat) : Prop :=
  (∀ i, i < d → pa i < n ∧ E (pa i) ≠ 0 ∧ K (pa i) = 0) ∧ (∀ i j, i < j → j < d → E (pa i) < E (pa j))
def tj_N (n : Nat) (ch : Nat → Prop) (st tg : Nat → Nat) (E N : Nat → Nat) (d : Nat) (pa : Nat → Nat) : Prop :=
  (∀ v, v < n → E v ≠ 0 → st v ≤ N v ∧ N v ≤ st (v + 1)) ∧ (∀ v, v < n → E v ≠ 0 → (∀ i, i < d → pa i ≠ v) → N v = st (v + 1)) ∧ (∀ v j, v < n → E v ≠ 0 → st v ≤ j → j < N v → ch (tg j) → E (tg j) ≠ 0)
def tj_K (n : Nat) (ch : Nat → Prop) (st tg : Nat → Nat) (E K : Nat → Nat) : Prop :=
  (∀ v, v < n → K v ≠ 0 → E v ≠ 0) ∧ (∀ u v, K u ≠ 0 → tj_E n ch st tg u v → K v ≠ 0)
def tj_L (n : Nat) (ch : Nat → Prop) (st tg : Nat → Nat) (E L N K : Nat → Nat) (d : Nat) (pa : Nat → Nat) : Prop :=
  (∀ v, v < n → E v ≠ 0 → K v = 0 → L v ≤ E v) ∧
  (∀ v, v < n → E v ≠ 0 → K v = 0 → ∃ w, w < n ∧ E w ≠ 0 ∧ K w = 0 ∧ E w = L v ∧ rc_R (tj_E n ch st tg) v w) ∧
  (∀ v j, v < n → E v ≠ 0 → K v = 0 → st v ≤ j → j < N v → ch (tg j) → K (tg j) = 0 → L v ≤ E (tg j)) ∧
  (∀ v, v < n → E v ≠ 0 → K v = 0 → (∀ i, i < d → pa i ≠ v) → L v < E v) ∧
  (∀ v i, v < n → E v ≠ 0 → K v = 0 → i < d → E (pa i) ≤ E v → (i + 1 < d → E v < E (pa (i + 1))) → L (pa i) ≤ L v)
def tj_Q (n : Nat) (ch : Nat → Prop) (st tg : Nat → Nat) (E K : Nat → Nat) (d : Nat) (pa : Nat → Nat) : Prop :=
  (∀ i w, i < d → w < n → E w ≠ 0 → K w = 0 → E (pa i) ≤ E w → rc_R (tj_E n ch st tg) (pa i) w) ∧ (∀ v, v < n → E v ≠ 0 → K v = 0 → 0 < d ∧ E (pa 0) ≤ E v)
def tj_S (n : Nat) (ch : Nat → Prop) (st tg : Nat → Nat) (K : Nat → Nat) (c : Nat) (od : Nat → Nat) (f : Nat) : Prop :=
  (∀ v, v < n → K v ≤ f) ∧
  (∀ u v, u < n → v < n → K u ≠ 0 → K v ≠ 0 → (K u = K v ↔ rc_R (tj_E n ch st tg) u v ∧ rc_R (tj_E n ch st tg) v u)) ∧
  (∀ q, q < f → ∃ v, v < n ∧ K v = q + 1) ∧
  (∀ i, i < c → od i < n ∧ K (od i) ≠ 0) ∧
  (∀ i j, i < j → j < c → od i ≠ od j ∧ K (od i) ≤ K (od j)) ∧
  (∀ v, v < n → K v ≠ 0 → ∃ i, i < c ∧ od i = v) ∧
  (∀ u v, K u ≠ 0 → tj_E n ch st tg u v → K v ≤ K u)
def tj_I (n : Nat) (ch : Nat → Prop) (st tg : Nat → Nat) (e : Nat) (E L N K : Nat → Nat) (d : Nat) (pa : Nat → Nat) (k : Nat) (op : Nat → Nat) (c : Nat) (od : Nat → Nat) (f : Nat) : Prop :=
  tj_A n ch e E ∧ tj_B n E K k op ∧ tj_C n E K d pa ∧ tj_N n ch st tg E N d pa ∧ tj_K n ch st tg E K ∧ tj_L n ch st tg E L N K d pa ∧ tj_Q n ch st tg E K d pa ∧ tj_S n ch st tg K c od f

section TJ
variable {n : Nat} {ch : Nat → Prop} {st tg : Nat → Nat} {e : Nat} {E L N K : Nat → Nat} {d : Nat} {pa : Nat → Nat} {k : Nat} {op : Nat → Nat} {c : Nat} {od : Nat → Nat} {f : Nat}
/-! entering t -/
theorem tj_A_enter {t : Nat} (h : tj_A n ch e E) (ht : t < n) (hc : ch t) (h0 : E t = 0) : tj_A n ch (e + 1) (va_up E t (e + 1)) := by
  obtain ⟨a1, e1, a2, a3⟩ := h
  refine ⟨?_, ?_, ?_, ?_⟩
  · intro v hv
    by_cases hvt : v = t
    · rw [hvt, up_s]; exact Nat.le_refl _
    · rw [up_n hvt]; have := a1 v hv; omega
  · intro x hx1 hx2
    by_cases hxe : x = e + 1
    · exact ⟨t, ht, by rw [up_s, hxe]⟩
    · obtain ⟨v, hv, ev⟩ := e1 x hx1 (by omega)
      have hvt : v ≠ t := fun h => by rw [h, h0] at ev; omega
      exact ⟨v, hv, by rw [up_n hvt]; exact ev⟩
  · intro v hv hE
    by_cases hvt : v = t
    · rw [hvt]; exact hc
    · rw [up_n hvt] at hE; exact a2 v hv hE
  · intro u v hu hv hE he
    by_cases hut : u = t
    · by_cases hvt : v = t
      · rw [hut, hvt]
      · rw [hut, up_s, up_n hvt] at he
        have := a1 v hv
        omega
    · by_cases hvt : v = t
      · rw [hvt, up_s, up_n hut] at he
        have := a1 u hu
        omega
      · rw [up_n hut] at hE he
        rw [up_n hvt] at he
        exact a3 u v hu hv hE he
theorem tj_B_enter {t : Nat} (hA : tj_A n ch e E) (h : tj_B n E K k op) (ht : t < n) (h0 : E t = 0) (hk : K t = 0) : tj_B n (va_up E t (e + 1)) K (k + 1) (va_up op k t) := by
  obtain ⟨a1, e1, a2, a3⟩ := hA
  obtain ⟨b1, b2, b3⟩ := h
  have hne : ∀ i, i < k → op i ≠ t := fun i hi h => (b1 i hi).2.1 (h ▸ h0)
  refine ⟨?_, ?_, ?_⟩
  · intro i hi
    by_cases hik : i = k
    · rw [hik, up_s, up_s]; exact ⟨ht, by omega, hk⟩
    · rw [up_n hik, up_n (hne i (by omega))]; exact b1 i (by omega)
  · intro i j hij hj
    rw [up_n (show i ≠ k by omega), up_n (hne i (by omega))]
    by_cases hjk : j = k
    · rw [hjk, up_s, up_s]
      have := a1 (op i) (b1 i (by omega)).1
      omega
    · rw [up_n hjk, up_n (hne j (by omega))]; exact b2 i j hij (by omega)
  · intro v hv hE hK
    by_cases hvt : v = t
    · exact ⟨k, by omega, by rw [up_s, hvt]⟩
    · rw [up_n hvt] at hE
      obtain ⟨i, hi, e1⟩ := b3 v hv hE hK
      exact ⟨i, by omega, by rw [up_n (by omega)]; exact e1⟩
theorem tj_C_enter {t : Nat} (hA : tj_A n ch e E) (h : tj_C n E K d pa) (ht : t < n) (h0 : E t = 0) (hk : K t = 0) : tj_C n (va_up E t (e + 1)) K (d + 1) (va_up pa d t) := by
  obtain ⟨a1, e1, a2, a3⟩ := hA
  obtain ⟨c1, c2⟩ := h
  have hne : ∀ i, i < d → pa i ≠ t := fun i hi h => (c1 i hi).2.1 (h ▸ h0)
  refine ⟨?_, ?_⟩
  · intro i hi
    by_cases hik : i = d
    · rw [hik, up_s, up_s]; exact ⟨ht, by omega, hk⟩
    · rw [up_n hik, up_n (hne i (by omega))]; exact c1 i (by omega)
  · intro i j hij hj
    rw [up_n (show i ≠ d by omega), up_n (hne i (by omega))]
    by_cases hjk : j = d
    · rw [hjk, up_s, up_s]
      have := a1 (pa i) (c1 i (by omega)).1
      omega
    · rw [up_n hjk, up_n (hne j (by omega))]; exact c2 i j hij (by omega)
theorem tj_N_enter {t : Nat} (hg : tj_G n st tg) (h : tj_N n ch st tg E N d pa) (ht : t < n) (h0 : E t = 0) : tj_N n ch st tg (va_up E t (e + 1)) (va_up N t (st t)) (d + 1) (va_up pa d t) := by
  obtain ⟨g1, g2⟩ := hg
  obtain ⟨n1, n2, p1⟩ := h
  refine ⟨?_, ?_, ?_⟩
  · grind [va_up]
  · intro v hv hE hp
    have hvt : v ≠ t := fun h => hp d (by omega) (by rw [up_s, h])
    rw [up_n hvt] at hE ⊢
    exact n2 v hv hE (fun i hi => by have := hp i (by omega); rwa [up_n (by omega)] at this)
  · intro v j hv hE hj1 hj2 hcj
    by_cases hvt : v = t
    · subst hvt; rw [up_s] at hj2; omega
    · rw [up_n hvt] at hE hj2
      have := p1 v j hv hE hj1 hj2 hcj
      grind [va_up]
theorem tj_K_enter {t : Nat} (h : tj_K n ch st tg E K) : tj_K n ch st tg (va_up E t (e + 1)) K := by
  obtain ⟨k1, k2⟩ := h
  refine ⟨?_, k2⟩
  intro v hv hk
  have := k1 v hv hk
  grind [va_up]
theorem tj_L_enter {t : Nat} (hA : tj_A n ch e E) (hC : tj_C n E K d pa) (hN : tj_N n ch st tg E N d pa) (h : tj_L n ch st tg E L N K d pa) (hg : tj_G n st tg) (ht : t < n) (h0 : E t = 0) (hk : K t = 0) :
    tj_L n ch st tg (va_up E t (e + 1)) (va_up L t (e + 1)) (va_up N t (st t)) K (d + 1) (va_up pa d t) := by
  obtain ⟨a1, e1, a2, a3⟩ := hA
  obtain ⟨c1, c2⟩ := hC
  obtain ⟨n1, n2, p1⟩ := hN
  obtain ⟨l1, l2, l3, m1, m2⟩ := h
  refine ⟨?_, ?_, ?_, ?_, ?_⟩
  · grind [va_up]
  · intro v hv hE hK
    by_cases hvt : v = t
    · subst hvt
      exact ⟨v, hv, hE, hK, by rw [up_s, up_s], rc_refl⟩
    · rw [up_n hvt] at hE
      obtain ⟨w, w1, w2, w3, w4, w5⟩ := l2 v hv hE hK
      have hwt : w ≠ t := fun h => w2 (h ▸ h0)
      exact ⟨w, w1, by rw [up_n hwt]; exact w2, w3, by rw [up_n hwt, up_n hvt]; exact w4, w5⟩
  · intro v j hv hE hK hj1 hj2 hcj hKj
    by_cases hvt : v = t
    · subst hvt; rw [up_s] at hj2; omega
    · rw [up_n hvt] at hE hj2 ⊢
      have h1 := p1 v j hv hE hj1 hj2 hcj
      have hjt : tg j ≠ t := fun h => h1 (h ▸ h0)
      rw [up_n hjt]
      exact l3 v j hv hE hK hj1 hj2 hcj hKj
  · intro v hv hE hK hp
    have hvt : v ≠ t := fun h => hp d (by omega) (by rw [up_s, h])
    rw [up_n hvt] at hE ⊢
    rw [up_n hvt]
    exact m1 v hv hE hK (fun i hi => by have := hp i (by omega); rwa [up_n (by omega)] at this)
  · intro v i hv hE hK hi h1 h2
    by_cases hid : i = d
    · subst hid
      rw [up_s, up_s] at h1
      by_cases hvt : v = t
      · subst hvt; rw [up_s]; exact Nat.le_refl _
      · rw [up_n hvt] at h1
        have := a1 v hv
        omega
    · have hi' : i < d := by omega
      have hpi := c1 i hi'
      have hpt : pa i ≠ t := fun h => hpi.2.1 (h ▸ h0)
      rw [up_n hid] at h1 ⊢
      rw [up_n hpt] at h1 ⊢
      by_cases hvt : v = t
      · exfalso
        have h3 := h2 (by omega)
        subst hvt
        rw [up_s] at h3
        by_cases hid2 : i + 1 = d
        · rw [hid2, up_s, up_s] at h3; omega
        · rw [up_n hid2] at h3
          have hp2 := c1 (i + 1) (by omega)
          have : pa (i + 1) ≠ v := fun h => hp2.2.1 (h ▸ h0)
          rw [up_n this] at h3
          have := a1 (pa (i + 1)) hp2.1
          omega
      · rw [up_n hvt] at hE h1 ⊢
        refine m2 v i hv hE hK hi' h1 (fun h3 => ?_)
        have h4 := h2 (by omega)
        have hp2 := c1 (i + 1) h3
        have : pa (i + 1) ≠ t := fun h => hp2.2.1 (h ▸ h0)
        rwa [up_n hvt, up_n (show i + 1 ≠ d by omega), up_n this] at h4
theorem tj_Q_enter {t : Nat} (hA : tj_A n ch e E) (hC : tj_C n E K d pa) (h : tj_Q n ch st tg E K d pa) (ht : t < n) (h0 : E t = 0) (hk : K t = 0) (hr : ∀ i, i < d → rc_R (tj_E n ch st tg) (pa i) t) :
    tj_Q n ch st tg (va_up E t (e + 1)) K (d + 1) (va_up pa d t) := by
  obtain ⟨a1, e1, a2, a3⟩ := hA
  obtain ⟨c1, c2⟩ := hC
  obtain ⟨r1, r2⟩ := h
  refine ⟨?_, ?_⟩
  · intro i w hi hw hE hK h1
    by_cases hid : i = d
    · subst hid
      rw [up_s] at h1 ⊢
      rw [up_s] at h1
      by_cases hwt : w = t
      · rw [hwt]; exact rc_refl
      · rw [up_n hwt] at h1
        have := a1 w hw
        omega
    · have hi' : i < d := by omega
      have hpi := c1 i hi'
      have hpt : pa i ≠ t := fun h => hpi.2.1 (h ▸ h0)
      rw [up_n hid] at h1 ⊢
      rw [up_n hpt] at h1
      by_cases hwt : w = t
      · rw [hwt]; exact hr i hi'
      · rw [up_n hwt] at hE h1
        exact r1 i w hi' hw hE hK h1
  · intro v hv hE hK
    refine ⟨by omega, ?_⟩
    by_cases hvt : v = t
    · subst hvt
      rw [up_s]
      by_cases hd : (0 : Nat) = d
      · subst hd; rw [up_s, up_s]; exact Nat.le_refl _
      · rw [up_n hd]
        have hp := c1 0 (by omega)
        have : pa 0 ≠ v := fun h => hp.2.1 (h ▸ h0)
        rw [up_n this]
        have := a1 (pa 0) hp.1
        omega
    · rw [up_n hvt] at hE ⊢
      obtain ⟨hd, h1⟩ := r2 v hv hE hK
      have hp := c1 0 hd
      have : pa 0 ≠ t := fun h => hp.2.1 (h ▸ h0)
      rw [up_n (show (0 : Nat) ≠ d by omega), up_n this]
      exact h1
theorem tj_enter {t : Nat} (hg : tj_G n st tg) (h : tj_I n ch st tg e E L N K d pa k op c od f) (ht : t < n) (hc : ch t) (h0 : E t = 0) (hr : ∀ i, i < d → rc_R (tj_E n ch st tg) (pa i) t) :
    tj_I n ch st tg (e + 1) (va_up E t (e + 1)) (va_up L t (e + 1)) (va_up N t (st t)) K (d + 1) (va_up pa d t) (k + 1) (va_up op k t) c od f := by
  obtain ⟨hA, hB, hC, hN, hK, hL, hQ, hS⟩ := h
  have hk : K t = 0 := by
    rcases Nat.eq_zero_or_pos (K t) with q | q
    · exact q
    · exact absurd h0 (hK.1 t ht (by omega))
  exact ⟨tj_A_enter hA ht hc h0, tj_B_enter hA hB ht h0 hk, tj_C_enter hA hC ht h0 hk, tj_N_enter hg hN ht h0, tj_K_enter hK, tj_L_enter hA hC hN hL hg ht h0 hk, tj_Q_enter hA hC hQ ht h0 hk hr, hS⟩
/-! one place further, at a state of the path -/
theorem tj_next {s : Nat} (h : tj_I n ch st tg e E L N K d pa k op c od f) (hg : tj_G n st tg) (i : Nat) (hi : i < d) (hs : pa i = s) (hj : N s < st (s + 1)) (h1 : ch (tg (N s)) → E (tg (N s)) ≠ 0) (h2 : ch (tg (N s)) → K (tg (N s)) = 0 → L s ≤ E (tg (N s))) :
    tj_I n ch st tg e E L (va_up N s (N s + 1)) K d pa k op c od f := by
  obtain ⟨hA, hB, hC, ⟨n1, n2, p1⟩, hK, ⟨l1, l2, l3, m1, m2⟩, hQ, hS⟩ := h
  refine ⟨hA, hB, hC, ⟨?_, ?_, ?_⟩, hK, ⟨l1, l2, ?_, m1, m2⟩, hQ, hS⟩
  · intro v hv hE
    have := n1 v hv hE
    by_cases hvs : v = s
    · subst hvs; rw [up_s]; omega
    · rw [up_n hvs]; exact this
  · intro v hv hE hp
    have hvs : v ≠ s := fun h => hp i hi (hs.trans h.symm)
    rw [up_n hvs]
    exact n2 v hv hE hp
  · intro v j hv hE hj1 hj2 hcj
    by_cases hvs : v = s
    · subst hvs
      rw [up_s] at hj2
      by_cases hjn : j = N v
      · subst hjn; exact h1 hcj
      · exact p1 v j hv hE hj1 (by omega) hcj
    · rw [up_n hvs] at hj2
      exact p1 v j hv hE hj1 hj2 hcj
  · intro v j hv hE hKv hj1 hj2 hcj hKj
    by_cases hvs : v = s
    · subst hvs
      rw [up_s] at hj2
      by_cases hjn : j = N v
      · subst hjn; exact h2 hcj hKj
      · exact l3 v j hv hE hKv hj1 (by omega) hcj hKj
    · rw [up_n hvs] at hj2
      exact l3 v j hv hE hKv hj1 hj2 hcj hKj
/-! a lower mark at the path's last state -/
theorem tj_lower {x : Nat} (h : tj_I n ch st tg e E L N K (d + 1) pa k op c od f) (hx : x ≤ L (pa d)) (hw : ∃ w, w < n ∧ E w ≠ 0 ∧ K w = 0 ∧ E w = x ∧ rc_R (tj_E n ch st tg) (pa d) w) :
    tj_I n ch st tg e E (va_up L (pa d) x) N K (d + 1) pa k op c od f := by
  obtain ⟨hA, hB, hC, hN, hK, ⟨l1, l2, l3, m1, m2⟩, hQ, hS⟩ := h
  have hle : ∀ v, va_up L (pa d) x v ≤ L v := by
    intro v
    by_cases hv : v = pa d
    · rw [hv, up_s]; exact hx
    · rw [up_n hv]; exact Nat.le_refl _
  refine ⟨hA, hB, hC, hN, hK, ⟨?_, ?_, ?_, ?_, ?_⟩, hQ, hS⟩
  · intro v hv hE hKv
    exact Nat.le_trans (hle v) (l1 v hv hE hKv)
  · intro v hv hE hKv
    by_cases hvs : v = pa d
    · subst hvs; rw [up_s]; exact hw
    · rw [up_n hvs]; exact l2 v hv hE hKv
  · intro v j hv hE hKv hj1 hj2 hcj hKj
    exact Nat.le_trans (hle v) (l3 v j hv hE hKv hj1 hj2 hcj hKj)
  · intro v hv hE hKv hp
    exact Nat.lt_of_le_of_lt (hle v) (m1 v hv hE hKv hp)
  · intro v i hv hE hKv hi h1 h2
    by_cases hvs : v = pa d
    · subst hvs
      by_cases hid : i = d
      · subst hid; exact Nat.le_refl _
      · exfalso
        have h3 := h2 (by omega)
        by_cases hid2 : i + 1 = d
        · rw [hid2] at h3; omega
        · have := hC.2 (i + 1) d (by omega) (by omega)
          omega
    · rw [up_n hvs]
      exact Nat.le_trans (hle _) (m2 v i hv hE hKv hi h1 h2)
end TJ
