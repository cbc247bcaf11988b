section TJ2
variable {n : Nat} {ch : Nat → Prop} {st tg : Nat → Nat} {e : Nat} {E L N K : Nat → Nat} {d : Nat} {pa : Nat → Nat} {k : Nat} {op : Nat → Nat} {c : Nat} {od : Nat → Nat} {f : Nat}
/-! leaving the path's last state, which begins no knot -/
theorem tj_leave {x : Nat} (h : tj_I n ch st tg e E L N K (d + 2) pa k op c od f) (hN1 : N (pa (d + 1)) = st (pa (d + 1) + 1)) (hl : L (pa (d + 1)) < E (pa (d + 1))) (hx1 : x ≤ L (pa d)) (hx2 : x ≤ L (pa (d + 1))) (hx : x = L (pa d) ∨ x = L (pa (d + 1))) :
    tj_I n ch st tg e E (va_up L (pa d) x) N K (d + 1) pa k op c od f := by
  obtain ⟨hA, hB, ⟨c1, c2⟩, ⟨n1, n2, p1⟩, hK, ⟨l1, l2, l3, m1, m2⟩, ⟨r1, r2⟩, hS⟩ := h
  have hp := c1 d (by omega)
  have hs := c1 (d + 1) (by omega)
  have hps := c2 d (d + 1) (by omega) (by omega)
  have hne : pa (d + 1) ≠ pa d := fun h => by rw [h] at hps; omega
  have hle : ∀ v, va_up L (pa d) x v ≤ L v := by
    intro v
    by_cases hv : v = pa d
    · rw [hv, up_s]; exact hx1
    · rw [up_n hv]; exact Nat.le_refl _
  refine ⟨hA, hB, ⟨fun i hi => c1 i (by omega), fun i j hij hj => c2 i j hij (by omega)⟩, ⟨n1, ?_, p1⟩, hK, ⟨?_, ?_, ?_, ?_, ?_⟩, ⟨fun i w hi => r1 i w (by omega), fun v hv hE hK' => ⟨by omega, (r2 v hv hE hK').2⟩⟩, hS⟩
  · intro v hv hE hpv
    by_cases hvs : v = pa (d + 1)
    · rw [hvs]; exact hN1
    · refine n2 v hv hE (fun i hi => ?_)
      by_cases hid : i = d + 1
      · rw [hid]; exact fun h => hvs h.symm
      · exact hpv i (by omega)
  · intro v hv hE hKv
    exact Nat.le_trans (hle v) (l1 v hv hE hKv)
  · intro v hv hE hKv
    by_cases hvs : v = pa d
    · subst hvs
      rw [up_s]
      rcases hx with rfl | rfl
      · exact l2 _ hv hE hKv
      · obtain ⟨w, w1, w2, w3, w4, w5⟩ := l2 _ hs.1 hs.2.1 hs.2.2
        exact ⟨w, w1, w2, w3, w4, rc_trans (r1 d _ (by omega) hs.1 hs.2.1 hs.2.2 (Nat.le_of_lt hps)) w5⟩
    · rw [up_n hvs]; exact l2 v hv hE hKv
  · intro v j hv hE hKv hj1 hj2 hcj hKj
    exact Nat.le_trans (hle v) (l3 v j hv hE hKv hj1 hj2 hcj hKj)
  · intro v hv hE hKv hpv
    by_cases hvs : v = pa (d + 1)
    · subst hvs
      exact Nat.lt_of_le_of_lt (hle _) hl
    · refine Nat.lt_of_le_of_lt (hle v) (m1 v hv hE hKv (fun i hi => ?_))
      by_cases hid : i = d + 1
      · rw [hid]; exact fun h => hvs h.symm
      · exact hpv i (by omega)
  · intro v i hv hE hKv hi h1 h2
    by_cases hid : i = d
    · subst hid
      rw [up_s]
      by_cases hvs : v = pa i
      · rw [hvs, up_s]; exact Nat.le_refl _
      · rw [up_n hvs]
        by_cases hlt : E v < E (pa (i + 1))
        · exact Nat.le_trans hx1 (m2 v i hv hE hKv (by omega) h1 (fun _ => hlt))
        · exact Nat.le_trans hx2 (m2 v (i + 1) hv hE hKv (by omega) (by omega) (fun h => by omega))
    · have h3 := h2 (by omega)
      have hvs : v ≠ pa d := by
        intro h
        subst h
        by_cases hid2 : i + 1 = d
        · rw [hid2] at h3; omega
        · have := c2 (i + 1) d (by omega) (by omega)
          omega
      rw [up_n hvs]
      exact Nat.le_trans (hle _) (m2 v i hv hE hKv (by omega) h1 (fun _ => h3))
/-! closing the knot that the path's last state begins: the open ones from place i0 on -/
def tj_In (E K : Nat → Nat) (s v : Nat) : Prop := E v ≠ 0 ∧ K v = 0 ∧ E s ≤ E v
theorem tj_in_op {s i0 : Nat} (hB : tj_B n E K k op) (hi0 : i0 < k) (hs : op i0 = s) {v : Nat} (hv : v < n) : (∃ i, i0 ≤ i ∧ i < k ∧ op i = v) ↔ tj_In E K s v := by
  obtain ⟨b1, b2, b3⟩ := hB
  constructor
  · rintro ⟨i, h1, h2, rfl⟩
    refine ⟨(b1 i h2).2.1, (b1 i h2).2.2, ?_⟩
    rcases Nat.lt_or_ge i0 i with q | q
    · have := b2 i0 i q h2
      rw [hs] at this
      omega
    · have : i = i0 := by omega
      rw [this, hs]; exact Nat.le_refl _
  · rintro ⟨h1, h2, h3⟩
    obtain ⟨i, hi, e1⟩ := b3 v hv h1 h2
    refine ⟨i, ?_, hi, e1⟩
    rcases Nat.lt_or_ge i i0 with q | q
    · have := b2 i i0 q hi0
      rw [e1, hs] at this
      omega
    · exact q
theorem tj_close {s i0 : Nat} {K' od' : Nat → Nat} (h : tj_I n ch st tg e E L N K (d + 1) pa k op c od f) (hg : tj_G n st tg) (hs : pa d = s) (hN1 : N s = st (s + 1)) (hl : L s = E s) (hi0 : i0 < k) (hop : op i0 = s)
    (hK1 : ∀ v, v < n → (∃ i, i0 ≤ i ∧ i < k ∧ op i = v) → K' v = f + 1) (hK2 : ∀ v, v < n → ¬ (∃ i, i0 ≤ i ∧ i < k ∧ op i = v) → K' v = K v)
    (ho1 : ∀ i, i < c → od' i = od i) (ho2 : ∀ x, i0 ≤ x → x < k → od' (c + (k - 1 - x)) = op x) :
    tj_I n ch st tg e E L N K' d pa i0 op (c + (k - i0)) od' (f + 1) := by
  obtain ⟨hA, hB, ⟨c1, c2⟩, ⟨n1, n2, p1⟩, ⟨k1, k2⟩, ⟨l1, l2, l3, m1, m2⟩, ⟨r1, r2⟩, ⟨s1, s2, s3, o1, o2, o3, t1⟩⟩ := h
  have hin : ∀ {v : Nat}, v < n → ((∃ i, i0 ≤ i ∧ i < k ∧ op i = v) ↔ tj_In E K s v) := fun hv => tj_in_op hB hi0 hop hv
  have hKi : ∀ v, v < n → tj_In E K s v → K' v = f + 1 := fun v hv h => hK1 v hv ((hin hv).mpr h)
  have hKo : ∀ v, v < n → ¬ tj_In E K s v → K' v = K v := fun v hv h => hK2 v hv (fun q => h ((hin hv).mp q))
  obtain ⟨a1, e1, a2, a3⟩ := id hA
  obtain ⟨b1, b2, b3⟩ := id hB
  have hsn : s < n := hs ▸ (c1 d (by omega)).1
  have hsE : E s ≠ 0 := hs ▸ (c1 d (by omega)).2.1
  have hsK : K s = 0 := hs ▸ (c1 d (by omega)).2.2
  have hsI : tj_In E K s s := ⟨hsE, hsK, Nat.le_refl _⟩
  have F1 : ∀ v, v < n → tj_In E K s v → rc_R (tj_E n ch st tg) s v := fun v hv h => by
    have := r1 d v (by omega) hv h.1 h.2.1 (by rw [hs]; exact h.2.2)
    rwa [hs] at this
  have F2 : ∀ v, v < n → tj_In E K s v → E s ≤ L v := fun v hv h => by
    have := m2 v d hv h.1 h.2.1 (by omega) (by rw [hs]; exact h.2.2) (fun h => by omega)
    rw [hs, hl] at this
    exact this
  have hoff : ∀ v, v < n → tj_In E K s v → v ≠ s → ∀ i, i < d + 1 → pa i ≠ v := fun v hv h hne i hi hp => by
    have h3 := h.2.2
    by_cases hid : i = d
    · rw [hid, hs] at hp; exact hne hp.symm
    · have := c2 i d (by omega) (by omega)
      rw [hs, hp] at this
      omega
  have F3 : ∀ (x v : Nat), E v ≤ x → v < n → tj_In E K s v → rc_R (tj_E n ch st tg) v s := by
    intro x
    induction x with
    | zero => intro v h1 _ h2; exact absurd (Nat.le_zero.mp h1) h2.1
    | succ x ih =>
      intro v h1 hv h2
      by_cases hvs : v = s
      · rw [hvs]; exact rc_refl
      · have h3 := m1 v hv h2.1 h2.2.1 (hoff v hv h2 hvs)
        obtain ⟨w, w1, w2, w3, w4, w5⟩ := l2 v hv h2.1 h2.2.1
        have h4 := F2 v hv h2
        exact rc_trans w5 (ih w (by omega) w1 ⟨w2, w3, by omega⟩)
  have F3' : ∀ v, v < n → tj_In E K s v → rc_R (tj_E n ch st tg) v s := fun v hv h => F3 (E v) v (Nat.le_refl _) hv h
  have F4 : ∀ v w, tj_In E K s v → tj_E n ch st tg v w → tj_In E K s w ∨ K w ≠ 0 := by
    intro v w hv hE
    obtain ⟨hvn, hwn, hcv, hcw, j, j1, j2, j3⟩ := hE
    have hNv : N v = st (v + 1) := by
      by_cases hvs : v = s
      · rw [hvs]; exact hN1
      · exact n2 v hvn hv.1 (hoff v hvn hv hvs)
    have h1 := p1 v j hvn hv.1 j1 (by omega) (by rw [j3]; exact hcw)
    rw [j3] at h1
    by_cases hKw : K w = 0
    · have h2 := l3 v j hvn hv.1 hv.2.1 j1 (by omega) (by rw [j3]; exact hcw) (by rw [j3]; exact hKw)
      rw [j3] at h2
      exact Or.inl ⟨h1, hKw, Nat.le_trans (F2 v hvn hv) h2⟩
    · exact Or.inr hKw
  have hz : ∀ v, v < n → K' v = 0 → K v = 0 ∧ ¬ tj_In E K s v := fun v hv h => by
    by_cases hi : tj_In E K s v
    · rw [hKi v hv hi] at h; omega
    · rw [hKo v hv hi] at h; exact ⟨h, hi⟩
  have hnz : ∀ v, v < n → K' v ≠ 0 → tj_In E K s v ∨ (¬ tj_In E K s v ∧ K v ≠ 0) := fun v hv h => by
    by_cases hi : tj_In E K s v
    · exact Or.inl hi
    · rw [hKo v hv hi] at h; exact Or.inr ⟨hi, h⟩
  have hkeep : ∀ v, v < n → K v ≠ 0 → ¬ tj_In E K s v := fun v _ h hi => h hi.2.1
  have hlow : ∀ v, v < n → E v ≠ 0 → K' v = 0 → E v < E s := fun v hv hE h => by
    obtain ⟨h1, h2⟩ := hz v hv h
    rcases Nat.lt_or_ge (E v) (E s) with q | q
    · exact q
    · exact absurd ⟨hE, h1, q⟩ h2
  have hlowK : ∀ v, v < n → K v = 0 → E v < E s → K' v = 0 := fun v hv h1 h2 => by
    rw [hKo v hv (fun h => by have := h.2.2; omega)]; exact h1
  refine ⟨hA, ⟨?_, ?_, ?_⟩, ⟨?_, ?_⟩, ⟨n1, ?_, p1⟩, ⟨?_, ?_⟩, ⟨?_, ?_, ?_, ?_, ?_⟩, ⟨?_, ?_⟩, ⟨?_, ?_, ?_, ?_, ?_, ?_, ?_⟩⟩
  · intro i hi
    obtain ⟨h1, h2, h3⟩ := b1 i (by omega)
    refine ⟨h1, h2, hlowK _ h1 h3 ?_⟩
    have := b2 i i0 hi hi0
    rwa [hop] at this
  · intro i j hij hj
    exact b2 i j hij (by omega)
  · intro v hv hE hKv
    obtain ⟨h1, h2⟩ := hz v hv hKv
    obtain ⟨i, hi, e1⟩ := b3 v hv hE h1
    refine ⟨i, ?_, e1⟩
    rcases Nat.lt_or_ge i i0 with q | q
    · exact q
    · exact absurd ((hin hv).mp ⟨i, q, hi, e1⟩) h2
  · intro i hi
    obtain ⟨h1, h2, h3⟩ := c1 i (by omega)
    refine ⟨h1, h2, hlowK _ h1 h3 ?_⟩
    have := c2 i d hi (by omega)
    rwa [hs] at this
  · intro i j hij hj
    exact c2 i j hij (by omega)
  · intro v hv hE hpv
    by_cases hvs : v = s
    · rw [hvs]; exact hN1
    · refine n2 v hv hE (fun i hi => ?_)
      by_cases hid : i = d
      · rw [hid, hs]; exact fun h => hvs h.symm
      · exact hpv i (by omega)
  · intro v hv hKv
    rcases hnz v hv hKv with q | q
    · exact q.1
    · exact k1 v hv q.2
  · intro u v hKu hE
    rcases hnz u hE.1 hKu with q | q
    · rcases F4 u v q hE with q2 | q2
      · rw [hKi v hE.2.1 q2]; omega
      · rw [hKo v hE.2.1 (hkeep v hE.2.1 q2)]; exact q2
    · have := k2 u v q.2 hE
      rw [hKo v hE.2.1 (hkeep v hE.2.1 this)]; exact this
  · intro v hv hE hKv
    exact l1 v hv hE (hz v hv hKv).1
  · intro v hv hE hKv
    have h1 := hz v hv hKv
    obtain ⟨w, w1, w2, w3, w4, w5⟩ := l2 v hv hE h1.1
    refine ⟨w, w1, w2, hlowK w w1 w3 ?_, w4, w5⟩
    have := l1 v hv hE h1.1
    have := hlow v hv hE hKv
    omega
  · intro v j hv hE hKv hj1 hj2 hcj hKj
    have hN2 := n1 v hv hE
    exact l3 v j hv hE (hz v hv hKv).1 hj1 hj2 hcj (hz _ (hg.2 v j hv hj1 (by omega)) hKj).1
  · intro v hv hE hKv hpv
    have h1 := hz v hv hKv
    refine m1 v hv hE h1.1 (fun i hi => ?_)
    by_cases hid : i = d
    · rw [hid, hs]
      intro h
      subst h
      exact h1.2 hsI
    · exact hpv i (by omega)
  · intro v i hv hE hKv hi h1 h2
    refine m2 v i hv hE (hz v hv hKv).1 (by omega) h1 (fun _ => ?_)
    by_cases hid : i + 1 = d
    · rw [hid, hs]; exact hlow v hv hE hKv
    · exact h2 (by omega)
  · intro i w hi hw hE hKw h1
    exact r1 i w (by omega) hw hE (hz w hw hKw).1 h1
  · intro v hv hE hKv
    obtain ⟨h1, h2⟩ := r2 v hv hE (hz v hv hKv).1
    refine ⟨?_, h2⟩
    rcases Nat.eq_zero_or_pos d with q | q
    · exfalso
      have := hlow v hv hE hKv
      subst q
      rw [hs] at h2
      omega
    · exact q
  · intro v hv
    by_cases hi : tj_In E K s v
    · rw [hKi v hv hi]; exact Nat.le_refl _
    · rw [hKo v hv hi]; have := s1 v hv; omega
  · intro u v hu hv hKu hKv
    rcases hnz u hu hKu with q | q <;> rcases hnz v hv hKv with q2 | q2
    · rw [hKi u hu q, hKi v hv q2]
      exact ⟨fun _ => ⟨rc_trans (F3' u hu q) (F1 v hv q2), rc_trans (F3' v hv q2) (F1 u hu q)⟩, fun _ => rfl⟩
    · rw [hKi u hu q, hKo v hv q2.1]
      have := s1 v hv
      refine ⟨fun h => by omega, fun h => ?_⟩
      exact absurd q.2.1 (rc_stay h.2 (fun x => K x ≠ 0) q2.2 (fun a b ha hab => k2 a b ha hab))
    · rw [hKo u hu q.1, hKi v hv q2]
      have := s1 u hu
      refine ⟨fun h => by omega, fun h => ?_⟩
      exact absurd q2.2.1 (rc_stay h.1 (fun x => K x ≠ 0) q.2 (fun a b ha hab => k2 a b ha hab))
    · rw [hKo u hu q.1, hKo v hv q2.1]
      exact s2 u v hu hv q.2 q2.2
  · intro q hq
    by_cases hqf : q = f
    · exact ⟨s, hsn, by rw [hKi s hsn hsI, hqf]⟩
    · obtain ⟨v, hv, h1⟩ := s3 q (by omega)
      exact ⟨v, hv, by rw [hKo v hv (hkeep v hv (by omega))]; exact h1⟩
  · intro i hi
    by_cases hic : i < c
    · rw [ho1 i hic]
      obtain ⟨h1, h2⟩ := o1 i hic
      exact ⟨h1, by rw [hKo _ h1 (hkeep _ h1 h2)]; exact h2⟩
    · have h1 := ho2 (k - 1 - (i - c)) (by omega) (by omega)
      rw [show c + (k - 1 - (k - 1 - (i - c))) = i by omega] at h1
      rw [h1]
      have h2 := b1 (k - 1 - (i - c)) (by omega)
      refine ⟨h2.1, ?_⟩
      rw [hK1 _ h2.1 ⟨_, by omega, by omega, rfl⟩]
      omega
  · intro i j hij hj
    have hhi : ∀ i, ¬ i < c → i < c + (k - i0) → od' i = op (k - 1 - (i - c)) ∧ K' (od' i) = f + 1 := by
      intro i hic hi
      have h1 := ho2 (k - 1 - (i - c)) (by omega) (by omega)
      rw [show c + (k - 1 - (k - 1 - (i - c))) = i by omega] at h1
      refine ⟨h1, ?_⟩
      rw [h1]
      exact hK1 _ (b1 (k - 1 - (i - c)) (by omega)).1 ⟨_, by omega, by omega, rfl⟩
    have hlo : ∀ i, i < c → od' i = od i ∧ K' (od' i) = K (od i) ∧ K (od i) ≤ f := by
      intro i hic
      obtain ⟨h1, h2⟩ := o1 i hic
      refine ⟨ho1 i hic, ?_, s1 _ h1⟩
      rw [ho1 i hic]
      exact hKo _ h1 (hkeep _ h1 h2)
    by_cases hjc : j < c
    · have q1 := hlo i (by omega)
      have q2 := hlo j hjc
      rw [q1.2.1, q2.2.1, q1.1, q2.1]
      exact o2 i j hij hjc
    · have q2 := hhi j hjc hj
      by_cases hic : i < c
      · have q1 := hlo i hic
        refine ⟨fun h => ?_, by rw [q1.2.1, q2.2]; have := q1.2.2; omega⟩
        have h3 := q2.2
        rw [← h, q1.2.1] at h3
        have := q1.2.2
        omega
      · have q1 := hhi i hic (by omega)
        refine ⟨fun h => ?_, by rw [q1.2, q2.2]; exact Nat.le_refl _⟩
        rw [q1.1, q2.1] at h
        have := b2 (k - 1 - (j - c)) (k - 1 - (i - c)) (by omega) (by omega)
        rw [h] at this
        omega
  · intro v hv hKv
    rcases hnz v hv hKv with q | q
    · obtain ⟨i, h1, h2, h3⟩ := (hin hv).mpr q
      exact ⟨c + (k - 1 - i), by omega, (ho2 i h1 h2).trans h3⟩
    · obtain ⟨i, h1, h2⟩ := o3 v hv q.2
      exact ⟨i, by omega, (ho1 i h1).trans h2⟩
  · intro u v hKu hE
    rcases hnz u hE.1 hKu with q | q
    · rw [hKi u hE.1 q]
      by_cases hi : tj_In E K s v
      · rw [hKi v hE.2.1 hi]; exact Nat.le_refl _
      · rw [hKo v hE.2.1 hi]; have := s1 v hE.2.1; omega
    · have h1 := k2 u v q.2 hE
      rw [hKo v hE.2.1 (hkeep v hE.2.1 h1), hKo u hE.1 q.1]
      exact t1 u v q.2 hE
/-! bounds -/
theorem tj_e_le (h : tj_A n ch e E) : e ≤ n := by
  obtain ⟨a1, e1, a2, a3⟩ := h
  have hc : ∀ i, ∃ v, i < e → v < n ∧ E v = i + 1 := fun i => by
    by_cases hi : i < e
    · obtain ⟨v, h1, h2⟩ := e1 (i + 1) (by omega) (by omega)
      exact ⟨v, fun _ => ⟨h1, h2⟩⟩
    · exact ⟨0, fun h => absurd h hi⟩
  refine ph_le n e (fun i => Classical.choose (hc i)) (fun i hi => (Classical.choose_spec (hc i) hi).1) (fun i j hi hj hij => ?_)
  have h1 := (Classical.choose_spec (hc i) hi).2
  have h2 := (Classical.choose_spec (hc j) hj).2
  rw [hij] at h1
  omega
theorem tj_e_lt {t : Nat} (h : tj_A n ch e E) (ht : t < n) (hc : ch t) (h0 : E t = 0) : e < n := tj_e_le (tj_A_enter h ht hc h0)
theorem tj_up {g : Nat → Nat} {m : Nat} (h0 : ∀ i, i < m → E (g i) ≠ 0) (h : ∀ i j, i < j → j < m → E (g i) < E (g j)) : ∀ i, i < m → i + 1 ≤ E (g i) := by
  intro i
  induction i with
  | zero => intro hi; have := h0 0 hi; omega
  | succ i ih =>
    intro hi
    have := ih (by omega)
    have := h i (i + 1) (by omega) hi
    omega
theorem tj_k_le (hA : tj_A n ch e E) (h : tj_B n E K k op) : k ≤ e := by
  rcases Nat.eq_zero_or_pos k with q | q
  · omega
  · have := tj_up (E := E) (fun i hi => (h.1 i hi).2.1) h.2.1 (k - 1) (by omega)
    have := hA.1 _ (h.1 (k - 1) (by omega)).1
    omega
theorem tj_d_le (hA : tj_A n ch e E) (h : tj_C n E K d pa) : d ≤ e := by
  rcases Nat.eq_zero_or_pos d with q | q
  · omega
  · have := tj_up (E := E) (fun i hi => (h.1 i hi).2.1) h.2 (d - 1) (by omega)
    have := hA.1 _ (h.1 (d - 1) (by omega)).1
    omega
theorem tj_c_le (h : tj_S n ch st tg K c od f) : c ≤ n := by
  refine ph_le n c od (fun i hi => (h.2.2.2.1 i hi).1) (fun i j hi hj hij => ?_)
  rcases Nat.lt_trichotomy i j with q | q | q
  · exact absurd hij (h.2.2.2.2.1 i j q hj).1
  · exact q
  · exact absurd hij.symm (h.2.2.2.2.1 j i q hi).1
/-- without a path nothing is open -/
theorem tj_done (h : tj_I n ch st tg e E L N K 0 pa k op c od f) : k = 0 ∧ ∀ v, v < n → E v ≠ 0 → K v ≠ 0 := by
  obtain ⟨hA, hB, hC, hN, hK, hL, ⟨r1, r2⟩, hS⟩ := h
  refine ⟨?_, fun v hv hE hK' => absurd (r2 v hv hE hK').1 (by omega)⟩
  rcases Nat.eq_zero_or_pos k with q | q
  · exact q
  · obtain ⟨h1, h2, h3⟩ := hB.1 0 q
    exact absurd (r2 _ h1 h2 h3).1 (by omega)
/-- the path's first state begins a knot, or is no last one -/
theorem tj_first (h : tj_I n ch st tg e E L N K 1 pa k op c od f) : L (pa 0) = E (pa 0) := by
  obtain ⟨hA, hB, hC, hN, hK, ⟨l1, l2, l3, m1, m2⟩, ⟨r1, r2⟩, hS⟩ := h
  obtain ⟨h1, h2, h3⟩ := hC.1 0 (by omega)
  obtain ⟨w, w1, w2, w3, w4, -⟩ := l2 _ h1 h2 h3
  have := (r2 w w1 w2 w3).2
  have := l1 _ h1 h2 h3
  omega
/-- before the first walk -/
theorem tj_start (hE : ∀ v, v < n → E v = 0) (hK : ∀ v, v < n → K v = 0) : tj_I n ch st tg 0 E L N K 0 pa 0 op 0 od 0 := by
  refine ⟨⟨fun v hv => by rw [hE v hv]; exact Nat.le_refl _, fun x h1 h2 => by omega, fun v hv h => absurd (hE v hv) h, fun u v hu _ h => absurd (hE u hu) h⟩,
    ⟨fun i hi => by omega, fun i j _ hj => by omega, fun v hv h => absurd (hE v hv) h⟩, ⟨fun i hi => by omega, fun i j _ hj => by omega⟩,
    ⟨fun v hv h => absurd (hE v hv) h, fun v hv h => absurd (hE v hv) h, fun v j hv h => absurd (hE v hv) h⟩,
    ⟨fun v hv h => absurd (hK v hv) h, fun u v hu h => absurd (hK u h.1) hu⟩,
    ⟨fun v hv h => absurd (hE v hv) h, fun v hv h => absurd (hE v hv) h, fun v j hv h => absurd (hE v hv) h, fun v hv h => absurd (hE v hv) h, fun v i hv h => absurd (hE v hv) h⟩,
    ⟨fun i w hi => by omega, fun v hv h => absurd (hE v hv) h⟩,
    ⟨fun v hv => by rw [hK v hv]; exact Nat.le_refl _, fun u v hu _ h => absurd (hK u hu) h, fun q hq => by omega, fun i hi => by omega, fun i j _ hj => by omega, fun v hv h => absurd (hK v hv) h, fun u v hu h => absurd (hK u h.1) hu⟩⟩
end TJ2
