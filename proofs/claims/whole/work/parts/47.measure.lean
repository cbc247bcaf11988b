/-! PURE: the model's measure -/
theorem sm_bd {f : Nat → Nat} {B : Nat} : ∀ {n : Nat}, (∀ i, i < n → f i ≤ B) → sm_N f n ≤ n * B := by
  intro n
  induction n with
  | zero => intro _; simp [sm_N]
  | succ n ih =>
    intro h
    simp only [sm_N]
    have h1 := ih (fun i hi => h i (by omega))
    have h2 := h n (by omega)
    rw [Nat.succ_mul]
    omega
/-- the marks so far: none too high -/
def ms_I (n : Nat) (X : Nat → Prop) (rho g : Nat → Nat) (lf : Nat → Int32) : Prop := (∀ v, X v → lf v = nI (g v) ∧ g v ≤ rho v) ∧ (∀ v, v < n → ¬ X v → lf v = -1)
section MS
variable {n m : Nat} {fr to : Nat → Nat} {lb : Nat → Int32} {mfr mto mlb its : Nat → Int32} {rho : Nat → Nat}
theorem ms_pass (hm : m ≤ 600) (hn : n ≤ 200) (hs : gs_R n m fr to lb mfr mto mlb) (hz : z01 n its) (hrk : ∀ u v, fp_E m fr to (cz n its) u v → rho v + 1 ≤ rho u) (hb : ∀ v, cz n its v → rho v < 200) {g : Nat → Nat} {lf : Nat → Int32} (hI : ms_I n (cz n its) rho g lf) :
    ot_T (ox_l (fn_X5_measure_l60 (nI m) mfr its mto) 1000000 (0, 0, lf)) (fun r => ∃ g', ms_I n (cz n its) rho g' r.2.2 ∧ ((r.1 = 0 ∧ (∀ v, cz n its v → g' v = g v) ∧ ∀ u v, fp_E m fr to (cz n its) u v → g v + 1 ≤ g u) ∨ (r.1 = 1 ∧ (∀ v, cz n its v → g v ≤ g' v) ∧ ∃ v, cz n its v ∧ g v < g' v))) := by
  refine ot_for (fun i x => x.2.1 = nI i ∧ ∃ g', ms_I n (cz n its) rho g' x.2.2 ∧ ((x.1 = 0 ∧ (∀ v, cz n its v → g' v = g v) ∧ ∀ j, j < i → cz n its (fr j) → cz n its (to j) → g (to j) + 1 ≤ g (fr j)) ∨ (x.1 = 1 ∧ (∀ v, cz n its v → g v ≤ g' v) ∧ ∃ v, cz n its v ∧ g v < g' v))) m ?_ ?_ 1000000 0 _ (Nat.zero_le _) ⟨nI_0.symm, g, hI, Or.inl ⟨rfl, fun _ _ => rfl, fun j h => absurd h (Nat.not_lt_zero j)⟩⟩ (by omega)
  · rintro i ⟨v2, v3, lf⟩ hi ⟨e1, g', q1, q2⟩
    dsimp only at e1 q1 q2
    subst e1
    obtain ⟨s1, s2, s3, s4, s5, s6⟩ := hs i hi
    unfold fn_X5_measure_l60
    dsimp only
    simp only [cl_nI (show i < 2 ^ 31 by omega), s1, s3, cl_nI (show fr i < 2 ^ 31 by omega), cl_nI (show to i < 2 ^ 31 by omega)]
    have hskip : (cz n its (fr i) → cz n its (to i) → g' (to i) + 1 ≤ g' (fr i)) → ((v2 = 0 ∧ (∀ v, cz n its v → g' v = g v) ∧ ∀ j, j < i + 1 → cz n its (fr j) → cz n its (to j) → g (to j) + 1 ≤ g (fr j)) ∨ (v2 = 1 ∧ (∀ v, cz n its v → g v ≤ g' v) ∧ ∃ v, cz n its v ∧ g v < g' v)) := by
      intro h
      rcases q2 with ⟨a1, a2, a3⟩ | h2
      · refine Or.inl ⟨a1, a2, fun j hj c1 c2 => ?_⟩
        by_cases hji : j = i
        · subst hji
          have := h c1 c2
          rw [a2 _ c1, a2 _ c2] at this
          exact this
        · exact a3 j (by omega) c1 c2
      · exact Or.inr h2
    refine ot_f (fun h => by rw [nI_leI (by omega) (by omega)] at h; omega) (ot_i (in_nI (by omega) (by decide)) (ot_i (in_nI (by omega) (by decide)) (ot_i (in_nI (by omega) (by decide)) ?_)))
    rcases cz_or hz (fr i) s2 with ⟨z1, z2⟩ | ⟨z1, z2⟩
    · exact ot_t z1 (ot_s ⟨nI_1 i, g', q1, hskip (fun h => absurd h z2)⟩)
    refine ot_f (by rw [z1]; decide) (ot_i (in_nI (by omega) (by decide)) ?_)
    rcases cz_or hz (to i) s4 with ⟨y1, y2⟩ | ⟨y1, y2⟩
    · exact ot_t y1 (ot_s ⟨nI_1 i, g', q1, hskip (fun _ h => absurd h y2)⟩)
    refine ot_f (by rw [y1]; decide) (ot_i (in_nI (by omega) (by decide)) (ot_i (in_nI (by omega) (by decide)) ?_))
    have ha := q1.1 _ z2
    have hbb := q1.1 _ y2
    have hE : fp_E m fr to (cz n its) (fr i) (to i) := ⟨z2, y2, i, hi, rfl, rfl⟩
    have hr := hrk _ _ hE
    have hra := hb _ z2
    rw [ha.1, hbb.1]
    by_cases hlt : g' (to i) < g' (fr i)
    · exact ot_t (by rw [nI_ltI (by omega) (by omega)]; exact hlt) (ot_s ⟨nI_1 i, g', q1, hskip (fun _ _ => hlt)⟩)
    · refine ot_f (by rw [nI_ltI (by omega) (by omega)]; exact hlt) (ot_i (in_nI (by omega) (by decide)) (ot_i (in_nI (by omega) (by decide)) (ot_s ⟨nI_1 i, va_up g' (fr i) (g' (to i) + 1), ⟨fun v hv => ?_, fun v hv hc => ?_⟩, Or.inr ⟨rfl, fun v hv => ?_, fr i, z2, ?_⟩⟩)))
      · show upd lf (fr i) (nI (g' (to i)) + 1) v = _ ∧ _
        by_cases hvi : v = fr i
        · rw [hvi, upd_s, up_s, nI_1]; exact ⟨rfl, by omega⟩
        · rw [upd_n hvi, up_n hvi]; exact q1.1 v hv
      · show upd lf (fr i) (nI (g' (to i)) + 1) v = -1
        have hvi : v ≠ fr i := fun h => hc (h ▸ z2)
        rw [upd_n hvi]; exact q1.2 v hv hc
      · have hle : g v ≤ g' v := by
          rcases q2 with ⟨-, a2, -⟩ | ⟨-, a2, -⟩
          · rw [a2 v hv]; exact Nat.le_refl _
          · exact a2 v hv
        by_cases hvi : v = fr i
        · rw [hvi, up_s]; rw [hvi] at hle; omega
        · rw [up_n hvi]; exact hle
      · have hle : g (fr i) ≤ g' (fr i) := by
          rcases q2 with ⟨-, a2, -⟩ | ⟨-, a2, -⟩
          · rw [a2 _ z2]; exact Nat.le_refl _
          · exact a2 _ z2
        rw [up_s]; omega
  · rintro ⟨v2, v3, lf⟩ ⟨e1, g', q1, q2⟩
    dsimp only at e1 q1 q2
    subst e1
    unfold fn_X5_measure_l60
    dsimp only
    refine ot_t (by rw [nI_leI (by omega) (by omega)]; exact Nat.le_refl _) (ot_s ⟨g', q1, ?_⟩)
    rcases q2 with ⟨a1, a2, a3⟩ | h
    · refine Or.inl ⟨a1, a2, ?_⟩
      rintro u v ⟨c1, c2, j, j1, rfl, rfl⟩
      exact a3 j j1 c1 c2
    · exact Or.inr h
theorem ms_more (hm : m ≤ 600) (hn : n ≤ 200) (hs : gs_R n m fr to lb mfr mto mlb) (hz : z01 n its) (hrk : rk_P m fr to (cz n its) rho) (hb : ∀ v, cz n its v → rho v < 200) {g0 : Nat → Nat} {lf : Nat → Int32} (hI : ms_I n (cz n its) rho g0 lf) :
    ot_T (ox_l (fn_X5_measure_l52 (nI m) mfr its mto) 1000000 (1, lf)) (fun r => (∀ v, cz n its v → r.2 v = nI (rho v)) ∧ ∀ v, v < n → ¬ cz n its v → r.2 v = -1) := by
  have hmu : ∀ (g : Nat → Nat) (lf : Nat → Int32), ms_I n (cz n its) rho g lf → sm_N (fun v => if its v = 1 then rho v - (lf v).toNatClampNeg else 0) n = sm_N (fun v => if its v = 1 then rho v - g v else 0) n := by
    intro g lf h
    refine sm_congr (fun v hv => ?_)
    by_cases hc : its v = 1
    · have h1 := h.1 v ⟨hv, hc⟩
      have h2 := hb v ⟨hv, hc⟩
      simp only [hc, if_true]
      rw [h1.1, cl_nI (by omega)]
    · simp only [hc, if_false]
  refine ot_loop (fun x => ∃ g, ms_I n (cz n its) rho g x.2 ∧ (x.1 = 1 ∨ (x.1 = 0 ∧ ∀ u v, fp_E m fr to (cz n its) u v → g v + 1 ≤ g u))) (fun x => sm_N (fun v => if its v = 1 then rho v - (x.2 v).toNatClampNeg else 0) n + (if x.1 = 0 then 0 else 1)) ?_ 1000000 _ ⟨g0, hI, Or.inl rfl⟩ ?_
  · rintro ⟨v2, lf⟩ ⟨g, q1, q2⟩
    dsimp only at q1 q2
    unfold fn_X5_measure_l52
    dsimp only
    rcases q2 with rfl | ⟨rfl, q2⟩
    · refine ot_f (by decide) ?_
      refine ot_b (ms_pass hm hn hs hz hrk.1 hb q1) ?_
      rintro ⟨v2, v3, lf'⟩ ⟨g', r1, r2⟩
      dsimp only at r1 r2
      rcases r2 with ⟨rfl, a2, a3⟩ | ⟨rfl, a2, v, a3, a4⟩
      · refine ot_s ⟨⟨g', r1, Or.inr ⟨rfl, fun u v he => ?_⟩⟩, ?_⟩
        · rw [a2 u he.1, a2 v he.2.1]; exact a3 u v he
        · show sm_N (fun v => if its v = 1 then rho v - (lf' v).toNatClampNeg else 0) n + 0 < sm_N (fun v => if its v = 1 then rho v - (lf v).toNatClampNeg else 0) n + 1
          rw [hmu g' lf' r1, hmu g lf q1]
          have : sm_N (fun v => if its v = 1 then rho v - g' v else 0) n = sm_N (fun v => if its v = 1 then rho v - g v else 0) n := by
            refine sm_congr (fun v hv => ?_)
            by_cases hc : its v = 1
            · simp only [hc, if_true]; rw [a2 v ⟨hv, hc⟩]
            · simp only [hc, if_false]
          omega
      · refine ot_s ⟨⟨g', r1, Or.inl rfl⟩, ?_⟩
        show sm_N (fun v => if its v = 1 then rho v - (lf' v).toNatClampNeg else 0) n + 1 < sm_N (fun v => if its v = 1 then rho v - (lf v).toNatClampNeg else 0) n + 1
        rw [hmu g' lf' r1, hmu g lf q1]
        have := sm_lt (f := fun v => if its v = 1 then rho v - g' v else 0) (g := fun v => if its v = 1 then rho v - g v else 0) (k := v) (n := n) a3.1 (fun i hi => by
          by_cases hc : its i = 1
          · have := a2 i ⟨hi, hc⟩
            simp only [hc, if_true]; omega
          · simp only [hc, if_false]; exact Nat.le_refl _) (by
          have h1 := a3.2
          have h2 := (r1.1 v a3).2
          simp only [h1, if_true]; omega)
        omega
    · refine ot_t rfl (ot_s ⟨fun v hv => ?_, q1.2⟩)
      have h1 := q1.1 v hv
      have h2 := rk_le hrk.2 q2 (rho v) v (Nat.le_refl _) hv
      show lf v = nI (rho v)
      rw [h1.1, Nat.le_antisymm h1.2 h2]
  · have := sm_bd (f := fun v => if its v = 1 then rho v - (lf v).toNatClampNeg else 0) (B := 200) (n := n) (fun i hi => by
      by_cases hc : its i = 1
      · have := hb i ⟨hi, hc⟩
        simp only [hc, if_true]; omega
      · simp only [hc, if_false]; omega)
    show sm_N (fun v => if its v = 1 then rho v - (lf v).toNatClampNeg else 0) n + 1 < 1000000
    have h2 : n * 200 ≤ 200 * 200 := Nat.mul_le_mul_right 200 hn
    omega
theorem ms_start (hn : n ≤ 200) (hz : z01 n its) {lf : Nat → Int32} : ot_T (ox_l (fn_X5_measure_l7 (nI n) its) 1000000 (0, lf)) (fun r => (∀ v, cz n its v → r.2 v = 0) ∧ ∀ v, v < n → ¬ cz n its v → r.2 v = -1) := by
  refine ot_m (P := fun r => ∀ v, v < n → (cz n its v → r.2 v = 0) ∧ (¬ cz n its v → r.2 v = -1)) ?_ (fun r h => ⟨fun v hv => (h v hv.1).1 hv, fun v hv => (h v hv).2⟩)
  refine ot_for (fun i x => x.1 = nI i ∧ ∀ v, v < i → (cz n its v → x.2 v = 0) ∧ (¬ cz n its v → x.2 v = -1)) n ?_ ?_ 1000000 0 _ (Nat.zero_le _) ⟨nI_0.symm, fun v h => absurd h (Nat.not_lt_zero v)⟩ (by omega)
  · rintro i ⟨v2, lf⟩ hi ⟨e1, q⟩
    dsimp only at e1 q
    subst e1
    unfold fn_X5_measure_l7
    dsimp only
    simp only [cl_nI (show i < 2 ^ 31 by omega)]
    have hset : ∀ x : Int32, ((cz n its i → x = 0) ∧ (¬ cz n its i → x = -1)) → ∀ v, v < i + 1 → (cz n its v → upd lf i x v = 0) ∧ (¬ cz n its v → upd lf i x v = -1) := by
      intro x hx v hv
      by_cases hvi : v = i
      · subst hvi; rw [upd_s]; exact hx
      · rw [upd_n hvi]; exact q v (by omega)
    refine ot_f (fun h => by rw [nI_leI (by omega) (by omega)] at h; omega) (ot_i (in_nI (by omega) (by decide)) ?_)
    rcases cz_or hz i hi with ⟨z1, z2⟩ | ⟨z1, z2⟩
    · exact ot_t z1 (ot_i (in_nI (by omega) (by decide)) (ot_s ⟨nI_1 i, hset (-1) ⟨fun h => absurd h z2, fun _ => rfl⟩⟩))
    · exact ot_f (by rw [z1]; decide) (ot_i (in_nI (by omega) (by decide)) (ot_s ⟨nI_1 i, hset 0 ⟨fun _ => rfl, fun h => absurd z2 h⟩⟩))
  · rintro ⟨v2, lf⟩ ⟨e1, q⟩
    dsimp only at e1 q
    subst e1
    unfold fn_X5_measure_l7
    dsimp only
    exact ot_t (by rw [nI_leI (by omega) (by omega)]; exact Nat.le_refl _) (ot_s q)
theorem ms_max (hn : n ≤ 200) (hb : ∀ v, cz n its v → rho v < 200) {lf : Nat → Int32} (h1 : ∀ v, cz n its v → lf v = nI (rho v)) (h2 : ∀ v, v < n → ¬ cz n its v → lf v = -1) :
    ot_T (ox_l (fn_X5_longest_l24 (nI n) lf) 1000000 (0, 0)) (fun r => ∃ H, r.1 = nI H ∧ H < 200 ∧ (∀ v, cz n its v → rho v ≤ H) ∧ (H = 0 ∨ ∃ v, cz n its v ∧ rho v = H)) := by
  refine ot_for (fun i x => x.2 = nI i ∧ ∃ H, x.1 = nI H ∧ H < 200 ∧ (∀ v, v < i → cz n its v → rho v ≤ H) ∧ (H = 0 ∨ ∃ v, cz n its v ∧ rho v = H)) n ?_ ?_ 1000000 0 _ (Nat.zero_le _) ⟨nI_0.symm, 0, nI_0.symm, by decide, fun v h => absurd h (Nat.not_lt_zero v), Or.inl rfl⟩ (by omega)
  · rintro i ⟨v3, v4⟩ hi ⟨e1, H, e2, q0, q1, q2⟩
    dsimp only at e1 e2
    subst e1
    subst e2
    unfold fn_X5_longest_l24
    dsimp only
    simp only [cl_nI (show i < 2 ^ 31 by omega)]
    refine ot_f (fun h => by rw [nI_leI (by omega) (by omega)] at h; omega) (ot_i (in_nI (by omega) (by decide)) ?_)
    by_cases hc : cz n its i
    · have hbi := hb i hc
      rw [h1 i hc]
      by_cases hle : rho i ≤ H
      · refine ot_t (by rw [nI_leI (by omega) (by omega)]; exact hle) (ot_s ⟨nI_1 i, H, rfl, q0, fun v hv hcv => ?_, q2⟩)
        by_cases hvi : v = i
        · rw [hvi]; exact hle
        · exact q1 v (by omega) hcv
      · refine ot_f (by rw [nI_leI (by omega) (by omega)]; exact hle) (ot_i (in_nI (by omega) (by decide)) (ot_s ⟨nI_1 i, rho i, rfl, hbi, fun v hv hcv => ?_, Or.inr ⟨i, hc, rfl⟩⟩))
        by_cases hvi : v = i
        · rw [hvi]; exact Nat.le_refl _
        · have := q1 v (by omega) hcv; omega
    · rw [h2 i hi hc]
      refine ot_t ?_ (ot_s ⟨nI_1 i, H, rfl, q0, fun v hv hcv => ?_, q2⟩)
      · have h0 : (0 : Int32) ≤ nI H := nI_pos' (by omega)
        exact Int32.le_trans (by decide) h0
      · by_cases hvi : v = i
        · rw [hvi] at hcv; exact absurd hcv hc
        · exact q1 v (by omega) hcv
  · rintro ⟨v3, v4⟩ ⟨e1, H, e2, q0, q1, q2⟩
    dsimp only at e1 e2
    subst e1
    unfold fn_X5_longest_l24
    dsimp only
    exact ot_t (by rw [nI_leI (by omega) (by omega)]; exact Nat.le_refl _) (ot_s ⟨H, e2, q0, fun v hv => q1 v hv.1 hv, q2⟩)
end MS
