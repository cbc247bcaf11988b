/-! PURE: the model's shrink -/
/-- label l takes states out of part p -/
def tk_T (n m : Nat) (fr to : Nat → Nat) (lb hw pf : Nat → Int32) (l p : Nat) : Prop :=
  ¬ hw l = 0 ∧ ¬ (∃ j, j < m ∧ lb j = nI l ∧ pf (fr j) = nI p ∧ pf (to j) = nI p) ∧ (hw l = 1 → ∀ v, v < n → pf v = nI p → fp_ab m fr lb l v) ∧ (¬ hw l = 1 → ∃ v, v < n ∧ pf v = nI p ∧ fp_ab m fr lb l v)
section SH
variable {n m : Nat} {aj : Nat → List Nat} {fr to : Nat → Nat} {lb hw : Nat → Int32} {mfr mto mlb mfi mnx mhw al pf : Nat → Int32}
theorem sh_able (hg : gm_R n m aj to mto mfi mnx) (ha : gr_A n m aj fr to) (hs : gs_R n m fr to lb mfr mto mlb) {l s : Nat} (hl : l < 16) (hsn : s < n) :
    ot_T (fn_X5_isAble mlb mfi mnx (nI l) (nI s)) (fun r => (r = 1 ∧ fp_ab m fr lb l s) ∨ (r = 0 ∧ ¬ fp_ab m fr lb l s)) := by
  obtain ⟨g1, g2, g3, g4, g5, g6⟩ := id hg
  have hab : fp_ab m fr lb l s ↔ ∃ j, j ∈ aj s ∧ lb j = nI l := ⟨fun ⟨j, h1, h2, h3⟩ => ⟨j, (ha.1 s j hsn).mpr ⟨h1, h2⟩, h3⟩, fun ⟨j, h1, h2⟩ => ⟨j, ((ha.1 s j hsn).mp h1).1, ((ha.1 s j hsn).mp h1).2, h2⟩⟩
  unfold fn_X5_isAble
  rw [cl_nI (show s < 2 ^ 31 by omega)]
  refine ot_i (in_nI (by omega) (by decide)) ?_
  refine ot_b (P := fun x => (x.1 = 1 ∧ fp_ab m fr lb l s) ∨ (x.1 = 0 ∧ ¬ fp_ab m fr lb l s)) ?_ ?_
  · refine ot_list (fun (L : List Nat) x => lk mnx x.2 L ∧ (∀ j, j ∈ L → j ∈ aj s) ∧ ((x.1 = 1 ∧ fp_ab m fr lb l s) ∨ (x.1 = 0 ∧ ∀ j, j ∈ aj s → j ∈ L ∨ ¬ lb j = nI l))) ?_ ?_ 1000000 (aj s) _ ⟨g3 s hsn, fun _ h => h, Or.inr ⟨rfl, fun _ h => Or.inl h⟩⟩ (by have := g4 s hsn; omega)
    · rintro b L ⟨v3, v4⟩ ⟨⟨e1, h2⟩, h3, h4⟩
      dsimp only at e1 h2 h4
      subst e1
      have hb := h3 b (by simp)
      have hbm := g5 s b hsn hb
      have hsb := hs b hbm
      unfold fn_X5_isAble_l10
      dsimp only
      simp only [cl_nI (show b < 2 ^ 31 by omega), hsb.2.2.2.2.1]
      refine ot_f (nI_m1 (by omega)) ?_
      have hr : ∀ j, j ∈ L → j ∈ aj s := fun j hj => h3 j (List.mem_cons_of_mem _ hj)
      rcases h4 with ⟨rfl, a1⟩ | ⟨rfl, a1⟩
      · exact ot_f (by decide) (ot_i (in_nI (by omega) (by decide)) (ot_s ⟨h2, hr, Or.inl ⟨rfl, a1⟩⟩))
      · refine ot_t rfl (ot_i (in_nI (by omega) (by decide)) ?_)
        by_cases hbl : lb b = nI l
        · exact ot_t hbl (ot_i (in_nI (by omega) (by decide)) (ot_s ⟨h2, hr, Or.inl ⟨rfl, hab.mpr ⟨b, hb, hbl⟩⟩⟩))
        · refine ot_f hbl (ot_i (in_nI (by omega) (by decide)) (ot_s ⟨h2, hr, Or.inr ⟨rfl, fun j hj => ?_⟩⟩))
          rcases a1 j hj with h | h
          · rcases List.mem_cons.mp h with rfl | h
            · exact Or.inr hbl
            · exact Or.inl h
          · exact Or.inr h
    · rintro ⟨v3, v4⟩ ⟨h2, h3, h4⟩
      unfold fn_X5_isAble_l10
      dsimp only
      refine ot_t h2 (ot_s ?_)
      rcases h4 with h | ⟨h5, h6⟩
      · exact Or.inl h
      · refine Or.inr ⟨h5, fun h => ?_⟩
        obtain ⟨j, j1, j2⟩ := hab.mp h
        rcases h6 j j1 with h | h
        · exact absurd h (by simp)
        · exact h j2
  · rintro ⟨v3, v4⟩ h
    dsimp only at h ⊢
    refine ot_z ?_ (ot_s h)
    rcases h with ⟨h, -⟩ | ⟨h, -⟩
    · exact Or.inr h
    · exact Or.inl h
theorem sh_taken (hn : n ≤ 200) (hm : m ≤ 600) (hs : gs_R n m fr to lb mfr mto mlb) (l p : Nat) :
    ot_T (fn_X5_isTaken (nI m) mfr mto mlb pf (nI l) (nI p)) (fun r => (r = 1 ∧ ∃ j, j < m ∧ lb j = nI l ∧ pf (fr j) = nI p ∧ pf (to j) = nI p) ∨ (r = 0 ∧ ¬ ∃ j, j < m ∧ lb j = nI l ∧ pf (fr j) = nI p ∧ pf (to j) = nI p)) := by
  unfold fn_X5_isTaken
  refine ot_b (P := fun x => (x.1 = 1 ∧ ∃ j, j < m ∧ lb j = nI l ∧ pf (fr j) = nI p ∧ pf (to j) = nI p) ∨ (x.1 = 0 ∧ ¬ ∃ j, j < m ∧ lb j = nI l ∧ pf (fr j) = nI p ∧ pf (to j) = nI p)) ?_ ?_
  · refine ot_for (fun i x => x.2 = nI i ∧ ((x.1 = 1 ∧ ∃ j, j < i ∧ lb j = nI l ∧ pf (fr j) = nI p ∧ pf (to j) = nI p) ∨ (x.1 = 0 ∧ ¬ ∃ j, j < i ∧ lb j = nI l ∧ pf (fr j) = nI p ∧ pf (to j) = nI p))) m ?_ ?_ 1000000 0 _ (Nat.zero_le _) ⟨nI_0.symm, Or.inr ⟨rfl, fun ⟨j, h, _⟩ => absurd h (Nat.not_lt_zero j)⟩⟩ (by omega)
    · rintro i ⟨v3, v4⟩ hi ⟨e1, q⟩
      dsimp only at e1 q
      subst e1
      obtain ⟨g1, g2, g3, g4, g5, g6⟩ := hs i hi
      unfold fn_X5_isTaken_l5
      dsimp only
      simp only [cl_nI (show i < 2 ^ 31 by omega), g1, g3, g5, cl_nI (show fr i < 2 ^ 31 by omega), cl_nI (show to i < 2 ^ 31 by omega)]
      refine ot_f (fun h => by rw [nI_leI (by omega) (by omega)] at h; omega) ?_
      rcases q with ⟨rfl, j, j1, j2⟩ | ⟨rfl, q⟩
      · exact ot_f (by decide) (ot_s ⟨nI_1 i, Or.inl ⟨rfl, j, by omega, j2⟩⟩)
      · have hno : ¬ (lb i = nI l ∧ pf (fr i) = nI p ∧ pf (to i) = nI p) → ¬ ∃ j, j < i + 1 ∧ lb j = nI l ∧ pf (fr j) = nI p ∧ pf (to j) = nI p := by
          rintro h ⟨j, j1, j2⟩
          by_cases hji : j = i
          · rw [hji] at j2; exact h j2
          · exact q ⟨j, by omega, j2⟩
        refine ot_t rfl (ot_i (in_nI (by omega) (by decide)) (ot_if (fun c1 => ?_) (fun c1 => ot_s ⟨nI_1 i, Or.inr ⟨rfl, hno (fun h => c1 h.1)⟩⟩)))
        refine ot_i (in_nI (by omega) (by decide)) (ot_i (in_nI (by omega) (by decide)) (ot_if (fun c2 => ?_) (fun c2 => ot_s ⟨nI_1 i, Or.inr ⟨rfl, hno (fun h => c2 h.2.1)⟩⟩)))
        refine ot_i (in_nI (by omega) (by decide)) (ot_i (in_nI (by omega) (by decide)) (ot_if (fun c3 => ?_) (fun c3 => ot_s ⟨nI_1 i, Or.inr ⟨rfl, hno (fun h => c3 h.2.2)⟩⟩)))
        exact ot_s ⟨nI_1 i, Or.inl ⟨rfl, i, by omega, c1, c2, c3⟩⟩
    · rintro ⟨v3, v4⟩ ⟨e1, q⟩
      dsimp only at e1 q
      subst e1
      unfold fn_X5_isTaken_l5
      dsimp only
      exact ot_t (by rw [nI_leI (by omega) (by omega)]; exact Nat.le_refl _) (ot_s q)
  · rintro ⟨v3, v4⟩ h
    dsimp only at h ⊢
    refine ot_z ?_ (ot_s h)
    rcases h with ⟨h, -⟩ | ⟨h, -⟩
    · exact Or.inr h
    · exact Or.inl h
/-- what is left of 'alive' when label l takes from part p -/
def tk_A (n m : Nat) (fr : Nat → Nat) (lb pf : Nat → Int32) (l p : Nat) (al al' : Nat → Int32) : Prop :=
  ∀ v, v < n → (al v = 1 ∧ pf v = nI p ∧ fp_ab m fr lb l v → al' v = 0) ∧ (¬ (al v = 1 ∧ pf v = nI p ∧ fp_ab m fr lb l v) → al' v = al v)
theorem sh_away (hg : gm_R n m aj to mto mfi mnx) (ha : gr_A n m aj fr to) (hs : gs_R n m fr to lb mfr mto mlb) (hh : ∀ l, l < 16 → mhw l = hw l) (hz : z01 n al) {l p : Nat} (hl : l < 16) :
    ot_T (fn_X5_takeAway (nI n) (nI m) mfr mto mlb mhw mfi mnx al pf (nI l) (nI p)) (fun r => (r.1 = 0 ∧ r.2 = al ∧ ¬ tk_T n m fr to lb hw pf l p) ∨ (r.1 = 1 ∧ tk_A n m fr lb pf l p al r.2 ∧ tk_T n m fr to lb hw pf l p)) := by
  have hn := hg.1
  have hm := hg.2.1
  unfold fn_X5_takeAway
  rw [cl_nI (show l < 2 ^ 31 by omega), hh l hl]
  refine ot_i (in_nI (by omega) (by decide)) ?_
  refine ot_if (fun c0 => ot_s (Or.inl ⟨rfl, rfl, fun h => h.1 c0⟩)) (fun c0 => ?_)
  refine ot_b (sh_taken hn hm hs l p) ?_
  rintro r (⟨rfl, h1⟩ | ⟨rfl, h1⟩)
  · exact ot_f (by decide) (ot_s (Or.inl ⟨rfl, rfl, fun h => h.2.1 h1⟩))
  · refine ot_t rfl ?_
    refine ot_b (P := fun x => ((x.1 = 1 ∧ ∀ v, v < n → pf v = nI p → fp_ab m fr lb l v) ∨ (x.1 = 0 ∧ ¬ ∀ v, v < n → pf v = nI p → fp_ab m fr lb l v)) ∧ ((x.2.1 = 1 ∧ ∃ v, v < n ∧ pf v = nI p ∧ fp_ab m fr lb l v) ∨ (x.2.1 = 0 ∧ ¬ ∃ v, v < n ∧ pf v = nI p ∧ fp_ab m fr lb l v))) ?_ ?_
    · refine ot_for (fun i x => x.2.2 = nI i ∧ ((x.1 = 1 ∧ ∀ v, v < i → pf v = nI p → fp_ab m fr lb l v) ∨ (x.1 = 0 ∧ ¬ ∀ v, v < i → pf v = nI p → fp_ab m fr lb l v)) ∧ ((x.2.1 = 1 ∧ ∃ v, v < i ∧ pf v = nI p ∧ fp_ab m fr lb l v) ∨ (x.2.1 = 0 ∧ ¬ ∃ v, v < i ∧ pf v = nI p ∧ fp_ab m fr lb l v))) n ?_ ?_ 1000000 0 _ (Nat.zero_le _) ⟨nI_0.symm, Or.inl ⟨rfl, fun v h => absurd h (Nat.not_lt_zero v)⟩, Or.inr ⟨rfl, fun ⟨v, h, _⟩ => absurd h (Nat.not_lt_zero v)⟩⟩ (by omega)
      · rintro i ⟨v3, v4, v5⟩ hi ⟨e1, q1, q2⟩
        dsimp only at e1 q1 q2
        subst e1
        unfold fn_X5_takeAway_l28
        dsimp only
        simp only [cl_nI (show i < 2 ^ 31 by omega)]
        refine ot_f (fun h => by rw [nI_leI (by omega) (by omega)] at h; omega) (ot_i (in_nI (by omega) (by decide)) ?_)
        refine ot_if (fun c1 => ?_) (fun c1 => ot_s ⟨nI_1 i, ?_, ?_⟩)
        · refine ot_b (sh_able hg ha hs hl hi) ?_
          -- the two answers, from what they were and whether l is able here
          have hA1 : fp_ab m fr lb l i → (∀ v, v < i → pf v = nI p → fp_ab m fr lb l v) → ∀ v, v < i + 1 → pf v = nI p → fp_ab m fr lb l v := fun a b v hv hp => by
            by_cases hvi : v = i
            · rw [hvi]; exact a
            · exact b v (by omega) hp
          have hA0 : ¬ (∀ v, v < i → pf v = nI p → fp_ab m fr lb l v) → ¬ ∀ v, v < i + 1 → pf v = nI p → fp_ab m fr lb l v := fun a b => a (fun v hv => b v (by omega))
          have hB0 : ¬ fp_ab m fr lb l i → ¬ ∀ v, v < i + 1 → pf v = nI p → fp_ab m fr lb l v := fun a b => a (b i (by omega) c1)
          have hC1 : (∃ v, v < i ∧ pf v = nI p ∧ fp_ab m fr lb l v) → ∃ v, v < i + 1 ∧ pf v = nI p ∧ fp_ab m fr lb l v := fun ⟨v, a, b⟩ => ⟨v, by omega, b⟩
          have hC2 : fp_ab m fr lb l i → ∃ v, v < i + 1 ∧ pf v = nI p ∧ fp_ab m fr lb l v := fun a => ⟨i, by omega, c1, a⟩
          have hC0 : ¬ fp_ab m fr lb l i → ¬ (∃ v, v < i ∧ pf v = nI p ∧ fp_ab m fr lb l v) → ¬ ∃ v, v < i + 1 ∧ pf v = nI p ∧ fp_ab m fr lb l v := fun a b ⟨v, h1, h2, h3⟩ => by
            by_cases hvi : v = i
            · rw [hvi] at h3; exact a h3
            · exact b ⟨v, by omega, h2, h3⟩
          rintro r (⟨rfl, a1⟩ | ⟨rfl, a1⟩)
          · rcases q1 with ⟨rfl, b1⟩ | ⟨rfl, b1⟩ <;> rcases q2 with ⟨rfl, d1⟩ | ⟨rfl, d1⟩
            · exact ot_f (by decide) (ot_f (by decide) (ot_f (by decide) (ot_s ⟨nI_1 i, Or.inl ⟨rfl, hA1 a1 b1⟩, Or.inl ⟨rfl, hC1 d1⟩⟩)))
            · exact ot_f (by decide) (ot_f (by decide) (ot_t rfl (ot_f (by decide) (ot_s ⟨nI_1 i, Or.inl ⟨rfl, hA1 a1 b1⟩, Or.inl ⟨rfl, hC2 a1⟩⟩))))
            · exact ot_t rfl (ot_f (by decide) (ot_s ⟨nI_1 i, Or.inr ⟨rfl, hA0 b1⟩, Or.inl ⟨rfl, hC1 d1⟩⟩))
            · exact ot_t rfl (ot_t rfl (ot_f (by decide) (ot_s ⟨nI_1 i, Or.inr ⟨rfl, hA0 b1⟩, Or.inl ⟨rfl, hC2 a1⟩⟩)))
          · rcases q1 with ⟨rfl, b1⟩ | ⟨rfl, b1⟩ <;> rcases q2 with ⟨rfl, d1⟩ | ⟨rfl, d1⟩
            · exact ot_f (by decide) (ot_t rfl (ot_f (by decide) (ot_s ⟨nI_1 i, Or.inr ⟨rfl, hB0 a1⟩, Or.inl ⟨rfl, hC1 d1⟩⟩)))
            · exact ot_f (by decide) (ot_t rfl (ot_t rfl (ot_t rfl (ot_s ⟨nI_1 i, Or.inr ⟨rfl, hB0 a1⟩, Or.inr ⟨rfl, hC0 a1 d1⟩⟩))))
            · exact ot_t rfl (ot_f (by decide) (ot_s ⟨nI_1 i, Or.inr ⟨rfl, hB0 a1⟩, Or.inl ⟨rfl, hC1 d1⟩⟩))
            · exact ot_t rfl (ot_t rfl (ot_t rfl (ot_s ⟨nI_1 i, Or.inr ⟨rfl, hB0 a1⟩, Or.inr ⟨rfl, hC0 a1 d1⟩⟩)))
        · rcases q1 with ⟨h, b1⟩ | ⟨h, b1⟩
          · refine Or.inl ⟨h, fun v hv hp => ?_⟩
            by_cases hvi : v = i
            · rw [hvi] at hp; exact absurd hp c1
            · exact b1 v (by omega) hp
          · exact Or.inr ⟨h, fun b => b1 (fun v hv => b v (by omega))⟩
        · rcases q2 with ⟨h, v, d1, d2⟩ | ⟨h, d1⟩
          · exact Or.inl ⟨h, v, by omega, d2⟩
          · refine Or.inr ⟨h, fun ⟨v, f1, f2, f3⟩ => ?_⟩
            by_cases hvi : v = i
            · rw [hvi] at f2; exact c1 f2
            · exact d1 ⟨v, by omega, f2, f3⟩
      · rintro ⟨v3, v4, v5⟩ ⟨e1, q1, q2⟩
        dsimp only at e1 q1 q2
        subst e1
        unfold fn_X5_takeAway_l28
        dsimp only
        exact ot_t (by rw [nI_leI (by omega) (by omega)]; exact Nat.le_refl _) (ot_s ⟨q1, q2⟩)
    · rintro ⟨v3, v4, v5⟩ ⟨q1, q2⟩
      dsimp only at q1 q2 ⊢
      -- the taking itself
      have htake : tk_T n m fr to lb hw pf l p → ot_T (fn_X5_takeAway_j119 (nI n) pf (nI p) mlb mfi mnx (nI l) al ()) (fun r => (r.1 = 0 ∧ r.2 = al ∧ ¬ tk_T n m fr to lb hw pf l p) ∨ (r.1 = 1 ∧ tk_A n m fr lb pf l p al r.2 ∧ tk_T n m fr to lb hw pf l p)) := by
        intro hT
        unfold fn_X5_takeAway_j119
        refine ot_b (P := fun x => tk_A n m fr lb pf l p al x.2) ?_ (by rintro ⟨a, b⟩ h; exact ot_s (Or.inr ⟨rfl, h, hT⟩))
        refine ot_for (fun i x => x.1 = nI i ∧ (∀ v, v < n → (v < i → (al v = 1 ∧ pf v = nI p ∧ fp_ab m fr lb l v → x.2 v = 0) ∧ (¬ (al v = 1 ∧ pf v = nI p ∧ fp_ab m fr lb l v) → x.2 v = al v)) ∧ (i ≤ v → x.2 v = al v))) n ?_ ?_ 1000000 0 _ (Nat.zero_le _) ⟨nI_0.symm, fun v hv => ⟨fun h => absurd h (Nat.not_lt_zero v), fun _ => rfl⟩⟩ (by omega)
        · rintro i ⟨v5, al2⟩ hi ⟨e1, q⟩
          dsimp only at e1 q
          subst e1
          unfold fn_X5_takeAway_l122
          dsimp only
          simp only [cl_nI (show i < 2 ^ 31 by omega), nz_b0, nz_b1, (q i hi).2 (Nat.le_refl i)]
          refine ot_f (fun h => by rw [nI_leI (by omega) (by omega)] at h; omega) (ot_i (in_nI (by omega) (by decide)) ?_)
          have hset : ∀ x : Int32, ((al i = 1 ∧ pf i = nI p ∧ fp_ab m fr lb l i → x = 0) ∧ (¬ (al i = 1 ∧ pf i = nI p ∧ fp_ab m fr lb l i) → x = al i)) → ∀ v, v < n → (v < i + 1 → (al v = 1 ∧ pf v = nI p ∧ fp_ab m fr lb l v → upd al2 i x v = 0) ∧ (¬ (al v = 1 ∧ pf v = nI p ∧ fp_ab m fr lb l v) → upd al2 i x v = al v)) ∧ (i + 1 ≤ v → upd al2 i x v = al v) := by
            intro x hx v hv
            by_cases hvi : v = i
            · subst hvi; rw [upd_s]; exact ⟨fun _ => hx, fun h => by omega⟩
            · rw [upd_n hvi]; exact ⟨fun h => (q v hv).1 (by omega), fun h => (q v hv).2 (by omega)⟩
          rcases hz i hi with z1 | z1
          · exact ot_t z1 (ot_i (in_nI (by omega) (by decide)) (ot_s ⟨nI_1 i, hset 0 ⟨fun _ => rfl, fun _ => z1.symm⟩⟩))
          · refine ot_f (by rw [z1]; decide) (ot_i (in_nI (by omega) (by decide)) (ot_if (fun c1 => ?_) (fun c1 => ot_i (in_nI (by omega) (by decide)) (ot_s ⟨nI_1 i, hset 1 ⟨fun h => absurd h.2.1 c1, fun _ => z1.symm⟩⟩))))
            refine ot_b (sh_able hg ha hs hl hi) ?_
            rintro r (⟨rfl, a1⟩ | ⟨rfl, a1⟩)
            · exact ot_f (by decide) (ot_i (in_nI (by omega) (by decide)) (ot_s ⟨nI_1 i, hset 0 ⟨fun _ => rfl, fun h => absurd ⟨z1, c1, a1⟩ h⟩⟩))
            · exact ot_t rfl (ot_i (in_nI (by omega) (by decide)) (ot_s ⟨nI_1 i, hset 1 ⟨fun h => absurd h.2.2 a1, fun _ => z1.symm⟩⟩))
        · rintro ⟨v5, al2⟩ ⟨e1, q⟩
          dsimp only at e1 q
          subst e1
          unfold fn_X5_takeAway_l122
          dsimp only
          exact ot_t (by rw [nI_leI (by omega) (by omega)]; exact Nat.le_refl _) (ot_s (fun v hv => (q v hv).1 hv))
      refine ot_i (in_nI (by omega) (by decide)) (ot_if (fun c1 => ?_) (fun c1 => ?_))
      · rcases q1 with ⟨rfl, b1⟩ | ⟨rfl, b1⟩
        · exact ot_f (by decide) (htake ⟨c0, h1, fun _ => b1, fun h => absurd c1 h⟩)
        · exact ot_t rfl (ot_s (Or.inl ⟨rfl, rfl, fun h => b1 (h.2.2.1 c1)⟩))
      · rcases q2 with ⟨rfl, d1⟩ | ⟨rfl, d1⟩
        · exact ot_f (by decide) (htake ⟨c0, h1, fun h => absurd h c1, fun _ => d1⟩)
        · exact ot_t rfl (ot_s (Or.inl ⟨rfl, rfl, fun h => d1 (h.2.2.2 c1)⟩))
end SH
