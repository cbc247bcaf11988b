/-! PURE: the questions, on both sides, against one abstract graph -/
/-- the abstract graph is good -/
def gw_W (n m : Nat) (aj : Nat → List Nat) (fr to : Nat → Nat) (en hw : Nat → Int32) : Prop := gr_A n m aj fr to ∧ (∀ l, l < 16 → hw l = 0 ∨ hw l = 1 ∨ hw l = 2) ∧ (∀ v, v < n → en v = 0 ∨ en v = 1) ∧ ∀ v, v < n → (aj v).Nodup
/-- the class's cells of the graph -/
def cl_R (n m : Nat) (aj : Nat → List Nat) (fr to st : Nat → Nat) (lb ak en hw : Nat → Int32) (gE : Int32) (fk gas gie gab gfr gto glb gout gst : Nat → Int32) : Prop :=
  gc_R n m aj to st gto gout gst ∧ gs_R n m fr to lb gfr gto glb ∧ ab_R n m fr lb gab ∧ (∀ l, l < 16 → fk l = hw l) ∧ (∀ v, v < n → gas v = ak v) ∧ (∀ v, v < n → gie v = en v) ∧ (∀ v, n ≤ v → gab v = 0) ∧ gE = nI (cn_P (fun v => en v = 1) n)
/-- the model's cells of the graph -/
def ml_R (n m : Nat) (aj : Nat → List Nat) (fr to : Nat → Nat) (lb ak en hw : Nat → Int32) (mas mfr mto mlb mhw mfi mla mnx men : Nat → Int32) : Prop :=
  gm_R n m aj to mto mfi mnx ∧ gs_R n m fr to lb mfr mto mlb ∧ (∀ l, l < 16 → mhw l = hw l) ∧ (∀ v, v < n → mas v = ak v) ∧ (∀ v, v < n → men v = en v) ∧ ∀ v l j, v < n → aj v = l ++ [j] → mla v = nI j
/-- the model's caches -/
def me_D (n m : Nat) (aj : Nat → List Nat) (fr to : Nat → Nat) (lb ak hw : Nat → Int32) (kn co xl xp xw : Int32) (qu bm ir al its pf : Nat → Int32) : Prop :=
  wk_D n (bf_all aj to n) kn co qu bm ir ∧ ∀ a : Int32, ¬ a < 0 → xl = a → mk_D n m fr to lb hw (it_I n (bf_all aj to n) ak a) xp xw its al pf
section ASK
variable {n m : Nat} {aj : Nat → List Nat} {fr to st : Nat → Nat} {lb ak en hw : Nat → Int32} {gE : Int32} {fk gas gie gab gfr gto glb gout gst : Nat → Int32} {mas mfr mto mlb mhw mfi mla mnx men : Nat → Int32}
theorem it_lt {X : bf_X} {a : Int32} : ∀ v, it_I n X ak a v → v < n := fun _ h => h.1
/-- the class: fair parts -/
theorem qc_fair (hw0 : gw_W n m aj fr to en hw) (hc : cl_R n m aj fr to st lb ak en hw gE fk gas gie gab gfr gto glb gout gst) (a : Int32) {rf kf kcl ke kd ko : Int32} {li fa lm kc kn or et lo nx pt ops sz lw al ins gr : Nat → Int32} :
    ot_T (fn_X4_findFairParts (nI n) (nI m) rf kf kcl ke kd ko fk gas gab gfr gto glb gout gst li fa lm kc kn or et lo nx pt ops sz lw al ins gr a)
      (fun r => match r with | (_, kf, _, _, _, _, _, _, _, kc, kn, _, _, _, _, _, _, sz, lw, al, ins, gr) => kp_E n m fr to lb hw gab (it_I n (bf_all aj to n) ak a) kf kc kn sz lw al ins gr) := by
  obtain ⟨c1, c2, c3, c4, c5, c6, c7, c8⟩ := hc
  unfold fn_X4_findFairParts
  refine ot_b (ch_choose c1 c5 a) ?_
  rintro ⟨rf, li, fa, lm, kc⟩ ⟨q1, q2, q3, q4⟩
  dsimp only at q1 q2 q3 q4 ⊢
  refine ot_b (kp_keep c1 hw0.1 c2 c3 c4 q3 (fun v => by rw [q4])) ?_
  rintro ⟨kf, kcl, ke, kd, ko, kc, kn, or, et, lo, nx, pt, ops, sz, lw, al, ins, gr⟩ h
  dsimp only at h ⊢
  exact ot_s h
/-- the class: parts, with their sums -/
def qp_P (n m : Nat) (fr to : Nat → Nat) (lb gab : Nat → Int32) (I : Nat → Prop) (kf kcl : Int32) (kc or sz lw al ins gr : Nat → Int32) : Prop :=
  z01 n kc ∧ cz n kc = I ∧ ∃ (K od : Nat → Nat) (f c : Nat), kn_P n m fr to I K od f c ∧ kf = nI f ∧ kcl = nI c ∧ (∀ i, i < c → or i = nI (od i)) ∧ su_P n m fr to lb gab K f sz lw al ins gr
theorem qc_parts (hw0 : gw_W n m aj fr to en hw) (hc : cl_R n m aj fr to st lb ak en hw gE fk gas gie gab gfr gto glb gout gst) (a : Int32) {rf kf kcl ke kd ko : Int32} {li fa lm kc kn or et lo nx pt ops sz lw al ins gr : Nat → Int32} :
    ot_T (fn_X4_findParts (nI n) (nI m) rf kf kcl ke kd ko gas gab gfr gto glb gout gst li fa lm kc kn or et lo nx pt ops sz lw al ins gr a)
      (fun r => match r with | (_, kf, kcl, _, _, _, _, _, _, kc, _, or, _, _, _, _, _, sz, lw, al, ins, gr) => qp_P n m fr to lb gab (it_I n (bf_all aj to n) ak a) kf kcl kc or sz lw al ins gr) := by
  obtain ⟨c1, c2, c3, c4, c5, c6, c7, c8⟩ := hc
  have hn := c1.1
  have hm := c1.2.1
  unfold fn_X4_findParts
  refine ot_b (ch_choose c1 c5 a) ?_
  rintro ⟨rf, li, fa, lm, kc⟩ ⟨q1, q2, q3, q4⟩
  dsimp only at q1 q2 q3 q4 ⊢
  refine ot_b (kf_find c1 (cz_or q3)) ?_
  rintro ⟨kf, kcl, ke, kd, ko, kn, or, et, lo, nx, pt, ops⟩ ⟨K, od, f, c, h1, h2, h3, h4, h5⟩
  dsimp only at h1 h2 h3 h4 h5 ⊢
  have hK := kn_of c1 hw0.1 (fun v h => h.1) h1
  obtain ⟨k1, k2, k3, k4, k5, k6, k7, k8, k9, k10⟩ := id hK
  rw [h2]
  refine ot_b (su_take hn hm k9 c2 (cz_or q3) k1 k2 k4 h4) ?_
  rintro ⟨sz, lw, al, ins, gr⟩ h
  dsimp only at h ⊢
  refine ot_s ⟨q3, q4, K, od, f, c, by rw [← q4]; exact hK, rfl, h3, h5, h⟩
/-- the class: is it served always -/
theorem qc_live (hw0 : gw_W n m aj fr to en hw) (hc : cl_R n m aj fr to st lb ak en hw gE fk gas gie gab gfr gto glb gout gst) (a : Int32) {rf kf kcl ke kd ko : Int32} {li fa lm kc kn or et lo nx pt ops sz lw al ins gr : Nat → Int32} :
    ot_T (fn_X4_alwaysServed (nI n) (nI m) rf kf kcl ke kd ko fk gas gie gab gfr gto glb gout gst li fa lm kc kn or et lo nx pt ops sz lw al ins gr a)
      (fun r => (r.1 = 1 ∧ lv_P n m aj fr to lb hw en (it_I n (bf_all aj to n) ak a)) ∨ (r.1 = 0 ∧ ¬ lv_P n m aj fr to lb hw en (it_I n (bf_all aj to n) ak a))) := by
  obtain ⟨c1, c2, c3, c4, c5, c6, c7, c8⟩ := hc
  have hn := c1.1
  unfold fn_X4_alwaysServed
  refine ot_b (ch_choose c1 c5 a) ?_
  rintro ⟨rf, li, fa, lm, kc⟩ ⟨q1, q2, q3, q4⟩
  dsimp only at q1 q2 q3 q4 ⊢
  refine ot_b (de_C c1 c6 q3 0) ?_
  rintro r hr
  rw [q4] at hr
  rcases hr with ⟨i, i1, i2, i3, i4⟩ | ⟨h1, h2⟩
  · refine ot_f (by rw [i4]; exact nI_m1 (by omega)) (ot_s (Or.inr ⟨rfl, fun h => h.2 i i1 i2⟩))
  · refine ot_t h1 (ot_b (kp_keep c1 hw0.1 c2 c3 c4 q3 (fun v => by rw [q4])) ?_)
    rintro ⟨kf, kcl, ke, kd, ko, kc, kn, or, et, lo, nx, pt, ops, sz, lw, al, ins, gr⟩ h
    dsimp only at h ⊢
    have hno : ∀ v, v < n → ¬ dd_P aj en (it_I n (bf_all aj to n) ak a) v := by
      intro v hv hd
      obtain ⟨k, k1, k2⟩ := pk_least (fun v => v < n ∧ dd_P aj en (it_I n (bf_all aj to n) ak a) v) ⟨v, hv, hd⟩
      refine h2 ⟨k, k1.1, k1.2, ?_⟩
      have : cn_P (dd_P aj en (it_I n (bf_all aj to n) ak a)) k = 0 := by
        have hz : ∀ j, j ≤ k → cn_P (dd_P aj en (it_I n (bf_all aj to n) ak a)) j = 0 := by
          intro j
          induction j with
          | zero => intro _; rfl
          | succ j ih =>
            intro hj
            rw [cn_f (fun h => k2 j (by omega) ⟨by have := k1.1; omega, h⟩), ih (by omega)]
        exact hz k (Nat.le_refl _)
      rw [this, nI_0]
    have hxf := kp_xf h
    have hcn := cn_le (P := lo_Y m fr to (fu_F m fr to lb hw (it_I n (bf_all aj to n) ak a))) n
    by_cases h0 : cn_P (lo_Y m fr to (fu_F m fr to lb hw (it_I n (bf_all aj to n) ak a))) n = 0
    · exact ot_t (by rw [hxf, h0, nI_0]) (ot_s (Or.inl ⟨rfl, h0, hno⟩))
    · exact ot_f (by rw [hxf]; exact nI_ne0 (by omega) (by omega)) (ot_s (Or.inr ⟨rfl, fun q => h0 q.1⟩))
/-- the model: look -/
theorem qm_look (hw0 : gw_W n m aj fr to en hw) (hm0 : ml_R n m aj fr to lb ak en hw mas mfr mto mlb mhw mfi mla mnx men) {a : Int32} (ha : ¬ a < 0) {kn co xl xp xw : Int32} {qu bm ir al re its pf : Nat → Int32} (hd : me_D n m aj fr to lb ak hw kn co xl xp xw qu bm ir al its pf) :
    ot_T (fn_X5_look (nI n) (nI m) kn co xl xp xw mas mfr mto mlb mhw mfi mnx qu bm ir al re its pf a)
      (fun r => match r with | (kn, co, xl, xp, xw, qu, bm, ir, al, _, its, pf) => me_D n m aj fr to lb ak hw kn co xl xp xw qu bm ir al its pf ∧ mk_D n m fr to lb hw (it_I n (bf_all aj to n) ak a) xp xw its al pf) := by
  obtain ⟨m1, m2, m3, m4, m5, m6⟩ := hm0
  refine ot_m (lk_look m1 hw0.1 m2 m3 hw0.2.1 m4 a hd.1 (fun e => hd.2 a ha e)) ?_
  rintro ⟨kn, co, xl, xp, xw, qu, bm, ir, al, re, its, pf⟩ ⟨h1, h2, h3⟩
  dsimp only at h1 h2 h3 ⊢
  exact ⟨⟨h1, fun b _ hb2 => by rw [← hb2, h2]; exact h3⟩, h3⟩
/-- the model: is it live -/
theorem qm_live (hw0 : gw_W n m aj fr to en hw) (hm0 : ml_R n m aj fr to lb ak en hw mas mfr mto mlb mhw mfi mla mnx men) {a : Int32} (ha : ¬ a < 0) {kn co xl xp xw : Int32} {qu bm ir al re its pf : Nat → Int32} (hd : me_D n m aj fr to lb ak hw kn co xl xp xw qu bm ir al its pf) :
    ot_T (fn_X5_isLive (nI n) (nI m) kn co xl xp xw mas mfr mto mlb mhw mfi mnx men qu bm ir al re its pf a)
      (fun r => match r with | (r, kn, co, xl, xp, xw, qu, bm, ir, al, _, its, pf) => me_D n m aj fr to lb ak hw kn co xl xp xw qu bm ir al its pf ∧ ((r = 1 ∧ lv_P n m aj fr to lb hw en (it_I n (bf_all aj to n) ak a)) ∨ (r = 0 ∧ ¬ lv_P n m aj fr to lb hw en (it_I n (bf_all aj to n) ak a)))) := by
  obtain ⟨m1, m2, m3, m4, m5, m6⟩ := id hm0
  have hn := m1.1
  unfold fn_X5_isLive
  refine ot_b (qm_look hw0 hm0 ha hd) ?_
  rintro ⟨kn, co, xl, xp, xw, qu, bm, ir, al, re, its, pf⟩ ⟨h1, h2⟩
  dsimp only at h1 h2 ⊢
  have hxp := mp_xp h2.2.2.1
  have hcn := cn_le (P := lo_Y m fr to (fu_F m fr to lb hw (it_I n (bf_all aj to n) ak a))) n
  have key : ∀ t0 : Int32, (t0 = 1 ∧ cn_P (lo_Y m fr to (fu_F m fr to lb hw (it_I n (bf_all aj to n) ak a))) n = 0) ∨ (t0 = 0 ∧ ¬ cn_P (lo_Y m fr to (fu_F m fr to lb hw (it_I n (bf_all aj to n) ak a))) n = 0) →
      ot_T (fn_X5_isLive_j17 (nI n) mfi men its kn co xl xp xw qu bm ir al re pf t0) (fun r => match r with | (r, kn, co, xl, xp, xw, qu, bm, ir, al, _, its, pf) => me_D n m aj fr to lb ak hw kn co xl xp xw qu bm ir al its pf ∧ ((r = 1 ∧ lv_P n m aj fr to lb hw en (it_I n (bf_all aj to n) ak a)) ∨ (r = 0 ∧ ¬ lv_P n m aj fr to lb hw en (it_I n (bf_all aj to n) ak a)))) := by
    intro t0 ht
    unfold fn_X5_isLive_j17
    dsimp only
    refine ot_b (il_M m1 m5 h2.1 (t0 := t0) (by rcases ht with h | h; exact Or.inr h.1; exact Or.inl h.1)) ?_
    rintro ⟨v2, v3⟩ h3
    dsimp only at h3 ⊢
    rw [h2.2.1] at h3
    refine ot_z (by rcases h3 with h | h; exact Or.inr h.1; exact Or.inl h.1) (ot_s ⟨h1, ?_⟩)
    rcases h3 with ⟨g1, g2, g3⟩ | ⟨g1, g2⟩
    · refine Or.inl ⟨g1, ?_, g3⟩
      rcases ht with h | h
      · exact h.2
      · rw [h.1] at g2; exact absurd g2 (by decide)
    · refine Or.inr ⟨g1, fun h => g2 ⟨?_, h.2⟩⟩
      rcases ht with q | q
      · exact q.1
      · exact absurd h.1 q.2
  by_cases h0 : cn_P (lo_Y m fr to (fu_F m fr to lb hw (it_I n (bf_all aj to n) ak a))) n = 0
  · exact ot_t (by rw [hxp, h0, nI_0]) (key 1 (Or.inl ⟨rfl, h0⟩))
  · exact ot_f (by rw [hxp]; exact nI_ne0 (by omega) (by omega)) (key 0 (Or.inr ⟨rfl, h0⟩))
/-- both count live asks -/
theorem qc_asks (hw0 : gw_W n m aj fr to en hw) (hc : cl_R n m aj fr to st lb ak en hw gE fk gas gie gab gfr gto glb gout gst) {rf kf kcl ke kd ko : Int32} {li fa lm kc kn or et lo nx pt ops sz lw al ins gr : Nat → Int32} :
    ot_T (fn_X4_liveAsks (nI n) (nI m) rf kf kcl ke kd ko fk gas gie gab gfr gto glb gout gst li fa lm kc kn or et lo nx pt ops sz lw al ins gr)
      (fun r => r.1 = nI (cn_P (fun i => lv_P n m aj fr to lb hw en (it_I n (bf_all aj to n) ak (nI i))) 8)) := by
  unfold fn_X4_liveAsks
  refine ot_b (P := fun x => x.1 = nI (cn_P (fun i => lv_P n m aj fr to lb hw en (it_I n (bf_all aj to n) ak (nI i))) 8)) ?_ ?_
  · refine ot_for (fun i x => x.1 = nI (cn_P (fun i => lv_P n m aj fr to lb hw en (it_I n (bf_all aj to n) ak (nI i))) i) ∧ x.2.1 = nI i) 8 ?_ ?_ 1000000 0 _ (Nat.zero_le _) ⟨by rw [show cn_P (fun i => lv_P n m aj fr to lb hw en (it_I n (bf_all aj to n) ak (nI i))) 0 = 0 from rfl, nI_0], nI_0.symm⟩ (by omega)
    · rintro i ⟨v1, v2, rf, kf, kcl, ke, kd, ko, li, fa, lm, kc, kn, or, et, lo, nx, pt, ops, sz, lw, al, ins, gr⟩ hi ⟨e1, e2⟩
      dsimp only at e1 e2
      subst e1
      subst e2
      unfold fn_X4_liveAsks_l4
      dsimp only
      refine ot_f (fun h => by rw [show (8 : Int32) = nI 8 from rfl, nI_leI (by omega) (by omega)] at h; omega) (ot_b (qc_live hw0 hc (nI i)) ?_)
      rintro ⟨r, rf, kf, kcl, ke, kd, ko, li, fa, lm, kc, kn, or, et, lo, nx, pt, ops, sz, lw, al, ins, gr⟩ h
      dsimp only at h ⊢
      rcases h with ⟨h1, h2⟩ | ⟨h1, h2⟩
      · refine ot_f (by rw [h1]; decide) (ot_s ⟨?_, nI_1 i⟩)
        dsimp only
        rw [nI_1, cn_t (P := fun i => lv_P n m aj fr to lb hw en (it_I n (bf_all aj to n) ak (nI i))) h2]
      · refine ot_t h1 (ot_s ⟨?_, nI_1 i⟩)
        dsimp only
        rw [cn_f (P := fun i => lv_P n m aj fr to lb hw en (it_I n (bf_all aj to n) ak (nI i))) h2]
    · rintro ⟨v1, v2, rf, kf, kcl, ke, kd, ko, li, fa, lm, kc, kn, or, et, lo, nx, pt, ops, sz, lw, al, ins, gr⟩ ⟨e1, e2⟩
      dsimp only at e1 e2
      subst e2
      unfold fn_X4_liveAsks_l4
      dsimp only
      exact ot_t (by decide) (ot_s e1)
  · rintro ⟨v1, v2, rf, kf, kcl, ke, kd, ko, li, fa, lm, kc, kn, or, et, lo, nx, pt, ops, sz, lw, al, ins, gr⟩ h
    exact ot_s h
theorem qm_asks (hw0 : gw_W n m aj fr to en hw) (hm0 : ml_R n m aj fr to lb ak en hw mas mfr mto mlb mhw mfi mla mnx men) {kn co xl xp xw : Int32} {qu bm ir al re its pf : Nat → Int32} (hd : me_D n m aj fr to lb ak hw kn co xl xp xw qu bm ir al its pf) :
    ot_T (ox_l (fn_X5_count_l131 (nI n) (nI m) mas mfr mto mlb mhw mfi mnx men) 1000000 (0, 0, kn, co, xl, xp, xw, qu, bm, ir, al, re, its, pf))
      (fun r => match r with | (r, _, kn, co, xl, xp, xw, qu, bm, ir, al, _, its, pf) => me_D n m aj fr to lb ak hw kn co xl xp xw qu bm ir al its pf ∧ r = nI (cn_P (fun i => lv_P n m aj fr to lb hw en (it_I n (bf_all aj to n) ak (nI i))) 8)) := by
  refine ot_for (fun i x => match x with | (r, v, kn, co, xl, xp, xw, qu, bm, ir, al, _, its, pf) => v = nI i ∧ me_D n m aj fr to lb ak hw kn co xl xp xw qu bm ir al its pf ∧ r = nI (cn_P (fun i => lv_P n m aj fr to lb hw en (it_I n (bf_all aj to n) ak (nI i))) i)) 8 ?_ ?_ 1000000 0 _ (Nat.zero_le _) ⟨nI_0.symm, hd, by rw [show cn_P (fun i => lv_P n m aj fr to lb hw en (it_I n (bf_all aj to n) ak (nI i))) 0 = 0 from rfl, nI_0]⟩ (by omega)
  · rintro i ⟨v1, v2, kn, co, xl, xp, xw, qu, bm, ir, al, re, its, pf⟩ hi ⟨e1, e2, e3⟩
    subst e1
    subst e3
    unfold fn_X5_count_l131
    dsimp only
    refine ot_f (fun h => by rw [show (8 : Int32) = nI 8 from rfl, nI_leI (by omega) (by omega)] at h; omega) (ot_b (qm_live hw0 hm0 (a := nI i) (nI_pos (by omega)) e2) ?_)
    rintro ⟨r, kn, co, xl, xp, xw, qu, bm, ir, al, re, its, pf⟩ ⟨h, h12⟩
    dsimp only at h h12 ⊢
    rcases h12 with ⟨h1, h2⟩ | ⟨h1, h2⟩
    · refine ot_f (by rw [h1]; decide) (ot_s ⟨nI_1 i, h, ?_⟩)
      rw [nI_1, cn_t (P := fun i => lv_P n m aj fr to lb hw en (it_I n (bf_all aj to n) ak (nI i))) h2]
    · refine ot_t h1 (ot_s ⟨nI_1 i, h, ?_⟩)
      rw [cn_f (P := fun i => lv_P n m aj fr to lb hw en (it_I n (bf_all aj to n) ak (nI i))) h2, Int32.add_zero]
  · rintro ⟨v1, v2, kn, co, xl, xp, xw, qu, bm, ir, al, re, its, pf⟩ ⟨e1, e2, e3⟩
    subst e1
    unfold fn_X5_count_l131
    dsimp only
    exact ot_t (by decide) (ot_s ⟨e2, e3⟩)
/-- the class: largest part; ranks where nothing goes round -/
theorem qc_largest (hw0 : gw_W n m aj fr to en hw) (hc : cl_R n m aj fr to st lb ak en hw gE fk gas gie gab gfr gto glb gout gst) {I : Nat → Prop} (hI : ∀ v, I v → v < n) {kf kcl : Int32} {kc or sz lw al ins gr : Nat → Int32} (hq : qp_P n m fr to lb gab I kf kcl kc or sz lw al ins gr) :
    ot_T (fn_X3_largestSize sz gr kf) (fun r => ∃ L, r = nI L ∧ L ≤ 200 ∧ lg_M n m fr to I L) := by
  obtain ⟨q1, q2, K, od, f, c, q3, q4, q5, q6, q7⟩ := hq
  rw [q4]
  exact lg_C hc.1.1 hw0.1 hI q3 q7
/-- ranks: a function that falls, below 200; its highest value on a set -/
def rx_P (m : Nat) (fr to : Nat → Nat) (I : Nat → Prop) (rho : Nat → Nat) (H : Nat) : Prop := rk_P m fr to I rho ∧ (∀ v, I v → rho v < 200) ∧ (∀ v, I v → rho v ≤ H) ∧ (H = 0 ∨ ∃ v, I v ∧ rho v = H)
theorem rx_one {I : Nat → Prop} {g h : Nat → Nat} {H H' : Nat} (hg : rx_P m fr to I g H) (hh : rk_P m fr to I h) (h1 : ∀ v, I v → h v ≤ H') (h2 : H' = 0 ∨ ∃ v, I v ∧ h v = H') : H = H' := by
  obtain ⟨g1, g2, g3, g4⟩ := hg
  apply Nat.le_antisymm
  · rcases g4 with e | ⟨v, v1, v2⟩
    · omega
    · have := h1 v v1
      have := rk_one g1 hh v1
      omega
  · rcases h2 with e | ⟨v, v1, v2⟩
    · omega
    · have := g3 v v1
      have := rk_one g1 hh v1
      omega
theorem qc_ranks (hw0 : gw_W n m aj fr to en hw) (hc : cl_R n m aj fr to st lb ak en hw gE fk gas gie gab gfr gto glb gout gst) {I : Nat → Prop} (hI : ∀ v, I v → v < n) {kf kcl : Int32} {kc or sz lw al ins gr rk : Nat → Int32} (hq : qp_P n m fr to lb gab I kf kcl kc or sz lw al ins gr) (h0 : lg_M n m fr to I 0) :
    ot_T (fn_X4_fillRanks kcl rk gto gout gst kc or) (fun r => ∃ rho H, rx_P m fr to I rho H ∧ r.1 = nI H ∧ ∀ v, I v → r.2 v = nI (rho v)) := by
  obtain ⟨q1, q2, K, od, f, c, q3, q4, q5, q6, q7⟩ := hq
  rw [q5]
  rw [← q2] at q3 h0 ⊢
  refine ot_m (rk_fill hc.1 hw0.1 q1 q3 (lg_no (fun v h => h.1) h0) q6) ?_
  rintro r ⟨rho, H, r1, r2, r3, r4, r5⟩
  exact ⟨rho, H, ⟨r1, fun v hv => (r2 v hv).2, r4, r5⟩, r3, fun v hv => (r2 v hv).1⟩
/-- the model: measure -/
theorem qm_measure (hw0 : gw_W n m aj fr to en hw) (hm0 : ml_R n m aj fr to lb ak en hw mas mfr mto mlb mhw mfi mla mnx men) {a : Int32} (ha : ¬ a < 0) {kn co xl xp xw : Int32} {qu bm ir al re its pf lf : Nat → Int32} (hd : me_D n m aj fr to lb ak hw kn co xl xp xw qu bm ir al its pf) {L : Nat} (hL : lg_M n m fr to (it_I n (bf_all aj to n) ak a) L) {rho : Nat → Nat} {H : Nat} (hr : L = 0 → rx_P m fr to (it_I n (bf_all aj to n) ak a) rho H) :
    ot_T (fn_X5_measure (nI n) (nI m) kn co xl xp xw mas mfr mto mlb mhw mfi mnx qu bm ir al re its pf lf a)
      (fun r => match r with | (r, kn, co, xl, xp, xw, qu, bm, ir, al, _, its, pf, lf) => me_D n m aj fr to lb ak hw kn co xl xp xw qu bm ir al its pf ∧ z01 n its ∧ cz n its = it_I n (bf_all aj to n) ak a ∧ ((¬ L = 0 ∧ r = 0) ∨ (L = 0 ∧ r = 1 ∧ (∀ v, it_I n (bf_all aj to n) ak a v → lf v = nI (rho v)) ∧ ∀ v, v < n → ¬ it_I n (bf_all aj to n) ak a v → lf v = -1))) := by
  obtain ⟨m1, m2, m3, m4, m5, m6⟩ := id hm0
  have hn := m1.1
  have hm := m1.2.1
  unfold fn_X5_measure
  refine ot_b (qm_look hw0 hm0 ha hd) ?_
  rintro ⟨kn, co, xl, xp, xw, qu, bm, ir, al, re, its, pf⟩ ⟨h1, h2⟩
  dsimp only at h1 h2 ⊢
  obtain ⟨z1, z2, z3, L', z4, z5, z6⟩ := id h2
  have hLL := lg_one z6 hL
  rw [hLL] at z4 z5
  refine ot_b (ms_start hn z1) ?_
  rintro ⟨v2, lf⟩ ⟨s1, s2⟩
  dsimp only at s1 s2 ⊢
  by_cases h0 : L = 0
  · refine ot_t (by rw [z4, h0]; decide) ?_
    have hrr := hr h0
    rw [← z2] at hrr
    refine ot_b (ms_more hm hn m2 z1 hrr.1 hrr.2.1 (g0 := fun _ => 0) ⟨fun v hv => ⟨by rw [s1 v hv, nI_0], Nat.zero_le _⟩, s2⟩) ?_
    rintro ⟨v2, lf⟩ ⟨t1, t2⟩
    dsimp only at t1 t2 ⊢
    rw [z2] at t1 t2
    exact ot_s ⟨h1, z1, z2, Or.inr ⟨h0, rfl, t1, t2⟩⟩
  · exact ot_f (by rw [z4]; exact nI_nle (by omega) (by omega)) (ot_s ⟨h1, z1, z2, Or.inl ⟨h0, rfl⟩⟩)
end ASK
