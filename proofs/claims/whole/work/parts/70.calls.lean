/-! PURE: the calls, on both sides -/
theorem vl_0 {o : Nat → Int64} {v : Int64} : vp_updL o 0 v 0 = v := if_pos rfl
theorem ox_b_s {α β : Type} {a : α} {k : α → Option β} : ox_b (some a) k = k a := rfl
theorem ox_b_n {α β : Type} {k : α → Option β} : ox_b none k = none := rfl
theorem ox_x_s {τ α : Type} {t : τ} {k : τ → Option α} {r : Option α} : ox_x (some t) k r = k t := rfl
theorem ox_x_n {τ α : Type} {k : τ → Option α} {r : Option α} : ox_x none k r = r := rfl
theorem i7_8 {a : Int32} : a ≤ 7 ↔ a < 8 := by
  rw [Int32.le_iff_toInt_le, Int32.lt_iff_toInt_lt]
  have h1 : (7 : Int32).toInt = 7 := rfl
  have h2 : (8 : Int32).toInt = 8 := rfl
  omega
theorem ra_bad {a t : Int32} (h : a < 0 ∨ ¬ a < 8) : gn_X4_refuseWrongAsk a = some 1 ∧ fn_X5_isAsk t a = some (0, 1) := by
  unfold gn_X4_refuseWrongAsk gn_X4_refuseWrongAsk_j10 fn_X5_isAsk
  by_cases h0 : a < 0
  · rw [if_pos h0, if_pos h0]; exact ⟨rfl, rfl⟩
  · have h1 : ¬ a < 8 := h.resolve_left h0
    rw [if_neg h0, if_neg h1, if_neg h0, if_neg (fun q => h1 (i7_8.mp q))]; exact ⟨rfl, rfl⟩
theorem ra_ok {a t : Int32} (h0 : ¬ a < 0) (h1 : a < 8) : gn_X4_refuseWrongAsk a = none ∧ fn_X4_refuseWrongAsk a = some () ∧ fn_X5_isAsk t a = some (1, 0) := by
  unfold gn_X4_refuseWrongAsk fn_X4_refuseWrongAsk fn_X5_isAsk
  rw [if_neg h0, if_neg h0, if_neg h0, if_pos h1, if_pos h1, if_pos (i7_8.mpr h1)]; exact ⟨rfl, rfl, rfl⟩
theorem nI_up (b : Int32) : b.toNatClampNeg < 2 ^ 31 := by
  have := Int32.toInt_lt b
  unfold Int32.toNatClampNeg
  omega
theorem nI_oc {b : Int32} (h : ¬ b < 0) : nI b.toNatClampNeg = b := by
  apply Int32.toInt_inj.mp
  rw [nI_toInt (nI_up b)]
  rw [Int32.lt_iff_toInt_lt] at h
  have h0 : (0 : Int32).toInt = 0 := rfl
  unfold Int32.toNatClampNeg
  omega
theorem rs_bad {n : Nat} {b : Int32} (h : b < 0 ∨ nI n ≤ b) : gn_X4_refuseWrongState (nI n) b = some 3 ∧ fn_X5_isState (nI n) b = some 0 := by
  unfold gn_X4_refuseWrongState fn_X0_hasState fn_X5_isState
  by_cases h0 : b < 0
  · simp only [if_pos h0, ox_b_s, if_true]; exact ⟨by trivial, by trivial⟩
  · simp only [if_neg h0, if_pos (h.resolve_left h0), ox_b_s, if_true]; exact ⟨by trivial, by trivial⟩
theorem rs_ok {n : Nat} {b : Int32} (h : ¬ (b < 0 ∨ nI n ≤ b)) : gn_X4_refuseWrongState (nI n) b = none ∧ fn_X4_refuseWrongState (nI n) b = some () ∧ fn_X5_isState (nI n) b = some 1 := by
  unfold gn_X4_refuseWrongState fn_X4_refuseWrongState fn_X0_hasState fn_X5_isState
  have h0 : ¬ b < 0 := fun q => h (Or.inl q)
  have h1 : ¬ nI n ≤ b := fun q => h (Or.inr q)
  simp only [if_neg h0, if_neg h1, ox_b_s]
  exact ⟨by trivial, by trivial, by trivial⟩
theorem rs_at {n : Nat} {b : Int32} (hn : n ≤ 200) (h : ¬ (b < 0 ∨ nI n ≤ b)) : ∃ v, v < n ∧ b = nI v := by
  have h0 : ¬ b < 0 := fun q => h (Or.inl q)
  have h1 : ¬ nI n ≤ b := fun q => h (Or.inr q)
  refine ⟨b.toNatClampNeg, ?_, (nI_oc h0).symm⟩
  have h2 := nI_oc h0
  rw [← h2, nI_leI (by omega) (nI_up b)] at h1
  omega
section CALL
variable {n m : Nat} {aj : Nat → List Nat} {fr to st : Nat → Nat} {lb ak en hw : Nat → Int32} {gE : Int32} {fk gas gie gab gfr gto glb gout gst : Nat → Int32} {mas mfr mto mlb mhw mfi mla mnx men : Nat → Int32}
variable {rf kf kcl ke kd ko : Int32} {li fa lm kc kn or et lo nx pt ops sz lw al ins gr rk : Nat → Int32} {o : Nat → Int64} {th mkn mco mxl mxp mxw : Int32} {qu bm row ir mal re its pf lf : Nat → Int32}
set_option maxHeartbeats 1000000 in
theorem ca_live (hw0 : gw_W n m aj fr to en hw) (hc : cl_R n m aj fr to st lb ak en hw gE fk gas gie gab gfr gto glb gout gst) (hm0 : ml_R n m aj fr to lb ak en hw mas mfr mto mlb mhw mfi mla mnx men) (hd : me_D n m aj fr to lb ak hw mkn mco mxl mxp mxw qu bm ir mal its pf) (a : Int32) : ∃ k r : Int32, (r = 0 ∨ r = 1) ∧ ot_T (fn_L_live (nI n) (nI m) rf kf kcl ke kd ko fk gas gie gab gfr gto glb gout gst li fa lm kc kn or et lo nx pt ops sz lw al ins gr o a) (fun x => match x with | (k1, _, _, _, _, _, _, _, _, _, _, _, _, _, _, _, _, _, _, _, _, _, _, o1) => k1 = k ∧ (k = 0 → o1 0 = r.toInt64)) ∧ ot_T (fn_X5_live th (nI n) (nI m) mkn mco mxl mxp mxw mas mfr mto mlb mhw mfi mnx men qu bm ir mal re its pf a) (fun x => match x with | (r1, t1, mkn, mco, mxl, mxp, mxw, qu, bm, ir, mal, re, its, pf) => t1 = k ∧ (k = 0 → r1 = r) ∧ me_D n m aj fr to lb ak hw mkn mco mxl mxp mxw qu bm ir mal its pf) := by
  by_cases hb : a < 0 ∨ ¬ a < 8
  · obtain ⟨g1, g2⟩ := ra_bad (t := th) hb
    refine ⟨1, 0, Or.inl rfl, ?_, ?_⟩
    · unfold fn_L_live gn_X4_live
      simp only [g1, ox_x_s]
      exact ot_t (by trivial) (ot_s ⟨rfl, fun h => absurd h (by decide)⟩)
    · unfold fn_X5_live
      simp only [g2, ox_b_s]
      exact ot_t (by trivial) (ot_s ⟨rfl, fun h => absurd h (by decide), hd⟩)
  have h0 : ¬ a < 0 := fun h => hb (Or.inl h)
  have h1 : a < 8 := Decidable.byContradiction (fun h => hb (Or.inr h))
  obtain ⟨g1, g2, g3⟩ := ra_ok (t := th) h0 h1
  obtain ⟨c1, c2, c3, c4, c5, c6, c7, c8⟩ := id hc
  obtain ⟨m1, m2, m3, m4, m5, m6⟩ := id hm0
  have hn := c1.1
  by_cases hl : lv_P n m aj fr to lb hw en (it_I n (bf_all aj to n) ak a)
  · refine ⟨0, 1, Or.inr rfl, ?_, ?_⟩
    · unfold fn_L_live gn_X4_live fn_X4_live
      simp only [g1, g2, ox_x_n, ox_b_s]
      refine ot_b (P := fun x => x.1 = 1) (ot_b (qc_live hw0 hc a) ?_) ?_
      · rintro ⟨q, rf, kf, kcl, ke, kd, ko, li, fa, lm, kc, kn, or, et, lo, nx, pt, ops, sz, lw, al, ins, gr⟩ h
        have h := h.resolve_right (fun h => h.2 hl)
        exact ot_z (Or.inr h.1) (ot_s h.1)
      · rintro ⟨q, rf, kf, kcl, ke, kd, ko, li, fa, lm, kc, kn, or, et, lo, nx, pt, ops, sz, lw, al, ins, gr⟩ h
        dsimp only at h ⊢
        subst h
        exact ot_f (by decide) (ot_s ⟨rfl, fun _ => vl_0 (o := o)⟩)
    · unfold fn_X5_live
      simp only [g3, ox_b_s]
      refine ot_f (by decide) (ot_b (qm_live hw0 hm0 h0 hd) ?_)
      rintro ⟨q, mkn, mco, mxl, mxp, mxw, qu, bm, ir, mal, re, its, pf⟩ ⟨h, h9⟩
      dsimp only at h h9 ⊢
      have h9 := h9.resolve_right (fun h => h.2 hl)
      exact ot_f (by rw [h9.1]; decide) (ot_s ⟨rfl, fun _ => rfl, h⟩)
  · refine ⟨0, 0, Or.inl rfl, ?_, ?_⟩
    · unfold fn_L_live gn_X4_live fn_X4_live
      simp only [g1, g2, ox_x_n, ox_b_s]
      refine ot_b (P := fun x => x.1 = 0) (ot_b (qc_live hw0 hc a) ?_) ?_
      · rintro ⟨q, rf, kf, kcl, ke, kd, ko, li, fa, lm, kc, kn, or, et, lo, nx, pt, ops, sz, lw, al, ins, gr⟩ h
        have h := h.resolve_left (fun h => hl h.2)
        exact ot_z (Or.inl h.1) (ot_s h.1)
      · rintro ⟨q, rf, kf, kcl, ke, kd, ko, li, fa, lm, kc, kn, or, et, lo, nx, pt, ops, sz, lw, al, ins, gr⟩ h
        dsimp only at h ⊢
        subst h
        exact ot_t (by trivial) (ot_s ⟨rfl, fun _ => vl_0 (o := o)⟩)
    · unfold fn_X5_live
      simp only [g3, ox_b_s]
      refine ot_f (by decide) (ot_b (qm_live hw0 hm0 h0 hd) ?_)
      rintro ⟨q, mkn, mco, mxl, mxp, mxw, qu, bm, ir, mal, re, its, pf⟩ ⟨h, h9⟩
      dsimp only at h h9 ⊢
      have h9 := h9.resolve_left (fun h => hl h.2)
      exact ot_t h9.1 (ot_s ⟨rfl, fun _ => rfl, h⟩)
set_option maxHeartbeats 1000000 in
theorem ca_parts (hw0 : gw_W n m aj fr to en hw) (hc : cl_R n m aj fr to st lb ak en hw gE fk gas gie gab gfr gto glb gout gst) (hm0 : ml_R n m aj fr to lb ak en hw mas mfr mto mlb mhw mfi mla mnx men) (hd : me_D n m aj fr to lb ak hw mkn mco mxl mxp mxw qu bm ir mal its pf) (a : Int32) : ∃ k r : Int32, ot_T (fn_L_parts (nI n) (nI m) rf kf kcl ke kd ko fk gas gab gfr gto glb gout gst li fa lm kc kn or et lo nx pt ops sz lw al ins gr o a) (fun x => match x with | (k1, _, _, _, _, _, _, _, _, _, _, _, _, _, _, _, _, _, _, _, _, _, _, o1) => k1 = k ∧ (k = 0 → o1 0 = r.toInt64)) ∧ ot_T (fn_X5_parts th (nI n) (nI m) mkn mco mxl mxp mxw mas mfr mto mlb mhw mfi mnx qu bm ir mal re its pf a) (fun x => match x with | (r1, t1, mkn, mco, mxl, mxp, mxw, qu, bm, ir, mal, re, its, pf) => t1 = k ∧ (k = 0 → r1 = r) ∧ me_D n m aj fr to lb ak hw mkn mco mxl mxp mxw qu bm ir mal its pf) := by
  by_cases hb : a < 0 ∨ ¬ a < 8
  · obtain ⟨g1, g2⟩ := ra_bad (t := th) hb
    refine ⟨1, 0, ?_, ?_⟩
    · unfold fn_L_parts gn_X4_parts
      simp only [g1, ox_x_s]
      exact ot_t (by trivial) (ot_s ⟨rfl, fun h => absurd h (by decide)⟩)
    · unfold fn_X5_parts
      simp only [g2, ox_b_s]
      exact ot_t (by trivial) (ot_s ⟨rfl, fun h => absurd h (by decide), hd⟩)
  have h0 : ¬ a < 0 := fun h => hb (Or.inl h)
  have h1 : a < 8 := Decidable.byContradiction (fun h => hb (Or.inr h))
  obtain ⟨g1, g2, g3⟩ := ra_ok (t := th) h0 h1
  obtain ⟨c1, c2, c3, c4, c5, c6, c7, c8⟩ := id hc
  obtain ⟨m1, m2, m3, m4, m5, m6⟩ := id hm0
  have hn := c1.1
  refine ⟨0, nI (cn_P (lo_Y m fr to (fu_F m fr to lb hw (it_I n (bf_all aj to n) ak a))) n), ?_, ?_⟩
  · unfold fn_L_parts gn_X4_parts fn_X4_parts
    simp only [g1, g2, ox_x_n, ox_b_s]
    refine ot_b (P := fun x => x.1 = nI (cn_P (lo_Y m fr to (fu_F m fr to lb hw (it_I n (bf_all aj to n) ak a))) n)) (ot_b (qc_fair hw0 hc a) ?_) ?_
    · rintro ⟨rf, kf, kcl, ke, kd, ko, li, fa, lm, kc, kn, or, et, lo, nx, pt, ops, sz, lw, al, ins, gr⟩ h
      exact ot_s (kp_xf h)
    · rintro ⟨q, rf, kf, kcl, ke, kd, ko, li, fa, lm, kc, kn, or, et, lo, nx, pt, ops, sz, lw, al, ins, gr⟩ h
      dsimp only at h ⊢
      exact ot_s ⟨rfl, fun _ => by rw [← h]; exact vl_0 (o := o)⟩
  · unfold fn_X5_parts
    simp only [g3, ox_b_s]
    refine ot_f (by decide) (ot_b (qm_look hw0 hm0 h0 hd) ?_)
    rintro ⟨mkn, mco, mxl, mxp, mxw, qu, bm, ir, mal, re, its, pf⟩ ⟨h, h9⟩
    dsimp only at h h9 ⊢
    exact ot_s ⟨rfl, fun _ => mp_xp h9.2.2.1, h⟩
set_option maxHeartbeats 1000000 in
theorem ca_largest (hw0 : gw_W n m aj fr to en hw) (hc : cl_R n m aj fr to st lb ak en hw gE fk gas gie gab gfr gto glb gout gst) (hm0 : ml_R n m aj fr to lb ak en hw mas mfr mto mlb mhw mfi mla mnx men) (hd : me_D n m aj fr to lb ak hw mkn mco mxl mxp mxw qu bm ir mal its pf) (a : Int32) : ∃ k r : Int32, ot_T (fn_L_largest (nI n) (nI m) rf kf kcl ke kd ko gas gab gfr gto glb gout gst li fa lm kc kn or et lo nx pt ops sz lw al ins gr o a) (fun x => match x with | (k1, _, _, _, _, _, _, _, _, _, _, _, _, _, _, _, _, _, _, _, _, _, _, o1) => k1 = k ∧ (k = 0 → o1 0 = r.toInt64)) ∧ ot_T (fn_X5_largest th (nI n) (nI m) mkn mco mxl mxp mxw mas mfr mto mlb mhw mfi mnx qu bm ir mal re its pf a) (fun x => match x with | (r1, t1, mkn, mco, mxl, mxp, mxw, qu, bm, ir, mal, re, its, pf) => t1 = k ∧ (k = 0 → r1 = r) ∧ me_D n m aj fr to lb ak hw mkn mco mxl mxp mxw qu bm ir mal its pf) := by
  by_cases hb : a < 0 ∨ ¬ a < 8
  · obtain ⟨g1, g2⟩ := ra_bad (t := th) hb
    refine ⟨1, 0, ?_, ?_⟩
    · unfold fn_L_largest gn_X4_largest
      simp only [g1, ox_x_s]
      exact ot_t (by trivial) (ot_s ⟨rfl, fun h => absurd h (by decide)⟩)
    · unfold fn_X5_largest
      simp only [g2, ox_b_s]
      exact ot_t (by trivial) (ot_s ⟨rfl, fun h => absurd h (by decide), hd⟩)
  have h0 : ¬ a < 0 := fun h => hb (Or.inl h)
  have h1 : a < 8 := Decidable.byContradiction (fun h => hb (Or.inr h))
  obtain ⟨g1, g2, g3⟩ := ra_ok (t := th) h0 h1
  obtain ⟨c1, c2, c3, c4, c5, c6, c7, c8⟩ := id hc
  obtain ⟨m1, m2, m3, m4, m5, m6⟩ := id hm0
  have hn := c1.1
  obtain ⟨⟨rf, kf, kcl, ke, kd, ko, li, fa, lm, kc, kn, or, et, lo, nx, pt, ops, sz, lw, al, ins, gr⟩, e1, e2⟩ := qc_parts hw0 hc a (rf := rf) (kf := kf) (kcl := kcl) (ke := ke) (kd := kd) (ko := ko) (li := li) (fa := fa) (lm := lm) (kc := kc) (kn := kn) (or := or) (et := et) (lo := lo) (nx := nx) (pt := pt) (ops := ops) (sz := sz) (lw := lw) (al := al) (ins := ins) (gr := gr)
  dsimp only at e2
  obtain ⟨_, f1, L, rfl, L2, L3⟩ := qc_largest hw0 hc (fun v h => it_lt v h) e2
  refine ⟨0, nI L, ?_, ?_⟩
  · unfold fn_L_largest gn_X4_largest fn_X4_largest
    simp only [g1, g2, ox_x_n, ox_b_s, e1, f1]
    exact ot_s ⟨rfl, fun _ => vl_0 (o := o)⟩
  · unfold fn_X5_largest
    simp only [g3, ox_b_s]
    refine ot_f (by decide) (ot_b (qm_look hw0 hm0 h0 hd) ?_)
    rintro ⟨mkn, mco, mxl, mxp, mxw, qu, bm, ir, mal, re, its, pf⟩ ⟨h, h9⟩
    dsimp only at h h9 ⊢
    obtain ⟨L', z4, z5, z6⟩ := h9.2.2.2
    exact ot_s ⟨rfl, fun _ => by rw [z4, lg_one z6 L3], h⟩
set_option maxHeartbeats 1000000 in
theorem ca_part (hw0 : gw_W n m aj fr to en hw) (hc : cl_R n m aj fr to st lb ak en hw gE fk gas gie gab gfr gto glb gout gst) (hm0 : ml_R n m aj fr to lb ak en hw mas mfr mto mlb mhw mfi mla mnx men) (hd : me_D n m aj fr to lb ak hw mkn mco mxl mxp mxw qu bm ir mal its pf) (a a2 a3 : Int32) : ∃ k r : Int32, ot_T (fn_L_part (nI n) (nI m) rf kf kcl ke kd ko fk gas gab gfr gto glb gout gst li fa lm kc kn or et lo nx pt ops sz lw al ins gr o a a2 a3) (fun x => match x with | (k1, _, _, _, _, _, _, _, _, _, _, _, _, _, _, _, _, _, _, _, _, _, _, o1) => k1 = k ∧ (k = 0 → o1 0 = r.toInt64)) ∧ ot_T (fn_X5_part th (nI n) (nI m) mkn mco mxl mxp mxw mas mfr mto mlb mhw mfi mnx qu bm ir mal re its pf a a2 a3) (fun x => match x with | (r1, t1, mkn, mco, mxl, mxp, mxw, qu, bm, ir, mal, re, its, pf) => t1 = k ∧ (k = 0 → r1 = r) ∧ me_D n m aj fr to lb ak hw mkn mco mxl mxp mxw qu bm ir mal its pf) := by
  by_cases hb : a < 0 ∨ ¬ a < 8
  · obtain ⟨g1, g2⟩ := ra_bad (t := th) hb
    refine ⟨1, 0, ?_, ?_⟩
    · unfold fn_L_part gn_X4_part
      simp only [g1, ox_x_s]
      exact ot_t (by trivial) (ot_s ⟨rfl, fun h => absurd h (by decide)⟩)
    · unfold fn_X5_part
      simp only [g2, ox_b_s]
      exact ot_t (by trivial) (ot_s ⟨rfl, fun h => absurd h (by decide), hd⟩)
  have h0 : ¬ a < 0 := fun h => hb (Or.inl h)
  have h1 : a < 8 := Decidable.byContradiction (fun h => hb (Or.inr h))
  obtain ⟨g1, g2, g3⟩ := ra_ok (t := th) h0 h1
  obtain ⟨c1, c2, c3, c4, c5, c6, c7, c8⟩ := id hc
  obtain ⟨m1, m2, m3, m4, m5, m6⟩ := id hm0
  have hn := c1.1
  obtain ⟨⟨rf, kf, kcl, ke, kd, ko, li, fa, lm, kc, kn, or, et, lo, nx, pt, ops, sz, lw, al, ins, gr⟩, e1, e2⟩ := qc_fair hw0 hc a (rf := rf) (kf := kf) (kcl := kcl) (ke := ke) (kd := kd) (ko := ko) (li := li) (fa := fa) (lm := lm) (kc := kc) (kn := kn) (or := or) (et := et) (lo := lo) (nx := nx) (pt := pt) (ops := ops) (sz := sz) (lw := lw) (al := al) (ins := ins) (gr := gr)
  dsimp only at e2
  have hcl : ∃ q, nt_S n (pa_P m fr to (fu_F m fr to lb hw (it_I n (bf_all aj to n) ak a)) a2) a3 q ∧ ((fn_X4_knotByLowestState (nI n) kc kn lw a2 = some (-1) ∧ q = -1) ∨ ∃ x, ¬ x = -1 ∧ fn_X4_knotByLowestState (nI n) kc kn lw a2 = some x ∧ fn_X4_stateOfKnot (nI n) kc kn x a3 = some q) := by
    obtain ⟨x, f1, f2⟩ := kl_low hn e2 a2
    rcases f2 with ⟨i, i1, i2, i3, i4⟩ | ⟨h1, h2⟩
    · obtain ⟨q, q1, q2⟩ := kl_state (kn := kn) hn e2.1 x a3
      exact ⟨q, pa_some hn e2 i1 i2 i3 i4 q2, Or.inr ⟨x, by rw [i4]; exact kn_ne hn e2 i2, f1, q1⟩⟩
    · exact ⟨-1, pa_none hn e2 h2 a3, Or.inl ⟨by rw [f1, h1], rfl⟩⟩
  obtain ⟨q, q1, q2⟩ := hcl
  have hX : ∀ k r : Int32, (q = -1 → k = 2) → (¬ q = -1 → k = 0 ∧ r = q) → ot_T (fn_X5_part th (nI n) (nI m) mkn mco mxl mxp mxw mas mfr mto mlb mhw mfi mnx qu bm ir mal re its pf a a2 a3) (fun x => match x with | (r1, t1, mkn, mco, mxl, mxp, mxw, qu, bm, ir, mal, re, its, pf) => t1 = k ∧ (k = 0 → r1 = r) ∧ me_D n m aj fr to lb ak hw mkn mco mxl mxp mxw qu bm ir mal its pf) := by
    intro k r k1 k2
    unfold fn_X5_part
    simp only [g3, ox_b_s]
    refine ot_f (by decide) (ot_b (qm_look hw0 hm0 h0 hd) ?_)
    rintro ⟨mkn, mco, mxl, mxp, mxw, qu, bm, ir, mal, re, its, pf⟩ ⟨h, h9⟩
    dsimp only at h h9 ⊢
    refine ot_b (pa_M hn h9.2.2.1 a2 a3 _ _ _ _ _ _ _ _ _ _ _ _) ?_
    rintro (⟨v4, v5⟩ | x) hx
    · have hq : q = -1 := by
        rcases q1 with ⟨i, i1, i2, i3, _⟩ | q1
        · exact absurd ⟨i, i1, i2, i3⟩ hx
        · exact q1.1
      dsimp only
      exact ot_s ⟨(k1 hq).symm, fun h8 => absurd (h8.symm.trans (k1 hq)) (by decide), h⟩
    · obtain ⟨i, i1, i2, i3, i4⟩ := hx
      subst i4
      have hq := nt_S_one hn q1 (Or.inl ⟨i, i1, i2, i3, rfl⟩)
      have hq2 := k2 (by rw [hq]; exact nI_m1 (by omega))
      exact ot_s ⟨hq2.1.symm, fun _ => by rw [hq2.2, hq], h⟩
  by_cases hq : q = -1
  · refine ⟨2, 0, ?_, hX 2 0 (fun _ => rfl) (fun h => absurd hq h)⟩
    unfold fn_L_part gn_X4_part gn_X4_part_j33
    simp only [g1, g2, ox_x_n, ox_b_s, e1]
    rcases q2 with ⟨x1, x2⟩ | ⟨x, x0, x1, x2⟩
    · simp only [x1, ox_b_s, if_true, ox_x_s]
      exact ot_f (by decide) (ot_s ⟨rfl, fun h => absurd h (by decide)⟩)
    · simp only [x1, ox_b_s, if_neg x0, x2, hq, if_true, ox_x_s]
      exact ot_f (by decide) (ot_s ⟨rfl, fun h => absurd h (by decide)⟩)
  · refine ⟨0, q, ?_, hX 0 q (fun h => absurd h hq) (fun _ => ⟨rfl, rfl⟩)⟩
    rcases q2 with ⟨x1, x2⟩ | ⟨x, x0, x1, x2⟩
    · exact absurd x2 hq
    · unfold fn_L_part gn_X4_part fn_X4_part gn_X4_part_j33 fn_X4_part_j33
      simp only [g1, g2, ox_x_n, ox_b_s, e1, x1, if_neg x0, x2, if_neg hq]
      exact ot_s ⟨rfl, fun _ => vl_0 (o := o)⟩
set_option maxHeartbeats 1000000 in
theorem ca_dead (hw0 : gw_W n m aj fr to en hw) (hc : cl_R n m aj fr to st lb ak en hw gE fk gas gie gab gfr gto glb gout gst) (hm0 : ml_R n m aj fr to lb ak en hw mas mfr mto mlb mhw mfi mla mnx men) (hd : me_D n m aj fr to lb ak hw mkn mco mxl mxp mxw qu bm ir mal its pf) (a a2 : Int32) : ∃ k r : Int32, ot_T (fn_L_dead (nI n) rf gas gie gto gout gst li fa lm kc o a a2) (fun x => match x with | (k1, _, _, _, _, _, o1) => k1 = k ∧ (k = 0 → o1 0 = r.toInt64)) ∧ ot_T (fn_X5_dead th (nI n) (nI m) mkn mco mxl mxp mxw mas mfr mto mlb mhw mfi mnx men qu bm ir mal re its pf a a2) (fun x => match x with | (r1, t1, mkn, mco, mxl, mxp, mxw, qu, bm, ir, mal, re, its, pf) => t1 = k ∧ (k = 0 → r1 = r) ∧ me_D n m aj fr to lb ak hw mkn mco mxl mxp mxw qu bm ir mal its pf) := by
  by_cases hb : a < 0 ∨ ¬ a < 8
  · obtain ⟨g1, g2⟩ := ra_bad (t := th) hb
    refine ⟨1, 0, ?_, ?_⟩
    · unfold fn_L_dead gn_X4_dead
      simp only [g1, ox_x_s]
      exact ot_t (by trivial) (ot_s ⟨rfl, fun h => absurd h (by decide)⟩)
    · unfold fn_X5_dead
      simp only [g2, ox_b_s]
      exact ot_t (by trivial) (ot_s ⟨rfl, fun h => absurd h (by decide), hd⟩)
  have h0 : ¬ a < 0 := fun h => hb (Or.inl h)
  have h1 : a < 8 := Decidable.byContradiction (fun h => hb (Or.inr h))
  obtain ⟨g1, g2, g3⟩ := ra_ok (t := th) h0 h1
  obtain ⟨c1, c2, c3, c4, c5, c6, c7, c8⟩ := id hc
  obtain ⟨m1, m2, m3, m4, m5, m6⟩ := id hm0
  have hn := c1.1
  obtain ⟨⟨rf, li, fa, lm, kc⟩, e1, q1, q2, q3, q4⟩ := ch_choose c1 c5 a (fo := rf) (li := li) (fa := fa) (lm := lm) (kc := kc)
  dsimp only at q1 q2 q3 q4
  obtain ⟨q, f1, f2⟩ := de_C c1 c6 q3 a2
  rw [q4] at f2
  have hX : ∀ k r : Int32, (q = -1 → k = 2) → (¬ q = -1 → k = 0 ∧ r = q) → ot_T (fn_X5_dead th (nI n) (nI m) mkn mco mxl mxp mxw mas mfr mto mlb mhw mfi mnx men qu bm ir mal re its pf a a2) (fun x => match x with | (r1, t1, mkn, mco, mxl, mxp, mxw, qu, bm, ir, mal, re, its, pf) => t1 = k ∧ (k = 0 → r1 = r) ∧ me_D n m aj fr to lb ak hw mkn mco mxl mxp mxw qu bm ir mal its pf) := by
    intro k r k1 k2
    unfold fn_X5_dead
    simp only [g3, ox_b_s]
    refine ot_f (by decide) (ot_b (qm_look hw0 hm0 h0 hd) ?_)
    rintro ⟨mkn, mco, mxl, mxp, mxw, qu, bm, ir, mal, re, its, pf⟩ ⟨h, h9⟩
    dsimp only at h h9 ⊢
    refine ot_b (de_M m1 m5 h9.1 a2 _ _ _ _ _ _ _ _ _ _ _ _) ?_
    rw [h9.2.1]
    rintro (⟨v4, v5⟩ | x) hx
    · have hq : q = -1 := by
        rcases f2 with ⟨i, i1, i2, i3, _⟩ | q1
        · exact absurd ⟨i, i1, i2, i3⟩ hx
        · exact q1.1
      dsimp only
      exact ot_s ⟨(k1 hq).symm, fun h8 => absurd (h8.symm.trans (k1 hq)) (by decide), h⟩
    · obtain ⟨i, i1, i2, i3, i4⟩ := hx
      subst i4
      have hq := nt_S_one hn f2 (Or.inl ⟨i, i1, i2, i3, rfl⟩)
      have hq2 := k2 (by rw [hq]; exact nI_m1 (by omega))
      exact ot_s ⟨hq2.1.symm, fun _ => by rw [hq2.2, hq], h⟩
  by_cases hq : q = -1
  · refine ⟨2, 0, ?_, hX 2 0 (fun _ => rfl) (fun h => absurd hq h)⟩
    unfold fn_L_dead gn_X4_dead
    simp only [g1, g2, ox_x_n, ox_b_s, e1, f1, if_pos hq, ox_x_s]
    exact ot_f (by decide) (ot_t (by trivial) (ot_s ⟨rfl, fun h => absurd h (by decide)⟩))
  · refine ⟨0, q, ?_, hX 0 q (fun h => absurd h hq) (fun _ => ⟨rfl, rfl⟩)⟩
    unfold fn_L_dead gn_X4_dead fn_X4_dead
    simp only [g1, g2, ox_x_n, ox_b_s, e1, f1, if_neg hq]
    exact ot_s ⟨rfl, fun _ => vl_0 (o := o)⟩
set_option maxHeartbeats 1000000 in
theorem ca_longest (hw0 : gw_W n m aj fr to en hw) (hc : cl_R n m aj fr to st lb ak en hw gE fk gas gie gab gfr gto glb gout gst) (hm0 : ml_R n m aj fr to lb ak en hw mas mfr mto mlb mhw mfi mla mnx men) (hd : me_D n m aj fr to lb ak hw mkn mco mxl mxp mxw qu bm ir mal its pf) (a : Int32) : ∃ k r : Int32, ot_T (fn_L_longest (nI n) (nI m) rf kf kcl ke kd ko rk gas gab gfr gto glb gout gst li fa lm kc kn or et lo nx pt ops sz lw al ins gr o a) (fun x => match x with | (k1, _, _, _, _, _, _, _, _, _, _, _, _, _, _, _, _, _, _, _, _, _, _, _, o1) => k1 = k ∧ (k = 0 → o1 0 = r.toInt64)) ∧ ot_T (fn_X5_longest th (nI n) (nI m) mkn mco mxl mxp mxw mas mfr mto mlb mhw mfi mnx qu bm ir mal re its pf lf a) (fun x => match x with | (r1, t1, mkn, mco, mxl, mxp, mxw, qu, bm, ir, mal, re, its, pf, lf) => t1 = k ∧ (k = 0 → r1 = r) ∧ me_D n m aj fr to lb ak hw mkn mco mxl mxp mxw qu bm ir mal its pf) := by
  by_cases hb : a < 0 ∨ ¬ a < 8
  · obtain ⟨g1, g2⟩ := ra_bad (t := th) hb
    refine ⟨1, 0, ?_, ?_⟩
    · unfold fn_L_longest gn_X4_longest
      simp only [g1, ox_x_s]
      exact ot_t (by trivial) (ot_s ⟨rfl, fun h => absurd h (by decide)⟩)
    · unfold fn_X5_longest
      simp only [g2, ox_b_s]
      exact ot_t (by trivial) (ot_s ⟨rfl, fun h => absurd h (by decide), hd⟩)
  have h0 : ¬ a < 0 := fun h => hb (Or.inl h)
  have h1 : a < 8 := Decidable.byContradiction (fun h => hb (Or.inr h))
  obtain ⟨g1, g2, g3⟩ := ra_ok (t := th) h0 h1
  obtain ⟨c1, c2, c3, c4, c5, c6, c7, c8⟩ := id hc
  obtain ⟨m1, m2, m3, m4, m5, m6⟩ := id hm0
  have hn := c1.1
  obtain ⟨⟨rf, kf, kcl, ke, kd, ko, li, fa, lm, kc, kn, or, et, lo, nx, pt, ops, sz, lw, al, ins, gr⟩, e1, e2⟩ := qc_parts hw0 hc a (rf := rf) (kf := kf) (kcl := kcl) (ke := ke) (kd := kd) (ko := ko) (li := li) (fa := fa) (lm := lm) (kc := kc) (kn := kn) (or := or) (et := et) (lo := lo) (nx := nx) (pt := pt) (ops := ops) (sz := sz) (lw := lw) (al := al) (ins := ins) (gr := gr)
  dsimp only at e2
  obtain ⟨_, f1, L, rfl, L2, L3⟩ := qc_largest hw0 hc (fun v h => it_lt v h) e2
  by_cases hL : L = 0
  · subst hL
    obtain ⟨⟨y, rk⟩, r1, rho, H, r2, r3, r4⟩ := qc_ranks hw0 hc (fun v h => it_lt v h) e2 L3 (rk := rk)
    dsimp only at r3 r4
    refine ⟨0, nI H, ?_, ?_⟩
    · unfold fn_L_longest gn_X4_longest fn_X4_longest
      simp only [g1, g2, ox_x_n, ox_b_s, e1, f1]
      rw [if_pos (show nI 0 ≤ 0 by decide)]
      simp only [r1, ox_b_s]
      exact ot_s ⟨rfl, fun _ => by rw [r3]; exact vl_0 (o := o)⟩
    · unfold fn_X5_longest
      simp only [g3, ox_b_s]
      refine ot_f (by decide) (ot_b (qm_measure hw0 hm0 h0 hd L3 (fun _ => r2)) ?_)
      rintro ⟨q, mkn, mco, mxl, mxp, mxw, qu, bm, ir, mal, re, its, pf, lf⟩ ⟨h, z1, z2, z3⟩
      dsimp only at h z1 z2 z3 ⊢
      obtain ⟨_, s1, s2, s3⟩ := z3.resolve_left (fun h => h.1 rfl)
      refine ot_f (by rw [s1]; decide) (ot_b (ms_max (its := its) (rho := rho) hn (by rw [z2]; exact r2.2.1) (by rw [z2]; exact s2) (by rw [z2]; exact s3)) ?_)
      rintro ⟨v2, v3⟩ ⟨H', t1, t2, t3, t4⟩
      rw [z2] at t3 t4
      dsimp only at t1 ⊢
      exact ot_s ⟨rfl, fun _ => by rw [t1, rx_one r2 r2.1 t3 t4], h⟩
  · refine ⟨0, -1, ?_, ?_⟩
    · unfold fn_L_longest gn_X4_longest fn_X4_longest
      simp only [g1, g2, ox_x_n, ox_b_s, e1, f1]
      rw [if_neg (nI_nle (by omega) (by omega))]
      exact ot_s ⟨rfl, fun _ => vl_0 (o := o)⟩
    · unfold fn_X5_longest
      simp only [g3, ox_b_s]
      refine ot_f (by decide) (ot_b (qm_measure hw0 hm0 h0 hd L3 (rho := fun _ => 0) (H := 0) (fun h => absurd h hL)) ?_)
      rintro ⟨q, mkn, mco, mxl, mxp, mxw, qu, bm, ir, mal, re, its, pf, lf⟩ ⟨h, z1, z2, z3⟩
      dsimp only at h z1 z2 z3 ⊢
      obtain ⟨_, s1⟩ := z3.resolve_right (fun h => hL h.1)
      exact ot_t s1 (ot_s ⟨rfl, fun _ => rfl, h⟩)
set_option maxHeartbeats 1000000 in
theorem ca_rank (hw0 : gw_W n m aj fr to en hw) (hc : cl_R n m aj fr to st lb ak en hw gE fk gas gie gab gfr gto glb gout gst) (hm0 : ml_R n m aj fr to lb ak en hw mas mfr mto mlb mhw mfi mla mnx men) (hd : me_D n m aj fr to lb ak hw mkn mco mxl mxp mxw qu bm ir mal its pf) (a a2 : Int32) : ∃ k r : Int32, ot_T (fn_L_rank (nI n) (nI m) rf kf kcl ke kd ko rk gas gab gfr gto glb gout gst li fa lm kc kn or et lo nx pt ops sz lw al ins gr o a a2) (fun x => match x with | (k1, _, _, _, _, _, _, _, _, _, _, _, _, _, _, _, _, _, _, _, _, _, _, _, o1) => k1 = k ∧ (k = 0 → o1 0 = r.toInt64)) ∧ ot_T (fn_X5_rank th (nI n) (nI m) mkn mco mxl mxp mxw mas mfr mto mlb mhw mfi mnx qu bm ir mal re its pf lf a a2) (fun x => match x with | (r1, t1, mkn, mco, mxl, mxp, mxw, qu, bm, ir, mal, re, its, pf, lf) => t1 = k ∧ (k = 0 → r1 = r) ∧ me_D n m aj fr to lb ak hw mkn mco mxl mxp mxw qu bm ir mal its pf) := by
  by_cases hb : a < 0 ∨ ¬ a < 8
  · obtain ⟨g1, g2⟩ := ra_bad (t := th) hb
    refine ⟨1, 0, ?_, ?_⟩
    · unfold fn_L_rank gn_X4_rank
      simp only [g1, ox_x_s]
      exact ot_t (by trivial) (ot_s ⟨rfl, fun h => absurd h (by decide)⟩)
    · unfold fn_X5_rank
      simp only [g2, ox_b_s]
      exact ot_t (by trivial) (ot_s ⟨rfl, fun h => absurd h (by decide), hd⟩)
  have h0 : ¬ a < 0 := fun h => hb (Or.inl h)
  have h1 : a < 8 := Decidable.byContradiction (fun h => hb (Or.inr h))
  obtain ⟨g1, g2, g3⟩ := ra_ok (t := th) h0 h1
  obtain ⟨c1, c2, c3, c4, c5, c6, c7, c8⟩ := id hc
  obtain ⟨m1, m2, m3, m4, m5, m6⟩ := id hm0
  have hn := c1.1
  by_cases hs : a2 < 0 ∨ nI n ≤ a2
  · refine ⟨2, 0, ?_, ?_⟩
    · unfold fn_L_rank gn_X4_rank
      simp only [g1, g2, (rs_bad hs).1, ox_x_n, ox_x_s, ox_b_s]
      exact ot_f (by decide) (ot_t (by trivial) (ot_s ⟨rfl, fun h => absurd h (by decide)⟩))
    · unfold fn_X5_rank
      simp only [g3, (rs_bad hs).2, ox_b_s]
      exact ot_f (by decide) (ot_t (by trivial) (ot_s ⟨rfl, fun h => absurd h (by decide), hd⟩))
  obtain ⟨v, hv, rfl⟩ := rs_at hn hs
  have hs1 := (rs_ok hs).1
  have hs2 := (rs_ok hs).2.1
  have hs3 := (rs_ok hs).2.2
  obtain ⟨⟨rf, kf, kcl, ke, kd, ko, li, fa, lm, kc, kn, or, et, lo, nx, pt, ops, sz, lw, al, ins, gr⟩, e1, e2⟩ := qc_parts hw0 hc a (rf := rf) (kf := kf) (kcl := kcl) (ke := ke) (kd := kd) (ko := ko) (li := li) (fa := fa) (lm := lm) (kc := kc) (kn := kn) (or := or) (et := et) (lo := lo) (nx := nx) (pt := pt) (ops := ops) (sz := sz) (lw := lw) (al := al) (ins := ins) (gr := gr)
  dsimp only at e2
  obtain ⟨_, f1, L, rfl, L2, L3⟩ := qc_largest hw0 hc (fun v h => it_lt v h) e2
  obtain ⟨k1, k2, _⟩ := id e2
  by_cases hI : (it_I n (bf_all aj to n) ak a) v
  · have hkc : kc v = 1 := (show cz n kc v by rw [k2]; exact hI).2
    by_cases hL : L = 0
    · subst hL
      obtain ⟨⟨y, rk⟩, r1, rho, H, r2, r3, r4⟩ := qc_ranks hw0 hc (fun v h => it_lt v h) e2 L3 (rk := rk)
      dsimp only at r3 r4
      refine ⟨0, nI (rho v), ?_, ?_⟩
      · unfold fn_L_rank gn_X4_rank fn_X4_rank
        simp only [g1, g2, hs1, hs2, ox_x_n, ox_b_s, e1]
        refine ot_b (P := fun x => x.1 = nI (rho v)) ?_ ?_
        · rw [cl_nI (show v < 2 ^ 31 by omega), hkc]
          refine ot_i (in_nI (by omega) (by decide)) (ot_f (by decide) ?_)
          simp only [f1, ox_b_s]
          refine ot_t (by decide) ?_
          simp only [r1, ox_b_s]
          exact ot_i (in_nI (by omega) (by decide)) (ot_s (r4 v hI))
        · rintro ⟨q, rf, kf, kcl, ke, kd, ko, rk, li, fa, lm, kc, kn, or, et, lo, nx, pt, ops, sz, lw, al, ins, gr⟩ h
          dsimp only at h ⊢
          exact ot_s ⟨rfl, fun _ => by rw [← h]; exact vl_0 (o := o)⟩
      · unfold fn_X5_rank
        simp only [g3, hs3, ox_b_s]
        refine ot_f (by decide) (ot_f (by decide) (ot_b (qm_measure hw0 hm0 h0 hd L3 (fun _ => r2)) ?_))
        rintro ⟨q, mkn, mco, mxl, mxp, mxw, qu, bm, ir, mal, re, its, pf, lf⟩ ⟨h, z1, z2, z3⟩
        dsimp only at h z1 z2 z3 ⊢
        obtain ⟨_, s1, s2, s3⟩ := z3.resolve_left (fun h => h.1 rfl)
        rw [cl_nI (show v < 2 ^ 31 by omega)]
        exact ot_f (by rw [s1]; decide) (ot_i (in_nI (by omega) (by decide)) (ot_s ⟨rfl, fun _ => s2 v hI, h⟩))
    · refine ⟨0, -1, ?_, ?_⟩
      · unfold fn_L_rank gn_X4_rank fn_X4_rank
        simp only [g1, g2, hs1, hs2, ox_x_n, ox_b_s, e1]
        refine ot_b (P := fun x => x.1 = -1) ?_ ?_
        · rw [cl_nI (show v < 2 ^ 31 by omega), hkc]
          refine ot_i (in_nI (by omega) (by decide)) (ot_f (by decide) ?_)
          simp only [f1, ox_b_s]
          exact ot_f (nI_nle (by omega) (by omega)) (ot_s rfl)
        · rintro ⟨q, rf, kf, kcl, ke, kd, ko, rk, li, fa, lm, kc, kn, or, et, lo, nx, pt, ops, sz, lw, al, ins, gr⟩ h
          dsimp only at h ⊢
          exact ot_s ⟨rfl, fun _ => by rw [h]; exact vl_0 (o := o)⟩
      · unfold fn_X5_rank
        simp only [g3, hs3, ox_b_s]
        refine ot_f (by decide) (ot_f (by decide) (ot_b (qm_measure hw0 hm0 h0 hd L3 (rho := fun _ => 0) (H := 0) (fun h => absurd h hL)) ?_))
        rintro ⟨q, mkn, mco, mxl, mxp, mxw, qu, bm, ir, mal, re, its, pf, lf⟩ ⟨h, z1, z2, z3⟩
        dsimp only at h z1 z2 z3 ⊢
        obtain ⟨_, s1⟩ := z3.resolve_right (fun h => hL h.1)
        exact ot_t s1 (ot_s ⟨rfl, fun _ => rfl, h⟩)
  · have hkc : kc v = 0 := by
      rcases k1 v hv with h | h
      · exact h
      · exact absurd (show (it_I n (bf_all aj to n) ak a) v by rw [← k2]; exact ⟨hv, h⟩) hI
    refine ⟨0, -1, ?_, ?_⟩
    · unfold fn_L_rank gn_X4_rank fn_X4_rank
      simp only [g1, g2, hs1, hs2, ox_x_n, ox_b_s, e1]
      refine ot_b (P := fun x => x.1 = -1) ?_ ?_
      · rw [cl_nI (show v < 2 ^ 31 by omega), hkc]
        exact ot_i (in_nI (by omega) (by decide)) (ot_t (by trivial) (ot_s rfl))
      · rintro ⟨q, rf, kf, kcl, ke, kd, ko, rk, li, fa, lm, kc, kn, or, et, lo, nx, pt, ops, sz, lw, al, ins, gr⟩ h
        dsimp only at h ⊢
        exact ot_s ⟨rfl, fun _ => by rw [h]; exact vl_0 (o := o)⟩
    · have hr : ∃ rho H, L = 0 → rx_P m fr to (it_I n (bf_all aj to n) ak a) rho H := by
        by_cases hL : L = 0
        · subst hL
          obtain ⟨⟨y, rk⟩, r1, rho, H, r2, r3, r4⟩ := qc_ranks hw0 hc (fun v h => it_lt v h) e2 L3 (rk := rk)
          exact ⟨rho, H, fun _ => r2⟩
        · exact ⟨fun _ => 0, 0, fun h => absurd h hL⟩
      obtain ⟨rho, H, hr⟩ := hr
      unfold fn_X5_rank
      simp only [g3, hs3, ox_b_s]
      refine ot_f (by decide) (ot_f (by decide) (ot_b (qm_measure hw0 hm0 h0 hd L3 hr) ?_))
      rintro ⟨q, mkn, mco, mxl, mxp, mxw, qu, bm, ir, mal, re, its, pf, lf⟩ ⟨h, z1, z2, z3⟩
      dsimp only at h z1 z2 z3 ⊢
      rcases z3 with ⟨_, s1⟩ | ⟨_, s1, s2, s3⟩
      · exact ot_t s1 (ot_s ⟨rfl, fun _ => rfl, h⟩)
      · rw [cl_nI (show v < 2 ^ 31 by omega)]
        exact ot_f (by rw [s1]; decide) (ot_i (in_nI (by omega) (by decide)) (ot_s ⟨rfl, fun _ => s3 v hv hI, h⟩))
theorem ca_reached (hw0 : gw_W n m aj fr to en hw) (hc : cl_R n m aj fr to st lb ak en hw gE fk gas gie gab gfr gto glb gout gst) (hm0 : ml_R n m aj fr to lb ak en hw mas mfr mto mlb mhw mfi mla mnx men) (hd : me_D n m aj fr to lb ak hw mkn mco mxl mxp mxw qu bm ir mal its pf) : ∃ r : Int32, ot_T (fn_X4_reached (nI n) rf gto gout gst li fa lm) (fun x => x.1 = r) ∧ ot_T (fn_X5_reached th (nI n) mkn mco mto mfi mnx qu bm ir) (fun x => match x with | (r1, t1, mkn, mco, qu, bm, ir) => r1 = r ∧ me_D n m aj fr to lb ak hw mkn mco mxl mxp mxw qu bm ir mal its pf) := by
  refine ⟨nI (bf_all aj to n).1, ?_, ?_⟩
  · unfold fn_X4_reached
    refine ot_b (wc_walk hc.1) ?_
    rintro ⟨rf, li, fa, lm⟩ ⟨h1, h2⟩
    exact ot_s h2.1
  · unfold fn_X5_reached
    refine ot_b (wm_walk hm0.1 hd.1) ?_
    rintro ⟨mkn, mco, qu, bm, ir⟩ ⟨h1, h2, h3⟩
    exact ot_s ⟨h3.1, Or.inr ⟨h1, h2, h3⟩, hd.2⟩
theorem ca_row (hw0 : gw_W n m aj fr to en hw) (hc : cl_R n m aj fr to st lb ak en hw gE fk gas gie gab gfr gto glb gout gst) (hm0 : ml_R n m aj fr to lb ak en hw mas mfr mto mlb mhw mfi mla mnx men) (hd : me_D n m aj fr to lb ak hw mkn mco mxl mxp mxw qu bm ir mal its pf) (a a2 : Int32) : ∃ k r : Int32, ot_T (fn_L_row (nI n) rf gfr gto gout gst li fa lm o a a2) (fun x => match x with | (k1, _, _, _, _, o1) => k1 = k ∧ (k = 0 → o1 0 = r.toInt64)) ∧ ot_T (fn_X5_row th (nI n) mkn mco mfr mto mfi mnx qu bm row ir a a2) (fun x => match x with | (r1, t1, mkn, mco, qu, bm, _, ir) => t1 = k ∧ (k = 0 → r1 = r) ∧ me_D n m aj fr to lb ak hw mkn mco mxl mxp mxw qu bm ir mal its pf) := by
  have hn := hc.1.1
  have hm := hc.1.2.1
  by_cases hs : a < 0 ∨ nI n ≤ a
  · refine ⟨1, 0, ?_, ?_⟩
    · unfold fn_L_row gn_X4_row
      simp only [(rs_bad hs).1, ox_x_s]
      exact ot_t (by trivial) (ot_s ⟨rfl, fun h => absurd h (by decide)⟩)
    · unfold fn_X5_row fn_X5_row_j13 fn_X5_row_j18
      simp only [(rs_bad hs).2, ox_b_s]
      exact ot_t (by trivial) (ot_f (by decide) (ot_s ⟨rfl, fun h => absurd h (by decide), hd⟩))
  obtain ⟨v, hv, rfl⟩ := rs_at hn hs
  obtain ⟨s1, s2, s3⟩ := rs_ok hs
  by_cases h0 : 0 ≤ a2
  · have h0' : ¬ a2 < 0 := by rw [Int32.not_lt]; exact h0
    have e2 := nI_oc h0'
    have hi := nI_up a2
    generalize a2.toNatClampNeg = i at e2 hi
    subst e2
    refine ⟨0, rw_V fr (bf_all aj to n) v i, ?_, ?_⟩
    · unfold fn_L_row gn_X4_row fn_X4_row
      simp only [s1, s2, ox_x_n, ox_b_s, if_pos h0]
      refine ot_b (P := fun x => x.1 = rw_V fr (bf_all aj to n) v i) (ot_b (wc_walk hc.1) ?_) ?_
      · rintro ⟨rf, li, fa, lm⟩ ⟨h1, h2⟩
        dsimp only at h1 h2 ⊢
        refine ot_b (rw_C hn hm h1 (bf_T_all hw0.1) (fun j hj => (hc.2.1 j hj).1) h2 hv hi) ?_
        rintro x rfl
        exact ot_s rfl
      · rintro ⟨q, rf, li, fa, lm⟩ h
        dsimp only at h ⊢
        exact ot_s ⟨rfl, fun _ => by rw [← h]; exact vl_0 (o := o)⟩
    · unfold fn_X5_row
      simp only [s3, ox_b_s]
      refine ot_f (by decide) (ot_t h0 (ot_m (rw_M hm0.1 hw0.1 (fun j hj => (hm0.2.1 j hj).1) hd.1 hv hi) ?_))
      rintro ⟨r1, t1, mkn, mco, qu, bm, row, ir⟩ ⟨h1, h2, h3⟩
      exact ⟨h2, fun _ => h1, h3, hd.2⟩
  · refine ⟨1, 0, ?_, ?_⟩
    · unfold fn_L_row gn_X4_row
      simp only [s1, s2, ox_x_n, ox_b_s, if_neg h0, ox_x_s]
      exact ot_t (by trivial) (ot_s ⟨rfl, fun h => absurd h (by decide)⟩)
    · unfold fn_X5_row fn_X5_row_j13 fn_X5_row_j18
      simp only [s3, ox_b_s]
      exact ot_f (by decide) (ot_f h0 (ot_f (by decide) (ot_s ⟨rfl, fun h => absurd h (by decide), hd⟩)))
theorem ca_count (hw0 : gw_W n m aj fr to en hw) (hc : cl_R n m aj fr to st lb ak en hw gE fk gas gie gab gfr gto glb gout gst) (hm0 : ml_R n m aj fr to lb ak en hw mas mfr mto mlb mhw mfi mla mnx men) (hd : me_D n m aj fr to lb ak hw mkn mco mxl mxp mxw qu bm ir mal its pf) (a : Int32) : ∃ r : Int32, ot_T (fn_X4_count (nI n) (nI m) gE rf kf kcl ke kd ko fk gas gie gab gfr gto glb gout gst li fa lm kc kn or et lo nx pt ops sz lw al ins gr a) (fun x => x.1 = r) ∧ ot_T (fn_X5_count th (nI n) (nI m) mkn mco mxl mxp mxw mas mfr mto mlb mhw mfi mnx men qu bm ir mal re its pf a) (fun x => match x with | (r1, t1, mkn, mco, mxl, mxp, mxw, qu, bm, ir, mal, re, its, pf) => r1 = r ∧ me_D n m aj fr to lb ak hw mkn mco mxl mxp mxw qu bm ir mal its pf) := by
  obtain ⟨c1, c2, c3, c4, c5, c6, c7, c8⟩ := id hc
  obtain ⟨m1, m2, m3, m4, m5, m6⟩ := id hm0
  have hn := c1.1
  unfold fn_X4_count fn_X5_count
  by_cases h0 : a = 0
  · exact ⟨_, ot_t h0 (ot_s rfl), ot_t h0 (ot_s ⟨rfl, hd⟩)⟩
  by_cases h1 : a = 1
  · exact ⟨_, ot_f h0 (ot_t h1 (ot_s rfl)), ot_f h0 (ot_t h1 (ot_s ⟨rfl, hd⟩))⟩
  by_cases h2 : a = 2
  · refine ⟨_, ot_f h0 (ot_f h1 (ot_t h2 (ot_s rfl))), ot_f h0 (ot_f h1 (ot_t h2 (ot_b (ke_M hn m5 hw0.2.2.1) ?_)))⟩
    rintro ⟨v2, v3⟩ h
    exact ot_s ⟨by rw [c8]; exact h, hd⟩
  by_cases h3 : a = 3
  · refine ⟨nI (cn_P (fun l => hw l = 1) 16), ot_f h0 (ot_f h1 (ot_f h2 (ot_t h3 ?_))), ot_f h0 (ot_f h1 (ot_f h2 (ot_t h3 (ot_b (kc_M m3 a) ?_))))⟩
    · obtain ⟨x, x1, x2⟩ := kc_C c4 1
      cases hq : fn_X4_labelsOfKind fk 1 with
      | none => rw [hq] at x1; cases x1
      | some y =>
        rw [hq] at x1
        simp only [ox_b_s] at x1 ⊢
        rw [x1]
        exact ot_s x2
    · rintro ⟨v2, v3⟩ h
      rw [h3] at h
      exact ot_s ⟨h, hd⟩
  by_cases h4 : a = 4
  · refine ⟨nI (cn_P (fun l => hw l = 2) 16), ot_f h0 (ot_f h1 (ot_f h2 (ot_f h3 (ot_t h4 ?_)))), ot_f h0 (ot_f h1 (ot_f h2 (ot_f h3 (ot_t h4 (ot_b (kc_M m3 a) ?_)))))⟩
    · obtain ⟨x, x1, x2⟩ := kc_C c4 2
      cases hq : fn_X4_labelsOfKind fk 2 with
      | none => rw [hq] at x1; cases x1
      | some y =>
        rw [hq] at x1
        simp only [ox_b_s] at x1 ⊢
        rw [x1]
        exact ot_s x2
    · rintro ⟨v2, v3⟩ h
      rw [h4] at h
      exact ot_s ⟨h, hd⟩
  by_cases h5 : a = 5
  · refine ⟨nI (cn_P (fun i => lv_P n m aj fr to lb hw en (it_I n (bf_all aj to n) ak (nI i))) 8), ot_f h0 (ot_f h1 (ot_f h2 (ot_f h3 (ot_f h4 (ot_t h5 (ot_b (qc_asks hw0 hc) ?_)))))), ot_f h0 (ot_f h1 (ot_f h2 (ot_f h3 (ot_f h4 (ot_t h5 (ot_b (qm_asks hw0 hm0 hd) ?_))))))⟩
    · rintro ⟨q, rf, kf, kcl, ke, kd, ko, li, fa, lm, kc, kn, or, et, lo, nx, pt, ops, sz, lw, al, ins, gr⟩ h
      exact ot_s h
    · rintro ⟨q, v, mkn, mco, mxl, mxp, mxw, qu, bm, ir, mal, re, its, pf⟩ ⟨h, h9⟩
      exact ot_s ⟨h9, h⟩
  · exact ⟨_, ot_f h0 (ot_f h1 (ot_f h2 (ot_f h3 (ot_f h4 (ot_f h5 (ot_s rfl)))))), ot_f h0 (ot_f h1 (ot_f h2 (ot_f h3 (ot_f h4 (ot_f h5 (ot_s ⟨rfl, hd⟩))))))⟩
end CALL
/-- the class's cells and the model's cells stand for one graph -/
def jn_R (gs gm gE : Int32) (fk gas gie gab gfr gto glb gout gst : Nat → Int32) (ms mm : Int32) (mas mfr mto mlb mhw mfi mla mnx men : Nat → Int32) (mkn mco mxl mxp mxw : Int32) (qu bm ir mal its pf : Nat → Int32) : Prop :=
  ∃ (n m : Nat) (aj : Nat → List Nat) (fr to st : Nat → Nat) (lb ak en hw : Nat → Int32), gs = nI n ∧ gm = nI m ∧ ms = nI n ∧ mm = nI m ∧ gw_W n m aj fr to en hw ∧ cl_R n m aj fr to st lb ak en hw gE fk gas gie gab gfr gto glb gout gst ∧ ml_R n m aj fr to lb ak en hw mas mfr mto mlb mhw mfi mla mnx men ∧ me_D n m aj fr to lb ak hw mkn mco mxl mxp mxw qu bm ir mal its pf
section CHANGE
variable {gs gm gE ms mm th mkn mco mxl mxp mxw : Int32} {fk gas gie gab gfr gto glb gout gst mas mfr mto mlb mhw mfi mla mnx men qu bm ir mal its pf : Nat → Int32} {o : Nat → Int64}
theorem i255 {a : Int32} : a ≤ 255 ↔ a < 256 := by
  rw [Int32.le_iff_toInt_le, Int32.lt_iff_toInt_lt]
  have h1 : (255 : Int32).toInt = 255 := rfl
  have h2 : (256 : Int32).toInt = 256 := rfl
  omega
set_option maxHeartbeats 1000000 in
theorem jc_state (h : jn_R gs gm gE fk gas gie gab gfr gto glb gout gst ms mm mas mfr mto mlb mhw mfi mla mnx men mkn mco mxl mxp mxw qu bm ir mal its pf) (a a2 : Int32) (ha2 : a2 = 0 ∨ a2 = 1) :
    ∃ k : Int32, ot_T (fn_L_state gs gm gE gas gie gst o a a2) (fun x => match x with | (k1, gs, gE, gas, gie, gst, o1) => k1 = k ∧ ot_T (fn_X5_state th ms mkn mxl mas mfi mla men a a2) (fun y => match y with | (r1, t1, ms, mkn, mxl, mas, mfi, mla, men) => t1 = k ∧ (k = 0 → o1 0 = r1.toInt64) ∧ jn_R gs gm gE fk gas gie gab gfr gto glb gout gst ms mm mas mfr mto mlb mhw mfi mla mnx men mkn mco mxl mxp mxw qu bm ir mal its pf)) := by
  obtain ⟨n, m, aj, fr, to, st, lb, ak, en, hw, e1, e2, e3, e4, hw0, hc, hm0, hd⟩ := id h
  have hn := hc.1.1
  unfold fn_L_state gn_X4_state fn_X4_state gn_X4_state_j11 fn_X4_state_j11 fn_X5_state fn_X5_state_j12 fn_X5_state_j31
  by_cases h0 : a < 0
  · refine ⟨1, ?_⟩
    simp only [if_pos h0, ox_x_s, if_true]
    exact ot_s ⟨rfl, ot_f (by decide) (ot_s ⟨rfl, fun h => absurd h (by decide), h⟩)⟩
  by_cases h1 : a < 256
  · by_cases h2 : n < 200
    · refine ⟨0, ?_⟩
      have h3 : gs < 200 := by rw [e1, show (200 : Int32) = nI 200 from rfl]; exact nI_lt h2 (by decide)
      have h4 : ¬ ms = 200 := by rw [e3, show (200 : Int32) = nI 200 from rfl]; exact fun q => by rw [nI_eq (by omega) (by decide)] at q; omega
      simp only [if_neg h0, if_pos h1, if_pos (i255.mpr h1), if_pos h3, if_neg h4, ox_x_n]
      rw [e1, e2, e3]
      refine ot_b (P := fun x => match x with | (r, xs, gE, gas, gie, gst) => r = nI n ∧ xs = nI (n + 1) ∧ cl_R (n + 1) m (va_up aj n []) fr to (va_up st (n + 1) m) lb (va_up ak n a) (va_up en n a2) hw gE fk gas gie gab gfr gto glb gout gst) (ot_b (sa_C hw0 hc h2 (a := a) ha2) ?_) ?_
      · rintro ⟨r, xs, gE, gas, gie, gst⟩ hq
        exact ot_s hq
      rintro ⟨r, xs, gE, gas, gie, gst⟩ ⟨q1, q2, q3⟩
      dsimp only at q1 q2 q3 ⊢
      refine ot_s ⟨rfl, ot_t (by decide) ?_⟩
      refine ot_i (in_nI h2 (by decide)) (ot_i (in_nI h2 (by decide)) (ot_i (in_nI h2 (by decide)) (ot_i (in_nI h2 (by decide)) ?_)))
      unfold fn_X5_changed
      simp only [ox_b_s]
      rw [cl_nI (show n < 2 ^ 31 by omega), nI_1, nI_pred]
      exact ot_s ⟨rfl, fun _ => by rw [q1]; exact vl_0 (o := o), n + 1, m, va_up aj n [], fr, to, va_up st (n + 1) m, lb, va_up ak n a, va_up en n a2, hw, q2, rfl, rfl, e4, sa_W hw0 ha2, q3, sa_M hm0 h2 ha2, me_0⟩
    · refine ⟨2, ?_⟩
      have h9 : n = 200 := by omega
      have h3 : ¬ gs < 200 := by rw [e1, h9]; decide
      have h4 : ms = 200 := by rw [e3, h9]; rfl
      simp only [if_neg h0, if_pos h1, if_pos (i255.mpr h1), if_neg h3, if_pos h4, ox_x_s]
      refine ot_f (by decide) (ot_t (by trivial) (ot_s ⟨rfl, ot_f (by decide) (ot_s ⟨rfl, fun h => absurd h (by decide), h⟩)⟩))
  · refine ⟨1, ?_⟩
    simp only [if_neg h0, if_neg h1, if_neg (fun q => h1 (i255.mp q)), ox_x_s, if_true]
    exact ot_s ⟨rfl, ot_f (by decide) (ot_s ⟨rfl, fun h => absurd h (by decide), h⟩)⟩
theorem il_bad {a : Int32} (h : a < 0 ∨ 16 ≤ a) : fn_X4_isLabel a = some 0 := by
  unfold fn_X4_isLabel
  by_cases h0 : a < 0
  · rw [if_pos h0]
  · rw [if_neg h0, if_pos (h.resolve_left h0)]
theorem il_ok {a : Int32} (h0 : ¬ a < 0) (h1 : ¬ 16 ≤ a) : fn_X4_isLabel a = some 1 := by
  unfold fn_X4_isLabel
  rw [if_neg h0, if_neg h1]
theorem lb_at {b : Int32} (h0 : ¬ b < 0) (h1 : ¬ 16 ≤ b) : ∃ v, v < 16 ∧ b = nI v := by
  refine ⟨b.toNatClampNeg, ?_, (nI_oc h0).symm⟩
  have h2 := nI_oc h0
  rw [← h2, show (16 : Int32) = nI 16 from rfl, nI_leI (by decide) (nI_up b)] at h1
  omega
theorem k3_of {a : Int32} (h0 : ¬ a < 0) (h1 : a ≤ 2) : a = 0 ∨ a = 1 ∨ a = 2 := by
  rw [Int32.le_iff_toInt_le] at h1
  rw [Int32.lt_iff_toInt_lt] at h0
  have z0 : (0 : Int32).toInt = 0 := rfl
  have z1 : (1 : Int32).toInt = 1 := rfl
  have z2 : (2 : Int32).toInt = 2 := rfl
  rcases (show a.toInt = 0 ∨ a.toInt = 1 ∨ a.toInt = 2 by omega) with h | h | h
  · exact Or.inl (Int32.toInt_inj.mp (h.trans z0.symm))
  · exact Or.inr (Or.inl (Int32.toInt_inj.mp (h.trans z1.symm)))
  · exact Or.inr (Or.inr (Int32.toInt_inj.mp (h.trans z2.symm)))
set_option maxHeartbeats 1000000 in
theorem jc_label (h : jn_R gs gm gE fk gas gie gab gfr gto glb gout gst ms mm mas mfr mto mlb mhw mfi mla mnx men mkn mco mxl mxp mxw qu bm ir mal its pf) (a a2 : Int32) :
    ∃ k : Int32, ot_T (fn_L_label fk o a a2) (fun x => match x with | (k1, fk, o1) => k1 = k ∧ ot_T (fn_X5_label th mkn mxl mhw a a2) (fun y => match y with | (r1, t1, mkn, mxl, mhw) => t1 = k ∧ (k = 0 → o1 0 = r1.toInt64) ∧ jn_R gs gm gE fk gas gie gab gfr gto glb gout gst ms mm mas mfr mto mlb mhw mfi mla mnx men mkn mco mxl mxp mxw qu bm ir mal its pf)) := by
  obtain ⟨n, m, aj, fr, to, st, lb, ak, en, hw, e1, e2, e3, e4, hw0, hc, hm0, hd⟩ := id h
  obtain ⟨c1, c2, c3, c4, c5, c6, c7, c8⟩ := id hc
  obtain ⟨m1, m2, m3, m4, m5, m6⟩ := id hm0
  unfold fn_L_label gn_X4_label fn_X4_label fn_X5_label fn_X5_label_j11 fn_X5_label_j24 fn_X5_label_j29
  by_cases h0 : a < 0
  · refine ⟨1, ?_⟩
    simp only [il_bad (Or.inl h0), ox_b_s, if_pos h0, if_true, ox_x_s]
    exact ot_s ⟨rfl, ot_f (by decide) (ot_s ⟨rfl, fun h => absurd h (by decide), h⟩)⟩
  by_cases h1 : 16 ≤ a
  · refine ⟨1, ?_⟩
    have h1' : ¬ a < 16 := by rw [Int32.not_lt]; exact h1
    simp only [il_bad (Or.inr h1), ox_b_s, if_neg h0, if_neg h1', if_true, ox_x_s]
    exact ot_s ⟨rfl, ot_f (by decide) (ot_s ⟨rfl, fun h => absurd h (by decide), h⟩)⟩
  have h1' : a < 16 := by rw [← Int32.not_le]; exact h1
  obtain ⟨v, hv, rfl⟩ := lb_at h0 h1
  have bad : ¬ (a2 = 0 ∨ a2 = 1 ∨ a2 = 2) → (a2 < 0 ∨ ¬ a2 ≤ 2) := fun hq => by
    by_cases g0 : a2 < 0
    · exact Or.inl g0
    · exact Or.inr (fun g1 => hq (k3_of g0 g1))
  by_cases h2 : a2 = 0 ∨ a2 = 1 ∨ a2 = 2
  · refine ⟨0, ?_⟩
    have g0 : ¬ a2 < 0 := by rcases h2 with h | h | h <;> (rw [h]; decide)
    have g1 : a2 ≤ 2 := by rcases h2 with h | h | h <;> (rw [h]; decide)
    have key : jn_R gs gm gE (upd fk v a2) gas gie gab gfr gto glb gout gst ms mm mas mfr mto mlb (upd mhw v a2) mfi mla mnx men 0 mco (-1) mxp mxw qu bm ir mal its pf := by
      refine ⟨n, m, aj, fr, to, st, lb, ak, en, va_up hw v a2, e1, e2, e3, e4, ⟨hw0.1, fun l hl => ?_, hw0.2.2⟩, ⟨c1, c2, c3, fun l hl => ?_, c5, c6, c7, c8⟩, ⟨m1, m2, fun l hl => ?_, m4, m5, m6⟩, me_0⟩
      · by_cases e : l = v
        · rw [e, up_s]; exact h2
        · rw [up_n e]; exact hw0.2.1 l hl
      · by_cases e : l = v
        · rw [e, up_s, upd_s]
        · rw [up_n e, upd_n e]; exact c4 l hl
      · by_cases e : l = v
        · rw [e, up_s, upd_s]
        · rw [up_n e, upd_n e]; exact m3 l hl
    have hin := in_nI hv (show 16 < 2 ^ 31 by decide)
    have hcl : (nI v).toNatClampNeg = v := cl_nI (by omega)
    have hX : ∀ o1 : Nat → Int64, o1 0 = (fk v).toInt64 → ot_T (if (0 : Int32) ≤ 0 then ox_g (ox_in (nI v) 16) (ox_g (ox_in (nI v) 16) (ox_b (fn_X5_changed mkn mxl) (fun x => match x with | (M_known_56, M_lookedAt_56) => some (mhw (nI v).toNatClampNeg, (0 : Int32), M_known_56, M_lookedAt_56, upd mhw (nI v).toNatClampNeg a2)))) else some (0, 0, mkn, mxl, mhw)) (fun y => match y with | (r1, t1, mkn, mxl, mhw) => t1 = 0 ∧ ((0 : Int32) = 0 → o1 0 = r1.toInt64) ∧ jn_R gs gm gE (upd fk v a2) gas gie gab gfr gto glb gout gst ms mm mas mfr mto mlb mhw mfi mla mnx men mkn mco mxl mxp mxw qu bm ir mal its pf) := by
      intro o1 ho
      refine ot_t (by decide) (ot_i hin (ot_i hin ?_))
      unfold fn_X5_changed
      simp only [ox_b_s, hcl]
      exact ot_s ⟨rfl, fun _ => by rw [ho, c4 v hv, m3 v hv], key⟩
    have hC : ot_T (ox_g (ox_in (nI v) 16) (ox_g (ox_in (nI v) 16) (some (fk (nI v).toNatClampNeg, upd fk (nI v).toNatClampNeg a2)))) (fun x => x = (fk v, upd fk v a2)) := by
      rw [hcl]
      exact ot_i hin (ot_i hin (ot_s rfl))
    obtain ⟨_, hC, rfl⟩ := hC
    simp only [il_ok h0 h1, ox_b_s, if_neg h0, if_pos h1', if_neg g0, if_pos g1]
    rcases h2 with h2 | h2 | h2
    · rw [if_neg (show ¬ (1 : Int32) = 0 by decide), if_pos h2, ox_x_n, if_neg (show ¬ (1 : Int32) = 0 by decide), if_pos h2, hC, ox_b_s]
      exact ot_s ⟨rfl, ot_m (hX _ (vl_0 (o := o) (v := (fk v).toInt64))) (fun ⟨_, _, _, _, _⟩ hy => ⟨hy.1, fun _ => hy.2.1 rfl, hy.2.2⟩)⟩
    · rw [if_neg (show ¬ (1 : Int32) = 0 by decide), if_neg (by rw [h2]; decide), if_pos h2, ox_x_n, if_neg (show ¬ (1 : Int32) = 0 by decide), if_neg (by rw [h2]; decide), if_pos h2, hC, ox_b_s]
      exact ot_s ⟨rfl, ot_m (hX _ (vl_0 (o := o) (v := (fk v).toInt64))) (fun ⟨_, _, _, _, _⟩ hy => ⟨hy.1, fun _ => hy.2.1 rfl, hy.2.2⟩)⟩
    · rw [if_neg (show ¬ (1 : Int32) = 0 by decide), if_neg (by rw [h2]; decide), if_neg (by rw [h2]; decide), if_pos h2, ox_x_n, if_neg (show ¬ (1 : Int32) = 0 by decide), if_neg (by rw [h2]; decide), if_neg (by rw [h2]; decide), if_pos h2, hC, ox_b_s]
      exact ot_s ⟨rfl, ot_m (hX _ (vl_0 (o := o) (v := (fk v).toInt64))) (fun ⟨_, _, _, _, _⟩ hy => ⟨hy.1, fun _ => hy.2.1 rfl, hy.2.2⟩)⟩
  · refine ⟨2, ?_⟩
    have n0 : ¬ a2 = 0 := fun q => h2 (Or.inl q)
    have n1 : ¬ a2 = 1 := fun q => h2 (Or.inr (Or.inl q))
    have n2 : ¬ a2 = 2 := fun q => h2 (Or.inr (Or.inr q))
    simp only [il_ok h0 h1, ox_b_s, if_neg h0, if_pos h1']
    rw [if_neg (show ¬ (1 : Int32) = 0 by decide), if_neg n0, if_neg n1, if_neg n2, ox_x_s]
    refine ot_f (show ¬ (1 : Int32) = 3 by decide) (ot_t rfl (ot_s ⟨rfl, ?_⟩))
    have hX : ot_T (if (2 : Int32) ≤ 0 then ox_g (ox_in (nI v) 16) (ox_g (ox_in (nI v) 16) (ox_b (fn_X5_changed mkn mxl) (fun x => match x with | (M_known_56, M_lookedAt_56) => some (mhw (nI v).toNatClampNeg, (2 : Int32), M_known_56, M_lookedAt_56, upd mhw (nI v).toNatClampNeg a2)))) else some (0, 2, mkn, mxl, mhw)) (fun y => match y with | (r1, t1, mkn, mxl, mhw) => t1 = 2 ∧ ((2 : Int32) = 0 → o 0 = r1.toInt64) ∧ jn_R gs gm gE fk gas gie gab gfr gto glb gout gst ms mm mas mfr mto mlb mhw mfi mla mnx men mkn mco mxl mxp mxw qu bm ir mal its pf) :=
      ot_f (by decide) (ot_s ⟨rfl, fun h => absurd h (by decide), h⟩)
    rcases bad h2 with g | g
    · exact ot_t g hX
    · by_cases g0 : a2 < 0
      · exact ot_t g0 hX
      · exact ot_f g0 (ot_f g hX)
set_option maxHeartbeats 1000000 in
theorem jc_move (h : jn_R gs gm gE fk gas gie gab gfr gto glb gout gst ms mm mas mfr mto mlb mhw mfi mla mnx men mkn mco mxl mxp mxw qu bm ir mal its pf) (a a2 a3 : Int32) :
    ∃ k : Int32, ot_T (fn_L_move gs gm gab gfr gto glb gout gst o a a2 a3) (fun x => match x with | (k1, gm, gab, gfr, gto, glb, gout, gst, o1) => k1 = k ∧ ot_T (fn_X5_move th ms mm mkn mxl mfr mto mlb mfi mla mnx a a2 a3) (fun y => match y with | (r1, t1, mm, mkn, mxl, mfr, mto, mlb, mfi, mla, mnx) => t1 = k ∧ (k = 0 → o1 0 = r1.toInt64) ∧ jn_R gs gm gE fk gas gie gab gfr gto glb gout gst ms mm mas mfr mto mlb mhw mfi mla mnx men mkn mco mxl mxp mxw qu bm ir mal its pf)) := by
  obtain ⟨n, m, aj, fr, to, st, lb, ak, en, hw, e1, e2, e3, e4, hw0, hc, hm0, hd⟩ := id h
  have hn := hc.1.1
  have hm := hc.1.2.1
  have hbad : ∀ k1 : Int32, k1 = 1 ∨ k1 = 2 → ot_T (fn_X5_move_j59 mm a mfi mkn mxl mfr mto a2 mlb a3 mla mnx k1) (fun y => match y with | (r1, t1, mm, mkn, mxl, mfr, mto, mlb, mfi, mla, mnx) => t1 = k1 ∧ (k1 = 0 → o 0 = r1.toInt64) ∧ jn_R gs gm gE fk gas gie gab gfr gto glb gout gst ms mm mas mfr mto mlb mhw mfi mla mnx men mkn mco mxl mxp mxw qu bm ir mal its pf) := by
    intro k1 hk
    unfold fn_X5_move_j59
    exact ot_f (by rcases hk with h | h <;> (rw [h]; decide)) (ot_s ⟨rfl, fun q => by rcases hk with h | h <;> (rw [h] at q; exact absurd q (by decide)), h⟩)
  have hb0 : ot_T (fn_X5_move_j31 mm a mfi mkn mxl mfr mto a2 mlb a3 mla mnx ()) (fun y => match y with | (r1, t1, mm, mkn, mxl, mfr, mto, mlb, mfi, mla, mnx) => t1 = 1 ∧ ((1 : Int32) = 0 → o 0 = r1.toInt64) ∧ jn_R gs gm gE fk gas gie gab gfr gto glb gout gst ms mm mas mfr mto mlb mhw mfi mla mnx men mkn mco mxl mxp mxw qu bm ir mal its pf) := by
    unfold fn_X5_move_j31 fn_X5_move_j32
    exact ot_t (by trivial) (hbad 1 (Or.inl rfl))
  unfold fn_L_move gn_X4_move fn_X4_move gn_X4_move_j22 fn_X4_move_j22 fn_X5_move
  rw [e1, e3]
  by_cases h1 : a < 0 ∨ nI n ≤ a
  · refine ⟨1, ?_⟩
    have x1 : fn_X0_hasState (nI n) a = some 0 := (rs_bad h1).2
    simp only [x1, (rs_bad h1).2, ox_b_s, if_true, ox_x_s]
    rw [e1, e3] at hb0
    exact ot_s ⟨rfl, hb0⟩
  have x1 : fn_X0_hasState (nI n) a = some 1 := (rs_ok h1).2.2
  by_cases h2 : a2 < 0 ∨ nI n ≤ a2
  · refine ⟨1, ?_⟩
    have x2 : fn_X0_hasState (nI n) a2 = some 0 := (rs_bad h2).2
    simp only [x1, x2, (rs_ok h1).2.2, (rs_bad h2).2, ox_b_s, if_true]
    rw [if_neg (show ¬ (1 : Int32) = 0 by decide), ox_x_s, if_neg (show ¬ (1 : Int32) = 0 by decide)]
    rw [e1, e3] at hb0
    exact ot_t (by trivial) (ot_s ⟨rfl, hb0⟩)
  have x2 : fn_X0_hasState (nI n) a2 = some 1 := (rs_ok h2).2.2
  simp only [x1, x2, (rs_ok h1).2.2, (rs_ok h2).2.2, ox_b_s]
  simp only [if_neg (show ¬ (1 : Int32) = 0 by decide)]
  obtain ⟨v, hv, rfl⟩ := rs_at hn h1
  obtain ⟨w, hw1, rfl⟩ := rs_at hn h2
  rw [e1, e3] at hb0
  rw [e1, e3] at hbad
  by_cases h3 : ¬ a3 = -1 ∧ (a3 < 0 ∨ 16 ≤ a3)
  · refine ⟨1, ?_⟩
    rw [if_neg h3.1, il_bad h3.2, ox_b_s, if_pos rfl, ox_x_s]
    refine ot_t rfl (ot_s ⟨rfl, ?_⟩)
    by_cases g : a3 < -1
    · exact ot_t g hb0
    · refine ot_f g (ot_t ?_ hb0)
      rcases h3.2 with q | q
      · exfalso
        rw [Int32.lt_iff_toInt_lt] at g q
        have z0 : (0 : Int32).toInt = 0 := rfl
        have z1 : (-1 : Int32).toInt = -1 := rfl
        exact h3.1 (Int32.toInt_inj.mp (by omega))
      · exact q
  have hl : a3 = -1 ∨ ∃ x, x < 16 ∧ a3 = nI x := by
    by_cases g : a3 = -1
    · exact Or.inl g
    · exact Or.inr (lb_at (fun q => h3 ⟨g, Or.inl q⟩) (fun q => h3 ⟨g, Or.inr q⟩))
  have y1 : ¬ a3 < -1 := by
    rcases hl with q | ⟨x, x1, x2⟩
    · rw [q]; decide
    · rw [x2, Int32.lt_iff_toInt_lt, nI_toInt (by omega)]
      have z1 : (-1 : Int32).toInt = -1 := rfl
      omega
  have y2 : ¬ 16 ≤ a3 := by
    rcases hl with q | ⟨x, x1, x2⟩
    · rw [q]; decide
    · rw [x2, show (16 : Int32) = nI 16 from rfl, nI_leI (by decide) (by omega)]
      omega
  have hX : ∀ (k1 : Int32) (o1 : Nat → Int64) (gm' : Int32) (gab' gfr' gto' glb' gout' gst' : Nat → Int32), ot_T (fn_X5_move_j32 mm (nI v) mfi mkn mxl mfr mto (nI w) mlb a3 mla mnx 1) (fun y => match y with | (r1, t1, mm, mkn, mxl, mfr, mto, mlb, mfi, mla, mnx) => t1 = k1 ∧ (k1 = 0 → o1 0 = r1.toInt64) ∧ jn_R (nI n) gm' gE fk gas gie gab' gfr' gto' glb' gout' gst' (nI n) mm mas mfr mto mlb mhw mfi mla mnx men mkn mco mxl mxp mxw qu bm ir mal its pf) →
      ot_T (if a3 < -1 then fn_X5_move_j31 mm (nI v) mfi mkn mxl mfr mto (nI w) mlb a3 mla mnx () else if 16 ≤ a3 then fn_X5_move_j31 mm (nI v) mfi mkn mxl mfr mto (nI w) mlb a3 mla mnx () else fn_X5_move_j32 mm (nI v) mfi mkn mxl mfr mto (nI w) mlb a3 mla mnx 1) (fun y => match y with | (r1, t1, mm, mkn, mxl, mfr, mto, mlb, mfi, mla, mnx) => t1 = k1 ∧ (k1 = 0 → o1 0 = r1.toInt64) ∧ jn_R (nI n) gm' gE fk gas gie gab' gfr' gto' glb' gout' gst' (nI n) mm mas mfr mto mlb mhw mfi mla mnx men mkn mco mxl mxp mxw qu bm ir mal its pf) :=
    fun k1 o1 gm' gab' gfr' gto' glb' gout' gst' q => ot_f y1 (ot_f y2 q)
  have hgn : ∀ {α : Type} (x y : Option α), (if a3 = -1 then x else ox_b (fn_X4_isLabel a3) (fun r => if r = 0 then y else x)) = x := by
    intro α x y
    by_cases g : a3 = -1
    · rw [if_pos g]
    · rw [if_neg g, il_ok (fun q => h3 ⟨g, Or.inl q⟩) (fun q => h3 ⟨g, Or.inr q⟩), ox_b_s, if_neg (by decide)]
  rw [hgn, hgn]
  unfold gn_X4_move_j54 fn_X4_move_j54
  by_cases h4 : m < 600
  · refine ⟨0, ?_⟩
    have h5 : gm < 600 := by rw [e2, show (600 : Int32) = nI 600 from rfl]; exact nI_lt h4 (by decide)
    have h6 : ¬ mm = 600 := by rw [e4, show (600 : Int32) = nI 600 from rfl]; exact fun q => by rw [nI_eq (by omega) (by decide)] at q; omega
    dsimp only
    rw [if_pos h5, ox_x_n, if_pos h5, e2]
    refine ot_b (P := fun x => match x with | (r, xm, gab, gfr, gto, glb, gout, gst) => r = nI m ∧ xm = nI (m + 1) ∧ cl_R n (m + 1) (va_up aj v (aj v ++ [m])) (va_up fr m v) (va_up to m w) (fun u => if v < u then st u + 1 else st u) (va_up lb m a3) ak en hw gE fk gas gie gab gfr gto glb gout gst) (ot_b (mo_C hw0 hc h4 hv hw1 hl) ?_) ?_
    · rintro ⟨r, xm, gab, gfr, gto, glb, gout, gst⟩ hq
      exact ot_s hq
    rintro ⟨r, xm, gab, gfr, gto, glb, gout, gst⟩ ⟨q1, q2, q3⟩
    dsimp only at q1 q2 q3 ⊢
    refine ot_s ⟨rfl, hX _ _ _ _ _ _ _ _ _ ?_⟩
    unfold fn_X5_move_j32
    refine ot_f (by decide) (ot_f h6 ?_)
    rw [e4]
    refine ot_m (mo_M hw0 hm0 h4 ?_ hv hw1 hl mkn mxl) ?_
    · intro u hu
      by_cases e : u = v
      · rw [e, up_s, List.length_append]
        have := hc.1.2.2.2.2.2.1 v hv
        have := gc_le hc.1 (show v + 1 ≤ n by omega)
        simp only [List.length_singleton]
        omega
      · rw [up_n e]; exact hm0.1.2.2.2.1 u hu
    · rintro ⟨r1, t1, xm1, kn1, xl1, mfr, mto, mlb, mfi, mla, mnx⟩ ⟨z1, z2, z3, z4, z5, z6⟩
      dsimp only at z1 z2 z3 z4 z5 z6 ⊢
      refine ⟨z2, fun _ => by rw [q1, z1]; exact vl_0 (o := o), n, m + 1, _, _, _, _, _, ak, en, hw, rfl, q2, rfl, z3, mo_W hw0 hv hw1, q3, z6, ?_⟩
      rw [z4, z5]
      exact me_0
  · refine ⟨2, ?_⟩
    have h9 : m = 600 := by omega
    have h5 : ¬ gm < 600 := by rw [e2, h9]; decide
    have h6 : mm = 600 := by rw [e4, h9]; rfl
    dsimp only
    rw [if_neg h5, ox_x_s]
    refine ot_f (show ¬ (2 : Int32) = 1 by decide) (ot_t rfl (ot_s ⟨rfl, hX _ _ _ _ _ _ _ _ _ ?_⟩))
    unfold fn_X5_move_j32
    exact ot_f (by decide) (ot_t h6 (hbad 2 (Or.inr rfl)))
end CHANGE
