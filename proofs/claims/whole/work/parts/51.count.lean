/-! PURE: largest part on the class's side; bits counted; the model's counts -/
theorem ct_cn {K : Nat → Nat} {q : Nat} : ∀ i, ct_N K q i = cn_P (fun v => K v = q) i := by
  intro i
  induction i with
  | zero => rfl
  | succ i ih =>
    rw [ct_s, ih]
    by_cases h : K i = q
    · rw [cn_t (P := fun v => K v = q) h, if_pos h]
    · rw [cn_f (P := fun v => K v = q) h, if_neg h, Nat.add_zero]
section LC
variable {n m : Nat} {aj : Nat → List Nat} {fr to st : Nat → Nat} {lb hw ak en : Nat → Int32} {gab kc kn sz lw al ins gr : Nat → Int32} {X : Nat → Prop}
theorem lg_C (hn : n ≤ 200) (ha : gr_A n m aj fr to) (hX : ∀ v, X v → v < n) {K od : Nat → Nat} {f c : Nat} (hK : kn_P n m fr to X K od f c) (hs : su_P n m fr to lb gab K f sz lw al ins gr) :
    ot_T (fn_X3_largestSize sz gr (nI f)) (fun r => ∃ L, r = nI L ∧ L ≤ 200 ∧ lg_M n m fr to X L) := by
  obtain ⟨k1, k2, k3, k4, k5, k6, k7, k8, k9, k10⟩ := id hK
  obtain ⟨s1, s2, s3, s4, s5⟩ := id hs
  have hS : ∀ u q, X u → K u = q + 1 → ct_N K (q + 1) n = cn_P (fp_C m fr to X u) n := by
    intro u q hu hq
    rw [ct_cn]
    refine cn_congr (fun v hv => ?_)
    constructor
    · intro h
      have hXv : X v := (k1 v hv).mp (by omega)
      exact (k3 u v hu hXv).mp (by omega)
    · intro h
      have := (k3 u v hu h.2.1).mpr h
      omega
  refine ot_m (su_largest (f := f) (S := fun q => ct_N K (q + 1) n) (by omega) (fun q hq => ⟨s1 q hq, by have := ct_le (K := K) (q := q + 1) n; omega⟩) (fun q hq => by rcases s5 q hq with h | h; exact Or.inl h.1; exact Or.inr h.1)) ?_
  rintro r ⟨L, h1, h2, h3, h4⟩
  refine ⟨L, h1, ?_, ?_, ?_⟩
  · rcases h4 with h | ⟨q, q1, q2, q3⟩
    · omega
    · have := ct_le (K := K) (q := q + 1) n
      have q3 : ct_N K (q + 1) n = L := q3
      omega
  · intro u hu
    obtain ⟨w, w1, w2⟩ := id hu
    have hXu : X u := (rp_X hu).1
    have hXw : X w := w1.2.1
    have hun := hX u hXu
    have e1 := (k1 u hun).mpr hXu
    have e2 := k2 u hun
    obtain ⟨q, hq⟩ : ∃ q, K u = q + 1 := ⟨K u - 1, by omega⟩
    have e3 := (k3 u w hXu hXw).mpr ⟨hXu, hXw, rc_edge w1, w2⟩
    obtain ⟨j, j1, j2, j3⟩ := w1.2.2
    have hg : gr q = 1 := by
      rcases s5 q (by omega) with h | h
      · exact h.1
      · exact absurd ⟨j, j1, by rw [j2]; exact hq, by rw [j3, ← e3]; exact hq⟩ h.2
    have h5 : ct_N K (q + 1) n ≤ L := h3 q (by omega) hg
    rw [← hS u q hXu hq]
    exact h5
  · rcases h4 with h | ⟨q, q1, q2, q3⟩
    · exact Or.inl h
    · right
      rcases s5 q q1 with h | h
      · obtain ⟨-, j, j1, j2, j3⟩ := h
        have hf := ha.2 j j1
        have hXu : X (fr j) := (k1 _ hf.1).mp (by omega)
        have hXw : X (to j) := (k1 _ hf.2).mp (by omega)
        have e3 := (k3 _ _ hXu hXw).mp (by omega)
        exact ⟨fr j, ⟨to j, ⟨hXu, hXw, j, j1, rfl, rfl⟩, e3.2.2.2⟩, by rw [← hS _ q hXu j2]; exact q3⟩
      · rw [h.1] at q2; exact absurd q2 (by decide)
theorem lg_no (hX : ∀ v, X v → v < n) (h : lg_M n m fr to X 0) : ∀ u, ¬ rd_Y m fr to X u := by
  intro u hu
  have h1 := h.1 u hu
  have hXu : X u := (rp_X hu).1
  have := cn_lt (P := fp_C m fr to X u) (fp_C_refl hXu) (hX u hXu)
  omega
end LC
/-! bits counted -/
def pq_1 (a : Nat) : Nat := Nat.mod (Nat.add (Nat.sub 4294967296 (Nat.land (Nat.shiftRight a 1) 1431655765)) a) 4294967296
def pq_2 (b : Nat) : Nat := Nat.mod (Nat.add (Nat.land b 858993459) (Nat.land (Nat.shiftRight b 2) 858993459)) 4294967296
def pq_4 (c : Nat) : Nat := Nat.land (Nat.mod (Nat.add c (Nat.shiftRight c 4)) 4294967296) 252645135
def pq_8 (d : Nat) : Nat := Nat.mod (Nat.add d (Nat.shiftRight d 8)) 4294967296
def pq_16 (e : Nat) : Nat := Nat.land (Nat.mod (Nat.add e (Nat.shiftRight e 16)) 4294967296) 63
def pq_c (a : Nat) : Nat → Nat
  | 0 => 0
  | b + 1 => Nat.add (pq_c a b) (Nat.mod (Nat.shiftRight a b) 2)
def pq_B (f : Nat → Bool) : Nat → Bool := fun n => Nat.rec true (fun k r => match f k with | true => r | false => false) n
theorem pq_B_of {f : Nat → Bool} : ∀ {n : Nat}, pq_B f n = true → ∀ i, i < n → f i = true := by
  intro n
  induction n with
  | zero => intro _ i hi; exact absurd hi (Nat.not_lt_zero i)
  | succ n ih =>
    intro h i hi
    have h' : (match f n with | true => pq_B f n | false => false) = true := h
    cases hf : f n with
    | false => rw [hf] at h'; cases h'
    | true =>
      rw [hf] at h'
      by_cases e : i = n
      · rw [e]; exact hf
      · exact ih h' i (by omega)
theorem pq_all : pq_B (fun i => pq_B (fun j => Nat.beq (pq_16 (pq_8 (pq_4 (pq_2 (pq_1 (Nat.add (Nat.mul 256 i) j)))))) (Nat.add (pq_c i 8) (pq_c j 8))) 256) 256 = true := by decide +kernel
theorem pq_lo {i j : Nat} (hj : j < 256) : ∀ b, b ≤ 8 → pq_c (256 * i + j) b = pq_c j b := by
  intro b
  induction b with
  | zero => intro _; rfl
  | succ b ih =>
    intro hb
    show pq_c (256 * i + j) b + ((256 * i + j) >>> b) % 2 = pq_c j b + (j >>> b) % 2
    rw [ih (by omega), Nat.shiftRight_eq_div_pow, Nat.shiftRight_eq_div_pow]
    have hb2 : b = 0 ∨ b = 1 ∨ b = 2 ∨ b = 3 ∨ b = 4 ∨ b = 5 ∨ b = 6 ∨ b = 7 := by omega
    rcases hb2 with rfl | rfl | rfl | rfl | rfl | rfl | rfl | rfl <;> omega
theorem pq_hi {i j : Nat} (hj : j < 256) : ∀ b, pq_c (256 * i + j) (8 + b) = pq_c j 8 + pq_c i b := by
  intro b
  induction b with
  | zero => exact pq_lo hj 8 (Nat.le_refl _)
  | succ b ih =>
    show pq_c (256 * i + j) (8 + b) + ((256 * i + j) >>> (8 + b)) % 2 = pq_c j 8 + (pq_c i b + (i >>> b) % 2)
    rw [ih, Nat.shiftRight_eq_div_pow, Nat.shiftRight_eq_div_pow, Nat.pow_add, ← Nat.div_div_eq_div_mul, show (256 * i + j) / 2 ^ 8 = i by omega]
    omega
theorem tn_ushr (n : Nat) (hn : n < 32) (x : Int32) : ((x.toUInt32 >>> ((nI n).toUInt32 &&& Int32.toUInt32 31)).toInt32).toBitVec.toNat = x.toBitVec.toNat >>> n := by
  show (x.toUInt32 >>> ((nI n).toUInt32 &&& Int32.toUInt32 31)).toBitVec.toNat = x.toUInt32.toBitVec.toNat >>> n
  rw [UInt32.toBitVec_shiftRight]
  show (x.toUInt32.toBitVec >>> (((nI n).toUInt32 &&& Int32.toUInt32 31).toBitVec % 32).toNat).toNat = _
  rw [s_u n hn, BitVec.toNat_ushiftRight]
theorem tn_and (x y : Int32) : (x &&& y).toBitVec.toNat = x.toBitVec.toNat &&& y.toBitVec.toNat := by rw [Int32.toBitVec_and, BitVec.toNat_and]
theorem tn_add (x y : Int32) : (x + y).toBitVec.toNat = (x.toBitVec.toNat + y.toBitVec.toNat) % 2 ^ 32 := by rw [Int32.toBitVec_add, BitVec.toNat_add]
theorem tn_sub (x y : Int32) : (x - y).toBitVec.toNat = (2 ^ 32 - y.toBitVec.toNat + x.toBitVec.toNat) % 2 ^ 32 := by rw [Int32.toBitVec_sub, BitVec.toNat_sub]
theorem pc_nat (x : Int32) : ∃ r, fn_J6_bitCount_0f7a4 x = some r ∧ r.toBitVec.toNat = pq_16 (pq_8 (pq_4 (pq_2 (pq_1 x.toBitVec.toNat)))) := by
  unfold fn_J6_bitCount_0f7a4
  refine ⟨_, rfl, ?_⟩
  have u1 := fun x => tn_ushr 1 (by omega) x
  have u2 := fun x => tn_ushr 2 (by omega) x
  have u4 := fun x => tn_ushr 4 (by omega) x
  have u8 := fun x => tn_ushr 8 (by omega) x
  have u16 := fun x => tn_ushr 16 (by omega) x
  have e1 : (nI 1) = (1 : Int32) := rfl
  have e2 : (nI 2) = (2 : Int32) := rfl
  have e4 : (nI 4) = (4 : Int32) := rfl
  have e8 : (nI 8) = (8 : Int32) := rfl
  have e16 : (nI 16) = (16 : Int32) := rfl
  rw [e1] at u1
  rw [e2] at u2
  rw [e4] at u4
  rw [e8] at u8
  rw [e16] at u16
  have a1 : (x - (((x.toUInt32 >>> ((1 : Int32).toUInt32 &&& Int32.toUInt32 31)).toInt32) &&& 1431655765)).toBitVec.toNat = pq_1 x.toBitVec.toNat := by
    rw [tn_sub, tn_and, u1]; rfl
  generalize (x - (((x.toUInt32 >>> ((1 : Int32).toUInt32 &&& Int32.toUInt32 31)).toInt32) &&& 1431655765)) = y1 at a1 ⊢
  rw [← a1]
  have a2 : ((y1 &&& 858993459) + (((y1.toUInt32 >>> ((2 : Int32).toUInt32 &&& Int32.toUInt32 31)).toInt32) &&& 858993459)).toBitVec.toNat = pq_2 y1.toBitVec.toNat := by
    rw [tn_add, tn_and, tn_and, u2]; rfl
  generalize ((y1 &&& 858993459) + (((y1.toUInt32 >>> ((2 : Int32).toUInt32 &&& Int32.toUInt32 31)).toInt32) &&& 858993459)) = y2 at a2 ⊢
  rw [← a2]
  have a4 : ((y2 + (y2.toUInt32 >>> ((4 : Int32).toUInt32 &&& Int32.toUInt32 31)).toInt32) &&& 252645135).toBitVec.toNat = pq_4 y2.toBitVec.toNat := by
    rw [tn_and, tn_add, u4]; rfl
  generalize ((y2 + (y2.toUInt32 >>> ((4 : Int32).toUInt32 &&& Int32.toUInt32 31)).toInt32) &&& 252645135) = y4 at a4 ⊢
  rw [← a4]
  have a8 : (y4 + (y4.toUInt32 >>> ((8 : Int32).toUInt32 &&& Int32.toUInt32 31)).toInt32).toBitVec.toNat = pq_8 y4.toBitVec.toNat := by
    rw [tn_add, u8]; rfl
  generalize (y4 + (y4.toUInt32 >>> ((8 : Int32).toUInt32 &&& Int32.toUInt32 31)).toInt32) = y8 at a8 ⊢
  rw [← a8, tn_and, tn_add, u16]
  rfl
theorem pq_cn (x : Int32) : ∀ b, pq_c x.toBitVec.toNat b = cn_P (fun i => bt x i = true) b := by
  intro b
  induction b with
  | zero => rfl
  | succ b ih =>
    show pq_c x.toBitVec.toNat b + (x.toBitVec.toNat >>> b) % 2 = _
    rw [ih]
    have hb : bt x b = Nat.testBit x.toBitVec.toNat b := rfl
    have ht := Nat.testBit_eq_decide_div_mod_eq (x := x.toBitVec.toNat) (i := b)
    rw [Nat.shiftRight_eq_div_pow]
    by_cases h : bt x b = true
    · rw [cn_t (P := fun i => bt x i = true) h]
      rw [hb, ht] at h
      have := of_decide_eq_true h
      omega
    · rw [cn_f (P := fun i => bt x i = true) h]
      rw [hb, ht] at h
      have : ¬ x.toBitVec.toNat / 2 ^ b % 2 = 1 := fun e => h (decide_eq_true e)
      omega
theorem pc_is {x : Int32} (hx : ∀ b, 16 ≤ b → b < 32 → bt x b = false) : fn_J6_bitCount_0f7a4 x = some (nI (cn_P (fun i => bt x i = true) 16)) := by
  obtain ⟨r, r1, r2⟩ := pc_nat x
  have hlt : x.toBitVec.toNat < 2 ^ 16 := by
    refine Nat.lt_pow_two_of_testBit _ (fun i hi => ?_)
    by_cases h : i < 32
    · exact hx i hi h
    · exact b_big (x := x) (i := i) (by omega)
  have h1 := Nat.eq_of_beq_eq_true (pq_B_of (pq_B_of pq_all (x.toBitVec.toNat / 256) (by omega)) (x.toBitVec.toNat % 256) (Nat.mod_lt _ (by decide)))
  have h1 : pq_16 (pq_8 (pq_4 (pq_2 (pq_1 (256 * (x.toBitVec.toNat / 256) + x.toBitVec.toNat % 256))))) = pq_c (x.toBitVec.toNat / 256) 8 + pq_c (x.toBitVec.toNat % 256) 8 := h1
  have h2 := pq_hi (i := x.toBitVec.toNat / 256) (j := x.toBitVec.toNat % 256) (Nat.mod_lt _ (by decide)) 8
  rw [Nat.add_comm (pq_c (x.toBitVec.toNat / 256) 8), ← h2, Nat.div_add_mod, ← r2, pq_cn] at h1
  rw [r1]
  have hc := cn_le (P := fun i => bt x i = true) 16
  congr 1
  apply Int32.toBitVec_inj.mp
  apply BitVec.eq_of_toNat_eq
  rw [h1]
  show _ = (Int32.ofNat (cn_P (fun i => bt x i = true) 16)).toBitVec.toNat
  rw [show (Int32.ofNat (cn_P (fun i => bt x i = true) 16)).toBitVec = BitVec.ofNat 32 (cn_P (fun i => bt x i = true) 16) from rfl, BitVec.toNat_ofNat, Nat.mod_eq_of_lt (by omega)]
section KN
variable {n : Nat} {hw en : Nat → Int32}
theorem kc_C {fk : Nat → Int32} (hk : ∀ l, l < 16 → fk l = hw l) (k : Int32) : ot_T (ox_b (fn_X4_labelsOfKind fk k) (fun r => fn_J6_bitCount_0f7a4 r)) (fun r => r = nI (cn_P (fun l => hw l = k) 16)) := by
  refine ot_b (lk_kind hk k) ?_
  intro x hx
  rw [pc_is (fun b h1 h2 => by
    cases hb : bt x b with
    | false => rfl
    | true => have := ((hx b h2).mp hb).1; omega)]
  refine ot_s ?_
  rw [cn_congr (P := fun i => bt x i = true) (Q := fun l => hw l = k) (fun v hv => ?_)]
  exact ⟨fun h => ((hx v (by omega)).mp h).2, fun h => (hx v (by omega)).mpr ⟨hv, h⟩⟩
theorem kc_M {mh : Nat → Int32} (hk : ∀ l, l < 16 → mh l = hw l) (k : Int32) : ot_T (ox_l (fn_X5_count_l95 mh k) 1000000 (0, 0)) (fun r => r.1 = nI (cn_P (fun l => hw l = k - 2) 16)) := by
  refine ot_for (fun i x => x = (nI (cn_P (fun l => hw l = k - 2) i), nI i)) 16 ?_ ?_ 1000000 0 _ (Nat.zero_le _) (by rw [show cn_P (fun l => hw l = k - 2) 0 = 0 from rfl, nI_0]) (by omega)
  · rintro i x hi rfl
    unfold fn_X5_count_l95
    dsimp only
    rw [cl_nI (show i < 2 ^ 31 by omega), hk i hi]
    refine ot_f (fun h => by rw [show (16 : Int32) = nI 16 from rfl, nI_leI (by omega) (by omega)] at h; omega) (ot_i (in_nI (by omega) (by decide)) (ot_if (fun c => ?_) (fun c => ?_)))
    · refine ot_s ?_
      show (_, _) = (_, _)
      rw [nI_1, nI_1, cn_t (P := fun l => hw l = k - 2) c]
    · refine ot_s ?_
      show (_, _) = (_, _)
      rw [nI_1, cn_f (P := fun l => hw l = k - 2) c, Int32.add_zero]
  · rintro x rfl
    unfold fn_X5_count_l95
    dsimp only
    exact ot_t (by decide) (ot_s rfl)
theorem ke_M {me : Nat → Int32} (hn : n ≤ 200) (hk : ∀ v, v < n → me v = en v) (he : ∀ v, v < n → en v = 0 ∨ en v = 1) : ot_T (ox_l (fn_X5_count_l60 (nI n) me) 1000000 (0, 0)) (fun r => r.1 = nI (cn_P (fun v => en v = 1) n)) := by
  refine ot_for (fun i x => x = (nI (cn_P (fun v => en v = 1) i), nI i)) n ?_ ?_ 1000000 0 _ (Nat.zero_le _) (by rw [show cn_P (fun v => en v = 1) 0 = 0 from rfl, nI_0]) (by omega)
  · rintro i x hi rfl
    unfold fn_X5_count_l60
    dsimp only
    rw [cl_nI (show i < 2 ^ 31 by omega), hk i hi]
    refine ot_f (fun h => by rw [nI_leI (by omega) (by omega)] at h; omega) (ot_i (in_nI (by omega) (by decide)) ?_)
    rcases he i hi with h | h
    · refine ot_t h (ot_s ?_)
      show (_, _) = (_, _)
      rw [nI_1, cn_f (P := fun v => en v = 1) (by show ¬ en i = 1; rw [h]; decide), Int32.add_zero]
    · refine ot_f (by rw [h]; decide) (ot_s ?_)
      show (_, _) = (_, _)
      rw [nI_1, nI_1, cn_t (P := fun v => en v = 1) h]
  · rintro x rfl
    unfold fn_X5_count_l60
    dsimp only
    exact ot_t (by rw [nI_leI (by omega) (by omega)]; exact Nat.le_refl _) (ot_s rfl)
end KN
