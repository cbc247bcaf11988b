/-! BASE: pure programs (Option, with fuel), and the walk's frame: contracts whose answer and new world are given -/
def ox_b {α β : Type} (x : Option α) (k : α → Option β) : Option β := match x with
  | none => none
  | some a => k a
def ox_g {α : Type} (c : Bool) (k : Option α) : Option α := match c with
  | true => k
  | false => none
def ox_l {σ ρ : Type} (f : σ → Option (σ ⊕ ρ)) : Nat → σ → Option ρ
  | 0, _ => none
  | n + 1, x => match f x with
    | none => none
    | some (.inl y) => ox_l f n y
    | some (.inr r) => some r
def ox_in (i : Int32) (n : Nat) : Bool := decide (¬ (i < 0 ∨ n ≤ i.toNatClampNeg))
def ox_z (v : Int32) : Bool := decide (v = 0 ∨ v = 1)
theorem ox_b_of {α β : Type} {x : Option α} {k : α → Option β} {r : β} (h : ox_b x k = some r) : ∃ a, x = some a ∧ k a = some r := by
  cases x with
  | none => cases h
  | some a => exact ⟨a, rfl, h⟩
theorem ox_i_of {α : Type} {i : Int32} {n : Nat} {k : Option α} {r : α} (h : ox_g (ox_in i n) k = some r) : vp_in i n ∧ k = some r := by
  cases hc : ox_in i n with
  | false => rw [hc] at h; cases h
  | true =>
    rw [hc] at h
    exact ⟨of_decide_eq_true (p := ¬ (i < 0 ∨ n ≤ i.toNatClampNeg)) hc, h⟩
theorem ox_in_t {i : Int32} {n : Nat} (h : vp_in i n) : ox_in i n = true := decide_eq_true (p := ¬ (i < 0 ∨ n ≤ i.toNatClampNeg)) h
theorem ox_z_of {α : Type} {v : Int32} {k : Option α} {r : α} (h : ox_g (ox_z v) k = some r) : narrow .boolean (.int v) = .int v ∧ k = some r := by
  cases hc : ox_z v with
  | false => rw [hc] at h; cases h
  | true =>
    rw [hc] at h
    refine ⟨?_, h⟩
    rcases (of_decide_eq_true hc : v = 0 ∨ v = 1) with rfl | rfl <;> rfl
theorem ox_t {α : Type} {c : Prop} {i : Decidable c} {a b : Option α} {r : α} (hc : c) (h : @ite _ c i a b = some r) : a = some r := by rw [if_pos hc] at h; exact h
theorem ox_f {α : Type} {c : Prop} {i : Decidable c} {a b : Option α} {r : α} (hc : ¬ c) (h : @ite _ c i a b = some r) : b = some r := by rw [if_neg hc] at h; exact h
theorem ox_l_of {σ ρ : Type} {f : σ → Option (σ ⊕ ρ)} {n : Nat} {x : σ} {r : ρ} (h : ox_l f (n + 1) x = some r) : ∃ z, f x = some z ∧ (match z with
    | .inl y => ox_l f n y = some r
    | .inr q => q = r) := by
  cases hf : f x with
  | none => simp only [ox_l, hf] at h; cases h
  | some z =>
    refine ⟨z, rfl, ?_⟩
    cases z with
    | inl y => simp only [ox_l, hf] at h; exact h
    | inr q => simp only [ox_l, hf] at h; exact Option.some.inj h
theorem ox_l_0 {σ ρ : Type} {f : σ → Option (σ ⊕ ρ)} {x : σ} {r : ρ} {P : Prop} (h : ox_l f 0 x = some r) : P := by cases h
/-! words: every contract of ours speaks of its own code and of all the law's words -/
theorem wl_good : ∀ w ∈ wsL_law, goodWord w = true := by
  intro w h
  rcases List.mem_append.mp h with h | h
  · rcases List.mem_append.mp h with h | h
    · rcases List.mem_append.mp h with h | h
      · exact List.all_eq_true.mp wl_good0 w h
      · exact (List.mem_filter.mp h).2
    · exact (List.mem_filter.mp h).2
  · exact (List.mem_filter.mp h).2
theorem gl_V {own C : String} {idx mL : Nat} {y : MethodName} {cc : ByteArray} {rt : Option FieldType} {c0 : Cond} (h1 : Cond.methodLink own idx y ∈ wsL_law) (h2 : Cond.instanceMethod y ∈ wsL_law) (h3 : Cond.selects C y y ∈ wsL_law) (h4 : Cond.initialized C ∈ wsL_law) (h5 : Cond.code y cc mL rt ∈ wsL_law) :
    GoodIn (c0 :: wsL_law) (wsV own idx C y (Cond.code y cc mL rt :: wsL_law)) := by
  have key : ∀ w ∈ wsV own idx C y (Cond.code y cc mL rt :: wsL_law), w ∈ wsL_law := by
    intro w h
    rcases List.mem_append.mp h with h | h
    · simp only [List.mem_cons, List.not_mem_nil, or_false] at h
      rcases h with rfl | rfl | rfl | rfl
      · exact h1
      · exact h2
      · exact h3
      · exact h4
    · rcases List.mem_cons.mp h with rfl | h
      · exact h5
      · exact h
  exact goodIn_sub (fun w h => List.mem_cons_of_mem _ (key w h)) (List.all_eq_true.mpr fun w h => wl_good w (key w h))
theorem gl_S {own : String} {idx mL : Nat} {y : MethodName} {cc : ByteArray} {rt : Option FieldType} {c0 : Cond} (h1 : Cond.methodLink own idx y ∈ wsL_law) (h2 : Cond.static y ∈ wsL_law) (h4 : Cond.initialized y.cls ∈ wsL_law) (h5 : Cond.code y cc mL rt ∈ wsL_law) :
    GoodIn (c0 :: wsL_law) (va_wsS own idx y (Cond.code y cc mL rt :: wsL_law)) := by
  have key : ∀ w ∈ va_wsS own idx y (Cond.code y cc mL rt :: wsL_law), w ∈ wsL_law := by
    intro w h
    rcases List.mem_append.mp h with h | h
    · simp only [List.mem_cons, List.not_mem_nil, or_false] at h
      rcases h with rfl | rfl | rfl
      · exact h1
      · exact h2
      · exact h4
    · rcases List.mem_cons.mp h with rfl | h
      · exact h5
      · exact h
  exact goodIn_sub (fun w h => List.mem_cons_of_mem _ (key w h)) (List.all_eq_true.mpr fun w h => wl_good w (key w h))
/-! contracts -/
def mc_P (D : va_G) (tys : List (ClassId × FieldType)) (av : List Value) (W0 : va_W) (sz : Nat) : Array Value → State → Prop :=
  va_Pc av (fun U => U.heap.size = sz ∧ va_P D vwCl W0 U.heap ∧ va_K D vwCl tys U ∧ va_D (fun _ => True) W0)
def mc_Q (D : va_G) (tys : List (ClassId × FieldType)) (rv : Option Value) (W0 W1 : va_W) (sz : Nat) : Array Value → State → Outcome → State → Prop :=
  fun _ st oc t => (oc = .returned rv ∧ va_P D vwCl W1 t.heap ∧ va_K D vwCl tys t ∧ va_D (va_A W0 sz) W1) ∧ va_F (va_A W0 sz) st t
/-- y, called on av in a world with the cells W0, returns rv and leaves the cells W1; no cell is made, nothing else is changed -/
def mc_C (l : Launch) (y : MethodName) (ws : List Cond) (rm : Room) (D : va_G) (tys : List (ClassId × FieldType)) (av : List Value) (W0 : va_W) (rv : Option Value) (W1 : va_W) : Prop :=
  ∀ sz : Nat, Met l y ws rm (mc_P D tys av W0 sz) (mc_Q D tys rv W0 W1 sz) 0 0 (va_A W0 sz)
section MCW
variable {l : Launch} {y : MethodName} {ws ws' : List Cond} {rm : Room} {D : va_G} {tys : List (ClassId × FieldType)} {av : List Value} {W0 W1 : va_W} {cc : ByteArray} {maxL : Nat}
/-- the walk's frame; 'hend' is the row of the last instruction -/
def mc_Body (l : Launch) (own : String) (ws : List Cond) (rm : Room) (D : va_G) (tys : List (ClassId × FieldType)) (av : List Value) (W0 : va_W) (cc : ByteArray) (maxL : Nat) (last : Instr) (lst : List Value) (Z : Prop) (W1 : va_W) : Prop :=
  ∀ (p : Program) (e : Env) (s : State) (m : MethodId) (below : List Frame) (meth : Method) (c : Code) (A : Nat → Prop) (Q : State → Prop) (ls : Array Slot),
    p.tables.exec = Jvm.exec → c.code = cc → c.maxLocals = maxL → s.vm.findClass own = some m.cls → (∀ w ∈ ws, w.before av.toArray s = true) →
    va_K D vwCl tys s → va_P D vwCl W0 s.heap → va_D A W0 → (∀ q, s.heap.size ≤ q → A q) → lv_has ls maxL (lv_args 0 av) →
    (∀ (H : Heap) (locs : List Loc) (pc : Nat) (ls : Array Slot), va_P D vwCl W1 H → va_D A W1 → va_S A s.heap H locs → decode cc pc = .ok (last, 1) → Z → W p l e rm s m av.toArray below meth c H locs 0 0 Q (F0 m pc ls lst)) →
    W p l e rm s m av.toArray below meth c s.heap [] 0 0 Q (F0 m 0 ls [])
theorem mc_ofi {r : Int32} {own : String} (hy : plainName y.cls = true) (hw : ws = Cond.code y cc maxL (some .int) :: ws') (ho : y.cls = own) (hn : (lg_sl av).length ≤ maxL) (body : mc_Body l own ws rm D tys av W0 cc maxL .ireturn [.int r] True W1) : mc_C l y ws rm D tys av W0 (some (.int r)) W1 := by
  intro sz
  refine Met.ofW (cc := cc) (maxL := maxL) (ret := some .int) hy hw ?_
  intro p e s m args below meth c s₁ B hml hv
  obtain ⟨rfl, hsz, hP, hK, hD0⟩ := hv
  subst hsz
  have hl := lv_entry av (n := maxL) hn
  rw [lg_entry_eq]
  generalize (lg_sl av ++ List.replicate (maxL - (lg_sl av).length) Slot.unset).toArray = ls at hl ⊢
  refine body p e s m below meth c (va_A W0 s.heap.size) _ ls B.exec B.bytes hml (ho ▸ findClass_of_methodNamed B.named) (atoms_spec (ws := ws) B.pre) hK hP (hD0.self (sz := s.heap.size)) (fun q h => Or.inr h) hl ?_
  intro H locs pc ls hP hD hS hd hz
  exact W.iret B.exec B.bytes B.returns (fun t ht hW => ⟨⟨rfl, by rw [ht]; exact hP, va_K.moved hW.alike hK, hD⟩, hS.F ht⟩) hS.2.2 hd B.notSynchronized
theorem mc_ofz {r : Int32} {own : String} (hy : plainName y.cls = true) (hw : ws = Cond.code y cc maxL (some .boolean) :: ws') (ho : y.cls = own) (hn : (lg_sl av).length ≤ maxL) (body : mc_Body l own ws rm D tys av W0 cc maxL .ireturn [.int r] (narrow .boolean (.int r) = .int r) W1) : mc_C l y ws rm D tys av W0 (some (.int r)) W1 := by
  intro sz
  refine Met.ofW (cc := cc) (maxL := maxL) (ret := some .boolean) hy hw ?_
  intro p e s m args below meth c s₁ B hml hv
  obtain ⟨rfl, hsz, hP, hK, hD0⟩ := hv
  subst hsz
  have hl := lv_entry av (n := maxL) hn
  rw [lg_entry_eq]
  generalize (lg_sl av ++ List.replicate (maxL - (lg_sl av).length) Slot.unset).toArray = ls at hl ⊢
  refine body p e s m below meth c (va_A W0 s.heap.size) _ ls B.exec B.bytes hml (ho ▸ findClass_of_methodNamed B.named) (atoms_spec (ws := ws) B.pre) hK hP (hD0.self (sz := s.heap.size)) (fun q h => Or.inr h) hl ?_
  intro H locs pc ls hP hD hS hd hz
  exact W.zret (ty := .boolean) B.exec B.bytes B.returns hz (fun t ht hW => ⟨⟨rfl, by rw [ht]; exact hP, va_K.moved hW.alike hK, hD⟩, hS.F ht⟩) hS.2.2 hd B.notSynchronized
theorem mc_ofv {own : String} (hy : plainName y.cls = true) (hw : ws = Cond.code y cc maxL none :: ws') (ho : y.cls = own) (hn : (lg_sl av).length ≤ maxL) (body : mc_Body l own ws rm D tys av W0 cc maxL .return_ [] True W1) : mc_C l y ws rm D tys av W0 none W1 := by
  intro sz
  refine Met.ofW (cc := cc) (maxL := maxL) (ret := none) hy hw ?_
  intro p e s m args below meth c s₁ B hml hv
  obtain ⟨rfl, hsz, hP, hK, hD0⟩ := hv
  subst hsz
  have hl := lv_entry av (n := maxL) hn
  rw [lg_entry_eq]
  generalize (lg_sl av ++ List.replicate (maxL - (lg_sl av).length) Slot.unset).toArray = ls at hl ⊢
  refine body p e s m below meth c (va_A W0 s.heap.size) _ ls B.exec B.bytes hml (ho ▸ findClass_of_methodNamed B.named) (atoms_spec (ws := ws) B.pre) hK hP (hD0.self (sz := s.heap.size)) (fun q h => Or.inr h) hl ?_
  intro H locs pc ls hP hD hS hd hz
  exact W.vret B.exec B.bytes B.returns (fun t ht hW => ⟨⟨rfl, by rw [ht]; exact hP, va_K.moved hW.alike hK, hD⟩, hS.F ht⟩) hS.2.2 hd B.notSynchronized
end MCW
/-! calls -/
section MCC
variable {p : Program} {l : Launch} {e : Env} {R : Room} {s : State} {m : MethodId} {args : Array Value} {below : List Frame} {meth : Method} {c : Code} {H : Heap} {locs : List Loc} {cells slots : Nat} {Q : State → Prop}
variable {D : va_G} {tys : List (ClassId × FieldType)} {A : Nat → Prop} {H0 : Heap} {pc : Nat} {ls : Array Slot} {rest st0 : List Value} {rv : Option Value} {ws Wc wr W1 wn : va_W} {a : Array Value}
theorem mc_back (hr : va_Run p l e R s m args below meth c H locs cells slots 0 0 (F0 m pc ls st0) rest (mc_Q D tys rv Wc W1 H.size a) (va_A Wc H.size))
    (hP : va_P D vwCl ws H) (hD : va_D A ws) (hS : va_S A H0 H locs) (hA : ∀ q, H0.size ≤ q → A q)
    (isC isR isN : List Nat) (hC : isC.map (fun i => ws[i]?) = Wc.map some) (hR : isR.map (fun i => ws[i]?) = wr.map some) (hn1 : va_nd isR = true) (hn2 : ∀ i ∈ isR, i ∉ isC) (hN : isN.map (fun i => (wr ++ W1)[i]?) = wn.map some) (hN2 : isN.filterMap (fun i => (wr ++ W1)[i]?) = wn) (hNn : va_nd isN = true)
    (kk : ∀ (H1 : Heap) (locs1 : List Loc), va_P D vwCl wn H1 → va_D A wn → va_S A H0 H1 locs1 → W p l e R s m args below meth c H1 locs1 cells slots Q (F0 m (pc + 3) ls (rv.toList ++ rest))) : W p l e R s m args below meth c H locs cells slots Q (F0 m pc ls st0) := by
  intro T hT X
  obtain ⟨v, st₀, t, T', L, h0, X', hL, e1, e2, ⟨⟨hv, hP1, hK1, hD1⟩, hz, hk⟩, st⟩ := hr T hT X
  cases hv
  rw [h0] at hz hk
  have hFc := va_free (wc := Wc) hD hS hA isC hC
  rw [← e1] at hP1
  obtain ⟨hPn, hDn⟩ := va_join (wr := wr) (w1 := W1) hP hD isC isR hC hR hn1 hn2 (H1 := T'.heap) (fun q h1 h2 => by rw [e1]; exact hk q h1 h2) hFc hP1 hD1
  have hS1 : va_S A H0 T'.heap (locs ++ L) := ⟨Nat.le_trans hS.1 (by rw [e1]; exact hz), fun q h1 h2 => by rw [e1, hk q (Nat.lt_of_lt_of_le h1 hS.1) (fun z => h2 (hFc q z))]; exact hS.2.1 q h1 h2, fun q hq => by
      rcases List.mem_append.mp hq with h | h
      · exact hS.2.2 q h
      · exact hFc _ (hL q h)⟩
  obtain ⟨t2, a1, b1⟩ := kk T'.heap (locs ++ L) (hPn.sub isN hN2) (hDn.sub isN hNn hN) hS1 T' rfl X'
  exact ⟨t2, st t2 a1, b1⟩
variable {own C : String} {index n nL maxL : Nat} {y : MethodName} {bytes cc : ByteArray} {ret : Option FieldType} {Ts wsy : List Cond} {rm : Room} {b : Addr} {As : List Value}
theorem mc_blind {av : List Value} {sz : Nat} : FrameBlind (mc_P D tys av Wc sz) := fun a U g mk q => by
  obtain ⟨q0, q1, qP, qK, qD⟩ := q
  exact ⟨q0, q1, qP, va_K.moved (u := U) (U := U.calling g mk a) (Vm.Alike.refl U.vm) qK, qD⟩
theorem mc_callV (S : CallFix p m c cc nL s args Ts own) (hM : mc_C l y wsy rm D tys (.ref b :: As) Wc rv W1) (cw : CallW R s args own C index y bytes maxL ret wsy rm 0 0 n)
    (hK : va_K D vwCl tys s) (hP : va_P D vwCl ws H) (hD : va_D A ws) (hS : va_S A H0 H locs) (hA : ∀ q, H0.size ≤ q → A q)
    (ci q0 : Nat) {qc : vw_C} {fs : List Value} (hci : vwCl[ci]? = some qc) (hq0 : Wc[q0]? = some (b, .inr (ci, fs))) (hqC : qc.1 = C)
    (isC isR isN : List Nat) (hC : isC.map (fun i => ws[i]?) = Wc.map some) (hC2 : isC.filterMap (fun i => ws[i]?) = Wc) (hCn : va_nd isC = true) (hR : isR.map (fun i => ws[i]?) = wr.map some) (hn1 : va_nd isR = true) (hn2 : ∀ i ∈ isR, i ∉ isC) (hN : isN.map (fun i => (wr ++ W1)[i]?) = wn.map some) (hN2 : isN.filterMap (fun i => (wr ++ W1)[i]?) = wn) (hNn : va_nd isN = true)
    (hst : st0 = As.reverse ++ .ref b :: rest) (hlen : As.length = n) (hsz : ls.size = nL) (hroom : (rest.map fun v => v.category).sum ≤ 8) (hd : decode cc pc = .ok (.invokevirtual index, 3)) (hf : cells ≤ R.cells ∧ slots ≤ R.slots)
    (kk : ∀ (H1 : Heap) (locs1 : List Loc), va_P D vwCl wn H1 → va_D A wn → va_S A H0 H1 locs1 → W p l e R s m args below meth c H1 locs1 cells slots Q (F0 m (pc + 3) ls (rv.toList ++ rest))) : W p l e R s m args below meth c H locs cells slots Q (F0 m pc ls st0) := by
  have hPc := hP.sub (ws' := Wc) isC hC2
  have hDc := hD.sub (ws' := Wc) isC hCn hC
  subst hst
  subst hqC
  exact mc_back (va_runV (As := As) (rest := rest) S (hM H.size) cw ⟨mc_blind, va_recv hK hPc hci hq0, fun U hU hW => ⟨rfl, by rw [hU], by rw [hU]; exact hPc, va_K.moved hW.alike hK, hDc.weaken (fun _ _ _ _ => trivial)⟩⟩ rfl hlen hsz rfl (lv_room hroom) hd hf) hP hD hS hA isC isR isN hC hR hn1 hn2 hN hN2 hNn kk
theorem mc_callS (S : CallFix p m c cc nL s args Ts own) (hM : mc_C l y wsy rm D tys As Wc rv W1) (cw : CallB R s args own index y bytes maxL ret wsy rm 0 0 n ∧ (Cond.static y).before args s = true)
    (hK : va_K D vwCl tys s) (hP : va_P D vwCl ws H) (hD : va_D A ws) (hS : va_S A H0 H locs) (hA : ∀ q, H0.size ≤ q → A q)
    (isC isR isN : List Nat) (hC : isC.map (fun i => ws[i]?) = Wc.map some) (hC2 : isC.filterMap (fun i => ws[i]?) = Wc) (hCn : va_nd isC = true) (hR : isR.map (fun i => ws[i]?) = wr.map some) (hn1 : va_nd isR = true) (hn2 : ∀ i ∈ isR, i ∉ isC) (hN : isN.map (fun i => (wr ++ W1)[i]?) = wn.map some) (hN2 : isN.filterMap (fun i => (wr ++ W1)[i]?) = wn) (hNn : va_nd isN = true)
    (hst : st0 = As.reverse ++ rest) (hlen : As.length = n) (hsz : ls.size = nL) (hroom : (rest.map fun v => v.category).sum ≤ 8) (hd : decode cc pc = .ok (.invokestatic index, 3)) (hf : cells ≤ R.cells ∧ slots ≤ R.slots)
    (kk : ∀ (H1 : Heap) (locs1 : List Loc), va_P D vwCl wn H1 → va_D A wn → va_S A H0 H1 locs1 → W p l e R s m args below meth c H1 locs1 cells slots Q (F0 m (pc + 3) ls (rv.toList ++ rest))) : W p l e R s m args below meth c H locs cells slots Q (F0 m pc ls st0) := by
  have hPc := hP.sub (ws' := Wc) isC hC2
  have hDc := hD.sub (ws' := Wc) isC hCn hC
  subst hst
  exact mc_back (va_runS (As := As) (rest := rest) S (hM H.size) cw ⟨mc_blind, fun U hU hW => ⟨rfl, by rw [hU], by rw [hU]; exact hPc, va_K.moved hW.alike hK, hDc.weaken (fun _ _ _ _ => trivial)⟩⟩ rfl hlen hsz rfl (lv_room hroom) hd hf) hP hD hS hA isC isR isN hC hR hn1 hn2 hN hN2 hNn kk
end MCC
