/-! MACHINE: constructors -/
/-- links of a class to its nested classes' constructors -/
def nl_L : List Cond := [.methodLinkNest RX4 9 yX0_init RX4, .methodLinkNest RX4 22 yX2_init RX4, .methodLinkNest RX4 29 yX1_init RX4, .methodLinkNest RX4 36 yX3_init RX4]
def nl_R (U : State) : Prop := ∀ w ∈ nl_L, va_Nw w U
theorem nl_warm {s U : State} (hW : s.WarmedH U.vm) (h : nl_R s) : nl_R U := by
  intro w hw
  have h1 := h w hw
  simp only [nl_L, List.mem_cons, List.not_mem_nil, or_false] at hw
  rcases hw with rfl | rfl | rfl | rfl <;> exact va_Nw.warmM hW h1
def mi_P (D : va_G) (tys : List (ClassId × FieldType)) (av : List Value) (W0 : va_W) (sz : Nat) : Array Value → State → Prop :=
  va_Pc av (fun U => U.heap.size = sz ∧ va_P D vwCl W0 U.heap ∧ va_K D vwCl tys U ∧ va_D (fun _ => True) W0 ∧ nl_R U)
theorem mi_blind {D : va_G} {tys : List (ClassId × FieldType)} {av : List Value} {W0 : va_W} {sz : Nat} : FrameBlind (mi_P D tys av W0 sz) := fun a U g mk q => by
  obtain ⟨q0, q1, qP, qK, qD, qN⟩ := q
  exact ⟨q0, q1, qP, va_K.moved (u := U) (U := U.calling g mk a) (Vm.Alike.refl U.vm) qK, qD, nl_warm (U := U.calling g mk a) (State.WarmedH.refl U) qN⟩
section CTR
variable {l : Launch} {y : MethodName} {ws ws' : List Cond} {rm : Room} {D : va_G} {tys : List (ClassId × FieldType)} {k0 o mc ms : Nat} {W0 : va_W} {W1 : (Nat → Nat) → va_W} {cc : ByteArray}
def mi_Q (D : va_G) (tys : List (ClassId × FieldType)) (k0 o : Nat) (W1 : (Nat → Nat) → va_W) (W0 : va_W) (sz : Nat) : Array Value → State → Outcome → State → Prop := fun _ st oc t =>
  (oc = .returned none ∧ ∃ ad : Nat → Nat, ad k0 = o ∧ va_P D vwCl (W1 ad) t.heap ∧ va_K D vwCl tys t ∧ va_D (va_A W0 sz) (W1 ad)) ∧ va_F (va_A W0 sz) st t
/-- a constructor on the cell o: the cells W1, at new addresses but o -/
def mi_C (l : Launch) (y : MethodName) (ws : List Cond) (rm : Room) (D : va_G) (tys : List (ClassId × FieldType)) (k0 o : Nat) (W0 : va_W) (mc ms : Nat) (W1 : (Nat → Nat) → va_W) : Prop :=
  ∀ sz : Nat, Met l y ws rm (mi_P D tys [.ref o] W0 sz) (mi_Q D tys k0 o W1 W0 sz) mc ms (va_A W0 sz)
def mi_Body (l : Launch) (own : String) (ws : List Cond) (rm : Room) (D : va_G) (tys : List (ClassId × FieldType)) (k0 o : Nat) (W0 : va_W) (cc : ByteArray) (mc ms : Nat) (W1 : (Nat → Nat) → va_W) : Prop :=
  ∀ (p : Program) (e : Env) (s : State) (m : MethodId) (below : List Frame) (meth : Method) (c : Code) (A : Nat → Prop) (Q : State → Prop) (ls : Array Slot),
    p.tables.exec = Jvm.exec → c.code = cc → c.maxLocals = 1 → s.vm.findClass own = some m.cls → (∀ w ∈ ws, w.before ([.ref o] : List Value).toArray s = true) → meth.name = "<init>" → nl_R s →
    va_K D vwCl tys s → va_P D vwCl W0 s.heap → va_D A W0 → (∀ q, s.heap.size ≤ q → A q) → lv_has ls 1 [(0, .ref o)] →
    (∀ (H : Heap) (locs : List Loc) (pc : Nat) (ls : Array Slot) (ad : Nat → Nat) (cells slots : Nat), cells ≤ mc → slots ≤ ms → ad k0 = o → va_P D vwCl (W1 ad) H → va_D A (W1 ad) → va_S A s.heap H locs → decode cc pc = .ok (.return_, 1) → W p l e rm s m ([.ref o] : List Value).toArray below meth c H locs cells slots Q (F0 m pc ls [])) →
    W p l e rm s m ([.ref o] : List Value).toArray below meth c s.heap [] 0 0 Q (F0 m 0 ls [])
theorem mi_of {own : String} (hy : plainName y.cls = true) (hw : ws = Cond.code y cc 1 none :: ws') (ho : y.cls = own) (hnm : y.name = "<init>") (body : mi_Body l own ws rm D tys k0 o W0 cc mc ms W1) : mi_C l y ws rm D tys k0 o W0 mc ms W1 := by
  intro sz
  refine Met.ofW (cc := cc) (maxL := 1) (ret := none) hy hw ?_
  intro p e s m args below meth c s₁ B hml hv
  obtain ⟨rfl, hsz, hP, hK, hD0, hN⟩ := hv
  subst hsz
  have hl := lv_entry ([.ref o] : List Value) (n := 1) (Nat.le_of_ble_eq_true rfl)
  rw [lg_entry_eq]
  generalize (lg_sl ([.ref o] : List Value) ++ List.replicate (1 - (lg_sl ([.ref o] : List Value)).length) Slot.unset).toArray = ls at hl ⊢
  refine body p e s m below meth c (va_A W0 s.heap.size) _ ls B.exec B.bytes hml (ho ▸ findClass_of_methodNamed B.named) (atoms_spec (ws := ws) B.pre) ((name_of_methodNamed B.named B.method).1.trans hnm) hN hK hP (hD0.self (sz := s.heap.size)) (fun q h => Or.inr h) hl ?_
  intro H locs pc ls ad cells slots h1 h2 had hP hD hS hd
  exact W.widen h1 h2 (W.vret B.exec B.bytes B.returns (fun t ht hW => ⟨⟨rfl, ad, had, by rw [ht]; exact hP, va_K.moved hW.alike hK, hD⟩, hS.F ht⟩) hS.2.2 hd B.notSynchronized)
end CTR
section CTC
variable {p : Program} {l : Launch} {e : Env} {R : Room} {s : State} {m : MethodId} {args : Array Value} {below : List Frame} {meth : Method} {c : Code} {H : Heap} {locs : List Loc} {cells slots : Nat} {Q : State → Prop}
variable {D : va_G} {tys : List (ClassId × FieldType)} {A : Nat → Prop} {H0 : Heap} {pc : Nat} {ls : Array Slot} {rest st0 : List Value} {ws Wc wr : va_W} {W1 : (Nat → Nat) → va_W} {k0 o mc ms nL index maxL : Nat} {own : String} {y : MethodName} {bytes cc : ByteArray} {Ts wsy : List Cond} {rm : Room}
theorem mi_back (hr : va_Run p l e R s m args below meth c H locs cells slots mc ms (F0 m pc ls (.ref o :: rest)) rest (mi_Q D tys k0 o W1 Wc H.size (.ref o :: ([] : List Value)).toArray) (va_A Wc H.size))
    (hP : va_P D vwCl ws H) (hD : va_D A ws) (hS : va_S A H0 H locs) (hA : ∀ q, H0.size ≤ q → A q)
    (isC isR : List Nat) (hC : isC.map (fun i => ws[i]?) = Wc.map some) (hR : isR.map (fun i => ws[i]?) = wr.map some) (hn1 : va_nd isR = true) (hn2 : ∀ i ∈ isR, i ∉ isC)
    (kk : ∀ (H1 : Heap) (locs1 : List Loc) (ad : Nat → Nat), ad k0 = o → va_P D vwCl (wr ++ W1 ad) H1 → va_D A (wr ++ W1 ad) → va_S A H0 H1 locs1 → W p l e R s m args below meth c H1 locs1 (cells + mc) (slots + ms) Q (F0 m (pc + 3) ls rest)) : W p l e R s m args below meth c H locs cells slots Q (F0 m pc ls (.ref o :: rest)) := by
  intro T hT X
  obtain ⟨v, st₀, t, T', L, h0, X', hL, e1, e2, ⟨⟨hv, ad, had, hP1, hK1, hD1⟩, hz, hk⟩, st⟩ := hr T hT X
  cases hv
  rw [h0] at hz hk
  have hFc := va_free (wc := Wc) hD hS hA isC hC
  rw [← e1] at hP1
  obtain ⟨hPn, hDn⟩ := va_join (wr := wr) (w1 := W1 ad) hP hD isC isR hC hR hn1 hn2 (H1 := T'.heap) (fun q h1 h2 => by rw [e1]; exact hk q h1 h2) hFc hP1 hD1
  have hS1 : va_S A H0 T'.heap (locs ++ L) := ⟨Nat.le_trans hS.1 (by rw [e1]; exact hz), fun q h1 h2 => by rw [e1, hk q (Nat.lt_of_lt_of_le h1 hS.1) (fun z => h2 (hFc q z))]; exact hS.2.1 q h1 h2, fun q hq => by
      rcases List.mem_append.mp hq with h | h
      · exact hS.2.2 q h
      · exact hFc _ (hL q h)⟩
  obtain ⟨t2, a1, b1⟩ := kk T'.heap (locs ++ L) ad had hPn hDn hS1 T' rfl X'
  exact ⟨t2, st t2 a1, b1⟩
theorem mi_call (S : CallFix p m c cc nL s args Ts own) (hM : mi_C l y wsy rm D tys k0 o Wc mc ms W1) (cw : CallB R s args own index y bytes maxL none wsy rm mc ms 0 ∧ y.name = "<init>" ∧ (Cond.instanceMethod y).before args s = true)
    (hN : nl_R s) (hK : va_K D vwCl tys s) (hP : va_P D vwCl ws H) (hD : va_D A ws) (hS : va_S A H0 H locs) (hA : ∀ q, H0.size ≤ q → A q)
    (isC isR : List Nat) (hC : isC.map (fun i => ws[i]?) = Wc.map some) (hC2 : isC.filterMap (fun i => ws[i]?) = Wc) (hCn : va_nd isC = true) (hR : isR.map (fun i => ws[i]?) = wr.map some) (hn1 : va_nd isR = true) (hn2 : ∀ i ∈ isR, i ∉ isC)
    (hst : st0 = .ref o :: rest) (hsz : ls.size = nL) (hroom : (rest.map fun v => v.category).sum ≤ 8) (hd : decode cc pc = .ok (.invokespecial index, 3)) (hf : cells + mc ≤ R.cells ∧ slots + ms ≤ R.slots)
    (kk : ∀ (H1 : Heap) (locs1 : List Loc) (ad : Nat → Nat), ad k0 = o → va_P D vwCl (wr ++ W1 ad) H1 → va_D A (wr ++ W1 ad) → va_S A H0 H1 locs1 → W p l e R s m args below meth c H1 locs1 (cells + mc) (slots + ms) Q (F0 m (pc + 3) ls rest)) : W p l e R s m args below meth c H locs cells slots Q (F0 m pc ls st0) := by
  have hPc := hP.sub (ws' := Wc) isC hC2
  have hDc := hD.sub (ws' := Wc) isC hCn hC
  subst hst
  exact mi_back (va_runI (As := []) (rest := rest) (b := o) S (hM H.size) cw ⟨mi_blind, fun U hU hW => ⟨rfl, by rw [hU], by rw [hU]; exact hPc, va_K.moved hW.alike hK, hDc.weaken (fun _ _ _ _ => trivial), nl_warm hW hN⟩⟩ rfl rfl hsz rfl (lv_room hroom) hd hf) hP hD hS hA isC isR hC hR hn1 hn2 kk
theorem mi_callN {host : String} (S : CallFix p m c cc nL s args Ts own) (hM : mi_C l y wsy rm D tys k0 o Wc mc ms W1) (cw : va_CN R s args own index y host bytes maxL none wsy rm mc ms 0 ∧ y.name = "<init>" ∧ (Cond.instanceMethod y).before args s = true)
    (hN : nl_R s) (hK : va_K D vwCl tys s) (hP : va_P D vwCl ws H) (hD : va_D A ws) (hS : va_S A H0 H locs) (hA : ∀ q, H0.size ≤ q → A q)
    (isC isR : List Nat) (hC : isC.map (fun i => ws[i]?) = Wc.map some) (hC2 : isC.filterMap (fun i => ws[i]?) = Wc) (hCn : va_nd isC = true) (hR : isR.map (fun i => ws[i]?) = wr.map some) (hn1 : va_nd isR = true) (hn2 : ∀ i ∈ isR, i ∉ isC)
    (hst : st0 = .ref o :: rest) (hsz : ls.size = nL) (hroom : (rest.map fun v => v.category).sum ≤ 8) (hd : decode cc pc = .ok (.invokespecial index, 3)) (hf : cells + mc ≤ R.cells ∧ slots + ms ≤ R.slots)
    (kk : ∀ (H1 : Heap) (locs1 : List Loc) (ad : Nat → Nat), ad k0 = o → va_P D vwCl (wr ++ W1 ad) H1 → va_D A (wr ++ W1 ad) → va_S A H0 H1 locs1 → W p l e R s m args below meth c H1 locs1 (cells + mc) (slots + ms) Q (F0 m (pc + 3) ls rest)) : W p l e R s m args below meth c H locs cells slots Q (F0 m pc ls st0) := by
  have hPc := hP.sub (ws' := Wc) isC hC2
  have hDc := hD.sub (ws' := Wc) isC hCn hC
  subst hst
  exact mi_back (va_runIN (As := []) (rest := rest) (b := o) S (hM H.size) cw ⟨mi_blind, fun U hU hW => ⟨rfl, by rw [hU], by rw [hU]; exact hPc, va_K.moved hW.alike hK, hDc.weaken (fun _ _ _ _ => trivial), nl_warm hW hN⟩⟩ rfl rfl hsz rfl (lv_room hroom) hd hf) hP hD hS hA isC isR hC hR hn1 hn2 kk
/-- a new array of a class that is known -/
theorem na_new (hexec : p.tables.exec = Jvm.exec) (hb : c.code = cc) {atype : ArrayType} (harr : (Cond.arrayClass (newarray.typeOf atype)).before args s = true) {ty : FieldType} (hty : newarray.typeOf atype = ty) (hK : va_K D vwCl tys s) (t0 : Nat) {cA : ClassId} (ht : tys[t0]? = some (cA, ty)) (hprim : ∀ u v : ClassId, va_RA s u ty → va_RA s v ty → u = v) (hP : va_P D vwCl ws H) (hD : va_D A ws) (hS : va_S A H0 H locs) (hA : ∀ q, H0.size ≤ q → A q)
    {n : Int32} {N' : Nat} {a0 : vp_A} (ha : ∀ cA : ClassId, vp_cell cA a0 = arrV cA N' (fun _ => defaultValue ty)) (hn : ¬ n < 0) (hN : n.toNatClampNeg = N') (hbytes : N' * componentBytes ty ≤ 536870912) (hcells : cells + 1 ≤ R.cells) (hslots : slots + N' ≤ R.slots) (hdg : decode cc pc = .ok (.newarray atype, 2))
    (kk : ∀ (q : Nat) (H1 : Heap), va_P D vwCl (ws ++ [(q, .inl (cA, a0))]) H1 → va_D A (ws ++ [(q, .inl (cA, a0))]) → va_S A H0 H1 locs →
      W p l e R s m args below meth c H1 locs (cells + 1) (slots + N') Q (F0 m (pc + 2) ls (.ref q :: rest))) : W p l e R s m args below meth c H locs cells slots Q (F0 m pc ls (.int n :: rest)) := by
  refine va_newa hexec hb harr hty hK hP hD hS hA ha hn hN hbytes hcells hslots hdg (fun q cB H1 hK1 hP1 hD1 hS1 => ?_)
  have h1 := (hK.2 t0 _ ht).2
  have h2 := (hK1.2 tys.length (cB, ty) (by simp)).2
  have h3 : cB = cA := hprim _ _ h2 h1
  subst h3
  exact kk q H1 hP1 hD1 hS1
theorem ra_I {s : State} : ∀ u v : ClassId, va_RA s u .int → va_RA s v .int → u = v := fun _ _ h1 h2 => Option.some.inj (Eq.trans (Eq.symm h1) h2)
theorem ra_Z {s : State} : ∀ u v : ClassId, va_RA s u .boolean → va_RA s v .boolean → u = v := fun _ _ h1 h2 => Option.some.inj (Eq.trans (Eq.symm h1) h2)
theorem ra_J {s : State} : ∀ u v : ClassId, va_RA s u .long → va_RA s v .long → u = v := fun _ _ h1 h2 => Option.some.inj (Eq.trans (Eq.symm h1) h2)
end CTC
theorem gl_I {y : MethodName} {cc : ByteArray} {mL : Nat} {rt : Option FieldType} {c0 : Cond} (h5 : Cond.code y cc mL rt ∈ wsL_law) : GoodIn (c0 :: wsL_law) (Cond.code y cc mL rt :: wsL_law) := by
  have key : ∀ w ∈ Cond.code y cc mL rt :: wsL_law, w ∈ wsL_law := by
    intro w h
    rcases List.mem_cons.mp h with rfl | h
    · exact h5
    · exact h
  exact goodIn_sub (fun w h => List.mem_cons_of_mem _ (key w h)) (List.all_eq_true.mpr fun w h => wl_good w (key w h))
theorem ha_I (N : Nat) : ∀ cA : ClassId, vp_cell cA (N, .inl (fun _ => 0)) = arrV cA N (fun _ => defaultValue .int) := fun _ => rfl
theorem ha_Z (N : Nat) : ∀ cA : ClassId, vp_cell cA (N, .inl (fun _ => 0)) = arrV cA N (fun _ => defaultValue .boolean) := fun _ => rfl
theorem ha_J (N : Nat) : ∀ cA : ClassId, vp_cell cA (N, .inr (.inl (fun _ => 0))) = arrV cA N (fun _ => defaultValue .long) := fun _ => rfl
