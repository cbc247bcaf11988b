/-! MACHINE: contracts of methods that throw -/
abbrev xIA : String := "java/lang/IllegalArgumentException"
abbrev xUO : String := "java/lang/UnsupportedOperationException"
abbrev xIO : String := "java/lang/IndexOutOfBoundsException"
def ex_N (t : Int32) : String := if t = 1 then xIA else if t = 2 then xUO else xIO
abbrev xs_N : List String := ["java/lang/RuntimeException", "java/lang/Exception"]
def sk_L : List (Nat × String) := [(46, "asks are not 0 .. 255"), (57, "there are 200 states"), (68, "no such state"), (73, "no such label"), (78, "there are 600 moves"), (87, "a label is free, weak or strong"), (115, "no such state of a fair part"), (123, "no such dead end"), (142, "a row begins with move 0"), (162, "an ask is 0 .. 7")]
def sk_R (sa : Nat → Nat) (U : State) : Prop := ∀ q ∈ sk_L, vk_R RX4 q.1 q.2 (sa q.1) U
def xw_L : List Cond := [.declares (Bundle.initS "java/lang/RuntimeException"), .declares (Bundle.initS "java/lang/Exception"), .declares (Bundle.initS Bundle.tN), .castable xIA xIA, .castable xUO xUO, .castable xIO xIO]
def xw_R (U : State) : Prop := ∀ w ∈ xw_L, va_Nw w U
def xn_R (U : State) : Prop := va_Nc xUO xIA U ∧ va_Nc xIA xIO U ∧ va_Nc xIO xIA U
/-- what a throw wants of the world beside the cells -/
def mx_E (sa : Nat → Nat) (A : Nat → Prop) (U : State) (H : Heap) : Prop := vx_Zq Bundle.tN "UNASSIGNED_STACK" Bundle.steD A U H ∧ vx_Zq Bundle.tN "SUPPRESSED_SENTINEL" Bundle.listD A U H ∧ sk_R sa U ∧ xw_R U ∧ xn_R U
theorem xw_warm {s U : State} (hW : s.WarmedH U.vm) (h : xw_R s) : xw_R U := by
  intro w hw
  have h1 := h w hw
  have hd : ∀ y, va_Nw (.declares y) s → va_Nw (.declares y) U := fun y hy => va_tabs rfl (rfl : (s.setVm U.vm).vm = U.vm) (by rw [Cond.declares_setVm hW.alike]; exact hy)
  simp only [xw_L, List.mem_cons, List.not_mem_nil, or_false] at hw
  rcases hw with rfl | rfl | rfl | rfl | rfl | rfl
  · exact hd _ h1
  · exact hd _ h1
  · exact hd _ h1
  · exact va_Nw.warmC hW h1
  · exact va_Nw.warmC hW h1
  · exact va_Nw.warmC hW h1
theorem mx_E.go {sa : Nat → Nat} {A B : Nat → Prop} {s U : State} {H H1 : Heap} (h : mx_E sa A s H) (hW : s.WarmedH U.vm) (hk : ∀ a : Nat, a < H.size → ¬ A a → H1[a]? = H[a]?) (hAB : ∀ q, B q → A q) : mx_E sa B U H1 :=
  ⟨((h.1.kept hk).moved hW.alike).narrow hAB, ((h.2.1.kept hk).moved hW.alike).narrow hAB, fun q hq => vk_R.warm hW (h.2.2.1 q hq), xw_warm hW h.2.2.2.1, h.2.2.2.2.1.moved hW.alike, h.2.2.2.2.2.1.moved hW.alike, h.2.2.2.2.2.2.moved hW.alike⟩
def mx_P (D : va_G) (tys : List (ClassId × FieldType)) (sa : Nat → Nat) (av : List Value) (W0 : va_W) (sz : Nat) : Array Value → State → Prop :=
  va_Pc av (fun U => U.heap.size = sz ∧ va_P D vwCl W0 U.heap ∧ va_K D vwCl tys U ∧ va_D (fun _ => True) W0 ∧ mx_E sa (va_A W0 sz) U U.heap)
def mx_X (D : va_G) (tys : List (ClassId × FieldType)) (E0 : String) (W0 W1 : va_W) (sz : Nat) : String → State → State → Prop := fun E st t =>
  E = E0 ∧ va_P D vwCl W1 t.heap ∧ va_K D vwCl tys t ∧ va_D (va_A W0 sz) W1 ∧ va_F (va_A W0 sz) st t
/-- y, called on av in a world with the cells W0, throws an E and leaves the cells W1 -/
def mx_C (l : Launch) (y : MethodName) (ws : List Cond) (rm : Room) (D : va_G) (tys : List (ClassId × FieldType)) (sa : Nat → Nat) (av : List Value) (W0 : va_W) (E : String) (W1 : va_W) : Prop :=
  ∀ sz : Nat, vx_Met l y ws rm (mx_P D tys sa av W0 sz) (fun _ _ _ _ => False) (mx_X D tys E W0 W1 sz) 1 6 (va_A W0 sz)
theorem mx_blind {D : va_G} {tys : List (ClassId × FieldType)} {sa : Nat → Nat} {av : List Value} {W0 : va_W} {sz : Nat} : FrameBlind (mx_P D tys sa av W0 sz) := fun a U g mk q => by
  obtain ⟨q0, q1, qP, qK, qD, qE⟩ := q
  exact ⟨q0, q1, qP, va_K.moved (u := U) (U := U.calling g mk a) (Vm.Alike.refl U.vm) qK, qD, qE.go (U := U.calling g mk a) (State.WarmedH.refl U) (fun _ _ _ => rfl) (fun _ h => h)⟩
section MXW
variable {l : Launch} {y : MethodName} {ws ws' : List Cond} {rm : Room} {D : va_G} {tys : List (ClassId × FieldType)} {sa : Nat → Nat} {av : List Value} {W0 W1 : va_W} {cc : ByteArray} {maxL : Nat} {E : String}
def mx_T (l : Launch) (p : Program) (e : Env) (s : State) (m : MethodId) (below : List Frame) (meth : Method) (c : Code) (own : String) (rm : Room) (D : va_G) (av : List Value) (cc : ByteArray) (maxL : Nat) (A : Nat → Prop) (Q : State → Prop) (E : String) (W1 : va_W) : Prop :=
  ∀ (H : Heap) (locs : List Loc) (pc : Nat) (ls : Array Slot) (rest : List Value) (ik is ic : Nat) (text E' : String), E' = E → ls.size = maxL → (rest.map fun v => v.category).sum ≤ 8 → va_P D vwCl W1 H → va_D A W1 → va_S A s.heap H locs → (is, text) ∈ sk_L →
    Bundle.fit E' = true → (Cond.classLink own ik E').before av.toArray s = true → (Cond.initialized E').before av.toArray s = true → (∀ w ∈ vx_atS own ic E' xs_N, w.before av.toArray s = true) →
    (∀ w ∈ Cond.classLink own ik E' :: Cond.initialized E' :: vx_atS own ic E' xs_N, vx_ot w = true) →
    decode cc pc = .ok (.new ik, 3) → decode cc (pc + 3) = .ok (.dup, 1) → decode cc (pc + 4) = .ok (.ldc is, 2) → decode cc (pc + 6) = .ok (.invokespecial ic, 3) → decode cc (pc + 9) = .ok (.athrow, 1) →
    W p l e rm s m av.toArray below meth c H locs 0 0 Q (F0 m pc ls rest)
def mx_O (l : Launch) (p : Program) (e : Env) (s : State) (m : MethodId) (below : List Frame) (meth : Method) (c : Code) (rm : Room) (D : va_G) (av : List Value) (A : Nat → Prop) (Q : State → Prop) (E : String) (W1 : va_W) : Prop :=
  ∀ (H : Heap) (locs : List Loc) (pc : Nat) (ls : Array Slot) (rest : List Value) (q : Addr) (ce : Cell), va_P D vwCl W1 H → va_D A W1 → va_S A s.heap H locs → H[q]? = some ce → ce.vm = .none → s.vm.findClass E = some ce.cls →
    vx_W p l e rm s m av.toArray below meth c H locs 1 6 Q (F0 m pc ls rest) q
def mx_Body (l : Launch) (own : String) (ws : List Cond) (rm : Room) (D : va_G) (tys : List (ClassId × FieldType)) (sa : Nat → Nat) (av : List Value) (W0 : va_W) (cc : ByteArray) (maxL : Nat) (E : String) (W1 : va_W) : Prop :=
  ∀ (p : Program) (e : Env) (s : State) (m : MethodId) (below : List Frame) (meth : Method) (c : Code) (A : Nat → Prop) (Q : State → Prop) (ls : Array Slot),
    p.tables.exec = Jvm.exec → c.code = cc → c.maxLocals = maxL → s.vm.findClass own = some m.cls → (∀ w ∈ ws, w.before av.toArray s = true) →
    va_K D vwCl tys s → va_P D vwCl W0 s.heap → va_D A W0 → (∀ q, s.heap.size ≤ q → A q) → lv_has ls maxL (lv_args 0 av) → mx_E sa A s s.heap →
    mx_T l p e s m below meth c own rm D av cc maxL A Q E W1 → mx_O l p e s m below meth c rm D av A Q E W1 →
    W p l e rm s m av.toArray below meth c s.heap [] 0 0 Q (F0 m 0 ls [])
theorem mx_of {own : String} {ret : Option FieldType} (hst : l.stackTraces = false) (hy : plainName y.cls = true) (hw : ws = Cond.code y cc maxL ret :: ws') (ho : y.cls = own) (hn : (lg_sl av).length ≤ maxL) (hown4 : own = RX4) (hr1 : 5 < rm.frames) (hr2 : 90 ≤ rm.locals) (hr3 : rm.cells = 1) (hr4 : rm.slots = 6) (body : mx_Body l own ws rm D tys sa av W0 cc maxL E W1) : mx_C l y ws rm D tys sa av W0 E W1 := by
  intro sz
  refine vx_ofW (cc := cc) (maxL := maxL) (ret := ret) hy hw ?_
  intro p e s m args below meth c s₁ B hml hex hv
  obtain ⟨rfl, hsz, hP, hK, hD0, hE⟩ := hv
  subst hsz
  have hl := lv_entry av (n := maxL) hn
  rw [lg_entry_eq]
  generalize (lg_sl av ++ List.replicate (maxL - (lg_sl av).length) Slot.unset).toArray = ls at hl ⊢
  refine body p e s m below meth c (va_A W0 s.heap.size) _ ls B.exec B.bytes hml (ho ▸ findClass_of_methodNamed B.named) (atoms_spec (ws := ws) B.pre) hK hP (hD0.self (sz := s.heap.size)) (fun q h => Or.inr h) hl hE ?_ ?_
  · intro H locs pc ls rest ik is ic text E' hEE hls hrest hP1 hD1 hS1 hsk hfit hk hini hat hgood d0 d3 d4 d6 d9
    subst hEE
    refine vx_throwS (cc := cc) (own := own) (cls := E') (text := text) (names := xs_N) (ik := ik) (is := is) (ic := ic) (sa := sa is) (A := va_A W0 s.heap.size) B.exec B.bytes hst (ho ▸ findClass_of_methodNamed B.named) hfit (by decide) hk hini (by rw [hown4]; exact hE.2.2.1 _ hsk) hat hgood hE.1 hE.2.1 hS1 (hls.trans hml.symm) d0 d3 d4 d6 d9 (fun x hx => (hex x hx).elim) (by exact hr1) ?_ ?_ ?_ B.notSynchronized ?_ (fun z hz => hS1.2.2 z hz) (Nat.le_refl _) (Nat.le_refl _)
    · show _ + _ ≤ rm.locals
      simp only [List.length_cons, List.length_nil]
      omega
    · show 0 + 1 ≤ rm.cells
      omega
    · show 0 + 6 ≤ rm.slots
      omega
    · intro t halike hsz hkeep
      refine ⟨rfl, hP1.kept (fun k q hk => hkeep _ (vx_lt hP1 hk)), va_K.moved halike hK, hD1, Nat.le_trans hS1.1 hsz, fun q h1 h2 => ?_⟩
      rw [hkeep q (Nat.lt_of_lt_of_le h1 hS1.1)]
      exact hS1.2.1 q h1 h2
  · intro H locs pc ls rest q ce hP1 hD1 hS1 hce hcv hcl
    refine vx_out (fun x hx => (hex x hx).elim) B.notSynchronized hce hcv hcl ?_ (fun z hz => hS1.2.2 z hz) (Nat.le_refl _) (Nat.le_refl _)
    intro t ht halike
    refine ⟨rfl, by rw [ht]; exact hP1, va_K.moved halike hK, hD1, by rw [ht]; exact hS1.1, fun q h1 h2 => by rw [ht]; exact hS1.2.1 q h1 h2⟩
end MXW
/-! calls of methods that throw -/
section MXC
variable {p : Program} {l : Launch} {e : Env} {R : Room} {s : State} {m : MethodId} {args : Array Value} {below : List Frame} {meth : Method} {c : Code} {H : Heap} {locs : List Loc} {cells slots : Nat} {Q : State → Prop}
variable {D : va_G} {tys : List (ClassId × FieldType)} {sa : Nat → Nat} {A : Nat → Prop} {pc : Nat} {ls : Array Slot} {rest st0 : List Value} {ws Wc wr W1 wn : va_W} {E : String}
theorem mx_back (hr : vx_Run p l e R s m args below meth c H locs cells slots 1 6 (F0 m pc ls st0) rest (fun _ _ _ => False) (mx_X D tys E Wc W1 H.size) (va_A Wc H.size))
    (hP : va_P D vwCl ws H) (hD : va_D A ws) (hS : va_S A s.heap H locs) (hA : ∀ q, s.heap.size ≤ q → A q)
    (isC isR isN : List Nat) (hC : isC.map (fun i => ws[i]?) = Wc.map some) (hR : isR.map (fun i => ws[i]?) = wr.map some) (hn1 : va_nd isR = true) (hn2 : ∀ i ∈ isR, i ∉ isC) (hN : isN.map (fun i => (wr ++ W1)[i]?) = wn.map some) (hN2 : isN.filterMap (fun i => (wr ++ W1)[i]?) = wn) (hNn : va_nd isN = true)
    (kk : ∀ (H1 : Heap) (locs1 : List Loc) (q : Addr) (ce : Cell), va_P D vwCl wn H1 → va_D A wn → va_S A s.heap H1 locs1 → H1[q]? = some ce → ce.vm = .none → s.vm.findClass E = some ce.cls → vx_W p l e R s m args below meth c H1 locs1 (cells + 1) (slots + 6) Q (F0 m pc ls rest) q) : W p l e R s m args below meth c H locs cells slots Q (F0 m pc ls st0) := by
  intro T hT X
  rcases hr T hT X with ⟨v, st₀, t, T', L, h0, X', hL, e1, e2, hq, st⟩ | ⟨q, st₀, t, T', L, E1, ce, h0, X', hL, e1, e2, ⟨hE, hP1, hK1, hD1, hz, hk⟩, hce, hcv, hcl, st⟩
  · exact hq.elim
  · subst hE
    rw [h0] at hz hk
    have hFc := va_free (wc := Wc) hD hS hA isC hC
    rw [← e1] at hP1
    obtain ⟨hPn, hDn⟩ := va_join (wr := wr) (w1 := W1) hP hD isC isR hC hR hn1 hn2 (H1 := T'.heap) (fun q h1 h2 => by rw [e1]; exact hk q h1 h2) hFc hP1 hD1
    have hS1 : va_S A s.heap T'.heap (locs ++ L) := ⟨Nat.le_trans hS.1 (by rw [e1]; exact hz), fun q h1 h2 => by rw [e1, hk q (Nat.lt_of_lt_of_le h1 hS.1) (fun z => h2 (hFc q z))]; exact hS.2.1 q h1 h2, fun q hq => by
        rcases List.mem_append.mp hq with h | h
        · exact hS.2.2 q h
        · exact hFc _ (hL q h)⟩
    obtain ⟨t2, a1, b1⟩ := kk T'.heap (locs ++ L) q ce (hPn.sub isN hN2) (hDn.sub isN hNn hN) hS1 (by rw [e1]; exact hce) hcv hcl T' rfl X'
    exact ⟨t2, st.trans a1, b1⟩
variable {own C : String} {index n nL maxL : Nat} {y : MethodName} {bytes cc : ByteArray} {ret : Option FieldType} {Ts wsy : List Cond} {rm : Room} {b : Addr} {As : List Value}
theorem mx_callV (S : CallFix p m c cc nL s args Ts own) (hM : mx_C l y wsy rm D tys sa (.ref b :: As) Wc E W1) (cw : CallW R s args own C index y bytes maxL ret wsy rm 1 6 n)
    (hK : va_K D vwCl tys s) (hE : mx_E sa A s s.heap) (hP : va_P D vwCl ws H) (hD : va_D A ws) (hS : va_S A s.heap H locs) (hA : ∀ q, s.heap.size ≤ q → A q)
    (ci q0 : Nat) {qc : vw_C} {fs : List Value} (hci : vwCl[ci]? = some qc) (hq0 : Wc[q0]? = some (b, .inr (ci, fs))) (hqC : qc.1 = C)
    (isC isR isN : List Nat) (hC : isC.map (fun i => ws[i]?) = Wc.map some) (hC2 : isC.filterMap (fun i => ws[i]?) = Wc) (hCn : va_nd isC = true) (hR : isR.map (fun i => ws[i]?) = wr.map some) (hn1 : va_nd isR = true) (hn2 : ∀ i ∈ isR, i ∉ isC) (hN : isN.map (fun i => (wr ++ W1)[i]?) = wn.map some) (hN2 : isN.filterMap (fun i => (wr ++ W1)[i]?) = wn) (hNn : va_nd isN = true)
    (hst : st0 = As.reverse ++ .ref b :: rest) (hlen : As.length = n) (hsz : ls.size = nL) (hroom : (rest.map fun v => v.category).sum ≤ 8) (hd : decode cc pc = .ok (.invokevirtual index, 3)) (hf : cells + 1 ≤ R.cells ∧ slots + 6 ≤ R.slots)
    (kk : ∀ (H1 : Heap) (locs1 : List Loc) (q : Addr) (ce : Cell), va_P D vwCl wn H1 → va_D A wn → va_S A s.heap H1 locs1 → H1[q]? = some ce → ce.vm = .none → s.vm.findClass E = some ce.cls → vx_W p l e R s m args below meth c H1 locs1 (cells + 1) (slots + 6) Q (F0 m pc ls rest) q) : W p l e R s m args below meth c H locs cells slots Q (F0 m pc ls st0) := by
  have hPc := hP.sub (ws' := Wc) isC hC2
  have hDc := hD.sub (ws' := Wc) isC hCn hC
  subst hst
  subst hqC
  exact mx_back (vx_runV (As := As) (rest := rest) S (hM H.size) cw ⟨mx_blind, va_recv hK hPc hci hq0, fun U hU hW => ⟨rfl, by rw [hU], by rw [hU]; exact hPc, va_K.moved hW.alike hK, hDc.weaken (fun _ _ _ _ => trivial), by rw [hU]; exact hE.go hW hS.2.1 (va_free (wc := Wc) hD hS hA isC hC)⟩⟩ rfl hlen hsz rfl (lv_room hroom) hd hf) hP hD hS hA isC isR isN hC hR hn1 hn2 hN hN2 hNn kk
theorem mx_callS (S : CallFix p m c cc nL s args Ts own) (hM : mx_C l y wsy rm D tys sa As Wc E W1) (cw : CallB R s args own index y bytes maxL ret wsy rm 1 6 n ∧ (Cond.static y).before args s = true)
    (hK : va_K D vwCl tys s) (hE : mx_E sa A s s.heap) (hP : va_P D vwCl ws H) (hD : va_D A ws) (hS : va_S A s.heap H locs) (hA : ∀ q, s.heap.size ≤ q → A q)
    (isC isR isN : List Nat) (hC : isC.map (fun i => ws[i]?) = Wc.map some) (hC2 : isC.filterMap (fun i => ws[i]?) = Wc) (hCn : va_nd isC = true) (hR : isR.map (fun i => ws[i]?) = wr.map some) (hn1 : va_nd isR = true) (hn2 : ∀ i ∈ isR, i ∉ isC) (hN : isN.map (fun i => (wr ++ W1)[i]?) = wn.map some) (hN2 : isN.filterMap (fun i => (wr ++ W1)[i]?) = wn) (hNn : va_nd isN = true)
    (hst : st0 = As.reverse ++ rest) (hlen : As.length = n) (hsz : ls.size = nL) (hroom : (rest.map fun v => v.category).sum ≤ 8) (hd : decode cc pc = .ok (.invokestatic index, 3)) (hf : cells + 1 ≤ R.cells ∧ slots + 6 ≤ R.slots)
    (kk : ∀ (H1 : Heap) (locs1 : List Loc) (q : Addr) (ce : Cell), va_P D vwCl wn H1 → va_D A wn → va_S A s.heap H1 locs1 → H1[q]? = some ce → ce.vm = .none → s.vm.findClass E = some ce.cls → vx_W p l e R s m args below meth c H1 locs1 (cells + 1) (slots + 6) Q (F0 m pc ls rest) q) : W p l e R s m args below meth c H locs cells slots Q (F0 m pc ls st0) := by
  have hPc := hP.sub (ws' := Wc) isC hC2
  have hDc := hD.sub (ws' := Wc) isC hCn hC
  subst hst
  exact mx_back (vx_runS (As := As) (rest := rest) S (hM H.size) cw ⟨mx_blind, fun U hU hW => ⟨rfl, by rw [hU], by rw [hU]; exact hPc, va_K.moved hW.alike hK, hDc.weaken (fun _ _ _ _ => trivial), by rw [hU]; exact hE.go hW hS.2.1 (va_free (wc := Wc) hD hS hA isC hC)⟩⟩ rfl hlen hsz rfl (lv_room hroom) hd hf) hP hD hS hA isC isR isN hC hR hn1 hn2 hN hN2 hNn kk
end MXC
theorem ox_x_of {τ α : Type} {x : Option τ} {k : τ → Option α} {r : Option α} {a : α} (h : ox_x x k r = some a) : (∃ t, x = some t ∧ k t = some a) ∨ (x = none ∧ r = some a) := by
  cases x with
  | none => exact Or.inr ⟨rfl, h⟩
  | some t => exact Or.inl ⟨t, rfl, h⟩
/-- the words of a throw: the good ones lie in the law's list, the others in mx_E -/
theorem xa_IA {a : Array Value} {s : State} {c0 : Cond} (hts : ∀ w ∈ c0 :: wsL_law, w.before a s = true) (hE : xw_R s) : ∀ w ∈ vx_atS RX4 48 xIA xs_N, w.before a s = true := by
  refine vx_hat (B := xw_L) (fun w hw => hts w (List.mem_cons_of_mem _ ?_)) ?_ (fun w hw => ?_)
  · exact List.mem_append_left _ (List.mem_append_left _ (List.mem_append_right _ hw))
  · decide +kernel
  · have h1 := hE w hw
    simp only [xw_L, List.mem_cons, List.not_mem_nil, or_false] at hw
    rcases hw with rfl | rfl | rfl | rfl | rfl | rfl <;> exact va_Nw.use rfl h1
theorem xa_UO {a : Array Value} {s : State} {c0 : Cond} (hts : ∀ w ∈ c0 :: wsL_law, w.before a s = true) (hE : xw_R s) : ∀ w ∈ vx_atS RX4 59 xUO xs_N, w.before a s = true := by
  refine vx_hat (B := xw_L) (fun w hw => hts w (List.mem_cons_of_mem _ ?_)) ?_ (fun w hw => ?_)
  · exact List.mem_append_left _ (List.mem_append_right _ hw)
  · decide +kernel
  · have h1 := hE w hw
    simp only [xw_L, List.mem_cons, List.not_mem_nil, or_false] at hw
    rcases hw with rfl | rfl | rfl | rfl | rfl | rfl <;> exact va_Nw.use rfl h1
theorem xa_IO {a : Array Value} {s : State} {c0 : Cond} (hts : ∀ w ∈ c0 :: wsL_law, w.before a s = true) (hE : xw_R s) : ∀ w ∈ vx_atS RX4 86 xIO xs_N, w.before a s = true := by
  refine vx_hat (B := xw_L) (fun w hw => hts w (List.mem_cons_of_mem _ ?_)) ?_ (fun w hw => ?_)
  · exact List.mem_append_right _ hw
  · decide +kernel
  · have h1 := hE w hw
    simp only [xw_L, List.mem_cons, List.not_mem_nil, or_false] at hw
    rcases hw with rfl | rfl | rfl | rfl | rfl | rfl <;> exact va_Nw.use rfl h1
theorem xo_IA : ∀ w ∈ Cond.classLink RX4 44 xIA :: Cond.initialized xIA :: vx_atS RX4 48 xIA xs_N, vx_ot w = true := by decide +kernel
theorem xo_UO : ∀ w ∈ Cond.classLink RX4 55 xUO :: Cond.initialized xUO :: vx_atS RX4 59 xUO xs_N, vx_ot w = true := by decide +kernel
theorem xo_IO : ∀ w ∈ Cond.classLink RX4 84 xIO :: Cond.initialized xIO :: vx_atS RX4 86 xIO xs_N, vx_ot w = true := by decide +kernel
theorem ex_1 : xIA = ex_N 1 := by decide
theorem ex_2 : xUO = ex_N 2 := by decide
theorem ex_3 : xIO = ex_N 3 := by decide
