/-! MACHINE: the law's own methods: they catch -/
/-- a method that returns; it may have made one cell of six slots -/
def mh_C (l : Launch) (y : MethodName) (ws : List Cond) (rm : Room) (D : va_G) (tys : List (ClassId × FieldType)) (sa : Nat → Nat) (av : List Value) (W0 : va_W) (rv : Option Value) (W1 : va_W) : Prop :=
  ∀ sz : Nat, Met l y ws rm (mx_P D tys sa av W0 sz) (mc_Q D tys rv W0 W1 sz) 1 6 (va_A W0 sz)
theorem va_K_2 {D : va_G} {cl : List vw_C} {a b c : ClassId × FieldType} {s : State} (h : va_K D cl [a, b, c] s) : va_K D cl [a, b] s := by
  refine ⟨h.1, fun k q hk => h.2 k q ?_⟩
  match k, hk with
  | 0, hk => exact hk
  | 1, hk => exact hk
  | k + 2, hk => cases hk
section MHW
variable {l : Launch} {y : MethodName} {ws ws' : List Cond} {rm : Room} {D : va_G} {tys : List (ClassId × FieldType)} {sa : Nat → Nat} {av : List Value} {W0 W1 : va_W} {cc : ByteArray} {maxL : Nat} {hh : List (Nat × Nat × Nat × Nat)}
def mh_Body (l : Launch) (own : String) (ws : List Cond) (rm : Room) (D : va_G) (tys : List (ClassId × FieldType)) (sa : Nat → Nat) (av : List Value) (W0 : va_W) (cc : ByteArray) (maxL : Nat) (hh : List (Nat × Nat × Nat × Nat)) (r : Int32) (W1 : va_W) : Prop :=
  ∀ (p : Program) (e : Env) (s : State) (m : MethodId) (below : List Frame) (meth : Method) (c : Code) (A : Nat → Prop) (Q : State → Prop) (ls : Array Slot),
    p.tables.exec = Jvm.exec → c.code = cc → c.maxLocals = maxL → s.vm.findClass own = some m.cls → (∀ w ∈ ws, w.before av.toArray s = true) →
    va_K D vwCl tys s → va_P D vwCl W0 s.heap → va_D A W0 → (∀ q, s.heap.size ≤ q → A q) → lv_has ls maxL (lv_args 0 av) → mx_E sa A s s.heap → c.exceptionTable.toList = tableOf hh →
    (∀ (H : Heap) (locs : List Loc) (pc : Nat) (ls : Array Slot) (cells slots : Nat), cells ≤ 1 → slots ≤ 6 → va_P D vwCl W1 H → va_D A W1 → va_S A s.heap H locs → decode cc pc = .ok (.ireturn, 1) → W p l e rm s m av.toArray below meth c H locs cells slots Q (F0 m pc ls [.int r])) →
    W p l e rm s m av.toArray below meth c s.heap [] 0 0 Q (F0 m 0 ls [])
theorem mh_of {own : String} {r : Int32} (hy : plainName y.cls = true) (hw : ws = Cond.codeWith y cc maxL (some .int) hh :: ws') (ho : y.cls = own) (hn : (lg_sl av).length ≤ maxL) (body : mh_Body l own ws rm D tys sa av W0 cc maxL hh r W1) : mh_C l y ws rm D tys sa av W0 (some (.int r)) W1 := by
  intro sz
  refine MetFree.of_bodyS (code := cc) (maxLocals := maxL) (ret := some .int) hy ?_ ?_
  · intro args s m h hnm
    obtain ⟨m9, meth, c, hn9, h1, h2, h3, h4, -, h5, h6, -⟩ := Cond.codeWith_spec (atoms_spec (ws := ws) h _ (by rw [hw]; exact List.mem_cons_self))
    cases hnm.symm.trans hn9
    exact ⟨meth, c, h1, h2, h3, h4, h5, h6⟩
  · intro p e s m args below meth c s₁ B hml hv _
    have hh0 : s₁.heap = s.heap := by rw [B.state]; rfl
    have htab := vx_table (x := y) B (atoms_spec (ws := ws) B.pre _ (by rw [hw]; exact List.mem_cons_self))
    obtain ⟨rfl, hsz, hP, hK, hD0, hE⟩ := hv
    subst hsz
    have hl := lv_entry av (n := maxL) hn
    have key : W p l e (headSpec ws rm).room s m av.toArray below meth c s.heap [] 0 0 (MQ below (mc_Q D tys (some (.int r)) W0 W1 s.heap.size) av.toArray s 1 6 (va_A W0 s.heap.size)) (entryFrame m av.toArray maxL) := by
      rw [lg_entry_eq]
      generalize (lg_sl av ++ List.replicate (maxL - (lg_sl av).length) Slot.unset).toArray = ls at hl ⊢
      refine body p e s m below meth c (va_A W0 s.heap.size) _ ls B.exec B.bytes hml (ho ▸ findClass_of_methodNamed B.named) (atoms_spec (ws := ws) B.pre) hK hP (hD0.self (sz := s.heap.size)) (fun q h => Or.inr h) hl hE htab ?_
      intro H locs pc ls cells slots h1 h2 hP1 hD1 hS1 hd
      exact W.widen h1 h2 (W.iret B.exec B.bytes B.returns (fun t ht hW => ⟨⟨rfl, by rw [ht]; exact hP1, va_K.moved hW.alike hK, hD1⟩, hS1.F ht⟩) hS1.2.2 hd B.notSynchronized)
    obtain ⟨t, a1, o, b1, b2, b3⟩ := key s₁ hh0 (Stand.of_body B)
    exact ⟨t, o, a1, b1, b2, b3⟩
end MHW
