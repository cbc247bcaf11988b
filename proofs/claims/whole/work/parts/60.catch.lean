/-! MACHINE: catching in a method's own table -/
section CX
variable {p : Program} {l : Launch} {e : Env} {R : Room} {s : State} {m : MethodId} {args : Array Value} {below : List Frame} {meth : Method} {c : Code}
/-- the search over the rows t, in the state S, comes to the handler at pc, with the tables vm' -/
def cx_S (e : Env) (S : State) (f : JFrame) (a : Addr) (t : List ExceptionTableEntry) (pc : Nat) (vm' : Vm) : Prop :=
  ∀ (Q : Handler → Pre) (E : CtlPost) (d : Bool) (acts : List Action), wp (findHandler.go f a t) Q E e d acts S ↔ Q (.found pc) d acts (S.setVm vm')
/-- what a row's class says of the thrown object's: its link, and whether it takes it -/
def cx_L (e : Env) (s : State) (d : ClassId) (x : ExceptionTableEntry) (th : ClassId) (b : Bool) : Prop := x.catchType ≠ 0 ∧ ∃ k, s.vm.ClassLinks e.platform d x.catchType k ∧ s.vm.assignable th k = b
theorem cx_row {S : State} {f : JFrame} {a : Addr} {x : ExceptionTableEntry} {t : List ExceptionTableEntry} {cell : Cell} {b : Bool} (hW : s.WarmedH S.vm) (hL : cx_L e s f.method.cls x cell.cls b) (hx : covers x f.pc = true) (hcell : S.heap[a]? = some cell) (hv : cell.vm = .none) (hk : ∃ k, s.vm.classes[cell.cls]? = some k) :
    ∃ vm₁, s.WarmedH vm₁ ∧ ∀ (Q : Handler → Pre) (E : CtlPost) (d : Bool) (acts : List Action), wp (findHandler.go f a (x :: t)) Q E e d acts S ↔ (match b with | true => Q (.found x.handlerPc) d acts (S.setVm vm₁) | false => wp (findHandler.go f a t) Q E e d acts (S.setVm vm₁)) := by
  obtain ⟨h0, k, hl, hb⟩ := hL
  obtain ⟨kd, _, _, kt, hd, _, _, _, _, hkt, _, hop⟩ := hl.here
  obtain ⟨kc, hkc⟩ := hk
  have hl1 := hW.classLinks hl
  have hW1 := hW.noted hd hop (State.rightAt_cls hl)
  refine ⟨_, hW1, fun Q E d acts => ?_⟩
  obtain ⟨_, g1, -⟩ := hW1.alike.2.2 _ _ hkc
  obtain ⟨_, g2, -⟩ := hW1.alike.2.2 _ _ hkt
  obtain ⟨r1, r2⟩ := (resolveClass_links e.toSetting hl1).op (op := VmOp.resolveClass f.method.cls x.catchType) rfl
  have g3 : (S.vm.noted f.method.cls x.catchType (.cls k)).assignable cell.cls k = b := by rw [hW1.alike.assignable]; exact hb
  have hx' := hx
  simp only [covers] at hx'
  cases b <;> simp [findHandler.go, hx', h0, r1, r2, hcell, hv, g1, g2, g3, VmOp.dirties, VmOp.acts]
/-- one row ahead at the most, which does not take it; then the row that does -/
theorem cx_find {S : State} {f : JFrame} {a : Addr} {cell : Cell} (hW : s.WarmedH S.vm) (hcell : S.heap[a]? = some cell) (hv : cell.vm = .none) (hk : ∃ k, s.vm.classes[cell.cls]? = some k) {x : ExceptionTableEntry} {suf : List ExceptionTableEntry} (hx : covers x f.pc = true) (hL : cx_L e s f.method.cls x cell.cls true) :
    ∀ pre : List ExceptionTableEntry, (∀ z ∈ pre, covers z f.pc = true ∧ cx_L e s f.method.cls z cell.cls false) → ∃ vm', s.WarmedH vm' ∧ cx_S e S f a (pre ++ x :: suf) x.handlerPc vm' := by
  intro pre
  induction pre generalizing S with
  | nil =>
    intro _
    obtain ⟨v, hv1, h1⟩ := cx_row (t := suf) hW hL hx hcell hv hk
    exact ⟨v, hv1, fun Q E d acts => h1 Q E d acts⟩
  | cons z zs ih =>
    intro hp
    obtain ⟨v, hv1, h1⟩ := cx_row (t := zs ++ x :: suf) hW (hp z (List.mem_cons_self ..)).2 (hp z (List.mem_cons_self ..)).1 hcell hv hk
    obtain ⟨v2, hv2, h2⟩ := ih (S := S.setVm v) hv1 hcell (fun y hy => hp y (List.mem_cons_of_mem _ hy))
    exact ⟨v2, hv2, fun Q E d acts => (h1 Q E d acts).trans (h2 Q E d acts)⟩
/-- one step of a thread with q thrown over g, whose search comes to pc -/
theorem cx_step {T target : State} {g : JFrame} {q : Addr} {tb : Tables} {pc : Nat} {vm' : Vm} (hat : At T g.method c below)
    (hf : ∀ (Q : Handler → Pre) (E : CtlPost) (d : Bool) (acts : List Action), wp (findHandler g q) Q E e d acts ((T.setTop g).pushFrame (.throwing q)) ↔ Q (.found pc) d acts (((T.setTop g).pushFrame (.throwing q)).setVm vm'))
    (hr : Steps tb e below ((T.setVm vm').setTop { g with pc := pc, stack := [.ref q] }) target) : Steps tb e below ((T.setTop g).pushFrame (.throwing q)) target := by
  obtain ⟨hgo, hwi⟩ := hat.throwing q
  refine Steps.head hgo hwi ?_
  have hone : (stepThrowing e ((T.setTop g).pushFrame (.throwing q)) q (.java g :: T.frames.tail)).Is ((((T.setTop g).pushFrame (.throwing q)).setVm vm').setFrames (.java { g with pc := pc, stack := [.ref q] } :: T.frames.tail)) [] := by
    simp only [stepThrowing, searchFrame, vmDo]
    generalize hres : Sem.go _ e false [] ((T.setTop g).pushFrame (.throwing q)) = res
    obtain ⟨as, rfl, has⟩ := Sem.eq_ok_of hres (a := Handler.found pc) (s' := ((T.setTop g).pushFrame (.throwing q)).setVm vm') (acts' := []) (by simp [hf _ _ _ _])
    exact ⟨rfl, has⟩
  rw [stepThread_throwing (frames_entered hat.top _), hone.1]
  obtain ⟨g0, hg0⟩ := Option.isSome_iff_exists.mp hat.top
  obtain ⟨r, hr0⟩ := State.topJava?_eq_some.mp hg0
  have hr1 : (T.setVm vm').frames = .java g0 :: r := hr0
  rw [State.setTop_of_frames _ hr1] at hr
  have e1 : ((((T.setTop g).pushFrame (.throwing q)).setVm vm').setFrames (.java { g with pc := pc, stack := [.ref q] } :: T.frames.tail)) = (T.setVm vm').setFrames (.java { g with pc := pc, stack := [.ref q] } :: r) := by
    rw [State.setTop_of_frames _ hr0, hr0, List.tail_cons]
    show ((((T.setFrames _).pushFrame _).setVm vm').setFrames _) = _
    rw [State.pushFrame, State.setFrames_setFrames]
    show ((T.setVm vm').setFrames _).setFrames _ = _
    rw [State.setFrames_setFrames]
  rw [e1]
  exact hr
/-- caught by the row x of this method's table; the rows ahead don't take it -/
theorem cx_catch {H : Heap} {locs : List Loc} {cells slots : Nat} {Q : State → Prop} {pc : Nat} {ls : Array Slot} {rest : List Value} {own name E : String} {ce : Cell} {q : Addr} (hown : s.vm.findClass own = some m.cls) (pre : List ExceptionTableEntry) (x : ExceptionTableEntry) (suf : List ExceptionTableEntry) (hsplit : c.exceptionTable.toList = pre ++ x :: suf)
    (hpass : ∀ z ∈ pre, covers z pc = true ∧ z.catchType ≠ 0 ∧ ∃ nm : String, (Cond.classLink own z.catchType nm).before args s = true ∧ va_Nc E nm s) (hx : covers x pc = true) (h0 : x.catchType ≠ 0)
    (hlink : (Cond.classLink own x.catchType name).before args s = true) (hcast : (Cond.castable E name).before args s = true) (hcell : H[q]? = some ce) (hv : ce.vm = .none) (hcl : s.vm.findClass E = some ce.cls)
    (kk : W p l e R s m args below meth c H locs cells slots Q (F0 m x.handlerPc ls [.ref q])) : vx_W p l e R s m args below meth c H locs cells slots Q (F0 m pc ls rest) q := by
  intro T hT X
  have hpl : e.platform.magicAccessors = ({} : Platform).magicAccessors := by rw [X.admits.platform]
  have hlk : ∀ (z : ExceptionTableEntry) (nm : String) (b : Bool), z.catchType ≠ 0 → (Cond.classLink own z.catchType nm).before args s = true → (∃ k1 k2, s.vm.findClass E = some k1 ∧ s.vm.findClass nm = some k2 ∧ s.vm.assignable k1 k2 = b) → cx_L e s m.cls z ce.cls b := by
    intro z nm b hz hl ⟨k1, k2, h1, h2, h3⟩
    obtain ⟨k, hk, hc⟩ := Cond.classLink_spec hown hl e.platform hpl
    cases Option.some.inj (h1.symm.trans hcl)
    cases Option.some.inj (h2.symm.trans hk)
    exact ⟨hz, k2, hc, h3⟩
  have hcast' := hlk x name true h0 hlink (Cond.castable_spec hcast)
  obtain ⟨kc, hkc, -⟩ := Vm.findClass_spec hcl
  obtain ⟨vm', hW', hS⟩ := cx_find (e := e) (s := s) (S := (T.setTop (F0 m pc ls rest)).pushFrame (.throwing q)) (f := F0 m pc ls rest) (a := q) (cell := ce) X.warmed (show T.heap[q]? = some ce by rw [hT]; exact hcell) hv ⟨kc, hkc⟩ (suf := suf) hx hcast' pre
    (fun z hz => by
      obtain ⟨z1, z2, nm, z3, z4⟩ := hpass z hz
      exact ⟨z1, hlk z nm false z2 z3 z4⟩)
  obtain ⟨t, a1, b1⟩ := kk (T.setVm vm') hT (X.noted hW')
  refine ⟨t, cx_step X.here (pc := x.handlerPc) (vm' := vm') (fun Q E d acts => ?_) a1, b1⟩
  rw [W.findHandler_eq (s := (T.setTop (F0 m pc ls rest)).pushFrame (.throwing q)) (f := F0 m pc ls rest) X.method' X.code, hsplit]
  exact hS Q E d acts
end CX
