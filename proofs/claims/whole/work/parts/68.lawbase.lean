/-! MACHINE: the law's body: calls of its helpers -/
section MHC
variable {p : Program} {l : Launch} {e : Env} {R : Room} {s : State} {m : MethodId} {args : Array Value} {below : List Frame} {meth : Method} {c : Code} {H : Heap} {locs : List Loc} {cells slots : Nat} {Q : State → Prop}
variable {D : va_G} {tys : List (ClassId × FieldType)} {A : Nat → Prop} {H0 : Heap} {pc : Nat} {ls : Array Slot} {rest st0 : List Value} {ws Wc wr W1 wn : va_W} {rv : Option Value} {a : Array Value} {mc ms : Nat}
theorem mh_back (hr : va_Run p l e R s m args below meth c H locs cells slots mc ms (F0 m pc ls st0) rest (mc_Q D tys rv Wc W1 H.size a) (va_A Wc H.size))
    (hP : va_P D vwCl ws H) (hD : va_D A ws) (hS : va_S A H0 H locs) (hA : ∀ q, H0.size ≤ q → A q)
    (isC isR isN : List Nat) (hC : isC.map (fun i => ws[i]?) = Wc.map some) (hR : isR.map (fun i => ws[i]?) = wr.map some) (hn1 : va_nd isR = true) (hn2 : ∀ i ∈ isR, i ∉ isC) (hN : isN.map (fun i => (wr ++ W1)[i]?) = wn.map some) (hN2 : isN.filterMap (fun i => (wr ++ W1)[i]?) = wn) (hNn : va_nd isN = true)
    (kk : ∀ (H1 : Heap) (locs1 : List Loc), va_P D vwCl wn H1 → va_D A wn → va_S A H0 H1 locs1 → W p l e R s m args below meth c H1 locs1 (cells + mc) (slots + ms) Q (F0 m (pc + 3) ls (rv.toList ++ rest))) : W p l e R s m args below meth c H locs cells slots Q (F0 m pc ls st0) := by
  intro T hT X
  obtain ⟨v, st₀, t, T', L, h0, X', hL, e1, e2, ⟨⟨hv, hP1, hK1, hD1⟩, hz, hk⟩, st⟩ := hr T hT X
  cases hv
  rw [h0] at hz hk
  have hFc := va_free (wc := Wc) hD hS hA isC hC
  rw [← e1] at hP1
  obtain ⟨hPn, hDn⟩ := va_join (wr := wr) (w1 := W1) hP hD isC isR hC hR hn1 hn2 (H1 := T'.heap) (fun q h1 h2 => by rw [e1]; exact hk q h1 h2) hFc hP1 hD1
  have hS1 : va_S A H0 T'.heap (locs ++ L) := ⟨Nat.le_trans hS.1 (by rw [e1]; exact hz), fun q h1 h2 => by rw [e1, hk q (Nat.lt_of_lt_of_le h1 hS.1) (fun z => h2 (hFc q z))]; exact hS.2.1 q h1 h2, fun q hq => by
      rcases List.mem_append.mp hq with h | h
      · exact hS.2.2 q h
      · exact hFc _ (hL q h)⟩
  obtain ⟨t2, a1, b1⟩ := kk T'.heap (locs ++ L) (hPn.sub isN hN2) (hDn.sub isN hNn hN) hS1 T' rfl X'
  exact ⟨t2, st t2 a1, b1⟩
variable {own C : String} {index n nL maxL : Nat} {y : MethodName} {bytes cc : ByteArray} {ret : Option FieldType} {Ts wsy : List Cond} {rm : Room} {b : Addr} {As : List Value} {sa : Nat → Nat} {hh : List (Nat × Nat × Nat × Nat)}
theorem mh_callS (S : CallFix p m c cc nL s args Ts own) (hM : mh_C l y wsy rm D tys sa As Wc rv W1) (cw : vx_CSW R s args own index y bytes maxL ret hh wsy rm 1 6 n)
    (hK : va_K D vwCl tys s) (hE : mx_E sa A s s.heap) (hP : va_P D vwCl ws H) (hD : va_D A ws) (hS : va_S A s.heap H locs) (hA : ∀ q, s.heap.size ≤ q → A q)
    (isC isR isN : List Nat) (hC : isC.map (fun i => ws[i]?) = Wc.map some) (hC2 : isC.filterMap (fun i => ws[i]?) = Wc) (hCn : va_nd isC = true) (hR : isR.map (fun i => ws[i]?) = wr.map some) (hn1 : va_nd isR = true) (hn2 : ∀ i ∈ isR, i ∉ isC) (hN : isN.map (fun i => (wr ++ W1)[i]?) = wn.map some) (hN2 : isN.filterMap (fun i => (wr ++ W1)[i]?) = wn) (hNn : va_nd isN = true)
    (hst : st0 = As.reverse ++ rest) (hlen : As.length = n) (hsz : ls.size = nL) (hroom : (rest.map fun v => v.category).sum ≤ 8) (hd : decode cc pc = .ok (.invokestatic index, 3)) (hf : cells + 1 ≤ R.cells ∧ slots + 6 ≤ R.slots)
    (kk : ∀ (H1 : Heap) (locs1 : List Loc), va_P D vwCl wn H1 → va_D A wn → va_S A s.heap H1 locs1 → W p l e R s m args below meth c H1 locs1 (cells + 1) (slots + 6) Q (F0 m (pc + 3) ls (rv.toList ++ rest))) : W p l e R s m args below meth c H locs cells slots Q (F0 m pc ls st0) := by
  have hPc := hP.sub (ws' := Wc) isC hC2
  have hDc := hD.sub (ws' := Wc) isC hCn hC
  subst hst
  exact mh_back (vx_runSW (As := As) (rest := rest) S (hM H.size) cw ⟨mx_blind, fun U hU hW => ⟨rfl, by rw [hU], by rw [hU]; exact hPc, va_K.moved hW.alike hK, hDc.weaken (fun _ _ _ _ => trivial), by rw [hU]; exact hE.go hW hS.2.1 (va_free (wc := Wc) hD hS hA isC hC)⟩⟩ rfl hlen hsz rfl (lv_room hroom) hd hf) hP hD hS hA isC isR isN hC hR hn1 hn2 hN hN2 hNn kk
end MHC
theorem gl_SW {own : String} {idx mL : Nat} {y : MethodName} {cc : ByteArray} {rt : Option FieldType} {hh : List (Nat × Nat × Nat × Nat)} {c0 : Cond} (h1 : Cond.methodLink own idx y ∈ wsL_law) (h2 : Cond.static y ∈ wsL_law) (h3 : Cond.initialized y.cls ∈ wsL_law) (h5 : Cond.codeWith y cc mL rt hh ∈ wsL_law) : GoodIn (c0 :: wsL_law) (va_wsS own idx y (Cond.codeWith y cc mL rt hh :: wsL_law)) := by
  have key : ∀ w ∈ va_wsS own idx y (Cond.codeWith y cc mL rt hh :: wsL_law), w ∈ wsL_law := by
    intro w h
    simp only [va_wsS, List.mem_append, List.mem_cons, List.not_mem_nil, or_false] at h
    rcases h with (rfl | rfl | rfl) | rfl | h
    · exact h1
    · exact h2
    · exact h3
    · exact h5
    · exact h
  exact goodIn_sub (fun w h => List.mem_cons_of_mem _ (key w h)) (List.all_eq_true.mpr fun w h => wl_good w (key w h))
/-- the law's own place: code, tables' words, classes, what throws want, the script -/
def la_At (p : Program) (s : State) (m : MethodId) (c : Code) (b L : Nat) (xs : Nat → Int32) (c0 : Cond) (D : va_G) (cI cZ cJ : ClassId) (sa : Nat → Nat) (A : Nat → Prop) : Prop :=
  p.tables.exec = Jvm.exec ∧ c.code = cL_law ∧ c.maxLocals = 7 ∧ s.vm.findClass RL = some m.cls ∧ (∀ w ∈ c0 :: wsL_law, w.before #[Value.ref b] s = true) ∧ va_K D vwCl [(cI, .int), (cZ, .boolean), (cJ, .long)] s ∧ mx_E sa A s s.heap ∧ (∀ q, s.heap.size ≤ q → A q) ∧ va_X b L xs s s.heap ∧ b < s.heap.size ∧ ¬ A b
theorem lg_same (x : Int64) : lg_cmp x x = 0 := by
  unfold lg_cmp
  simp
theorem ox_out13 {x : Int32} (h0 : ¬ x = 0) (h1 : ¬ x = 1) (h2 : ¬ x = 2) (h3 : ¬ x = 3) (h4 : ¬ x = 4) (h5 : ¬ x = 5) (h6 : ¬ x = 6) (h7 : ¬ x = 7) (h8 : ¬ x = 8) (h9 : ¬ x = 9) (h10 : ¬ x = 10) (h11 : ¬ x = 11) (h12 : ¬ x = 12) : x.toInt < 0 ∨ 12 < x.toInt := by
  by_cases h : x.toInt < 0 ∨ 12 < x.toInt
  · exact h
  · have key : ∀ y : Int32, ¬ x = y → ¬ x.toInt = y.toInt := fun y hy e => hy (Int32.toInt_inj.mp e)
    have g0 := key 0 h0
    have g1 := key 1 h1
    have g2 := key 2 h2
    have g3 := key 3 h3
    have g4 := key 4 h4
    have g5 := key 5 h5
    have g6 := key 6 h6
    have g7 := key 7 h7
    have g8 := key 8 h8
    have g9 := key 9 h9
    have g10 := key 10 h10
    have g11 := key 11 h11
    have g12 := key 12 h12
    simp only [show (0 : Int32).toInt = 0 from rfl, show (1 : Int32).toInt = 1 from rfl, show (2 : Int32).toInt = 2 from rfl, show (3 : Int32).toInt = 3 from rfl, show (4 : Int32).toInt = 4 from rfl, show (5 : Int32).toInt = 5 from rfl, show (6 : Int32).toInt = 6 from rfl, show (7 : Int32).toInt = 7 from rfl, show (8 : Int32).toInt = 8 from rfl, show (9 : Int32).toInt = 9 from rfl, show (10 : Int32).toInt = 10 from rfl, show (11 : Int32).toInt = 11 from rfl, show (12 : Int32).toInt = 12 from rfl] at g0 g1 g2 g3 g4 g5 g6 g7 g8 g9 g10 g11 g12
    omega
