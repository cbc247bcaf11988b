/-! PURE: Knots.find does Tarjan's way. The arrays hold numbers -/
def kt_R (n : Nat) (E L N K pa op od : Nat → Nat) (e d k c f : Nat) (xf xc xe xd xo : Int32) (kn or en lo nx pt ops : Nat → Int32) : Prop :=
  (xf = nI f ∧ xc = nI c ∧ xe = nI e ∧ xd = nI d ∧ xo = nI k) ∧ (∀ v, v < n → kn v = if K v = 0 then -1 else nI (K v - 1)) ∧ (∀ v, v < n → en v = nI (E v)) ∧ (∀ v, v < n → E v ≠ 0 → lo v = nI (L v) ∧ nx v = nI (N v)) ∧
  (∀ i, i < d → pt i = nI (pa i)) ∧ (∀ i, i < k → ops i = nI (op i)) ∧ (∀ i, i < c → or i = nI (od i))
section KTC
variable {n m : Nat} {aj : Nat → List Nat} {to st : Nat → Nat} {gto gout gst : Nat → Int32} {ch : Nat → Prop} {kc : Nat → Int32}
variable {E L N K pa op od : Nat → Nat} {e d k c f : Nat} {xf xc xe xd xo : Int32} {kn or en lo nx pt ops : Nat → Int32}
/-- where the move at a place leads -/
def kt_t (to : Nat → Nat) (gout : Nat → Int32) : Nat → Nat := fun j => to (gout j).toNatClampNeg
theorem kt_place (hg : gc_R n m aj to st gto gout gst) {v j : Nat} (hv : v < n) (h1 : st v ≤ j) (h2 : j < st (v + 1)) : ∃ a, a ∈ aj v ∧ a < m ∧ gout j = nI a ∧ kt_t to gout j = to a ∧ gto a = nI (to a) ∧ to a < n := by
  obtain ⟨g1, g2, g3, g4, g5, g6, g7, g8, g9⟩ := hg
  have h3 := g6 v hv
  have hi : j - st v < (aj v).length := by omega
  have h4 := g7 v (j - st v) ((aj v)[j - st v]) hv (List.getElem?_eq_getElem hi)
  rw [show st v + (j - st v) = j by omega] at h4
  have hm : (aj v)[j - st v] ∈ aj v := List.getElem_mem hi
  have h5 := g8 v _ hv hm
  have h6 := g9 _ h5
  refine ⟨_, hm, h5, h4, ?_, h6.1, h6.2⟩
  show to (gout j).toNatClampNeg = _
  rw [h4, cl_nI (by omega)]
theorem kt_G (hg : gc_R n m aj to st gto gout gst) : tj_G n st (kt_t to gout) := by
  refine ⟨fun v hv => by have := hg.2.2.2.2.2.1 v hv; omega, fun v j hv h1 h2 => ?_⟩
  obtain ⟨a, -, -, -, h3, -, h4⟩ := kt_place hg hv h1 h2
  rw [h3]; exact h4
theorem kt_lower {v x : Nat} (hv : v < 200) (hx : x < 2 ^ 31) {y : Nat} (hy : y < 2 ^ 31) (hlo : lo v = nI y) : fn_X1_lower lo (nI v) (nI x) = some (if x < y then upd lo v (nI x) else lo) := by
  unfold fn_X1_lower
  have e1 : ox_in (nI v) 200 = true := ox_in_t (in_nI hv (by decide))
  rw [e1, cl_nI (by omega), hlo]
  by_cases h : x < y
  · have h1 : ¬ nI y ≤ nI x := fun q => by rw [nI_leI hy hx] at q; omega
    simp only [h1, h, if_true, if_false]
    rfl
  · have h1 : nI y ≤ nI x := by rw [nI_leI hy hx]; omega
    simp only [h1, h, if_true, if_false]
    rfl
theorem kt_enter (hg : gc_R n m aj to st gto gout gst) (hR : kt_R n E L N K pa op od e d k c f xf xc xe xd xo kn or en lo nx pt ops) {t : Nat} (ht : t < n) (hd : d < 200) (hk : k < 200) :
    ∃ xe' xd' xo' en' lo' nx' pt' ops', fn_X1_enter xe xd xo gst en lo nx pt ops (nI t) = some (xe', xd', xo', en', lo', nx', pt', ops') ∧
      kt_R n (va_up E t (e + 1)) (va_up L t (e + 1)) (va_up N t (st t)) K (va_up pa d t) (va_up op k t) od (e + 1) (d + 1) (k + 1) c f xf xc xe' xd' xo' kn or en' lo' nx' pt' ops' := by
  obtain ⟨⟨rfl, rfl, rfl, rfl, rfl⟩, h2, h3, h4, h5, h6, h7⟩ := hR
  have hn := hg.1
  have e1 : ox_in (nI t) 200 = true := ox_in_t (in_nI (by omega) (by decide))
  have e2 : ox_in (nI t) 201 = true := ox_in_t (in_nI (by omega) (by decide))
  have e3 : ox_in (nI d) 200 = true := ox_in_t (in_nI hd (by decide))
  have e4 : ox_in (nI k) 200 = true := ox_in_t (in_nI hk (by decide))
  refine ⟨nI (e + 1), nI (d + 1), nI (k + 1), upd en t (nI (e + 1)), upd lo t (nI (e + 1)), upd nx t (nI (st t)), upd pt d (nI t), upd ops k (nI t), ?_, ?_⟩
  · unfold fn_X1_enter
    rw [e1, e2, e3, e4, cl_nI (show t < 2 ^ 31 by omega), cl_nI (show d < 2 ^ 31 by omega), cl_nI (show k < 2 ^ 31 by omega), nI_1, nI_1, nI_1, hg.2.2.2.2.1 t (by omega)]
    rfl
  · refine ⟨⟨rfl, rfl, rfl, rfl, rfl⟩, h2, fun v hv => ?_, fun v hv hE => ?_, fun i hi => ?_, fun i hi => ?_, h7⟩
    · by_cases hvt : v = t
      · rw [hvt, upd_s, up_s]
      · rw [upd_n hvt, up_n hvt]; exact h3 v hv
    · by_cases hvt : v = t
      · rw [hvt, upd_s, up_s, upd_s, up_s]; exact ⟨rfl, rfl⟩
      · rw [up_n hvt] at hE
        rw [upd_n hvt, up_n hvt, upd_n hvt, up_n hvt]
        exact h4 v hv hE
    · by_cases hid : i = d
      · rw [hid, upd_s, up_s]
      · rw [upd_n hid, up_n hid]; exact h5 i (by omega)
    · by_cases hik : i = k
      · rw [hik, upd_s, up_s]
      · rw [upd_n hik, up_n hik]; exact h6 i (by omega)
end KTC
