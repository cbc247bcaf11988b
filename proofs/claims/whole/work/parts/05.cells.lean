/-- the object of FairLoops -/
abbrev kF (ad : Nat → Nat) : Nat × va_E := (ad 0, .inr (4, [.ref (ad 1), .ref (ad 6), .ref (ad 2), .ref (ad 3), .ref (ad 4), .ref (ad 7)]))
/-- the object of FairLoops$Graph -/
abbrev kG (ad : Nat → Nat) (G_states G_moves G_ends : Int32) : Nat × va_E := (ad 1, .inr (0, [.int G_states, .int G_moves, .int G_ends, .ref (ad 8), .ref (ad 9), .ref (ad 10), .ref (ad 11), .ref (ad 12), .ref (ad 13), .ref (ad 14), .ref (ad 15)]))
/-- the object of FairLoops$Reach -/
abbrev kR (ad : Nat → Nat) (R_found : Int32) : Nat × va_E := (ad 2, .inr (2, [.int R_found, .ref (ad 16), .ref (ad 17), .ref (ad 18)]))
/-- the object of FairLoops$Knots -/
abbrev kK (ad : Nat → Nat) (K_found K_closed K_entries K_depth K_opened : Int32) : Nat × va_E := (ad 3, .inr (1, [.ref (ad 19), .int K_found, .ref (ad 20), .ref (ad 21), .int K_closed, .ref (ad 22), .int K_entries, .ref (ad 23), .ref (ad 24), .ref (ad 25), .int K_depth, .ref (ad 26), .int K_opened]))
/-- the object of FairLoops$Sums -/
abbrev kS (ad : Nat → Nat) : Nat × va_E := (ad 4, .inr (3, [.ref (ad 27), .ref (ad 28), .ref (ad 29), .ref (ad 30), .ref (ad 31)]))
/-- the object of FairLoopsModel -/
abbrev kM (ad : Nat → Nat) (M_thrown M_states M_moves M_known M_come M_lookedAt M_parts M_whole : Int32) : Nat × va_E := (ad 5, .inr (5, [.int M_thrown, .int M_states, .int M_moves, .ref (ad 32), .ref (ad 33), .ref (ad 34), .ref (ad 35), .ref (ad 36), .ref (ad 37), .ref (ad 38), .ref (ad 39), .ref (ad 40), .int M_known, .int M_come, .ref (ad 41), .ref (ad 42), .ref (ad 43), .ref (ad 44), .int M_lookedAt, .ref (ad 45), .ref (ad 46), .ref (ad 47), .ref (ad 48), .ref (ad 49), .int M_parts, .int M_whole, .ref (ad 50)]))
theorem ox_out {x : Int32} (h0 : ¬ x = 0) (h1 : ¬ x = 1) (h2 : ¬ x = 2) (h3 : ¬ x = 3) (h4 : ¬ x = 4) (h5 : ¬ x = 5) : x.toInt < 0 ∨ 5 < x.toInt := by
  rcases (show x.toInt < 0 ∨ 5 < x.toInt ∨ x.toInt = 0 ∨ x.toInt = 1 ∨ x.toInt = 2 ∨ x.toInt = 3 ∨ x.toInt = 4 ∨ x.toInt = 5 by omega) with h | h | h | h | h | h | h | h
  · exact Or.inl h
  · exact Or.inr h
  · exact absurd (Int32.toInt_inj.mp (h.trans (by decide))) h0
  · exact absurd (Int32.toInt_inj.mp (h.trans (by decide))) h1
  · exact absurd (Int32.toInt_inj.mp (h.trans (by decide))) h2
  · exact absurd (Int32.toInt_inj.mp (h.trans (by decide))) h3
  · exact absurd (Int32.toInt_inj.mp (h.trans (by decide))) h4
  · exact absurd (Int32.toInt_inj.mp (h.trans (by decide))) h5
theorem nb_0 : narrow .boolean (.int 0) = .int 0 := rfl
theorem nb_1 : narrow .boolean (.int 1) = .int 1 := rfl
abbrev kI (cI : ClassId) (a n : Nat) (f : Nat → Int32) : Nat × va_E := (a, .inl (cI, n, .inl f))
abbrev kZ (cZ : ClassId) (a n : Nat) (f : Nat → Int32) : Nat × va_E := (a, .inl (cZ, n, .inl f))
abbrev kJ (cJ : ClassId) (a : Nat) (f : Nat → Int64) : Nat × va_E := (a, .inl (cJ, 1, .inr (.inl f)))
