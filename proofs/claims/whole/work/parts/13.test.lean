theorem ztest2 (d : Nat) (M : zMem) (a n : Nat) (base bits p : Int) (Q : Option zV → zMem → Prop) (h :
   (p ≥ M 13 6 → Q (zI bits) M) ∧ (¬ p ≥ M 13 6 → zR32 (base + p) ∧ zar a 0 fun n => 0 ≤ base + p ∧ base + p < n ∧ (M a (base + p).toNat = 5 → zR32 (p + 1) ∧ zBg d 60 5 [zR 4, zR a, zI base, zI bits, zI (p + 1)] [] M Q) ∧
    (¬ M a (base + p).toNat = 5 → zR32 (5 * p) ∧ zR32 (base + p) ∧ zar a 0 fun n => 0 ≤ base + p ∧ base + p < n ∧ zR32 (5 * p + M a (base + p).toNat) ∧ zR32 (p + 1) ∧ zBg d 60 5 [zR 4, zR a, zI base, zI (zior bits (zishl 1 (5 * p + M a (base + p).toNat))), zI (p + 1)] [] M Q))) : zBg d 60 5 [zR 4, zR a, zI base, zI bits, zI p] [] M Q := by
  refine zvc_ok (I := zm60) (cuts := [(5, [true, true, true, true, true])]) (n := 40) rfl ?_
  exact h
