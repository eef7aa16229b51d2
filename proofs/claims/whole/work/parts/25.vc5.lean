/-! java/lang/Integer.bitCount(I)I , as 180 -/
set_option maxRecDepth 20000 in
theorem zv180_0 {d : Nat} {M : zMem} {Q : Option zV → zMem → Prop} (x0 : Int) (h :
  zR32 (x0 - (ziand (ziushr x0 1) 1431655765)) ∧ zR32 ((ziand (x0 - (ziand (ziushr x0 1) 1431655765)) 858993459) + (ziand (ziushr (x0 - (ziand (ziushr x0 1) 1431655765)) 2) 858993459)) ∧ zR32 (((ziand (x0 - (ziand (ziushr x0 1) 1431655765)) 858993459) + (ziand (ziushr (x0 - (ziand (ziushr x0 1) 1431655765)) 2) 858993459)) + (ziushr ((ziand (x0 - (ziand (ziushr x0 1) 1431655765)) 858993459) + (ziand (ziushr (x0 - (ziand (ziushr x0 1) 1431655765)) 2) 858993459)) 4)) ∧ zR32 ((ziand (((ziand (x0 - (ziand (ziushr x0 1) 1431655765)) 858993459) + (ziand (ziushr (x0 - (ziand (ziushr x0 1) 1431655765)) 2) 858993459)) + (ziushr ((ziand (x0 - (ziand (ziushr x0 1) 1431655765)) 858993459) + (ziand (ziushr (x0 - (ziand (ziushr x0 1) 1431655765)) 2) 858993459)) 4)) 252645135) + (ziushr (ziand (((ziand (x0 - (ziand (ziushr x0 1) 1431655765)) 858993459) + (ziand (ziushr (x0 - (ziand (ziushr x0 1) 1431655765)) 2) 858993459)) + (ziushr ((ziand (x0 - (ziand (ziushr x0 1) 1431655765)) 858993459) + (ziand (ziushr (x0 - (ziand (ziushr x0 1) 1431655765)) 2) 858993459)) 4)) 252645135) 8)) ∧ zR32 (((ziand (((ziand (x0 - (ziand (ziushr x0 1) 1431655765)) 858993459) + (ziand (ziushr (x0 - (ziand (ziushr x0 1) 1431655765)) 2) 858993459)) + (ziushr ((ziand (x0 - (ziand (ziushr x0 1) 1431655765)) 858993459) + (ziand (ziushr (x0 - (ziand (ziushr x0 1) 1431655765)) 2) 858993459)) 4)) 252645135) + (ziushr (ziand (((ziand (x0 - (ziand (ziushr x0 1) 1431655765)) 858993459) + (ziand (ziushr (x0 - (ziand (ziushr x0 1) 1431655765)) 2) 858993459)) + (ziushr ((ziand (x0 - (ziand (ziushr x0 1) 1431655765)) 858993459) + (ziand (ziushr (x0 - (ziand (ziushr x0 1) 1431655765)) 2) 858993459)) 4)) 252645135) 8)) + (ziushr ((ziand (((ziand (x0 - (ziand (ziushr x0 1) 1431655765)) 858993459) + (ziand (ziushr (x0 - (ziand (ziushr x0 1) 1431655765)) 2) 858993459)) + (ziushr ((ziand (x0 - (ziand (ziushr x0 1) 1431655765)) 858993459) + (ziand (ziushr (x0 - (ziand (ziushr x0 1) 1431655765)) 2) 858993459)) 4)) 252645135) + (ziushr (ziand (((ziand (x0 - (ziand (ziushr x0 1) 1431655765)) 858993459) + (ziand (ziushr (x0 - (ziand (ziushr x0 1) 1431655765)) 2) 858993459)) + (ziushr ((ziand (x0 - (ziand (ziushr x0 1) 1431655765)) 858993459) + (ziand (ziushr (x0 - (ziand (ziushr x0 1) 1431655765)) 2) 858993459)) 4)) 252645135) 8)) 16)) ∧ Q (zI (ziand (((ziand (((ziand (x0 - (ziand (ziushr x0 1) 1431655765)) 858993459) + (ziand (ziushr (x0 - (ziand (ziushr x0 1) 1431655765)) 2) 858993459)) + (ziushr ((ziand (x0 - (ziand (ziushr x0 1) 1431655765)) 858993459) + (ziand (ziushr (x0 - (ziand (ziushr x0 1) 1431655765)) 2) 858993459)) 4)) 252645135) + (ziushr (ziand (((ziand (x0 - (ziand (ziushr x0 1) 1431655765)) 858993459) + (ziand (ziushr (x0 - (ziand (ziushr x0 1) 1431655765)) 2) 858993459)) + (ziushr ((ziand (x0 - (ziand (ziushr x0 1) 1431655765)) 858993459) + (ziand (ziushr (x0 - (ziand (ziushr x0 1) 1431655765)) 2) 858993459)) 4)) 252645135) 8)) + (ziushr ((ziand (((ziand (x0 - (ziand (ziushr x0 1) 1431655765)) 858993459) + (ziand (ziushr (x0 - (ziand (ziushr x0 1) 1431655765)) 2) 858993459)) + (ziushr ((ziand (x0 - (ziand (ziushr x0 1) 1431655765)) 858993459) + (ziand (ziushr (x0 - (ziand (ziushr x0 1) 1431655765)) 2) 858993459)) 4)) 252645135) + (ziushr (ziand (((ziand (x0 - (ziand (ziushr x0 1) 1431655765)) 858993459) + (ziand (ziushr (x0 - (ziand (ziushr x0 1) 1431655765)) 2) 858993459)) + (ziushr ((ziand (x0 - (ziand (ziushr x0 1) 1431655765)) 858993459) + (ziand (ziushr (x0 - (ziand (ziushr x0 1) 1431655765)) 2) 858993459)) 4)) 252645135) 8)) 16)) 63)) M) : zBg d 180 0 [zI x0] [] M Q :=
  zvc_ok (I := zm180) (cuts := []) (n := 47) rfl h
theorem zk180 {d : Nat} {M : zMem} {Q : Option zV → zMem → Prop} {x0 : Int} (h : zBg d 180 0 [zI x0] [] M Q) : zCt d 180 [.inl x0] M Q := zCt_of (I := zm180) rfl rfl h
/-! java/util/Arrays.fill([JJ)V , as 181 -/
set_option maxRecDepth 20000 in
theorem zv181_0 {d : Nat} {M : zMem} {Q : Option zV → zMem → Prop} (a0 : Nat) (x1 : Int) (h :
  zln a0 fun n0 => zBg d 181 6 [zR a0, zL x1, none, zI 0, zI n0] [] M Q) : zBg d 181 0 [zR a0, zL x1, none, none, none] [] M Q :=
  zvc_ok (I := zm181) (cuts := [(6, [true, true, false, true, true])]) (n := 20) rfl h
set_option maxRecDepth 20000 in
theorem zv181_6 {d : Nat} {M : zMem} {Q : Option zV → zMem → Prop} (a0 : Nat) (x1 : Int) (x3 : Int) (x4 : Int) (h :
  ((x3 : Int) ≥ x4 →
    Q none M) ∧
  (¬ (x3 : Int) ≥ x4 →
    zar a0 2 fun n => (0 : Int) ≤ x3 ∧ (x3 : Int) < n ∧ zR32 (x3 + 1) ∧ zBg d 181 6 [zR a0, zL x1, none, zI (x3 + 1), zI x4] [] (zup M a0 x3.toNat x1) Q)) : zBg d 181 6 [zR a0, zL x1, none, zI x3, zI x4] [] M Q :=
  zvc_ok (I := zm181) (cuts := [(6, [true, true, false, true, true])]) (n := 20) rfl h
theorem zk181 {d : Nat} {M : zMem} {Q : Option zV → zMem → Prop} {a0 : Nat} {x1 : Int} (h : zBg d 181 0 [zR a0, zL x1, none, none, none] [] M Q) : zCt d 181 [.inr (.inr a0), .inr (.inl x1)] M Q := zCt_of (I := zm181) rfl rfl h
/-! java/util/Arrays.fill([II)V , as 182 -/
set_option maxRecDepth 20000 in
theorem zv182_0 {d : Nat} {M : zMem} {Q : Option zV → zMem → Prop} (a0 : Nat) (x1 : Int) (h :
  zln a0 fun n0 => zBg d 182 5 [zR a0, zI x1, zI 0, zI n0] [] M Q) : zBg d 182 0 [zR a0, zI x1, none, none] [] M Q :=
  zvc_ok (I := zm182) (cuts := [(5, [true, true, true, true])]) (n := 20) rfl h
set_option maxRecDepth 20000 in
theorem zv182_5 {d : Nat} {M : zMem} {Q : Option zV → zMem → Prop} (a0 : Nat) (x1 : Int) (x2 : Int) (x3 : Int) (h :
  ((x2 : Int) ≥ x3 →
    Q none M) ∧
  (¬ (x2 : Int) ≥ x3 →
    zar a0 0 fun n => (0 : Int) ≤ x2 ∧ (x2 : Int) < n ∧ zR32 (x2 + 1) ∧ zBg d 182 5 [zR a0, zI x1, zI (x2 + 1), zI x3] [] (zup M a0 x2.toNat x1) Q)) : zBg d 182 5 [zR a0, zI x1, zI x2, zI x3] [] M Q :=
  zvc_ok (I := zm182) (cuts := [(5, [true, true, true, true])]) (n := 20) rfl h
theorem zk182 {d : Nat} {M : zMem} {Q : Option zV → zMem → Prop} {a0 : Nat} {x1 : Int} (h : zBg d 182 0 [zR a0, zI x1, none, none] [] M Q) : zCt d 182 [.inr (.inr a0), .inl x1] M Q := zCt_of (I := zm182) rfl rfl h
