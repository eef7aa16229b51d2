/-! CommaCopies$Chance.spread(LCommaCopies$State;)V , as 0 -/
set_option maxRecDepth 20000 in
theorem zv0_0 {d : Nat} {M : zMem} {Q : Option zV → zMem → Prop} (h :
  ∃ Q1, zCv d 182 [.inr (.inr 50), .inl 0] M Q1 ∧ ∀ M1, Q1 M1 →
  (0 : Int) ≤ 0 ∧ (0 : Int) < 7 ∧ zBg (d + 1) 0 17 [zR 49, zR 4, zI 0, none, none, none] [] (zup M1 50 0 1) Q) : zBg (d + 1) 0 0 [zR 49, zR 4, none, none, none, none] [] M Q :=
  zvc_ok (I := zm0) (cuts := [(17, [true, true, true, false, false, false]), (61, [true, true, true, true, true, true])]) (n := 75) rfl h
set_option maxRecDepth 20000 in
theorem zv0_17 {d : Nat} {M : zMem} {Q : Option zV → zMem → Prop} (x2 : Int) (h :
  ((x2 : Int) ≥ (M 13 6) →
    Q none M) ∧
  (¬ (x2 : Int) ≥ (M 13 6) →
    (0 : Int) ≤ x2 ∧ (x2 : Int) < 6 ∧ ((M 8 x2.toNat : Int) ≥ 4 →
      (0 : Int) ≤ x2 ∧ (x2 : Int) < 6 ∧ zR32 ((M 15 x2.toNat) - 0) ∧ zBg d 0 61 [zR 49, zR 4, zI x2, zI 0, zI ((M 15 x2.toNat) - 0), zI 6] [] M Q) ∧
    (¬ (M 8 x2.toNat : Int) ≥ 4 →
      (0 : Int) ≤ x2 ∧ (x2 : Int) < 6 ∧ zR32 ((M 15 x2.toNat) - 1) ∧ zBg d 0 61 [zR 49, zR 4, zI x2, zI 1, zI ((M 15 x2.toNat) - 1), zI 6] [] M Q))) : zBg d 0 17 [zR 49, zR 4, zI x2, none, none, none] [] M Q :=
  zvc_ok (I := zm0) (cuts := [(17, [true, true, true, false, false, false]), (61, [true, true, true, true, true, true])]) (n := 75) rfl h
set_option maxRecDepth 20000 in
theorem zv0_61 {d : Nat} {M : zMem} {Q : Option zV → zMem → Prop} (x2 : Int) (x3 : Int) (x4 : Int) (x5 : Int) (h :
  ((x5 : Int) ≤ 0 →
    (0 : Int) ≤ 0 ∧ (0 : Int) < 7 ∧ zR32 ((M 50 0) * x4) ∧ (0 : Int) ≤ 0 ∧ (0 : Int) < 7 ∧ zR32 (x2 + 1) ∧ zBg d 0 17 [zR 49, zR 4, zI (x2 + 1), none, none, none] [] (zup M 50 0 ((M 50 0) * x4)) Q) ∧
  (¬ (x5 : Int) ≤ 0 →
    (0 : Int) ≤ x5 ∧ (x5 : Int) < 7 ∧ zR32 ((M 50 x5.toNat) * x4) ∧ zR32 (x5 - 1) ∧ (0 : Int) ≤ (x5 - 1) ∧ (x5 - 1 : Int) < 7 ∧ zR32 ((M 50 ((x5 - 1).toNat)) * x3) ∧ zR32 (((M 50 x5.toNat) * x4) + ((M 50 ((x5 - 1).toNat)) * x3)) ∧ (0 : Int) ≤ x5 ∧ (x5 : Int) < 7 ∧ zR32 (x5 + (-1)) ∧ zBg d 0 61 [zR 49, zR 4, zI x2, zI x3, zI x4, zI (x5 + (-1))] [] (zup M 50 x5.toNat (((M 50 x5.toNat) * x4) + ((M 50 ((x5 - 1).toNat)) * x3))) Q)) : zBg d 0 61 [zR 49, zR 4, zI x2, zI x3, zI x4, zI x5] [] M Q :=
  zvc_ok (I := zm0) (cuts := [(17, [true, true, true, false, false, false]), (61, [true, true, true, true, true, true])]) (n := 75) rfl h
theorem zk0 {d : Nat} {M : zMem} {Q : Option zV → zMem → Prop} (h : zBg d 0 0 [zR 49, zR 4, none, none, none, none] [] M Q) : zCt d 0 [.inr (.inr 49), .inr (.inr 4)] M Q := zCt_of (I := zm0) rfl rfl h
/-! CommaCopies$Chance.atLeast(I)I , as 1 -/
set_option maxRecDepth 20000 in
theorem zv1_0 {d : Nat} {M : zMem} {Q : Option zV → zMem → Prop} (x1 : Int) (h :
  zBg d 1 4 [zR 49, none, zI 0, zI x1] [] M Q) : zBg d 1 0 [zR 49, zI x1, none, none] [] M Q :=
  zvc_ok (I := zm1) (cuts := [(4, [true, false, true, true])]) (n := 23) rfl h
set_option maxRecDepth 20000 in
theorem zv1_4 {d : Nat} {M : zMem} {Q : Option zV → zMem → Prop} (x2 : Int) (x3 : Int) (h :
  ((x3 : Int) > 6 →
    Q (zI x2) M) ∧
  (¬ (x3 : Int) > 6 →
    (0 : Int) ≤ x3 ∧ (x3 : Int) < 7 ∧ zR32 (x2 + (M 50 x3.toNat)) ∧ zR32 (x3 + 1) ∧ zBg d 1 4 [zR 49, none, zI (x2 + (M 50 x3.toNat)), zI (x3 + 1)] [] M Q)) : zBg d 1 4 [zR 49, none, zI x2, zI x3] [] M Q :=
  zvc_ok (I := zm1) (cuts := [(4, [true, false, true, true])]) (n := 23) rfl h
theorem zk1 {d : Nat} {M : zMem} {Q : Option zV → zMem → Prop} {x1 : Int} (h : zBg d 1 0 [zR 49, zI x1, none, none] [] M Q) : zCt d 1 [.inr (.inr 49), .inl x1] M Q := zCt_of (I := zm1) rfl rfl h
/-! CommaCopies$Chance.reduced(II)I , as 2 -/
set_option maxRecDepth 20000 in
theorem zv2_0 {d : Nat} {M : zMem} {Q : Option zV → zMem → Prop} (x1 : Int) (x2 : Int) (h :
  ∃ Q1, zCi d 1 [.inr (.inr 49), .inl x1] M Q1 ∧ ∀ v1 M1, Q1 v1 M1 →
  ∃ Q2, zCi d 1 [.inr (.inr 49), .inl 0] M1 Q2 ∧ ∀ v2 M2, Q2 v2 M2 →
  ∃ Q3, zCi d 3 [.inl v2, .inl v1] M2 Q3 ∧ ∀ v3 M3, Q3 v3 M3 →
  ((v3 : Int) ≥ 1 →
    ((x2 : Int) ≠ 0 →
      (v3 : Int) ≠ 0 ∧ Q (zI (zidiv v2 v3)) M3) ∧
    (¬ (x2 : Int) ≠ 0 →
      (v3 : Int) ≠ 0 ∧ Q (zI (zidiv v1 v3)) M3)) ∧
  (¬ (v3 : Int) ≥ 1 →
    Q (zI (-4)) M3)) : zBg (d + 1) 2 0 [zR 49, zI x1, zI x2, none, none, none] [] M Q :=
  zvc_ok (I := zm2) (cuts := []) (n := 30) rfl h
theorem zk2 {d : Nat} {M : zMem} {Q : Option zV → zMem → Prop} {x1 : Int} {x2 : Int} (h : zBg d 2 0 [zR 49, zI x1, zI x2, none, none, none] [] M Q) : zCt d 2 [.inr (.inr 49), .inl x1, .inl x2] M Q := zCt_of (I := zm2) rfl rfl h
/-! CommaCopies$Chance.commonDivisor(II)I , as 3 -/
set_option maxRecDepth 20000 in
theorem zv3_0 {d : Nat} {M : zMem} {Q : Option zV → zMem → Prop} (x0 : Int) (x1 : Int) (h :
  zBg d 3 7 [none, none, zI x0, zI x1, zI 0, none] [] M Q) : zBg d 3 0 [zI x0, zI x1, none, none, none, none] [] M Q :=
  zvc_ok (I := zm3) (cuts := [(7, [false, false, true, true, true, false])]) (n := 28) rfl h
set_option maxRecDepth 20000 in
theorem zv3_7 {d : Nat} {M : zMem} {Q : Option zV → zMem → Prop} (x2 : Int) (x3 : Int) (x4 : Int) (h :
  ((x4 : Int) ≥ 64 →
    Q (zI x2) M) ∧
  (¬ (x4 : Int) ≥ 64 →
    ((x3 : Int) ≤ 0 →
      Q (zI x2) M) ∧
    (¬ (x3 : Int) ≤ 0 →
      (x3 : Int) ≠ 0 ∧ zR32 (x4 + 1) ∧ zBg d 3 7 [none, none, zI x3, zI (zirem x2 x3), zI (x4 + 1), none] [] M Q))) : zBg d 3 7 [none, none, zI x2, zI x3, zI x4, none] [] M Q :=
  zvc_ok (I := zm3) (cuts := [(7, [false, false, true, true, true, false])]) (n := 28) rfl h
theorem zk3 {d : Nat} {M : zMem} {Q : Option zV → zMem → Prop} {x0 : Int} {x1 : Int} (h : zBg d 3 0 [zI x0, zI x1, none, none, none, none] [] M Q) : zCt d 3 [.inl x0, .inl x1] M Q := zCt_of (I := zm3) rfl rfl h
/-! CommaCopies$Chance.leastBar(I)I , as 4 -/
set_option maxRecDepth 20000 in
theorem zv4_0 {d : Nat} {M : zMem} {Q : Option zV → zMem → Prop} (x1 : Int) (h :
  ∃ Q1, zCi d 1 [.inr (.inr 49), .inl 0] M Q1 ∧ ∀ v1 M1, Q1 v1 M1 →
  zBg (d + 1) 4 8 [zR 49, zI x1, zI v1, zI 0] [] M1 Q) : zBg (d + 1) 4 0 [zR 49, zI x1, none, none] [] M Q :=
  zvc_ok (I := zm4) (cuts := [(8, [true, true, true, true])]) (n := 27) rfl h
set_option maxRecDepth 20000 in
theorem zv4_8 {d : Nat} {M : zMem} {Q : Option zV → zMem → Prop} (x1 : Int) (x2 : Int) (x3 : Int) (h :
  ((x3 : Int) > 6 →
    Q (zI (-4)) M) ∧
  (¬ (x3 : Int) > 6 →
    ∃ Q1, zCi d 1 [.inr (.inr 49), .inl x3] M Q1 ∧ ∀ v1 M1, Q1 v1 M1 →
    zR32 (v1 * x1) ∧ ((v1 * x1 : Int) > x2 →
      zR32 (x3 + 1) ∧ zBg (d + 1) 4 8 [zR 49, zI x1, zI x2, zI (x3 + 1)] [] M1 Q) ∧
    (¬ (v1 * x1 : Int) > x2 →
      Q (zI x3) M1))) : zBg (d + 1) 4 8 [zR 49, zI x1, zI x2, zI x3] [] M Q :=
  zvc_ok (I := zm4) (cuts := [(8, [true, true, true, true])]) (n := 27) rfl h
theorem zk4 {d : Nat} {M : zMem} {Q : Option zV → zMem → Prop} {x1 : Int} (h : zBg d 4 0 [zR 49, zI x1, none, none] [] M Q) : zCt d 4 [.inr (.inr 49), .inl x1] M Q := zCt_of (I := zm4) rfl rfl h
/-! CommaCopies$Hiding.seek(LCommaCopies$Joins;II)V , as 5 -/
set_option maxRecDepth 20000 in
theorem zv5_0 {d : Nat} {M : zMem} {Q : Option zV → zMem → Prop} (x2 : Int) (x3 : Int) (h :
  ∃ Q1, zCv d 182 [.inr (.inr 52), .inl 0] M Q1 ∧ ∀ M1, Q1 M1 →
  zBg (d + 1) 5 11 [zR 51, zR 42, zI x2, zI x3, zI 0] [] M1 Q) : zBg (d + 1) 5 0 [zR 51, zR 42, zI x2, zI x3, none] [] M Q :=
  zvc_ok (I := zm5) (cuts := [(11, [true, true, true, true, true])]) (n := 47) rfl h
set_option maxRecDepth 20000 in
theorem zv5_11 {d : Nat} {M : zMem} {Q : Option zV → zMem → Prop} (x2 : Int) (x3 : Int) (x4 : Int) (h :
  ((x4 : Int) ≥ (M 42 5) →
    ∃ Q1, zCi d 12 [.inr (.inr 42), .inl x2] (zup M 51 3 7) Q1 ∧ ∀ v1 M1, Q1 v1 M1 →
    ∃ Q2, zCv d 7 [.inr (.inr 51), .inl 0, .inl x3, .inl v1, .inl 0] M1 Q2 ∧ ∀ M2, Q2 M2 →
    Q none M2) ∧
  (¬ (x4 : Int) ≥ (M 42 5) →
    ((ziand (zishr x2 x4) 1 : Int) ≠ 1 →
      zR32 (x4 + 1) ∧ zBg (d + 1) 5 11 [zR 51, zR 42, zI x2, zI x3, zI (x4 + 1)] [] M Q) ∧
    (¬ (ziand (zishr x2 x4) 1 : Int) ≠ 1 →
      (0 : Int) ≤ x4 ∧ (x4 : Int) < 8 ∧ zR32 (4 * x4) ∧ ∃ Q3, zCv d 6 [.inr (.inr 51), .inl (M 43 x4.toNat), .inl (zishl 1 (4 * x4))] M Q3 ∧ ∀ M3, Q3 M3 →
      zR32 (x4 + 1) ∧ zBg (d + 1) 5 11 [zR 51, zR 42, zI x2, zI x3, zI (x4 + 1)] [] M3 Q))) : zBg (d + 1) 5 11 [zR 51, zR 42, zI x2, zI x3, zI x4] [] M Q :=
  zvc_ok (I := zm5) (cuts := [(11, [true, true, true, true, true])]) (n := 47) rfl h
theorem zk5 {d : Nat} {M : zMem} {Q : Option zV → zMem → Prop} {x2 : Int} {x3 : Int} (h : zBg d 5 0 [zR 51, zR 42, zI x2, zI x3, none] [] M Q) : zCt d 5 [.inr (.inr 51), .inr (.inr 42), .inl x2, .inl x3] M Q := zCt_of (I := zm5) rfl rfl h
/-! CommaCopies$Hiding.addGains(II)V , as 6 -/
set_option maxRecDepth 20000 in
theorem zv6_0 {d : Nat} {M : zMem} {Q : Option zV → zMem → Prop} (x1 : Int) (x2 : Int) (h :
  zBg d 6 2 [zR 51, zI x1, zI x2, zI 0] [] M Q) : zBg d 6 0 [zR 51, zI x1, zI x2, none] [] M Q :=
  zvc_ok (I := zm6) (cuts := [(2, [true, true, true, true])]) (n := 30) rfl h
set_option maxRecDepth 20000 in
theorem zv6_2 {d : Nat} {M : zMem} {Q : Option zV → zMem → Prop} (x1 : Int) (x2 : Int) (x3 : Int) (h :
  ((x3 : Int) ≥ 30 →
    Q none M) ∧
  (¬ (x3 : Int) ≥ 30 →
    ((ziand (zishr x1 x3) 1 : Int) ≠ 1 →
      zR32 (x3 + 1) ∧ zBg d 6 2 [zR 51, zI x1, zI x2, zI (x3 + 1)] [] M Q) ∧
    (¬ (ziand (zishr x1 x3) 1 : Int) ≠ 1 →
      (0 : Int) ≤ x3 ∧ (x3 : Int) < 30 ∧ zR32 ((M 52 x3.toNat) + x2) ∧ (0 : Int) ≤ x3 ∧ (x3 : Int) < 30 ∧ zR32 (x3 + 1) ∧ zBg d 6 2 [zR 51, zI x1, zI x2, zI (x3 + 1)] [] (zup M 52 x3.toNat ((M 52 x3.toNat) + x2)) Q))) : zBg d 6 2 [zR 51, zI x1, zI x2, zI x3] [] M Q :=
  zvc_ok (I := zm6) (cuts := [(2, [true, true, true, true])]) (n := 30) rfl h
theorem zk6 {d : Nat} {M : zMem} {Q : Option zV → zMem → Prop} {x1 : Int} {x2 : Int} (h : zBg d 6 0 [zR 51, zI x1, zI x2, none] [] M Q) : zCt d 6 [.inr (.inr 51), .inl x1, .inl x2] M Q := zCt_of (I := zm6) rfl rfl h
/-! CommaCopies$Hiding.walk(IIII)V , as 7 -/
set_option maxRecDepth 20000 in
theorem zv7_0 {d : Nat} {M : zMem} {Q : Option zV → zMem → Prop} (x1 : Int) (x2 : Int) (x3 : Int) (x4 : Int) (h :
  ∃ Q1, zCi d 8 [.inl x4] M Q1 ∧ ∀ v1 M1, Q1 v1 M1 →
  ((v1 : Int) < (M1 51 3) →
    ((x1 : Int) ≥ x2 →
      (0 : Int) ≤ 0 ∧ (0 : Int) ≤ 0 ∧ (0 : Int) ≤ 6 ∧ (0 : Int) + 6 ≤ 6 ∧ (0 : Int) + 6 ≤ 6 ∧ Q none (zcpy (zup M1 51 3 v1) 53 0 54 0 6)) ∧
    (¬ (x1 : Int) ≥ x2 →
      ((x1 : Int) < 6 →
        zBg (d + 1) 7 53 [zR 51, zI x1, zI x2, zI x3, zI x4, none, zI 0, none] [] M1 Q) ∧
      (¬ (x1 : Int) < 6 →
        (0 : Int) ≤ 0 ∧ (0 : Int) ≤ 0 ∧ (0 : Int) ≤ 6 ∧ (0 : Int) + 6 ≤ 6 ∧ (0 : Int) + 6 ≤ 6 ∧ Q none (zcpy (zup M1 51 3 v1) 53 0 54 0 6)))) ∧
  (¬ (v1 : Int) < (M1 51 3) →
    Q none M1)) : zBg (d + 1) 7 0 [zR 51, zI x1, zI x2, zI x3, zI x4, none, none, none] [] M Q :=
  zvc_ok (I := zm7) (cuts := [(53, [true, true, true, true, true, false, true, false])]) (n := 70) rfl h
set_option maxRecDepth 20000 in
theorem zv7_53 {d : Nat} {M : zMem} {Q : Option zV → zMem → Prop} (x1 : Int) (x2 : Int) (x3 : Int) (x4 : Int) (x6 : Int) (h :
  ((x6 : Int) ≥ 5 →
    Q none M) ∧
  (¬ (x6 : Int) ≥ 5 →
    zR32 (x1 * 5) ∧ zR32 ((x1 * 5) + x6) ∧ ((ziand (zishr x3 ((x1 * 5) + x6)) 1 : Int) ≠ 1 →
      zR32 (x6 + 1) ∧ zBg (d + 1) 7 53 [zR 51, zI x1, zI x2, zI x3, zI x4, none, zI (x6 + 1), none] [] M Q) ∧
    (¬ (ziand (zishr x3 ((x1 * 5) + x6)) 1 : Int) ≠ 1 →
      (0 : Int) ≤ x1 ∧ (x1 : Int) < 6 ∧ zR32 (x1 + 1) ∧ (0 : Int) ≤ ((x1 * 5) + x6) ∧ ((x1 * 5) + x6 : Int) < 30 ∧ zR32 (x4 + (M 52 (((x1 * 5) + x6).toNat))) ∧ ∃ Q1, zCv d 7 [.inr (.inr 51), .inl (x1 + 1), .inl x2, .inl x3, .inl (x4 + (M 52 (((x1 * 5) + x6).toNat)))] (zup M 53 x1.toNat x6) Q1 ∧ ∀ M1, Q1 M1 →
      zR32 (x6 + 1) ∧ zBg (d + 1) 7 53 [zR 51, zI x1, zI x2, zI x3, zI x4, none, zI (x6 + 1), none] [] M1 Q))) : zBg (d + 1) 7 53 [zR 51, zI x1, zI x2, zI x3, zI x4, none, zI x6, none] [] M Q :=
  zvc_ok (I := zm7) (cuts := [(53, [true, true, true, true, true, false, true, false])]) (n := 70) rfl h
theorem zk7 {d : Nat} {M : zMem} {Q : Option zV → zMem → Prop} {x1 : Int} {x2 : Int} {x3 : Int} {x4 : Int} (h : zBg d 7 0 [zR 51, zI x1, zI x2, zI x3, zI x4, none, none, none] [] M Q) : zCt d 7 [.inr (.inr 51), .inl x1, .inl x2, .inl x3, .inl x4] M Q := zCt_of (I := zm7) rfl rfl h
/-! CommaCopies$Hiding.highest(I)I , as 8 -/
set_option maxRecDepth 20000 in
theorem zv8_0 {d : Nat} {M : zMem} {Q : Option zV → zMem → Prop} (x0 : Int) (h :
  zBg d 8 4 [zI x0, zI 0, zI 0] [] M Q) : zBg d 8 0 [zI x0, none, none] [] M Q :=
  zvc_ok (I := zm8) (cuts := [(4, [true, true, true])]) (n := 26) rfl h
set_option maxRecDepth 20000 in
theorem zv8_4 {d : Nat} {M : zMem} {Q : Option zV → zMem → Prop} (x0 : Int) (x1 : Int) (x2 : Int) (h :
  ((x2 : Int) ≥ 8 →
    Q (zI x1) M) ∧
  (¬ (x2 : Int) ≥ 8 →
    zR32 (4 * x2) ∧ zR32 (x2 + 1) ∧ zBg d 8 4 [zI x0, zI (if x1 < (ziand (ziushr x0 (4 * x2)) 15) then (ziand (ziushr x0 (4 * x2)) 15) else x1), zI (x2 + 1)] [] M Q)) : zBg d 8 4 [zI x0, zI x1, zI x2] [] M Q :=
  zvc_ok (I := zm8) (cuts := [(4, [true, true, true])]) (n := 26) rfl h
theorem zk8 {d : Nat} {M : zMem} {Q : Option zV → zMem → Prop} {x0 : Int} (h : zBg d 8 0 [zI x0, none, none] [] M Q) : zCt d 8 [.inl x0] M Q := zCt_of (I := zm8) rfl rfl h
/-! CommaCopies$Joins.look(LCommaCopies$State;II)V , as 9 -/
set_option maxRecDepth 20000 in
theorem zv9_0 {d : Nat} {M : zMem} {Q : Option zV → zMem → Prop} (x2 : Int) (x3 : Int) (h :
  zBg d 9 36 [zR 42, zR 4, none, none, zI 0] [] (zup (zup (zup (zup (zup (zup M 42 6 x2) 42 7 x3) 42 5 (M 4 9)) 42 8 0) 42 9 0) 42 10 0) Q) : zBg d 9 0 [zR 42, zR 4, zI x2, zI x3, none] [] M Q :=
  zvc_ok (I := zm9) (cuts := [(36, [true, true, false, false, true]), (133, [true, true, false, false, true])]) (n := 101) rfl h
set_option maxRecDepth 20000 in
theorem zv9_36 {d : Nat} {M : zMem} {Q : Option zV → zMem → Prop} (x4 : Int) (h :
  ((x4 : Int) ≥ (M 13 6) →
    zBg d 9 133 [zR 42, zR 4, none, none, zI 0] [] M Q) ∧
  (¬ (x4 : Int) ≥ (M 13 6) →
    zR32 (5 * x4) ∧ (0 : Int) ≤ x4 ∧ (x4 : Int) < 6 ∧ zR32 ((zishl 1 (M 15 x4.toNat)) - 1) ∧ zR32 (5 * x4) ∧ (0 : Int) ≤ x4 ∧ (x4 : Int) < 6 ∧ ((M 6 x4.toNat : Int) < 0 →
      zR32 (x4 + 1) ∧ zBg d 9 36 [zR 42, zR 4, none, none, zI (x4 + 1)] [] (zup (zup M 42 8 (zior (M 42 8) (zishl 1 (5 * x4)))) 42 9 (zior (M 42 9) (zishl ((zishl 1 (M 15 x4.toNat)) - 1) (5 * x4)))) Q) ∧
    (¬ (M 6 x4.toNat : Int) < 0 →
      zR32 (5 * x4) ∧ (0 : Int) ≤ x4 ∧ (x4 : Int) < 6 ∧ zR32 ((5 * x4) + (M 6 x4.toNat)) ∧ zR32 (x4 + 1) ∧ zBg d 9 36 [zR 42, zR 4, none, none, zI (x4 + 1)] [] (zup (zup (zup M 42 8 (zior (M 42 8) (zishl 1 (5 * x4)))) 42 9 (zior (M 42 9) (zishl ((zishl 1 (M 15 x4.toNat)) - 1) (5 * x4)))) 42 10 (zior (M 42 10) (zishl 1 ((5 * x4) + (M 6 x4.toNat))))) Q))) : zBg d 9 36 [zR 42, zR 4, none, none, zI x4] [] M Q :=
  zvc_ok (I := zm9) (cuts := [(36, [true, true, false, false, true]), (133, [true, true, false, false, true])]) (n := 101) rfl h
set_option maxRecDepth 20000 in
theorem zv9_133 {d : Nat} {M : zMem} {Q : Option zV → zMem → Prop} (x4 : Int) (h :
  ((x4 : Int) ≥ (M 42 5) →
    Q none M) ∧
  (¬ (x4 : Int) ≥ (M 42 5) →
    zR32 (x4 * 6) ∧ ∃ Q1, zCi d 60 [.inr (.inr 4), .inr (.inr 7), .inl (x4 * 6)] M Q1 ∧ ∀ v1 M1, Q1 v1 M1 →
    (0 : Int) ≤ x4 ∧ (x4 : Int) < 8 ∧ zR32 (x4 + 1) ∧ zBg (d + 1) 9 133 [zR 42, zR 4, none, none, zI (x4 + 1)] [] (zup M1 43 x4.toNat v1) Q)) : zBg (d + 1) 9 133 [zR 42, zR 4, none, none, zI x4] [] M Q :=
  zvc_ok (I := zm9) (cuts := [(36, [true, true, false, false, true]), (133, [true, true, false, false, true])]) (n := 101) rfl h
theorem zk9 {d : Nat} {M : zMem} {Q : Option zV → zMem → Prop} {x2 : Int} {x3 : Int} (h : zBg d 9 0 [zR 42, zR 4, zI x2, zI x3, none] [] M Q) : zCt d 9 [.inr (.inr 42), .inr (.inr 4), .inl x2, .inl x3] M Q := zCt_of (I := zm9) rfl rfl h
/-! CommaCopies$Joins.list()V , as 10 -/
set_option maxRecDepth 20000 in
theorem zv10_0 {d : Nat} {M : zMem} {Q : Option zV → zMem → Prop} (h :
  zBg d 10 7 [zR 42, zI 1, none] [] (zup M 42 4 0) Q) : zBg d 10 0 [zR 42, none, none] [] M Q :=
  zvc_ok (I := zm10) (cuts := [(7, [true, true, false]), (17, [true, true, true])]) (n := 67) rfl h
set_option maxRecDepth 20000 in
theorem zv10_7 {d : Nat} {M : zMem} {Q : Option zV → zMem → Prop} (x1 : Int) (h :
  ((x1 : Int) > (M 42 6) →
    Q none M) ∧
  (¬ (x1 : Int) > (M 42 6) →
    zBg d 10 17 [zR 42, zI x1, zI 1] [] M Q)) : zBg d 10 7 [zR 42, zI x1, none] [] M Q :=
  zvc_ok (I := zm10) (cuts := [(7, [true, true, false]), (17, [true, true, true])]) (n := 67) rfl h
set_option maxRecDepth 20000 in
theorem zv10_17 {d : Nat} {M : zMem} {Q : Option zV → zMem → Prop} (x1 : Int) (x2 : Int) (h :
  ((x2 : Int) ≥ (zishl 1 (M 42 5)) →
    zR32 (x1 + 1) ∧ zBg (d + 1) 10 7 [zR 42, zI (x1 + 1), none] [] M Q) ∧
  (¬ (x2 : Int) ≥ (zishl 1 (M 42 5)) →
    ∃ Q1, zCi d 180 [.inl x2] M Q1 ∧ ∀ v1 M1, Q1 v1 M1 →
    ((v1 : Int) ≠ x1 →
      zR32 (x2 + 1) ∧ zBg (d + 1) 10 17 [zR 42, zI x1, zI (x2 + 1)] [] M1 Q) ∧
    (¬ (v1 : Int) ≠ x1 →
      ((M1 42 4 : Int) ≥ 92 →
        zR32 (x2 + 1) ∧ zBg (d + 1) 10 17 [zR 42, zI x1, zI (x2 + 1)] [] M1 Q) ∧
      (¬ (M1 42 4 : Int) ≥ 92 →
        (0 : Int) ≤ (M1 42 4) ∧ (M1 42 4 : Int) < 92 ∧ ∃ Q2, zCi d 11 [.inr (.inr 42), .inl x2] (zup M1 44 ((M1 42 4).toNat) x2) Q2 ∧ ∀ v2 M2, Q2 v2 M2 →
        (0 : Int) ≤ (M1 42 4) ∧ (M1 42 4 : Int) < 92 ∧ (0 : Int) ≤ (M2 42 4) ∧ (M2 42 4 : Int) < 92 ∧ ∃ Q3, zCi d 13 [.inr (.inr 42), .inl ((zup M2 45 ((M1 42 4).toNat) v2) 45 ((M2 42 4).toNat))] (zup M2 45 ((M1 42 4).toNat) v2) Q3 ∧ ∀ v3 M3, Q3 v3 M3 →
        (0 : Int) ≤ (M2 42 4) ∧ (M2 42 4 : Int) < 92 ∧ zR32 ((M3 42 4) + 1) ∧ zR32 (x2 + 1) ∧ zBg (d + 1) 10 17 [zR 42, zI x1, zI (x2 + 1)] [] (zup (zup M3 46 ((M2 42 4).toNat) v3) 42 4 ((M3 42 4) + 1)) Q)))) : zBg (d + 1) 10 17 [zR 42, zI x1, zI x2] [] M Q :=
  zvc_ok (I := zm10) (cuts := [(7, [true, true, false]), (17, [true, true, true])]) (n := 67) rfl h
theorem zk10 {d : Nat} {M : zMem} {Q : Option zV → zMem → Prop} (h : zBg d 10 0 [zR 42, none, none] [] M Q) : zCt d 10 [.inr (.inr 42)] M Q := zCt_of (I := zm10) rfl rfl h
/-! CommaCopies$Joins.unionOf(I)I , as 11 -/
set_option maxRecDepth 20000 in
theorem zv11_0 {d : Nat} {M : zMem} {Q : Option zV → zMem → Prop} (x1 : Int) (h :
  zBg d 11 4 [zR 42, zI x1, zI 0, zI 0] [] M Q) : zBg d 11 0 [zR 42, zI x1, none, none] [] M Q :=
  zvc_ok (I := zm11) (cuts := [(4, [true, true, true, true])]) (n := 31) rfl h
set_option maxRecDepth 20000 in
theorem zv11_4 {d : Nat} {M : zMem} {Q : Option zV → zMem → Prop} (x1 : Int) (x2 : Int) (x3 : Int) (h :
  ((x3 : Int) ≥ (M 42 5) →
    Q (zI x2) M) ∧
  (¬ (x3 : Int) ≥ (M 42 5) →
    ((ziand (zishr x1 x3) 1 : Int) ≠ 1 →
      zR32 (x3 + 1) ∧ zBg d 11 4 [zR 42, zI x1, zI x2, zI (x3 + 1)] [] M Q) ∧
    (¬ (ziand (zishr x1 x3) 1 : Int) ≠ 1 →
      (0 : Int) ≤ x3 ∧ (x3 : Int) < 8 ∧ zR32 (x3 + 1) ∧ zBg d 11 4 [zR 42, zI x1, zI (zior x2 (M 43 x3.toNat)), zI (x3 + 1)] [] M Q))) : zBg d 11 4 [zR 42, zI x1, zI x2, zI x3] [] M Q :=
  zvc_ok (I := zm11) (cuts := [(4, [true, true, true, true])]) (n := 31) rfl h
theorem zk11 {d : Nat} {M : zMem} {Q : Option zV → zMem → Prop} {x1 : Int} (h : zBg d 11 0 [zR 42, zI x1, none, none] [] M Q) : zCt d 11 [.inr (.inr 42), .inl x1] M Q := zCt_of (I := zm11) rfl rfl h
/-! CommaCopies$Joins.canOf(I)I , as 12 -/
set_option maxRecDepth 20000 in
theorem zv12_0 {d : Nat} {M : zMem} {Q : Option zV → zMem → Prop} (x1 : Int) (h :
  ∃ Q1, zCi d 11 [.inr (.inr 42), .inl x1] M Q1 ∧ ∀ v1 M1, Q1 v1 M1 →
  ∃ Q2, zCi d 13 [.inr (.inr 42), .inl v1] M1 Q2 ∧ ∀ v2 M2, Q2 v2 M2 →
  Q (zI v2) M2) : zBg (d + 1) 12 0 [zR 42, zI x1] [] M Q :=
  zvc_ok (I := zm12) (cuts := []) (n := 11) rfl h
theorem zk12 {d : Nat} {M : zMem} {Q : Option zV → zMem → Prop} {x1 : Int} (h : zBg d 12 0 [zR 42, zI x1] [] M Q) : zCt d 12 [.inr (.inr 42), .inl x1] M Q := zCt_of (I := zm12) rfl rfl h
/-! CommaCopies$Joins.widened(I)I , as 13 -/
set_option maxRecDepth 20000 in
theorem zv13_0 {d : Nat} {M : zMem} {Q : Option zV → zMem → Prop} (x1 : Int) (h :
  zR32 (x1 - (M 42 8)) ∧ zR32 ((ziand x1 (x1 - (M 42 8))) + 519552495) ∧ zR32 (16 * (M 42 8)) ∧ ((M 42 7 : Int) ≠ 1 →
    ((M 42 7 : Int) ≠ 2 →
      Q (zI (zior x1 (M 42 10))) M) ∧
    (¬ (M 42 7 : Int) ≠ 2 →
      Q (zI (zior (zior x1 (M 42 10)) (ziand ((ziand x1 (x1 - (M 42 8))) + 519552495) (16 * (M 42 8))))) M)) ∧
  (¬ (M 42 7 : Int) ≠ 1 →
    zR32 ((ziand ((ziand x1 (x1 - (M 42 8))) + 519552495) (16 * (M 42 8))) - (zishr (ziand ((ziand x1 (x1 - (M 42 8))) + 519552495) (16 * (M 42 8))) 4)) ∧ Q (zI (zior (zior x1 (M 42 10)) (ziand ((ziand ((ziand x1 (x1 - (M 42 8))) + 519552495) (16 * (M 42 8))) - (zishr (ziand ((ziand x1 (x1 - (M 42 8))) + 519552495) (16 * (M 42 8))) 4)) (M 42 9)))) M)) : zBg d 13 0 [zR 42, zI x1, none, none] [] M Q :=
  zvc_ok (I := zm13) (cuts := []) (n := 49) rfl h
theorem zk13 {d : Nat} {M : zMem} {Q : Option zV → zMem → Prop} {x1 : Int} (h : zBg d 13 0 [zR 42, zI x1, none, none] [] M Q) : zCt d 13 [.inr (.inr 42), .inl x1] M Q := zCt_of (I := zm13) rfl rfl h
/-! CommaCopies$Joins.madeBy(II)I , as 14 -/
set_option maxRecDepth 20000 in
theorem zv14_0 {d : Nat} {M : zMem} {Q : Option zV → zMem → Prop} (x1 : Int) (x2 : Int) (h :
  zBg d 14 5 [zR 42, zI x1, none, zI x2, zI 0] [] M Q) : zBg d 14 0 [zR 42, zI x1, zI x2, none, none] [] M Q :=
  zvc_ok (I := zm14) (cuts := [(5, [true, true, false, true, true])]) (n := 34) rfl h
set_option maxRecDepth 20000 in
theorem zv14_5 {d : Nat} {M : zMem} {Q : Option zV → zMem → Prop} (x1 : Int) (x3 : Int) (x4 : Int) (h :
  ((x4 : Int) ≥ (M 42 4) →
    Q (zI (-4)) M) ∧
  (¬ (x4 : Int) ≥ (M 42 4) →
    (0 : Int) ≤ x4 ∧ (x4 : Int) < 92 ∧ ((ziand x1 (zixor (M 46 x4.toNat) (-1)) : Int) ≠ 0 →
      zR32 (x4 + 1) ∧ zBg d 14 5 [zR 42, zI x1, none, zI x3, zI (x4 + 1)] [] M Q) ∧
    (¬ (ziand x1 (zixor (M 46 x4.toNat) (-1)) : Int) ≠ 0 →
      ((x3 : Int) ≠ 0 →
        zR32 (x3 + (-1)) ∧ zR32 (x4 + 1) ∧ zBg d 14 5 [zR 42, zI x1, none, zI (x3 + (-1)), zI (x4 + 1)] [] M Q) ∧
      (¬ (x3 : Int) ≠ 0 →
        (0 : Int) ≤ x4 ∧ (x4 : Int) < 92 ∧ Q (zI (M 44 x4.toNat)) M)))) : zBg d 14 5 [zR 42, zI x1, none, zI x3, zI x4] [] M Q :=
  zvc_ok (I := zm14) (cuts := [(5, [true, true, false, true, true])]) (n := 34) rfl h
theorem zk14 {d : Nat} {M : zMem} {Q : Option zV → zMem → Prop} {x1 : Int} {x2 : Int} (h : zBg d 14 0 [zR 42, zI x1, zI x2, none, none] [] M Q) : zCt d 14 [.inr (.inr 42), .inl x1, .inl x2] M Q := zCt_of (I := zm14) rfl rfl h
/-! CommaCopies$Joins.suspect(I)V , as 15 -/
set_option maxRecDepth 20000 in
theorem zv15_0 {d : Nat} {M : zMem} {Q : Option zV → zMem → Prop} (x1 : Int) (h :
  zBg d 15 17 [zR 42, zI x1, zI 0] [] (zup (zup (zup M 42 13 0) 42 11 (-1)) 42 12 0) Q) : zBg d 15 0 [zR 42, zI x1, none] [] M Q :=
  zvc_ok (I := zm15) (cuts := [(17, [true, true, true])]) (n := 65) rfl h
set_option maxRecDepth 20000 in
theorem zv15_17 {d : Nat} {M : zMem} {Q : Option zV → zMem → Prop} (x1 : Int) (x2 : Int) (h :
  ((x2 : Int) ≥ (M 42 4) →
    ((M 42 13 : Int) ≠ 0 →
      Q none (zup M 42 11 (M 42 11))) ∧
    (¬ (M 42 13 : Int) ≠ 0 →
      Q none (zup M 42 11 0))) ∧
  (¬ (x2 : Int) ≥ (M 42 4) →
    (0 : Int) ≤ x2 ∧ (x2 : Int) < 92 ∧ ((ziand x1 (zixor (M 46 x2.toNat) (-1)) : Int) ≠ 0 →
      zR32 (x2 + 1) ∧ zBg d 15 17 [zR 42, zI x1, zI (x2 + 1)] [] M Q) ∧
    (¬ (ziand x1 (zixor (M 46 x2.toNat) (-1)) : Int) ≠ 0 →
      zR32 ((M 42 13) + 1) ∧ (0 : Int) ≤ x2 ∧ (x2 : Int) < 92 ∧ (0 : Int) ≤ x2 ∧ (x2 : Int) < 92 ∧ zR32 (x2 + 1) ∧ zBg d 15 17 [zR 42, zI x1, zI (x2 + 1)] [] (zup (zup (zup M 42 13 ((M 42 13) + 1)) 42 11 (ziand (M 42 11) (M 44 x2.toNat))) 42 12 (zior (M 42 12) (M 44 x2.toNat))) Q))) : zBg d 15 17 [zR 42, zI x1, zI x2] [] M Q :=
  zvc_ok (I := zm15) (cuts := [(17, [true, true, true])]) (n := 65) rfl h
theorem zk15 {d : Nat} {M : zMem} {Q : Option zV → zMem → Prop} {x1 : Int} (h : zBg d 15 0 [zR 42, zI x1, none] [] M Q) : zCt d 15 [.inr (.inr 42), .inl x1] M Q := zCt_of (I := zm15) rfl rfl h
/-! CommaCopies$Laws.broken(II)Z , as 16 -/
set_option maxRecDepth 20000 in
theorem zv16_0 {d : Nat} {M : zMem} {Q : Option zV → zMem → Prop} (x1 : Int) (x2 : Int) (h :
  ((x1 : Int) ≠ 0 →
    ((x1 : Int) ≠ 1 →
      ∃ Q1, zCl d 18 [.inl (M 42 4)] M Q1 ∧ ∀ v1 M1, Q1 v1 M1 →
      zR32 ((M1 42 4) - 64) ∧ ∃ Q2, zCl d 18 [.inl ((M1 42 4) - 64)] M1 Q2 ∧ ∀ v2 M2, Q2 v2 M2 →
      ∃ Q3, zCi d 26 [.inr (.inr 36), .inl 0, .inl x2, .inr (.inl v1), .inr (.inl v2)] M2 Q3 ∧ ∀ v3 M3, Q3 v3 M3 →
      ((v3 : Int) = 0 ∨ (v3 : Int) = 1) ∧ Q (zI v3) M3) ∧
    (¬ (x1 : Int) ≠ 1 →
      ∃ Q4, zCi d 17 [.inl x2] M Q4 ∧ ∀ v4 M4, Q4 v4 M4 →
      ∃ Q5, zCi d 21 [.inr (.inr 36), .inl v4] M4 Q5 ∧ ∀ v5 M5, Q5 v5 M5 →
      ((v5 : Int) = 0 ∨ (v5 : Int) = 1) ∧ Q (zI v5) M5)) ∧
  (¬ (x1 : Int) ≠ 0 →
    ∃ Q6, zCi d 17 [.inl x2] M Q6 ∧ ∀ v6 M6, Q6 v6 M6 →
    ∃ Q7, zCi d 19 [.inr (.inr 36), .inl v6] M6 Q7 ∧ ∀ v7 M7, Q7 v7 M7 →
    ((v7 : Int) = 0 ∨ (v7 : Int) = 1) ∧ Q (zI v7) M7)) : zBg (d + 1) 16 0 [zR 36, zI x1, zI x2, none, none, none, none] [] M Q :=
  zvc_ok (I := zm16) (cuts := []) (n := 39) rfl h
theorem zk16 {d : Nat} {M : zMem} {Q : Option zV → zMem → Prop} {x1 : Int} {x2 : Int} (h : zBg d 16 0 [zR 36, zI x1, zI x2, none, none, none, none] [] M Q) : zCt d 16 [.inr (.inr 36), .inl x1, .inl x2] M Q := zCt_of (I := zm16) rfl rfl h
/-! CommaCopies$Laws.groupsOf(I)I , as 17 -/
set_option maxRecDepth 20000 in
theorem zv17_0 {d : Nat} {M : zMem} {Q : Option zV → zMem → Prop} (x0 : Int) (h :
  zBg d 17 4 [zI x0, zI 0, zI 0] [] M Q) : zBg d 17 0 [zI x0, none, none] [] M Q :=
  zvc_ok (I := zm17) (cuts := [(4, [true, true, true])]) (n := 31) rfl h
set_option maxRecDepth 20000 in
theorem zv17_4 {d : Nat} {M : zMem} {Q : Option zV → zMem → Prop} (x0 : Int) (x1 : Int) (x2 : Int) (h :
  ((x2 : Int) ≥ 6 →
    Q (zI x1) M) ∧
  (¬ (x2 : Int) ≥ 6 →
    ((ziand (zishr x0 x2) 1 : Int) ≠ 1 →
      zR32 (x2 + 1) ∧ zBg d 17 4 [zI x0, zI x1, zI (x2 + 1)] [] M Q) ∧
    (¬ (ziand (zishr x0 x2) 1 : Int) ≠ 1 →
      zR32 (5 * x2) ∧ zR32 (x2 + 1) ∧ zBg d 17 4 [zI x0, zI (zior x1 (zishl 31 (5 * x2))), zI (x2 + 1)] [] M Q))) : zBg d 17 4 [zI x0, zI x1, zI x2] [] M Q :=
  zvc_ok (I := zm17) (cuts := [(4, [true, true, true])]) (n := 31) rfl h
theorem zk17 {d : Nat} {M : zMem} {Q : Option zV → zMem → Prop} {x0 : Int} (h : zBg d 17 0 [zI x0, none, none] [] M Q) : zCt d 17 [.inl x0] M Q := zCt_of (I := zm17) rfl rfl h
/-! CommaCopies$Laws.lowestBits(I)J , as 18 -/
set_option maxRecDepth 20000 in
theorem zv18_0 {d : Nat} {M : zMem} {Q : Option zV → zMem → Prop} (x0 : Int) (h :
  ((x0 : Int) > 0 →
    ((x0 : Int) < 64 →
      Q (zL (zlsub (zlshl 1 x0) 1)) M) ∧
    (¬ (x0 : Int) < 64 →
      Q (zL (-1)) M)) ∧
  (¬ (x0 : Int) > 0 →
    Q (zL 0) M)) : zBg d 18 0 [zI x0] [] M Q :=
  zvc_ok (I := zm18) (cuts := []) (n := 20) rfl h
theorem zk18 {d : Nat} {M : zMem} {Q : Option zV → zMem → Prop} {x0 : Int} (h : zBg d 18 0 [zI x0] [] M Q) : zCt d 18 [.inl x0] M Q := zCt_of (I := zm18) rfl rfl h
/-! CommaCopies$Laws.someFramed(I)Z , as 19 -/
set_option maxRecDepth 20000 in
theorem zv19_0 {d : Nat} {M : zMem} {Q : Option zV → zMem → Prop} (x1 : Int) (h :
  zBg d 19 2 [zR 36, zI x1, zI 0, none] [] M Q) : zBg d 19 0 [zR 36, zI x1, none, none] [] M Q :=
  zvc_ok (I := zm19) (cuts := [(2, [true, true, true, false])]) (n := 44) rfl h
set_option maxRecDepth 20000 in
theorem zv19_2 {d : Nat} {M : zMem} {Q : Option zV → zMem → Prop} (x1 : Int) (x2 : Int) (h :
  ((x2 : Int) ≥ (M 42 4) →
    ((0 : Int) = 0 ∨ (0 : Int) = 1) ∧ Q (zI 0) M) ∧
  (¬ (x2 : Int) ≥ (M 42 4) →
    (0 : Int) ≤ x2 ∧ (x2 : Int) < 92 ∧ (0 : Int) ≤ x2 ∧ (x2 : Int) < 92 ∧ ∃ Q1, zCi d 20 [.inr (.inr 36), .inl (M 44 x2.toNat), .inl (M 46 x2.toNat), .inl x1] M Q1 ∧ ∀ v1 M1, Q1 v1 M1 →
    ((v1 : Int) < 0 →
      zR32 (x2 + 1) ∧ zBg (d + 1) 19 2 [zR 36, zI x1, zI (x2 + 1), none] [] M1 Q) ∧
    (¬ (v1 : Int) < 0 →
      (0 : Int) ≤ x2 ∧ (x2 : Int) < 92 ∧ ((1 : Int) = 0 ∨ (1 : Int) = 1) ∧ Q (zI 1) (zup (zup M1 36 6 (M1 44 x2.toNat)) 36 7 v1)))) : zBg (d + 1) 19 2 [zR 36, zI x1, zI x2, none] [] M Q :=
  zvc_ok (I := zm19) (cuts := [(2, [true, true, true, false])]) (n := 44) rfl h
theorem zk19 {d : Nat} {M : zMem} {Q : Option zV → zMem → Prop} {x1 : Int} (h : zBg d 19 0 [zR 36, zI x1, none, none] [] M Q) : zCt d 19 [.inr (.inr 36), .inl x1] M Q := zCt_of (I := zm19) rfl rfl h
/-! CommaCopies$Laws.victimOf(III)I , as 20 -/
set_option maxRecDepth 20000 in
theorem zv20_0 {d : Nat} {M : zMem} {Q : Option zV → zMem → Prop} (x1 : Int) (x2 : Int) (x3 : Int) (h :
  zBg d 20 3 [zR 36, zI x1, zI x2, zI x3, zI 0] [] M Q) : zBg d 20 0 [zR 36, zI x1, zI x2, zI x3, none] [] M Q :=
  zvc_ok (I := zm20) (cuts := [(3, [true, true, true, true, true])]) (n := 36) rfl h
set_option maxRecDepth 20000 in
theorem zv20_3 {d : Nat} {M : zMem} {Q : Option zV → zMem → Prop} (x1 : Int) (x2 : Int) (x3 : Int) (x4 : Int) (h :
  ((x4 : Int) ≥ (M 42 5) →
    Q (zI (-1)) M) ∧
  (¬ (x4 : Int) ≥ (M 42 5) →
    ((ziand (zishr x1 x4) 1 : Int) ≠ 0 →
      zR32 (x4 + 1) ∧ zBg d 20 3 [zR 36, zI x1, zI x2, zI x3, zI (x4 + 1)] [] M Q) ∧
    (¬ (ziand (zishr x1 x4) 1 : Int) ≠ 0 →
      (0 : Int) ≤ x4 ∧ (x4 : Int) < 8 ∧ ((ziand (ziand (M 43 x4.toNat) x3) (zixor x2 (-1)) : Int) ≠ 0 →
        zR32 (x4 + 1) ∧ zBg d 20 3 [zR 36, zI x1, zI x2, zI x3, zI (x4 + 1)] [] M Q) ∧
      (¬ (ziand (ziand (M 43 x4.toNat) x3) (zixor x2 (-1)) : Int) ≠ 0 →
        Q (zI x4) M)))) : zBg d 20 3 [zR 36, zI x1, zI x2, zI x3, zI x4] [] M Q :=
  zvc_ok (I := zm20) (cuts := [(3, [true, true, true, true, true])]) (n := 36) rfl h
theorem zk20 {d : Nat} {M : zMem} {Q : Option zV → zMem → Prop} {x1 : Int} {x2 : Int} {x3 : Int} (h : zBg d 20 0 [zR 36, zI x1, zI x2, zI x3, none] [] M Q) : zCt d 20 [.inr (.inr 36), .inl x1, .inl x2, .inl x3] M Q := zCt_of (I := zm20) rfl rfl h
/-! CommaCopies$Laws.someTouch(I)Z , as 21 -/
set_option maxRecDepth 20000 in
theorem zv21_0 {d : Nat} {M : zMem} {Q : Option zV → zMem → Prop} (x1 : Int) (h :
  zBg d 21 2 [zR 36, zI x1, zI 0, none] [] M Q) : zBg d 21 0 [zR 36, zI x1, none, none] [] M Q :=
  zvc_ok (I := zm21) (cuts := [(2, [true, true, true, false])]) (n := 51) rfl h
set_option maxRecDepth 20000 in
theorem zv21_2 {d : Nat} {M : zMem} {Q : Option zV → zMem → Prop} (x1 : Int) (x2 : Int) (h :
  ((x2 : Int) ≥ (M 42 4) →
    ((0 : Int) = 0 ∨ (0 : Int) = 1) ∧ Q (zI 0) M) ∧
  (¬ (x2 : Int) ≥ (M 42 4) →
    (0 : Int) ≤ x2 ∧ (x2 : Int) < 92 ∧ (0 : Int) ≤ x2 ∧ (x2 : Int) < 92 ∧ zR32 (x2 + 1) ∧ ∃ Q1, zCi d 22 [.inr (.inr 36), .inl (M 44 x2.toNat), .inl (M 46 x2.toNat), .inl x1, .inl (x2 + 1)] M Q1 ∧ ∀ v1 M1, Q1 v1 M1 →
    ((v1 : Int) < 0 →
      zR32 (x2 + 1) ∧ zBg (d + 1) 21 2 [zR 36, zI x1, zI (x2 + 1), none] [] M1 Q) ∧
    (¬ (v1 : Int) < 0 →
      (0 : Int) ≤ x2 ∧ (x2 : Int) < 92 ∧ (0 : Int) ≤ v1 ∧ (v1 : Int) < 92 ∧ ((1 : Int) = 0 ∨ (1 : Int) = 1) ∧ Q (zI 1) (zup (zup M1 36 6 (M1 44 x2.toNat)) 36 7 (M1 44 v1.toNat))))) : zBg (d + 1) 21 2 [zR 36, zI x1, zI x2, none] [] M Q :=
  zvc_ok (I := zm21) (cuts := [(2, [true, true, true, false])]) (n := 51) rfl h
theorem zk21 {d : Nat} {M : zMem} {Q : Option zV → zMem → Prop} {x1 : Int} (h : zBg d 21 0 [zR 36, zI x1, none, none] [] M Q) : zCt d 21 [.inr (.inr 36), .inl x1] M Q := zCt_of (I := zm21) rfl rfl h
/-! CommaCopies$Laws.touching(IIII)I , as 22 -/
set_option maxRecDepth 20000 in
theorem zv22_0 {d : Nat} {M : zMem} {Q : Option zV → zMem → Prop} (x1 : Int) (x2 : Int) (x3 : Int) (x4 : Int) (h :
  zBg d 22 4 [zR 36, zI x1, zI x2, zI x3, none, zI x4] [] M Q) : zBg d 22 0 [zR 36, zI x1, zI x2, zI x3, zI x4, none] [] M Q :=
  zvc_ok (I := zm22) (cuts := [(4, [true, true, true, true, false, true])]) (n := 36) rfl h
set_option maxRecDepth 20000 in
theorem zv22_4 {d : Nat} {M : zMem} {Q : Option zV → zMem → Prop} (x1 : Int) (x2 : Int) (x3 : Int) (x5 : Int) (h :
  ((x5 : Int) ≥ (M 42 4) →
    Q (zI (-1)) M) ∧
  (¬ (x5 : Int) ≥ (M 42 4) →
    (0 : Int) ≤ x5 ∧ (x5 : Int) < 92 ∧ ((ziand x1 (M 44 x5.toNat) : Int) ≠ 0 →
      zR32 (x5 + 1) ∧ zBg (d + 1) 22 4 [zR 36, zI x1, zI x2, zI x3, none, zI (x5 + 1)] [] M Q) ∧
    (¬ (ziand x1 (M 44 x5.toNat) : Int) ≠ 0 →
      (0 : Int) ≤ x5 ∧ (x5 : Int) < 92 ∧ ∃ Q1, zCi d 23 [.inl (ziand x2 (M 46 x5.toNat)), .inl x3] M Q1 ∧ ∀ v1 M1, Q1 v1 M1 →
      ((v1 : Int) = 0 →
        zR32 (x5 + 1) ∧ zBg (d + 1) 22 4 [zR 36, zI x1, zI x2, zI x3, none, zI (x5 + 1)] [] M1 Q) ∧
      (¬ (v1 : Int) = 0 →
        Q (zI x5) M1)))) : zBg (d + 1) 22 4 [zR 36, zI x1, zI x2, zI x3, none, zI x5] [] M Q :=
  zvc_ok (I := zm22) (cuts := [(4, [true, true, true, true, false, true])]) (n := 36) rfl h
theorem zk22 {d : Nat} {M : zMem} {Q : Option zV → zMem → Prop} {x1 : Int} {x2 : Int} {x3 : Int} {x4 : Int} (h : zBg d 22 0 [zR 36, zI x1, zI x2, zI x3, zI x4, none] [] M Q) : zCt d 22 [.inr (.inr 36), .inl x1, .inl x2, .inl x3, .inl x4] M Q := zCt_of (I := zm22) rfl rfl h
/-! CommaCopies$Laws.meetEverywhere(II)Z , as 23 -/
set_option maxRecDepth 20000 in
theorem zv23_0 {d : Nat} {M : zMem} {Q : Option zV → zMem → Prop} (x0 : Int) (x1 : Int) (h :
  zR32 ((ziand x0 519552495) + 519552495) ∧ ((ziand (zior ((ziand x0 519552495) + 519552495) x0) (ziand 554189328 x1) : Int) ≠ (ziand 554189328 x1) →
    ((0 : Int) = 0 ∨ (0 : Int) = 1) ∧ Q (zI 0) M) ∧
  (¬ (ziand (zior ((ziand x0 519552495) + 519552495) x0) (ziand 554189328 x1) : Int) ≠ (ziand 554189328 x1) →
    ((1 : Int) = 0 ∨ (1 : Int) = 1) ∧ Q (zI 1) M)) : zBg d 23 0 [zI x0, zI x1, none] [] M Q :=
  zvc_ok (I := zm23) (cuts := []) (n := 24) rfl h
theorem zk23 {d : Nat} {M : zMem} {Q : Option zV → zMem → Prop} {x0 : Int} {x1 : Int} (h : zBg d 23 0 [zI x0, zI x1, none] [] M Q) : zCt d 23 [.inl x0, .inl x1] M Q := zCt_of (I := zm23) rfl rfl h
/-! CommaCopies$Laws.mark()V , as 24 -/
set_option maxRecDepth 20000 in
theorem zv24_0 {d : Nat} {M : zMem} {Q : Option zV → zMem → Prop} (h :
  ∃ Q1, zCv d 181 [.inr (.inr 38), .inr (.inl 0)] M Q1 ∧ ∀ M1, Q1 M1 →
  ∃ Q2, zCv d 181 [.inr (.inr 39), .inr (.inl 0)] M1 Q2 ∧ ∀ M2, Q2 M2 →
  ∃ Q3, zCv d 181 [.inr (.inr 40), .inr (.inl 0)] M2 Q3 ∧ ∀ M3, Q3 M3 →
  ∃ Q4, zCv d 181 [.inr (.inr 41), .inr (.inl 0)] M3 Q4 ∧ ∀ M4, Q4 M4 →
  zBg (d + 1) 24 34 [zR 36, zI 0, none, none, none, none] [] M4 Q) : zBg (d + 1) 24 0 [zR 36, none, none, none, none, none] [] M Q :=
  zvc_ok (I := zm24) (cuts := [(34, [true, true, false, false, false, false])]) (n := 87) rfl h
set_option maxRecDepth 20000 in
theorem zv24_34 {d : Nat} {M : zMem} {Q : Option zV → zMem → Prop} (x1 : Int) (h :
  ((x1 : Int) ≥ (M 42 4) →
    Q none M) ∧
  (¬ (x1 : Int) ≥ (M 42 4) →
    ((x1 : Int) ≥ 64 →
      ((x1 : Int) ≥ 64 →
        zR32 (x1 - 64) ∧ (0 : Int) ≤ x1 ∧ (x1 : Int) < 92 ∧ ∃ Q1, zCv d 25 [.inl (M 46 x1.toNat), .inr (.inr 38), .inr (.inl 0)] M Q1 ∧ ∀ M1, Q1 M1 →
        (0 : Int) ≤ x1 ∧ (x1 : Int) < 92 ∧ ∃ Q2, zCv d 25 [.inl (M1 46 x1.toNat), .inr (.inr 39), .inr (.inl (zlshl 1 (x1 - 64)))] M1 Q2 ∧ ∀ M2, Q2 M2 →
        (0 : Int) ≤ x1 ∧ (x1 : Int) < 92 ∧ ∃ Q3, zCv d 25 [.inl (M2 44 x1.toNat), .inr (.inr 40), .inr (.inl 0)] M2 Q3 ∧ ∀ M3, Q3 M3 →
        (0 : Int) ≤ x1 ∧ (x1 : Int) < 92 ∧ ∃ Q4, zCv d 25 [.inl (M3 44 x1.toNat), .inr (.inr 41), .inr (.inl (zlshl 1 (x1 - 64)))] M3 Q4 ∧ ∀ M4, Q4 M4 →
        zR32 (x1 + 1) ∧ zBg (d + 1) 24 34 [zR 36, zI (x1 + 1), none, none, none, none] [] M4 Q) ∧
      (¬ (x1 : Int) ≥ 64 →
        (0 : Int) ≤ x1 ∧ (x1 : Int) < 92 ∧ ∃ Q5, zCv d 25 [.inl (M 46 x1.toNat), .inr (.inr 38), .inr (.inl 0)] M Q5 ∧ ∀ M5, Q5 M5 →
        (0 : Int) ≤ x1 ∧ (x1 : Int) < 92 ∧ ∃ Q6, zCv d 25 [.inl (M5 46 x1.toNat), .inr (.inr 39), .inr (.inl 0)] M5 Q6 ∧ ∀ M6, Q6 M6 →
        (0 : Int) ≤ x1 ∧ (x1 : Int) < 92 ∧ ∃ Q7, zCv d 25 [.inl (M6 44 x1.toNat), .inr (.inr 40), .inr (.inl 0)] M6 Q7 ∧ ∀ M7, Q7 M7 →
        (0 : Int) ≤ x1 ∧ (x1 : Int) < 92 ∧ ∃ Q8, zCv d 25 [.inl (M7 44 x1.toNat), .inr (.inr 41), .inr (.inl 0)] M7 Q8 ∧ ∀ M8, Q8 M8 →
        zR32 (x1 + 1) ∧ zBg (d + 1) 24 34 [zR 36, zI (x1 + 1), none, none, none, none] [] M8 Q)) ∧
    (¬ (x1 : Int) ≥ 64 →
      ((x1 : Int) ≥ 64 →
        zR32 (x1 - 64) ∧ (0 : Int) ≤ x1 ∧ (x1 : Int) < 92 ∧ ∃ Q9, zCv d 25 [.inl (M 46 x1.toNat), .inr (.inr 38), .inr (.inl (zlshl 1 x1))] M Q9 ∧ ∀ M9, Q9 M9 →
        (0 : Int) ≤ x1 ∧ (x1 : Int) < 92 ∧ ∃ Q10, zCv d 25 [.inl (M9 46 x1.toNat), .inr (.inr 39), .inr (.inl (zlshl 1 (x1 - 64)))] M9 Q10 ∧ ∀ M10, Q10 M10 →
        (0 : Int) ≤ x1 ∧ (x1 : Int) < 92 ∧ ∃ Q11, zCv d 25 [.inl (M10 44 x1.toNat), .inr (.inr 40), .inr (.inl (zlshl 1 x1))] M10 Q11 ∧ ∀ M11, Q11 M11 →
        (0 : Int) ≤ x1 ∧ (x1 : Int) < 92 ∧ ∃ Q12, zCv d 25 [.inl (M11 44 x1.toNat), .inr (.inr 41), .inr (.inl (zlshl 1 (x1 - 64)))] M11 Q12 ∧ ∀ M12, Q12 M12 →
        zR32 (x1 + 1) ∧ zBg (d + 1) 24 34 [zR 36, zI (x1 + 1), none, none, none, none] [] M12 Q) ∧
      (¬ (x1 : Int) ≥ 64 →
        (0 : Int) ≤ x1 ∧ (x1 : Int) < 92 ∧ ∃ Q13, zCv d 25 [.inl (M 46 x1.toNat), .inr (.inr 38), .inr (.inl (zlshl 1 x1))] M Q13 ∧ ∀ M13, Q13 M13 →
        (0 : Int) ≤ x1 ∧ (x1 : Int) < 92 ∧ ∃ Q14, zCv d 25 [.inl (M13 46 x1.toNat), .inr (.inr 39), .inr (.inl 0)] M13 Q14 ∧ ∀ M14, Q14 M14 →
        (0 : Int) ≤ x1 ∧ (x1 : Int) < 92 ∧ ∃ Q15, zCv d 25 [.inl (M14 44 x1.toNat), .inr (.inr 40), .inr (.inl (zlshl 1 x1))] M14 Q15 ∧ ∀ M15, Q15 M15 →
        (0 : Int) ≤ x1 ∧ (x1 : Int) < 92 ∧ ∃ Q16, zCv d 25 [.inl (M15 44 x1.toNat), .inr (.inr 41), .inr (.inl 0)] M15 Q16 ∧ ∀ M16, Q16 M16 →
        zR32 (x1 + 1) ∧ zBg (d + 1) 24 34 [zR 36, zI (x1 + 1), none, none, none, none] [] M16 Q)))) : zBg (d + 1) 24 34 [zR 36, zI x1, none, none, none, none] [] M Q :=
  zvc_ok (I := zm24) (cuts := [(34, [true, true, false, false, false, false])]) (n := 87) rfl h
theorem zk24 {d : Nat} {M : zMem} {Q : Option zV → zMem → Prop} (h : zBg d 24 0 [zR 36, none, none, none, none, none] [] M Q) : zCt d 24 [.inr (.inr 36)] M Q := zCt_of (I := zm24) rfl rfl h
/-! CommaCopies$Laws.spread(I[JJ)V , as 25 -/
set_option maxRecDepth 20000 in
theorem zv25_0 {d : Nat} {M : zMem} {Q : Option zV → zMem → Prop} (x0 : Int) (a1 : Nat) (x2 : Int) (h :
  zBg d 25 3 [zI x0, zR a1, zL x2, none, zI 0] [] M Q) : zBg d 25 0 [zI x0, zR a1, zL x2, none, none] [] M Q :=
  zvc_ok (I := zm25) (cuts := [(3, [true, true, true, false, true])]) (n := 28) rfl h
set_option maxRecDepth 20000 in
theorem zv25_3 {d : Nat} {M : zMem} {Q : Option zV → zMem → Prop} (x0 : Int) (a1 : Nat) (x2 : Int) (x4 : Int) (h :
  zln a1 fun n0 => ((x4 : Int) ≥ n0 →
    Q none M) ∧
  (¬ (x4 : Int) ≥ n0 →
    ((ziand (zishr x0 x4) 1 : Int) ≠ 1 →
      zR32 (x4 + 1) ∧ zBg d 25 3 [zI x0, zR a1, zL x2, none, zI (x4 + 1)] [] M Q) ∧
    (¬ (ziand (zishr x0 x4) 1 : Int) ≠ 1 →
      zar a1 2 fun n => (0 : Int) ≤ x4 ∧ (x4 : Int) < n ∧ zar a1 2 fun n => (0 : Int) ≤ x4 ∧ (x4 : Int) < n ∧ zR32 (x4 + 1) ∧ zBg d 25 3 [zI x0, zR a1, zL x2, none, zI (x4 + 1)] [] (zup M a1 x4.toNat (zlor (M a1 x4.toNat) x2)) Q))) : zBg d 25 3 [zI x0, zR a1, zL x2, none, zI x4] [] M Q :=
  zvc_ok (I := zm25) (cuts := [(3, [true, true, true, false, true])]) (n := 28) rfl h
theorem zk25 {d : Nat} {M : zMem} {Q : Option zV → zMem → Prop} {x0 : Int} {a1 : Nat} {x2 : Int} (h : zBg d 25 0 [zI x0, zR a1, zL x2, none, none] [] M Q) : zCt d 25 [.inl x0, .inr (.inr a1), .inr (.inl x2)] M Q := zCt_of (I := zm25) rfl rfl h
/-! CommaCopies$Laws.someUnnamed(IIJJ)Z , as 26 -/
set_option maxRecDepth 20000 in
theorem zv26_0 {d : Nat} {M : zMem} {Q : Option zV → zMem → Prop} (x1 : Int) (x2 : Int) (x3 : Int) (x5 : Int) (h :
  ((zlcmp (zlor x3 x5) 0 : Int) = 0 →
    ((0 : Int) = 0 ∨ (0 : Int) = 1) ∧ Q (zI 0) M) ∧
  (¬ (zlcmp (zlor x3 x5) 0 : Int) = 0 →
    ∃ Q1, zCi d 27 [.inr (.inr 36), .inr (.inl x3), .inr (.inl x5)] M Q1 ∧ ∀ v1 M1, Q1 v1 M1 →
    ((v1 : Int) = 0 →
      ((x1 : Int) < 6 →
        ((ziand (zishr x2 x1) 1 : Int) ≠ 0 →
          zBg (d + 1) 26 52 [zR 36, zI x1, zI x2, zL x3, none, zL x5, none, zI 0, none] [] M1 Q) ∧
        (¬ (ziand (zishr x2 x1) 1 : Int) ≠ 0 →
          zR32 (x1 + 1) ∧ ∃ Q2, zCi d 26 [.inr (.inr 36), .inl (x1 + 1), .inl x2, .inr (.inl x3), .inr (.inl x5)] M1 Q2 ∧ ∀ v2 M2, Q2 v2 M2 →
          ((v2 : Int) = 0 ∨ (v2 : Int) = 1) ∧ Q (zI v2) M2)) ∧
      (¬ (x1 : Int) < 6 →
        ((1 : Int) = 0 ∨ (1 : Int) = 1) ∧ Q (zI 1) M1)) ∧
    (¬ (v1 : Int) = 0 →
      ((0 : Int) = 0 ∨ (0 : Int) = 1) ∧ Q (zI 0) M1))) : zBg (d + 1) 26 0 [zR 36, zI x1, zI x2, zL x3, none, zL x5, none, none, none] [] M Q :=
  zvc_ok (I := zm26) (cuts := [(52, [true, true, true, true, false, true, false, true, false])]) (n := 79) rfl h
set_option maxRecDepth 20000 in
theorem zv26_52 {d : Nat} {M : zMem} {Q : Option zV → zMem → Prop} (x1 : Int) (x2 : Int) (x3 : Int) (x5 : Int) (x7 : Int) (h :
  ((x7 : Int) ≥ 5 →
    ((0 : Int) = 0 ∨ (0 : Int) = 1) ∧ Q (zI 0) M) ∧
  (¬ (x7 : Int) ≥ 5 →
    zR32 (x1 * 5) ∧ zR32 ((x1 * 5) + x7) ∧ (0 : Int) ≤ x1 ∧ (x1 : Int) < 6 ∧ zR32 (x1 + 1) ∧ (0 : Int) ≤ ((x1 * 5) + x7) ∧ ((x1 * 5) + x7 : Int) < 30 ∧ (0 : Int) ≤ ((x1 * 5) + x7) ∧ ((x1 * 5) + x7 : Int) < 30 ∧ ∃ Q1, zCi d 26 [.inr (.inr 36), .inl (x1 + 1), .inl x2, .inr (.inl (zland x3 (M 38 (((x1 * 5) + x7).toNat)))), .inr (.inl (zland x5 (M 39 (((x1 * 5) + x7).toNat))))] (zup M 37 x1.toNat x7) Q1 ∧ ∀ v1 M1, Q1 v1 M1 →
    ((v1 : Int) = 0 →
      zR32 (x7 + 1) ∧ zBg (d + 1) 26 52 [zR 36, zI x1, zI x2, zL x3, none, zL x5, none, zI (x7 + 1), none] [] M1 Q) ∧
    (¬ (v1 : Int) = 0 →
      ((1 : Int) = 0 ∨ (1 : Int) = 1) ∧ Q (zI 1) M1))) : zBg (d + 1) 26 52 [zR 36, zI x1, zI x2, zL x3, none, zL x5, none, zI x7, none] [] M Q :=
  zvc_ok (I := zm26) (cuts := [(52, [true, true, true, true, false, true, false, true, false])]) (n := 79) rfl h
theorem zk26 {d : Nat} {M : zMem} {Q : Option zV → zMem → Prop} {x1 : Int} {x2 : Int} {x3 : Int} {x5 : Int} (h : zBg d 26 0 [zR 36, zI x1, zI x2, zL x3, none, zL x5, none, none, none] [] M Q) : zCt d 26 [.inr (.inr 36), .inl x1, .inl x2, .inr (.inl x3), .inr (.inl x5)] M Q := zCt_of (I := zm26) rfl rfl h
/-! CommaCopies$Laws.haveOneInCommon(JJ)Z , as 27 -/
set_option maxRecDepth 20000 in
theorem zv27_0 {d : Nat} {M : zMem} {Q : Option zV → zMem → Prop} (x1 : Int) (x3 : Int) (h :
  zBg d 27 3 [zR 36, zL x1, none, zL x3, none, zI 0] [] M Q) : zBg d 27 0 [zR 36, zL x1, none, zL x3, none, none] [] M Q :=
  zvc_ok (I := zm27) (cuts := [(3, [true, true, false, true, false, true])]) (n := 40) rfl h
set_option maxRecDepth 20000 in
theorem zv27_3 {d : Nat} {M : zMem} {Q : Option zV → zMem → Prop} (x1 : Int) (x3 : Int) (x5 : Int) (h :
  ((x5 : Int) ≥ (M 42 5) →
    ((0 : Int) = 0 ∨ (0 : Int) = 1) ∧ Q (zI 0) M) ∧
  (¬ (x5 : Int) ≥ (M 42 5) →
    (0 : Int) ≤ x5 ∧ (x5 : Int) < 8 ∧ ((zlcmp (zland x1 (zlxor (M 40 x5.toNat) (-1))) 0 : Int) ≠ 0 →
      zR32 (x5 + 1) ∧ zBg d 27 3 [zR 36, zL x1, none, zL x3, none, zI (x5 + 1)] [] M Q) ∧
    (¬ (zlcmp (zland x1 (zlxor (M 40 x5.toNat) (-1))) 0 : Int) ≠ 0 →
      (0 : Int) ≤ x5 ∧ (x5 : Int) < 8 ∧ ((zlcmp (zland x3 (zlxor (M 41 x5.toNat) (-1))) 0 : Int) ≠ 0 →
        zR32 (x5 + 1) ∧ zBg d 27 3 [zR 36, zL x1, none, zL x3, none, zI (x5 + 1)] [] M Q) ∧
      (¬ (zlcmp (zland x3 (zlxor (M 41 x5.toNat) (-1))) 0 : Int) ≠ 0 →
        ((1 : Int) = 0 ∨ (1 : Int) = 1) ∧ Q (zI 1) M)))) : zBg d 27 3 [zR 36, zL x1, none, zL x3, none, zI x5] [] M Q :=
  zvc_ok (I := zm27) (cuts := [(3, [true, true, false, true, false, true])]) (n := 40) rfl h
theorem zk27 {d : Nat} {M : zMem} {Q : Option zV → zMem → Prop} {x1 : Int} {x3 : Int} (h : zBg d 27 0 [zR 36, zL x1, none, zL x3, none, none] [] M Q) : zCt d 27 [.inr (.inr 36), .inr (.inl x1), .inr (.inl x3)] M Q := zCt_of (I := zm27) rfl rfl h
/-! CommaCopies$Laws.admits(II)Z , as 28 -/
set_option maxRecDepth 20000 in
theorem zv28_0 {d : Nat} {M : zMem} {Q : Option zV → zMem → Prop} (x1 : Int) (x2 : Int) (h :
  zBg d 28 2 [zR 36, zI x1, zI x2, zI 0, none] [] M Q) : zBg d 28 0 [zR 36, zI x1, zI x2, none, none] [] M Q :=
  zvc_ok (I := zm28) (cuts := [(2, [true, true, true, true, false]), (69, [true, true, true, true, false])]) (n := 90) rfl h
set_option maxRecDepth 20000 in
theorem zv28_2 {d : Nat} {M : zMem} {Q : Option zV → zMem → Prop} (x1 : Int) (x2 : Int) (x3 : Int) (h :
  ((x3 : Int) ≥ (M 42 5) →
    ((x1 : Int) ≠ 0 →
      ∃ Q1, zCi d 13 [.inr (.inr 42), .inl x2] M Q1 ∧ ∀ v1 M1, Q1 v1 M1 →
      ∃ Q2, zCi d 30 [.inr (.inr 36), .inl x1, .inl 0, .inl v1] M1 Q2 ∧ ∀ v2 M2, Q2 v2 M2 →
      ((v2 : Int) = 0 →
        zBg (d + 1) 28 69 [zR 36, zI x1, zI x2, zI 0, none] [] M2 Q) ∧
      (¬ (v2 : Int) = 0 →
        ((0 : Int) = 0 ∨ (0 : Int) = 1) ∧ Q (zI 0) M2)) ∧
    (¬ (x1 : Int) ≠ 0 →
      ∃ Q3, zCi d 29 [.inr (.inr 36), .inl x2] M Q3 ∧ ∀ v3 M3, Q3 v3 M3 →
      ((v3 : Int) = 0 →
        ∃ Q4, zCi d 13 [.inr (.inr 42), .inl x2] M3 Q4 ∧ ∀ v4 M4, Q4 v4 M4 →
        ∃ Q5, zCi d 30 [.inr (.inr 36), .inl x1, .inl 0, .inl v4] M4 Q5 ∧ ∀ v5 M5, Q5 v5 M5 →
        ((v5 : Int) = 0 →
          zBg (d + 1) 28 69 [zR 36, zI x1, zI x2, zI 0, none] [] M5 Q) ∧
        (¬ (v5 : Int) = 0 →
          ((0 : Int) = 0 ∨ (0 : Int) = 1) ∧ Q (zI 0) M5)) ∧
      (¬ (v3 : Int) = 0 →
        ((0 : Int) = 0 ∨ (0 : Int) = 1) ∧ Q (zI 0) M3))) ∧
  (¬ (x3 : Int) ≥ (M 42 5) →
    (0 : Int) ≤ x3 ∧ (x3 : Int) < 8 ∧ ((M 43 x3.toNat : Int) ≠ x2 →
      zR32 (x3 + 1) ∧ zBg (d + 1) 28 2 [zR 36, zI x1, zI x2, zI (x3 + 1), none] [] M Q) ∧
    (¬ (M 43 x3.toNat : Int) ≠ x2 →
      ((0 : Int) = 0 ∨ (0 : Int) = 1) ∧ Q (zI 0) M))) : zBg (d + 1) 28 2 [zR 36, zI x1, zI x2, zI x3, none] [] M Q :=
  zvc_ok (I := zm28) (cuts := [(2, [true, true, true, true, false]), (69, [true, true, true, true, false])]) (n := 90) rfl h
set_option maxRecDepth 20000 in
theorem zv28_69 {d : Nat} {M : zMem} {Q : Option zV → zMem → Prop} (x1 : Int) (x2 : Int) (x3 : Int) (h :
  ((x3 : Int) ≥ (M 42 4) →
    ((1 : Int) = 0 ∨ (1 : Int) = 1) ∧ Q (zI 1) M) ∧
  (¬ (x3 : Int) ≥ (M 42 4) →
    (0 : Int) ≤ x3 ∧ (x3 : Int) < 92 ∧ ∃ Q1, zCi d 180 [.inl (M 44 x3.toNat)] M Q1 ∧ ∀ v1 M1, Q1 v1 M1 →
    ((v1 : Int) ≥ (M1 42 6) →
      ((0 : Int) = 0 →
        zR32 (x3 + 1) ∧ zBg (d + 1) 28 69 [zR 36, zI x1, zI x2, zI (x3 + 1), none] [] M1 Q) ∧
      (¬ (0 : Int) = 0 →
        (0 : Int) ≤ x3 ∧ (x3 : Int) < 92 ∧ (0 : Int) ≤ x3 ∧ (x3 : Int) < 92 ∧ ∃ Q2, zCi d 13 [.inr (.inr 42), .inl (zior (M1 45 x3.toNat) x2)] M1 Q2 ∧ ∀ v2 M2, Q2 v2 M2 →
        ∃ Q3, zCi d 30 [.inr (.inr 36), .inl x1, .inl (M1 44 x3.toNat), .inl v2] M2 Q3 ∧ ∀ v3 M3, Q3 v3 M3 →
        ((v3 : Int) = 0 →
          zR32 (x3 + 1) ∧ zBg (d + 1) 28 69 [zR 36, zI x1, zI x2, zI (x3 + 1), none] [] M3 Q) ∧
        (¬ (v3 : Int) = 0 →
          ((0 : Int) = 0 ∨ (0 : Int) = 1) ∧ Q (zI 0) M3))) ∧
    (¬ (v1 : Int) ≥ (M1 42 6) →
      ((1 : Int) = 0 →
        zR32 (x3 + 1) ∧ zBg (d + 1) 28 69 [zR 36, zI x1, zI x2, zI (x3 + 1), none] [] M1 Q) ∧
      (¬ (1 : Int) = 0 →
        (0 : Int) ≤ x3 ∧ (x3 : Int) < 92 ∧ (0 : Int) ≤ x3 ∧ (x3 : Int) < 92 ∧ ∃ Q4, zCi d 13 [.inr (.inr 42), .inl (zior (M1 45 x3.toNat) x2)] M1 Q4 ∧ ∀ v4 M4, Q4 v4 M4 →
        ∃ Q5, zCi d 30 [.inr (.inr 36), .inl x1, .inl (M1 44 x3.toNat), .inl v4] M4 Q5 ∧ ∀ v5 M5, Q5 v5 M5 →
        ((v5 : Int) = 0 →
          zR32 (x3 + 1) ∧ zBg (d + 1) 28 69 [zR 36, zI x1, zI x2, zI (x3 + 1), none] [] M5 Q) ∧
        (¬ (v5 : Int) = 0 →
          ((0 : Int) = 0 ∨ (0 : Int) = 1) ∧ Q (zI 0) M5))))) : zBg (d + 1) 28 69 [zR 36, zI x1, zI x2, zI x3, none] [] M Q :=
  zvc_ok (I := zm28) (cuts := [(2, [true, true, true, true, false]), (69, [true, true, true, true, false])]) (n := 90) rfl h
theorem zk28 {d : Nat} {M : zMem} {Q : Option zV → zMem → Prop} {x1 : Int} {x2 : Int} (h : zBg d 28 0 [zR 36, zI x1, zI x2, none, none] [] M Q) : zCt d 28 [.inr (.inr 36), .inl x1, .inl x2] M Q := zCt_of (I := zm28) rfl rfl h
/-! CommaCopies$Laws.isFramed(I)Z , as 29 -/
set_option maxRecDepth 20000 in
theorem zv29_0 {d : Nat} {M : zMem} {Q : Option zV → zMem → Prop} (x1 : Int) (h :
  zBg d 29 2 [zR 36, zI x1, zI 0] [] M Q) : zBg d 29 0 [zR 36, zI x1, none] [] M Q :=
  zvc_ok (I := zm29) (cuts := [(2, [true, true, true])]) (n := 28) rfl h
set_option maxRecDepth 20000 in
theorem zv29_2 {d : Nat} {M : zMem} {Q : Option zV → zMem → Prop} (x1 : Int) (x2 : Int) (h :
  ((x2 : Int) ≥ (M 42 4) →
    ((0 : Int) = 0 ∨ (0 : Int) = 1) ∧ Q (zI 0) M) ∧
  (¬ (x2 : Int) ≥ (M 42 4) →
    (0 : Int) ≤ x2 ∧ (x2 : Int) < 92 ∧ ((ziand x1 (zixor (M 46 x2.toNat) (-1)) : Int) ≠ 0 →
      zR32 (x2 + 1) ∧ zBg d 29 2 [zR 36, zI x1, zI (x2 + 1)] [] M Q) ∧
    (¬ (ziand x1 (zixor (M 46 x2.toNat) (-1)) : Int) ≠ 0 →
      ((1 : Int) = 0 ∨ (1 : Int) = 1) ∧ Q (zI 1) M))) : zBg d 29 2 [zR 36, zI x1, zI x2] [] M Q :=
  zvc_ok (I := zm29) (cuts := [(2, [true, true, true])]) (n := 28) rfl h
theorem zk29 {d : Nat} {M : zMem} {Q : Option zV → zMem → Prop} {x1 : Int} (h : zBg d 29 0 [zR 36, zI x1, none] [] M Q) : zCt d 29 [.inr (.inr 36), .inl x1] M Q := zCt_of (I := zm29) rfl rfl h
/-! CommaCopies$Laws.harms(III)Z , as 30 -/
set_option maxRecDepth 20000 in
theorem zv30_0 {d : Nat} {M : zMem} {Q : Option zV → zMem → Prop} (x1 : Int) (x2 : Int) (x3 : Int) (h :
  zR32 (31 * (M 42 8)) ∧ ((x1 : Int) ≠ 0 →
    ∃ Q1, zCi d 22 [.inr (.inr 36), .inl x2, .inl x3, .inl (31 * (M 42 8)), .inl 0] M Q1 ∧ ∀ v1 M1, Q1 v1 M1 →
    ((v1 : Int) < 0 →
      ((0 : Int) = 0 ∨ (0 : Int) = 1) ∧ Q (zI 0) M1) ∧
    (¬ (v1 : Int) < 0 →
      ((1 : Int) = 0 ∨ (1 : Int) = 1) ∧ Q (zI 1) M1)) ∧
  (¬ (x1 : Int) ≠ 0 →
    ∃ Q2, zCi d 20 [.inr (.inr 36), .inl x2, .inl x3, .inl (31 * (M 42 8))] M Q2 ∧ ∀ v2 M2, Q2 v2 M2 →
    ((v2 : Int) < 0 →
      ((0 : Int) = 0 ∨ (0 : Int) = 1) ∧ Q (zI 0) M2) ∧
    (¬ (v2 : Int) < 0 →
      ((1 : Int) = 0 ∨ (1 : Int) = 1) ∧ Q (zI 1) M2))) : zBg (d + 1) 30 0 [zR 36, zI x1, zI x2, zI x3, none] [] M Q :=
  zvc_ok (I := zm30) (cuts := []) (n := 34) rfl h
theorem zk30 {d : Nat} {M : zMem} {Q : Option zV → zMem → Prop} {x1 : Int} {x2 : Int} {x3 : Int} (h : zBg d 30 0 [zR 36, zI x1, zI x2, zI x3, none] [] M Q) : zCt d 30 [.inr (.inr 36), .inl x1, .inl x2, .inl x3] M Q := zCt_of (I := zm30) rfl rfl h
/-! CommaCopies$Letter.faultAt([BI)I , as 31 -/
set_option maxRecDepth 20000 in
theorem zv31_0 {d : Nat} {M : zMem} {Q : Option zV → zMem → Prop} (x1 : Int) (h :
  zBg d 31 10 [zR 3, zI x1, zI 0, zI (-1), zI 0, zI 0, none] [] M Q) : zBg d 31 0 [zR 3, zI x1, none, none, none, none, none] [] M Q :=
  zvc_ok (I := zm31) (cuts := [(10, [true, true, true, true, true, true, false])]) (n := 79) rfl h
set_option maxRecDepth 20000 in
theorem zv31_10 {d : Nat} {M : zMem} {Q : Option zV → zMem → Prop} (x1 : Int) (x2 : Int) (x3 : Int) (x4 : Int) (x5 : Int) (h :
  ((x5 : Int) ≥ x1 →
    ((x3 : Int) ≥ 0 →
      Q (zI x1) M) ∧
    (¬ (x3 : Int) ≥ 0 →
      ((x1 : Int) ≠ 0 →
        Q (zI (-1)) M) ∧
      (¬ (x1 : Int) ≠ 0 →
        Q (zI x1) M))) ∧
  (¬ (x5 : Int) ≥ x1 →
    (0 : Int) ≤ x5 ∧ (x5 : Int) < 120 ∧ ((M 3 x5.toNat : Int) ≠ 91 →
      ((M 3 x5.toNat : Int) ≠ 47 →
        ((M 3 x5.toNat : Int) ≠ 93 →
          ((x3 : Int) < 0 →
            zR32 (x5 + 1) ∧ zBg d 31 10 [zR 3, zI x1, zI x2, zI x3, zI x4, zI (x5 + 1), none] [] M Q) ∧
          (¬ (x3 : Int) < 0 →
            ((x4 : Int) ≠ 8 →
              zR32 (x4 + 1) ∧ zR32 (x5 + 1) ∧ zBg d 31 10 [zR 3, zI x1, zI x2, zI x3, zI (x4 + 1), zI (x5 + 1), none] [] M Q) ∧
            (¬ (x4 : Int) ≠ 8 →
              Q (zI x5) M))) ∧
        (¬ (M 3 x5.toNat : Int) ≠ 93 →
          ((x3 : Int) ≥ 1 →
            zR32 (x5 + 1) ∧ zBg d 31 10 [zR 3, zI x1, zI x2, zI (-1), zI x4, zI (x5 + 1), none] [] M Q) ∧
          (¬ (x3 : Int) ≥ 1 →
            Q (zI x5) M))) ∧
      (¬ (M 3 x5.toNat : Int) ≠ 47 →
        ((x3 : Int) < 0 →
          Q (zI x5) M) ∧
        (¬ (x3 : Int) < 0 →
          ((x3 : Int) ≠ 3 →
            zR32 (x3 + 1) ∧ zR32 (x5 + 1) ∧ zBg d 31 10 [zR 3, zI x1, zI x2, zI (x3 + 1), zI 0, zI (x5 + 1), none] [] M Q) ∧
          (¬ (x3 : Int) ≠ 3 →
            Q (zI x5) M)))) ∧
    (¬ (M 3 x5.toNat : Int) ≠ 91 →
      ((x3 : Int) ≥ 0 →
        Q (zI x5) M) ∧
      (¬ (x3 : Int) ≥ 0 →
        ((x2 : Int) ≠ 6 →
          zR32 (x2 + 1) ∧ zR32 (x5 + 1) ∧ zBg d 31 10 [zR 3, zI x1, zI (x2 + 1), zI 0, zI 0, zI (x5 + 1), none] [] M Q) ∧
        (¬ (x2 : Int) ≠ 6 →
          Q (zI x5) M))))) : zBg d 31 10 [zR 3, zI x1, zI x2, zI x3, zI x4, zI x5, none] [] M Q :=
  zvc_ok (I := zm31) (cuts := [(10, [true, true, true, true, true, true, false])]) (n := 79) rfl h
theorem zk31 {d : Nat} {M : zMem} {Q : Option zV → zMem → Prop} {x1 : Int} (h : zBg d 31 0 [zR 3, zI x1, none, none, none, none, none] [] M Q) : zCt d 31 [.inr (.inr 3), .inl x1] M Q := zCt_of (I := zm31) rfl rfl h
/-! CommaCopies$Letter.read([BI)V , as 32 -/
set_option maxRecDepth 20000 in
theorem zv32_0 {d : Nat} {M : zMem} {Q : Option zV → zMem → Prop} (x2 : Int) (h :
  ((1 : Int) = 0 ∨ (1 : Int) = 1) ∧ (0 : Int) ≤ 0 ∧ (0 : Int) ≤ 0 ∧ (0 : Int) ≤ x2 ∧ (0 : Int) + x2 ≤ 120 ∧ (0 : Int) + x2 ≤ 120 ∧ zBg d 32 31 [zR 13, zR 3, zI x2, zI 0, zI 0, none] [] (zcpy (zup (zup (zup M 13 4 1) 13 6 0) 13 5 x2) 3 0 14 0 x2.toNat) Q) : zBg d 32 0 [zR 13, zR 3, zI x2, none, none, none] [] M Q :=
  zvc_ok (I := zm32) (cuts := [(31, [true, true, true, true, true, false])]) (n := 95) rfl h
set_option maxRecDepth 20000 in
theorem zv32_31 {d : Nat} {M : zMem} {Q : Option zV → zMem → Prop} (x2 : Int) (x3 : Int) (x4 : Int) (h :
  ((x4 : Int) ≥ x2 →
    Q none M) ∧
  (¬ (x4 : Int) ≥ x2 →
    (0 : Int) ≤ x4 ∧ (x4 : Int) < 120 ∧ ((M 3 x4.toNat : Int) ≠ 91 →
      ((M 3 x4.toNat : Int) ≠ 47 →
        ((M 3 x4.toNat : Int) ≠ 93 →
          zR32 (x4 + 1) ∧ zBg d 32 31 [zR 13, zR 3, zI x2, zI x3, zI (x4 + 1), none] [] M Q) ∧
        (¬ (M 3 x4.toNat : Int) ≠ 93 →
          (0 : Int) ≤ x3 ∧ (x3 : Int) < 24 ∧ zR32 ((M 13 6) * 4) ∧ zR32 (x3 - ((M 13 6) * 4)) ∧ zR32 ((x3 - ((M 13 6) * 4)) + 1) ∧ (0 : Int) ≤ (M 13 6) ∧ (M 13 6 : Int) < 6 ∧ zR32 ((M 13 6) + 1) ∧ zR32 (x4 + 1) ∧ zBg d 32 31 [zR 13, zR 3, zI x2, zI x3, zI (x4 + 1), none] [] (zup (zup (zup M 17 x3.toNat x4) 15 ((M 13 6).toNat) ((x3 - ((M 13 6) * 4)) + 1)) 13 6 ((M 13 6) + 1)) Q)) ∧
      (¬ (M 3 x4.toNat : Int) ≠ 47 →
        (0 : Int) ≤ x3 ∧ (x3 : Int) < 24 ∧ zR32 (x3 + 1) ∧ zR32 (x4 + 1) ∧ (0 : Int) ≤ (x3 + 1) ∧ (x3 + 1 : Int) < 24 ∧ zR32 (x4 + 1) ∧ zBg d 32 31 [zR 13, zR 3, zI x2, zI (x3 + 1), zI (x4 + 1), none] [] (zup (zup M 17 x3.toNat x4) 16 ((x3 + 1).toNat) (x4 + 1)) Q)) ∧
    (¬ (M 3 x4.toNat : Int) ≠ 91 →
      zR32 ((M 13 6) * 4) ∧ zR32 (x4 + 1) ∧ (0 : Int) ≤ ((M 13 6) * 4) ∧ ((M 13 6) * 4 : Int) < 24 ∧ zR32 (x4 + 1) ∧ zBg d 32 31 [zR 13, zR 3, zI x2, zI ((M 13 6) * 4), zI (x4 + 1), none] [] (zup M 16 (((M 13 6) * 4).toNat) (x4 + 1)) Q))) : zBg d 32 31 [zR 13, zR 3, zI x2, zI x3, zI x4, none] [] M Q :=
  zvc_ok (I := zm32) (cuts := [(31, [true, true, true, true, true, false])]) (n := 95) rfl h
theorem zk32 {d : Nat} {M : zMem} {Q : Option zV → zMem → Prop} {x2 : Int} (h : zBg d 32 0 [zR 13, zR 3, zI x2, none, none, none] [] M Q) : zCt d 32 [.inr (.inr 13), .inr (.inr 3), .inl x2] M Q := zCt_of (I := zm32) rfl rfl h
/-! CommaCopies$Letter.takeFrom(LCommaCopies$Letter;)V a, as 33 -/
set_option maxRecDepth 20000 in
theorem zv33a_0 {d : Nat} {M : zMem} {Q : Option zV → zMem → Prop} (h :
  (0 : Int) ≤ 0 ∧ (0 : Int) ≤ 0 ∧ (0 : Int) ≤ 120 ∧ (0 : Int) + 120 ≤ 120 ∧ (0 : Int) + 120 ≤ 120 ∧ (0 : Int) ≤ 0 ∧ (0 : Int) ≤ 0 ∧ (0 : Int) ≤ 6 ∧ (0 : Int) + 6 ≤ 6 ∧ (0 : Int) + 6 ≤ 6 ∧ (0 : Int) ≤ 0 ∧ (0 : Int) ≤ 0 ∧ (0 : Int) ≤ 24 ∧ (0 : Int) + 24 ≤ 24 ∧ (0 : Int) + 24 ≤ 24 ∧ (0 : Int) ≤ 0 ∧ (0 : Int) ≤ 0 ∧ (0 : Int) ≤ 24 ∧ (0 : Int) + 24 ≤ 24 ∧ (0 : Int) + 24 ≤ 24 ∧ ((M 27 4 : Int) = 0 ∨ (M 27 4 : Int) = 1) ∧ Q none (zup (zup (zup (zcpy (zcpy (zcpy (zcpy M 28 0 14 0 120) 29 0 15 0 6) 30 0 16 0 24) 31 0 17 0 24) 13 4 (M 27 4)) 13 5 (M 27 5)) 13 6 (M 27 6))) : zBg d 33 0 [zR 13, zR 27] [] M Q :=
  zvc_ok (I := zm33) (cuts := []) (n := 50) rfl h
theorem zk33a {d : Nat} {M : zMem} {Q : Option zV → zMem → Prop} (h : zBg d 33 0 [zR 13, zR 27] [] M Q) : zCt d 33 [.inr (.inr 13), .inr (.inr 27)] M Q := zCt_of (I := zm33) rfl rfl h
/-! CommaCopies$Letter.takeFrom(LCommaCopies$Letter;)V b, as 33 -/
set_option maxRecDepth 20000 in
theorem zv33b_0 {d : Nat} {M : zMem} {Q : Option zV → zMem → Prop} (h :
  (0 : Int) ≤ 0 ∧ (0 : Int) ≤ 0 ∧ (0 : Int) ≤ 120 ∧ (0 : Int) + 120 ≤ 120 ∧ (0 : Int) + 120 ≤ 120 ∧ (0 : Int) ≤ 0 ∧ (0 : Int) ≤ 0 ∧ (0 : Int) ≤ 6 ∧ (0 : Int) + 6 ≤ 6 ∧ (0 : Int) + 6 ≤ 6 ∧ (0 : Int) ≤ 0 ∧ (0 : Int) ≤ 0 ∧ (0 : Int) ≤ 24 ∧ (0 : Int) + 24 ≤ 24 ∧ (0 : Int) + 24 ≤ 24 ∧ (0 : Int) ≤ 0 ∧ (0 : Int) ≤ 0 ∧ (0 : Int) ≤ 24 ∧ (0 : Int) + 24 ≤ 24 ∧ (0 : Int) + 24 ≤ 24 ∧ ((M 13 4 : Int) = 0 ∨ (M 13 4 : Int) = 1) ∧ Q none (zup (zup (zup (zcpy (zcpy (zcpy (zcpy M 14 0 28 0 120) 15 0 29 0 6) 16 0 30 0 24) 17 0 31 0 24) 27 4 (M 13 4)) 27 5 (M 13 5)) 27 6 (M 13 6))) : zBg d 33 0 [zR 27, zR 13] [] M Q :=
  zvc_ok (I := zm33) (cuts := []) (n := 50) rfl h
theorem zk33b {d : Nat} {M : zMem} {Q : Option zV → zMem → Prop} (h : zBg d 33 0 [zR 27, zR 13] [] M Q) : zCt d 33 [.inr (.inr 27), .inr (.inr 13)] M Q := zCt_of (I := zm33) rfl rfl h
/-! CommaCopies$Letter.isPlace(I)Z , as 34 -/
set_option maxRecDepth 20000 in
theorem zv34_0 {d : Nat} {M : zMem} {Q : Option zV → zMem → Prop} (x1 : Int) (h :
  ((x1 : Int) < 0 →
    ((0 : Int) = 0 ∨ (0 : Int) = 1) ∧ Q (zI 0) M) ∧
  (¬ (x1 : Int) < 0 →
    ((x1 : Int) ≥ (M 13 6) →
      ((0 : Int) = 0 ∨ (0 : Int) = 1) ∧ Q (zI 0) M) ∧
    (¬ (x1 : Int) ≥ (M 13 6) →
      ((1 : Int) = 0 ∨ (1 : Int) = 1) ∧ Q (zI 1) M))) : zBg d 34 0 [zR 13, zI x1] [] M Q :=
  zvc_ok (I := zm34) (cuts := []) (n := 15) rfl h
theorem zk34 {d : Nat} {M : zMem} {Q : Option zV → zMem → Prop} {x1 : Int} (h : zBg d 34 0 [zR 13, zI x1] [] M Q) : zCt d 34 [.inr (.inr 13), .inl x1] M Q := zCt_of (I := zm34) rfl rfl h
/-! CommaCopies$Letter.isChoice(II)Z , as 35 -/
set_option maxRecDepth 20000 in
theorem zv35_0 {d : Nat} {M : zMem} {Q : Option zV → zMem → Prop} (x1 : Int) (x2 : Int) (h :
  ∃ Q1, zCi d 34 [.inr (.inr 13), .inl x1] M Q1 ∧ ∀ v1 M1, Q1 v1 M1 →
  ((v1 : Int) = 0 →
    ((0 : Int) = 0 ∨ (0 : Int) = 1) ∧ Q (zI 0) M1) ∧
  (¬ (v1 : Int) = 0 →
    ((x2 : Int) < 0 →
      ((0 : Int) = 0 ∨ (0 : Int) = 1) ∧ Q (zI 0) M1) ∧
    (¬ (x2 : Int) < 0 →
      (0 : Int) ≤ x1 ∧ (x1 : Int) < 6 ∧ ((x2 : Int) ≥ (M1 15 x1.toNat) →
        ((0 : Int) = 0 ∨ (0 : Int) = 1) ∧ Q (zI 0) M1) ∧
      (¬ (x2 : Int) ≥ (M1 15 x1.toNat) →
        ((1 : Int) = 0 ∨ (1 : Int) = 1) ∧ Q (zI 1) M1)))) : zBg (d + 1) 35 0 [zR 13, zI x1, zI x2] [] M Q :=
  zvc_ok (I := zm35) (cuts := []) (n := 21) rfl h
theorem zk35 {d : Nat} {M : zMem} {Q : Option zV → zMem → Prop} {x1 : Int} {x2 : Int} (h : zBg d 35 0 [zR 13, zI x1, zI x2] [] M Q) : zCt d 35 [.inr (.inr 13), .inl x1, .inl x2] M Q := zCt_of (I := zm35) rfl rfl h
/-! CommaCopies$Letter.allPlaces()I , as 36 -/
set_option maxRecDepth 20000 in
theorem zv36_0 {d : Nat} {M : zMem} {Q : Option zV → zMem → Prop} (h :
  zR32 ((zishl 1 (M 13 6)) - 1) ∧ Q (zI ((zishl 1 (M 13 6)) - 1)) M) : zBg d 36 0 [zR 13] [] M Q :=
  zvc_ok (I := zm36) (cuts := []) (n := 12) rfl h
theorem zk36 {d : Nat} {M : zMem} {Q : Option zV → zMem → Prop} (h : zBg d 36 0 [zR 13] [] M Q) : zCt d 36 [.inr (.inr 13)] M Q := zCt_of (I := zm36) rfl rfl h
/-! CommaCopies$Letter.plainStart(I)I , as 37 -/
set_option maxRecDepth 20000 in
theorem zv37_0 {d : Nat} {M : zMem} {Q : Option zV → zMem → Prop} (x1 : Int) (h :
  ((x1 : Int) ≠ 0 →
    zR32 (x1 - 1) ∧ zR32 ((x1 - 1) * 4) ∧ zR32 (x1 - 1) ∧ (0 : Int) ≤ (x1 - 1) ∧ (x1 - 1 : Int) < 6 ∧ zR32 (((x1 - 1) * 4) + (M 15 ((x1 - 1).toNat))) ∧ zR32 ((((x1 - 1) * 4) + (M 15 ((x1 - 1).toNat))) - 1) ∧ (0 : Int) ≤ ((((x1 - 1) * 4) + (M 15 ((x1 - 1).toNat))) - 1) ∧ ((((x1 - 1) * 4) + (M 15 ((x1 - 1).toNat))) - 1 : Int) < 24 ∧ zR32 ((M 17 (((((x1 - 1) * 4) + (M 15 ((x1 - 1).toNat))) - 1).toNat)) + 1) ∧ Q (zI ((M 17 (((((x1 - 1) * 4) + (M 15 ((x1 - 1).toNat))) - 1).toNat)) + 1)) M) ∧
  (¬ (x1 : Int) ≠ 0 →
    Q (zI 0) M)) : zBg d 37 0 [zR 13, zI x1, none] [] M Q :=
  zvc_ok (I := zm37) (cuts := []) (n := 31) rfl h
theorem zk37 {d : Nat} {M : zMem} {Q : Option zV → zMem → Prop} {x1 : Int} (h : zBg d 37 0 [zR 13, zI x1, none] [] M Q) : zCt d 37 [.inr (.inr 13), .inl x1] M Q := zCt_of (I := zm37) rfl rfl h
/-! CommaCopies$Letter.plainEnd(I)I , as 38 -/
set_option maxRecDepth 20000 in
theorem zv38_0 {d : Nat} {M : zMem} {Q : Option zV → zMem → Prop} (x1 : Int) (h :
  ((x1 : Int) ≥ (M 13 6) →
    Q (zI (M 13 5)) M) ∧
  (¬ (x1 : Int) ≥ (M 13 6) →
    zR32 (x1 * 4) ∧ (0 : Int) ≤ (x1 * 4) ∧ (x1 * 4 : Int) < 24 ∧ zR32 ((M 16 ((x1 * 4).toNat)) - 1) ∧ Q (zI ((M 16 ((x1 * 4).toNat)) - 1)) M)) : zBg d 38 0 [zR 13, zI x1] [] M Q :=
  zvc_ok (I := zm38) (cuts := []) (n := 21) rfl h
theorem zk38 {d : Nat} {M : zMem} {Q : Option zV → zMem → Prop} {x1 : Int} (h : zBg d 38 0 [zR 13, zI x1] [] M Q) : zCt d 38 [.inr (.inr 13), .inl x1] M Q := zCt_of (I := zm38) rfl rfl h
