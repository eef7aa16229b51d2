/-! CommaCopies$Letter.byteAt([III)I , as 39 -/
set_option maxRecDepth 20000 in
theorem zv39_0 {d : Nat} {M : zMem} {Q : Option zV → zMem → Prop} (x2 : Int) (x3 : Int) (h :
  zBg d 39 6 [zR 13, zR 7, zI x2, none, zI x3, zI 0, none, none, none] [] M Q) : zBg d 39 0 [zR 13, zR 7, zI x2, zI x3, none, none, none, none, none] [] M Q :=
  zvc_ok (I := zm39) (cuts := [(6, [true, true, true, false, true, true, false, false, false])]) (n := 82) rfl h
set_option maxRecDepth 20000 in
theorem zv39_6 {d : Nat} {M : zMem} {Q : Option zV → zMem → Prop} (x2 : Int) (x4 : Int) (x5 : Int) (h :
  ((x5 : Int) > (M 13 6) →
    Q (zI (-4)) M) ∧
  (¬ (x5 : Int) > (M 13 6) →
    ∃ Q1, zCi d 37 [.inr (.inr 13), .inl x5] M Q1 ∧ ∀ v1 M1, Q1 v1 M1 →
    ∃ Q2, zCi d 38 [.inr (.inr 13), .inl x5] M1 Q2 ∧ ∀ v2 M2, Q2 v2 M2 →
    zR32 (v2 - v1) ∧ ((x4 : Int) ≥ (v2 - v1) →
      zR32 (x4 - (v2 - v1)) ∧ ((x5 : Int) ≥ (M2 13 6) →
        zR32 (x5 + 1) ∧ zBg (d + 1) 39 6 [zR 13, zR 7, zI x2, none, zI (x4 - (v2 - v1)), zI (x5 + 1), none, none, none] [] M2 Q) ∧
      (¬ (x5 : Int) ≥ (M2 13 6) →
        zR32 (x5 * 4) ∧ zR32 (x2 + x5) ∧ (0 : Int) ≤ (x2 + x5) ∧ (x2 + x5 : Int) < 48 ∧ zR32 ((x5 * 4) + (M2 7 ((x2 + x5).toNat))) ∧ (0 : Int) ≤ ((x5 * 4) + (M2 7 ((x2 + x5).toNat))) ∧ ((x5 * 4) + (M2 7 ((x2 + x5).toNat)) : Int) < 24 ∧ (0 : Int) ≤ ((x5 * 4) + (M2 7 ((x2 + x5).toNat))) ∧ ((x5 * 4) + (M2 7 ((x2 + x5).toNat)) : Int) < 24 ∧ zR32 ((M2 17 (((x5 * 4) + (M2 7 ((x2 + x5).toNat))).toNat)) - (M2 16 (((x5 * 4) + (M2 7 ((x2 + x5).toNat))).toNat))) ∧ ((x4 - (v2 - v1) : Int) ≥ ((M2 17 (((x5 * 4) + (M2 7 ((x2 + x5).toNat))).toNat)) - (M2 16 (((x5 * 4) + (M2 7 ((x2 + x5).toNat))).toNat))) →
          zR32 ((x4 - (v2 - v1)) - ((M2 17 (((x5 * 4) + (M2 7 ((x2 + x5).toNat))).toNat)) - (M2 16 (((x5 * 4) + (M2 7 ((x2 + x5).toNat))).toNat)))) ∧ zR32 (x5 + 1) ∧ zBg (d + 1) 39 6 [zR 13, zR 7, zI x2, none, zI ((x4 - (v2 - v1)) - ((M2 17 (((x5 * 4) + (M2 7 ((x2 + x5).toNat))).toNat)) - (M2 16 (((x5 * 4) + (M2 7 ((x2 + x5).toNat))).toNat)))), zI (x5 + 1), none, none, none] [] M2 Q) ∧
        (¬ (x4 - (v2 - v1) : Int) ≥ ((M2 17 (((x5 * 4) + (M2 7 ((x2 + x5).toNat))).toNat)) - (M2 16 (((x5 * 4) + (M2 7 ((x2 + x5).toNat))).toNat))) →
          (0 : Int) ≤ ((x5 * 4) + (M2 7 ((x2 + x5).toNat))) ∧ ((x5 * 4) + (M2 7 ((x2 + x5).toNat)) : Int) < 24 ∧ zR32 ((M2 16 (((x5 * 4) + (M2 7 ((x2 + x5).toNat))).toNat)) + (x4 - (v2 - v1))) ∧ (0 : Int) ≤ ((M2 16 (((x5 * 4) + (M2 7 ((x2 + x5).toNat))).toNat)) + (x4 - (v2 - v1))) ∧ ((M2 16 (((x5 * 4) + (M2 7 ((x2 + x5).toNat))).toNat)) + (x4 - (v2 - v1)) : Int) < 120 ∧ Q (zI (M2 14 (((M2 16 (((x5 * 4) + (M2 7 ((x2 + x5).toNat))).toNat)) + (x4 - (v2 - v1))).toNat))) M2))) ∧
    (¬ (x4 : Int) ≥ (v2 - v1) →
      zR32 (v1 + x4) ∧ (0 : Int) ≤ (v1 + x4) ∧ (v1 + x4 : Int) < 120 ∧ Q (zI (M2 14 ((v1 + x4).toNat))) M2))) : zBg (d + 1) 39 6 [zR 13, zR 7, zI x2, none, zI x4, zI x5, none, none, none] [] M Q :=
  zvc_ok (I := zm39) (cuts := [(6, [true, true, true, false, true, true, false, false, false])]) (n := 82) rfl h
theorem zk39 {d : Nat} {M : zMem} {Q : Option zV → zMem → Prop} {x2 : Int} {x3 : Int} (h : zBg d 39 0 [zR 13, zR 7, zI x2, zI x3, none, none, none, none, none] [] M Q) : zCt d 39 [.inr (.inr 13), .inr (.inr 7), .inl x2, .inl x3] M Q := zCt_of (I := zm39) rfl rfl h
/-! CommaCopies$Letter.countRows()I , as 40 -/
set_option maxRecDepth 20000 in
theorem zv40_0 {d : Nat} {M : zMem} {Q : Option zV → zMem → Prop} (h :
  zBg d 40 4 [zR 13, zI 1, zI 0] [] M Q) : zBg d 40 0 [zR 13, none, none] [] M Q :=
  zvc_ok (I := zm40) (cuts := [(4, [true, true, true])]) (n := 24) rfl h
set_option maxRecDepth 20000 in
theorem zv40_4 {d : Nat} {M : zMem} {Q : Option zV → zMem → Prop} (x1 : Int) (x2 : Int) (h :
  ((x2 : Int) ≥ (M 13 6) →
    Q (zI x1) M) ∧
  (¬ (x2 : Int) ≥ (M 13 6) →
    (0 : Int) ≤ x2 ∧ (x2 : Int) < 6 ∧ zR32 (x1 * (M 15 x2.toNat)) ∧ zR32 (x2 + 1) ∧ zBg d 40 4 [zR 13, zI (x1 * (M 15 x2.toNat)), zI (x2 + 1)] [] M Q)) : zBg d 40 4 [zR 13, zI x1, zI x2] [] M Q :=
  zvc_ok (I := zm40) (cuts := [(4, [true, true, true])]) (n := 24) rfl h
theorem zk40 {d : Nat} {M : zMem} {Q : Option zV → zMem → Prop} (h : zBg d 40 0 [zR 13, none, none] [] M Q) : zCt d 40 [.inr (.inr 13)] M Q := zCt_of (I := zm40) rfl rfl h
/-! CommaCopies$Letter.rowAt(I[I)V , as 41 -/
set_option maxRecDepth 20000 in
theorem zv41_0 {d : Nat} {M : zMem} {Q : Option zV → zMem → Prop} (x1 : Int) (h :
  zR32 ((M 13 6) - 1) ∧ zBg d 41 10 [zR 13, none, zR 1, zI x1, zI ((M 13 6) - 1), none] [] M Q) : zBg d 41 0 [zR 13, zI x1, zR 1, none, none, none] [] M Q :=
  zvc_ok (I := zm41) (cuts := [(10, [true, false, true, true, true, false])]) (n := 34) rfl h
set_option maxRecDepth 20000 in
theorem zv41_10 {d : Nat} {M : zMem} {Q : Option zV → zMem → Prop} (x3 : Int) (x4 : Int) (h :
  ((x4 : Int) < 0 →
    Q none M) ∧
  (¬ (x4 : Int) < 0 →
    (0 : Int) ≤ x4 ∧ (x4 : Int) < 6 ∧ (if 1 < (M 15 x4.toNat) then (M 15 x4.toNat) else 1 : Int) ≠ 0 ∧ (0 : Int) ≤ x4 ∧ (x4 : Int) < 6 ∧ (if 1 < (M 15 x4.toNat) then (M 15 x4.toNat) else 1 : Int) ≠ 0 ∧ zR32 (x4 + (-1)) ∧ zBg d 41 10 [zR 13, none, zR 1, zI (zidiv x3 (if 1 < (M 15 x4.toNat) then (M 15 x4.toNat) else 1)), zI (x4 + (-1)), none] [] (zup M 1 x4.toNat (zirem x3 (if 1 < (M 15 x4.toNat) then (M 15 x4.toNat) else 1))) Q)) : zBg d 41 10 [zR 13, none, zR 1, zI x3, zI x4, none] [] M Q :=
  zvc_ok (I := zm41) (cuts := [(10, [true, false, true, true, true, false])]) (n := 34) rfl h
theorem zk41 {d : Nat} {M : zMem} {Q : Option zV → zMem → Prop} {x1 : Int} (h : zBg d 41 0 [zR 13, zI x1, zR 1, none, none, none] [] M Q) : zCt d 41 [.inr (.inr 13), .inl x1, .inr (.inr 1)] M Q := zCt_of (I := zm41) rfl rfl h
/-! CommaCopies$Matcher.match(LCommaCopies$Letter;[BI[I)Z , as 42 -/
set_option maxRecDepth 20000 in
theorem zv42_0 {d : Nat} {M : zMem} {Q : Option zV → zMem → Prop} (x3 : Int) (h :
  zBg d 42 6 [zR 47, zR 13, zR 3, zI x3, zR 8, zI (M 13 6), none, none] [] M Q) : zBg d 42 0 [zR 47, zR 13, zR 3, zI x3, zR 8, none, none, none] [] M Q :=
  zvc_ok (I := zm42) (cuts := [(6, [true, true, true, true, true, true, false, false]), (14, [true, true, true, true, true, true, true, false]), (73, [true, true, false, false, true, true, true, false])]) (n := 81) rfl h
set_option maxRecDepth 20000 in
theorem zv42_6 {d : Nat} {M : zMem} {Q : Option zV → zMem → Prop} (x3 : Int) (x5 : Int) (h :
  ((x5 : Int) < 0 →
    (0 : Int) ≤ 0 ∧ (0 : Int) < 847 ∧ ((M 48 0 : Int) ≥ 0 →
      zBg d 42 73 [zR 47, zR 13, none, none, zR 8, zI 0, zI 0, none] [] M Q) ∧
    (¬ (M 48 0 : Int) ≥ 0 →
      ((0 : Int) = 0 ∨ (0 : Int) = 1) ∧ Q (zI 0) M)) ∧
  (¬ (x5 : Int) < 0 →
    zBg d 42 14 [zR 47, zR 13, zR 3, zI x3, zR 8, zI x5, zI 0, none] [] M Q)) : zBg d 42 6 [zR 47, zR 13, zR 3, zI x3, zR 8, zI x5, none, none] [] M Q :=
  zvc_ok (I := zm42) (cuts := [(6, [true, true, true, true, true, true, false, false]), (14, [true, true, true, true, true, true, true, false]), (73, [true, true, false, false, true, true, true, false])]) (n := 81) rfl h
set_option maxRecDepth 20000 in
theorem zv42_73 {d : Nat} {M : zMem} {Q : Option zV → zMem → Prop} (x5 : Int) (x6 : Int) (h :
  ((x6 : Int) ≥ (M 13 6) →
    ((1 : Int) = 0 ∨ (1 : Int) = 1) ∧ Q (zI 1) M) ∧
  (¬ (x6 : Int) ≥ (M 13 6) →
    zR32 (x6 * 121) ∧ zR32 ((x6 * 121) + x5) ∧ (0 : Int) ≤ ((x6 * 121) + x5) ∧ ((x6 * 121) + x5 : Int) < 847 ∧ (0 : Int) ≤ x6 ∧ (x6 : Int) < 6 ∧ ∃ Q1, zCi d 38 [.inr (.inr 13), .inl x6] (zup M 8 x6.toNat (M 48 (((x6 * 121) + x5).toNat))) Q1 ∧ ∀ v1 M1, Q1 v1 M1 →
    ∃ Q2, zCi d 37 [.inr (.inr 13), .inl x6] M1 Q2 ∧ ∀ v2 M2, Q2 v2 M2 →
    zR32 (v1 - v2) ∧ ∃ Q3, zCi d 44 [.inr (.inr 13), .inl x6, .inl (M 48 (((x6 * 121) + x5).toNat))] M2 Q3 ∧ ∀ v3 M3, Q3 v3 M3 →
    zR32 ((v1 - v2) + v3) ∧ zR32 (x5 + ((v1 - v2) + v3)) ∧ zR32 (x6 + 1) ∧ zBg (d + 1) 42 73 [zR 47, zR 13, none, none, zR 8, zI (x5 + ((v1 - v2) + v3)), zI (x6 + 1), none] [] M3 Q)) : zBg (d + 1) 42 73 [zR 47, zR 13, none, none, zR 8, zI x5, zI x6, none] [] M Q :=
  zvc_ok (I := zm42) (cuts := [(6, [true, true, true, true, true, true, false, false]), (14, [true, true, true, true, true, true, true, false]), (73, [true, true, false, false, true, true, true, false])]) (n := 81) rfl h
set_option maxRecDepth 20000 in
theorem zv42_14 {d : Nat} {M : zMem} {Q : Option zV → zMem → Prop} (x3 : Int) (x5 : Int) (x6 : Int) (h :
  ((x6 : Int) > x3 →
    zR32 (x5 + (-1)) ∧ zBg (d + 1) 42 6 [zR 47, zR 13, zR 3, zI x3, zR 8, zI (x5 + (-1)), none, none] [] M Q) ∧
  (¬ (x6 : Int) > x3 →
    zR32 (x5 * 121) ∧ zR32 ((x5 * 121) + x6) ∧ ∃ Q1, zCi d 43 [.inr (.inr 47), .inr (.inr 13), .inl x5, .inr (.inr 3), .inl x3, .inl x6] M Q1 ∧ ∀ v1 M1, Q1 v1 M1 →
    (0 : Int) ≤ ((x5 * 121) + x6) ∧ ((x5 * 121) + x6 : Int) < 847 ∧ zR32 (x6 + 1) ∧ zBg (d + 1) 42 14 [zR 47, zR 13, zR 3, zI x3, zR 8, zI x5, zI (x6 + 1), none] [] (zup M1 48 (((x5 * 121) + x6).toNat) v1) Q)) : zBg (d + 1) 42 14 [zR 47, zR 13, zR 3, zI x3, zR 8, zI x5, zI x6, none] [] M Q :=
  zvc_ok (I := zm42) (cuts := [(6, [true, true, true, true, true, true, false, false]), (14, [true, true, true, true, true, true, true, false]), (73, [true, true, false, false, true, true, true, false])]) (n := 81) rfl h
theorem zk42 {d : Nat} {M : zMem} {Q : Option zV → zMem → Prop} {x3 : Int} (h : zBg d 42 0 [zR 47, zR 13, zR 3, zI x3, zR 8, none, none, none] [] M Q) : zCt d 42 [.inr (.inr 47), .inr (.inr 13), .inr (.inr 3), .inl x3, .inr (.inr 8)] M Q := zCt_of (I := zm42) rfl rfl h
/-! CommaCopies$Matcher.pick(LCommaCopies$Letter;I[BII)I , as 43 -/
set_option maxRecDepth 20000 in
theorem zv43_0 {d : Nat} {M : zMem} {Q : Option zV → zMem → Prop} (x2 : Int) (x4 : Int) (x5 : Int) (h :
  ∃ Q1, zCi d 37 [.inr (.inr 13), .inl x2] M Q1 ∧ ∀ v1 M1, Q1 v1 M1 →
  ∃ Q2, zCi d 38 [.inr (.inr 13), .inl x2] M1 Q2 ∧ ∀ v2 M2, Q2 v2 M2 →
  ∃ Q3, zCi d 45 [.inr (.inr 13), .inl v1, .inl v2, .inr (.inr 3), .inl x4, .inl x5] M2 Q3 ∧ ∀ v3 M3, Q3 v3 M3 →
  ((v3 : Int) ≠ 0 →
    zR32 (x5 + v2) ∧ zR32 ((x5 + v2) - v1) ∧ ((x2 : Int) ≠ (M3 13 6) →
      zBg (d + 1) 43 66 [zR 47, zR 13, zI x2, zR 3, zI x4, none, none, none, zI ((x5 + v2) - v1), zI 0, none] [] M3 Q) ∧
    (¬ (x2 : Int) ≠ (M3 13 6) →
      (((x5 + v2) - v1 : Int) ≠ x4 →
        Q (zI (-1)) M3) ∧
      (¬ ((x5 + v2) - v1 : Int) ≠ x4 →
        Q (zI 0) M3))) ∧
  (¬ (v3 : Int) ≠ 0 →
    Q (zI (-1)) M3)) : zBg (d + 1) 43 0 [zR 47, zR 13, zI x2, zR 3, zI x4, zI x5, none, none, none, none, none] [] M Q :=
  zvc_ok (I := zm43) (cuts := [(66, [true, true, true, true, true, false, false, false, true, true, false])]) (n := 103) rfl h
set_option maxRecDepth 20000 in
theorem zv43_66 {d : Nat} {M : zMem} {Q : Option zV → zMem → Prop} (x2 : Int) (x4 : Int) (x8 : Int) (x9 : Int) (h :
  (0 : Int) ≤ x2 ∧ (x2 : Int) < 6 ∧ ((x9 : Int) ≥ (M 15 x2.toNat) →
    zR32 (x2 + 1) ∧ zR32 ((x2 + 1) * 121) ∧ zR32 (((x2 + 1) * 121) + x8) ∧ (0 : Int) ≤ (((x2 + 1) * 121) + x8) ∧ (((x2 + 1) * 121) + x8 : Int) < 847 ∧ ((M 48 ((((x2 + 1) * 121) + x8).toNat) : Int) < 0 →
      Q (zI (-1)) M) ∧
    (¬ (M 48 ((((x2 + 1) * 121) + x8).toNat) : Int) < 0 →
      Q (zI 4) M)) ∧
  (¬ (x9 : Int) ≥ (M 15 x2.toNat) →
    zR32 (x2 * 4) ∧ zR32 ((x2 * 4) + x9) ∧ (0 : Int) ≤ ((x2 * 4) + x9) ∧ ((x2 * 4) + x9 : Int) < 24 ∧ (0 : Int) ≤ ((x2 * 4) + x9) ∧ ((x2 * 4) + x9 : Int) < 24 ∧ ∃ Q1, zCi d 45 [.inr (.inr 13), .inl (M 16 (((x2 * 4) + x9).toNat)), .inl (M 17 (((x2 * 4) + x9).toNat)), .inr (.inr 3), .inl x4, .inl x8] M Q1 ∧ ∀ v1 M1, Q1 v1 M1 →
    ((v1 : Int) = 0 →
      zR32 (x9 + 1) ∧ zBg (d + 1) 43 66 [zR 47, zR 13, zI x2, zR 3, zI x4, none, none, none, zI x8, zI (x9 + 1), none] [] M1 Q) ∧
    (¬ (v1 : Int) = 0 →
      zR32 (x2 + 1) ∧ zR32 ((x2 + 1) * 121) ∧ zR32 (((x2 + 1) * 121) + x8) ∧ ∃ Q2, zCi d 44 [.inr (.inr 13), .inl x2, .inl x9] M1 Q2 ∧ ∀ v2 M2, Q2 v2 M2 →
      zR32 ((((x2 + 1) * 121) + x8) + v2) ∧ (0 : Int) ≤ ((((x2 + 1) * 121) + x8) + v2) ∧ ((((x2 + 1) * 121) + x8) + v2 : Int) < 847 ∧ ((M2 48 (((((x2 + 1) * 121) + x8) + v2).toNat) : Int) < 0 →
        zR32 (x9 + 1) ∧ zBg (d + 1) 43 66 [zR 47, zR 13, zI x2, zR 3, zI x4, none, none, none, zI x8, zI (x9 + 1), none] [] M2 Q) ∧
      (¬ (M2 48 (((((x2 + 1) * 121) + x8) + v2).toNat) : Int) < 0 →
        Q (zI x9) M2)))) : zBg (d + 1) 43 66 [zR 47, zR 13, zI x2, zR 3, zI x4, none, none, none, zI x8, zI x9, none] [] M Q :=
  zvc_ok (I := zm43) (cuts := [(66, [true, true, true, true, true, false, false, false, true, true, false])]) (n := 103) rfl h
theorem zk43 {d : Nat} {M : zMem} {Q : Option zV → zMem → Prop} {x2 : Int} {x4 : Int} {x5 : Int} (h : zBg d 43 0 [zR 47, zR 13, zI x2, zR 3, zI x4, zI x5, none, none, none, none, none] [] M Q) : zCt d 43 [.inr (.inr 47), .inr (.inr 13), .inl x2, .inr (.inr 3), .inl x4, .inl x5] M Q := zCt_of (I := zm43) rfl rfl h
/-! CommaCopies$Matcher.sizeOf(LCommaCopies$Letter;II)I , as 44 -/
set_option maxRecDepth 20000 in
theorem zv44_0 {d : Nat} {M : zMem} {Q : Option zV → zMem → Prop} (x1 : Int) (x2 : Int) (h :
  ((x2 : Int) ≠ 4 →
    zR32 (x1 * 4) ∧ zR32 ((x1 * 4) + x2) ∧ (0 : Int) ≤ ((x1 * 4) + x2) ∧ ((x1 * 4) + x2 : Int) < 24 ∧ (0 : Int) ≤ ((x1 * 4) + x2) ∧ ((x1 * 4) + x2 : Int) < 24 ∧ zR32 ((M 17 (((x1 * 4) + x2).toNat)) - (M 16 (((x1 * 4) + x2).toNat))) ∧ Q (zI ((M 17 (((x1 * 4) + x2).toNat)) - (M 16 (((x1 * 4) + x2).toNat)))) M) ∧
  (¬ (x2 : Int) ≠ 4 →
    Q (zI 0) M)) : zBg d 44 0 [zR 13, zI x1, zI x2, none] [] M Q :=
  zvc_ok (I := zm44) (cuts := []) (n := 26) rfl h
theorem zk44 {d : Nat} {M : zMem} {Q : Option zV → zMem → Prop} {x1 : Int} {x2 : Int} (h : zBg d 44 0 [zR 13, zI x1, zI x2, none] [] M Q) : zCt d 44 [.inr (.inr 13), .inl x1, .inl x2] M Q := zCt_of (I := zm44) rfl rfl h
/-! CommaCopies$Matcher.stands(LCommaCopies$Letter;II[BII)Z , as 45 -/
set_option maxRecDepth 20000 in
theorem zv45_0 {d : Nat} {M : zMem} {Q : Option zV → zMem → Prop} (x1 : Int) (x2 : Int) (x4 : Int) (x5 : Int) (h :
  zR32 (x2 - x1) ∧ zR32 (x4 - x5) ∧ ((x2 - x1 : Int) ≤ (x4 - x5) →
    zBg d 45 16 [zR 13, zI x1, zI x2, zR 3, none, zI x5, zI x1] [] M Q) ∧
  (¬ (x2 - x1 : Int) ≤ (x4 - x5) →
    ((0 : Int) = 0 ∨ (0 : Int) = 1) ∧ Q (zI 0) M)) : zBg d 45 0 [zR 13, zI x1, zI x2, zR 3, zI x4, zI x5, none] [] M Q :=
  zvc_ok (I := zm45) (cuts := [(16, [true, true, true, true, false, true, true])]) (n := 37) rfl h
set_option maxRecDepth 20000 in
theorem zv45_16 {d : Nat} {M : zMem} {Q : Option zV → zMem → Prop} (x1 : Int) (x2 : Int) (x5 : Int) (x6 : Int) (h :
  ((x6 : Int) ≥ x2 →
    ((1 : Int) = 0 ∨ (1 : Int) = 1) ∧ Q (zI 1) M) ∧
  (¬ (x6 : Int) ≥ x2 →
    (0 : Int) ≤ x6 ∧ (x6 : Int) < 120 ∧ zR32 (x5 + x6) ∧ zR32 ((x5 + x6) - x1) ∧ (0 : Int) ≤ ((x5 + x6) - x1) ∧ ((x5 + x6) - x1 : Int) < 120 ∧ ((M 14 x6.toNat : Int) = (M 3 (((x5 + x6) - x1).toNat)) →
      zR32 (x6 + 1) ∧ zBg d 45 16 [zR 13, zI x1, zI x2, zR 3, none, zI x5, zI (x6 + 1)] [] M Q) ∧
    (¬ (M 14 x6.toNat : Int) = (M 3 (((x5 + x6) - x1).toNat)) →
      ((0 : Int) = 0 ∨ (0 : Int) = 1) ∧ Q (zI 0) M))) : zBg d 45 16 [zR 13, zI x1, zI x2, zR 3, none, zI x5, zI x6] [] M Q :=
  zvc_ok (I := zm45) (cuts := [(16, [true, true, true, true, false, true, true])]) (n := 37) rfl h
theorem zk45 {d : Nat} {M : zMem} {Q : Option zV → zMem → Prop} {x1 : Int} {x2 : Int} {x4 : Int} {x5 : Int} (h : zBg d 45 0 [zR 13, zI x1, zI x2, zR 3, zI x4, zI x5, none] [] M Q) : zCt d 45 [.inr (.inr 13), .inl x1, .inl x2, .inr (.inr 3), .inl x4, .inl x5] M Q := zCt_of (I := zm45) rfl rfl h
/-! CommaCopies$Sheets.isSheet(I)Z , as 46 -/
set_option maxRecDepth 20000 in
theorem zv46_0 {d : Nat} {M : zMem} {Q : Option zV → zMem → Prop} (x0 : Int) (h :
  ((x0 : Int) < 0 →
    ((0 : Int) = 0 ∨ (0 : Int) = 1) ∧ Q (zI 0) M) ∧
  (¬ (x0 : Int) < 0 →
    ((x0 : Int) ≥ 4 →
      ((0 : Int) = 0 ∨ (0 : Int) = 1) ∧ Q (zI 0) M) ∧
    (¬ (x0 : Int) ≥ 4 →
      ((1 : Int) = 0 ∨ (1 : Int) = 1) ∧ Q (zI 1) M))) : zBg d 46 0 [zI x0] [] M Q :=
  zvc_ok (I := zm46) (cuts := []) (n := 14) rfl h
theorem zk46 {d : Nat} {M : zMem} {Q : Option zV → zMem → Prop} {x0 : Int} (h : zBg d 46 0 [zI x0] [] M Q) : zCt d 46 [.inl x0] M Q := zCt_of (I := zm46) rfl rfl h
/-! CommaCopies$Sheets.isLane(I)Z , as 47 -/
set_option maxRecDepth 20000 in
theorem zv47_0 {d : Nat} {M : zMem} {Q : Option zV → zMem → Prop} (x0 : Int) (h :
  ((x0 : Int) < 0 →
    ((0 : Int) = 0 ∨ (0 : Int) = 1) ∧ Q (zI 0) M) ∧
  (¬ (x0 : Int) < 0 →
    ((x0 : Int) ≥ 3 →
      ((0 : Int) = 0 ∨ (0 : Int) = 1) ∧ Q (zI 0) M) ∧
    (¬ (x0 : Int) ≥ 3 →
      ((1 : Int) = 0 ∨ (1 : Int) = 1) ∧ Q (zI 1) M))) : zBg d 47 0 [zI x0] [] M Q :=
  zvc_ok (I := zm47) (cuts := []) (n := 14) rfl h
theorem zk47 {d : Nat} {M : zMem} {Q : Option zV → zMem → Prop} {x0 : Int} (h : zBg d 47 0 [zI x0] [] M Q) : zCt d 47 [.inl x0] M Q := zCt_of (I := zm47) rfl rfl h
/-! CommaCopies$Sheets.lay(III)I , as 48 -/
set_option maxRecDepth 20000 in
theorem zv48_0 {d : Nat} {M : zMem} {Q : Option zV → zMem → Prop} (x1 : Int) (x2 : Int) (x3 : Int) (h :
  ∃ Q1, zCi d 46 [.inl x1] M Q1 ∧ ∀ v1 M1, Q1 v1 M1 →
  ((v1 : Int) = 0 →
    Q (zI (-1)) M1) ∧
  (¬ (v1 : Int) = 0 →
    ∃ Q2, zCi d 47 [.inl x2] M1 Q2 ∧ ∀ v2 M2, Q2 v2 M2 →
    ((v2 : Int) = 0 →
      Q (zI (-1)) M2) ∧
    (¬ (v2 : Int) = 0 →
      ((x3 : Int) ≤ 12 →
        ((x3 : Int) ≥ 0 →
          (0 : Int) ≤ x1 ∧ (x1 : Int) < 4 ∧ (0 : Int) ≤ x1 ∧ (x1 : Int) < 4 ∧ zBg (d + 1) 48 46 [zR 32, zI x1, none, zI x3, zI 0] [] (zup (zup M2 33 x1.toNat x2) 34 x1.toNat x3) Q) ∧
        (¬ (x3 : Int) ≥ 0 →
          Q (zI (-14)) M2)) ∧
      (¬ (x3 : Int) ≤ 12 →
        Q (zI (-1)) M2)))) : zBg (d + 1) 48 0 [zR 32, zI x1, zI x2, zI x3, none] [] M Q :=
  zvc_ok (I := zm48) (cuts := [(46, [true, true, false, true, true])]) (n := 48) rfl h
set_option maxRecDepth 20000 in
theorem zv48_46 {d : Nat} {M : zMem} {Q : Option zV → zMem → Prop} (x1 : Int) (x3 : Int) (x4 : Int) (h :
  ((x4 : Int) ≥ 12 →
    Q (zI x3) M) ∧
  (¬ (x4 : Int) ≥ 12 →
    zR32 (x1 * 12) ∧ zR32 ((x1 * 12) + x4) ∧ (0 : Int) ≤ ((x1 * 12) + x4) ∧ ((x1 * 12) + x4 : Int) < 48 ∧ zR32 (x4 + 1) ∧ zBg d 48 46 [zR 32, zI x1, none, zI x3, zI (x4 + 1)] [] (zup M 35 (((x1 * 12) + x4).toNat) 0) Q)) : zBg d 48 46 [zR 32, zI x1, none, zI x3, zI x4] [] M Q :=
  zvc_ok (I := zm48) (cuts := [(46, [true, true, false, true, true])]) (n := 48) rfl h
theorem zk48 {d : Nat} {M : zMem} {Q : Option zV → zMem → Prop} {x1 : Int} {x2 : Int} {x3 : Int} (h : zBg d 48 0 [zR 32, zI x1, zI x2, zI x3, none] [] M Q) : zCt d 48 [.inr (.inr 32), .inl x1, .inl x2, .inl x3] M Q := zCt_of (I := zm48) rfl rfl h
/-! CommaCopies$Sheets.remove(I)I , as 49 -/
set_option maxRecDepth 20000 in
theorem zv49_0 {d : Nat} {M : zMem} {Q : Option zV → zMem → Prop} (x1 : Int) (h :
  ∃ Q1, zCi d 46 [.inl x1] M Q1 ∧ ∀ v1 M1, Q1 v1 M1 →
  ((v1 : Int) ≠ 0 →
    (0 : Int) ≤ x1 ∧ (x1 : Int) < 4 ∧ ((M1 33 x1.toNat : Int) ≠ (-1) →
      (0 : Int) ≤ x1 ∧ (x1 : Int) < 4 ∧ (0 : Int) ≤ x1 ∧ (x1 : Int) < 4 ∧ Q (zI (M1 34 x1.toNat)) (zup M1 33 x1.toNat (-1))) ∧
    (¬ (M1 33 x1.toNat : Int) ≠ (-1) →
      Q (zI (-11)) M1)) ∧
  (¬ (v1 : Int) ≠ 0 →
    Q (zI (-1)) M1)) : zBg (d + 1) 49 0 [zR 32, zI x1] [] M Q :=
  zvc_ok (I := zm49) (cuts := []) (n := 28) rfl h
theorem zk49 {d : Nat} {M : zMem} {Q : Option zV → zMem → Prop} {x1 : Int} (h : zBg d 49 0 [zR 32, zI x1] [] M Q) : zCt d 49 [.inr (.inr 32), .inl x1] M Q := zCt_of (I := zm49) rfl rfl h
/-! CommaCopies$Sheets.refusal(IIII)I , as 50 -/
set_option maxRecDepth 20000 in
theorem zv50_0 {d : Nat} {M : zMem} {Q : Option zV → zMem → Prop} (x1 : Int) (x2 : Int) (x3 : Int) (x4 : Int) (h :
  ∃ Q1, zCi d 46 [.inl x1] M Q1 ∧ ∀ v1 M1, Q1 v1 M1 →
  ((v1 : Int) = 0 →
    Q (zI (-1)) M1) ∧
  (¬ (v1 : Int) = 0 →
    ∃ Q2, zCi d 47 [.inl x2] M1 Q2 ∧ ∀ v2 M2, Q2 v2 M2 →
    ((v2 : Int) ≠ 0 →
      (0 : Int) ≤ x1 ∧ (x1 : Int) < 4 ∧ ((M2 33 x1.toNat : Int) ≠ (-1) →
        (0 : Int) ≤ x1 ∧ (x1 : Int) < 4 ∧ ((M2 33 x1.toNat : Int) = x2 →
          ∃ Q3, zCi d 51 [.inr (.inr 32), .inl x1, .inl x3, .inl x4] M2 Q3 ∧ ∀ v3 M3, Q3 v3 M3 →
          ((v3 : Int) = 0 →
            Q (zI (-13)) M3) ∧
          (¬ (v3 : Int) = 0 →
            Q (zI 0) M3)) ∧
        (¬ (M2 33 x1.toNat : Int) = x2 →
          Q (zI (-12)) M2)) ∧
      (¬ (M2 33 x1.toNat : Int) ≠ (-1) →
        Q (zI (-11)) M2)) ∧
    (¬ (v2 : Int) ≠ 0 →
      Q (zI (-1)) M2))) : zBg (d + 1) 50 0 [zR 32, zI x1, zI x2, zI x3, zI x4] [] M Q :=
  zvc_ok (I := zm50) (cuts := []) (n := 39) rfl h
theorem zk50 {d : Nat} {M : zMem} {Q : Option zV → zMem → Prop} {x1 : Int} {x2 : Int} {x3 : Int} {x4 : Int} (h : zBg d 50 0 [zR 32, zI x1, zI x2, zI x3, zI x4] [] M Q) : zCt d 50 [.inr (.inr 32), .inl x1, .inl x2, .inl x3, .inl x4] M Q := zCt_of (I := zm50) rfl rfl h
/-! CommaCopies$Sheets.has(III)Z , as 51 -/
set_option maxRecDepth 20000 in
theorem zv51_0 {d : Nat} {M : zMem} {Q : Option zV → zMem → Prop} (x1 : Int) (x2 : Int) (x3 : Int) (h :
  ((x2 : Int) < 0 →
    ((0 : Int) = 0 ∨ (0 : Int) = 1) ∧ Q (zI 0) M) ∧
  (¬ (x2 : Int) < 0 →
    ((x3 : Int) < 0 →
      ((0 : Int) = 0 ∨ (0 : Int) = 1) ∧ Q (zI 0) M) ∧
    (¬ (x3 : Int) < 0 →
      (0 : Int) ≤ x1 ∧ (x1 : Int) < 4 ∧ ((x3 : Int) > (M 34 x1.toNat) →
        ((0 : Int) = 0 ∨ (0 : Int) = 1) ∧ Q (zI 0) M) ∧
      (¬ (x3 : Int) > (M 34 x1.toNat) →
        (0 : Int) ≤ x1 ∧ (x1 : Int) < 4 ∧ zR32 ((M 34 x1.toNat) - x3) ∧ ((x2 : Int) > ((M 34 x1.toNat) - x3) →
          ((0 : Int) = 0 ∨ (0 : Int) = 1) ∧ Q (zI 0) M) ∧
        (¬ (x2 : Int) > ((M 34 x1.toNat) - x3) →
          ((1 : Int) = 0 ∨ (1 : Int) = 1) ∧ Q (zI 1) M))))) : zBg d 51 0 [zR 32, zI x1, zI x2, zI x3] [] M Q :=
  zvc_ok (I := zm51) (cuts := []) (n := 27) rfl h
theorem zk51 {d : Nat} {M : zMem} {Q : Option zV → zMem → Prop} {x1 : Int} {x2 : Int} {x3 : Int} (h : zBg d 51 0 [zR 32, zI x1, zI x2, zI x3] [] M Q) : zCt d 51 [.inr (.inr 32), .inl x1, .inl x2, .inl x3] M Q := zCt_of (I := zm51) rfl rfl h
/-! CommaCopies$Sheets.narrowed(II)I , as 52 -/
set_option maxRecDepth 20000 in
theorem zv52_0 {d : Nat} {M : zMem} {Q : Option zV → zMem → Prop} (x0 : Int) (x1 : Int) (h :
  ((x0 : Int) ≠ 0 →
    ((x0 : Int) ≠ 1 →
      Q (zI x1) M) ∧
    (¬ (x0 : Int) ≠ 1 →
      Q (zI (zi2s x1)) M)) ∧
  (¬ (x0 : Int) ≠ 0 →
    Q (zI (zi2b x1)) M)) : zBg d 52 0 [zI x0, zI x1] [] M Q :=
  zvc_ok (I := zm52) (cuts := []) (n := 18) rfl h
theorem zk52 {d : Nat} {M : zMem} {Q : Option zV → zMem → Prop} {x0 : Int} {x1 : Int} (h : zBg d 52 0 [zI x0, zI x1] [] M Q) : zCt d 52 [.inl x0, .inl x1] M Q := zCt_of (I := zm52) rfl rfl h
/-! CommaCopies$Sheets.move(IIIII)I , as 53 -/
set_option maxRecDepth 20000 in
theorem zv53_0 {d : Nat} {M : zMem} {Q : Option zV → zMem → Prop} (x1 : Int) (x2 : Int) (x3 : Int) (x4 : Int) (x5 : Int) (h :
  ∃ Q1, zCi d 46 [.inl x1] M Q1 ∧ ∀ v1 M1, Q1 v1 M1 →
  ((v1 : Int) = 0 →
    Q (zI (-1)) M1) ∧
  (¬ (v1 : Int) = 0 →
    ∃ Q2, zCi d 46 [.inl x3] M1 Q2 ∧ ∀ v2 M2, Q2 v2 M2 →
    ((v2 : Int) ≠ 0 →
      (0 : Int) ≤ x1 ∧ (x1 : Int) < 4 ∧ ((M2 33 x1.toNat : Int) = (-1) →
        Q (zI (-11)) M2) ∧
      (¬ (M2 33 x1.toNat : Int) = (-1) →
        (0 : Int) ≤ x3 ∧ (x3 : Int) < 4 ∧ ((M2 33 x3.toNat : Int) ≠ (-1) →
          (0 : Int) ≤ x1 ∧ (x1 : Int) < 4 ∧ (0 : Int) ≤ x3 ∧ (x3 : Int) < 4 ∧ ((M2 33 x1.toNat : Int) = (M2 33 x3.toNat) →
            ∃ Q3, zCi d 51 [.inr (.inr 32), .inl x1, .inl x2, .inl x5] M2 Q3 ∧ ∀ v3 M3, Q3 v3 M3 →
            ((v3 : Int) = 0 →
              Q (zI (-13)) M3) ∧
            (¬ (v3 : Int) = 0 →
              ∃ Q4, zCi d 51 [.inr (.inr 32), .inl x3, .inl x4, .inl x5] M3 Q4 ∧ ∀ v4 M4, Q4 v4 M4 →
              ((v4 : Int) ≠ 0 →
                zR32 (x1 * 12) ∧ zR32 ((x1 * 12) + x2) ∧ zR32 (x3 * 12) ∧ zR32 ((x3 * 12) + x4) ∧ (0 : Int) ≤ ((x1 * 12) + x2) ∧ (0 : Int) ≤ ((x3 * 12) + x4) ∧ (0 : Int) ≤ x5 ∧ (((x1 * 12) + x2) : Int) + x5 ≤ 48 ∧ (((x3 * 12) + x4) : Int) + x5 ≤ 48 ∧ Q (zI x5) (zcpy M4 35 (((x1 * 12) + x2).toNat) 35 (((x3 * 12) + x4).toNat) x5.toNat)) ∧
              (¬ (v4 : Int) ≠ 0 →
                Q (zI (-13)) M4))) ∧
          (¬ (M2 33 x1.toNat : Int) = (M2 33 x3.toNat) →
            Q (zI (-12)) M2)) ∧
        (¬ (M2 33 x3.toNat : Int) ≠ (-1) →
          Q (zI (-11)) M2))) ∧
    (¬ (v2 : Int) ≠ 0 →
      Q (zI (-1)) M2))) : zBg (d + 1) 53 0 [zR 32, zI x1, zI x2, zI x3, zI x4, zI x5] [] M Q :=
  zvc_ok (I := zm53) (cuts := []) (n := 70) rfl h
theorem zk53 {d : Nat} {M : zMem} {Q : Option zV → zMem → Prop} {x1 : Int} {x2 : Int} {x3 : Int} {x4 : Int} {x5 : Int} (h : zBg d 53 0 [zR 32, zI x1, zI x2, zI x3, zI x4, zI x5] [] M Q) : zCt d 53 [.inr (.inr 32), .inl x1, .inl x2, .inl x3, .inl x4, .inl x5] M Q := zCt_of (I := zm53) rfl rfl h
/-! CommaCopies$State.begin(LCommaCopies$Tape;)V , as 54 -/
set_option maxRecDepth 20000 in
theorem zv54_0 {d : Nat} {M : zMem} {Q : Option zV → zMem → Prop} (h :
  ∃ Q1, zCv d 32 [.inr (.inr 13), .inr (.inr 3), .inl (M 2 1)] M Q1 ∧ ∀ M1, Q1 M1 →
  ∃ Q2, zCv d 182 [.inr (.inr 5), .inl 0] M1 Q2 ∧ ∀ M2, Q2 M2 →
  ∃ Q3, zCv d 182 [.inr (.inr 6), .inl (-1)] M2 Q3 ∧ ∀ M3, Q3 M3 →
  ∃ Q4, zCv d 182 [.inr (.inr 8), .inl 5] M3 Q4 ∧ ∀ M4, Q4 M4 →
  Q none (zup (zup M4 4 9 0) 4 10 0)) : zBg (d + 1) 54 0 [zR 4, zR 2] [] M Q :=
  zvc_ok (I := zm54) (cuts := []) (n := 31) rfl h
theorem zk54 {d : Nat} {M : zMem} {Q : Option zV → zMem → Prop} (h : zBg d 54 0 [zR 4, zR 2] [] M Q) : zCt d 54 [.inr (.inr 4), .inr (.inr 2)] M Q := zCt_of (I := zm54) rfl rfl h
/-! CommaCopies$State.takeFrom(LCommaCopies$State;)V a, as 55 -/
set_option maxRecDepth 20000 in
theorem zv55a_0 {d : Nat} {M : zMem} {Q : Option zV → zMem → Prop} (h :
  ∃ Q1, zCv d 33 [.inr (.inr 13), .inr (.inr 27)] M Q1 ∧ ∀ M1, Q1 M1 →
  (0 : Int) ≤ 0 ∧ (0 : Int) ≤ 0 ∧ (0 : Int) ≤ 24 ∧ (0 : Int) + 24 ≤ 24 ∧ (0 : Int) + 24 ≤ 24 ∧ (0 : Int) ≤ 0 ∧ (0 : Int) ≤ 0 ∧ (0 : Int) ≤ 6 ∧ (0 : Int) + 6 ≤ 6 ∧ (0 : Int) + 6 ≤ 6 ∧ (0 : Int) ≤ 0 ∧ (0 : Int) ≤ 0 ∧ (0 : Int) ≤ 48 ∧ (0 : Int) + 48 ≤ 48 ∧ (0 : Int) + 48 ≤ 48 ∧ (0 : Int) ≤ 0 ∧ (0 : Int) ≤ 0 ∧ (0 : Int) ≤ 6 ∧ (0 : Int) + 6 ≤ 6 ∧ (0 : Int) + 6 ≤ 6 ∧ (0 : Int) ≤ 0 ∧ (0 : Int) ≤ 0 ∧ (0 : Int) ≤ 36 ∧ (0 : Int) + 36 ≤ 36 ∧ (0 : Int) + 36 ≤ 36 ∧ (0 : Int) ≤ 0 ∧ (0 : Int) ≤ 0 ∧ (0 : Int) ≤ 6 ∧ (0 : Int) + 6 ≤ 6 ∧ (0 : Int) + 6 ≤ 6 ∧ (0 : Int) ≤ 0 ∧ (0 : Int) ≤ 0 ∧ (0 : Int) ≤ 6 ∧ (0 : Int) + 6 ≤ 6 ∧ (0 : Int) + 6 ≤ 6 ∧ Q none (zup (zup (zup (zup (zcpy (zcpy (zcpy (zcpy (zcpy (zcpy (zcpy M1 19 0 5 0 24) 20 0 6 0 6) 21 0 7 0 48) 22 0 8 0 6) 23 0 9 0 36) 24 0 10 0 6) 25 0 11 0 6) 4 9 (M1 18 9)) 4 10 (M1 18 10)) 4 11 (M1 18 11)) 4 12 (M1 18 12))) : zBg (d + 1) 55 0 [zR 4, zR 18] [] M Q :=
  zvc_ok (I := zm55) (cuts := []) (n := 83) rfl h
theorem zk55a {d : Nat} {M : zMem} {Q : Option zV → zMem → Prop} (h : zBg d 55 0 [zR 4, zR 18] [] M Q) : zCt d 55 [.inr (.inr 4), .inr (.inr 18)] M Q := zCt_of (I := zm55) rfl rfl h
/-! CommaCopies$State.takeFrom(LCommaCopies$State;)V b, as 55 -/
set_option maxRecDepth 20000 in
theorem zv55b_0 {d : Nat} {M : zMem} {Q : Option zV → zMem → Prop} (h :
  ∃ Q1, zCv d 33 [.inr (.inr 27), .inr (.inr 13)] M Q1 ∧ ∀ M1, Q1 M1 →
  (0 : Int) ≤ 0 ∧ (0 : Int) ≤ 0 ∧ (0 : Int) ≤ 24 ∧ (0 : Int) + 24 ≤ 24 ∧ (0 : Int) + 24 ≤ 24 ∧ (0 : Int) ≤ 0 ∧ (0 : Int) ≤ 0 ∧ (0 : Int) ≤ 6 ∧ (0 : Int) + 6 ≤ 6 ∧ (0 : Int) + 6 ≤ 6 ∧ (0 : Int) ≤ 0 ∧ (0 : Int) ≤ 0 ∧ (0 : Int) ≤ 48 ∧ (0 : Int) + 48 ≤ 48 ∧ (0 : Int) + 48 ≤ 48 ∧ (0 : Int) ≤ 0 ∧ (0 : Int) ≤ 0 ∧ (0 : Int) ≤ 6 ∧ (0 : Int) + 6 ≤ 6 ∧ (0 : Int) + 6 ≤ 6 ∧ (0 : Int) ≤ 0 ∧ (0 : Int) ≤ 0 ∧ (0 : Int) ≤ 36 ∧ (0 : Int) + 36 ≤ 36 ∧ (0 : Int) + 36 ≤ 36 ∧ (0 : Int) ≤ 0 ∧ (0 : Int) ≤ 0 ∧ (0 : Int) ≤ 6 ∧ (0 : Int) + 6 ≤ 6 ∧ (0 : Int) + 6 ≤ 6 ∧ (0 : Int) ≤ 0 ∧ (0 : Int) ≤ 0 ∧ (0 : Int) ≤ 6 ∧ (0 : Int) + 6 ≤ 6 ∧ (0 : Int) + 6 ≤ 6 ∧ Q none (zup (zup (zup (zup (zcpy (zcpy (zcpy (zcpy (zcpy (zcpy (zcpy M1 5 0 19 0 24) 6 0 20 0 6) 7 0 21 0 48) 8 0 22 0 6) 9 0 23 0 36) 10 0 24 0 6) 11 0 25 0 6) 18 9 (M1 4 9)) 18 10 (M1 4 10)) 18 11 (M1 4 11)) 18 12 (M1 4 12))) : zBg (d + 1) 55 0 [zR 18, zR 4] [] M Q :=
  zvc_ok (I := zm55) (cuts := []) (n := 83) rfl h
theorem zk55b {d : Nat} {M : zMem} {Q : Option zV → zMem → Prop} (h : zBg d 55 0 [zR 18, zR 4] [] M Q) : zCt d 55 [.inr (.inr 18), .inr (.inr 4)] M Q := zCt_of (I := zm55) rfl rfl h
/-! CommaCopies$State.isCopy(I)Z , as 56 -/
set_option maxRecDepth 20000 in
theorem zv56_0 {d : Nat} {M : zMem} {Q : Option zV → zMem → Prop} (x1 : Int) (h :
  ((x1 : Int) < 0 →
    ((0 : Int) = 0 ∨ (0 : Int) = 1) ∧ Q (zI 0) M) ∧
  (¬ (x1 : Int) < 0 →
    ((x1 : Int) ≥ (M 4 9) →
      ((0 : Int) = 0 ∨ (0 : Int) = 1) ∧ Q (zI 0) M) ∧
    (¬ (x1 : Int) ≥ (M 4 9) →
      ((1 : Int) = 0 ∨ (1 : Int) = 1) ∧ Q (zI 1) M))) : zBg d 56 0 [zR 4, zI x1] [] M Q :=
  zvc_ok (I := zm56) (cuts := []) (n := 15) rfl h
theorem zk56 {d : Nat} {M : zMem} {Q : Option zV → zMem → Prop} {x1 : Int} (h : zBg d 56 0 [zR 4, zI x1] [] M Q) : zCt d 56 [.inr (.inr 4), .inl x1] M Q := zCt_of (I := zm56) rfl rfl h
/-! CommaCopies$State.isSet(I)Z , as 57 -/
set_option maxRecDepth 20000 in
theorem zv57_0 {d : Nat} {M : zMem} {Q : Option zV → zMem → Prop} (x1 : Int) (h :
  ((x1 : Int) ≤ 0 →
    ((0 : Int) = 0 ∨ (0 : Int) = 1) ∧ Q (zI 0) M) ∧
  (¬ (x1 : Int) ≤ 0 →
    ((x1 : Int) ≥ (zishl 1 (M 4 9)) →
      ((0 : Int) = 0 ∨ (0 : Int) = 1) ∧ Q (zI 0) M) ∧
    (¬ (x1 : Int) ≥ (zishl 1 (M 4 9)) →
      ((1 : Int) = 0 ∨ (1 : Int) = 1) ∧ Q (zI 1) M))) : zBg d 57 0 [zR 4, zI x1] [] M Q :=
  zvc_ok (I := zm57) (cuts := []) (n := 17) rfl h
theorem zk57 {d : Nat} {M : zMem} {Q : Option zV → zMem → Prop} {x1 : Int} (h : zBg d 57 0 [zR 4, zI x1] [] M Q) : zCt d 57 [.inr (.inr 4), .inl x1] M Q := zCt_of (I := zm57) rfl rfl h
/-! CommaCopies$State.addCopy([II)I , as 58 -/
set_option maxRecDepth 20000 in
theorem zv58_0 {d : Nat} {M : zMem} {Q : Option zV → zMem → Prop} (x2 : Int) (h :
  ((M 13 4 : Int) ≠ 0 →
    zBg d 58 15 [zR 4, zR 35, zI x2, zI 0] [] M Q) ∧
  (¬ (M 13 4 : Int) ≠ 0 →
    Q (zI (-2)) M)) : zBg d 58 0 [zR 4, zR 35, zI x2, none] [] M Q :=
  zvc_ok (I := zm58) (cuts := [(15, [true, true, true, true])]) (n := 61) rfl h
set_option maxRecDepth 20000 in
theorem zv58_15 {d : Nat} {M : zMem} {Q : Option zV → zMem → Prop} (x2 : Int) (x3 : Int) (h :
  ((x3 : Int) ≥ (M 13 6) →
    ((M 4 9 : Int) < 8 →
      zR32 ((M 4 9) * 6) ∧ (0 : Int) ≤ x2 ∧ (0 : Int) ≤ ((M 4 9) * 6) ∧ (0 : Int) ≤ (M 13 6) ∧ (x2 : Int) + (M 13 6) ≤ 48 ∧ (((M 4 9) * 6) : Int) + (M 13 6) ≤ 48 ∧ zR32 ((M 4 9) + 1) ∧ zR32 (((M 4 9) + 1) - 1) ∧ Q (zI (((M 4 9) + 1) - 1)) (zup (zcpy M 35 x2.toNat 7 (((M 4 9) * 6).toNat) ((M 13 6).toNat)) 4 9 ((M 4 9) + 1))) ∧
    (¬ (M 4 9 : Int) < 8 →
      Q (zI (-3)) M)) ∧
  (¬ (x3 : Int) ≥ (M 13 6) →
    zR32 (x2 + x3) ∧ (0 : Int) ≤ (x2 + x3) ∧ (x2 + x3 : Int) < 48 ∧ ∃ Q1, zCi d 35 [.inr (.inr 13), .inl x3, .inl (M 35 ((x2 + x3).toNat))] M Q1 ∧ ∀ v1 M1, Q1 v1 M1 →
    ((v1 : Int) ≠ 0 →
      zR32 (x3 + 1) ∧ zBg (d + 1) 58 15 [zR 4, zR 35, zI x2, zI (x3 + 1)] [] M1 Q) ∧
    (¬ (v1 : Int) ≠ 0 →
      Q (zI (-2)) M1))) : zBg (d + 1) 58 15 [zR 4, zR 35, zI x2, zI x3] [] M Q :=
  zvc_ok (I := zm58) (cuts := [(15, [true, true, true, true])]) (n := 61) rfl h
theorem zk58 {d : Nat} {M : zMem} {Q : Option zV → zMem → Prop} {x2 : Int} (h : zBg d 58 0 [zR 4, zR 35, zI x2, none] [] M Q) : zCt d 58 [.inr (.inr 4), .inr (.inr 35), .inl x2] M Q := zCt_of (I := zm58) rfl rfl h
/-! CommaCopies$State.addPast()I , as 59 -/
set_option maxRecDepth 20000 in
theorem zv59_0 {d : Nat} {M : zMem} {Q : Option zV → zMem → Prop} (h :
  ((M 4 10 : Int) < 6 →
    zR32 ((M 4 10) * 6) ∧ (0 : Int) ≤ 0 ∧ (0 : Int) ≤ ((M 4 10) * 6) ∧ (0 : Int) ≤ 6 ∧ (0 : Int) + 6 ≤ 6 ∧ (((M 4 10) * 6) : Int) + 6 ≤ 36 ∧ (0 : Int) ≤ (M 4 10) ∧ (M 4 10 : Int) < 6 ∧ (0 : Int) ≤ (M 4 10) ∧ (M 4 10 : Int) < 6 ∧ zR32 ((M 4 10) + 1) ∧ zR32 (((M 4 10) + 1) - 1) ∧ Q (zI (((M 4 10) + 1) - 1)) (zup (zup (zup (zcpy M 8 0 9 (((M 4 10) * 6).toNat) 6) 10 ((M 4 10).toNat) (M 4 11)) 11 ((M 4 10).toNat) (M 4 12)) 4 10 ((M 4 10) + 1))) ∧
  (¬ (M 4 10 : Int) < 6 →
    Q (zI (-3)) M)) : zBg d 59 0 [zR 4] [] M Q :=
  zvc_ok (I := zm59) (cuts := []) (n := 47) rfl h
theorem zk59 {d : Nat} {M : zMem} {Q : Option zV → zMem → Prop} (h : zBg d 59 0 [zR 4] [] M Q) : zCt d 59 [.inr (.inr 4)] M Q := zCt_of (I := zm59) rfl rfl h
/-! CommaCopies$State.bitsOf([II)I , as 60 -/
set_option maxRecDepth 20000 in
theorem zv60_0 {d : Nat} {M : zMem} {Q : Option zV → zMem → Prop} (a1 : Nat) (x2 : Int) (h :
  zBg d 60 5 [zR 4, zR a1, zI x2, zI 0, zI 0] [] M Q) : zBg d 60 0 [zR 4, zR a1, zI x2, none, none] [] M Q :=
  zvc_ok (I := zm60) (cuts := [(5, [true, true, true, true, true])]) (n := 39) rfl h
set_option maxRecDepth 20000 in
theorem zv60_5 {d : Nat} {M : zMem} {Q : Option zV → zMem → Prop} (a1 : Nat) (x2 : Int) (x3 : Int) (x4 : Int) (h :
  ((x4 : Int) ≥ (M 13 6) →
    Q (zI x3) M) ∧
  (¬ (x4 : Int) ≥ (M 13 6) →
    zR32 (x2 + x4) ∧ zar a1 0 fun n => (0 : Int) ≤ (x2 + x4) ∧ (x2 + x4 : Int) < n ∧ ((M a1 ((x2 + x4).toNat) : Int) = 5 →
      zR32 (x4 + 1) ∧ zBg d 60 5 [zR 4, zR a1, zI x2, zI x3, zI (x4 + 1)] [] M Q) ∧
    (¬ (M a1 ((x2 + x4).toNat) : Int) = 5 →
      zR32 (5 * x4) ∧ zR32 (x2 + x4) ∧ zar a1 0 fun n => (0 : Int) ≤ (x2 + x4) ∧ (x2 + x4 : Int) < n ∧ zR32 ((5 * x4) + (M a1 ((x2 + x4).toNat))) ∧ zR32 (x4 + 1) ∧ zBg d 60 5 [zR 4, zR a1, zI x2, zI (zior x3 (zishl 1 ((5 * x4) + (M a1 ((x2 + x4).toNat))))), zI (x4 + 1)] [] M Q))) : zBg d 60 5 [zR 4, zR a1, zI x2, zI x3, zI x4] [] M Q :=
  zvc_ok (I := zm60) (cuts := [(5, [true, true, true, true, true])]) (n := 39) rfl h
theorem zk60 {d : Nat} {M : zMem} {Q : Option zV → zMem → Prop} {a1 : Nat} {x2 : Int} (h : zBg d 60 0 [zR 4, zR a1, zI x2, none, none] [] M Q) : zCt d 60 [.inr (.inr 4), .inr (.inr a1), .inl x2] M Q := zCt_of (I := zm60) rfl rfl h
/-! CommaCopies$State.countLost()I , as 61 -/
set_option maxRecDepth 20000 in
theorem zv61_0 {d : Nat} {M : zMem} {Q : Option zV → zMem → Prop} (h :
  zBg d 61 4 [zR 4, zI 0, zI 0] [] M Q) : zBg d 61 0 [zR 4, none, none] [] M Q :=
  zvc_ok (I := zm61) (cuts := [(4, [true, true, true])]) (n := 30) rfl h
set_option maxRecDepth 20000 in
theorem zv61_4 {d : Nat} {M : zMem} {Q : Option zV → zMem → Prop} (x1 : Int) (x2 : Int) (h :
  ((x2 : Int) ≥ (M 13 6) →
    Q (zI x1) M) ∧
  (¬ (x2 : Int) ≥ (M 13 6) →
    (0 : Int) ≤ x2 ∧ (x2 : Int) < 6 ∧ ((M 8 x2.toNat : Int) ≠ 5 →
      zR32 (x1 + 0) ∧ zR32 (x2 + 1) ∧ zBg d 61 4 [zR 4, zI (x1 + 0), zI (x2 + 1)] [] M Q) ∧
    (¬ (M 8 x2.toNat : Int) ≠ 5 →
      zR32 (x1 + 1) ∧ zR32 (x2 + 1) ∧ zBg d 61 4 [zR 4, zI (x1 + 1), zI (x2 + 1)] [] M Q))) : zBg d 61 4 [zR 4, zI x1, zI x2] [] M Q :=
  zvc_ok (I := zm61) (cuts := [(4, [true, true, true])]) (n := 30) rfl h
theorem zk61 {d : Nat} {M : zMem} {Q : Option zV → zMem → Prop} (h : zBg d 61 0 [zR 4, none, none] [] M Q) : zCt d 61 [.inr (.inr 4)] M Q := zCt_of (I := zm61) rfl rfl h
/-! CommaCopies$State.matches(I)I , as 62 -/
set_option maxRecDepth 20000 in
theorem zv62_0 {d : Nat} {M : zMem} {Q : Option zV → zMem → Prop} (x1 : Int) (h :
  zBg d 62 4 [zR 4, zI x1, zI 0, zI 0] [] M Q) : zBg d 62 0 [zR 4, zI x1, none, none] [] M Q :=
  zvc_ok (I := zm62) (cuts := [(4, [true, true, true, true])]) (n := 37) rfl h
set_option maxRecDepth 20000 in
theorem zv62_4 {d : Nat} {M : zMem} {Q : Option zV → zMem → Prop} (x1 : Int) (x2 : Int) (x3 : Int) (h :
  ((x3 : Int) ≥ (M 13 6) →
    Q (zI x2) M) ∧
  (¬ (x3 : Int) ≥ (M 13 6) →
    (0 : Int) ≤ x3 ∧ (x3 : Int) < 6 ∧ zR32 (x1 * 6) ∧ zR32 ((x1 * 6) + x3) ∧ (0 : Int) ≤ ((x1 * 6) + x3) ∧ ((x1 * 6) + x3 : Int) < 48 ∧ ((M 8 x3.toNat : Int) ≠ (M 7 (((x1 * 6) + x3).toNat)) →
      zR32 (x2 + 0) ∧ zR32 (x3 + 1) ∧ zBg d 62 4 [zR 4, zI x1, zI (x2 + 0), zI (x3 + 1)] [] M Q) ∧
    (¬ (M 8 x3.toNat : Int) ≠ (M 7 (((x1 * 6) + x3).toNat)) →
      zR32 (x2 + 1) ∧ zR32 (x3 + 1) ∧ zBg d 62 4 [zR 4, zI x1, zI (x2 + 1), zI (x3 + 1)] [] M Q))) : zBg d 62 4 [zR 4, zI x1, zI x2, zI x3] [] M Q :=
  zvc_ok (I := zm62) (cuts := [(4, [true, true, true, true])]) (n := 37) rfl h
theorem zk62 {d : Nat} {M : zMem} {Q : Option zV → zMem → Prop} {x1 : Int} (h : zBg d 62 0 [zR 4, zI x1, none, none] [] M Q) : zCt d 62 [.inr (.inr 4), .inl x1] M Q := zCt_of (I := zm62) rfl rfl h
/-! CommaCopies$State.sumCosts(I)I , as 63 -/
set_option maxRecDepth 20000 in
theorem zv63_0 {d : Nat} {M : zMem} {Q : Option zV → zMem → Prop} (x1 : Int) (h :
  zBg d 63 4 [zR 4, zI x1, zI 0, zI 0] [] M Q) : zBg d 63 0 [zR 4, zI x1, none, none] [] M Q :=
  zvc_ok (I := zm63) (cuts := [(4, [true, true, true, true])]) (n := 36) rfl h
set_option maxRecDepth 20000 in
theorem zv63_4 {d : Nat} {M : zMem} {Q : Option zV → zMem → Prop} (x1 : Int) (x2 : Int) (x3 : Int) (h :
  ((x3 : Int) ≥ (M 13 6) →
    Q (zI x2) M) ∧
  (¬ (x3 : Int) ≥ (M 13 6) →
    zR32 (x3 * 4) ∧ zR32 (x1 * 6) ∧ zR32 ((x1 * 6) + x3) ∧ (0 : Int) ≤ ((x1 * 6) + x3) ∧ ((x1 * 6) + x3 : Int) < 48 ∧ zR32 ((x3 * 4) + (M 7 (((x1 * 6) + x3).toNat))) ∧ (0 : Int) ≤ ((x3 * 4) + (M 7 (((x1 * 6) + x3).toNat))) ∧ ((x3 * 4) + (M 7 (((x1 * 6) + x3).toNat)) : Int) < 24 ∧ zR32 (x2 + (M 5 (((x3 * 4) + (M 7 (((x1 * 6) + x3).toNat))).toNat))) ∧ zR32 (x3 + 1) ∧ zBg d 63 4 [zR 4, zI x1, zI (x2 + (M 5 (((x3 * 4) + (M 7 (((x1 * 6) + x3).toNat))).toNat))), zI (x3 + 1)] [] M Q)) : zBg d 63 4 [zR 4, zI x1, zI x2, zI x3] [] M Q :=
  zvc_ok (I := zm63) (cuts := [(4, [true, true, true, true])]) (n := 36) rfl h
theorem zk63 {d : Nat} {M : zMem} {Q : Option zV → zMem → Prop} {x1 : Int} (h : zBg d 63 0 [zR 4, zI x1, none, none] [] M Q) : zCt d 63 [.inr (.inr 4), .inl x1] M Q := zCt_of (I := zm63) rfl rfl h
/-! CommaCopies$State.bestOrder(I)I , as 64 -/
set_option maxRecDepth 20000 in
theorem zv64_0 {d : Nat} {M : zMem} {Q : Option zV → zMem → Prop} (x1 : Int) (h :
  ∃ Q1, zCv d 182 [.inr (.inr 12), .inl 0] M Q1 ∧ ∀ M1, Q1 M1 →
  zBg (d + 1) 64 10 [zR 4, zI x1, zI 0, none, none, none] [] M1 Q) : zBg (d + 1) 64 0 [zR 4, zI x1, none, none, none, none] [] M Q :=
  zvc_ok (I := zm64) (cuts := [(10, [true, true, true, false, false, false]), (52, [true, true, true, true, true, false])]) (n := 65) rfl h
set_option maxRecDepth 20000 in
theorem zv64_10 {d : Nat} {M : zMem} {Q : Option zV → zMem → Prop} (x1 : Int) (x2 : Int) (h :
  ((x2 : Int) ≥ (M 4 9) →
    zBg d 64 52 [zR 4, zI x1, zI 0, zI 73, zI 0, none] [] M Q) ∧
  (¬ (x2 : Int) ≥ (M 4 9) →
    zR32 (x2 * 6) ∧ zR32 ((x2 * 6) + x1) ∧ (0 : Int) ≤ ((x2 * 6) + x1) ∧ ((x2 * 6) + x1 : Int) < 48 ∧ (0 : Int) ≤ (M 7 (((x2 * 6) + x1).toNat)) ∧ (M 7 (((x2 * 6) + x1).toNat) : Int) < 4 ∧ zR32 ((M 12 ((M 7 (((x2 * 6) + x1).toNat)).toNat)) + 1) ∧ (0 : Int) ≤ (M 7 (((x2 * 6) + x1).toNat)) ∧ (M 7 (((x2 * 6) + x1).toNat) : Int) < 4 ∧ zR32 (x2 + 1) ∧ zBg d 64 10 [zR 4, zI x1, zI (x2 + 1), none, none, none] [] (zup M 12 ((M 7 (((x2 * 6) + x1).toNat)).toNat) ((M 12 ((M 7 (((x2 * 6) + x1).toNat)).toNat)) + 1)) Q)) : zBg d 64 10 [zR 4, zI x1, zI x2, none, none, none] [] M Q :=
  zvc_ok (I := zm64) (cuts := [(10, [true, true, true, false, false, false]), (52, [true, true, true, true, true, false])]) (n := 65) rfl h
set_option maxRecDepth 20000 in
theorem zv64_52 {d : Nat} {M : zMem} {Q : Option zV → zMem → Prop} (x1 : Int) (x2 : Int) (x3 : Int) (x4 : Int) (h :
  ((x4 : Int) ≥ 256 →
    Q (zI x2) M) ∧
  (¬ (x4 : Int) ≥ 256 →
    (0 : Int) ≤ x1 ∧ (x1 : Int) < 6 ∧ ∃ Q1, zCi d 68 [.inl x4, .inl (M 15 x1.toNat)] M Q1 ∧ ∀ v1 M1, Q1 v1 M1 →
    ((v1 : Int) = 0 →
      zR32 (x4 + 1) ∧ zBg (d + 1) 64 52 [zR 4, zI x1, zI x2, zI x3, zI (x4 + 1), none] [] M1 Q) ∧
    (¬ (v1 : Int) = 0 →
      ∃ Q2, zCi d 65 [.inr (.inr 4), .inl x4, .inl x1] M1 Q2 ∧ ∀ v2 M2, Q2 v2 M2 →
      ((v2 : Int) ≥ x3 →
        zR32 (x4 + 1) ∧ zBg (d + 1) 64 52 [zR 4, zI x1, zI x2, zI x3, zI (x4 + 1), none] [] M2 Q) ∧
      (¬ (v2 : Int) ≥ x3 →
        zR32 (x4 + 1) ∧ zBg (d + 1) 64 52 [zR 4, zI x1, zI x4, zI v2, zI (x4 + 1), none] [] M2 Q)))) : zBg (d + 1) 64 52 [zR 4, zI x1, zI x2, zI x3, zI x4, none] [] M Q :=
  zvc_ok (I := zm64) (cuts := [(10, [true, true, true, false, false, false]), (52, [true, true, true, true, true, false])]) (n := 65) rfl h
theorem zk64 {d : Nat} {M : zMem} {Q : Option zV → zMem → Prop} {x1 : Int} (h : zBg d 64 0 [zR 4, zI x1, none, none, none, none] [] M Q) : zCt d 64 [.inr (.inr 4), .inl x1] M Q := zCt_of (I := zm64) rfl rfl h
/-! CommaCopies$State.costBy(II)I , as 65 -/
set_option maxRecDepth 20000 in
theorem zv65_0 {d : Nat} {M : zMem} {Q : Option zV → zMem → Prop} (x1 : Int) (x2 : Int) (h :
  zBg d 65 5 [zR 4, zI x1, zI x2, zI 0, zI 0] [] M Q) : zBg d 65 0 [zR 4, zI x1, zI x2, none, none] [] M Q :=
  zvc_ok (I := zm65) (cuts := [(5, [true, true, true, true, true])]) (n := 34) rfl h
set_option maxRecDepth 20000 in
theorem zv65_5 {d : Nat} {M : zMem} {Q : Option zV → zMem → Prop} (x1 : Int) (x2 : Int) (x3 : Int) (x4 : Int) (h :
  ((x4 : Int) ≥ 4 →
    Q (zI x3) M) ∧
  (¬ (x4 : Int) ≥ 4 →
    (0 : Int) ≤ x4 ∧ (x4 : Int) < 4 ∧ zR32 (x2 * 4) ∧ ∃ Q1, zCi d 67 [.inl x1, .inl x4] M Q1 ∧ ∀ v1 M1, Q1 v1 M1 →
    zR32 ((x2 * 4) + v1) ∧ (0 : Int) ≤ ((x2 * 4) + v1) ∧ ((x2 * 4) + v1 : Int) < 24 ∧ zR32 ((M 12 x4.toNat) * (M1 5 (((x2 * 4) + v1).toNat))) ∧ zR32 (x3 + ((M 12 x4.toNat) * (M1 5 (((x2 * 4) + v1).toNat)))) ∧ zR32 (x4 + 1) ∧ zBg (d + 1) 65 5 [zR 4, zI x1, zI x2, zI (x3 + ((M 12 x4.toNat) * (M1 5 (((x2 * 4) + v1).toNat)))), zI (x4 + 1)] [] M1 Q)) : zBg (d + 1) 65 5 [zR 4, zI x1, zI x2, zI x3, zI x4] [] M Q :=
  zvc_ok (I := zm65) (cuts := [(5, [true, true, true, true, true])]) (n := 34) rfl h
theorem zk65 {d : Nat} {M : zMem} {Q : Option zV → zMem → Prop} {x1 : Int} {x2 : Int} (h : zBg d 65 0 [zR 4, zI x1, zI x2, none, none] [] M Q) : zCt d 65 [.inr (.inr 4), .inl x1, .inl x2] M Q := zCt_of (I := zm65) rfl rfl h
/-! CommaCopies$State.reorder(II)V , as 66 -/
set_option maxRecDepth 20000 in
theorem zv66_0 {d : Nat} {M : zMem} {Q : Option zV → zMem → Prop} (x1 : Int) (x2 : Int) (h :
  zBg d 66 2 [zR 4, zI x1, zI x2, zI 0, none] [] M Q) : zBg d 66 0 [zR 4, zI x1, zI x2, none, none] [] M Q :=
  zvc_ok (I := zm66) (cuts := [(2, [true, true, true, true, false])]) (n := 30) rfl h
set_option maxRecDepth 20000 in
theorem zv66_2 {d : Nat} {M : zMem} {Q : Option zV → zMem → Prop} (x1 : Int) (x2 : Int) (x3 : Int) (h :
  ((x3 : Int) ≥ (M 4 9) →
    Q none M) ∧
  (¬ (x3 : Int) ≥ (M 4 9) →
    zR32 (x3 * 6) ∧ zR32 ((x3 * 6) + x1) ∧ (0 : Int) ≤ ((x3 * 6) + x1) ∧ ((x3 * 6) + x1 : Int) < 48 ∧ ∃ Q1, zCi d 67 [.inl x2, .inl (M 7 (((x3 * 6) + x1).toNat))] M Q1 ∧ ∀ v1 M1, Q1 v1 M1 →
    (0 : Int) ≤ ((x3 * 6) + x1) ∧ ((x3 * 6) + x1 : Int) < 48 ∧ zR32 (x3 + 1) ∧ zBg (d + 1) 66 2 [zR 4, zI x1, zI x2, zI (x3 + 1), none] [] (zup M1 7 (((x3 * 6) + x1).toNat) v1) Q)) : zBg (d + 1) 66 2 [zR 4, zI x1, zI x2, zI x3, none] [] M Q :=
  zvc_ok (I := zm66) (cuts := [(2, [true, true, true, true, false])]) (n := 30) rfl h
theorem zk66 {d : Nat} {M : zMem} {Q : Option zV → zMem → Prop} {x1 : Int} {x2 : Int} (h : zBg d 66 0 [zR 4, zI x1, zI x2, none, none] [] M Q) : zCt d 66 [.inr (.inr 4), .inl x1, .inl x2] M Q := zCt_of (I := zm66) rfl rfl h
/-! CommaCopies$State.standsFor(II)I , as 67 -/
set_option maxRecDepth 20000 in
theorem zv67_0 {d : Nat} {M : zMem} {Q : Option zV → zMem → Prop} (x0 : Int) (x1 : Int) (h :
  zR32 (3 - x1) ∧ zR32 (2 * (3 - x1)) ∧ Q (zI (ziand (zishr x0 (2 * (3 - x1))) 3)) M) : zBg d 67 0 [zI x0, zI x1] [] M Q :=
  zvc_ok (I := zm67) (cuts := []) (n := 15) rfl h
theorem zk67 {d : Nat} {M : zMem} {Q : Option zV → zMem → Prop} {x0 : Int} {x1 : Int} (h : zBg d 67 0 [zI x0, zI x1] [] M Q) : zCt d 67 [.inl x0, .inl x1] M Q := zCt_of (I := zm67) rfl rfl h
/-! CommaCopies$State.isOrder(II)Z , as 68 -/
set_option maxRecDepth 20000 in
theorem zv68_0 {d : Nat} {M : zMem} {Q : Option zV → zMem → Prop} (x0 : Int) (x1 : Int) (h :
  zBg d 68 4 [zI x0, zI x1, zI 0, zI 0, none] [] M Q) : zBg d 68 0 [zI x0, zI x1, none, none, none] [] M Q :=
  zvc_ok (I := zm68) (cuts := [(4, [true, true, true, true, false])]) (n := 39) rfl h
set_option maxRecDepth 20000 in
theorem zv68_4 {d : Nat} {M : zMem} {Q : Option zV → zMem → Prop} (x0 : Int) (x1 : Int) (x2 : Int) (x3 : Int) (h :
  ((x3 : Int) ≥ 4 →
    ((x2 : Int) ≠ 15 →
      ((0 : Int) = 0 ∨ (0 : Int) = 1) ∧ Q (zI 0) M) ∧
    (¬ (x2 : Int) ≠ 15 →
      ((1 : Int) = 0 ∨ (1 : Int) = 1) ∧ Q (zI 1) M)) ∧
  (¬ (x3 : Int) ≥ 4 →
    ∃ Q1, zCi d 67 [.inl x0, .inl x3] M Q1 ∧ ∀ v1 M1, Q1 v1 M1 →
    ((x3 : Int) < x1 →
      zR32 (x3 + 1) ∧ zBg (d + 1) 68 4 [zI x0, zI x1, zI (zior x2 (zishl 1 v1)), zI (x3 + 1), none] [] M1 Q) ∧
    (¬ (x3 : Int) < x1 →
      ((v1 : Int) = x3 →
        zR32 (x3 + 1) ∧ zBg (d + 1) 68 4 [zI x0, zI x1, zI (zior x2 (zishl 1 v1)), zI (x3 + 1), none] [] M1 Q) ∧
      (¬ (v1 : Int) = x3 →
        ((0 : Int) = 0 ∨ (0 : Int) = 1) ∧ Q (zI 0) M1)))) : zBg (d + 1) 68 4 [zI x0, zI x1, zI x2, zI x3, none] [] M Q :=
  zvc_ok (I := zm68) (cuts := [(4, [true, true, true, true, false])]) (n := 39) rfl h
theorem zk68 {d : Nat} {M : zMem} {Q : Option zV → zMem → Prop} {x0 : Int} {x1 : Int} (h : zBg d 68 0 [zI x0, zI x1, none, none, none] [] M Q) : zCt d 68 [.inl x0, .inl x1] M Q := zCt_of (I := zm68) rfl rfl h
/-! CommaCopies$Tape.append(JI)I , as 69 -/
set_option maxRecDepth 20000 in
theorem zv69_0 {d : Nat} {M : zMem} {Q : Option zV → zMem → Prop} (x1 : Int) (x3 : Int) (h :
  ((x3 : Int) < 1 →
    Q (zI (-1)) M) ∧
  (¬ (x3 : Int) < 1 →
    ((x3 : Int) ≤ 8 →
      zBg d 69 16 [zR 2, zL x1, none, zI x3, zI 0] [] M Q) ∧
    (¬ (x3 : Int) ≤ 8 →
      Q (zI (-1)) M))) : zBg d 69 0 [zR 2, zL x1, none, zI x3, none] [] M Q :=
  zvc_ok (I := zm69) (cuts := [(16, [true, true, false, true, true]), (71, [true, true, false, false, true])]) (n := 66) rfl h
set_option maxRecDepth 20000 in
theorem zv69_16 {d : Nat} {M : zMem} {Q : Option zV → zMem → Prop} (x1 : Int) (x3 : Int) (x4 : Int) (h :
  ((x4 : Int) ≥ x3 →
    zR32 (120 - x3) ∧ ((M 2 1 : Int) ≤ (120 - x3) →
      zR32 (x3 - 1) ∧ zBg (d + 1) 69 71 [zR 2, zL x1, none, none, zI (x3 - 1)] [] M Q) ∧
    (¬ (M 2 1 : Int) ≤ (120 - x3) →
      Q (zI (-3)) M)) ∧
  (¬ (x4 : Int) ≥ x3 →
    ∃ Q1, zCi d 70 [.inr (.inl x1), .inl x4] M Q1 ∧ ∀ v1 M1, Q1 v1 M1 →
    ((v1 : Int) < 32 →
      Q (zI (-1)) M1) ∧
    (¬ (v1 : Int) < 32 →
      ∃ Q2, zCi d 70 [.inr (.inl x1), .inl x4] M1 Q2 ∧ ∀ v2 M2, Q2 v2 M2 →
      ((v2 : Int) ≤ 126 →
        zR32 (x4 + 1) ∧ zBg (d + 1) 69 16 [zR 2, zL x1, none, zI x3, zI (x4 + 1)] [] M2 Q) ∧
      (¬ (v2 : Int) ≤ 126 →
        Q (zI (-1)) M2)))) : zBg (d + 1) 69 16 [zR 2, zL x1, none, zI x3, zI x4] [] M Q :=
  zvc_ok (I := zm69) (cuts := [(16, [true, true, false, true, true]), (71, [true, true, false, false, true])]) (n := 66) rfl h
set_option maxRecDepth 20000 in
theorem zv69_71 {d : Nat} {M : zMem} {Q : Option zV → zMem → Prop} (x1 : Int) (x4 : Int) (h :
  ((x4 : Int) < 0 →
    Q (zI (M 2 1)) M) ∧
  (¬ (x4 : Int) < 0 →
    ∃ Q1, zCi d 70 [.inr (.inl x1), .inl x4] M Q1 ∧ ∀ v1 M1, Q1 v1 M1 →
    (0 : Int) ≤ (M 2 1) ∧ (M 2 1 : Int) < 120 ∧ zR32 ((M1 2 1) + 1) ∧ zR32 (x4 + (-1)) ∧ zBg (d + 1) 69 71 [zR 2, zL x1, none, none, zI (x4 + (-1))] [] (zup (zup M1 3 ((M 2 1).toNat) (zi2b (zi2b v1))) 2 1 ((M1 2 1) + 1)) Q)) : zBg (d + 1) 69 71 [zR 2, zL x1, none, none, zI x4] [] M Q :=
  zvc_ok (I := zm69) (cuts := [(16, [true, true, false, true, true]), (71, [true, true, false, false, true])]) (n := 66) rfl h
theorem zk69 {d : Nat} {M : zMem} {Q : Option zV → zMem → Prop} {x1 : Int} {x3 : Int} (h : zBg d 69 0 [zR 2, zL x1, none, zI x3, none] [] M Q) : zCt d 69 [.inr (.inr 2), .inr (.inl x1), .inl x3] M Q := zCt_of (I := zm69) rfl rfl h
/-! CommaCopies$Tape.byteOf(JI)I , as 70 -/
set_option maxRecDepth 20000 in
theorem zv70_0 {d : Nat} {M : zMem} {Q : Option zV → zMem → Prop} (x0 : Int) (x2 : Int) (h :
  zR32 (8 * x2) ∧ Q (zI (ziand (zl2i (zlushr x0 (8 * x2))) 255)) M) : zBg d 70 0 [zL x0, none, zI x2] [] M Q :=
  zvc_ok (I := zm70) (cuts := []) (n := 14) rfl h
theorem zk70 {d : Nat} {M : zMem} {Q : Option zV → zMem → Prop} {x0 : Int} {x2 : Int} (h : zBg d 70 0 [zL x0, none, zI x2] [] M Q) : zCt d 70 [.inr (.inl x0), .inl x2] M Q := zCt_of (I := zm70) rfl rfl h
/-! CommaCopies.type(JI)I , as 71 -/
set_option maxRecDepth 20000 in
theorem zv71_0 {d : Nat} {M : zMem} {Q : Option zV → zMem → Prop} (x1 : Int) (x3 : Int) (h :
  ∃ Q1, zCi d 69 [.inr (.inr 2), .inr (.inl x1), .inl x3] M Q1 ∧ ∀ v1 M1, Q1 v1 M1 →
  Q (zI v1) M1) : zBg (d + 1) 71 0 [zR 0, zL x1, none, zI x3] [] M Q :=
  zvc_ok (I := zm71) (cuts := []) (n := 11) rfl h
theorem zk71 {d : Nat} {M : zMem} {Q : Option zV → zMem → Prop} {x1 : Int} {x3 : Int} (h : zBg d 71 0 [zR 0, zL x1, none, zI x3] [] M Q) : zCt d 71 [.inr (.inr 0), .inr (.inl x1), .inl x3] M Q := zCt_of (I := zm71) rfl rfl h
/-! CommaCopies.letter()I , as 72 -/
set_option maxRecDepth 20000 in
theorem zv72_0 {d : Nat} {M : zMem} {Q : Option zV → zMem → Prop} (h :
  ∃ Q1, zCi d 31 [.inr (.inr 3), .inl (M 2 1)] M Q1 ∧ ∀ v1 M1, Q1 v1 M1 →
  ((v1 : Int) ≥ 0 →
    ((v1 : Int) ≥ 0 →
      zR32 ((-20) - v1) ∧ Q (zI ((-20) - v1)) (zup M1 2 1 0)) ∧
    (¬ (v1 : Int) ≥ 0 →
      Q (zI (M1 13 6)) (zup M1 2 1 0))) ∧
  (¬ (v1 : Int) ≥ 0 →
    ∃ Q2, zCv d 54 [.inr (.inr 4), .inr (.inr 2)] M1 Q2 ∧ ∀ M2, Q2 M2 →
    ((v1 : Int) ≥ 0 →
      zR32 ((-20) - v1) ∧ Q (zI ((-20) - v1)) (zup M2 2 1 0)) ∧
    (¬ (v1 : Int) ≥ 0 →
      Q (zI (M2 13 6)) (zup M2 2 1 0)))) : zBg (d + 1) 72 0 [zR 0, none] [] M Q :=
  zvc_ok (I := zm72) (cuts := []) (n := 35) rfl h
theorem zk72 {d : Nat} {M : zMem} {Q : Option zV → zMem → Prop} (h : zBg d 72 0 [zR 0, none] [] M Q) : zCt d 72 [.inr (.inr 0)] M Q := zCt_of (I := zm72) rfl rfl h
/-! CommaCopies.choices(I)I , as 73 -/
set_option maxRecDepth 20000 in
theorem zv73_0 {d : Nat} {M : zMem} {Q : Option zV → zMem → Prop} (x1 : Int) (h :
  ∃ Q1, zCi d 34 [.inr (.inr 13), .inl x1] M Q1 ∧ ∀ v1 M1, Q1 v1 M1 →
  ((v1 : Int) = 0 →
    Q (zI (-1)) M1) ∧
  (¬ (v1 : Int) = 0 →
    (0 : Int) ≤ x1 ∧ (x1 : Int) < 6 ∧ Q (zI (M1 15 x1.toNat)) M1)) : zBg (d + 1) 73 0 [zR 0, zI x1] [] M Q :=
  zvc_ok (I := zm73) (cuts := []) (n := 20) rfl h
theorem zk73 {d : Nat} {M : zMem} {Q : Option zV → zMem → Prop} {x1 : Int} (h : zBg d 73 0 [zR 0, zI x1] [] M Q) : zCt d 73 [.inr (.inr 0), .inl x1] M Q := zCt_of (I := zm73) rfl rfl h
/-! CommaCopies.cost(III)I , as 74 -/
set_option maxRecDepth 20000 in
theorem zv74_0 {d : Nat} {M : zMem} {Q : Option zV → zMem → Prop} (x1 : Int) (x2 : Int) (x3 : Int) (h :
  ∃ Q1, zCi d 35 [.inr (.inr 13), .inl x1, .inl x2] M Q1 ∧ ∀ v1 M1, Q1 v1 M1 →
  ((v1 : Int) = 0 →
    Q (zI (-1)) M1) ∧
  (¬ (v1 : Int) = 0 →
    ((x3 : Int) < 0 →
      Q (zI (-1)) M1) ∧
    (¬ (x3 : Int) < 0 →
      ((x3 : Int) ≤ 9 →
        zR32 (x1 * 4) ∧ zR32 ((x1 * 4) + x2) ∧ (0 : Int) ≤ ((x1 * 4) + x2) ∧ ((x1 * 4) + x2 : Int) < 24 ∧ (0 : Int) ≤ ((x1 * 4) + x2) ∧ ((x1 * 4) + x2 : Int) < 24 ∧ Q (zI (M1 5 (((x1 * 4) + x2).toNat))) (zup M1 5 (((x1 * 4) + x2).toNat) x3)) ∧
      (¬ (x3 : Int) ≤ 9 →
        Q (zI (-1)) M1)))) : zBg (d + 1) 74 0 [zR 0, zI x1, zI x2, zI x3, none, none] [] M Q :=
  zvc_ok (I := zm74) (cuts := []) (n := 39) rfl h
theorem zk74 {d : Nat} {M : zMem} {Q : Option zV → zMem → Prop} {x1 : Int} {x2 : Int} {x3 : Int} (h : zBg d 74 0 [zR 0, zI x1, zI x2, zI x3, none, none] [] M Q) : zCt d 74 [.inr (.inr 0), .inl x1, .inl x2, .inl x3] M Q := zCt_of (I := zm74) rfl rfl h
/-! CommaCopies.mended(II)I , as 75 -/
set_option maxRecDepth 20000 in
theorem zv75_0 {d : Nat} {M : zMem} {Q : Option zV → zMem → Prop} (x1 : Int) (x2 : Int) (h :
  ∃ Q1, zCi d 34 [.inr (.inr 13), .inl x1] M Q1 ∧ ∀ v1 M1, Q1 v1 M1 →
  ((v1 : Int) = 0 →
    Q (zI (-101)) M1) ∧
  (¬ (v1 : Int) = 0 →
    ((x2 : Int) = (-1) →
      (0 : Int) ≤ x1 ∧ (x1 : Int) < 6 ∧ (0 : Int) ≤ x1 ∧ (x1 : Int) < 6 ∧ Q (zI (M1 6 x1.toNat)) (zup M1 6 x1.toNat x2)) ∧
    (¬ (x2 : Int) = (-1) →
      ∃ Q2, zCi d 35 [.inr (.inr 13), .inl x1, .inl x2] M1 Q2 ∧ ∀ v2 M2, Q2 v2 M2 →
      ((v2 : Int) ≠ 0 →
        (0 : Int) ≤ x1 ∧ (x1 : Int) < 6 ∧ (0 : Int) ≤ x1 ∧ (x1 : Int) < 6 ∧ Q (zI (M2 6 x1.toNat)) (zup M2 6 x1.toNat x2)) ∧
      (¬ (v2 : Int) ≠ 0 →
        Q (zI (-101)) M2)))) : zBg (d + 1) 75 0 [zR 0, zI x1, zI x2, none] [] M Q :=
  zvc_ok (I := zm75) (cuts := []) (n := 37) rfl h
theorem zk75 {d : Nat} {M : zMem} {Q : Option zV → zMem → Prop} {x1 : Int} {x2 : Int} (h : zBg d 75 0 [zR 0, zI x1, zI x2, none] [] M Q) : zCt d 75 [.inr (.inr 0), .inl x1, .inl x2] M Q := zCt_of (I := zm75) rfl rfl h
/-! CommaCopies.copyOf(III)I , as 76 -/
set_option maxRecDepth 20000 in
theorem zv76_0 {d : Nat} {M : zMem} {Q : Option zV → zMem → Prop} (x1 : Int) (x2 : Int) (x3 : Int) (h :
  ∃ Q1, zCi d 50 [.inr (.inr 32), .inl x1, .inl x2, .inl x3, .inl (M 13 6)] M Q1 ∧ ∀ v1 M1, Q1 v1 M1 →
  ((v1 : Int) ≥ 0 →
    zR32 (x1 * 12) ∧ zR32 ((x1 * 12) + x3) ∧ ∃ Q2, zCi d 58 [.inr (.inr 4), .inr (.inr 35), .inl ((x1 * 12) + x3)] M1 Q2 ∧ ∀ v2 M2, Q2 v2 M2 →
    Q (zI v2) M2) ∧
  (¬ (v1 : Int) ≥ 0 →
    Q (zI v1) M1)) : zBg (d + 1) 76 0 [zR 0, zI x1, zI x2, zI x3, none] [] M Q :=
  zvc_ok (I := zm76) (cuts := []) (n := 32) rfl h
theorem zk76 {d : Nat} {M : zMem} {Q : Option zV → zMem → Prop} {x1 : Int} {x2 : Int} {x3 : Int} (h : zBg d 76 0 [zR 0, zI x1, zI x2, zI x3, none] [] M Q) : zCt d 76 [.inr (.inr 0), .inl x1, .inl x2, .inl x3] M Q := zCt_of (I := zm76) rfl rfl h
/-! CommaCopies.choice(II)I , as 77 -/
set_option maxRecDepth 20000 in
theorem zv77_0 {d : Nat} {M : zMem} {Q : Option zV → zMem → Prop} (x1 : Int) (x2 : Int) (h :
  ∃ Q1, zCi d 56 [.inr (.inr 4), .inl x1] M Q1 ∧ ∀ v1 M1, Q1 v1 M1 →
  ((v1 : Int) = 0 →
    Q (zI (-1)) M1) ∧
  (¬ (v1 : Int) = 0 →
    ∃ Q2, zCi d 34 [.inr (.inr 13), .inl x2] M1 Q2 ∧ ∀ v2 M2, Q2 v2 M2 →
    ((v2 : Int) ≠ 0 →
      zR32 (x1 * 6) ∧ zR32 ((x1 * 6) + x2) ∧ (0 : Int) ≤ ((x1 * 6) + x2) ∧ ((x1 * 6) + x2 : Int) < 48 ∧ Q (zI (M2 7 (((x1 * 6) + x2).toNat))) M2) ∧
    (¬ (v2 : Int) ≠ 0 →
      Q (zI (-1)) M2))) : zBg (d + 1) 77 0 [zR 0, zI x1, zI x2] [] M Q :=
  zvc_ok (I := zm77) (cuts := []) (n := 28) rfl h
theorem zk77 {d : Nat} {M : zMem} {Q : Option zV → zMem → Prop} {x1 : Int} {x2 : Int} (h : zBg d 77 0 [zR 0, zI x1, zI x2] [] M Q) : zCt d 77 [.inr (.inr 0), .inl x1, .inl x2] M Q := zCt_of (I := zm77) rfl rfl h
/-! CommaCopies.burn(I)I , as 78 -/
set_option maxRecDepth 20000 in
theorem zv78_0 {d : Nat} {M : zMem} {Q : Option zV → zMem → Prop} (x1 : Int) (h :
  ∃ Q1, zCi d 56 [.inr (.inr 4), .inl x1] M Q1 ∧ ∀ v1 M1, Q1 v1 M1 →
  ((v1 : Int) ≠ 0 →
    zR32 ((M1 4 9) - x1) ∧ zR32 (((M1 4 9) - x1) - 1) ∧ zR32 (x1 + 1) ∧ zR32 ((x1 + 1) * 6) ∧ zR32 (x1 * 6) ∧ zR32 ((((M1 4 9) - x1) - 1) * 6) ∧ (0 : Int) ≤ ((x1 + 1) * 6) ∧ (0 : Int) ≤ (x1 * 6) ∧ (0 : Int) ≤ ((((M1 4 9) - x1) - 1) * 6) ∧ (((x1 + 1) * 6) : Int) + ((((M1 4 9) - x1) - 1) * 6) ≤ 48 ∧ ((x1 * 6) : Int) + ((((M1 4 9) - x1) - 1) * 6) ≤ 48 ∧ zR32 ((M1 4 9) - 1) ∧ Q (zI ((M1 4 9) - 1)) (zup (zcpy M1 7 (((x1 + 1) * 6).toNat) 7 ((x1 * 6).toNat) (((((M1 4 9) - x1) - 1) * 6).toNat)) 4 9 ((M1 4 9) - 1))) ∧
  (¬ (v1 : Int) ≠ 0 →
    Q (zI (-1)) M1)) : zBg (d + 1) 78 0 [zR 0, zI x1, none] [] M Q :=
  zvc_ok (I := zm78) (cuts := []) (n := 49) rfl h
theorem zk78 {d : Nat} {M : zMem} {Q : Option zV → zMem → Prop} {x1 : Int} (h : zBg d 78 0 [zR 0, zI x1, none] [] M Q) : zCt d 78 [.inr (.inr 0), .inl x1] M Q := zCt_of (I := zm78) rfl rfl h
/-! CommaCopies.reads(II)I , as 79 -/
set_option maxRecDepth 20000 in
theorem zv79_0 {d : Nat} {M : zMem} {Q : Option zV → zMem → Prop} (x1 : Int) (x2 : Int) (h :
  ∃ Q1, zCi d 56 [.inr (.inr 4), .inl x1] M Q1 ∧ ∀ v1 M1, Q1 v1 M1 →
  ((v1 : Int) = 0 →
    Q (zI (-1)) M1) ∧
  (¬ (v1 : Int) = 0 →
    ((x2 : Int) ≥ 0 →
      zR32 (x1 * 6) ∧ ∃ Q2, zCi d 39 [.inr (.inr 13), .inr (.inr 7), .inl (x1 * 6), .inl x2] M1 Q2 ∧ ∀ v2 M2, Q2 v2 M2 →
      Q (zI v2) M2) ∧
    (¬ (x2 : Int) ≥ 0 →
      Q (zI (-1)) M1))) : zBg (d + 1) 79 0 [zR 0, zI x1, zI x2] [] M Q :=
  zvc_ok (I := zm79) (cuts := []) (n := 26) rfl h
theorem zk79 {d : Nat} {M : zMem} {Q : Option zV → zMem → Prop} {x1 : Int} {x2 : Int} (h : zBg d 79 0 [zR 0, zI x1, zI x2] [] M Q) : zCt d 79 [.inr (.inr 0), .inl x1, .inl x2] M Q := zCt_of (I := zm79) rfl rfl h
/-! CommaCopies.costOf(I)I , as 80 -/
set_option maxRecDepth 20000 in
theorem zv80_0 {d : Nat} {M : zMem} {Q : Option zV → zMem → Prop} (x1 : Int) (h :
  ∃ Q1, zCi d 56 [.inr (.inr 4), .inl x1] M Q1 ∧ ∀ v1 M1, Q1 v1 M1 →
  ((v1 : Int) = 0 →
    Q (zI (-1)) M1) ∧
  (¬ (v1 : Int) = 0 →
    ∃ Q2, zCi d 63 [.inr (.inr 4), .inl x1] M1 Q2 ∧ ∀ v2 M2, Q2 v2 M2 →
    Q (zI v2) M2)) : zBg (d + 1) 80 0 [zR 0, zI x1] [] M Q :=
  zvc_ok (I := zm80) (cuts := []) (n := 17) rfl h
theorem zk80 {d : Nat} {M : zMem} {Q : Option zV → zMem → Prop} {x1 : Int} (h : zBg d 80 0 [zR 0, zI x1] [] M Q) : zCt d 80 [.inr (.inr 0), .inl x1] M Q := zCt_of (I := zm80) rfl rfl h
/-! CommaCopies.set(II)I , as 81 -/
set_option maxRecDepth 20000 in
theorem zv81_0 {d : Nat} {M : zMem} {Q : Option zV → zMem → Prop} (x1 : Int) (x2 : Int) (h :
  ((x1 : Int) ≠ 0 →
    ((x1 : Int) ≠ 1 →
      Q (zI (-1)) M) ∧
    (¬ (x1 : Int) ≠ 1 →
      ((x2 : Int) < 0 →
        Q (zI (-1)) M) ∧
      (¬ (x2 : Int) < 0 →
        ((x2 : Int) > 2 →
          Q (zI (-1)) M) ∧
        (¬ (x2 : Int) > 2 →
          Q (zI (M 4 12)) (zup M 4 12 x2))))) ∧
  (¬ (x1 : Int) ≠ 0 →
    ((x2 : Int) < 1 →
      ((x1 : Int) ≠ 1 →
        Q (zI (-1)) M) ∧
      (¬ (x1 : Int) ≠ 1 →
        ((x2 : Int) < 0 →
          Q (zI (-1)) M) ∧
        (¬ (x2 : Int) < 0 →
          ((x2 : Int) > 2 →
            Q (zI (-1)) M) ∧
          (¬ (x2 : Int) > 2 →
            Q (zI (M 4 12)) (zup M 4 12 x2))))) ∧
    (¬ (x2 : Int) < 1 →
      ((x2 : Int) > 3 →
        ((x1 : Int) ≠ 1 →
          Q (zI (-1)) M) ∧
        (¬ (x1 : Int) ≠ 1 →
          ((x2 : Int) < 0 →
            Q (zI (-1)) M) ∧
          (¬ (x2 : Int) < 0 →
            ((x2 : Int) > 2 →
              Q (zI (-1)) M) ∧
            (¬ (x2 : Int) > 2 →
              Q (zI (M 4 12)) (zup M 4 12 x2))))) ∧
      (¬ (x2 : Int) > 3 →
        Q (zI (M 4 11)) (zup M 4 11 x2))))) : zBg d 81 0 [zR 0, zI x1, zI x2, none] [] M Q :=
  zvc_ok (I := zm81) (cuts := []) (n := 43) rfl h
theorem zk81 {d : Nat} {M : zMem} {Q : Option zV → zMem → Prop} {x1 : Int} {x2 : Int} (h : zBg d 81 0 [zR 0, zI x1, zI x2, none] [] M Q) : zCt d 81 [.inr (.inr 0), .inl x1, .inl x2] M Q := zCt_of (I := zm81) rfl rfl h
/-! CommaCopies.count(I)I , as 82 -/
set_option maxRecDepth 20000 in
theorem zv82_0 {d : Nat} {M : zMem} {Q : Option zV → zMem → Prop} (x1 : Int) (h :
  ((x1 = 0 →
    Q (zI (M 13 6)) M) ∧ (x1 = 1 →
    Q (zI (M 4 9)) M) ∧ (x1 = 2 →
    Q (zI (M 4 10)) M) ∧ (x1 = 3 →
    Q (zI (M 13 5)) M) ∧ (x1 = 4 →
    ∃ Q1, zCr d 108 [.inr (.inr 0)] M Q1 ∧ ∀ M1, Q1 M1 →
    Q (zI (M1 42 13)) M1) ∧ (x1 = 5 →
    ∃ Q2, zCi d 61 [.inr (.inr 4)] M Q2 ∧ ∀ v2 M2, Q2 v2 M2 →
    Q (zI v2) M2) ∧ True) ∧ ((x1 < 0 ∨ 5 < x1) →
    Q (zI (-1)) M)) : zBg (d + 1) 82 0 [zR 0, zI x1] [] M Q :=
  zvc_ok (I := zm82) (cuts := []) (n := 35) rfl h
theorem zk82 {d : Nat} {M : zMem} {Q : Option zV → zMem → Prop} {x1 : Int} (h : zBg d 82 0 [zR 0, zI x1] [] M Q) : zCt d 82 [.inr (.inr 0), .inl x1] M Q := zCt_of (I := zm82) rfl rfl h
/-! CommaCopies.print(II)I , as 83 -/
set_option maxRecDepth 20000 in
theorem zv83_0 {d : Nat} {M : zMem} {Q : Option zV → zMem → Prop} (x1 : Int) (x2 : Int) (h :
  ∃ Q1, zCi d 35 [.inr (.inr 13), .inl x1, .inl x2] M Q1 ∧ ∀ v1 M1, Q1 v1 M1 →
  ((v1 : Int) ≠ 0 →
    (0 : Int) ≤ x1 ∧ (x1 : Int) < 6 ∧ (0 : Int) ≤ x1 ∧ (x1 : Int) < 6 ∧ Q (zI (M1 8 x1.toNat)) (zup M1 8 x1.toNat x2)) ∧
  (¬ (v1 : Int) ≠ 0 →
    ∃ Q2, zCi d 34 [.inr (.inr 13), .inl x1] M1 Q2 ∧ ∀ v2 M2, Q2 v2 M2 →
    ((v2 : Int) = 0 →
      Q (zI (-1)) M2) ∧
    (¬ (v2 : Int) = 0 →
      ((x2 : Int) = 4 →
        (0 : Int) ≤ x1 ∧ (x1 : Int) < 6 ∧ (0 : Int) ≤ x1 ∧ (x1 : Int) < 6 ∧ Q (zI (M2 8 x1.toNat)) (zup M2 8 x1.toNat x2)) ∧
      (¬ (x2 : Int) = 4 →
        ((x2 : Int) = 5 →
          (0 : Int) ≤ x1 ∧ (x1 : Int) < 6 ∧ (0 : Int) ≤ x1 ∧ (x1 : Int) < 6 ∧ Q (zI (M2 8 x1.toNat)) (zup M2 8 x1.toNat x2)) ∧
        (¬ (x2 : Int) = 5 →
          Q (zI (-1)) M2))))) : zBg (d + 1) 83 0 [zR 0, zI x1, zI x2, none] [] M Q :=
  zvc_ok (I := zm83) (cuts := []) (n := 40) rfl h
theorem zk83 {d : Nat} {M : zMem} {Q : Option zV → zMem → Prop} {x1 : Int} {x2 : Int} (h : zBg d 83 0 [zR 0, zI x1, zI x2, none] [] M Q) : zCt d 83 [.inr (.inr 0), .inl x1, .inl x2] M Q := zCt_of (I := zm83) rfl rfl h
/-! CommaCopies.printed()I , as 84 -/
set_option maxRecDepth 20000 in
theorem zv84_0 {d : Nat} {M : zMem} {Q : Option zV → zMem → Prop} (h :
  ((M 13 4 : Int) ≠ 0 →
    ∃ Q1, zCi d 42 [.inr (.inr 47), .inr (.inr 13), .inr (.inr 3), .inl (M 2 1), .inr (.inr 8)] (zup M 2 1 0) Q1 ∧ ∀ v1 M1, Q1 v1 M1 →
    ((v1 : Int) = 0 →
      Q (zI (-4)) M1) ∧
    (¬ (v1 : Int) = 0 →
      Q (zI 1) M1)) ∧
  (¬ (M 13 4 : Int) ≠ 0 →
    Q (zI (-2)) (zup M 2 1 0))) : zBg (d + 1) 84 0 [zR 0, none] [] M Q :=
  zvc_ok (I := zm84) (cuts := []) (n := 38) rfl h
theorem zk84 {d : Nat} {M : zMem} {Q : Option zV → zMem → Prop} (h : zBg d 84 0 [zR 0, none] [] M Q) : zCt d 84 [.inr (.inr 0)] M Q := zCt_of (I := zm84) rfl rfl h
