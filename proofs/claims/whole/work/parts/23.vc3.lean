/-! CommaCopiesModel.readsAs([II)I , as 124 -/
set_option maxRecDepth 20000 in
theorem zv124_0 {d : Nat} {M : zMem} {Q : Option zV → zMem → Prop} (a1 : Nat) (x2 : Int) (h :
  zBg d 124 8 [zR 55, zR a1, zI x2, zI 0, zI 0, zI 0, none, none] [] M Q) : zBg d 124 0 [zR 55, zR a1, zI x2, none, none, none, none, none] [] M Q :=
  zvc_ok (I := zm124) (cuts := [(8, [true, true, true, true, true, true, false, false]), (61, [true, true, true, true, true, false, true, true])]) (n := 87) rfl h
set_option maxRecDepth 20000 in
theorem zv124_8 {d : Nat} {M : zMem} {Q : Option zV → zMem → Prop} (a1 : Nat) (x2 : Int) (x3 : Int) (x4 : Int) (x5 : Int) (h :
  ((x5 : Int) ≥ (M 55 2) →
    Q (zI x3) M) ∧
  (¬ (x5 : Int) ≥ (M 55 2) →
    (0 : Int) ≤ x5 ∧ (x5 : Int) < 120 ∧ ((M 57 x5.toNat : Int) ≠ 91 →
      (0 : Int) ≤ x5 ∧ (x5 : Int) < 120 ∧ (0 : Int) ≤ x3 ∧ (x3 : Int) < 240 ∧ zR32 (x3 + 1) ∧ zR32 (x5 + 1) ∧ zBg d 124 8 [zR 55, zR a1, zI x2, zI (x3 + 1), zI x4, zI (x5 + 1), none, none] [] (zup M 68 x3.toNat (M 57 x5.toNat)) Q) ∧
    (¬ (M 57 x5.toNat : Int) ≠ 91 →
      zR32 (x2 + x4) ∧ zar a1 0 fun n => (0 : Int) ≤ (x2 + x4) ∧ (x2 + x4 : Int) < n ∧ ((M a1 ((x2 + x4).toNat) : Int) ≠ 4 →
        zR32 (4 * x4) ∧ zR32 ((4 * x4) + (M a1 ((x2 + x4).toNat))) ∧ (0 : Int) ≤ ((4 * x4) + (M a1 ((x2 + x4).toNat))) ∧ ((4 * x4) + (M a1 ((x2 + x4).toNat)) : Int) < 24 ∧ zBg d 124 61 [zR 55, zR a1, zI x2, zI x3, zI x4, none, zI (M a1 ((x2 + x4).toNat)), zI (M 61 (((4 * x4) + (M a1 ((x2 + x4).toNat))).toNat))] [] M Q) ∧
      (¬ (M a1 ((x2 + x4).toNat) : Int) ≠ 4 →
        zBg d 124 61 [zR 55, zR a1, zI x2, zI x3, zI x4, none, zI (M a1 ((x2 + x4).toNat)), zI 0] [] M Q)))) : zBg d 124 8 [zR 55, zR a1, zI x2, zI x3, zI x4, zI x5, none, none] [] M Q :=
  zvc_ok (I := zm124) (cuts := [(8, [true, true, true, true, true, true, false, false]), (61, [true, true, true, true, true, false, true, true])]) (n := 87) rfl h
set_option maxRecDepth 20000 in
theorem zv124_61 {d : Nat} {M : zMem} {Q : Option zV → zMem → Prop} (a1 : Nat) (x2 : Int) (x3 : Int) (x4 : Int) (x6 : Int) (x7 : Int) (h :
  ((x6 : Int) ≥ 4 →
    (0 : Int) ≤ x4 ∧ (x4 : Int) < 6 ∧ zR32 ((M 59 x4.toNat) + 1) ∧ zR32 (x4 + 1) ∧ zBg d 124 8 [zR 55, zR a1, zI x2, zI x3, zI (x4 + 1), zI ((M 59 x4.toNat) + 1), none, none] [] M Q) ∧
  (¬ (x6 : Int) ≥ 4 →
    zR32 (4 * x4) ∧ zR32 ((4 * x4) + x6) ∧ (0 : Int) ≤ ((4 * x4) + x6) ∧ ((4 * x4) + x6 : Int) < 24 ∧ ((x7 : Int) ≥ (M 62 (((4 * x4) + x6).toNat)) →
      (0 : Int) ≤ x4 ∧ (x4 : Int) < 6 ∧ zR32 ((M 59 x4.toNat) + 1) ∧ zR32 (x4 + 1) ∧ zBg d 124 8 [zR 55, zR a1, zI x2, zI x3, zI (x4 + 1), zI ((M 59 x4.toNat) + 1), none, none] [] M Q) ∧
    (¬ (x7 : Int) ≥ (M 62 (((4 * x4) + x6).toNat)) →
      (0 : Int) ≤ x7 ∧ (x7 : Int) < 120 ∧ (0 : Int) ≤ x3 ∧ (x3 : Int) < 240 ∧ zR32 (x3 + 1) ∧ zR32 (x7 + 1) ∧ zBg d 124 61 [zR 55, zR a1, zI x2, zI (x3 + 1), zI x4, none, zI x6, zI (x7 + 1)] [] (zup M 68 x3.toNat (M 57 x7.toNat)) Q))) : zBg d 124 61 [zR 55, zR a1, zI x2, zI x3, zI x4, none, zI x6, zI x7] [] M Q :=
  zvc_ok (I := zm124) (cuts := [(8, [true, true, true, true, true, true, false, false]), (61, [true, true, true, true, true, false, true, true])]) (n := 87) rfl h
theorem zk124 {d : Nat} {M : zMem} {Q : Option zV → zMem → Prop} {a1 : Nat} {x2 : Int} (h : zBg d 124 0 [zR 55, zR a1, zI x2, none, none, none, none, none] [] M Q) : zCt d 124 [.inr (.inr 55), .inr (.inr a1), .inl x2] M Q := zCt_of (I := zm124) rfl rfl h
/-! CommaCopiesModel.reads(II)I , as 125 -/
set_option maxRecDepth 20000 in
theorem zv125_0 {d : Nat} {M : zMem} {Q : Option zV → zMem → Prop} (x1 : Int) (x2 : Int) (h :
  ∃ Q1, zCi d 121 [.inr (.inr 55), .inl x1] M Q1 ∧ ∀ v1 M1, Q1 v1 M1 →
  ((v1 : Int) = 0 →
    Q (zI (-1)) M1) ∧
  (¬ (v1 : Int) = 0 →
    ((x2 : Int) ≥ 0 →
      zR32 (6 * x1) ∧ ∃ Q2, zCi d 124 [.inr (.inr 55), .inr (.inr 65), .inl (6 * x1)] M1 Q2 ∧ ∀ v2 M2, Q2 v2 M2 →
      ((x2 : Int) ≥ v2 →
        Q (zI (-4)) M2) ∧
      (¬ (x2 : Int) ≥ v2 →
        (0 : Int) ≤ x2 ∧ (x2 : Int) < 240 ∧ Q (zI (M2 68 x2.toNat)) M2)) ∧
    (¬ (x2 : Int) ≥ 0 →
      Q (zI (-1)) M1))) : zBg (d + 1) 125 0 [zR 55, zI x1, zI x2, none] [] M Q :=
  zvc_ok (I := zm125) (cuts := []) (n := 31) rfl h
theorem zk125 {d : Nat} {M : zMem} {Q : Option zV → zMem → Prop} {x1 : Int} {x2 : Int} (h : zBg d 125 0 [zR 55, zI x1, zI x2, none] [] M Q) : zCt d 125 [.inr (.inr 55), .inl x1, .inl x2] M Q := zCt_of (I := zm125) rfl rfl h
/-! CommaCopiesModel.costAll(I)I , as 126 -/
set_option maxRecDepth 20000 in
theorem zv126_0 {d : Nat} {M : zMem} {Q : Option zV → zMem → Prop} (x1 : Int) (h :
  zBg d 126 4 [zR 55, zI x1, zI 0, zI 0] [] M Q) : zBg d 126 0 [zR 55, zI x1, none, none] [] M Q :=
  zvc_ok (I := zm126) (cuts := [(4, [true, true, true, true])]) (n := 35) rfl h
set_option maxRecDepth 20000 in
theorem zv126_4 {d : Nat} {M : zMem} {Q : Option zV → zMem → Prop} (x1 : Int) (x2 : Int) (x3 : Int) (h :
  ((x3 : Int) ≥ (M 55 4) →
    Q (zI x2) M) ∧
  (¬ (x3 : Int) ≥ (M 55 4) →
    zR32 (4 * x3) ∧ zR32 (6 * x1) ∧ zR32 ((6 * x1) + x3) ∧ (0 : Int) ≤ ((6 * x1) + x3) ∧ ((6 * x1) + x3 : Int) < 48 ∧ zR32 ((4 * x3) + (M 65 (((6 * x1) + x3).toNat))) ∧ (0 : Int) ≤ ((4 * x3) + (M 65 (((6 * x1) + x3).toNat))) ∧ ((4 * x3) + (M 65 (((6 * x1) + x3).toNat)) : Int) < 24 ∧ zR32 (x2 + (M 63 (((4 * x3) + (M 65 (((6 * x1) + x3).toNat))).toNat))) ∧ zR32 (x3 + 1) ∧ zBg d 126 4 [zR 55, zI x1, zI (x2 + (M 63 (((4 * x3) + (M 65 (((6 * x1) + x3).toNat))).toNat))), zI (x3 + 1)] [] M Q)) : zBg d 126 4 [zR 55, zI x1, zI x2, zI x3] [] M Q :=
  zvc_ok (I := zm126) (cuts := [(4, [true, true, true, true])]) (n := 35) rfl h
theorem zk126 {d : Nat} {M : zMem} {Q : Option zV → zMem → Prop} {x1 : Int} (h : zBg d 126 0 [zR 55, zI x1, none, none] [] M Q) : zCt d 126 [.inr (.inr 55), .inl x1] M Q := zCt_of (I := zm126) rfl rfl h
/-! CommaCopiesModel.costOf(I)I , as 127 -/
set_option maxRecDepth 20000 in
theorem zv127_0 {d : Nat} {M : zMem} {Q : Option zV → zMem → Prop} (x1 : Int) (h :
  ∃ Q1, zCi d 121 [.inr (.inr 55), .inl x1] M Q1 ∧ ∀ v1 M1, Q1 v1 M1 →
  ((v1 : Int) = 0 →
    Q (zI (-1)) M1) ∧
  (¬ (v1 : Int) = 0 →
    ∃ Q2, zCi d 126 [.inr (.inr 55), .inl x1] M1 Q2 ∧ ∀ v2 M2, Q2 v2 M2 →
    Q (zI v2) M2)) : zBg (d + 1) 127 0 [zR 55, zI x1] [] M Q :=
  zvc_ok (I := zm127) (cuts := []) (n := 15) rfl h
theorem zk127 {d : Nat} {M : zMem} {Q : Option zV → zMem → Prop} {x1 : Int} (h : zBg d 127 0 [zR 55, zI x1] [] M Q) : zCt d 127 [.inr (.inr 55), .inl x1] M Q := zCt_of (I := zm127) rfl rfl h
/-! CommaCopiesModel.set(II)I , as 128 -/
set_option maxRecDepth 20000 in
theorem zv128_0 {d : Nat} {M : zMem} {Q : Option zV → zMem → Prop} (x1 : Int) (x2 : Int) (h :
  ∃ Q1, zCi d 110 [.inr (.inl x1), .inr (.inl 0), .inr (.inl 1)] M Q1 ∧ ∀ v1 M1, Q1 v1 M1 →
  ((v1 : Int) = 0 →
    Q (zI (-1)) M1) ∧
  (¬ (v1 : Int) = 0 →
    ((x1 : Int) ≠ 0 →
      ((x1 : Int) ≠ 0 →
        ∃ Q2, zCi d 110 [.inr (.inl x2), .inr (.inl 0), .inr (.inl 2)] M1 Q2 ∧ ∀ v2 M2, Q2 v2 M2 →
        ((v2 : Int) ≠ 0 →
          ((x1 : Int) ≠ 0 →
            ((x1 : Int) ≠ 0 →
              Q (zI (M2 55 15)) (zup M2 55 15 x2)) ∧
            (¬ (x1 : Int) ≠ 0 →
              Q (zI (M2 55 15)) (zup M2 55 14 x2))) ∧
          (¬ (x1 : Int) ≠ 0 →
            ((x1 : Int) ≠ 0 →
              Q (zI (M2 55 14)) (zup M2 55 15 x2)) ∧
            (¬ (x1 : Int) ≠ 0 →
              Q (zI (M2 55 14)) (zup M2 55 14 x2)))) ∧
        (¬ (v2 : Int) ≠ 0 →
          Q (zI (-1)) M2)) ∧
      (¬ (x1 : Int) ≠ 0 →
        ∃ Q3, zCi d 110 [.inr (.inl x2), .inr (.inl 0), .inr (.inl 3)] M1 Q3 ∧ ∀ v3 M3, Q3 v3 M3 →
        ((v3 : Int) ≠ 0 →
          ((x1 : Int) ≠ 0 →
            ((x1 : Int) ≠ 0 →
              Q (zI (M3 55 15)) (zup M3 55 15 x2)) ∧
            (¬ (x1 : Int) ≠ 0 →
              Q (zI (M3 55 15)) (zup M3 55 14 x2))) ∧
          (¬ (x1 : Int) ≠ 0 →
            ((x1 : Int) ≠ 0 →
              Q (zI (M3 55 14)) (zup M3 55 15 x2)) ∧
            (¬ (x1 : Int) ≠ 0 →
              Q (zI (M3 55 14)) (zup M3 55 14 x2)))) ∧
        (¬ (v3 : Int) ≠ 0 →
          Q (zI (-1)) M3))) ∧
    (¬ (x1 : Int) ≠ 0 →
      ((x1 : Int) ≠ 0 →
        ∃ Q4, zCi d 110 [.inr (.inl x2), .inr (.inl 1), .inr (.inl 2)] M1 Q4 ∧ ∀ v4 M4, Q4 v4 M4 →
        ((v4 : Int) ≠ 0 →
          ((x1 : Int) ≠ 0 →
            ((x1 : Int) ≠ 0 →
              Q (zI (M4 55 15)) (zup M4 55 15 x2)) ∧
            (¬ (x1 : Int) ≠ 0 →
              Q (zI (M4 55 15)) (zup M4 55 14 x2))) ∧
          (¬ (x1 : Int) ≠ 0 →
            ((x1 : Int) ≠ 0 →
              Q (zI (M4 55 14)) (zup M4 55 15 x2)) ∧
            (¬ (x1 : Int) ≠ 0 →
              Q (zI (M4 55 14)) (zup M4 55 14 x2)))) ∧
        (¬ (v4 : Int) ≠ 0 →
          Q (zI (-1)) M4)) ∧
      (¬ (x1 : Int) ≠ 0 →
        ∃ Q5, zCi d 110 [.inr (.inl x2), .inr (.inl 1), .inr (.inl 3)] M1 Q5 ∧ ∀ v5 M5, Q5 v5 M5 →
        ((v5 : Int) ≠ 0 →
          ((x1 : Int) ≠ 0 →
            ((x1 : Int) ≠ 0 →
              Q (zI (M5 55 15)) (zup M5 55 15 x2)) ∧
            (¬ (x1 : Int) ≠ 0 →
              Q (zI (M5 55 15)) (zup M5 55 14 x2))) ∧
          (¬ (x1 : Int) ≠ 0 →
            ((x1 : Int) ≠ 0 →
              Q (zI (M5 55 14)) (zup M5 55 15 x2)) ∧
            (¬ (x1 : Int) ≠ 0 →
              Q (zI (M5 55 14)) (zup M5 55 14 x2)))) ∧
        (¬ (v5 : Int) ≠ 0 →
          Q (zI (-1)) M5))))) : zBg (d + 1) 128 0 [zR 55, zI x1, zI x2, none] [] M Q :=
  zvc_ok (I := zm128) (cuts := []) (n := 46) rfl h
theorem zk128 {d : Nat} {M : zMem} {Q : Option zV → zMem → Prop} {x1 : Int} {x2 : Int} (h : zBg d 128 0 [zR 55, zI x1, zI x2, none] [] M Q) : zCt d 128 [.inr (.inr 55), .inl x1, .inl x2] M Q := zCt_of (I := zm128) rfl rfl h
/-! CommaCopiesModel.sizeOf(I)I , as 129 -/
set_option maxRecDepth 20000 in
theorem zv129_0 {d : Nat} {M : zMem} {Q : Option zV → zMem → Prop} (x0 : Int) (h :
  zBg d 129 4 [none, zI 0, zI x0] [] M Q) : zBg d 129 0 [zI x0, none, none] [] M Q :=
  zvc_ok (I := zm129) (cuts := [(4, [false, true, true])]) (n := 21) rfl h
set_option maxRecDepth 20000 in
theorem zv129_4 {d : Nat} {M : zMem} {Q : Option zV → zMem → Prop} (x1 : Int) (x2 : Int) (h :
  ((x2 : Int) = 0 →
    Q (zI x1) M) ∧
  (¬ (x2 : Int) = 0 →
    zR32 (x1 + 1) ∧ zR32 (x2 - 1) ∧ zBg d 129 4 [none, zI (x1 + 1), zI (ziand x2 (x2 - 1))] [] M Q)) : zBg d 129 4 [none, zI x1, zI x2] [] M Q :=
  zvc_ok (I := zm129) (cuts := [(4, [false, true, true])]) (n := 21) rfl h
theorem zk129 {d : Nat} {M : zMem} {Q : Option zV → zMem → Prop} {x0 : Int} (h : zBg d 129 0 [zI x0, none, none] [] M Q) : zCt d 129 [.inl x0] M Q := zCt_of (I := zm129) rfl rfl h
/-! CommaCopiesModel.can(III)I , as 130 -/
set_option maxRecDepth 20000 in
theorem zv130_0 {d : Nat} {M : zMem} {Q : Option zV → zMem → Prop} (x1 : Int) (x2 : Int) (x3 : Int) (h :
  zBg d 130 6 [zR 55, zI x1, zI x2, zI x3, zI 0, zI 0] [] M Q) : zBg d 130 0 [zR 55, zI x1, zI x2, zI x3, none, none] [] M Q :=
  zvc_ok (I := zm130) (cuts := [(6, [true, true, true, true, true, true])]) (n := 88) rfl h
set_option maxRecDepth 20000 in
theorem zv130_6 {d : Nat} {M : zMem} {Q : Option zV → zMem → Prop} (x1 : Int) (x2 : Int) (x3 : Int) (x4 : Int) (x5 : Int) (h :
  ((x5 : Int) ≥ (M 55 12) →
    ∃ Q1, zCi d 129 [.inl x4] M Q1 ∧ ∀ v1 M1, Q1 v1 M1 →
    ((v1 : Int) ≤ 1 →
      ((x3 : Int) ≠ 1 →
        ((x3 : Int) ≠ 2 →
          (0 : Int) ≤ x2 ∧ (x2 : Int) < 6 ∧ ((M1 64 x2.toNat : Int) ≥ 0 →
            (0 : Int) ≤ x2 ∧ (x2 : Int) < 6 ∧ Q (zI (zior (zior x4 0) (zishl 1 (M1 64 x2.toNat)))) M1) ∧
          (¬ (M1 64 x2.toNat : Int) ≥ 0 →
            Q (zI (zior x4 0)) M1)) ∧
        (¬ (x3 : Int) ≠ 2 →
          ((0 : Int) = 0 →
            (0 : Int) ≤ x2 ∧ (x2 : Int) < 6 ∧ ((M1 64 x2.toNat : Int) ≥ 0 →
              (0 : Int) ≤ x2 ∧ (x2 : Int) < 6 ∧ Q (zI (zior (zior x4 0) (zishl 1 (M1 64 x2.toNat)))) M1) ∧
            (¬ (M1 64 x2.toNat : Int) ≥ 0 →
              Q (zI (zior x4 0)) M1)) ∧
          (¬ (0 : Int) = 0 →
            (0 : Int) ≤ x2 ∧ (x2 : Int) < 6 ∧ ((M1 64 x2.toNat : Int) ≥ 0 →
              (0 : Int) ≤ x2 ∧ (x2 : Int) < 6 ∧ Q (zI (zior (zior x4 16) (zishl 1 (M1 64 x2.toNat)))) M1) ∧
            (¬ (M1 64 x2.toNat : Int) ≥ 0 →
              Q (zI (zior x4 16)) M1)))) ∧
      (¬ (x3 : Int) ≠ 1 →
        ((0 : Int) = 0 →
          ((x3 : Int) ≠ 2 →
            (0 : Int) ≤ x2 ∧ (x2 : Int) < 6 ∧ ((M1 64 x2.toNat : Int) ≥ 0 →
              (0 : Int) ≤ x2 ∧ (x2 : Int) < 6 ∧ Q (zI (zior (zior x4 0) (zishl 1 (M1 64 x2.toNat)))) M1) ∧
            (¬ (M1 64 x2.toNat : Int) ≥ 0 →
              Q (zI (zior x4 0)) M1)) ∧
          (¬ (x3 : Int) ≠ 2 →
            ((0 : Int) = 0 →
              (0 : Int) ≤ x2 ∧ (x2 : Int) < 6 ∧ ((M1 64 x2.toNat : Int) ≥ 0 →
                (0 : Int) ≤ x2 ∧ (x2 : Int) < 6 ∧ Q (zI (zior (zior x4 0) (zishl 1 (M1 64 x2.toNat)))) M1) ∧
              (¬ (M1 64 x2.toNat : Int) ≥ 0 →
                Q (zI (zior x4 0)) M1)) ∧
            (¬ (0 : Int) = 0 →
              (0 : Int) ≤ x2 ∧ (x2 : Int) < 6 ∧ ((M1 64 x2.toNat : Int) ≥ 0 →
                (0 : Int) ≤ x2 ∧ (x2 : Int) < 6 ∧ Q (zI (zior (zior x4 16) (zishl 1 (M1 64 x2.toNat)))) M1) ∧
              (¬ (M1 64 x2.toNat : Int) ≥ 0 →
                Q (zI (zior x4 16)) M1)))) ∧
        (¬ (0 : Int) = 0 →
          (0 : Int) ≤ x2 ∧ (x2 : Int) < 6 ∧ zR32 ((zishl 1 (M1 60 x2.toNat)) - 1) ∧ ((x3 : Int) ≠ 2 →
            (0 : Int) ≤ x2 ∧ (x2 : Int) < 6 ∧ ((M1 64 x2.toNat : Int) ≥ 0 →
              (0 : Int) ≤ x2 ∧ (x2 : Int) < 6 ∧ Q (zI (zior (zior ((zishl 1 (M1 60 x2.toNat)) - 1) 0) (zishl 1 (M1 64 x2.toNat)))) M1) ∧
            (¬ (M1 64 x2.toNat : Int) ≥ 0 →
              Q (zI (zior ((zishl 1 (M1 60 x2.toNat)) - 1) 0)) M1)) ∧
          (¬ (x3 : Int) ≠ 2 →
            ((0 : Int) = 0 →
              (0 : Int) ≤ x2 ∧ (x2 : Int) < 6 ∧ ((M1 64 x2.toNat : Int) ≥ 0 →
                (0 : Int) ≤ x2 ∧ (x2 : Int) < 6 ∧ Q (zI (zior (zior ((zishl 1 (M1 60 x2.toNat)) - 1) 0) (zishl 1 (M1 64 x2.toNat)))) M1) ∧
              (¬ (M1 64 x2.toNat : Int) ≥ 0 →
                Q (zI (zior ((zishl 1 (M1 60 x2.toNat)) - 1) 0)) M1)) ∧
            (¬ (0 : Int) = 0 →
              (0 : Int) ≤ x2 ∧ (x2 : Int) < 6 ∧ ((M1 64 x2.toNat : Int) ≥ 0 →
                (0 : Int) ≤ x2 ∧ (x2 : Int) < 6 ∧ Q (zI (zior (zior ((zishl 1 (M1 60 x2.toNat)) - 1) 16) (zishl 1 (M1 64 x2.toNat)))) M1) ∧
              (¬ (M1 64 x2.toNat : Int) ≥ 0 →
                Q (zI (zior ((zishl 1 (M1 60 x2.toNat)) - 1) 16)) M1)))))) ∧
    (¬ (v1 : Int) ≤ 1 →
      ((x3 : Int) ≠ 1 →
        ((x3 : Int) ≠ 2 →
          (0 : Int) ≤ x2 ∧ (x2 : Int) < 6 ∧ ((M1 64 x2.toNat : Int) ≥ 0 →
            (0 : Int) ≤ x2 ∧ (x2 : Int) < 6 ∧ Q (zI (zior (zior x4 0) (zishl 1 (M1 64 x2.toNat)))) M1) ∧
          (¬ (M1 64 x2.toNat : Int) ≥ 0 →
            Q (zI (zior x4 0)) M1)) ∧
        (¬ (x3 : Int) ≠ 2 →
          ((1 : Int) = 0 →
            (0 : Int) ≤ x2 ∧ (x2 : Int) < 6 ∧ ((M1 64 x2.toNat : Int) ≥ 0 →
              (0 : Int) ≤ x2 ∧ (x2 : Int) < 6 ∧ Q (zI (zior (zior x4 0) (zishl 1 (M1 64 x2.toNat)))) M1) ∧
            (¬ (M1 64 x2.toNat : Int) ≥ 0 →
              Q (zI (zior x4 0)) M1)) ∧
          (¬ (1 : Int) = 0 →
            (0 : Int) ≤ x2 ∧ (x2 : Int) < 6 ∧ ((M1 64 x2.toNat : Int) ≥ 0 →
              (0 : Int) ≤ x2 ∧ (x2 : Int) < 6 ∧ Q (zI (zior (zior x4 16) (zishl 1 (M1 64 x2.toNat)))) M1) ∧
            (¬ (M1 64 x2.toNat : Int) ≥ 0 →
              Q (zI (zior x4 16)) M1)))) ∧
      (¬ (x3 : Int) ≠ 1 →
        ((1 : Int) = 0 →
          ((x3 : Int) ≠ 2 →
            (0 : Int) ≤ x2 ∧ (x2 : Int) < 6 ∧ ((M1 64 x2.toNat : Int) ≥ 0 →
              (0 : Int) ≤ x2 ∧ (x2 : Int) < 6 ∧ Q (zI (zior (zior x4 0) (zishl 1 (M1 64 x2.toNat)))) M1) ∧
            (¬ (M1 64 x2.toNat : Int) ≥ 0 →
              Q (zI (zior x4 0)) M1)) ∧
          (¬ (x3 : Int) ≠ 2 →
            ((1 : Int) = 0 →
              (0 : Int) ≤ x2 ∧ (x2 : Int) < 6 ∧ ((M1 64 x2.toNat : Int) ≥ 0 →
                (0 : Int) ≤ x2 ∧ (x2 : Int) < 6 ∧ Q (zI (zior (zior x4 0) (zishl 1 (M1 64 x2.toNat)))) M1) ∧
              (¬ (M1 64 x2.toNat : Int) ≥ 0 →
                Q (zI (zior x4 0)) M1)) ∧
            (¬ (1 : Int) = 0 →
              (0 : Int) ≤ x2 ∧ (x2 : Int) < 6 ∧ ((M1 64 x2.toNat : Int) ≥ 0 →
                (0 : Int) ≤ x2 ∧ (x2 : Int) < 6 ∧ Q (zI (zior (zior x4 16) (zishl 1 (M1 64 x2.toNat)))) M1) ∧
              (¬ (M1 64 x2.toNat : Int) ≥ 0 →
                Q (zI (zior x4 16)) M1)))) ∧
        (¬ (1 : Int) = 0 →
          (0 : Int) ≤ x2 ∧ (x2 : Int) < 6 ∧ zR32 ((zishl 1 (M1 60 x2.toNat)) - 1) ∧ ((x3 : Int) ≠ 2 →
            (0 : Int) ≤ x2 ∧ (x2 : Int) < 6 ∧ ((M1 64 x2.toNat : Int) ≥ 0 →
              (0 : Int) ≤ x2 ∧ (x2 : Int) < 6 ∧ Q (zI (zior (zior ((zishl 1 (M1 60 x2.toNat)) - 1) 0) (zishl 1 (M1 64 x2.toNat)))) M1) ∧
            (¬ (M1 64 x2.toNat : Int) ≥ 0 →
              Q (zI (zior ((zishl 1 (M1 60 x2.toNat)) - 1) 0)) M1)) ∧
          (¬ (x3 : Int) ≠ 2 →
            ((1 : Int) = 0 →
              (0 : Int) ≤ x2 ∧ (x2 : Int) < 6 ∧ ((M1 64 x2.toNat : Int) ≥ 0 →
                (0 : Int) ≤ x2 ∧ (x2 : Int) < 6 ∧ Q (zI (zior (zior ((zishl 1 (M1 60 x2.toNat)) - 1) 0) (zishl 1 (M1 64 x2.toNat)))) M1) ∧
              (¬ (M1 64 x2.toNat : Int) ≥ 0 →
                Q (zI (zior ((zishl 1 (M1 60 x2.toNat)) - 1) 0)) M1)) ∧
            (¬ (1 : Int) = 0 →
              (0 : Int) ≤ x2 ∧ (x2 : Int) < 6 ∧ ((M1 64 x2.toNat : Int) ≥ 0 →
                (0 : Int) ≤ x2 ∧ (x2 : Int) < 6 ∧ Q (zI (zior (zior ((zishl 1 (M1 60 x2.toNat)) - 1) 16) (zishl 1 (M1 64 x2.toNat)))) M1) ∧
              (¬ (M1 64 x2.toNat : Int) ≥ 0 →
                Q (zI (zior ((zishl 1 (M1 60 x2.toNat)) - 1) 16)) M1))))))) ∧
  (¬ (x5 : Int) ≥ (M 55 12) →
    ((ziand (zishr x1 x5) 1 : Int) ≠ 1 →
      zR32 (x5 + 1) ∧ zBg (d + 1) 130 6 [zR 55, zI x1, zI x2, zI x3, zI (zior x4 0), zI (x5 + 1)] [] M Q) ∧
    (¬ (ziand (zishr x1 x5) 1 : Int) ≠ 1 →
      zR32 (6 * x5) ∧ zR32 ((6 * x5) + x2) ∧ (0 : Int) ≤ ((6 * x5) + x2) ∧ ((6 * x5) + x2 : Int) < 48 ∧ zR32 (x5 + 1) ∧ zBg (d + 1) 130 6 [zR 55, zI x1, zI x2, zI x3, zI (zior x4 (zishl 1 (M 65 (((6 * x5) + x2).toNat)))), zI (x5 + 1)] [] M Q))) : zBg (d + 1) 130 6 [zR 55, zI x1, zI x2, zI x3, zI x4, zI x5] [] M Q :=
  zvc_ok (I := zm130) (cuts := [(6, [true, true, true, true, true, true])]) (n := 88) rfl h
theorem zk130 {d : Nat} {M : zMem} {Q : Option zV → zMem → Prop} {x1 : Int} {x2 : Int} {x3 : Int} (h : zBg d 130 0 [zR 55, zI x1, zI x2, zI x3, none, none] [] M Q) : zCt d 130 [.inr (.inr 55), .inl x1, .inl x2, .inl x3] M Q := zCt_of (I := zm130) rfl rfl h
/-! CommaCopiesModel.makes(I[III)Z , as 131 -/
set_option maxRecDepth 20000 in
theorem zv131_0 {d : Nat} {M : zMem} {Q : Option zV → zMem → Prop} (x1 : Int) (a2 : Nat) (x3 : Int) (x4 : Int) (h :
  zBg d 131 6 [zR 55, zI x1, zR a2, zI x3, zI x4, zI 1, zI 0] [] M Q) : zBg d 131 0 [zR 55, zI x1, zR a2, zI x3, zI x4, none, none] [] M Q :=
  zvc_ok (I := zm131) (cuts := [(6, [true, true, true, true, true, true, true])]) (n := 45) rfl h
set_option maxRecDepth 20000 in
theorem zv131_6 {d : Nat} {M : zMem} {Q : Option zV → zMem → Prop} (x1 : Int) (a2 : Nat) (x3 : Int) (x4 : Int) (x5 : Int) (x6 : Int) (h :
  ((x6 : Int) ≥ (M 55 4) →
    ((x5 : Int) = 0 ∨ (x5 : Int) = 1) ∧ Q (zI x5) M) ∧
  (¬ (x6 : Int) ≥ (M 55 4) →
    ((x5 : Int) = 0 →
      ((x5 : Int) = 0 ∨ (x5 : Int) = 1) ∧ Q (zI x5) M) ∧
    (¬ (x5 : Int) = 0 →
      zR32 (x3 + x6) ∧ zar a2 0 fun n => (0 : Int) ≤ (x3 + x6) ∧ (x3 + x6 : Int) < n ∧ ((M a2 ((x3 + x6).toNat) : Int) = 5 →
        zR32 (x6 + 1) ∧ zBg (d + 1) 131 6 [zR 55, zI x1, zR a2, zI x3, zI x4, zI 1, zI (x6 + 1)] [] M Q) ∧
      (¬ (M a2 ((x3 + x6).toNat) : Int) = 5 →
        ∃ Q1, zCi d 130 [.inr (.inr 55), .inl x1, .inl x6, .inl x4] M Q1 ∧ ∀ v1 M1, Q1 v1 M1 →
        zR32 (x3 + x6) ∧ zar a2 0 fun n => (0 : Int) ≤ (x3 + x6) ∧ (x3 + x6 : Int) < n ∧ ((ziand (zishr v1 (M1 a2 ((x3 + x6).toNat))) 1 : Int) ≠ 1 →
          zR32 (x6 + 1) ∧ zBg (d + 1) 131 6 [zR 55, zI x1, zR a2, zI x3, zI x4, zI 0, zI (x6 + 1)] [] M1 Q) ∧
        (¬ (ziand (zishr v1 (M1 a2 ((x3 + x6).toNat))) 1 : Int) ≠ 1 →
          zR32 (x6 + 1) ∧ zBg (d + 1) 131 6 [zR 55, zI x1, zR a2, zI x3, zI x4, zI 1, zI (x6 + 1)] [] M1 Q))))) : zBg (d + 1) 131 6 [zR 55, zI x1, zR a2, zI x3, zI x4, zI x5, zI x6] [] M Q :=
  zvc_ok (I := zm131) (cuts := [(6, [true, true, true, true, true, true, true])]) (n := 45) rfl h
theorem zk131 {d : Nat} {M : zMem} {Q : Option zV → zMem → Prop} {x1 : Int} {a2 : Nat} {x3 : Int} {x4 : Int} (h : zBg d 131 0 [zR 55, zI x1, zR a2, zI x3, zI x4, none, none] [] M Q) : zCt d 131 [.inr (.inr 55), .inl x1, .inr (.inr a2), .inl x3, .inl x4] M Q := zCt_of (I := zm131) rfl rfl h
/-! CommaCopiesModel.laysSets(I)V , as 132 -/
set_option maxRecDepth 20000 in
theorem zv132_0 {d : Nat} {M : zMem} {Q : Option zV → zMem → Prop} (x1 : Int) (h :
  zBg d 132 7 [zR 55, zI x1, zI 1, none] [] (zup M 55 21 0) Q) : zBg d 132 0 [zR 55, zI x1, none, none] [] M Q :=
  zvc_ok (I := zm132) (cuts := [(7, [true, true, true, false]), (14, [true, true, true, true])]) (n := 42) rfl h
set_option maxRecDepth 20000 in
theorem zv132_7 {d : Nat} {M : zMem} {Q : Option zV → zMem → Prop} (x1 : Int) (x2 : Int) (h :
  ((x2 : Int) > x1 →
    Q none M) ∧
  (¬ (x2 : Int) > x1 →
    zBg d 132 14 [zR 55, zI x1, zI x2, zI 1] [] M Q)) : zBg d 132 7 [zR 55, zI x1, zI x2, none] [] M Q :=
  zvc_ok (I := zm132) (cuts := [(7, [true, true, true, false]), (14, [true, true, true, true])]) (n := 42) rfl h
set_option maxRecDepth 20000 in
theorem zv132_14 {d : Nat} {M : zMem} {Q : Option zV → zMem → Prop} (x1 : Int) (x2 : Int) (x3 : Int) (h :
  ((x3 : Int) ≥ (zishl 1 (M 55 12)) →
    zR32 (x2 + 1) ∧ zBg (d + 1) 132 7 [zR 55, zI x1, zI (x2 + 1), none] [] M Q) ∧
  (¬ (x3 : Int) ≥ (zishl 1 (M 55 12)) →
    ∃ Q1, zCi d 129 [.inl x3] M Q1 ∧ ∀ v1 M1, Q1 v1 M1 →
    ((v1 : Int) ≠ x2 →
      zR32 (x3 + 1) ∧ zBg (d + 1) 132 14 [zR 55, zI x1, zI x2, zI (x3 + 1)] [] M1 Q) ∧
    (¬ (v1 : Int) ≠ x2 →
      (0 : Int) ≤ (M1 55 21) ∧ (M1 55 21 : Int) < 92 ∧ zR32 ((M1 55 21) + 1) ∧ zR32 (x3 + 1) ∧ zBg (d + 1) 132 14 [zR 55, zI x1, zI x2, zI (x3 + 1)] [] (zup (zup M1 69 ((M1 55 21).toNat) x3) 55 21 ((M1 55 21) + 1)) Q))) : zBg (d + 1) 132 14 [zR 55, zI x1, zI x2, zI x3] [] M Q :=
  zvc_ok (I := zm132) (cuts := [(7, [true, true, true, false]), (14, [true, true, true, true])]) (n := 42) rfl h
theorem zk132 {d : Nat} {M : zMem} {Q : Option zV → zMem → Prop} {x1 : Int} (h : zBg d 132 0 [zR 55, zI x1, none, none] [] M Q) : zCt d 132 [.inr (.inr 55), .inl x1] M Q := zCt_of (I := zm132) rfl rfl h
/-! CommaCopiesModel.madeBy([IIII)I , as 133 -/
set_option maxRecDepth 20000 in
theorem zv133_0 {d : Nat} {M : zMem} {Q : Option zV → zMem → Prop} (a1 : Nat) (x2 : Int) (x3 : Int) (x4 : Int) (h :
  ∃ Q1, zCv d 132 [.inr (.inr 55), .inl x3] M Q1 ∧ ∀ M1, Q1 M1 →
  zBg (d + 1) 133 19 [zR 55, zR a1, zI x2, none, zI x4, zI 255, zI 0, zI 0, zI 0] [] M1 Q) : zBg (d + 1) 133 0 [zR 55, zR a1, zI x2, zI x3, zI x4, none, none, none, none] [] M Q :=
  zvc_ok (I := zm133) (cuts := [(19, [true, true, true, false, true, true, true, true, true])]) (n := 61) rfl h
set_option maxRecDepth 20000 in
theorem zv133_19 {d : Nat} {M : zMem} {Q : Option zV → zMem → Prop} (a1 : Nat) (x2 : Int) (x4 : Int) (x5 : Int) (x6 : Int) (x7 : Int) (x8 : Int) (h :
  ((x8 : Int) ≥ (M 55 21) →
    ((x7 : Int) ≠ 0 →
      zR32 (65536 * x7) ∧ zR32 (256 * x6) ∧ zR32 ((65536 * x7) + (256 * x6)) ∧ zR32 (((65536 * x7) + (256 * x6)) + x5) ∧ Q (zI (((65536 * x7) + (256 * x6)) + x5)) M) ∧
    (¬ (x7 : Int) ≠ 0 →
      Q (zI 0) M)) ∧
  (¬ (x8 : Int) ≥ (M 55 21) →
    (0 : Int) ≤ x8 ∧ (x8 : Int) < 92 ∧ ∃ Q1, zCi d 131 [.inr (.inr 55), .inl (M 69 x8.toNat), .inr (.inr a1), .inl x2, .inl x4] M Q1 ∧ ∀ v1 M1, Q1 v1 M1 →
    ((v1 : Int) = 0 →
      zR32 (x8 + 1) ∧ zBg (d + 1) 133 19 [zR 55, zR a1, zI x2, none, zI x4, zI x5, zI x6, zI x7, zI (x8 + 1)] [] M1 Q) ∧
    (¬ (v1 : Int) = 0 →
      (0 : Int) ≤ x8 ∧ (x8 : Int) < 92 ∧ (0 : Int) ≤ x8 ∧ (x8 : Int) < 92 ∧ zR32 (x7 + 1) ∧ zR32 (x8 + 1) ∧ zBg (d + 1) 133 19 [zR 55, zR a1, zI x2, none, zI x4, zI (ziand x5 (M1 69 x8.toNat)), zI (zior x6 (M1 69 x8.toNat)), zI (x7 + 1), zI (x8 + 1)] [] M1 Q))) : zBg (d + 1) 133 19 [zR 55, zR a1, zI x2, none, zI x4, zI x5, zI x6, zI x7, zI x8] [] M Q :=
  zvc_ok (I := zm133) (cuts := [(19, [true, true, true, false, true, true, true, true, true])]) (n := 61) rfl h
theorem zk133 {d : Nat} {M : zMem} {Q : Option zV → zMem → Prop} {a1 : Nat} {x2 : Int} {x3 : Int} {x4 : Int} (h : zBg d 133 0 [zR 55, zR a1, zI x2, zI x3, zI x4, none, none, none, none] [] M Q) : zCt d 133 [.inr (.inr 55), .inr (.inr a1), .inl x2, .inl x3, .inl x4] M Q := zCt_of (I := zm133) rfl rfl h
/-! CommaCopiesModel.count(I)I , as 134 -/
set_option maxRecDepth 20000 in
theorem zv134_0 {d : Nat} {M : zMem} {Q : Option zV → zMem → Prop} (x1 : Int) (h :
  zBg d 134 4 [zR 55, zI x1, zI 0, zI 0] [] M Q) : zBg d 134 0 [zR 55, zI x1, none, none] [] M Q :=
  zvc_ok (I := zm134) (cuts := [(4, [true, true, true, true])]) (n := 57) rfl h
set_option maxRecDepth 20000 in
theorem zv134_4 {d : Nat} {M : zMem} {Q : Option zV → zMem → Prop} (x1 : Int) (x2 : Int) (x3 : Int) (h :
  ((x3 : Int) ≥ (M 55 4) →
    ((x1 = 0 →
      Q (zI (M 55 4)) M) ∧ (x1 = 1 →
      Q (zI (M 55 12)) M) ∧ (x1 = 2 →
      Q (zI (M 55 17)) M) ∧ (x1 = 3 →
      Q (zI (M 55 2)) M) ∧ (x1 = 4 →
      ∃ Q1, zCi d 133 [.inr (.inr 55), .inr (.inr 66), .inl 0, .inl (M 55 14), .inl (M 55 15)] M Q1 ∧ ∀ v1 M1, Q1 v1 M1 →
      (65536 : Int) ≠ 0 ∧ Q (zI (zidiv v1 65536)) M1) ∧ (x1 = 5 →
      Q (zI x2) M) ∧ True) ∧ ((x1 < 0 ∨ 5 < x1) →
      Q (zI (-1)) M)) ∧
  (¬ (x3 : Int) ≥ (M 55 4) →
    (0 : Int) ≤ x3 ∧ (x3 : Int) < 6 ∧ ((M 66 x3.toNat : Int) ≠ 5 →
      zR32 (x2 + 0) ∧ zR32 (x3 + 1) ∧ zBg (d + 1) 134 4 [zR 55, zI x1, zI (x2 + 0), zI (x3 + 1)] [] M Q) ∧
    (¬ (M 66 x3.toNat : Int) ≠ 5 →
      zR32 (x2 + 1) ∧ zR32 (x3 + 1) ∧ zBg (d + 1) 134 4 [zR 55, zI x1, zI (x2 + 1), zI (x3 + 1)] [] M Q))) : zBg (d + 1) 134 4 [zR 55, zI x1, zI x2, zI x3] [] M Q :=
  zvc_ok (I := zm134) (cuts := [(4, [true, true, true, true])]) (n := 57) rfl h
theorem zk134 {d : Nat} {M : zMem} {Q : Option zV → zMem → Prop} {x1 : Int} (h : zBg d 134 0 [zR 55, zI x1, none, none] [] M Q) : zCt d 134 [.inr (.inr 55), .inl x1] M Q := zCt_of (I := zm134) rfl rfl h
/-! CommaCopiesModel.print(II)I , as 135 -/
set_option maxRecDepth 20000 in
theorem zv135_0 {d : Nat} {M : zMem} {Q : Option zV → zMem → Prop} (x1 : Int) (x2 : Int) (h :
  ∃ Q1, zCi d 115 [.inr (.inr 55), .inl x1] M Q1 ∧ ∀ v1 M1, Q1 v1 M1 →
  ((v1 : Int) = 0 →
    Q (zI (-1)) M1) ∧
  (¬ (v1 : Int) = 0 →
    ∃ Q2, zCi d 110 [.inr (.inl x2), .inr (.inl 0), .inr (.inl 5)] M1 Q2 ∧ ∀ v2 M2, Q2 v2 M2 →
    ((v2 : Int) = 0 →
      Q (zI (-1)) M2) ∧
    (¬ (v2 : Int) = 0 →
      ((x2 : Int) ≥ 4 →
        (0 : Int) ≤ x1 ∧ (x1 : Int) < 6 ∧ (0 : Int) ≤ x1 ∧ (x1 : Int) < 6 ∧ Q (zI (M2 66 x1.toNat)) (zup M2 66 x1.toNat x2)) ∧
      (¬ (x2 : Int) ≥ 4 →
        ∃ Q3, zCi d 116 [.inr (.inr 55), .inl x1, .inl x2] M2 Q3 ∧ ∀ v3 M3, Q3 v3 M3 →
        ((v3 : Int) ≠ 0 →
          (0 : Int) ≤ x1 ∧ (x1 : Int) < 6 ∧ (0 : Int) ≤ x1 ∧ (x1 : Int) < 6 ∧ Q (zI (M3 66 x1.toNat)) (zup M3 66 x1.toNat x2)) ∧
        (¬ (v3 : Int) ≠ 0 →
          Q (zI (-1)) M3))))) : zBg (d + 1) 135 0 [zR 55, zI x1, zI x2, none] [] M Q :=
  zvc_ok (I := zm135) (cuts := []) (n := 37) rfl h
theorem zk135 {d : Nat} {M : zMem} {Q : Option zV → zMem → Prop} {x1 : Int} {x2 : Int} (h : zBg d 135 0 [zR 55, zI x1, zI x2, none] [] M Q) : zCt d 135 [.inr (.inr 55), .inl x1, .inl x2] M Q := zCt_of (I := zm135) rfl rfl h
/-! CommaCopiesModel.goesOn(Z)Z , as 136 -/
set_option maxRecDepth 20000 in
theorem zv136_0 {d : Nat} {M : zMem} {Q : Option zV → zMem → Prop} (x1 : Int) (h :
  zR32 ((M 55 4) - 1) ∧ zBg d 136 7 [zR 55, zI x1, zI ((M 55 4) - 1)] [] M Q) : zBg d 136 0 [zR 55, zI x1, none] [] M Q :=
  zvc_ok (I := zm136) (cuts := [(7, [true, true, true])]) (n := 63) rfl h
set_option maxRecDepth 20000 in
theorem zv136_7 {d : Nat} {M : zMem} {Q : Option zV → zMem → Prop} (x1 : Int) (x2 : Int) (h :
  ((x2 : Int) < 0 →
    ((x2 : Int) ≥ 0 →
      (0 : Int) ≤ x2 ∧ (x2 : Int) < 6 ∧ zR32 ((M 70 x2.toNat) + 1) ∧ (0 : Int) ≤ x2 ∧ (x2 : Int) < 6 ∧ (((M 70 x2.toNat) + 1 : Int) < (M 60 x2.toNat) →
        (0 : Int) ≤ x2 ∧ (x2 : Int) < 6 ∧ zR32 ((M 70 x2.toNat) + 1) ∧ (0 : Int) ≤ x2 ∧ (x2 : Int) < 6 ∧ ((1 : Int) = 0 ∨ (1 : Int) = 1) ∧ Q (zI 1) (zup M 70 x2.toNat ((M 70 x2.toNat) + 1))) ∧
      (¬ ((M 70 x2.toNat) + 1 : Int) < (M 60 x2.toNat) →
        (0 : Int) ≤ x2 ∧ (x2 : Int) < 6 ∧ ((1 : Int) = 0 ∨ (1 : Int) = 1) ∧ Q (zI 1) (zup M 70 x2.toNat 4))) ∧
    (¬ (x2 : Int) ≥ 0 →
      ((0 : Int) = 0 ∨ (0 : Int) = 1) ∧ Q (zI 0) M)) ∧
  (¬ (x2 : Int) < 0 →
    (0 : Int) ≤ x2 ∧ (x2 : Int) < 6 ∧ ((x1 : Int) = 0 →
      (0 : Int) ≤ x2 ∧ (x2 : Int) < 6 ∧ zR32 ((M 60 x2.toNat) - 1) ∧ ((M 70 x2.toNat : Int) ≠ ((M 60 x2.toNat) - 1) →
        ((x2 : Int) ≥ 0 →
          (0 : Int) ≤ x2 ∧ (x2 : Int) < 6 ∧ zR32 ((M 70 x2.toNat) + 1) ∧ (0 : Int) ≤ x2 ∧ (x2 : Int) < 6 ∧ (((M 70 x2.toNat) + 1 : Int) < (M 60 x2.toNat) →
            (0 : Int) ≤ x2 ∧ (x2 : Int) < 6 ∧ zR32 ((M 70 x2.toNat) + 1) ∧ (0 : Int) ≤ x2 ∧ (x2 : Int) < 6 ∧ ((1 : Int) = 0 ∨ (1 : Int) = 1) ∧ Q (zI 1) (zup M 70 x2.toNat ((M 70 x2.toNat) + 1))) ∧
          (¬ ((M 70 x2.toNat) + 1 : Int) < (M 60 x2.toNat) →
            (0 : Int) ≤ x2 ∧ (x2 : Int) < 6 ∧ ((1 : Int) = 0 ∨ (1 : Int) = 1) ∧ Q (zI 1) (zup M 70 x2.toNat 4))) ∧
        (¬ (x2 : Int) ≥ 0 →
          ((0 : Int) = 0 ∨ (0 : Int) = 1) ∧ Q (zI 0) M)) ∧
      (¬ (M 70 x2.toNat : Int) ≠ ((M 60 x2.toNat) - 1) →
        (0 : Int) ≤ x2 ∧ (x2 : Int) < 6 ∧ zR32 (x2 + (-1)) ∧ zBg d 136 7 [zR 55, zI x1, zI (x2 + (-1))] [] (zup M 70 x2.toNat 0) Q)) ∧
    (¬ (x1 : Int) = 0 →
      ((M 70 x2.toNat : Int) ≠ 4 →
        ((x2 : Int) ≥ 0 →
          (0 : Int) ≤ x2 ∧ (x2 : Int) < 6 ∧ zR32 ((M 70 x2.toNat) + 1) ∧ (0 : Int) ≤ x2 ∧ (x2 : Int) < 6 ∧ (((M 70 x2.toNat) + 1 : Int) < (M 60 x2.toNat) →
            (0 : Int) ≤ x2 ∧ (x2 : Int) < 6 ∧ zR32 ((M 70 x2.toNat) + 1) ∧ (0 : Int) ≤ x2 ∧ (x2 : Int) < 6 ∧ ((1 : Int) = 0 ∨ (1 : Int) = 1) ∧ Q (zI 1) (zup M 70 x2.toNat ((M 70 x2.toNat) + 1))) ∧
          (¬ ((M 70 x2.toNat) + 1 : Int) < (M 60 x2.toNat) →
            (0 : Int) ≤ x2 ∧ (x2 : Int) < 6 ∧ ((1 : Int) = 0 ∨ (1 : Int) = 1) ∧ Q (zI 1) (zup M 70 x2.toNat 4))) ∧
        (¬ (x2 : Int) ≥ 0 →
          ((0 : Int) = 0 ∨ (0 : Int) = 1) ∧ Q (zI 0) M)) ∧
      (¬ (M 70 x2.toNat : Int) ≠ 4 →
        (0 : Int) ≤ x2 ∧ (x2 : Int) < 6 ∧ zR32 (x2 + (-1)) ∧ zBg d 136 7 [zR 55, zI x1, zI (x2 + (-1))] [] (zup M 70 x2.toNat 0) Q)))) : zBg d 136 7 [zR 55, zI x1, zI x2] [] M Q :=
  zvc_ok (I := zm136) (cuts := [(7, [true, true, true])]) (n := 63) rfl h
theorem zk136 {d : Nat} {M : zMem} {Q : Option zV → zMem → Prop} {x1 : Int} (h : zBg d 136 0 [zR 55, zI x1, none] [] M Q) : zCt d 136 [.inr (.inr 55), .inl x1] M Q := zCt_of (I := zm136) rfl rfl h
/-! CommaCopiesModel.begins()V , as 137 -/
set_option maxRecDepth 20000 in
theorem zv137_0 {d : Nat} {M : zMem} {Q : Option zV → zMem → Prop} (h :
  zBg d 137 2 [zR 55, zI 0] [] M Q) : zBg d 137 0 [zR 55, none] [] M Q :=
  zvc_ok (I := zm137) (cuts := [(2, [true, true])]) (n := 18) rfl h
set_option maxRecDepth 20000 in
theorem zv137_2 {d : Nat} {M : zMem} {Q : Option zV → zMem → Prop} (x1 : Int) (h :
  ((x1 : Int) ≥ 6 →
    Q none M) ∧
  (¬ (x1 : Int) ≥ 6 →
    (0 : Int) ≤ x1 ∧ (x1 : Int) < 6 ∧ zR32 (x1 + 1) ∧ zBg d 137 2 [zR 55, zI (x1 + 1)] [] (zup M 70 x1.toNat 0) Q)) : zBg d 137 2 [zR 55, zI x1] [] M Q :=
  zvc_ok (I := zm137) (cuts := [(2, [true, true])]) (n := 18) rfl h
theorem zk137 {d : Nat} {M : zMem} {Q : Option zV → zMem → Prop} (h : zBg d 137 0 [zR 55, none] [] M Q) : zCt d 137 [.inr (.inr 55)] M Q := zCt_of (I := zm137) rfl rfl h
/-! CommaCopiesModel.printed()I , as 138 -/
set_option maxRecDepth 20000 in
theorem zv138_0 {d : Nat} {M : zMem} {Q : Option zV → zMem → Prop} (h :
  ((M 55 2 : Int) ≠ 0 →
    ∃ Q1, zCv d 137 [.inr (.inr 55)] (zup M 55 1 0) Q1 ∧ ∀ M1, Q1 M1 →
    zBg (d + 1) 138 26 [zR 55, zI (M 55 1), zI 1, none, none] [] M1 Q) ∧
  (¬ (M 55 2 : Int) ≠ 0 →
    Q (zI (-2)) (zup M 55 1 0))) : zBg (d + 1) 138 0 [zR 55, none, none, none, none] [] M Q :=
  zvc_ok (I := zm138) (cuts := [(26, [true, true, true, false, false]), (52, [true, true, false, true, true]), (98, [true, false, false, false, true])]) (n := 82) rfl h
set_option maxRecDepth 20000 in
theorem zv138_26 {d : Nat} {M : zMem} {Q : Option zV → zMem → Prop} (x1 : Int) (x2 : Int) (h :
  ((x2 : Int) = 0 →
    Q (zI (-4)) M) ∧
  (¬ (x2 : Int) = 0 →
    ∃ Q1, zCi d 124 [.inr (.inr 55), .inr (.inr 70), .inl 0] M Q1 ∧ ∀ v1 M1, Q1 v1 M1 →
    ((v1 : Int) ≠ x1 →
      zBg (d + 1) 138 52 [zR 55, zI x1, none, zI 0, zI 0] [] M1 Q) ∧
    (¬ (v1 : Int) ≠ x1 →
      zBg (d + 1) 138 52 [zR 55, zI x1, none, zI 1, zI 0] [] M1 Q))) : zBg (d + 1) 138 26 [zR 55, zI x1, zI x2, none, none] [] M Q :=
  zvc_ok (I := zm138) (cuts := [(26, [true, true, true, false, false]), (52, [true, true, false, true, true]), (98, [true, false, false, false, true])]) (n := 82) rfl h
set_option maxRecDepth 20000 in
theorem zv138_52 {d : Nat} {M : zMem} {Q : Option zV → zMem → Prop} (x1 : Int) (x3 : Int) (x4 : Int) (h :
  ((x4 : Int) ≥ x1 →
    ((x3 : Int) = 0 →
      ∃ Q1, zCi d 136 [.inr (.inr 55), .inl 1] M Q1 ∧ ∀ v1 M1, Q1 v1 M1 →
      zBg (d + 1) 138 26 [zR 55, zI x1, zI v1, none, none] [] M1 Q) ∧
    (¬ (x3 : Int) = 0 →
      zBg (d + 1) 138 98 [zR 55, none, none, none, zI 0] [] M Q)) ∧
  (¬ (x4 : Int) ≥ x1 →
    ((x3 : Int) = 0 →
      ((x3 : Int) = 0 →
        ∃ Q2, zCi d 136 [.inr (.inr 55), .inl 1] M Q2 ∧ ∀ v2 M2, Q2 v2 M2 →
        zBg (d + 1) 138 26 [zR 55, zI x1, zI v2, none, none] [] M2 Q) ∧
      (¬ (x3 : Int) = 0 →
        zBg (d + 1) 138 98 [zR 55, none, none, none, zI 0] [] M Q)) ∧
    (¬ (x3 : Int) = 0 →
      (0 : Int) ≤ x4 ∧ (x4 : Int) < 240 ∧ (0 : Int) ≤ x4 ∧ (x4 : Int) < 120 ∧ ((M 68 x4.toNat : Int) ≠ (M 56 x4.toNat) →
        zR32 (x4 + 1) ∧ zBg (d + 1) 138 52 [zR 55, zI x1, none, zI 0, zI (x4 + 1)] [] M Q) ∧
      (¬ (M 68 x4.toNat : Int) ≠ (M 56 x4.toNat) →
        zR32 (x4 + 1) ∧ zBg (d + 1) 138 52 [zR 55, zI x1, none, zI 1, zI (x4 + 1)] [] M Q)))) : zBg (d + 1) 138 52 [zR 55, zI x1, none, zI x3, zI x4] [] M Q :=
  zvc_ok (I := zm138) (cuts := [(26, [true, true, true, false, false]), (52, [true, true, false, true, true]), (98, [true, false, false, false, true])]) (n := 82) rfl h
set_option maxRecDepth 20000 in
theorem zv138_98 {d : Nat} {M : zMem} {Q : Option zV → zMem → Prop} (x4 : Int) (h :
  ((x4 : Int) ≥ (M 55 4) →
    Q (zI 1) M) ∧
  (¬ (x4 : Int) ≥ (M 55 4) →
    (0 : Int) ≤ x4 ∧ (x4 : Int) < 6 ∧ (0 : Int) ≤ x4 ∧ (x4 : Int) < 6 ∧ zR32 (x4 + 1) ∧ zBg d 138 98 [zR 55, none, none, none, zI (x4 + 1)] [] (zup M 66 x4.toNat (M 70 x4.toNat)) Q)) : zBg d 138 98 [zR 55, none, none, none, zI x4] [] M Q :=
  zvc_ok (I := zm138) (cuts := [(26, [true, true, true, false, false]), (52, [true, true, false, true, true]), (98, [true, false, false, false, true])]) (n := 82) rfl h
theorem zk138 {d : Nat} {M : zMem} {Q : Option zV → zMem → Prop} (h : zBg d 138 0 [zR 55, none, none, none, none] [] M Q) : zCt d 138 [.inr (.inr 55)] M Q := zCt_of (I := zm138) rfl rfl h
/-! CommaCopiesModel.isSet(I)Z , as 139 -/
set_option maxRecDepth 20000 in
theorem zv139_0 {d : Nat} {M : zMem} {Q : Option zV → zMem → Prop} (x1 : Int) (h :
  zR32 ((zishl 1 (M 55 12)) - 1) ∧ ∃ Q1, zCi d 110 [.inr (.inl x1), .inr (.inl 1), .inr (.inl ((zishl 1 (M 55 12)) - 1))] M Q1 ∧ ∀ v1 M1, Q1 v1 M1 →
  ((v1 : Int) = 0 ∨ (v1 : Int) = 1) ∧ Q (zI v1) M1) : zBg (d + 1) 139 0 [zR 55, zI x1] [] M Q :=
  zvc_ok (I := zm139) (cuts := []) (n := 17) rfl h
theorem zk139 {d : Nat} {M : zMem} {Q : Option zV → zMem → Prop} {x1 : Int} (h : zBg d 139 0 [zR 55, zI x1] [] M Q) : zCt d 139 [.inr (.inr 55), .inl x1] M Q := zCt_of (I := zm139) rfl rfl h
/-! CommaCopiesModel.could(I)I , as 140 -/
set_option maxRecDepth 20000 in
theorem zv140_0 {d : Nat} {M : zMem} {Q : Option zV → zMem → Prop} (x1 : Int) (h :
  ∃ Q1, zCi d 139 [.inr (.inr 55), .inl x1] M Q1 ∧ ∀ v1 M1, Q1 v1 M1 →
  ((v1 : Int) = 0 →
    Q (zI (-1)) M1) ∧
  (¬ (v1 : Int) = 0 →
    ∃ Q2, zCi d 131 [.inr (.inr 55), .inl x1, .inr (.inr 66), .inl 0, .inl (M1 55 15)] M1 Q2 ∧ ∀ v2 M2, Q2 v2 M2 →
    ((v2 : Int) = 0 →
      Q (zI 0) M2) ∧
    (¬ (v2 : Int) = 0 →
      Q (zI 1) M2))) : zBg (d + 1) 140 0 [zR 55, zI x1] [] M Q :=
  zvc_ok (I := zm140) (cuts := []) (n := 24) rfl h
theorem zk140 {d : Nat} {M : zMem} {Q : Option zV → zMem → Prop} {x1 : Int} (h : zBg d 140 0 [zR 55, zI x1] [] M Q) : zCt d 140 [.inr (.inr 55), .inl x1] M Q := zCt_of (I := zm140) rfl rfl h
/-! CommaCopiesModel.maker(I)I , as 141 -/
set_option maxRecDepth 20000 in
theorem zv141_0 {d : Nat} {M : zMem} {Q : Option zV → zMem → Prop} (x1 : Int) (h :
  ((x1 : Int) ≥ 0 →
    ∃ Q1, zCv d 132 [.inr (.inr 55), .inl (M 55 14)] M Q1 ∧ ∀ M1, Q1 M1 →
    zBg (d + 1) 141 18 [zR 55, zI x1, zI 0, zI 0] [] M1 Q) ∧
  (¬ (x1 : Int) ≥ 0 →
    Q (zI (-1)) M)) : zBg (d + 1) 141 0 [zR 55, zI x1, none, none] [] M Q :=
  zvc_ok (I := zm141) (cuts := [(18, [true, true, true, true])]) (n := 46) rfl h
set_option maxRecDepth 20000 in
theorem zv141_18 {d : Nat} {M : zMem} {Q : Option zV → zMem → Prop} (x1 : Int) (x2 : Int) (x3 : Int) (h :
  ((x3 : Int) ≥ (M 55 21) →
    Q (zI (-4)) M) ∧
  (¬ (x3 : Int) ≥ (M 55 21) →
    (0 : Int) ≤ x3 ∧ (x3 : Int) < 92 ∧ ∃ Q1, zCi d 131 [.inr (.inr 55), .inl (M 69 x3.toNat), .inr (.inr 66), .inl 0, .inl (M 55 15)] M Q1 ∧ ∀ v1 M1, Q1 v1 M1 →
    ((v1 : Int) = 0 →
      zR32 (x3 + 1) ∧ zBg (d + 1) 141 18 [zR 55, zI x1, zI x2, zI (x3 + 1)] [] M1 Q) ∧
    (¬ (v1 : Int) = 0 →
      ((x2 : Int) ≠ x1 →
        zR32 (x2 + 1) ∧ zR32 (x3 + 1) ∧ zBg (d + 1) 141 18 [zR 55, zI x1, zI (x2 + 1), zI (x3 + 1)] [] M1 Q) ∧
      (¬ (x2 : Int) ≠ x1 →
        (0 : Int) ≤ x3 ∧ (x3 : Int) < 92 ∧ Q (zI (M1 69 x3.toNat)) M1)))) : zBg (d + 1) 141 18 [zR 55, zI x1, zI x2, zI x3] [] M Q :=
  zvc_ok (I := zm141) (cuts := [(18, [true, true, true, true])]) (n := 46) rfl h
theorem zk141 {d : Nat} {M : zMem} {Q : Option zV → zMem → Prop} {x1 : Int} (h : zBg d 141 0 [zR 55, zI x1, none, none] [] M Q) : zCt d 141 [.inr (.inr 55), .inl x1] M Q := zCt_of (I := zm141) rfl rfl h
/-! CommaCopiesModel.blamed(I)I , as 142 -/
set_option maxRecDepth 20000 in
theorem zv142_0 {d : Nat} {M : zMem} {Q : Option zV → zMem → Prop} (x1 : Int) (h :
  ∃ Q1, zCi d 110 [.inr (.inl x1), .inr (.inl 0), .inr (.inl 1)] M Q1 ∧ ∀ v1 M1, Q1 v1 M1 →
  ((v1 : Int) ≠ 0 →
    ∃ Q2, zCi d 133 [.inr (.inr 55), .inr (.inr 66), .inl 0, .inl (M1 55 14), .inl (M1 55 15)] M1 Q2 ∧ ∀ v2 M2, Q2 v2 M2 →
    ((x1 : Int) ≠ 0 →
      Q (zI (ziand (zishr v2 8) 255)) M2) ∧
    (¬ (x1 : Int) ≠ 0 →
      Q (zI (ziand v2 255)) M2)) ∧
  (¬ (v1 : Int) ≠ 0 →
    Q (zI (-1)) M1)) : zBg (d + 1) 142 0 [zR 55, zI x1, none] [] M Q :=
  zvc_ok (I := zm142) (cuts := []) (n := 35) rfl h
theorem zk142 {d : Nat} {M : zMem} {Q : Option zV → zMem → Prop} {x1 : Int} (h : zBg d 142 0 [zR 55, zI x1, none] [] M Q) : zCt d 142 [.inr (.inr 55), .inl x1] M Q := zCt_of (I := zm142) rfl rfl h
/-! CommaCopiesModel.lowest(I)I , as 143 -/
set_option maxRecDepth 20000 in
theorem zv143_0 {d : Nat} {M : zMem} {Q : Option zV → zMem → Prop} (x0 : Int) (h :
  zBg d 143 2 [zI x0, zI 0] [] M Q) : zBg d 143 0 [zI x0, none] [] M Q :=
  zvc_ok (I := zm143) (cuts := [(2, [true, true])]) (n := 20) rfl h
set_option maxRecDepth 20000 in
theorem zv143_2 {d : Nat} {M : zMem} {Q : Option zV → zMem → Prop} (x0 : Int) (x1 : Int) (h :
  ((x1 : Int) ≥ 31 →
    Q (zI x1) M) ∧
  (¬ (x1 : Int) ≥ 31 →
    ((ziand (zishr x0 x1) 1 : Int) ≠ 0 →
      Q (zI x1) M) ∧
    (¬ (ziand (zishr x0 x1) 1 : Int) ≠ 0 →
      zR32 (x1 + 1) ∧ zBg d 143 2 [zI x0, zI (x1 + 1)] [] M Q))) : zBg d 143 2 [zI x0, zI x1] [] M Q :=
  zvc_ok (I := zm143) (cuts := [(2, [true, true])]) (n := 20) rfl h
theorem zk143 {d : Nat} {M : zMem} {Q : Option zV → zMem → Prop} {x0 : Int} (h : zBg d 143 0 [zI x0, none] [] M Q) : zCt d 143 [.inl x0] M Q := zCt_of (I := zm143) rfl rfl h
/-! CommaCopiesModel.unjust(I)I , as 144 -/
set_option maxRecDepth 20000 in
theorem zv144_0 {d : Nat} {M : zMem} {Q : Option zV → zMem → Prop} (x1 : Int) (h :
  ∃ Q1, zCi d 139 [.inr (.inr 55), .inl x1] M Q1 ∧ ∀ v1 M1, Q1 v1 M1 →
  ((v1 : Int) ≠ 0 →
    ∃ Q2, zCi d 133 [.inr (.inr 55), .inr (.inr 66), .inl 0, .inl (M1 55 14), .inl (M1 55 15)] M1 Q2 ∧ ∀ v2 M2, Q2 v2 M2 →
    ((v2 : Int) ≠ 0 →
      ((ziand x1 (zixor (ziand v2 255) (-1)) : Int) ≠ 0 →
        ∃ Q3, zCi d 143 [.inl (ziand x1 (zixor (ziand v2 255) (-1)))] M2 Q3 ∧ ∀ v3 M3, Q3 v3 M3 →
        Q (zI v3) M3) ∧
      (¬ (ziand x1 (zixor (ziand v2 255) (-1)) : Int) ≠ 0 →
        Q (zI (-4)) M2)) ∧
    (¬ (v2 : Int) ≠ 0 →
      Q (zI (-2)) M2)) ∧
  (¬ (v1 : Int) ≠ 0 →
    Q (zI (-1)) M1)) : zBg (d + 1) 144 0 [zR 55, zI x1, none, none] [] M Q :=
  zvc_ok (I := zm144) (cuts := []) (n := 40) rfl h
theorem zk144 {d : Nat} {M : zMem} {Q : Option zV → zMem → Prop} {x1 : Int} (h : zBg d 144 0 [zR 55, zI x1, none, none] [] M Q) : zCt d 144 [.inr (.inr 55), .inl x1] M Q := zCt_of (I := zm144) rfl rfl h
/-! CommaCopiesModel.laysCans()V , as 145 -/
set_option maxRecDepth 20000 in
theorem zv145_0 {d : Nat} {M : zMem} {Q : Option zV → zMem → Prop} (h :
  ∃ Q1, zCv d 132 [.inr (.inr 55), .inl (M 55 14)] M Q1 ∧ ∀ M1, Q1 M1 →
  zBg (d + 1) 145 10 [zR 55, zI 0, none] [] M1 Q) : zBg (d + 1) 145 0 [zR 55, none, none] [] M Q :=
  zvc_ok (I := zm145) (cuts := [(10, [true, true, false]), (20, [true, true, true])]) (n := 43) rfl h
set_option maxRecDepth 20000 in
theorem zv145_10 {d : Nat} {M : zMem} {Q : Option zV → zMem → Prop} (x1 : Int) (h :
  ((x1 : Int) ≥ (M 55 21) →
    Q none M) ∧
  (¬ (x1 : Int) ≥ (M 55 21) →
    zBg d 145 20 [zR 55, zI x1, zI 0] [] M Q)) : zBg d 145 10 [zR 55, zI x1, none] [] M Q :=
  zvc_ok (I := zm145) (cuts := [(10, [true, true, false]), (20, [true, true, true])]) (n := 43) rfl h
set_option maxRecDepth 20000 in
theorem zv145_20 {d : Nat} {M : zMem} {Q : Option zV → zMem → Prop} (x1 : Int) (x2 : Int) (h :
  ((x2 : Int) ≥ (M 55 4) →
    zR32 (x1 + 1) ∧ zBg (d + 1) 145 10 [zR 55, zI (x1 + 1), none] [] M Q) ∧
  (¬ (x2 : Int) ≥ (M 55 4) →
    zR32 (6 * x1) ∧ zR32 ((6 * x1) + x2) ∧ (0 : Int) ≤ x1 ∧ (x1 : Int) < 92 ∧ ∃ Q1, zCi d 130 [.inr (.inr 55), .inl (M 69 x1.toNat), .inl x2, .inl (M 55 15)] M Q1 ∧ ∀ v1 M1, Q1 v1 M1 →
    (0 : Int) ≤ ((6 * x1) + x2) ∧ ((6 * x1) + x2 : Int) < 552 ∧ zR32 (x2 + 1) ∧ zBg (d + 1) 145 20 [zR 55, zI x1, zI (x2 + 1)] [] (zup M1 71 (((6 * x1) + x2).toNat) v1) Q)) : zBg (d + 1) 145 20 [zR 55, zI x1, zI x2] [] M Q :=
  zvc_ok (I := zm145) (cuts := [(10, [true, true, false]), (20, [true, true, true])]) (n := 43) rfl h
theorem zk145 {d : Nat} {M : zMem} {Q : Option zV → zMem → Prop} (h : zBg d 145 0 [zR 55, none, none] [] M Q) : zCt d 145 [.inr (.inr 55)] M Q := zCt_of (I := zm145) rfl rfl h
/-! CommaCopiesModel.isUnframed(I)Z , as 146 -/
set_option maxRecDepth 20000 in
theorem zv146_0 {d : Nat} {M : zMem} {Q : Option zV → zMem → Prop} (x1 : Int) (h :
  zBg d 146 2 [zR 55, zI x1, zI 0, none, none, none] [] M Q) : zBg d 146 0 [zR 55, zI x1, none, none, none, none] [] M Q :=
  zvc_ok (I := zm146) (cuts := [(2, [true, true, true, false, false, false]), (12, [true, true, true, true, false, false]), (43, [true, true, true, true, true, true])]) (n := 90) rfl h
set_option maxRecDepth 20000 in
theorem zv146_2 {d : Nat} {M : zMem} {Q : Option zV → zMem → Prop} (x1 : Int) (x2 : Int) (h :
  ((x2 : Int) ≥ (M 55 21) →
    ((1 : Int) = 0 ∨ (1 : Int) = 1) ∧ Q (zI 1) M) ∧
  (¬ (x2 : Int) ≥ (M 55 21) →
    zBg d 146 12 [zR 55, zI x1, zI x2, zI 0, none, none] [] M Q)) : zBg d 146 2 [zR 55, zI x1, zI x2, none, none, none] [] M Q :=
  zvc_ok (I := zm146) (cuts := [(2, [true, true, true, false, false, false]), (12, [true, true, true, true, false, false]), (43, [true, true, true, true, true, true])]) (n := 90) rfl h
set_option maxRecDepth 20000 in
theorem zv146_12 {d : Nat} {M : zMem} {Q : Option zV → zMem → Prop} (x1 : Int) (x2 : Int) (x3 : Int) (h :
  ((x3 : Int) ≥ (M 55 12) →
    zR32 (x2 + 1) ∧ zBg d 146 2 [zR 55, zI x1, zI (x2 + 1), none, none, none] [] M Q) ∧
  (¬ (x3 : Int) ≥ (M 55 12) →
    (0 : Int) ≤ x2 ∧ (x2 : Int) < 92 ∧ ((ziand (zishr (M 69 x2.toNat) x3) 1 : Int) ≠ 0 →
      zBg d 146 43 [zR 55, zI x1, zI x2, zI x3, zI 0, zI 0] [] M Q) ∧
    (¬ (ziand (zishr (M 69 x2.toNat) x3) 1 : Int) ≠ 0 →
      zBg d 146 43 [zR 55, zI x1, zI x2, zI x3, zI 1, zI 0] [] M Q))) : zBg d 146 12 [zR 55, zI x1, zI x2, zI x3, none, none] [] M Q :=
  zvc_ok (I := zm146) (cuts := [(2, [true, true, true, false, false, false]), (12, [true, true, true, true, false, false]), (43, [true, true, true, true, true, true])]) (n := 90) rfl h
set_option maxRecDepth 20000 in
theorem zv146_43 {d : Nat} {M : zMem} {Q : Option zV → zMem → Prop} (x1 : Int) (x2 : Int) (x3 : Int) (x4 : Int) (x5 : Int) (h :
  ((x5 : Int) ≥ (M 55 4) →
    ((x4 : Int) = 0 →
      zR32 (x3 + 1) ∧ zBg d 146 12 [zR 55, zI x1, zI x2, zI (x3 + 1), none, none] [] M Q) ∧
    (¬ (x4 : Int) = 0 →
      (0 : Int) ≤ x2 ∧ (x2 : Int) < 92 ∧ ((0 : Int) = 0 ∨ (0 : Int) = 1) ∧ Q (zI 0) (zup (zup M 55 24 (M 69 x2.toNat)) 55 25 x3))) ∧
  (¬ (x5 : Int) ≥ (M 55 4) →
    ((x4 : Int) = 0 →
      ((x4 : Int) = 0 →
        zR32 (x3 + 1) ∧ zBg d 146 12 [zR 55, zI x1, zI x2, zI (x3 + 1), none, none] [] M Q) ∧
      (¬ (x4 : Int) = 0 →
        (0 : Int) ≤ x2 ∧ (x2 : Int) < 92 ∧ ((0 : Int) = 0 ∨ (0 : Int) = 1) ∧ Q (zI 0) (zup (zup M 55 24 (M 69 x2.toNat)) 55 25 x3))) ∧
    (¬ (x4 : Int) = 0 →
      ((ziand (zishr x1 x5) 1 : Int) = 0 →
        zR32 (x5 + 1) ∧ zBg d 146 43 [zR 55, zI x1, zI x2, zI x3, zI 1, zI (x5 + 1)] [] M Q) ∧
      (¬ (ziand (zishr x1 x5) 1 : Int) = 0 →
        zR32 (6 * x2) ∧ zR32 ((6 * x2) + x5) ∧ (0 : Int) ≤ ((6 * x2) + x5) ∧ ((6 * x2) + x5 : Int) < 552 ∧ zR32 (6 * x3) ∧ zR32 ((6 * x3) + x5) ∧ (0 : Int) ≤ ((6 * x3) + x5) ∧ ((6 * x3) + x5 : Int) < 48 ∧ ((ziand (zishr (M 71 (((6 * x2) + x5).toNat)) (M 65 (((6 * x3) + x5).toNat))) 1 : Int) ≠ 1 →
          zR32 (x5 + 1) ∧ zBg d 146 43 [zR 55, zI x1, zI x2, zI x3, zI 0, zI (x5 + 1)] [] M Q) ∧
        (¬ (ziand (zishr (M 71 (((6 * x2) + x5).toNat)) (M 65 (((6 * x3) + x5).toNat))) 1 : Int) ≠ 1 →
          zR32 (x5 + 1) ∧ zBg d 146 43 [zR 55, zI x1, zI x2, zI x3, zI 1, zI (x5 + 1)] [] M Q))))) : zBg d 146 43 [zR 55, zI x1, zI x2, zI x3, zI x4, zI x5] [] M Q :=
  zvc_ok (I := zm146) (cuts := [(2, [true, true, true, false, false, false]), (12, [true, true, true, true, false, false]), (43, [true, true, true, true, true, true])]) (n := 90) rfl h
theorem zk146 {d : Nat} {M : zMem} {Q : Option zV → zMem → Prop} {x1 : Int} (h : zBg d 146 0 [zR 55, zI x1, none, none, none, none] [] M Q) : zCt d 146 [.inr (.inr 55), .inl x1] M Q := zCt_of (I := zm146) rfl rfl h
/-! CommaCopiesModel.areApart(I)Z , as 147 -/
set_option maxRecDepth 20000 in
theorem zv147_0 {d : Nat} {M : zMem} {Q : Option zV → zMem → Prop} (x1 : Int) (h :
  zBg d 147 2 [zR 55, zI x1, zI 0, none, none, none] [] M Q) : zBg d 147 0 [zR 55, zI x1, none, none, none, none] [] M Q :=
  zvc_ok (I := zm147) (cuts := [(2, [true, true, true, false, false, false]), (12, [true, true, true, true, false, false]), (46, [true, true, true, true, true, true])]) (n := 91) rfl h
set_option maxRecDepth 20000 in
theorem zv147_2 {d : Nat} {M : zMem} {Q : Option zV → zMem → Prop} (x1 : Int) (x2 : Int) (h :
  ((x2 : Int) ≥ (M 55 21) →
    ((1 : Int) = 0 ∨ (1 : Int) = 1) ∧ Q (zI 1) M) ∧
  (¬ (x2 : Int) ≥ (M 55 21) →
    zBg d 147 12 [zR 55, zI x1, zI x2, zI 0, none, none] [] M Q)) : zBg d 147 2 [zR 55, zI x1, zI x2, none, none, none] [] M Q :=
  zvc_ok (I := zm147) (cuts := [(2, [true, true, true, false, false, false]), (12, [true, true, true, true, false, false]), (46, [true, true, true, true, true, true])]) (n := 91) rfl h
set_option maxRecDepth 20000 in
theorem zv147_12 {d : Nat} {M : zMem} {Q : Option zV → zMem → Prop} (x1 : Int) (x2 : Int) (x3 : Int) (h :
  ((x3 : Int) ≥ (M 55 21) →
    zR32 (x2 + 1) ∧ zBg d 147 2 [zR 55, zI x1, zI (x2 + 1), none, none, none] [] M Q) ∧
  (¬ (x3 : Int) ≥ (M 55 21) →
    (0 : Int) ≤ x2 ∧ (x2 : Int) < 92 ∧ (0 : Int) ≤ x3 ∧ (x3 : Int) < 92 ∧ ((ziand (M 69 x2.toNat) (M 69 x3.toNat) : Int) ≠ 0 →
      zBg d 147 46 [zR 55, zI x1, zI x2, zI x3, zI 0, zI 0] [] M Q) ∧
    (¬ (ziand (M 69 x2.toNat) (M 69 x3.toNat) : Int) ≠ 0 →
      zBg d 147 46 [zR 55, zI x1, zI x2, zI x3, zI 1, zI 0] [] M Q))) : zBg d 147 12 [zR 55, zI x1, zI x2, zI x3, none, none] [] M Q :=
  zvc_ok (I := zm147) (cuts := [(2, [true, true, true, false, false, false]), (12, [true, true, true, true, false, false]), (46, [true, true, true, true, true, true])]) (n := 91) rfl h
set_option maxRecDepth 20000 in
theorem zv147_46 {d : Nat} {M : zMem} {Q : Option zV → zMem → Prop} (x1 : Int) (x2 : Int) (x3 : Int) (x4 : Int) (x5 : Int) (h :
  ((x5 : Int) ≥ (M 55 4) →
    ((x4 : Int) = 0 →
      zR32 (x3 + 1) ∧ zBg d 147 12 [zR 55, zI x1, zI x2, zI (x3 + 1), none, none] [] M Q) ∧
    (¬ (x4 : Int) = 0 →
      (0 : Int) ≤ x2 ∧ (x2 : Int) < 92 ∧ (0 : Int) ≤ x3 ∧ (x3 : Int) < 92 ∧ ((0 : Int) = 0 ∨ (0 : Int) = 1) ∧ Q (zI 0) (zup (zup M 55 24 (M 69 x2.toNat)) 55 25 (M 69 x3.toNat)))) ∧
  (¬ (x5 : Int) ≥ (M 55 4) →
    ((x4 : Int) = 0 →
      ((x4 : Int) = 0 →
        zR32 (x3 + 1) ∧ zBg d 147 12 [zR 55, zI x1, zI x2, zI (x3 + 1), none, none] [] M Q) ∧
      (¬ (x4 : Int) = 0 →
        (0 : Int) ≤ x2 ∧ (x2 : Int) < 92 ∧ (0 : Int) ≤ x3 ∧ (x3 : Int) < 92 ∧ ((0 : Int) = 0 ∨ (0 : Int) = 1) ∧ Q (zI 0) (zup (zup M 55 24 (M 69 x2.toNat)) 55 25 (M 69 x3.toNat)))) ∧
    (¬ (x4 : Int) = 0 →
      ((ziand (zishr x1 x5) 1 : Int) = 0 →
        zR32 (x5 + 1) ∧ zBg d 147 46 [zR 55, zI x1, zI x2, zI x3, zI 1, zI (x5 + 1)] [] M Q) ∧
      (¬ (ziand (zishr x1 x5) 1 : Int) = 0 →
        zR32 (6 * x2) ∧ zR32 ((6 * x2) + x5) ∧ (0 : Int) ≤ ((6 * x2) + x5) ∧ ((6 * x2) + x5 : Int) < 552 ∧ zR32 (6 * x3) ∧ zR32 ((6 * x3) + x5) ∧ (0 : Int) ≤ ((6 * x3) + x5) ∧ ((6 * x3) + x5 : Int) < 552 ∧ ((ziand (M 71 (((6 * x2) + x5).toNat)) (M 71 (((6 * x3) + x5).toNat)) : Int) = 0 →
          zR32 (x5 + 1) ∧ zBg d 147 46 [zR 55, zI x1, zI x2, zI x3, zI 0, zI (x5 + 1)] [] M Q) ∧
        (¬ (ziand (M 71 (((6 * x2) + x5).toNat)) (M 71 (((6 * x3) + x5).toNat)) : Int) = 0 →
          zR32 (x5 + 1) ∧ zBg d 147 46 [zR 55, zI x1, zI x2, zI x3, zI 1, zI (x5 + 1)] [] M Q))))) : zBg d 147 46 [zR 55, zI x1, zI x2, zI x3, zI x4, zI x5] [] M Q :=
  zvc_ok (I := zm147) (cuts := [(2, [true, true, true, false, false, false]), (12, [true, true, true, true, false, false]), (46, [true, true, true, true, true, true])]) (n := 91) rfl h
theorem zk147 {d : Nat} {M : zMem} {Q : Option zV → zMem → Prop} {x1 : Int} (h : zBg d 147 0 [zR 55, zI x1, none, none, none, none] [] M Q) : zCt d 147 [.inr (.inr 55), .inl x1] M Q := zCt_of (I := zm147) rfl rfl h
/-! CommaCopiesModel.areNamed(I)Z , as 148 -/
set_option maxRecDepth 20000 in
theorem zv148_0 {d : Nat} {M : zMem} {Q : Option zV → zMem → Prop} (x1 : Int) (h :
  ∃ Q1, zCv d 137 [.inr (.inr 55)] M Q1 ∧ ∀ M1, Q1 M1 →
  zBg (d + 1) 148 6 [zR 55, zI x1, zI 1, none, none, none, none] [] M1 Q) : zBg (d + 1) 148 0 [zR 55, zI x1, none, none, none, none, none] [] M Q :=
  zvc_ok (I := zm148) (cuts := [(6, [true, true, true, false, false, false, false]), (22, [true, true, false, true, true, false, false]), (37, [true, true, false, true, true, true, true])]) (n := 98) rfl h
set_option maxRecDepth 20000 in
theorem zv148_6 {d : Nat} {M : zMem} {Q : Option zV → zMem → Prop} (x1 : Int) (x2 : Int) (h :
  ((x2 : Int) = 0 →
    ((1 : Int) = 0 ∨ (1 : Int) = 1) ∧ Q (zI 1) M) ∧
  (¬ (x2 : Int) = 0 →
    zBg d 148 22 [zR 55, zI x1, none, zI 255, zI 0, none, none] [] (zup M 55 26 0) Q)) : zBg d 148 6 [zR 55, zI x1, zI x2, none, none, none, none] [] M Q :=
  zvc_ok (I := zm148) (cuts := [(6, [true, true, true, false, false, false, false]), (22, [true, true, false, true, true, false, false]), (37, [true, true, false, true, true, true, true])]) (n := 98) rfl h
set_option maxRecDepth 20000 in
theorem zv148_22 {d : Nat} {M : zMem} {Q : Option zV → zMem → Prop} (x1 : Int) (x3 : Int) (x4 : Int) (h :
  ((x4 : Int) ≥ (M 55 21) →
    ((M 55 26 : Int) ≤ 0 →
      ∃ Q1, zCi d 149 [.inr (.inr 55), .inl x1] M Q1 ∧ ∀ v1 M1, Q1 v1 M1 →
      zBg (d + 1) 148 6 [zR 55, zI x1, zI v1, none, none, none, none] [] M1 Q) ∧
    (¬ (M 55 26 : Int) ≤ 0 →
      ((x3 : Int) ≠ 0 →
        ∃ Q2, zCi d 149 [.inr (.inr 55), .inl x1] M Q2 ∧ ∀ v2 M2, Q2 v2 M2 →
        zBg (d + 1) 148 6 [zR 55, zI x1, zI v2, none, none, none, none] [] M2 Q) ∧
      (¬ (x3 : Int) ≠ 0 →
        ((0 : Int) = 0 ∨ (0 : Int) = 1) ∧ Q (zI 0) M))) ∧
  (¬ (x4 : Int) ≥ (M 55 21) →
    zBg (d + 1) 148 37 [zR 55, zI x1, none, zI x3, zI x4, zI 1, zI 0] [] M Q)) : zBg (d + 1) 148 22 [zR 55, zI x1, none, zI x3, zI x4, none, none] [] M Q :=
  zvc_ok (I := zm148) (cuts := [(6, [true, true, true, false, false, false, false]), (22, [true, true, false, true, true, false, false]), (37, [true, true, false, true, true, true, true])]) (n := 98) rfl h
set_option maxRecDepth 20000 in
theorem zv148_37 {d : Nat} {M : zMem} {Q : Option zV → zMem → Prop} (x1 : Int) (x3 : Int) (x4 : Int) (x5 : Int) (x6 : Int) (h :
  ((x6 : Int) ≥ (M 55 4) →
    ((x5 : Int) = 0 →
      ((x5 : Int) = 0 →
        zR32 ((M 55 26) + 0) ∧ zR32 (x4 + 1) ∧ zBg d 148 22 [zR 55, zI x1, none, zI (ziand x3 255), zI (x4 + 1), none, none] [] (zup M 55 26 ((M 55 26) + 0)) Q) ∧
      (¬ (x5 : Int) = 0 →
        zR32 ((M 55 26) + 1) ∧ zR32 (x4 + 1) ∧ zBg d 148 22 [zR 55, zI x1, none, zI (ziand x3 255), zI (x4 + 1), none, none] [] (zup M 55 26 ((M 55 26) + 1)) Q)) ∧
    (¬ (x5 : Int) = 0 →
      (0 : Int) ≤ x4 ∧ (x4 : Int) < 92 ∧ ((x5 : Int) = 0 →
        zR32 ((M 55 26) + 0) ∧ zR32 (x4 + 1) ∧ zBg d 148 22 [zR 55, zI x1, none, zI (ziand x3 (M 69 x4.toNat)), zI (x4 + 1), none, none] [] (zup M 55 26 ((M 55 26) + 0)) Q) ∧
      (¬ (x5 : Int) = 0 →
        zR32 ((M 55 26) + 1) ∧ zR32 (x4 + 1) ∧ zBg d 148 22 [zR 55, zI x1, none, zI (ziand x3 (M 69 x4.toNat)), zI (x4 + 1), none, none] [] (zup M 55 26 ((M 55 26) + 1)) Q))) ∧
  (¬ (x6 : Int) ≥ (M 55 4) →
    ((x5 : Int) = 0 →
      ((x5 : Int) = 0 →
        ((x5 : Int) = 0 →
          zR32 ((M 55 26) + 0) ∧ zR32 (x4 + 1) ∧ zBg d 148 22 [zR 55, zI x1, none, zI (ziand x3 255), zI (x4 + 1), none, none] [] (zup M 55 26 ((M 55 26) + 0)) Q) ∧
        (¬ (x5 : Int) = 0 →
          zR32 ((M 55 26) + 1) ∧ zR32 (x4 + 1) ∧ zBg d 148 22 [zR 55, zI x1, none, zI (ziand x3 255), zI (x4 + 1), none, none] [] (zup M 55 26 ((M 55 26) + 1)) Q)) ∧
      (¬ (x5 : Int) = 0 →
        (0 : Int) ≤ x4 ∧ (x4 : Int) < 92 ∧ ((x5 : Int) = 0 →
          zR32 ((M 55 26) + 0) ∧ zR32 (x4 + 1) ∧ zBg d 148 22 [zR 55, zI x1, none, zI (ziand x3 (M 69 x4.toNat)), zI (x4 + 1), none, none] [] (zup M 55 26 ((M 55 26) + 0)) Q) ∧
        (¬ (x5 : Int) = 0 →
          zR32 ((M 55 26) + 1) ∧ zR32 (x4 + 1) ∧ zBg d 148 22 [zR 55, zI x1, none, zI (ziand x3 (M 69 x4.toNat)), zI (x4 + 1), none, none] [] (zup M 55 26 ((M 55 26) + 1)) Q))) ∧
    (¬ (x5 : Int) = 0 →
      ((ziand (zishr x1 x6) 1 : Int) = 0 →
        zR32 (x6 + 1) ∧ zBg d 148 37 [zR 55, zI x1, none, zI x3, zI x4, zI 1, zI (x6 + 1)] [] M Q) ∧
      (¬ (ziand (zishr x1 x6) 1 : Int) = 0 →
        zR32 (6 * x4) ∧ zR32 ((6 * x4) + x6) ∧ (0 : Int) ≤ ((6 * x4) + x6) ∧ ((6 * x4) + x6 : Int) < 552 ∧ (0 : Int) ≤ x6 ∧ (x6 : Int) < 6 ∧ ((ziand (zishr (M 71 (((6 * x4) + x6).toNat)) (M 70 x6.toNat)) 1 : Int) ≠ 1 →
          zR32 (x6 + 1) ∧ zBg d 148 37 [zR 55, zI x1, none, zI x3, zI x4, zI 0, zI (x6 + 1)] [] M Q) ∧
        (¬ (ziand (zishr (M 71 (((6 * x4) + x6).toNat)) (M 70 x6.toNat)) 1 : Int) ≠ 1 →
          zR32 (x6 + 1) ∧ zBg d 148 37 [zR 55, zI x1, none, zI x3, zI x4, zI 1, zI (x6 + 1)] [] M Q))))) : zBg d 148 37 [zR 55, zI x1, none, zI x3, zI x4, zI x5, zI x6] [] M Q :=
  zvc_ok (I := zm148) (cuts := [(6, [true, true, true, false, false, false, false]), (22, [true, true, false, true, true, false, false]), (37, [true, true, false, true, true, true, true])]) (n := 98) rfl h
theorem zk148 {d : Nat} {M : zMem} {Q : Option zV → zMem → Prop} {x1 : Int} (h : zBg d 148 0 [zR 55, zI x1, none, none, none, none, none] [] M Q) : zCt d 148 [.inr (.inr 55), .inl x1] M Q := zCt_of (I := zm148) rfl rfl h
/-! CommaCopiesModel.goesOnBy(I)Z , as 149 -/
set_option maxRecDepth 20000 in
theorem zv149_0 {d : Nat} {M : zMem} {Q : Option zV → zMem → Prop} (x1 : Int) (h :
  zR32 ((M 55 4) - 1) ∧ zBg d 149 7 [zR 55, zI x1, zI ((M 55 4) - 1)] [] M Q) : zBg d 149 0 [zR 55, zI x1, none] [] M Q :=
  zvc_ok (I := zm149) (cuts := [(7, [true, true, true])]) (n := 45) rfl h
set_option maxRecDepth 20000 in
theorem zv149_7 {d : Nat} {M : zMem} {Q : Option zV → zMem → Prop} (x1 : Int) (x2 : Int) (h :
  ((x2 : Int) < 0 →
    ((x2 : Int) ≥ 0 →
      (0 : Int) ≤ x2 ∧ (x2 : Int) < 6 ∧ zR32 ((M 70 x2.toNat) + 1) ∧ (0 : Int) ≤ x2 ∧ (x2 : Int) < 6 ∧ ((1 : Int) = 0 ∨ (1 : Int) = 1) ∧ Q (zI 1) (zup M 70 x2.toNat ((M 70 x2.toNat) + 1))) ∧
    (¬ (x2 : Int) ≥ 0 →
      ((0 : Int) = 0 ∨ (0 : Int) = 1) ∧ Q (zI 0) M)) ∧
  (¬ (x2 : Int) < 0 →
    ((ziand (zishr x1 x2) 1 : Int) = 0 →
      (0 : Int) ≤ x2 ∧ (x2 : Int) < 6 ∧ zR32 (x2 + (-1)) ∧ zBg d 149 7 [zR 55, zI x1, zI (x2 + (-1))] [] (zup M 70 x2.toNat 0) Q) ∧
    (¬ (ziand (zishr x1 x2) 1 : Int) = 0 →
      (0 : Int) ≤ x2 ∧ (x2 : Int) < 6 ∧ ((M 70 x2.toNat : Int) ≠ 4 →
        ((x2 : Int) ≥ 0 →
          (0 : Int) ≤ x2 ∧ (x2 : Int) < 6 ∧ zR32 ((M 70 x2.toNat) + 1) ∧ (0 : Int) ≤ x2 ∧ (x2 : Int) < 6 ∧ ((1 : Int) = 0 ∨ (1 : Int) = 1) ∧ Q (zI 1) (zup M 70 x2.toNat ((M 70 x2.toNat) + 1))) ∧
        (¬ (x2 : Int) ≥ 0 →
          ((0 : Int) = 0 ∨ (0 : Int) = 1) ∧ Q (zI 0) M)) ∧
      (¬ (M 70 x2.toNat : Int) ≠ 4 →
        (0 : Int) ≤ x2 ∧ (x2 : Int) < 6 ∧ zR32 (x2 + (-1)) ∧ zBg d 149 7 [zR 55, zI x1, zI (x2 + (-1))] [] (zup M 70 x2.toNat 0) Q)))) : zBg d 149 7 [zR 55, zI x1, zI x2] [] M Q :=
  zvc_ok (I := zm149) (cuts := [(7, [true, true, true])]) (n := 45) rfl h
theorem zk149 {d : Nat} {M : zMem} {Q : Option zV → zMem → Prop} {x1 : Int} (h : zBg d 149 0 [zR 55, zI x1, none] [] M Q) : zCt d 149 [.inr (.inr 55), .inl x1] M Q := zCt_of (I := zm149) rfl rfl h
/-! CommaCopiesModel.isLaw(II)Z , as 150 -/
set_option maxRecDepth 20000 in
theorem zv150_0 {d : Nat} {M : zMem} {Q : Option zV → zMem → Prop} (x1 : Int) (x2 : Int) (h :
  ∃ Q1, zCv d 145 [.inr (.inr 55)] M Q1 ∧ ∀ M1, Q1 M1 →
  ((x1 : Int) ≠ 0 →
    ((x1 : Int) ≠ 1 →
      ∃ Q2, zCi d 148 [.inr (.inr 55), .inl x2] M1 Q2 ∧ ∀ v2 M2, Q2 v2 M2 →
      ((v2 : Int) = 0 ∨ (v2 : Int) = 1) ∧ Q (zI v2) M2) ∧
    (¬ (x1 : Int) ≠ 1 →
      ∃ Q3, zCi d 147 [.inr (.inr 55), .inl x2] M1 Q3 ∧ ∀ v3 M3, Q3 v3 M3 →
      ((v3 : Int) = 0 ∨ (v3 : Int) = 1) ∧ Q (zI v3) M3)) ∧
  (¬ (x1 : Int) ≠ 0 →
    ∃ Q4, zCi d 146 [.inr (.inr 55), .inl x2] M1 Q4 ∧ ∀ v4 M4, Q4 v4 M4 →
    ((v4 : Int) = 0 ∨ (v4 : Int) = 1) ∧ Q (zI v4) M4)) : zBg (d + 1) 150 0 [zR 55, zI x1, zI x2] [] M Q :=
  zvc_ok (I := zm150) (cuts := []) (n := 24) rfl h
theorem zk150 {d : Nat} {M : zMem} {Q : Option zV → zMem → Prop} {x1 : Int} {x2 : Int} (h : zBg d 150 0 [zR 55, zI x1, zI x2] [] M Q) : zCt d 150 [.inr (.inr 55), .inl x1, .inl x2] M Q := zCt_of (I := zm150) rfl rfl h
/-! CommaCopiesModel.holds(I)I , as 151 -/
set_option maxRecDepth 20000 in
theorem zv151_0 {d : Nat} {M : zMem} {Q : Option zV → zMem → Prop} (x1 : Int) (h :
  ∃ Q1, zCi d 110 [.inr (.inl x1), .inr (.inl 0), .inr (.inl 2)] M Q1 ∧ ∀ v1 M1, Q1 v1 M1 →
  ((v1 : Int) = 0 →
    Q (zI (-1)) M1) ∧
  (¬ (v1 : Int) = 0 →
    ∃ Q2, zCi d 150 [.inr (.inr 55), .inl x1, .inl 63] M1 Q2 ∧ ∀ v2 M2, Q2 v2 M2 →
    ((v2 : Int) = 0 →
      Q (zI 0) M2) ∧
    (¬ (v2 : Int) = 0 →
      Q (zI 1) M2))) : zBg (d + 1) 151 0 [zR 55, zI x1] [] M Q :=
  zvc_ok (I := zm151) (cuts := []) (n := 22) rfl h
theorem zk151 {d : Nat} {M : zMem} {Q : Option zV → zMem → Prop} {x1 : Int} (h : zBg d 151 0 [zR 55, zI x1] [] M Q) : zCt d 151 [.inr (.inr 55), .inl x1] M Q := zCt_of (I := zm151) rfl rfl h
/-! CommaCopiesModel.breach(II)I , as 152 -/
set_option maxRecDepth 20000 in
theorem zv152_0 {d : Nat} {M : zMem} {Q : Option zV → zMem → Prop} (x1 : Int) (x2 : Int) (h :
  ∃ Q1, zCi d 110 [.inr (.inl x1), .inr (.inl 0), .inr (.inl 2)] M Q1 ∧ ∀ v1 M1, Q1 v1 M1 →
  ((v1 : Int) = 0 →
    Q (zI (-1)) M1) ∧
  (¬ (v1 : Int) = 0 →
    ((x1 : Int) ≥ 2 →
      ∃ Q2, zCi d 115 [.inr (.inr 55), .inl x2] M1 Q2 ∧ ∀ v2 M2, Q2 v2 M2 →
      ((v2 : Int) ≠ 0 →
        ∃ Q3, zCi d 150 [.inr (.inr 55), .inl x1, .inl 63] M2 Q3 ∧ ∀ v3 M3, Q3 v3 M3 →
        ((v3 : Int) = 0 →
          ((x1 : Int) ≠ 2 →
            ((x2 : Int) ≠ 0 →
              Q (zI (M3 55 25)) M3) ∧
            (¬ (x2 : Int) ≠ 0 →
              Q (zI (M3 55 24)) M3)) ∧
          (¬ (x1 : Int) ≠ 2 →
            (0 : Int) ≤ x2 ∧ (x2 : Int) < 6 ∧ Q (zI (M3 70 x2.toNat)) M3)) ∧
        (¬ (v3 : Int) = 0 →
          Q (zI (-4)) M3)) ∧
      (¬ (v2 : Int) ≠ 0 →
        Q (zI (-1)) M2)) ∧
    (¬ (x1 : Int) ≥ 2 →
      ∃ Q4, zCi d 110 [.inr (.inl x2), .inr (.inl 0), .inr (.inl 1)] M1 Q4 ∧ ∀ v4 M4, Q4 v4 M4 →
      ((v4 : Int) ≠ 0 →
        ∃ Q5, zCi d 150 [.inr (.inr 55), .inl x1, .inl 63] M4 Q5 ∧ ∀ v5 M5, Q5 v5 M5 →
        ((v5 : Int) = 0 →
          ((x1 : Int) ≠ 2 →
            ((x2 : Int) ≠ 0 →
              Q (zI (M5 55 25)) M5) ∧
            (¬ (x2 : Int) ≠ 0 →
              Q (zI (M5 55 24)) M5)) ∧
          (¬ (x1 : Int) ≠ 2 →
            (0 : Int) ≤ x2 ∧ (x2 : Int) < 6 ∧ Q (zI (M5 70 x2.toNat)) M5)) ∧
        (¬ (v5 : Int) = 0 →
          Q (zI (-4)) M5)) ∧
      (¬ (v4 : Int) ≠ 0 →
        Q (zI (-1)) M4)))) : zBg (d + 1) 152 0 [zR 55, zI x1, zI x2] [] M Q :=
  zvc_ok (I := zm152) (cuts := []) (n := 50) rfl h
theorem zk152 {d : Nat} {M : zMem} {Q : Option zV → zMem → Prop} {x1 : Int} {x2 : Int} (h : zBg d 152 0 [zR 55, zI x1, zI x2] [] M Q) : zCt d 152 [.inr (.inr 55), .inl x1, .inl x2] M Q := zCt_of (I := zm152) rfl rfl h
