/-! CommaCopiesModel.fewest(I)I , as 153 -/
set_option maxRecDepth 20000 in
theorem zv153_0 {d : Nat} {M : zMem} {Q : Option zV → zMem → Prop} (x1 : Int) (h :
  ∃ Q1, zCi d 110 [.inr (.inl x1), .inr (.inl 0), .inr (.inl 2)] M Q1 ∧ ∀ v1 M1, Q1 v1 M1 →
  ((v1 : Int) ≠ 0 →
    zBg (d + 1) 153 19 [zR 55, zI x1, zI (-4), zI 0, none] [] M1 Q) ∧
  (¬ (v1 : Int) ≠ 0 →
    Q (zI (-1)) M1)) : zBg (d + 1) 153 0 [zR 55, zI x1, none, none, none] [] M Q :=
  zvc_ok (I := zm153) (cuts := [(19, [true, true, true, true, false])]) (n := 49) rfl h
set_option maxRecDepth 20000 in
theorem zv153_19 {d : Nat} {M : zMem} {Q : Option zV → zMem → Prop} (x1 : Int) (x2 : Int) (x3 : Int) (h :
  ((x3 : Int) ≥ (zishl 1 (M 55 4)) →
    Q (zI x2) M) ∧
  (¬ (x3 : Int) ≥ (zishl 1 (M 55 4)) →
    ((x2 : Int) < 0 →
      ((1 : Int) = 0 →
        zR32 (x3 + 1) ∧ zBg (d + 1) 153 19 [zR 55, zI x1, zI x2, zI (x3 + 1), none] [] M Q) ∧
      (¬ (1 : Int) = 0 →
        ∃ Q1, zCi d 150 [.inr (.inr 55), .inl x1, .inl x3] M Q1 ∧ ∀ v1 M1, Q1 v1 M1 →
        ((v1 : Int) = 0 →
          zR32 (x3 + 1) ∧ zBg (d + 1) 153 19 [zR 55, zI x1, zI x2, zI (x3 + 1), none] [] M1 Q) ∧
        (¬ (v1 : Int) = 0 →
          zR32 (x3 + 1) ∧ zBg (d + 1) 153 19 [zR 55, zI x1, zI x3, zI (x3 + 1), none] [] M1 Q))) ∧
    (¬ (x2 : Int) < 0 →
      ∃ Q2, zCi d 129 [.inl x3] M Q2 ∧ ∀ v2 M2, Q2 v2 M2 →
      ∃ Q3, zCi d 129 [.inl x2] M2 Q3 ∧ ∀ v3 M3, Q3 v3 M3 →
      ((v2 : Int) ≥ v3 →
        ((0 : Int) = 0 →
          zR32 (x3 + 1) ∧ zBg (d + 1) 153 19 [zR 55, zI x1, zI x2, zI (x3 + 1), none] [] M3 Q) ∧
        (¬ (0 : Int) = 0 →
          ∃ Q4, zCi d 150 [.inr (.inr 55), .inl x1, .inl x3] M3 Q4 ∧ ∀ v4 M4, Q4 v4 M4 →
          ((v4 : Int) = 0 →
            zR32 (x3 + 1) ∧ zBg (d + 1) 153 19 [zR 55, zI x1, zI x2, zI (x3 + 1), none] [] M4 Q) ∧
          (¬ (v4 : Int) = 0 →
            zR32 (x3 + 1) ∧ zBg (d + 1) 153 19 [zR 55, zI x1, zI x3, zI (x3 + 1), none] [] M4 Q))) ∧
      (¬ (v2 : Int) ≥ v3 →
        ((1 : Int) = 0 →
          zR32 (x3 + 1) ∧ zBg (d + 1) 153 19 [zR 55, zI x1, zI x2, zI (x3 + 1), none] [] M3 Q) ∧
        (¬ (1 : Int) = 0 →
          ∃ Q5, zCi d 150 [.inr (.inr 55), .inl x1, .inl x3] M3 Q5 ∧ ∀ v5 M5, Q5 v5 M5 →
          ((v5 : Int) = 0 →
            zR32 (x3 + 1) ∧ zBg (d + 1) 153 19 [zR 55, zI x1, zI x2, zI (x3 + 1), none] [] M5 Q) ∧
          (¬ (v5 : Int) = 0 →
            zR32 (x3 + 1) ∧ zBg (d + 1) 153 19 [zR 55, zI x1, zI x3, zI (x3 + 1), none] [] M5 Q)))))) : zBg (d + 1) 153 19 [zR 55, zI x1, zI x2, zI x3, none] [] M Q :=
  zvc_ok (I := zm153) (cuts := [(19, [true, true, true, true, false])]) (n := 49) rfl h
theorem zk153 {d : Nat} {M : zMem} {Q : Option zV → zMem → Prop} {x1 : Int} (h : zBg d 153 0 [zR 55, zI x1, none, none, none] [] M Q) : zCt d 153 [.inr (.inr 55), .inl x1] M Q := zCt_of (I := zm153) rfl rfl h
/-! CommaCopiesModel.isRowThere()Z , as 154 -/
set_option maxRecDepth 20000 in
theorem zv154_0 {d : Nat} {M : zMem} {Q : Option zV → zMem → Prop} (h :
  zBg d 154 4 [zR 55, zI 0, zI 0, none, none] [] M Q) : zBg d 154 0 [zR 55, none, none, none, none] [] M Q :=
  zvc_ok (I := zm154) (cuts := [(4, [true, true, true, false, false]), (19, [true, true, true, true, true])]) (n := 56) rfl h
set_option maxRecDepth 20000 in
theorem zv154_4 {d : Nat} {M : zMem} {Q : Option zV → zMem → Prop} (x1 : Int) (x2 : Int) (h :
  zR32 ((M 55 12) - 1) ∧ ((x2 : Int) ≥ ((M 55 12) - 1) →
    ((x1 : Int) = 0 ∨ (x1 : Int) = 1) ∧ Q (zI x1) M) ∧
  (¬ (x2 : Int) ≥ ((M 55 12) - 1) →
    zBg d 154 19 [zR 55, zI x1, zI x2, zI 1, zI 0] [] M Q)) : zBg d 154 4 [zR 55, zI x1, zI x2, none, none] [] M Q :=
  zvc_ok (I := zm154) (cuts := [(4, [true, true, true, false, false]), (19, [true, true, true, true, true])]) (n := 56) rfl h
set_option maxRecDepth 20000 in
theorem zv154_19 {d : Nat} {M : zMem} {Q : Option zV → zMem → Prop} (x1 : Int) (x2 : Int) (x3 : Int) (x4 : Int) (h :
  ((x4 : Int) ≥ (M 55 4) →
    ((x1 : Int) ≠ 0 →
      zR32 (x2 + 1) ∧ zBg d 154 4 [zR 55, zI 1, zI (x2 + 1), none, none] [] M Q) ∧
    (¬ (x1 : Int) ≠ 0 →
      ((x3 : Int) = 0 →
        zR32 (x2 + 1) ∧ zBg d 154 4 [zR 55, zI 0, zI (x2 + 1), none, none] [] M Q) ∧
      (¬ (x3 : Int) = 0 →
        zR32 (x2 + 1) ∧ zBg d 154 4 [zR 55, zI 1, zI (x2 + 1), none, none] [] M Q))) ∧
  (¬ (x4 : Int) ≥ (M 55 4) →
    ((x3 : Int) = 0 →
      zR32 (x4 + 1) ∧ zBg d 154 19 [zR 55, zI x1, zI x2, zI 0, zI (x4 + 1)] [] M Q) ∧
    (¬ (x3 : Int) = 0 →
      zR32 (6 * x2) ∧ zR32 ((6 * x2) + x4) ∧ (0 : Int) ≤ ((6 * x2) + x4) ∧ ((6 * x2) + x4 : Int) < 48 ∧ (0 : Int) ≤ x4 ∧ (x4 : Int) < 6 ∧ ((M 65 (((6 * x2) + x4).toNat) : Int) ≠ (M 70 x4.toNat) →
        zR32 (x4 + 1) ∧ zBg d 154 19 [zR 55, zI x1, zI x2, zI 0, zI (x4 + 1)] [] M Q) ∧
      (¬ (M 65 (((6 * x2) + x4).toNat) : Int) ≠ (M 70 x4.toNat) →
        zR32 (x4 + 1) ∧ zBg d 154 19 [zR 55, zI x1, zI x2, zI 1, zI (x4 + 1)] [] M Q)))) : zBg d 154 19 [zR 55, zI x1, zI x2, zI x3, zI x4] [] M Q :=
  zvc_ok (I := zm154) (cuts := [(4, [true, true, true, false, false]), (19, [true, true, true, true, true])]) (n := 56) rfl h
theorem zk154 {d : Nat} {M : zMem} {Q : Option zV → zMem → Prop} (h : zBg d 154 0 [zR 55, none, none, none, none] [] M Q) : zCt d 154 [.inr (.inr 55)] M Q := zCt_of (I := zm154) rfl rfl h
/-! CommaCopiesModel.more(II)I , as 155 -/
set_option maxRecDepth 20000 in
theorem zv155_0 {d : Nat} {M : zMem} {Q : Option zV → zMem → Prop} (x1 : Int) (x2 : Int) (h :
  ∃ Q1, zCi d 110 [.inr (.inl x1), .inr (.inl 0), .inr (.inl 1)] M Q1 ∧ ∀ v1 M1, Q1 v1 M1 →
  ((v1 : Int) = 0 →
    Q (zI (-1)) M1) ∧
  (¬ (v1 : Int) = 0 →
    ∃ Q2, zCi d 115 [.inr (.inr 55), .inl x2] M1 Q2 ∧ ∀ v2 M2, Q2 v2 M2 →
    ((v2 : Int) ≠ 0 →
      ((M2 55 12 : Int) ≠ 8 →
        zR32 ((M2 55 12) + 1) ∧ ∃ Q3, zCv d 137 [.inr (.inr 55)] (zup M2 55 12 ((M2 55 12) + 1)) Q3 ∧ ∀ M3, Q3 M3 →
        zBg (d + 1) 155 52 [zR 55, zI x1, zI x2, zI (-4), zI 1, none] [] M3 Q) ∧
      (¬ (M2 55 12 : Int) ≠ 8 →
        Q (zI (-3)) M2)) ∧
    (¬ (v2 : Int) ≠ 0 →
      Q (zI (-1)) M2))) : zBg (d + 1) 155 0 [zR 55, zI x1, zI x2, none, none, none] [] M Q :=
  zvc_ok (I := zm155) (cuts := [(52, [true, true, true, true, true, false]), (64, [true, true, true, false, false, true])]) (n := 90) rfl h
set_option maxRecDepth 20000 in
theorem zv155_52 {d : Nat} {M : zMem} {Q : Option zV → zMem → Prop} (x1 : Int) (x2 : Int) (x3 : Int) (x4 : Int) (h :
  ((x4 : Int) = 0 →
    zR32 ((M 55 12) - 1) ∧ Q (zI x3) (zup M 55 12 ((M 55 12) - 1))) ∧
  (¬ (x4 : Int) = 0 →
    ((x3 : Int) ≥ 0 →
      zR32 ((M 55 12) - 1) ∧ Q (zI x3) (zup M 55 12 ((M 55 12) - 1))) ∧
    (¬ (x3 : Int) ≥ 0 →
      zBg d 155 64 [zR 55, zI x1, zI x2, none, none, zI 0] [] M Q))) : zBg d 155 52 [zR 55, zI x1, zI x2, zI x3, zI x4, none] [] M Q :=
  zvc_ok (I := zm155) (cuts := [(52, [true, true, true, true, true, false]), (64, [true, true, true, false, false, true])]) (n := 90) rfl h
set_option maxRecDepth 20000 in
theorem zv155_64 {d : Nat} {M : zMem} {Q : Option zV → zMem → Prop} (x1 : Int) (x2 : Int) (x5 : Int) (h :
  ((x5 : Int) ≥ (M 55 4) →
    ∃ Q1, zCi d 154 [.inr (.inr 55)] M Q1 ∧ ∀ v1 M1, Q1 v1 M1 →
    ((v1 : Int) ≠ 0 →
      ∃ Q2, zCi d 136 [.inr (.inr 55), .inl 0] M1 Q2 ∧ ∀ v2 M2, Q2 v2 M2 →
      zBg (d + 1) 155 52 [zR 55, zI x1, zI x2, zI (-4), zI v2, none] [] M2 Q) ∧
    (¬ (v1 : Int) ≠ 0 →
      ∃ Q3, zCi d 150 [.inr (.inr 55), .inl x1, .inl 63] M1 Q3 ∧ ∀ v3 M3, Q3 v3 M3 →
      ((v3 : Int) = 0 →
        ∃ Q4, zCi d 136 [.inr (.inr 55), .inl 0] M3 Q4 ∧ ∀ v4 M4, Q4 v4 M4 →
        zBg (d + 1) 155 52 [zR 55, zI x1, zI x2, zI (-4), zI v4, none] [] M4 Q) ∧
      (¬ (v3 : Int) = 0 →
        (0 : Int) ≤ x2 ∧ (x2 : Int) < 6 ∧ ∃ Q5, zCi d 136 [.inr (.inr 55), .inl 0] M3 Q5 ∧ ∀ v5 M5, Q5 v5 M5 →
        zBg (d + 1) 155 52 [zR 55, zI x1, zI x2, zI (M3 70 x2.toNat), zI v5, none] [] M5 Q))) ∧
  (¬ (x5 : Int) ≥ (M 55 4) →
    zR32 (6 * (M 55 12)) ∧ zR32 ((6 * (M 55 12)) - 6) ∧ zR32 (((6 * (M 55 12)) - 6) + x5) ∧ (0 : Int) ≤ x5 ∧ (x5 : Int) < 6 ∧ (0 : Int) ≤ (((6 * (M 55 12)) - 6) + x5) ∧ (((6 * (M 55 12)) - 6) + x5 : Int) < 48 ∧ zR32 (x5 + 1) ∧ zBg (d + 1) 155 64 [zR 55, zI x1, zI x2, none, none, zI (x5 + 1)] [] (zup M 65 ((((6 * (M 55 12)) - 6) + x5).toNat) (M 70 x5.toNat)) Q)) : zBg (d + 1) 155 64 [zR 55, zI x1, zI x2, none, none, zI x5] [] M Q :=
  zvc_ok (I := zm155) (cuts := [(52, [true, true, true, true, true, false]), (64, [true, true, true, false, false, true])]) (n := 90) rfl h
theorem zk155 {d : Nat} {M : zMem} {Q : Option zV → zMem → Prop} {x1 : Int} {x2 : Int} (h : zBg d 155 0 [zR 55, zI x1, zI x2, none, none, none] [] M Q) : zCt d 155 [.inr (.inr 55), .inl x1, .inl x2] M Q := zCt_of (I := zm155) rfl rfl h
/-! CommaCopiesModel.scoreOf(I[I)I , as 156 -/
set_option maxRecDepth 20000 in
theorem zv156_0 {d : Nat} {M : zMem} {Q : Option zV → zMem → Prop} (x1 : Int) (a2 : Nat) (h :
  zBg d 156 5 [zR 55, zI x1, zR a2, zI 0, zI 0] [] M Q) : zBg d 156 0 [zR 55, zI x1, zR a2, none, none] [] M Q :=
  zvc_ok (I := zm156) (cuts := [(5, [true, true, true, true, true])]) (n := 35) rfl h
set_option maxRecDepth 20000 in
theorem zv156_5 {d : Nat} {M : zMem} {Q : Option zV → zMem → Prop} (x1 : Int) (a2 : Nat) (x3 : Int) (x4 : Int) (h :
  ((x4 : Int) ≥ (M 55 4) →
    Q (zI x3) M) ∧
  (¬ (x4 : Int) ≥ (M 55 4) →
    zR32 (6 * x1) ∧ zR32 ((6 * x1) + x4) ∧ (0 : Int) ≤ ((6 * x1) + x4) ∧ ((6 * x1) + x4 : Int) < 48 ∧ zar a2 0 fun n => (0 : Int) ≤ x4 ∧ (x4 : Int) < n ∧ ((M 65 (((6 * x1) + x4).toNat) : Int) ≠ (M a2 x4.toNat) →
      zR32 (x3 + 0) ∧ zR32 (x4 + 1) ∧ zBg d 156 5 [zR 55, zI x1, zR a2, zI (x3 + 0), zI (x4 + 1)] [] M Q) ∧
    (¬ (M 65 (((6 * x1) + x4).toNat) : Int) ≠ (M a2 x4.toNat) →
      zR32 (x3 + 1) ∧ zR32 (x4 + 1) ∧ zBg d 156 5 [zR 55, zI x1, zR a2, zI (x3 + 1), zI (x4 + 1)] [] M Q))) : zBg d 156 5 [zR 55, zI x1, zR a2, zI x3, zI x4] [] M Q :=
  zvc_ok (I := zm156) (cuts := [(5, [true, true, true, true, true])]) (n := 35) rfl h
theorem zk156 {d : Nat} {M : zMem} {Q : Option zV → zMem → Prop} {x1 : Int} {a2 : Nat} (h : zBg d 156 0 [zR 55, zI x1, zR a2, none, none] [] M Q) : zCt d 156 [.inr (.inr 55), .inl x1, .inr (.inr a2)] M Q := zCt_of (I := zm156) rfl rfl h
/-! CommaCopiesModel.score(I)I , as 157 -/
set_option maxRecDepth 20000 in
theorem zv157_0 {d : Nat} {M : zMem} {Q : Option zV → zMem → Prop} (x1 : Int) (h :
  ∃ Q1, zCi d 121 [.inr (.inr 55), .inl x1] M Q1 ∧ ∀ v1 M1, Q1 v1 M1 →
  ((v1 : Int) = 0 →
    Q (zI (-1)) M1) ∧
  (¬ (v1 : Int) = 0 →
    ∃ Q2, zCi d 156 [.inr (.inr 55), .inl x1, .inr (.inr 66)] M1 Q2 ∧ ∀ v2 M2, Q2 v2 M2 →
    Q (zI v2) M2)) : zBg (d + 1) 157 0 [zR 55, zI x1] [] M Q :=
  zvc_ok (I := zm157) (cuts := []) (n := 17) rfl h
theorem zk157 {d : Nat} {M : zMem} {Q : Option zV → zMem → Prop} {x1 : Int} (h : zBg d 157 0 [zR 55, zI x1] [] M Q) : zCt d 157 [.inr (.inr 55), .inl x1] M Q := zCt_of (I := zm157) rfl rfl h
/-! CommaCopiesModel.scores()I , as 158 -/
set_option maxRecDepth 20000 in
theorem zv158_0 {d : Nat} {M : zMem} {Q : Option zV → zMem → Prop} (h :
  zBg d 158 2 [zR 55, zI 0, none, none, none] [] M Q) : zBg d 158 0 [zR 55, none, none, none, none] [] M Q :=
  zvc_ok (I := zm158) (cuts := [(2, [true, true, false, false, false]), (33, [true, true, true, false, false]), (61, [true, true, true, true, true])]) (n := 84) rfl h
set_option maxRecDepth 20000 in
theorem zv158_2 {d : Nat} {M : zMem} {Q : Option zV → zMem → Prop} (x1 : Int) (h :
  ((x1 : Int) ≥ 8 →
    zBg d 158 33 [zR 55, zI 1, zI 0, none, none] [] M Q) ∧
  (¬ (x1 : Int) ≥ 8 →
    ((x1 : Int) ≠ 0 →
      (0 : Int) ≤ x1 ∧ (x1 : Int) < 8 ∧ zR32 (x1 + 1) ∧ zBg d 158 2 [zR 55, zI (x1 + 1), none, none, none] [] (zup M 72 x1.toNat 0) Q) ∧
    (¬ (x1 : Int) ≠ 0 →
      (0 : Int) ≤ x1 ∧ (x1 : Int) < 8 ∧ zR32 (x1 + 1) ∧ zBg d 158 2 [zR 55, zI (x1 + 1), none, none, none] [] (zup M 72 x1.toNat 1) Q))) : zBg d 158 2 [zR 55, zI x1, none, none, none] [] M Q :=
  zvc_ok (I := zm158) (cuts := [(2, [true, true, false, false, false]), (33, [true, true, true, false, false]), (61, [true, true, true, true, true])]) (n := 84) rfl h
set_option maxRecDepth 20000 in
theorem zv158_33 {d : Nat} {M : zMem} {Q : Option zV → zMem → Prop} (x1 : Int) (x2 : Int) (h :
  ((x2 : Int) ≥ (M 55 4) →
    Q (zI x1) M) ∧
  (¬ (x2 : Int) ≥ (M 55 4) →
    (0 : Int) ≤ x2 ∧ (x2 : Int) < 6 ∧ ((M 66 x2.toNat : Int) ≥ 4 →
      zBg d 158 61 [zR 55, zI x1, zI x2, zI 0, zI 6] [] M Q) ∧
    (¬ (M 66 x2.toNat : Int) ≥ 4 →
      zBg d 158 61 [zR 55, zI x1, zI x2, zI 1, zI 6] [] M Q))) : zBg d 158 33 [zR 55, zI x1, zI x2, none, none] [] M Q :=
  zvc_ok (I := zm158) (cuts := [(2, [true, true, false, false, false]), (33, [true, true, true, false, false]), (61, [true, true, true, true, true])]) (n := 84) rfl h
set_option maxRecDepth 20000 in
theorem zv158_61 {d : Nat} {M : zMem} {Q : Option zV → zMem → Prop} (x1 : Int) (x2 : Int) (x3 : Int) (x4 : Int) (h :
  ((x4 : Int) < 0 →
    (0 : Int) ≤ x2 ∧ (x2 : Int) < 6 ∧ zR32 (x1 * (M 60 x2.toNat)) ∧ zR32 (x2 + 1) ∧ zBg d 158 33 [zR 55, zI (x1 * (M 60 x2.toNat)), zI (x2 + 1), none, none] [] M Q) ∧
  (¬ (x4 : Int) < 0 →
    (0 : Int) ≤ x4 ∧ (x4 : Int) < 8 ∧ (0 : Int) ≤ x2 ∧ (x2 : Int) < 6 ∧ zR32 ((M 60 x2.toNat) - x3) ∧ zR32 ((M 72 x4.toNat) * ((M 60 x2.toNat) - x3)) ∧ ((x4 : Int) ≤ 0 →
      zR32 (((M 72 x4.toNat) * ((M 60 x2.toNat) - x3)) + 0) ∧ (0 : Int) ≤ x4 ∧ (x4 : Int) < 8 ∧ zR32 (x4 + (-1)) ∧ zBg d 158 61 [zR 55, zI x1, zI x2, zI x3, zI (x4 + (-1))] [] (zup M 72 x4.toNat (((M 72 x4.toNat) * ((M 60 x2.toNat) - x3)) + 0)) Q) ∧
    (¬ (x4 : Int) ≤ 0 →
      zR32 (x4 - 1) ∧ (0 : Int) ≤ (x4 - 1) ∧ (x4 - 1 : Int) < 8 ∧ zR32 (x3 * (M 72 ((x4 - 1).toNat))) ∧ zR32 (((M 72 x4.toNat) * ((M 60 x2.toNat) - x3)) + (x3 * (M 72 ((x4 - 1).toNat)))) ∧ (0 : Int) ≤ x4 ∧ (x4 : Int) < 8 ∧ zR32 (x4 + (-1)) ∧ zBg d 158 61 [zR 55, zI x1, zI x2, zI x3, zI (x4 + (-1))] [] (zup M 72 x4.toNat (((M 72 x4.toNat) * ((M 60 x2.toNat) - x3)) + (x3 * (M 72 ((x4 - 1).toNat))))) Q))) : zBg d 158 61 [zR 55, zI x1, zI x2, zI x3, zI x4] [] M Q :=
  zvc_ok (I := zm158) (cuts := [(2, [true, true, false, false, false]), (33, [true, true, true, false, false]), (61, [true, true, true, true, true])]) (n := 84) rfl h
theorem zk158 {d : Nat} {M : zMem} {Q : Option zV → zMem → Prop} (h : zBg d 158 0 [zR 55, none, none, none, none] [] M Q) : zCt d 158 [.inr (.inr 55)] M Q := zCt_of (I := zm158) rfl rfl h
/-! CommaCopiesModel.above(I)I , as 159 -/
set_option maxRecDepth 20000 in
theorem zv159_0 {d : Nat} {M : zMem} {Q : Option zV → zMem → Prop} (x1 : Int) (h :
  zBg d 159 4 [zR 55, none, zI 0, zI x1] [] M Q) : zBg d 159 0 [zR 55, zI x1, none, none] [] M Q :=
  zvc_ok (I := zm159) (cuts := [(4, [true, false, true, true])]) (n := 23) rfl h
set_option maxRecDepth 20000 in
theorem zv159_4 {d : Nat} {M : zMem} {Q : Option zV → zMem → Prop} (x2 : Int) (x3 : Int) (h :
  ((x3 : Int) ≥ 8 →
    Q (zI x2) M) ∧
  (¬ (x3 : Int) ≥ 8 →
    (0 : Int) ≤ x3 ∧ (x3 : Int) < 8 ∧ zR32 (x2 + (M 72 x3.toNat)) ∧ zR32 (x3 + 1) ∧ zBg d 159 4 [zR 55, none, zI (x2 + (M 72 x3.toNat)), zI (x3 + 1)] [] M Q)) : zBg d 159 4 [zR 55, none, zI x2, zI x3] [] M Q :=
  zvc_ok (I := zm159) (cuts := [(4, [true, false, true, true])]) (n := 23) rfl h
theorem zk159 {d : Nat} {M : zMem} {Q : Option zV → zMem → Prop} {x1 : Int} (h : zBg d 159 0 [zR 55, zI x1, none, none] [] M Q) : zCt d 159 [.inr (.inr 55), .inl x1] M Q := zCt_of (I := zm159) rfl rfl h
/-! CommaCopiesModel.wrong(II)I , as 160 -/
set_option maxRecDepth 20000 in
theorem zv160_0 {d : Nat} {M : zMem} {Q : Option zV → zMem → Prop} (x1 : Int) (x2 : Int) (h :
  ∃ Q1, zCi d 110 [.inr (.inl x1), .inr (.inl 0), .inr (.inl 6)] M Q1 ∧ ∀ v1 M1, Q1 v1 M1 →
  ((v1 : Int) = 0 →
    Q (zI (-1)) M1) ∧
  (¬ (v1 : Int) = 0 →
    ∃ Q2, zCi d 110 [.inr (.inl x2), .inr (.inl 0), .inr (.inl 1)] M1 Q2 ∧ ∀ v2 M2, Q2 v2 M2 →
    ((v2 : Int) ≠ 0 →
      ((M2 55 2 : Int) ≠ 0 →
        ∃ Q3, zCi d 158 [.inr (.inr 55)] M2 Q3 ∧ ∀ v3 M3, Q3 v3 M3 →
        ∃ Q4, zCi d 159 [.inr (.inr 55), .inl x1] M3 Q4 ∧ ∀ v4 M4, Q4 v4 M4 →
        zBg (d + 1) 160 49 [zR 55, zI x1, zI x2, zI v3, zI v4, zI v3, none] [] M4 Q) ∧
      (¬ (M2 55 2 : Int) ≠ 0 →
        Q (zI (-2)) M2)) ∧
    (¬ (v2 : Int) ≠ 0 →
      Q (zI (-1)) M2))) : zBg (d + 1) 160 0 [zR 55, zI x1, zI x2, none, none, none, none] [] M Q :=
  zvc_ok (I := zm160) (cuts := [(49, [true, true, true, true, true, true, false])]) (n := 56) rfl h
set_option maxRecDepth 20000 in
theorem zv160_49 {d : Nat} {M : zMem} {Q : Option zV → zMem → Prop} (x1 : Int) (x2 : Int) (x3 : Int) (x4 : Int) (x5 : Int) (h :
  ((x5 : Int) = 0 →
    ((x2 : Int) ≠ 0 →
      (x4 : Int) ≠ 0 ∧ Q (zI (zidiv x3 x4)) M) ∧
    (¬ (x2 : Int) ≠ 0 →
      ∃ Q1, zCi d 159 [.inr (.inr 55), .inl x1] M Q1 ∧ ∀ v1 M1, Q1 v1 M1 →
      (x4 : Int) ≠ 0 ∧ Q (zI (zidiv v1 x4)) M1)) ∧
  (¬ (x5 : Int) = 0 →
    (x5 : Int) ≠ 0 ∧ zBg (d + 1) 160 49 [zR 55, zI x1, zI x2, zI x3, zI x5, zI (zirem x4 x5), none] [] M Q)) : zBg (d + 1) 160 49 [zR 55, zI x1, zI x2, zI x3, zI x4, zI x5, none] [] M Q :=
  zvc_ok (I := zm160) (cuts := [(49, [true, true, true, true, true, true, false])]) (n := 56) rfl h
theorem zk160 {d : Nat} {M : zMem} {Q : Option zV → zMem → Prop} {x1 : Int} {x2 : Int} (h : zBg d 160 0 [zR 55, zI x1, zI x2, none, none, none, none] [] M Q) : zCt d 160 [.inr (.inr 55), .inl x1, .inl x2] M Q := zCt_of (I := zm160) rfl rfl h
/-! CommaCopiesModel.bar(I)I , as 161 -/
set_option maxRecDepth 20000 in
theorem zv161_0 {d : Nat} {M : zMem} {Q : Option zV → zMem → Prop} (x1 : Int) (h :
  ∃ Q1, zCi d 110 [.inr (.inl x1), .inr (.inl 1), .inr (.inl 9999)] M Q1 ∧ ∀ v1 M1, Q1 v1 M1 →
  ((v1 : Int) ≠ 0 →
    ((M1 55 2 : Int) ≠ 0 →
      ∃ Q2, zCi d 158 [.inr (.inr 55)] M1 Q2 ∧ ∀ v2 M2, Q2 v2 M2 →
      zBg (d + 1) 161 31 [zR 55, zI x1, zI v2, zI 0] [] M2 Q) ∧
    (¬ (M1 55 2 : Int) ≠ 0 →
      Q (zI (-2)) M1)) ∧
  (¬ (v1 : Int) ≠ 0 →
    Q (zI (-1)) M1)) : zBg (d + 1) 161 0 [zR 55, zI x1, none, none] [] M Q :=
  zvc_ok (I := zm161) (cuts := [(31, [true, true, true, true])]) (n := 43) rfl h
set_option maxRecDepth 20000 in
theorem zv161_31 {d : Nat} {M : zMem} {Q : Option zV → zMem → Prop} (x1 : Int) (x2 : Int) (x3 : Int) (h :
  ((x3 : Int) ≥ 7 →
    Q (zI (-4)) M) ∧
  (¬ (x3 : Int) ≥ 7 →
    ∃ Q1, zCi d 159 [.inr (.inr 55), .inl x3] M Q1 ∧ ∀ v1 M1, Q1 v1 M1 →
    ((zlcmp (zlmul v1 x1) x2 : Int) > 0 →
      zR32 (x3 + 1) ∧ zBg (d + 1) 161 31 [zR 55, zI x1, zI x2, zI (x3 + 1)] [] M1 Q) ∧
    (¬ (zlcmp (zlmul v1 x1) x2 : Int) > 0 →
      Q (zI x3) M1))) : zBg (d + 1) 161 31 [zR 55, zI x1, zI x2, zI x3] [] M Q :=
  zvc_ok (I := zm161) (cuts := [(31, [true, true, true, true])]) (n := 43) rfl h
theorem zk161 {d : Nat} {M : zMem} {Q : Option zV → zMem → Prop} {x1 : Int} (h : zBg d 161 0 [zR 55, zI x1, none, none] [] M Q) : zCt d 161 [.inr (.inr 55), .inl x1] M Q := zCt_of (I := zm161) rfl rfl h
/-! CommaCopiesModel.puts(I)V , as 162 -/
set_option maxRecDepth 20000 in
theorem zv162_0 {d : Nat} {M : zMem} {Q : Option zV → zMem → Prop} (x1 : Int) (h :
  (0 : Int) ≤ x1 ∧ (x1 : Int) < 6 ∧ zBg d 162 16 [zR 55, zI x1, zI (M 60 x1.toNat), zI 1000000, zI 0, zI 0, none, none, none, none, none] [] M Q) : zBg d 162 0 [zR 55, zI x1, none, none, none, none, none, none, none, none, none] [] M Q :=
  zvc_ok (I := zm162) (cuts := [(16, [true, true, true, true, true, true, false, false, false, false, false]), (36, [true, true, true, true, true, true, true, true, true, true, false]), (126, [true, true, true, true, true, true, false, true, true, true, false]), (229, [true, false, false, false, true, true, false, false, false, false, false])]) (n := 151) rfl h
set_option maxRecDepth 20000 in
theorem zv162_16 {d : Nat} {M : zMem} {Q : Option zV → zMem → Prop} (x1 : Int) (x2 : Int) (x3 : Int) (x4 : Int) (x5 : Int) (h :
  ((x5 : Int) ≥ 256 →
    zBg d 162 229 [zR 55, none, none, none, zI x4, zI 0, none, none, none, none, none] [] M Q) ∧
  (¬ (x5 : Int) ≥ 256 →
    zBg d 162 36 [zR 55, zI x1, zI x2, zI x3, zI x4, zI x5, zI 0, zI 0, zI 1, zI 0, none] [] M Q)) : zBg d 162 16 [zR 55, zI x1, zI x2, zI x3, zI x4, zI x5, none, none, none, none, none] [] M Q :=
  zvc_ok (I := zm162) (cuts := [(16, [true, true, true, true, true, true, false, false, false, false, false]), (36, [true, true, true, true, true, true, true, true, true, true, false]), (126, [true, true, true, true, true, true, false, true, true, true, false]), (229, [true, false, false, false, true, true, false, false, false, false, false])]) (n := 151) rfl h
set_option maxRecDepth 20000 in
theorem zv162_229 {d : Nat} {M : zMem} {Q : Option zV → zMem → Prop} (x4 : Int) (x5 : Int) (h :
  ((x5 : Int) ≥ 4 →
    Q none M) ∧
  (¬ (x5 : Int) ≥ 4 →
    zR32 (2 * x5) ∧ zR32 (6 - (2 * x5)) ∧ (0 : Int) ≤ x5 ∧ (x5 : Int) < 4 ∧ zR32 (x5 + 1) ∧ zBg d 162 229 [zR 55, none, none, none, zI x4, zI (x5 + 1), none, none, none, none, none] [] (zup M 73 x5.toNat (ziand (zishr x4 (6 - (2 * x5))) 3)) Q)) : zBg d 162 229 [zR 55, none, none, none, zI x4, zI x5, none, none, none, none, none] [] M Q :=
  zvc_ok (I := zm162) (cuts := [(16, [true, true, true, true, true, true, false, false, false, false, false]), (36, [true, true, true, true, true, true, true, true, true, true, false]), (126, [true, true, true, true, true, true, false, true, true, true, false]), (229, [true, false, false, false, true, true, false, false, false, false, false])]) (n := 151) rfl h
set_option maxRecDepth 20000 in
theorem zv162_36 {d : Nat} {M : zMem} {Q : Option zV → zMem → Prop} (x1 : Int) (x2 : Int) (x3 : Int) (x4 : Int) (x5 : Int) (x6 : Int) (x7 : Int) (x8 : Int) (x9 : Int) (h :
  ((x9 : Int) ≥ 4 →
    zBg d 162 126 [zR 55, zI x1, zI x2, zI x3, zI x4, zI x5, none, zI x7, zI x8, zI 0, none] [] M Q) ∧
  (¬ (x9 : Int) ≥ 4 →
    zR32 (2 * x9) ∧ zR32 (6 - (2 * x9)) ∧ ((x8 : Int) = 0 →
      ((x9 : Int) ≥ x2 →
        zR32 (x9 + 1) ∧ zBg d 162 36 [zR 55, zI x1, zI x2, zI x3, zI x4, zI x5, zI (zior x6 0), zI x7, zI 0, zI (x9 + 1), none] [] M Q) ∧
      (¬ (x9 : Int) ≥ x2 →
        zR32 (x9 + 1) ∧ zBg d 162 36 [zR 55, zI x1, zI x2, zI x3, zI x4, zI x5, zI (zior x6 (zishl 1 (ziand (zishr x5 (6 - (2 * x9))) 3))), zI x7, zI 0, zI (x9 + 1), none] [] M Q)) ∧
    (¬ (x8 : Int) = 0 →
      ((x9 : Int) ≥ x2 →
        ((ziand (zishr x5 (6 - (2 * x9))) 3 : Int) ≠ 0 →
          ((x9 : Int) ≥ x2 →
            zR32 (x9 + 1) ∧ zBg d 162 36 [zR 55, zI x1, zI x2, zI x3, zI x4, zI x5, zI (zior x6 0), zI x7, zI 0, zI (x9 + 1), none] [] M Q) ∧
          (¬ (x9 : Int) ≥ x2 →
            zR32 (x9 + 1) ∧ zBg d 162 36 [zR 55, zI x1, zI x2, zI x3, zI x4, zI x5, zI (zior x6 (zishl 1 (ziand (zishr x5 (6 - (2 * x9))) 3))), zI x7, zI 0, zI (x9 + 1), none] [] M Q)) ∧
        (¬ (ziand (zishr x5 (6 - (2 * x9))) 3 : Int) ≠ 0 →
          ((x9 : Int) ≥ x2 →
            zR32 (x9 + 1) ∧ zBg d 162 36 [zR 55, zI x1, zI x2, zI x3, zI x4, zI x5, zI (zior x6 0), zI x7, zI 1, zI (x9 + 1), none] [] M Q) ∧
          (¬ (x9 : Int) ≥ x2 →
            zR32 (x9 + 1) ∧ zBg d 162 36 [zR 55, zI x1, zI x2, zI x3, zI x4, zI x5, zI (zior x6 (zishl 1 (ziand (zishr x5 (6 - (2 * x9))) 3))), zI x7, zI 1, zI (x9 + 1), none] [] M Q))) ∧
      (¬ (x9 : Int) ≥ x2 →
        ((ziand (zishr x5 (6 - (2 * x9))) 3 : Int) ≥ x2 →
          ((x9 : Int) ≥ x2 →
            zR32 (x9 + 1) ∧ zBg d 162 36 [zR 55, zI x1, zI x2, zI x3, zI x4, zI x5, zI (zior x6 0), zI x7, zI 0, zI (x9 + 1), none] [] M Q) ∧
          (¬ (x9 : Int) ≥ x2 →
            zR32 (x9 + 1) ∧ zBg d 162 36 [zR 55, zI x1, zI x2, zI x3, zI x4, zI x5, zI (zior x6 (zishl 1 (ziand (zishr x5 (6 - (2 * x9))) 3))), zI x7, zI 0, zI (x9 + 1), none] [] M Q)) ∧
        (¬ (ziand (zishr x5 (6 - (2 * x9))) 3 : Int) ≥ x2 →
          ((ziand (zishr x6 (ziand (zishr x5 (6 - (2 * x9))) 3)) 1 : Int) ≠ 0 →
            ((x9 : Int) ≥ x2 →
              zR32 (x9 + 1) ∧ zBg d 162 36 [zR 55, zI x1, zI x2, zI x3, zI x4, zI x5, zI (zior x6 0), zI x7, zI 0, zI (x9 + 1), none] [] M Q) ∧
            (¬ (x9 : Int) ≥ x2 →
              zR32 (x9 + 1) ∧ zBg d 162 36 [zR 55, zI x1, zI x2, zI x3, zI x4, zI x5, zI (zior x6 (zishl 1 (ziand (zishr x5 (6 - (2 * x9))) 3))), zI x7, zI 0, zI (x9 + 1), none] [] M Q)) ∧
          (¬ (ziand (zishr x6 (ziand (zishr x5 (6 - (2 * x9))) 3)) 1 : Int) ≠ 0 →
            ((x9 : Int) ≥ x2 →
              zR32 (x9 + 1) ∧ zBg d 162 36 [zR 55, zI x1, zI x2, zI x3, zI x4, zI x5, zI (zior x6 0), zI x7, zI 1, zI (x9 + 1), none] [] M Q) ∧
            (¬ (x9 : Int) ≥ x2 →
              zR32 (x9 + 1) ∧ zBg d 162 36 [zR 55, zI x1, zI x2, zI x3, zI x4, zI x5, zI (zior x6 (zishl 1 (ziand (zishr x5 (6 - (2 * x9))) 3))), zI x7, zI 1, zI (x9 + 1), none] [] M Q))))))) : zBg d 162 36 [zR 55, zI x1, zI x2, zI x3, zI x4, zI x5, zI x6, zI x7, zI x8, zI x9, none] [] M Q :=
  zvc_ok (I := zm162) (cuts := [(16, [true, true, true, true, true, true, false, false, false, false, false]), (36, [true, true, true, true, true, true, true, true, true, true, false]), (126, [true, true, true, true, true, true, false, true, true, true, false]), (229, [true, false, false, false, true, true, false, false, false, false, false])]) (n := 151) rfl h
set_option maxRecDepth 20000 in
theorem zv162_126 {d : Nat} {M : zMem} {Q : Option zV → zMem → Prop} (x1 : Int) (x2 : Int) (x3 : Int) (x4 : Int) (x5 : Int) (x7 : Int) (x8 : Int) (x9 : Int) (h :
  ((x9 : Int) ≥ (M 55 12) →
    ((x8 : Int) = 0 →
      ((x8 : Int) = 0 →
        zR32 (x5 + 1) ∧ zBg d 162 16 [zR 55, zI x1, zI x2, zI x3, zI x4, zI (x5 + 1), none, none, none, none, none] [] M Q) ∧
      (¬ (x8 : Int) = 0 →
        ((x7 : Int) ≥ x3 →
          zR32 (x5 + 1) ∧ zBg d 162 16 [zR 55, zI x1, zI x2, zI x3, zI x4, zI (x5 + 1), none, none, none, none, none] [] M Q) ∧
        (¬ (x7 : Int) ≥ x3 →
          zR32 (x5 + 1) ∧ zBg d 162 16 [zR 55, zI x1, zI x2, zI x7, zI x4, zI (x5 + 1), none, none, none, none, none] [] M Q))) ∧
    (¬ (x8 : Int) = 0 →
      ((x7 : Int) ≥ x3 →
        ((x8 : Int) = 0 →
          zR32 (x5 + 1) ∧ zBg d 162 16 [zR 55, zI x1, zI x2, zI x3, zI x4, zI (x5 + 1), none, none, none, none, none] [] M Q) ∧
        (¬ (x8 : Int) = 0 →
          ((x7 : Int) ≥ x3 →
            zR32 (x5 + 1) ∧ zBg d 162 16 [zR 55, zI x1, zI x2, zI x3, zI x4, zI (x5 + 1), none, none, none, none, none] [] M Q) ∧
          (¬ (x7 : Int) ≥ x3 →
            zR32 (x5 + 1) ∧ zBg d 162 16 [zR 55, zI x1, zI x2, zI x7, zI x4, zI (x5 + 1), none, none, none, none, none] [] M Q))) ∧
      (¬ (x7 : Int) ≥ x3 →
        ((x8 : Int) = 0 →
          zR32 (x5 + 1) ∧ zBg d 162 16 [zR 55, zI x1, zI x2, zI x3, zI x5, zI (x5 + 1), none, none, none, none, none] [] M Q) ∧
        (¬ (x8 : Int) = 0 →
          ((x7 : Int) ≥ x3 →
            zR32 (x5 + 1) ∧ zBg d 162 16 [zR 55, zI x1, zI x2, zI x3, zI x5, zI (x5 + 1), none, none, none, none, none] [] M Q) ∧
          (¬ (x7 : Int) ≥ x3 →
            zR32 (x5 + 1) ∧ zBg d 162 16 [zR 55, zI x1, zI x2, zI x7, zI x5, zI (x5 + 1), none, none, none, none, none] [] M Q))))) ∧
  (¬ (x9 : Int) ≥ (M 55 12) →
    ((x8 : Int) = 0 →
      ((x8 : Int) = 0 →
        ((x8 : Int) = 0 →
          zR32 (x5 + 1) ∧ zBg d 162 16 [zR 55, zI x1, zI x2, zI x3, zI x4, zI (x5 + 1), none, none, none, none, none] [] M Q) ∧
        (¬ (x8 : Int) = 0 →
          ((x7 : Int) ≥ x3 →
            zR32 (x5 + 1) ∧ zBg d 162 16 [zR 55, zI x1, zI x2, zI x3, zI x4, zI (x5 + 1), none, none, none, none, none] [] M Q) ∧
          (¬ (x7 : Int) ≥ x3 →
            zR32 (x5 + 1) ∧ zBg d 162 16 [zR 55, zI x1, zI x2, zI x7, zI x4, zI (x5 + 1), none, none, none, none, none] [] M Q))) ∧
      (¬ (x8 : Int) = 0 →
        ((x7 : Int) ≥ x3 →
          ((x8 : Int) = 0 →
            zR32 (x5 + 1) ∧ zBg d 162 16 [zR 55, zI x1, zI x2, zI x3, zI x4, zI (x5 + 1), none, none, none, none, none] [] M Q) ∧
          (¬ (x8 : Int) = 0 →
            ((x7 : Int) ≥ x3 →
              zR32 (x5 + 1) ∧ zBg d 162 16 [zR 55, zI x1, zI x2, zI x3, zI x4, zI (x5 + 1), none, none, none, none, none] [] M Q) ∧
            (¬ (x7 : Int) ≥ x3 →
              zR32 (x5 + 1) ∧ zBg d 162 16 [zR 55, zI x1, zI x2, zI x7, zI x4, zI (x5 + 1), none, none, none, none, none] [] M Q))) ∧
        (¬ (x7 : Int) ≥ x3 →
          ((x8 : Int) = 0 →
            zR32 (x5 + 1) ∧ zBg d 162 16 [zR 55, zI x1, zI x2, zI x3, zI x5, zI (x5 + 1), none, none, none, none, none] [] M Q) ∧
          (¬ (x8 : Int) = 0 →
            ((x7 : Int) ≥ x3 →
              zR32 (x5 + 1) ∧ zBg d 162 16 [zR 55, zI x1, zI x2, zI x3, zI x5, zI (x5 + 1), none, none, none, none, none] [] M Q) ∧
            (¬ (x7 : Int) ≥ x3 →
              zR32 (x5 + 1) ∧ zBg d 162 16 [zR 55, zI x1, zI x2, zI x7, zI x5, zI (x5 + 1), none, none, none, none, none] [] M Q))))) ∧
    (¬ (x8 : Int) = 0 →
      zR32 (4 * x1) ∧ zR32 (6 * x9) ∧ zR32 ((6 * x9) + x1) ∧ (0 : Int) ≤ ((6 * x9) + x1) ∧ ((6 * x9) + x1 : Int) < 48 ∧ zR32 (2 * (M 65 (((6 * x9) + x1).toNat))) ∧ zR32 (6 - (2 * (M 65 (((6 * x9) + x1).toNat)))) ∧ zR32 ((4 * x1) + (ziand (zishr x5 (6 - (2 * (M 65 (((6 * x9) + x1).toNat))))) 3)) ∧ (0 : Int) ≤ ((4 * x1) + (ziand (zishr x5 (6 - (2 * (M 65 (((6 * x9) + x1).toNat))))) 3)) ∧ ((4 * x1) + (ziand (zishr x5 (6 - (2 * (M 65 (((6 * x9) + x1).toNat))))) 3) : Int) < 24 ∧ zR32 (x7 + (M 63 (((4 * x1) + (ziand (zishr x5 (6 - (2 * (M 65 (((6 * x9) + x1).toNat))))) 3)).toNat))) ∧ zR32 (x9 + 1) ∧ zBg d 162 126 [zR 55, zI x1, zI x2, zI x3, zI x4, zI x5, none, zI (x7 + (M 63 (((4 * x1) + (ziand (zishr x5 (6 - (2 * (M 65 (((6 * x9) + x1).toNat))))) 3)).toNat))), zI x8, zI (x9 + 1), none] [] M Q))) : zBg d 162 126 [zR 55, zI x1, zI x2, zI x3, zI x4, zI x5, none, zI x7, zI x8, zI x9, none] [] M Q :=
  zvc_ok (I := zm162) (cuts := [(16, [true, true, true, true, true, true, false, false, false, false, false]), (36, [true, true, true, true, true, true, true, true, true, true, false]), (126, [true, true, true, true, true, true, false, true, true, true, false]), (229, [true, false, false, false, true, true, false, false, false, false, false])]) (n := 151) rfl h
theorem zk162 {d : Nat} {M : zMem} {Q : Option zV → zMem → Prop} {x1 : Int} (h : zBg d 162 0 [zR 55, zI x1, none, none, none, none, none, none, none, none, none] [] M Q) : zCt d 162 [.inr (.inr 55), .inl x1] M Q := zCt_of (I := zm162) rfl rfl h
/-! CommaCopiesModel.put(II)I , as 163 -/
set_option maxRecDepth 20000 in
theorem zv163_0 {d : Nat} {M : zMem} {Q : Option zV → zMem → Prop} (x1 : Int) (x2 : Int) (h :
  ∃ Q1, zCi d 116 [.inr (.inr 55), .inl x1, .inl x2] M Q1 ∧ ∀ v1 M1, Q1 v1 M1 →
  ((v1 : Int) ≠ 0 →
    ∃ Q2, zCv d 162 [.inr (.inr 55), .inl x1] M1 Q2 ∧ ∀ M2, Q2 M2 →
    (0 : Int) ≤ x2 ∧ (x2 : Int) < 4 ∧ Q (zI (M2 73 x2.toNat)) M2) ∧
  (¬ (v1 : Int) ≠ 0 →
    Q (zI (-1)) M1)) : zBg (d + 1) 163 0 [zR 55, zI x1, zI x2] [] M Q :=
  zvc_ok (I := zm163) (cuts := []) (n := 20) rfl h
theorem zk163 {d : Nat} {M : zMem} {Q : Option zV → zMem → Prop} {x1 : Int} {x2 : Int} (h : zBg d 163 0 [zR 55, zI x1, zI x2] [] M Q) : zCt d 163 [.inr (.inr 55), .inl x1, .inl x2] M Q := zCt_of (I := zm163) rfl rfl h
/-! CommaCopiesModel.putAll()I , as 164 -/
set_option maxRecDepth 20000 in
theorem zv164_0 {d : Nat} {M : zMem} {Q : Option zV → zMem → Prop} (h :
  ((M 55 2 : Int) ≠ 0 →
    zBg d 164 12 [zR 55, zI 0, none] [] M Q) ∧
  (¬ (M 55 2 : Int) ≠ 0 →
    Q (zI (-2)) M)) : zBg d 164 0 [zR 55, none, none] [] M Q :=
  zvc_ok (I := zm164) (cuts := [(12, [true, true, false]), (27, [true, true, true]), (78, [true, true, true])]) (n := 66) rfl h
set_option maxRecDepth 20000 in
theorem zv164_12 {d : Nat} {M : zMem} {Q : Option zV → zMem → Prop} (x1 : Int) (h :
  ((x1 : Int) ≥ (M 55 4) →
    zBg (d + 1) 164 78 [zR 55, zI 0, zI 0] [] M Q) ∧
  (¬ (x1 : Int) ≥ (M 55 4) →
    ∃ Q1, zCv d 162 [.inr (.inr 55), .inl x1] M Q1 ∧ ∀ M1, Q1 M1 →
    zBg (d + 1) 164 27 [zR 55, zI x1, zI 0] [] M1 Q)) : zBg (d + 1) 164 12 [zR 55, zI x1, none] [] M Q :=
  zvc_ok (I := zm164) (cuts := [(12, [true, true, false]), (27, [true, true, true]), (78, [true, true, true])]) (n := 66) rfl h
set_option maxRecDepth 20000 in
theorem zv164_78 {d : Nat} {M : zMem} {Q : Option zV → zMem → Prop} (x1 : Int) (x2 : Int) (h :
  ((x2 : Int) ≥ (M 55 12) →
    Q (zI x1) M) ∧
  (¬ (x2 : Int) ≥ (M 55 12) →
    ∃ Q1, zCi d 126 [.inr (.inr 55), .inl x2] M Q1 ∧ ∀ v1 M1, Q1 v1 M1 →
    zR32 (x1 + v1) ∧ zR32 (x2 + 1) ∧ zBg (d + 1) 164 78 [zR 55, zI (x1 + v1), zI (x2 + 1)] [] M1 Q)) : zBg (d + 1) 164 78 [zR 55, zI x1, zI x2] [] M Q :=
  zvc_ok (I := zm164) (cuts := [(12, [true, true, false]), (27, [true, true, true]), (78, [true, true, true])]) (n := 66) rfl h
set_option maxRecDepth 20000 in
theorem zv164_27 {d : Nat} {M : zMem} {Q : Option zV → zMem → Prop} (x1 : Int) (x2 : Int) (h :
  ((x2 : Int) ≥ (M 55 12) →
    zR32 (x1 + 1) ∧ zBg d 164 12 [zR 55, zI (x1 + 1), none] [] M Q) ∧
  (¬ (x2 : Int) ≥ (M 55 12) →
    zR32 (6 * x2) ∧ zR32 ((6 * x2) + x1) ∧ zR32 (6 * x2) ∧ zR32 ((6 * x2) + x1) ∧ (0 : Int) ≤ ((6 * x2) + x1) ∧ ((6 * x2) + x1 : Int) < 48 ∧ (0 : Int) ≤ (M 65 (((6 * x2) + x1).toNat)) ∧ (M 65 (((6 * x2) + x1).toNat) : Int) < 4 ∧ (0 : Int) ≤ ((6 * x2) + x1) ∧ ((6 * x2) + x1 : Int) < 48 ∧ zR32 (x2 + 1) ∧ zBg d 164 27 [zR 55, zI x1, zI (x2 + 1)] [] (zup M 65 (((6 * x2) + x1).toNat) (M 73 ((M 65 (((6 * x2) + x1).toNat)).toNat))) Q)) : zBg d 164 27 [zR 55, zI x1, zI x2] [] M Q :=
  zvc_ok (I := zm164) (cuts := [(12, [true, true, false]), (27, [true, true, true]), (78, [true, true, true])]) (n := 66) rfl h
theorem zk164 {d : Nat} {M : zMem} {Q : Option zV → zMem → Prop} (h : zBg d 164 0 [zR 55, none, none] [] M Q) : zCt d 164 [.inr (.inr 55)] M Q := zCt_of (I := zm164) rfl rfl h
/-! CommaCopiesModel.hidden(II)I , as 165 -/
set_option maxRecDepth 20000 in
theorem zv165_0 {d : Nat} {M : zMem} {Q : Option zV → zMem → Prop} (x1 : Int) (x2 : Int) (h :
  ∃ Q1, zCi d 139 [.inr (.inr 55), .inl x1] M Q1 ∧ ∀ v1 M1, Q1 v1 M1 →
  ((v1 : Int) = 0 →
    Q (zI (-1)) M1) ∧
  (¬ (v1 : Int) = 0 →
    zR32 ((M1 55 4) - 1) ∧ ∃ Q2, zCi d 110 [.inr (.inl x2), .inr (.inl (-1)), .inr (.inl ((M1 55 4) - 1))] M1 Q2 ∧ ∀ v2 M2, Q2 v2 M2 →
    ((v2 : Int) ≠ 0 →
      ∃ Q3, zCv d 137 [.inr (.inr 55)] M2 Q3 ∧ ∀ M3, Q3 M3 →
      zBg (d + 1) 165 38 [zR 55, zI x1, zI x2, zI 100, zI 1, none, none, none] [] M3 Q) ∧
    (¬ (v2 : Int) ≠ 0 →
      Q (zI (-1)) M2))) : zBg (d + 1) 165 0 [zR 55, zI x1, zI x2, none, none, none, none, none] [] M Q :=
  zvc_ok (I := zm165) (cuts := [(38, [true, true, true, true, true, false, false, false]), (71, [true, true, true, true, false, true, true, false]), (138, [true, true, true, true, false, true, true, false])]) (n := 115) rfl h
set_option maxRecDepth 20000 in
theorem zv165_38 {d : Nat} {M : zMem} {Q : Option zV → zMem → Prop} (x1 : Int) (x2 : Int) (x3 : Int) (x4 : Int) (h :
  ((x4 : Int) = 0 →
    ((x2 : Int) ≥ 0 →
      (0 : Int) ≤ x2 ∧ (x2 : Int) < 6 ∧ Q (zI (M 74 x2.toNat)) M) ∧
    (¬ (x2 : Int) ≥ 0 →
      Q (zI x3) M)) ∧
  (¬ (x4 : Int) = 0 →
    ∃ Q1, zCi d 131 [.inr (.inr 55), .inl x1, .inr (.inr 70), .inl 0, .inl (M 55 15)] M Q1 ∧ ∀ v1 M1, Q1 v1 M1 →
    ((v1 : Int) = 0 →
      zBg (d + 1) 165 71 [zR 55, zI x1, zI x2, zI x3, none, zI 100, zI 0, none] [] M1 Q) ∧
    (¬ (v1 : Int) = 0 →
      zBg (d + 1) 165 71 [zR 55, zI x1, zI x2, zI x3, none, zI 0, zI 0, none] [] M1 Q))) : zBg (d + 1) 165 38 [zR 55, zI x1, zI x2, zI x3, zI x4, none, none, none] [] M Q :=
  zvc_ok (I := zm165) (cuts := [(38, [true, true, true, true, true, false, false, false]), (71, [true, true, true, true, false, true, true, false]), (138, [true, true, true, true, false, true, true, false])]) (n := 115) rfl h
set_option maxRecDepth 20000 in
theorem zv165_71 {d : Nat} {M : zMem} {Q : Option zV → zMem → Prop} (x1 : Int) (x2 : Int) (x3 : Int) (x5 : Int) (x6 : Int) (h :
  ((x6 : Int) ≥ (M 55 12) →
    zBg (d + 1) 165 138 [zR 55, zI x1, zI x2, zI x3, none, zI x5, zI 0, none] [] M Q) ∧
  (¬ (x6 : Int) ≥ (M 55 12) →
    ((x5 : Int) ≥ 100 →
      zBg (d + 1) 165 138 [zR 55, zI x1, zI x2, zI x3, none, zI x5, zI 0, none] [] M Q) ∧
    (¬ (x5 : Int) ≥ 100 →
      ((ziand (zishr x1 x6) 1 : Int) ≠ 1 →
        ((0 : Int) ≤ x5 →
          zR32 (x6 + 1) ∧ zBg (d + 1) 165 71 [zR 55, zI x1, zI x2, zI x3, none, zI x5, zI (x6 + 1), none] [] M Q) ∧
        (¬ (0 : Int) ≤ x5 →
          zR32 (x6 + 1) ∧ zBg (d + 1) 165 71 [zR 55, zI x1, zI x2, zI x3, none, zI 0, zI (x6 + 1), none] [] M Q)) ∧
      (¬ (ziand (zishr x1 x6) 1 : Int) ≠ 1 →
        ∃ Q1, zCi d 156 [.inr (.inr 55), .inl x6, .inr (.inr 70)] M Q1 ∧ ∀ v1 M1, Q1 v1 M1 →
        ((v1 : Int) ≤ x5 →
          zR32 (x6 + 1) ∧ zBg (d + 1) 165 71 [zR 55, zI x1, zI x2, zI x3, none, zI x5, zI (x6 + 1), none] [] M1 Q) ∧
        (¬ (v1 : Int) ≤ x5 →
          zR32 (x6 + 1) ∧ zBg (d + 1) 165 71 [zR 55, zI x1, zI x2, zI x3, none, zI v1, zI (x6 + 1), none] [] M1 Q))))) : zBg (d + 1) 165 71 [zR 55, zI x1, zI x2, zI x3, none, zI x5, zI x6, none] [] M Q :=
  zvc_ok (I := zm165) (cuts := [(38, [true, true, true, true, true, false, false, false]), (71, [true, true, true, true, false, true, true, false]), (138, [true, true, true, true, false, true, true, false])]) (n := 115) rfl h
set_option maxRecDepth 20000 in
theorem zv165_138 {d : Nat} {M : zMem} {Q : Option zV → zMem → Prop} (x1 : Int) (x2 : Int) (x3 : Int) (x5 : Int) (x6 : Int) (h :
  ((x6 : Int) ≥ (M 55 4) →
    ((x5 : Int) ≥ x3 →
      ∃ Q1, zCi d 136 [.inr (.inr 55), .inl 1] M Q1 ∧ ∀ v1 M1, Q1 v1 M1 →
      zBg (d + 1) 165 38 [zR 55, zI x1, zI x2, zI x3, zI v1, none, none, none] [] M1 Q) ∧
    (¬ (x5 : Int) ≥ x3 →
      ∃ Q2, zCi d 136 [.inr (.inr 55), .inl 1] M Q2 ∧ ∀ v2 M2, Q2 v2 M2 →
      zBg (d + 1) 165 38 [zR 55, zI x1, zI x2, zI x5, zI v2, none, none, none] [] M2 Q)) ∧
  (¬ (x6 : Int) ≥ (M 55 4) →
    ((x5 : Int) ≥ x3 →
      ((x5 : Int) ≥ x3 →
        ∃ Q3, zCi d 136 [.inr (.inr 55), .inl 1] M Q3 ∧ ∀ v3 M3, Q3 v3 M3 →
        zBg (d + 1) 165 38 [zR 55, zI x1, zI x2, zI x3, zI v3, none, none, none] [] M3 Q) ∧
      (¬ (x5 : Int) ≥ x3 →
        ∃ Q4, zCi d 136 [.inr (.inr 55), .inl 1] M Q4 ∧ ∀ v4 M4, Q4 v4 M4 →
        zBg (d + 1) 165 38 [zR 55, zI x1, zI x2, zI x5, zI v4, none, none, none] [] M4 Q)) ∧
    (¬ (x5 : Int) ≥ x3 →
      (0 : Int) ≤ x6 ∧ (x6 : Int) < 6 ∧ (0 : Int) ≤ x6 ∧ (x6 : Int) < 6 ∧ zR32 (x6 + 1) ∧ zBg (d + 1) 165 138 [zR 55, zI x1, zI x2, zI x3, none, zI x5, zI (x6 + 1), none] [] (zup M 74 x6.toNat (M 70 x6.toNat)) Q))) : zBg (d + 1) 165 138 [zR 55, zI x1, zI x2, zI x3, none, zI x5, zI x6, none] [] M Q :=
  zvc_ok (I := zm165) (cuts := [(38, [true, true, true, true, true, false, false, false]), (71, [true, true, true, true, false, true, true, false]), (138, [true, true, true, true, false, true, true, false])]) (n := 115) rfl h
theorem zk165 {d : Nat} {M : zMem} {Q : Option zV → zMem → Prop} {x1 : Int} {x2 : Int} (h : zBg d 165 0 [zR 55, zI x1, zI x2, none, none, none, none, none] [] M Q) : zCt d 165 [.inr (.inr 55), .inl x1, .inl x2] M Q := zCt_of (I := zm165) rfl rfl h
/-! CommaCopiesModel.keep()I , as 166 -/
set_option maxRecDepth 20000 in
theorem zv166_0 {d : Nat} {M : zMem} {Q : Option zV → zMem → Prop} (h :
  ((M 55 2 : Int) ≠ 0 →
    ((M 55 17 : Int) ≠ 6 →
      zBg d 166 24 [zR 55, zI 0] [] M Q) ∧
    (¬ (M 55 17 : Int) ≠ 6 →
      Q (zI (-3)) M)) ∧
  (¬ (M 55 2 : Int) ≠ 0 →
    Q (zI (-2)) M)) : zBg d 166 0 [zR 55, none] [] M Q :=
  zvc_ok (I := zm166) (cuts := [(24, [true, true])]) (n := 69) rfl h
set_option maxRecDepth 20000 in
theorem zv166_24 {d : Nat} {M : zMem} {Q : Option zV → zMem → Prop} (x1 : Int) (h :
  ((x1 : Int) ≥ 6 →
    zR32 (8 * (M 55 17)) ∧ zR32 ((8 * (M 55 17)) + 6) ∧ (0 : Int) ≤ ((8 * (M 55 17)) + 6) ∧ ((8 * (M 55 17)) + 6 : Int) < 48 ∧ zR32 (8 * (M 55 17)) ∧ zR32 ((8 * (M 55 17)) + 7) ∧ (0 : Int) ≤ ((8 * (M 55 17)) + 7) ∧ ((8 * (M 55 17)) + 7 : Int) < 48 ∧ zR32 ((M 55 17) + 1) ∧ zR32 (((M 55 17) + 1) - 1) ∧ Q (zI (((M 55 17) + 1) - 1)) (zup (zup (zup M 67 (((8 * (M 55 17)) + 6).toNat) (M 55 14)) 67 (((8 * (M 55 17)) + 7).toNat) (M 55 15)) 55 17 ((M 55 17) + 1))) ∧
  (¬ (x1 : Int) ≥ 6 →
    zR32 (8 * (M 55 17)) ∧ zR32 ((8 * (M 55 17)) + x1) ∧ (0 : Int) ≤ x1 ∧ (x1 : Int) < 6 ∧ (0 : Int) ≤ ((8 * (M 55 17)) + x1) ∧ ((8 * (M 55 17)) + x1 : Int) < 48 ∧ zR32 (x1 + 1) ∧ zBg d 166 24 [zR 55, zI (x1 + 1)] [] (zup M 67 (((8 * (M 55 17)) + x1).toNat) (M 66 x1.toNat)) Q)) : zBg d 166 24 [zR 55, zI x1] [] M Q :=
  zvc_ok (I := zm166) (cuts := [(24, [true, true])]) (n := 69) rfl h
theorem zk166 {d : Nat} {M : zMem} {Q : Option zV → zMem → Prop} (h : zBg d 166 0 [zR 55, none] [] M Q) : zCt d 166 [.inr (.inr 55)] M Q := zCt_of (I := zm166) rfl rfl h
/-! CommaCopiesModel.past(II)I , as 167 -/
set_option maxRecDepth 20000 in
theorem zv167_0 {d : Nat} {M : zMem} {Q : Option zV → zMem → Prop} (x1 : Int) (x2 : Int) (h :
  ∃ Q1, zCi d 121 [.inr (.inr 55), .inl x1] M Q1 ∧ ∀ v1 M1, Q1 v1 M1 →
  ((v1 : Int) = 0 →
    Q (zI (-1)) M1) ∧
  (¬ (v1 : Int) = 0 →
    ∃ Q2, zCi d 110 [.inr (.inl x2), .inr (.inl 0), .inr (.inl 1)] M1 Q2 ∧ ∀ v2 M2, Q2 v2 M2 →
    ((v2 : Int) ≠ 0 →
      zBg (d + 1) 167 25 [zR 55, zI x1, zI x2, zI 0, zI 0, none] [] M2 Q) ∧
    (¬ (v2 : Int) ≠ 0 →
      Q (zI (-1)) M2))) : zBg (d + 1) 167 0 [zR 55, zI x1, zI x2, none, none, none] [] M Q :=
  zvc_ok (I := zm167) (cuts := [(25, [true, true, true, true, true, false])]) (n := 65) rfl h
set_option maxRecDepth 20000 in
theorem zv167_25 {d : Nat} {M : zMem} {Q : Option zV → zMem → Prop} (x1 : Int) (x2 : Int) (x3 : Int) (x4 : Int) (h :
  ((x4 : Int) ≥ (M 55 17) →
    Q (zI x3) M) ∧
  (¬ (x4 : Int) ≥ (M 55 17) →
    zR32 (8 * x4) ∧ zR32 (8 * x4) ∧ zR32 ((8 * x4) + 6) ∧ (0 : Int) ≤ ((8 * x4) + 6) ∧ ((8 * x4) + 6 : Int) < 48 ∧ zR32 (8 * x4) ∧ zR32 ((8 * x4) + 7) ∧ (0 : Int) ≤ ((8 * x4) + 7) ∧ ((8 * x4) + 7 : Int) < 48 ∧ ∃ Q1, zCi d 133 [.inr (.inr 55), .inr (.inr 67), .inl (8 * x4), .inl (M 67 (((8 * x4) + 6).toNat)), .inl (M 67 (((8 * x4) + 7).toNat))] M Q1 ∧ ∀ v1 M1, Q1 v1 M1 →
    zR32 (8 * x2) ∧ zR32 (x1 + (8 * x2)) ∧ zR32 (x3 + (ziand (zishr v1 (x1 + (8 * x2))) 1)) ∧ zR32 (x4 + 1) ∧ zBg (d + 1) 167 25 [zR 55, zI x1, zI x2, zI (x3 + (ziand (zishr v1 (x1 + (8 * x2))) 1)), zI (x4 + 1), none] [] M1 Q)) : zBg (d + 1) 167 25 [zR 55, zI x1, zI x2, zI x3, zI x4, none] [] M Q :=
  zvc_ok (I := zm167) (cuts := [(25, [true, true, true, true, true, false])]) (n := 65) rfl h
theorem zk167 {d : Nat} {M : zMem} {Q : Option zV → zMem → Prop} {x1 : Int} {x2 : Int} (h : zBg d 167 0 [zR 55, zI x1, zI x2, none, none, none] [] M Q) : zCt d 167 [.inr (.inr 55), .inl x1, .inl x2] M Q := zCt_of (I := zm167) rfl rfl h
/-! CommaCopiesModel.saves([I[II)I , as 168 -/
set_option maxRecDepth 20000 in
theorem zv168_0 {d : Nat} {M : zMem} {Q : Option zV → zMem → Prop} (a0 : Nat) (a1 : Nat) (x2 : Int) (h :
  zBg d 168 2 [zR a0, zR a1, zI x2, zI 0] [] M Q) : zBg d 168 0 [zR a0, zR a1, zI x2, none] [] M Q :=
  zvc_ok (I := zm168) (cuts := [(2, [true, true, true, true])]) (n := 26) rfl h
set_option maxRecDepth 20000 in
theorem zv168_2 {d : Nat} {M : zMem} {Q : Option zV → zMem → Prop} (a0 : Nat) (a1 : Nat) (x2 : Int) (x3 : Int) (h :
  zln a0 fun n0 => ((x3 : Int) ≥ n0 →
    zln a0 fun n1 => zR32 (x2 + n1) ∧ Q (zI (x2 + n1)) M) ∧
  (¬ (x3 : Int) ≥ n0 →
    zR32 (x2 + x3) ∧ zar a0 0 fun n => (0 : Int) ≤ x3 ∧ (x3 : Int) < n ∧ zar a1 0 fun n => (0 : Int) ≤ (x2 + x3) ∧ (x2 + x3 : Int) < n ∧ zR32 (x3 + 1) ∧ zBg d 168 2 [zR a0, zR a1, zI x2, zI (x3 + 1)] [] (zup M a1 ((x2 + x3).toNat) (M a0 x3.toNat)) Q)) : zBg d 168 2 [zR a0, zR a1, zI x2, zI x3] [] M Q :=
  zvc_ok (I := zm168) (cuts := [(2, [true, true, true, true])]) (n := 26) rfl h
theorem zk168 {d : Nat} {M : zMem} {Q : Option zV → zMem → Prop} {a0 : Nat} {a1 : Nat} {x2 : Int} (h : zBg d 168 0 [zR a0, zR a1, zI x2, none] [] M Q) : zCt d 168 [.inr (.inr a0), .inr (.inr a1), .inl x2] M Q := zCt_of (I := zm168) rfl rfl h
/-! CommaCopiesModel.gives([II[I)I , as 169 -/
set_option maxRecDepth 20000 in
theorem zv169_0 {d : Nat} {M : zMem} {Q : Option zV → zMem → Prop} (a0 : Nat) (x1 : Int) (a2 : Nat) (h :
  zBg d 169 2 [zR a0, zI x1, zR a2, zI 0] [] M Q) : zBg d 169 0 [zR a0, zI x1, zR a2, none] [] M Q :=
  zvc_ok (I := zm169) (cuts := [(2, [true, true, true, true])]) (n := 26) rfl h
set_option maxRecDepth 20000 in
theorem zv169_2 {d : Nat} {M : zMem} {Q : Option zV → zMem → Prop} (a0 : Nat) (x1 : Int) (a2 : Nat) (x3 : Int) (h :
  zln a2 fun n0 => ((x3 : Int) ≥ n0 →
    zln a2 fun n1 => zR32 (x1 + n1) ∧ Q (zI (x1 + n1)) M) ∧
  (¬ (x3 : Int) ≥ n0 →
    zR32 (x1 + x3) ∧ zar a0 0 fun n => (0 : Int) ≤ (x1 + x3) ∧ (x1 + x3 : Int) < n ∧ zar a2 0 fun n => (0 : Int) ≤ x3 ∧ (x3 : Int) < n ∧ zR32 (x3 + 1) ∧ zBg d 169 2 [zR a0, zI x1, zR a2, zI (x3 + 1)] [] (zup M a2 x3.toNat (M a0 ((x1 + x3).toNat))) Q)) : zBg d 169 2 [zR a0, zI x1, zR a2, zI x3] [] M Q :=
  zvc_ok (I := zm169) (cuts := [(2, [true, true, true, true])]) (n := 26) rfl h
theorem zk169 {d : Nat} {M : zMem} {Q : Option zV → zMem → Prop} {a0 : Nat} {x1 : Int} {a2 : Nat} (h : zBg d 169 0 [zR a0, zI x1, zR a2, none] [] M Q) : zCt d 169 [.inr (.inr a0), .inl x1, .inr (.inr a2)] M Q := zCt_of (I := zm169) rfl rfl h
/-! CommaCopiesModel.image()I , as 170 -/
set_option maxRecDepth 20000 in
theorem zv170_0 {d : Nat} {M : zMem} {Q : Option zV → zMem → Prop} (h :
  ∃ Q1, zCi d 168 [.inr (.inr 57), .inr (.inr 75), .inl 0] M Q1 ∧ ∀ v1 M1, Q1 v1 M1 →
  ∃ Q2, zCi d 168 [.inr (.inr 58), .inr (.inr 75), .inl v1] M1 Q2 ∧ ∀ v2 M2, Q2 v2 M2 →
  ∃ Q3, zCi d 168 [.inr (.inr 59), .inr (.inr 75), .inl v2] M2 Q3 ∧ ∀ v3 M3, Q3 v3 M3 →
  ∃ Q4, zCi d 168 [.inr (.inr 60), .inr (.inr 75), .inl v3] M3 Q4 ∧ ∀ v4 M4, Q4 v4 M4 →
  ∃ Q5, zCi d 168 [.inr (.inr 61), .inr (.inr 75), .inl v4] M4 Q5 ∧ ∀ v5 M5, Q5 v5 M5 →
  ∃ Q6, zCi d 168 [.inr (.inr 62), .inr (.inr 75), .inl v5] M5 Q6 ∧ ∀ v6 M6, Q6 v6 M6 →
  ∃ Q7, zCi d 168 [.inr (.inr 63), .inr (.inr 75), .inl v6] M6 Q7 ∧ ∀ v7 M7, Q7 v7 M7 →
  ∃ Q8, zCi d 168 [.inr (.inr 64), .inr (.inr 75), .inl v7] M7 Q8 ∧ ∀ v8 M8, Q8 v8 M8 →
  ∃ Q9, zCi d 168 [.inr (.inr 65), .inr (.inr 75), .inl v8] M8 Q9 ∧ ∀ v9 M9, Q9 v9 M9 →
  ∃ Q10, zCi d 168 [.inr (.inr 66), .inr (.inr 75), .inl v9] M9 Q10 ∧ ∀ v10 M10, Q10 v10 M10 →
  ∃ Q11, zCi d 168 [.inr (.inr 67), .inr (.inr 75), .inl v10] M10 Q11 ∧ ∀ v11 M11, Q11 v11 M11 →
  (0 : Int) ≤ v11 ∧ (v11 : Int) < 480 ∧ zR32 (v11 + 1) ∧ (0 : Int) ≤ (v11 + 1) ∧ (v11 + 1 : Int) < 480 ∧ zR32 (v11 + 2) ∧ (0 : Int) ≤ (v11 + 2) ∧ (v11 + 2 : Int) < 480 ∧ zR32 (v11 + 3) ∧ (0 : Int) ≤ (v11 + 3) ∧ (v11 + 3 : Int) < 480 ∧ zR32 (v11 + 4) ∧ (0 : Int) ≤ (v11 + 4) ∧ (v11 + 4 : Int) < 480 ∧ zR32 (v11 + 5) ∧ (0 : Int) ≤ (v11 + 5) ∧ (v11 + 5 : Int) < 480 ∧ ((1 : Int) = 0 ∨ (1 : Int) = 1) ∧ Q (zI 1) (zup (zup (zup (zup (zup (zup (zup M11 75 v11.toNat (M11 55 2)) 75 ((v11 + 1).toNat) (M11 55 4)) 75 ((v11 + 2).toNat) (M11 55 12)) 75 ((v11 + 3).toNat) (M11 55 14)) 75 ((v11 + 4).toNat) (M11 55 15)) 75 ((v11 + 5).toNat) (M11 55 17)) 55 31 1)) : zBg (d + 1) 170 0 [zR 55, none] [] M Q :=
  zvc_ok (I := zm170) (cuts := []) (n := 133) rfl h
theorem zk170 {d : Nat} {M : zMem} {Q : Option zV → zMem → Prop} (h : zBg d 170 0 [zR 55, none] [] M Q) : zCt d 170 [.inr (.inr 55)] M Q := zCt_of (I := zm170) rfl rfl h
/-! CommaCopiesModel.restore()I , as 171 -/
set_option maxRecDepth 20000 in
theorem zv171_0 {d : Nat} {M : zMem} {Q : Option zV → zMem → Prop} (h :
  ((M 55 31 : Int) ≠ 0 →
    ∃ Q1, zCi d 169 [.inr (.inr 75), .inl 0, .inr (.inr 57)] M Q1 ∧ ∀ v1 M1, Q1 v1 M1 →
    ∃ Q2, zCi d 169 [.inr (.inr 75), .inl v1, .inr (.inr 58)] M1 Q2 ∧ ∀ v2 M2, Q2 v2 M2 →
    ∃ Q3, zCi d 169 [.inr (.inr 75), .inl v2, .inr (.inr 59)] M2 Q3 ∧ ∀ v3 M3, Q3 v3 M3 →
    ∃ Q4, zCi d 169 [.inr (.inr 75), .inl v3, .inr (.inr 60)] M3 Q4 ∧ ∀ v4 M4, Q4 v4 M4 →
    ∃ Q5, zCi d 169 [.inr (.inr 75), .inl v4, .inr (.inr 61)] M4 Q5 ∧ ∀ v5 M5, Q5 v5 M5 →
    ∃ Q6, zCi d 169 [.inr (.inr 75), .inl v5, .inr (.inr 62)] M5 Q6 ∧ ∀ v6 M6, Q6 v6 M6 →
    ∃ Q7, zCi d 169 [.inr (.inr 75), .inl v6, .inr (.inr 63)] M6 Q7 ∧ ∀ v7 M7, Q7 v7 M7 →
    ∃ Q8, zCi d 169 [.inr (.inr 75), .inl v7, .inr (.inr 64)] M7 Q8 ∧ ∀ v8 M8, Q8 v8 M8 →
    ∃ Q9, zCi d 169 [.inr (.inr 75), .inl v8, .inr (.inr 65)] M8 Q9 ∧ ∀ v9 M9, Q9 v9 M9 →
    ∃ Q10, zCi d 169 [.inr (.inr 75), .inl v9, .inr (.inr 66)] M9 Q10 ∧ ∀ v10 M10, Q10 v10 M10 →
    ∃ Q11, zCi d 169 [.inr (.inr 75), .inl v10, .inr (.inr 67)] M10 Q11 ∧ ∀ v11 M11, Q11 v11 M11 →
    (0 : Int) ≤ v11 ∧ (v11 : Int) < 480 ∧ zR32 (v11 + 1) ∧ (0 : Int) ≤ (v11 + 1) ∧ (v11 + 1 : Int) < 480 ∧ zR32 (v11 + 2) ∧ (0 : Int) ≤ (v11 + 2) ∧ (v11 + 2 : Int) < 480 ∧ zR32 (v11 + 3) ∧ (0 : Int) ≤ (v11 + 3) ∧ (v11 + 3 : Int) < 480 ∧ zR32 (v11 + 4) ∧ (0 : Int) ≤ (v11 + 4) ∧ (v11 + 4 : Int) < 480 ∧ zR32 (v11 + 5) ∧ (0 : Int) ≤ (v11 + 5) ∧ (v11 + 5 : Int) < 480 ∧ Q (zI 1) (zup (zup (zup (zup (zup (zup M11 55 2 (M11 75 v11.toNat)) 55 4 (M11 75 ((v11 + 1).toNat))) 55 12 (M11 75 ((v11 + 2).toNat))) 55 14 (M11 75 ((v11 + 3).toNat))) 55 15 (M11 75 ((v11 + 4).toNat))) 55 17 (M11 75 ((v11 + 5).toNat)))) ∧
  (¬ (M 55 31 : Int) ≠ 0 →
    Q (zI (-4)) M)) : zBg (d + 1) 171 0 [zR 55, none] [] M Q :=
  zvc_ok (I := zm171) (cuts := []) (n := 135) rfl h
theorem zk171 {d : Nat} {M : zMem} {Q : Option zV → zMem → Prop} (h : zBg d 171 0 [zR 55, none] [] M Q) : zCt d 171 [.inr (.inr 55)] M Q := zCt_of (I := zm171) rfl rfl h
/-! CommaCopiesModel.isSheet(I)Z , as 172 -/
set_option maxRecDepth 20000 in
theorem zv172_0 {d : Nat} {M : zMem} {Q : Option zV → zMem → Prop} (x0 : Int) (h :
  ∃ Q1, zCi d 110 [.inr (.inl x0), .inr (.inl 0), .inr (.inl 3)] M Q1 ∧ ∀ v1 M1, Q1 v1 M1 →
  ((v1 : Int) = 0 ∨ (v1 : Int) = 1) ∧ Q (zI v1) M1) : zBg (d + 1) 172 0 [zI x0] [] M Q :=
  zvc_ok (I := zm172) (cuts := []) (n := 11) rfl h
theorem zk172 {d : Nat} {M : zMem} {Q : Option zV → zMem → Prop} {x0 : Int} (h : zBg d 172 0 [zI x0] [] M Q) : zCt d 172 [.inl x0] M Q := zCt_of (I := zm172) rfl rfl h
/-! CommaCopiesModel.isLane(I)Z , as 173 -/
set_option maxRecDepth 20000 in
theorem zv173_0 {d : Nat} {M : zMem} {Q : Option zV → zMem → Prop} (x0 : Int) (h :
  ∃ Q1, zCi d 110 [.inr (.inl x0), .inr (.inl 0), .inr (.inl 2)] M Q1 ∧ ∀ v1 M1, Q1 v1 M1 →
  ((v1 : Int) = 0 ∨ (v1 : Int) = 1) ∧ Q (zI v1) M1) : zBg (d + 1) 173 0 [zI x0] [] M Q :=
  zvc_ok (I := zm173) (cuts := []) (n := 11) rfl h
theorem zk173 {d : Nat} {M : zMem} {Q : Option zV → zMem → Prop} {x0 : Int} (h : zBg d 173 0 [zI x0] [] M Q) : zCt d 173 [.inl x0] M Q := zCt_of (I := zm173) rfl rfl h
/-! CommaCopiesModel.finds(IIII)I , as 174 -/
set_option maxRecDepth 20000 in
theorem zv174_0 {d : Nat} {M : zMem} {Q : Option zV → zMem → Prop} (x1 : Int) (x2 : Int) (x3 : Int) (x4 : Int) (h :
  (0 : Int) ≤ x1 ∧ (x1 : Int) < 4 ∧ ((M 76 x1.toNat : Int) ≥ 0 →
    (0 : Int) ≤ x1 ∧ (x1 : Int) < 4 ∧ ((M 76 x1.toNat : Int) = x2 →
      ((x3 : Int) < 0 →
        Q (zI (-13)) M) ∧
      (¬ (x3 : Int) < 0 →
        (0 : Int) ≤ x1 ∧ (x1 : Int) < 4 ∧ ((zlcmp (zladd x3 x4) (M 77 x1.toNat) : Int) ≤ 0 →
          Q (zI 0) M) ∧
        (¬ (zlcmp (zladd x3 x4) (M 77 x1.toNat) : Int) ≤ 0 →
          Q (zI (-13)) M))) ∧
    (¬ (M 76 x1.toNat : Int) = x2 →
      Q (zI (-12)) M)) ∧
  (¬ (M 76 x1.toNat : Int) ≥ 0 →
    Q (zI (-11)) M)) : zBg d 174 0 [zR 55, zI x1, zI x2, zI x3, zI x4] [] M Q :=
  zvc_ok (I := zm174) (cuts := []) (n := 38) rfl h
theorem zk174 {d : Nat} {M : zMem} {Q : Option zV → zMem → Prop} {x1 : Int} {x2 : Int} {x3 : Int} {x4 : Int} (h : zBg d 174 0 [zR 55, zI x1, zI x2, zI x3, zI x4] [] M Q) : zCt d 174 [.inr (.inr 55), .inl x1, .inl x2, .inl x3, .inl x4] M Q := zCt_of (I := zm174) rfl rfl h
/-! CommaCopiesModel.sheet(III)I , as 175 -/
set_option maxRecDepth 20000 in
theorem zv175_0 {d : Nat} {M : zMem} {Q : Option zV → zMem → Prop} (x1 : Int) (x2 : Int) (x3 : Int) (h :
  ∃ Q1, zCi d 172 [.inl x1] M Q1 ∧ ∀ v1 M1, Q1 v1 M1 →
  ((v1 : Int) = 0 →
    Q (zI (-1)) M1) ∧
  (¬ (v1 : Int) = 0 →
    ∃ Q2, zCi d 173 [.inl x2] M1 Q2 ∧ ∀ v2 M2, Q2 v2 M2 →
    ((v2 : Int) = 0 →
      Q (zI (-1)) M2) ∧
    (¬ (v2 : Int) = 0 →
      ((x3 : Int) ≤ 12 →
        ((x3 : Int) ≥ 0 →
          (0 : Int) ≤ x1 ∧ (x1 : Int) < 4 ∧ (0 : Int) ≤ x1 ∧ (x1 : Int) < 4 ∧ zBg (d + 1) 175 46 [zR 55, zI x1, none, zI x3, zI 0] [] (zup (zup M2 76 x1.toNat x2) 77 x1.toNat x3) Q) ∧
        (¬ (x3 : Int) ≥ 0 →
          Q (zI (-14)) M2)) ∧
      (¬ (x3 : Int) ≤ 12 →
        Q (zI (-1)) M2)))) : zBg (d + 1) 175 0 [zR 55, zI x1, zI x2, zI x3, none] [] M Q :=
  zvc_ok (I := zm175) (cuts := [(46, [true, true, false, true, true])]) (n := 48) rfl h
set_option maxRecDepth 20000 in
theorem zv175_46 {d : Nat} {M : zMem} {Q : Option zV → zMem → Prop} (x1 : Int) (x3 : Int) (x4 : Int) (h :
  ((x4 : Int) ≥ 12 →
    Q (zI x3) M) ∧
  (¬ (x4 : Int) ≥ 12 →
    zR32 (12 * x1) ∧ zR32 ((12 * x1) + x4) ∧ (0 : Int) ≤ ((12 * x1) + x4) ∧ ((12 * x1) + x4 : Int) < 48 ∧ zR32 (x4 + 1) ∧ zBg d 175 46 [zR 55, zI x1, none, zI x3, zI (x4 + 1)] [] (zup M 78 (((12 * x1) + x4).toNat) 0) Q)) : zBg d 175 46 [zR 55, zI x1, none, zI x3, zI x4] [] M Q :=
  zvc_ok (I := zm175) (cuts := [(46, [true, true, false, true, true])]) (n := 48) rfl h
theorem zk175 {d : Nat} {M : zMem} {Q : Option zV → zMem → Prop} {x1 : Int} {x2 : Int} {x3 : Int} (h : zBg d 175 0 [zR 55, zI x1, zI x2, zI x3, none] [] M Q) : zCt d 175 [.inr (.inr 55), .inl x1, .inl x2, .inl x3] M Q := zCt_of (I := zm175) rfl rfl h
/-! CommaCopiesModel.drop(I)I , as 176 -/
set_option maxRecDepth 20000 in
theorem zv176_0 {d : Nat} {M : zMem} {Q : Option zV → zMem → Prop} (x1 : Int) (h :
  ∃ Q1, zCi d 172 [.inl x1] M Q1 ∧ ∀ v1 M1, Q1 v1 M1 →
  ((v1 : Int) ≠ 0 →
    (0 : Int) ≤ x1 ∧ (x1 : Int) < 4 ∧ ((M1 76 x1.toNat : Int) ≥ 0 →
      (0 : Int) ≤ x1 ∧ (x1 : Int) < 4 ∧ (0 : Int) ≤ x1 ∧ (x1 : Int) < 4 ∧ Q (zI (M1 77 x1.toNat)) (zup M1 76 x1.toNat (-1))) ∧
    (¬ (M1 76 x1.toNat : Int) ≥ 0 →
      Q (zI (-11)) M1)) ∧
  (¬ (v1 : Int) ≠ 0 →
    Q (zI (-1)) M1)) : zBg (d + 1) 176 0 [zR 55, zI x1] [] M Q :=
  zvc_ok (I := zm176) (cuts := []) (n := 27) rfl h
theorem zk176 {d : Nat} {M : zMem} {Q : Option zV → zMem → Prop} {x1 : Int} (h : zBg d 176 0 [zR 55, zI x1] [] M Q) : zCt d 176 [.inr (.inr 55), .inl x1] M Q := zCt_of (I := zm176) rfl rfl h
/-! CommaCopiesModel.item(IIII)I , as 177 -/
set_option maxRecDepth 20000 in
theorem zv177_0 {d : Nat} {M : zMem} {Q : Option zV → zMem → Prop} (x1 : Int) (x2 : Int) (x3 : Int) (x4 : Int) (h :
  ∃ Q1, zCi d 172 [.inl x1] M Q1 ∧ ∀ v1 M1, Q1 v1 M1 →
  ((v1 : Int) = 0 →
    Q (zI (-1)) M1) ∧
  (¬ (v1 : Int) = 0 →
    ∃ Q2, zCi d 173 [.inl x2] M1 Q2 ∧ ∀ v2 M2, Q2 v2 M2 →
    ((v2 : Int) ≠ 0 →
      ∃ Q3, zCi d 174 [.inr (.inr 55), .inl x1, .inl x2, .inl x3, .inl 1] M2 Q3 ∧ ∀ v3 M3, Q3 v3 M3 →
      ((v3 : Int) ≥ 0 →
        zR32 (12 * x1) ∧ zR32 ((12 * x1) + x3) ∧ ((x2 : Int) ≠ 0 →
          ((x2 : Int) ≠ 1 →
            (0 : Int) ≤ ((12 * x1) + x3) ∧ ((12 * x1) + x3 : Int) < 48 ∧ Q (zI 1) (zup M3 78 (((12 * x1) + x3).toNat) x4)) ∧
          (¬ (x2 : Int) ≠ 1 →
            (0 : Int) ≤ ((12 * x1) + x3) ∧ ((12 * x1) + x3 : Int) < 48 ∧ Q (zI 1) (zup M3 78 (((12 * x1) + x3).toNat) (zi2s x4)))) ∧
        (¬ (x2 : Int) ≠ 0 →
          (0 : Int) ≤ ((12 * x1) + x3) ∧ ((12 * x1) + x3 : Int) < 48 ∧ Q (zI 1) (zup M3 78 (((12 * x1) + x3).toNat) (zi2b x4)))) ∧
      (¬ (v3 : Int) ≥ 0 →
        Q (zI v3) M3)) ∧
    (¬ (v2 : Int) ≠ 0 →
      Q (zI (-1)) M2))) : zBg (d + 1) 177 0 [zR 55, zI x1, zI x2, zI x3, zI x4, none] [] M Q :=
  zvc_ok (I := zm177) (cuts := []) (n := 46) rfl h
theorem zk177 {d : Nat} {M : zMem} {Q : Option zV → zMem → Prop} {x1 : Int} {x2 : Int} {x3 : Int} {x4 : Int} (h : zBg d 177 0 [zR 55, zI x1, zI x2, zI x3, zI x4, none] [] M Q) : zCt d 177 [.inr (.inr 55), .inl x1, .inl x2, .inl x3, .inl x4] M Q := zCt_of (I := zm177) rfl rfl h
/-! CommaCopiesModel.copy(IIIII)I , as 178 -/
set_option maxRecDepth 20000 in
theorem zv178_0 {d : Nat} {M : zMem} {Q : Option zV → zMem → Prop} (x1 : Int) (x2 : Int) (x3 : Int) (x4 : Int) (x5 : Int) (h :
  ∃ Q1, zCi d 172 [.inl x1] M Q1 ∧ ∀ v1 M1, Q1 v1 M1 →
  ((v1 : Int) = 0 →
    Q (zI (-1)) M1) ∧
  (¬ (v1 : Int) = 0 →
    ∃ Q2, zCi d 172 [.inl x3] M1 Q2 ∧ ∀ v2 M2, Q2 v2 M2 →
    ((v2 : Int) ≠ 0 →
      (0 : Int) ≤ x1 ∧ (x1 : Int) < 4 ∧ ((M2 76 x1.toNat : Int) < 0 →
        Q (zI (-11)) M2) ∧
      (¬ (M2 76 x1.toNat : Int) < 0 →
        (0 : Int) ≤ x3 ∧ (x3 : Int) < 4 ∧ ((M2 76 x3.toNat : Int) ≥ 0 →
          (0 : Int) ≤ x1 ∧ (x1 : Int) < 4 ∧ (0 : Int) ≤ x3 ∧ (x3 : Int) < 4 ∧ ((M2 76 x1.toNat : Int) = (M2 76 x3.toNat) →
            ((x5 : Int) < 0 →
              Q (zI (-13)) M2) ∧
            (¬ (x5 : Int) < 0 →
              (0 : Int) ≤ x1 ∧ (x1 : Int) < 4 ∧ ∃ Q3, zCi d 174 [.inr (.inr 55), .inl x1, .inl (M2 76 x1.toNat), .inl x2, .inl x5] M2 Q3 ∧ ∀ v3 M3, Q3 v3 M3 →
              ((v3 : Int) < 0 →
                Q (zI (-13)) M3) ∧
              (¬ (v3 : Int) < 0 →
                (0 : Int) ≤ x3 ∧ (x3 : Int) < 4 ∧ ∃ Q4, zCi d 174 [.inr (.inr 55), .inl x3, .inl (M3 76 x3.toNat), .inl x4, .inl x5] M3 Q4 ∧ ∀ v4 M4, Q4 v4 M4 →
                ((v4 : Int) ≥ 0 →
                  zBg (d + 1) 178 101 [zR 55, zI x1, zI x2, zI x3, zI x4, zI x5, zI 0] [] M4 Q) ∧
                (¬ (v4 : Int) ≥ 0 →
                  Q (zI (-13)) M4)))) ∧
          (¬ (M2 76 x1.toNat : Int) = (M2 76 x3.toNat) →
            Q (zI (-12)) M2)) ∧
        (¬ (M2 76 x3.toNat : Int) ≥ 0 →
          Q (zI (-11)) M2))) ∧
    (¬ (v2 : Int) ≠ 0 →
      Q (zI (-1)) M2))) : zBg (d + 1) 178 0 [zR 55, zI x1, zI x2, zI x3, zI x4, zI x5, none] [] M Q :=
  zvc_ok (I := zm178) (cuts := [(101, [true, true, true, true, true, true, true]), (138, [true, false, false, true, true, true, true])]) (n := 104) rfl h
set_option maxRecDepth 20000 in
theorem zv178_101 {d : Nat} {M : zMem} {Q : Option zV → zMem → Prop} (x1 : Int) (x2 : Int) (x3 : Int) (x4 : Int) (x5 : Int) (x6 : Int) (h :
  ((x6 : Int) ≥ x5 →
    zBg d 178 138 [zR 55, none, none, zI x3, zI x4, zI x5, zI 0] [] M Q) ∧
  (¬ (x6 : Int) ≥ x5 →
    zR32 (12 * x1) ∧ zR32 ((12 * x1) + x2) ∧ zR32 (((12 * x1) + x2) + x6) ∧ (0 : Int) ≤ (((12 * x1) + x2) + x6) ∧ (((12 * x1) + x2) + x6 : Int) < 48 ∧ (0 : Int) ≤ x6 ∧ (x6 : Int) < 12 ∧ zR32 (x6 + 1) ∧ zBg d 178 101 [zR 55, zI x1, zI x2, zI x3, zI x4, zI x5, zI (x6 + 1)] [] (zup M 79 x6.toNat (M 78 ((((12 * x1) + x2) + x6).toNat))) Q)) : zBg d 178 101 [zR 55, zI x1, zI x2, zI x3, zI x4, zI x5, zI x6] [] M Q :=
  zvc_ok (I := zm178) (cuts := [(101, [true, true, true, true, true, true, true]), (138, [true, false, false, true, true, true, true])]) (n := 104) rfl h
set_option maxRecDepth 20000 in
theorem zv178_138 {d : Nat} {M : zMem} {Q : Option zV → zMem → Prop} (x3 : Int) (x4 : Int) (x5 : Int) (x6 : Int) (h :
  ((x6 : Int) ≥ x5 →
    Q (zI x5) M) ∧
  (¬ (x6 : Int) ≥ x5 →
    zR32 (12 * x3) ∧ zR32 ((12 * x3) + x4) ∧ zR32 (((12 * x3) + x4) + x6) ∧ (0 : Int) ≤ x6 ∧ (x6 : Int) < 12 ∧ (0 : Int) ≤ (((12 * x3) + x4) + x6) ∧ (((12 * x3) + x4) + x6 : Int) < 48 ∧ zR32 (x6 + 1) ∧ zBg d 178 138 [zR 55, none, none, zI x3, zI x4, zI x5, zI (x6 + 1)] [] (zup M 78 ((((12 * x3) + x4) + x6).toNat) (M 79 x6.toNat)) Q)) : zBg d 178 138 [zR 55, none, none, zI x3, zI x4, zI x5, zI x6] [] M Q :=
  zvc_ok (I := zm178) (cuts := [(101, [true, true, true, true, true, true, true]), (138, [true, false, false, true, true, true, true])]) (n := 104) rfl h
theorem zk178 {d : Nat} {M : zMem} {Q : Option zV → zMem → Prop} {x1 : Int} {x2 : Int} {x3 : Int} {x4 : Int} {x5 : Int} (h : zBg d 178 0 [zR 55, zI x1, zI x2, zI x3, zI x4, zI x5, none] [] M Q) : zCt d 178 [.inr (.inr 55), .inl x1, .inl x2, .inl x3, .inl x4, .inl x5] M Q := zCt_of (I := zm178) rfl rfl h
/-! java/lang/Integer.numberOfTrailingZeros(I)I , as 179 -/
set_option maxRecDepth 20000 in
theorem zv179_0 {d : Nat} {M : zMem} {Q : Option zV → zMem → Prop} (x0 : Int) (h :
  zR32 (x0 - 1) ∧ ((ziand (zixor x0 (-1)) (x0 - 1) : Int) > 0 →
    ((ziand (zixor x0 (-1)) (x0 - 1) : Int) ≤ 65536 →
      ((ziand (zixor x0 (-1)) (x0 - 1) : Int) ≤ 256 →
        ((ziand (zixor x0 (-1)) (x0 - 1) : Int) ≤ 16 →
          ((ziand (zixor x0 (-1)) (x0 - 1) : Int) ≤ 4 →
            zR32 (1 + (ziushr (ziand (zixor x0 (-1)) (x0 - 1)) 1)) ∧ Q (zI (1 + (ziushr (ziand (zixor x0 (-1)) (x0 - 1)) 1))) M) ∧
          (¬ (ziand (zixor x0 (-1)) (x0 - 1) : Int) ≤ 4 →
            zR32 (1 + 2) ∧ zR32 ((1 + 2) + (ziushr (ziushr (ziand (zixor x0 (-1)) (x0 - 1)) 2) 1)) ∧ Q (zI ((1 + 2) + (ziushr (ziushr (ziand (zixor x0 (-1)) (x0 - 1)) 2) 1))) M)) ∧
        (¬ (ziand (zixor x0 (-1)) (x0 - 1) : Int) ≤ 16 →
          zR32 (1 + 4) ∧ ((ziushr (ziand (zixor x0 (-1)) (x0 - 1)) 4 : Int) ≤ 4 →
            zR32 ((1 + 4) + (ziushr (ziushr (ziand (zixor x0 (-1)) (x0 - 1)) 4) 1)) ∧ Q (zI ((1 + 4) + (ziushr (ziushr (ziand (zixor x0 (-1)) (x0 - 1)) 4) 1))) M) ∧
          (¬ (ziushr (ziand (zixor x0 (-1)) (x0 - 1)) 4 : Int) ≤ 4 →
            zR32 ((1 + 4) + 2) ∧ zR32 (((1 + 4) + 2) + (ziushr (ziushr (ziushr (ziand (zixor x0 (-1)) (x0 - 1)) 4) 2) 1)) ∧ Q (zI (((1 + 4) + 2) + (ziushr (ziushr (ziushr (ziand (zixor x0 (-1)) (x0 - 1)) 4) 2) 1))) M))) ∧
      (¬ (ziand (zixor x0 (-1)) (x0 - 1) : Int) ≤ 256 →
        zR32 (1 + 8) ∧ ((ziushr (ziand (zixor x0 (-1)) (x0 - 1)) 8 : Int) ≤ 16 →
          ((ziushr (ziand (zixor x0 (-1)) (x0 - 1)) 8 : Int) ≤ 4 →
            zR32 ((1 + 8) + (ziushr (ziushr (ziand (zixor x0 (-1)) (x0 - 1)) 8) 1)) ∧ Q (zI ((1 + 8) + (ziushr (ziushr (ziand (zixor x0 (-1)) (x0 - 1)) 8) 1))) M) ∧
          (¬ (ziushr (ziand (zixor x0 (-1)) (x0 - 1)) 8 : Int) ≤ 4 →
            zR32 ((1 + 8) + 2) ∧ zR32 (((1 + 8) + 2) + (ziushr (ziushr (ziushr (ziand (zixor x0 (-1)) (x0 - 1)) 8) 2) 1)) ∧ Q (zI (((1 + 8) + 2) + (ziushr (ziushr (ziushr (ziand (zixor x0 (-1)) (x0 - 1)) 8) 2) 1))) M)) ∧
        (¬ (ziushr (ziand (zixor x0 (-1)) (x0 - 1)) 8 : Int) ≤ 16 →
          zR32 ((1 + 8) + 4) ∧ ((ziushr (ziushr (ziand (zixor x0 (-1)) (x0 - 1)) 8) 4 : Int) ≤ 4 →
            zR32 (((1 + 8) + 4) + (ziushr (ziushr (ziushr (ziand (zixor x0 (-1)) (x0 - 1)) 8) 4) 1)) ∧ Q (zI (((1 + 8) + 4) + (ziushr (ziushr (ziushr (ziand (zixor x0 (-1)) (x0 - 1)) 8) 4) 1))) M) ∧
          (¬ (ziushr (ziushr (ziand (zixor x0 (-1)) (x0 - 1)) 8) 4 : Int) ≤ 4 →
            zR32 (((1 + 8) + 4) + 2) ∧ zR32 ((((1 + 8) + 4) + 2) + (ziushr (ziushr (ziushr (ziushr (ziand (zixor x0 (-1)) (x0 - 1)) 8) 4) 2) 1)) ∧ Q (zI ((((1 + 8) + 4) + 2) + (ziushr (ziushr (ziushr (ziushr (ziand (zixor x0 (-1)) (x0 - 1)) 8) 4) 2) 1))) M)))) ∧
    (¬ (ziand (zixor x0 (-1)) (x0 - 1) : Int) ≤ 65536 →
      zR32 (1 + 16) ∧ ((ziushr (ziand (zixor x0 (-1)) (x0 - 1)) 16 : Int) ≤ 256 →
        ((ziushr (ziand (zixor x0 (-1)) (x0 - 1)) 16 : Int) ≤ 16 →
          ((ziushr (ziand (zixor x0 (-1)) (x0 - 1)) 16 : Int) ≤ 4 →
            zR32 ((1 + 16) + (ziushr (ziushr (ziand (zixor x0 (-1)) (x0 - 1)) 16) 1)) ∧ Q (zI ((1 + 16) + (ziushr (ziushr (ziand (zixor x0 (-1)) (x0 - 1)) 16) 1))) M) ∧
          (¬ (ziushr (ziand (zixor x0 (-1)) (x0 - 1)) 16 : Int) ≤ 4 →
            zR32 ((1 + 16) + 2) ∧ zR32 (((1 + 16) + 2) + (ziushr (ziushr (ziushr (ziand (zixor x0 (-1)) (x0 - 1)) 16) 2) 1)) ∧ Q (zI (((1 + 16) + 2) + (ziushr (ziushr (ziushr (ziand (zixor x0 (-1)) (x0 - 1)) 16) 2) 1))) M)) ∧
        (¬ (ziushr (ziand (zixor x0 (-1)) (x0 - 1)) 16 : Int) ≤ 16 →
          zR32 ((1 + 16) + 4) ∧ ((ziushr (ziushr (ziand (zixor x0 (-1)) (x0 - 1)) 16) 4 : Int) ≤ 4 →
            zR32 (((1 + 16) + 4) + (ziushr (ziushr (ziushr (ziand (zixor x0 (-1)) (x0 - 1)) 16) 4) 1)) ∧ Q (zI (((1 + 16) + 4) + (ziushr (ziushr (ziushr (ziand (zixor x0 (-1)) (x0 - 1)) 16) 4) 1))) M) ∧
          (¬ (ziushr (ziushr (ziand (zixor x0 (-1)) (x0 - 1)) 16) 4 : Int) ≤ 4 →
            zR32 (((1 + 16) + 4) + 2) ∧ zR32 ((((1 + 16) + 4) + 2) + (ziushr (ziushr (ziushr (ziushr (ziand (zixor x0 (-1)) (x0 - 1)) 16) 4) 2) 1)) ∧ Q (zI ((((1 + 16) + 4) + 2) + (ziushr (ziushr (ziushr (ziushr (ziand (zixor x0 (-1)) (x0 - 1)) 16) 4) 2) 1))) M))) ∧
      (¬ (ziushr (ziand (zixor x0 (-1)) (x0 - 1)) 16 : Int) ≤ 256 →
        zR32 ((1 + 16) + 8) ∧ ((ziushr (ziushr (ziand (zixor x0 (-1)) (x0 - 1)) 16) 8 : Int) ≤ 16 →
          ((ziushr (ziushr (ziand (zixor x0 (-1)) (x0 - 1)) 16) 8 : Int) ≤ 4 →
            zR32 (((1 + 16) + 8) + (ziushr (ziushr (ziushr (ziand (zixor x0 (-1)) (x0 - 1)) 16) 8) 1)) ∧ Q (zI (((1 + 16) + 8) + (ziushr (ziushr (ziushr (ziand (zixor x0 (-1)) (x0 - 1)) 16) 8) 1))) M) ∧
          (¬ (ziushr (ziushr (ziand (zixor x0 (-1)) (x0 - 1)) 16) 8 : Int) ≤ 4 →
            zR32 (((1 + 16) + 8) + 2) ∧ zR32 ((((1 + 16) + 8) + 2) + (ziushr (ziushr (ziushr (ziushr (ziand (zixor x0 (-1)) (x0 - 1)) 16) 8) 2) 1)) ∧ Q (zI ((((1 + 16) + 8) + 2) + (ziushr (ziushr (ziushr (ziushr (ziand (zixor x0 (-1)) (x0 - 1)) 16) 8) 2) 1))) M)) ∧
        (¬ (ziushr (ziushr (ziand (zixor x0 (-1)) (x0 - 1)) 16) 8 : Int) ≤ 16 →
          zR32 (((1 + 16) + 8) + 4) ∧ ((ziushr (ziushr (ziushr (ziand (zixor x0 (-1)) (x0 - 1)) 16) 8) 4 : Int) ≤ 4 →
            zR32 ((((1 + 16) + 8) + 4) + (ziushr (ziushr (ziushr (ziushr (ziand (zixor x0 (-1)) (x0 - 1)) 16) 8) 4) 1)) ∧ Q (zI ((((1 + 16) + 8) + 4) + (ziushr (ziushr (ziushr (ziushr (ziand (zixor x0 (-1)) (x0 - 1)) 16) 8) 4) 1))) M) ∧
          (¬ (ziushr (ziushr (ziushr (ziand (zixor x0 (-1)) (x0 - 1)) 16) 8) 4 : Int) ≤ 4 →
            zR32 ((((1 + 16) + 8) + 4) + 2) ∧ zR32 (((((1 + 16) + 8) + 4) + 2) + (ziushr (ziushr (ziushr (ziushr (ziushr (ziand (zixor x0 (-1)) (x0 - 1)) 16) 8) 4) 2) 1)) ∧ Q (zI (((((1 + 16) + 8) + 4) + 2) + (ziushr (ziushr (ziushr (ziushr (ziushr (ziand (zixor x0 (-1)) (x0 - 1)) 16) 8) 4) 2) 1))) M))))) ∧
  (¬ (ziand (zixor x0 (-1)) (x0 - 1) : Int) > 0 →
    Q (zI (ziand (ziand (zixor x0 (-1)) (x0 - 1)) 32)) M)) : zBg d 179 0 [zI x0, none] [] M Q :=
  zvc_ok (I := zm179) (cuts := []) (n := 59) rfl h
theorem zk179 {d : Nat} {M : zMem} {Q : Option zV → zMem → Prop} {x0 : Int} (h : zBg d 179 0 [zI x0, none] [] M Q) : zCt d 179 [.inl x0] M Q := zCt_of (I := zm179) rfl rfl h
