/-! CommaCopies.could(I)I , as 85 -/
set_option maxRecDepth 20000 in
theorem zv85_0 {d : Nat} {M : zMem} {Q : Option zV → zMem → Prop} (x1 : Int) (h :
  ∃ Q1, zCi d 57 [.inr (.inr 4), .inl x1] M Q1 ∧ ∀ v1 M1, Q1 v1 M1 →
  ((v1 : Int) ≠ 0 →
    ∃ Q2, zCi d 60 [.inr (.inr 4), .inr (.inr 8), .inl 0] M1 Q2 ∧ ∀ v2 M2, Q2 v2 M2 →
    ∃ Q3, zCr d 107 [.inr (.inr 0)] M2 Q3 ∧ ∀ M3, Q3 M3 →
    ∃ Q4, zCi d 12 [.inr (.inr 42), .inl x1] M3 Q4 ∧ ∀ v4 M4, Q4 v4 M4 →
    ((ziand v2 (zixor v4 (-1)) : Int) ≠ 0 →
      Q (zI 0) M4) ∧
    (¬ (ziand v2 (zixor v4 (-1)) : Int) ≠ 0 →
      Q (zI 1) M4)) ∧
  (¬ (v1 : Int) ≠ 0 →
    Q (zI (-1)) M1)) : zBg (d + 1) 85 0 [zR 0, zI x1, none] [] M Q :=
  zvc_ok (I := zm85) (cuts := []) (n := 33) rfl h
theorem zk85 {d : Nat} {M : zMem} {Q : Option zV → zMem → Prop} {x1 : Int} (h : zBg d 85 0 [zR 0, zI x1, none] [] M Q) : zCt d 85 [.inr (.inr 0), .inl x1] M Q := zCt_of (I := zm85) rfl rfl h
/-! CommaCopies.maker(I)I , as 86 -/
set_option maxRecDepth 20000 in
theorem zv86_0 {d : Nat} {M : zMem} {Q : Option zV → zMem → Prop} (x1 : Int) (h :
  ((x1 : Int) ≥ 0 →
    ∃ Q1, zCr d 107 [.inr (.inr 0)] M Q1 ∧ ∀ M1, Q1 M1 →
    ∃ Q2, zCv d 10 [.inr (.inr 42)] M1 Q2 ∧ ∀ M2, Q2 M2 →
    ∃ Q3, zCi d 60 [.inr (.inr 4), .inr (.inr 8), .inl 0] M2 Q3 ∧ ∀ v3 M3, Q3 v3 M3 →
    ∃ Q4, zCi d 14 [.inr (.inr 42), .inl v3, .inl x1] M3 Q4 ∧ ∀ v4 M4, Q4 v4 M4 →
    Q (zI v4) M4) ∧
  (¬ (x1 : Int) ≥ 0 →
    Q (zI (-1)) M)) : zBg (d + 1) 86 0 [zR 0, zI x1] [] M Q :=
  zvc_ok (I := zm86) (cuts := []) (n := 24) rfl h
theorem zk86 {d : Nat} {M : zMem} {Q : Option zV → zMem → Prop} {x1 : Int} (h : zBg d 86 0 [zR 0, zI x1] [] M Q) : zCt d 86 [.inr (.inr 0), .inl x1] M Q := zCt_of (I := zm86) rfl rfl h
/-! CommaCopies.blamed(I)I , as 87 -/
set_option maxRecDepth 20000 in
theorem zv87_0 {d : Nat} {M : zMem} {Q : Option zV → zMem → Prop} (x1 : Int) (h :
  ((x1 : Int) = 0 →
    ∃ Q1, zCr d 108 [.inr (.inr 0)] M Q1 ∧ ∀ M1, Q1 M1 →
    ((x1 : Int) ≠ 0 →
      Q (zI (M1 42 12)) M1) ∧
    (¬ (x1 : Int) ≠ 0 →
      Q (zI (M1 42 11)) M1)) ∧
  (¬ (x1 : Int) = 0 →
    ((x1 : Int) = 1 →
      ∃ Q2, zCr d 108 [.inr (.inr 0)] M Q2 ∧ ∀ M2, Q2 M2 →
      ((x1 : Int) ≠ 0 →
        Q (zI (M2 42 12)) M2) ∧
      (¬ (x1 : Int) ≠ 0 →
        Q (zI (M2 42 11)) M2)) ∧
    (¬ (x1 : Int) = 1 →
      Q (zI (-1)) M))) : zBg (d + 1) 87 0 [zR 0, zI x1, none] [] M Q :=
  zvc_ok (I := zm87) (cuts := []) (n := 23) rfl h
theorem zk87 {d : Nat} {M : zMem} {Q : Option zV → zMem → Prop} {x1 : Int} (h : zBg d 87 0 [zR 0, zI x1, none] [] M Q) : zCt d 87 [.inr (.inr 0), .inl x1] M Q := zCt_of (I := zm87) rfl rfl h
/-! CommaCopies.unjust(I)I , as 88 -/
set_option maxRecDepth 20000 in
theorem zv88_0 {d : Nat} {M : zMem} {Q : Option zV → zMem → Prop} (x1 : Int) (h :
  ∃ Q1, zCi d 57 [.inr (.inr 4), .inl x1] M Q1 ∧ ∀ v1 M1, Q1 v1 M1 →
  ((v1 : Int) ≠ 0 →
    ∃ Q2, zCr d 108 [.inr (.inr 0)] M1 Q2 ∧ ∀ M2, Q2 M2 →
    ((M2 42 13 : Int) ≠ 0 →
      ((ziand x1 (zixor (M2 42 11) (-1)) : Int) ≠ 0 →
        ∃ Q3, zCi d 179 [.inl (ziand x1 (zixor (M2 42 11) (-1)))] M2 Q3 ∧ ∀ v3 M3, Q3 v3 M3 →
        Q (zI v3) M3) ∧
      (¬ (ziand x1 (zixor (M2 42 11) (-1)) : Int) ≠ 0 →
        Q (zI (-4)) M2)) ∧
    (¬ (M2 42 13 : Int) ≠ 0 →
      Q (zI (-2)) M2)) ∧
  (¬ (v1 : Int) ≠ 0 →
    Q (zI (-1)) M1)) : zBg (d + 1) 88 0 [zR 0, zI x1, none, none] [] M Q :=
  zvc_ok (I := zm88) (cuts := []) (n := 34) rfl h
theorem zk88 {d : Nat} {M : zMem} {Q : Option zV → zMem → Prop} {x1 : Int} (h : zBg d 88 0 [zR 0, zI x1, none, none] [] M Q) : zCt d 88 [.inr (.inr 0), .inl x1] M Q := zCt_of (I := zm88) rfl rfl h
/-! CommaCopies.holds(I)I , as 89 -/
set_option maxRecDepth 20000 in
theorem zv89_0 {d : Nat} {M : zMem} {Q : Option zV → zMem → Prop} (x1 : Int) (h :
  ((x1 : Int) < 0 →
    Q (zI (-1)) M) ∧
  (¬ (x1 : Int) < 0 →
    ((x1 : Int) ≤ 2 →
      ∃ Q1, zCi d 109 [.inr (.inr 0), .inl x1] M Q1 ∧ ∀ v1 M1, Q1 v1 M1 →
      ((v1 : Int) = 0 →
        Q (zI 1) M1) ∧
      (¬ (v1 : Int) = 0 →
        Q (zI 0) M1)) ∧
    (¬ (x1 : Int) ≤ 2 →
      Q (zI (-1)) M))) : zBg (d + 1) 89 0 [zR 0, zI x1] [] M Q :=
  zvc_ok (I := zm89) (cuts := []) (n := 20) rfl h
theorem zk89 {d : Nat} {M : zMem} {Q : Option zV → zMem → Prop} {x1 : Int} (h : zBg d 89 0 [zR 0, zI x1] [] M Q) : zCt d 89 [.inr (.inr 0), .inl x1] M Q := zCt_of (I := zm89) rfl rfl h
/-! CommaCopies.breach(II)I , as 90 -/
set_option maxRecDepth 20000 in
theorem zv90_0 {d : Nat} {M : zMem} {Q : Option zV → zMem → Prop} (x1 : Int) (x2 : Int) (h :
  ((x1 : Int) ≠ 2 →
    ((x1 : Int) = 0 →
      ((x2 : Int) = 0 →
        ((1 : Int) ≠ 0 →
          ∃ Q1, zCi d 109 [.inr (.inr 0), .inl x1] M Q1 ∧ ∀ v1 M1, Q1 v1 M1 →
          ((v1 : Int) ≠ 0 →
            ((x1 : Int) ≠ 2 →
              ((x2 : Int) ≠ 0 →
                Q (zI (M1 36 7)) M1) ∧
              (¬ (x2 : Int) ≠ 0 →
                Q (zI (M1 36 6)) M1)) ∧
            (¬ (x1 : Int) ≠ 2 →
              (0 : Int) ≤ x2 ∧ (x2 : Int) < 6 ∧ Q (zI (M1 37 x2.toNat)) M1)) ∧
          (¬ (v1 : Int) ≠ 0 →
            Q (zI (-4)) M1)) ∧
        (¬ (1 : Int) ≠ 0 →
          Q (zI (-1)) M)) ∧
      (¬ (x2 : Int) = 0 →
        ((x2 : Int) ≠ 1 →
          ((0 : Int) ≠ 0 →
            ∃ Q2, zCi d 109 [.inr (.inr 0), .inl x1] M Q2 ∧ ∀ v2 M2, Q2 v2 M2 →
            ((v2 : Int) ≠ 0 →
              ((x1 : Int) ≠ 2 →
                ((x2 : Int) ≠ 0 →
                  Q (zI (M2 36 7)) M2) ∧
                (¬ (x2 : Int) ≠ 0 →
                  Q (zI (M2 36 6)) M2)) ∧
              (¬ (x1 : Int) ≠ 2 →
                (0 : Int) ≤ x2 ∧ (x2 : Int) < 6 ∧ Q (zI (M2 37 x2.toNat)) M2)) ∧
            (¬ (v2 : Int) ≠ 0 →
              Q (zI (-4)) M2)) ∧
          (¬ (0 : Int) ≠ 0 →
            Q (zI (-1)) M)) ∧
        (¬ (x2 : Int) ≠ 1 →
          ((1 : Int) ≠ 0 →
            ∃ Q3, zCi d 109 [.inr (.inr 0), .inl x1] M Q3 ∧ ∀ v3 M3, Q3 v3 M3 →
            ((v3 : Int) ≠ 0 →
              ((x1 : Int) ≠ 2 →
                ((x2 : Int) ≠ 0 →
                  Q (zI (M3 36 7)) M3) ∧
                (¬ (x2 : Int) ≠ 0 →
                  Q (zI (M3 36 6)) M3)) ∧
              (¬ (x1 : Int) ≠ 2 →
                (0 : Int) ≤ x2 ∧ (x2 : Int) < 6 ∧ Q (zI (M3 37 x2.toNat)) M3)) ∧
            (¬ (v3 : Int) ≠ 0 →
              Q (zI (-4)) M3)) ∧
          (¬ (1 : Int) ≠ 0 →
            Q (zI (-1)) M)))) ∧
    (¬ (x1 : Int) = 0 →
      ((x1 : Int) ≠ 1 →
        ((0 : Int) ≠ 0 →
          ∃ Q4, zCi d 109 [.inr (.inr 0), .inl x1] M Q4 ∧ ∀ v4 M4, Q4 v4 M4 →
          ((v4 : Int) ≠ 0 →
            ((x1 : Int) ≠ 2 →
              ((x2 : Int) ≠ 0 →
                Q (zI (M4 36 7)) M4) ∧
              (¬ (x2 : Int) ≠ 0 →
                Q (zI (M4 36 6)) M4)) ∧
            (¬ (x1 : Int) ≠ 2 →
              (0 : Int) ≤ x2 ∧ (x2 : Int) < 6 ∧ Q (zI (M4 37 x2.toNat)) M4)) ∧
          (¬ (v4 : Int) ≠ 0 →
            Q (zI (-4)) M4)) ∧
        (¬ (0 : Int) ≠ 0 →
          Q (zI (-1)) M)) ∧
      (¬ (x1 : Int) ≠ 1 →
        ((x2 : Int) = 0 →
          ((1 : Int) ≠ 0 →
            ∃ Q5, zCi d 109 [.inr (.inr 0), .inl x1] M Q5 ∧ ∀ v5 M5, Q5 v5 M5 →
            ((v5 : Int) ≠ 0 →
              ((x1 : Int) ≠ 2 →
                ((x2 : Int) ≠ 0 →
                  Q (zI (M5 36 7)) M5) ∧
                (¬ (x2 : Int) ≠ 0 →
                  Q (zI (M5 36 6)) M5)) ∧
              (¬ (x1 : Int) ≠ 2 →
                (0 : Int) ≤ x2 ∧ (x2 : Int) < 6 ∧ Q (zI (M5 37 x2.toNat)) M5)) ∧
            (¬ (v5 : Int) ≠ 0 →
              Q (zI (-4)) M5)) ∧
          (¬ (1 : Int) ≠ 0 →
            Q (zI (-1)) M)) ∧
        (¬ (x2 : Int) = 0 →
          ((x2 : Int) ≠ 1 →
            ((0 : Int) ≠ 0 →
              ∃ Q6, zCi d 109 [.inr (.inr 0), .inl x1] M Q6 ∧ ∀ v6 M6, Q6 v6 M6 →
              ((v6 : Int) ≠ 0 →
                ((x1 : Int) ≠ 2 →
                  ((x2 : Int) ≠ 0 →
                    Q (zI (M6 36 7)) M6) ∧
                  (¬ (x2 : Int) ≠ 0 →
                    Q (zI (M6 36 6)) M6)) ∧
                (¬ (x1 : Int) ≠ 2 →
                  (0 : Int) ≤ x2 ∧ (x2 : Int) < 6 ∧ Q (zI (M6 37 x2.toNat)) M6)) ∧
              (¬ (v6 : Int) ≠ 0 →
                Q (zI (-4)) M6)) ∧
            (¬ (0 : Int) ≠ 0 →
              Q (zI (-1)) M)) ∧
          (¬ (x2 : Int) ≠ 1 →
            ((1 : Int) ≠ 0 →
              ∃ Q7, zCi d 109 [.inr (.inr 0), .inl x1] M Q7 ∧ ∀ v7 M7, Q7 v7 M7 →
              ((v7 : Int) ≠ 0 →
                ((x1 : Int) ≠ 2 →
                  ((x2 : Int) ≠ 0 →
                    Q (zI (M7 36 7)) M7) ∧
                  (¬ (x2 : Int) ≠ 0 →
                    Q (zI (M7 36 6)) M7)) ∧
                (¬ (x1 : Int) ≠ 2 →
                  (0 : Int) ≤ x2 ∧ (x2 : Int) < 6 ∧ Q (zI (M7 37 x2.toNat)) M7)) ∧
              (¬ (v7 : Int) ≠ 0 →
                Q (zI (-4)) M7)) ∧
            (¬ (1 : Int) ≠ 0 →
              Q (zI (-1)) M)))))) ∧
  (¬ (x1 : Int) ≠ 2 →
    ∃ Q8, zCi d 34 [.inr (.inr 13), .inl x2] M Q8 ∧ ∀ v8 M8, Q8 v8 M8 →
    ((v8 : Int) ≠ 0 →
      ∃ Q9, zCi d 109 [.inr (.inr 0), .inl x1] M8 Q9 ∧ ∀ v9 M9, Q9 v9 M9 →
      ((v9 : Int) ≠ 0 →
        ((x1 : Int) ≠ 2 →
          ((x2 : Int) ≠ 0 →
            Q (zI (M9 36 7)) M9) ∧
          (¬ (x2 : Int) ≠ 0 →
            Q (zI (M9 36 6)) M9)) ∧
        (¬ (x1 : Int) ≠ 2 →
          (0 : Int) ≤ x2 ∧ (x2 : Int) < 6 ∧ Q (zI (M9 37 x2.toNat)) M9)) ∧
      (¬ (v9 : Int) ≠ 0 →
        Q (zI (-4)) M9)) ∧
    (¬ (v8 : Int) ≠ 0 →
      Q (zI (-1)) M8))) : zBg (d + 1) 90 0 [zR 0, zI x1, zI x2, none] [] M Q :=
  zvc_ok (I := zm90) (cuts := []) (n := 57) rfl h
theorem zk90 {d : Nat} {M : zMem} {Q : Option zV → zMem → Prop} {x1 : Int} {x2 : Int} (h : zBg d 90 0 [zR 0, zI x1, zI x2, none] [] M Q) : zCt d 90 [.inr (.inr 0), .inl x1, .inl x2] M Q := zCt_of (I := zm90) rfl rfl h
/-! CommaCopies.fewest(I)I , as 91 -/
set_option maxRecDepth 20000 in
theorem zv91_0 {d : Nat} {M : zMem} {Q : Option zV → zMem → Prop} (x1 : Int) (h :
  ((x1 : Int) < 0 →
    Q (zI (-1)) M) ∧
  (¬ (x1 : Int) < 0 →
    ((x1 : Int) ≤ 2 →
      ∃ Q1, zCi d 109 [.inr (.inr 0), .inl x1] M Q1 ∧ ∀ v1 M1, Q1 v1 M1 →
      ((v1 : Int) = 0 →
        ∃ Q2, zCi d 36 [.inr (.inr 13)] M1 Q2 ∧ ∀ v2 M2, Q2 v2 M2 →
        zBg (d + 1) 91 35 [zR 0, zI x1, zI v2, zI 0, none] [] M2 Q) ∧
      (¬ (v1 : Int) = 0 →
        Q (zI (-4)) M1)) ∧
    (¬ (x1 : Int) ≤ 2 →
      Q (zI (-1)) M))) : zBg (d + 1) 91 0 [zR 0, zI x1, none, none, none] [] M Q :=
  zvc_ok (I := zm91) (cuts := [(35, [true, true, true, true, false]), (52, [true, true, true, true, true])]) (n := 54) rfl h
set_option maxRecDepth 20000 in
theorem zv91_35 {d : Nat} {M : zMem} {Q : Option zV → zMem → Prop} (x1 : Int) (x2 : Int) (x3 : Int) (h :
  ((x3 : Int) > (M 13 6) →
    Q (zI (-4)) M) ∧
  (¬ (x3 : Int) > (M 13 6) →
    zBg d 91 52 [zR 0, zI x1, zI x2, zI x3, zI 0] [] M Q)) : zBg d 91 35 [zR 0, zI x1, zI x2, zI x3, none] [] M Q :=
  zvc_ok (I := zm91) (cuts := [(35, [true, true, true, true, false]), (52, [true, true, true, true, true])]) (n := 54) rfl h
set_option maxRecDepth 20000 in
theorem zv91_52 {d : Nat} {M : zMem} {Q : Option zV → zMem → Prop} (x1 : Int) (x2 : Int) (x3 : Int) (x4 : Int) (h :
  ((x4 : Int) > x2 →
    zR32 (x3 + 1) ∧ zBg (d + 1) 91 35 [zR 0, zI x1, zI x2, zI (x3 + 1), none] [] M Q) ∧
  (¬ (x4 : Int) > x2 →
    ∃ Q1, zCi d 180 [.inl x4] M Q1 ∧ ∀ v1 M1, Q1 v1 M1 →
    ((v1 : Int) ≠ x3 →
      zR32 (x4 + 1) ∧ zBg (d + 1) 91 52 [zR 0, zI x1, zI x2, zI x3, zI (x4 + 1)] [] M1 Q) ∧
    (¬ (v1 : Int) ≠ x3 →
      ∃ Q2, zCi d 16 [.inr (.inr 36), .inl x1, .inl x4] M1 Q2 ∧ ∀ v2 M2, Q2 v2 M2 →
      ((v2 : Int) ≠ 0 →
        zR32 (x4 + 1) ∧ zBg (d + 1) 91 52 [zR 0, zI x1, zI x2, zI x3, zI (x4 + 1)] [] M2 Q) ∧
      (¬ (v2 : Int) ≠ 0 →
        Q (zI x4) M2)))) : zBg (d + 1) 91 52 [zR 0, zI x1, zI x2, zI x3, zI x4] [] M Q :=
  zvc_ok (I := zm91) (cuts := [(35, [true, true, true, true, false]), (52, [true, true, true, true, true])]) (n := 54) rfl h
theorem zk91 {d : Nat} {M : zMem} {Q : Option zV → zMem → Prop} {x1 : Int} (h : zBg d 91 0 [zR 0, zI x1, none, none, none] [] M Q) : zCt d 91 [.inr (.inr 0), .inl x1] M Q := zCt_of (I := zm91) rfl rfl h
/-! CommaCopies.more(II)I , as 92 -/
set_option maxRecDepth 20000 in
theorem zv92_0 {d : Nat} {M : zMem} {Q : Option zV → zMem → Prop} (x1 : Int) (x2 : Int) (h :
  ((x1 : Int) = 0 →
    ∃ Q1, zCi d 34 [.inr (.inr 13), .inl x2] M Q1 ∧ ∀ v1 M1, Q1 v1 M1 →
    ((v1 : Int) ≠ 0 →
      ((M1 4 9 : Int) < 8 →
        ∃ Q2, zCi d 109 [.inr (.inr 0), .inl x1] M1 Q2 ∧ ∀ v2 M2, Q2 v2 M2 →
        ((v2 : Int) = 0 →
          ∃ Q3, zCi d 40 [.inr (.inr 13)] M2 Q3 ∧ ∀ v3 M3, Q3 v3 M3 →
          zBg (d + 1) 92 65 [zR 0, zI x1, zI x2, zI v3, zI 0] [] M3 Q) ∧
        (¬ (v2 : Int) = 0 →
          Q (zI (-4)) M2)) ∧
      (¬ (M1 4 9 : Int) < 8 →
        Q (zI (-3)) M1)) ∧
    (¬ (v1 : Int) ≠ 0 →
      Q (zI (-1)) M1)) ∧
  (¬ (x1 : Int) = 0 →
    ((x1 : Int) ≠ 1 →
      Q (zI (-1)) M) ∧
    (¬ (x1 : Int) ≠ 1 →
      ∃ Q4, zCi d 34 [.inr (.inr 13), .inl x2] M Q4 ∧ ∀ v4 M4, Q4 v4 M4 →
      ((v4 : Int) ≠ 0 →
        ((M4 4 9 : Int) < 8 →
          ∃ Q5, zCi d 109 [.inr (.inr 0), .inl x1] M4 Q5 ∧ ∀ v5 M5, Q5 v5 M5 →
          ((v5 : Int) = 0 →
            ∃ Q6, zCi d 40 [.inr (.inr 13)] M5 Q6 ∧ ∀ v6 M6, Q6 v6 M6 →
            zBg (d + 1) 92 65 [zR 0, zI x1, zI x2, zI v6, zI 0] [] M6 Q) ∧
          (¬ (v5 : Int) = 0 →
            Q (zI (-4)) M5)) ∧
        (¬ (M4 4 9 : Int) < 8 →
          Q (zI (-3)) M4)) ∧
      (¬ (v4 : Int) ≠ 0 →
        Q (zI (-1)) M4)))) : zBg (d + 1) 92 0 [zR 0, zI x1, zI x2, none, none] [] M Q :=
  zvc_ok (I := zm92) (cuts := [(65, [true, true, true, true, true])]) (n := 68) rfl h
set_option maxRecDepth 20000 in
theorem zv92_65 {d : Nat} {M : zMem} {Q : Option zV → zMem → Prop} (x1 : Int) (x2 : Int) (x3 : Int) (x4 : Int) (h :
  ((x4 : Int) ≥ x3 →
    Q (zI (-4)) M) ∧
  (¬ (x4 : Int) ≥ x3 →
    ∃ Q1, zCv d 41 [.inr (.inr 13), .inl x4, .inr (.inr 1)] M Q1 ∧ ∀ M1, Q1 M1 →
    ∃ Q2, zCi d 60 [.inr (.inr 4), .inr (.inr 1), .inl 0] M1 Q2 ∧ ∀ v2 M2, Q2 v2 M2 →
    ∃ Q3, zCi d 28 [.inr (.inr 36), .inl x1, .inl v2] M2 Q3 ∧ ∀ v3 M3, Q3 v3 M3 →
    ((v3 : Int) = 0 →
      zR32 (x4 + 1) ∧ zBg (d + 1) 92 65 [zR 0, zI x1, zI x2, zI x3, zI (x4 + 1)] [] M3 Q) ∧
    (¬ (v3 : Int) = 0 →
      (0 : Int) ≤ x2 ∧ (x2 : Int) < 6 ∧ Q (zI (M3 1 x2.toNat)) M3))) : zBg (d + 1) 92 65 [zR 0, zI x1, zI x2, zI x3, zI x4] [] M Q :=
  zvc_ok (I := zm92) (cuts := [(65, [true, true, true, true, true])]) (n := 68) rfl h
theorem zk92 {d : Nat} {M : zMem} {Q : Option zV → zMem → Prop} {x1 : Int} {x2 : Int} (h : zBg d 92 0 [zR 0, zI x1, zI x2, none, none] [] M Q) : zCt d 92 [.inr (.inr 0), .inl x1, .inl x2] M Q := zCt_of (I := zm92) rfl rfl h
/-! CommaCopies.score(I)I , as 93 -/
set_option maxRecDepth 20000 in
theorem zv93_0 {d : Nat} {M : zMem} {Q : Option zV → zMem → Prop} (x1 : Int) (h :
  ∃ Q1, zCi d 56 [.inr (.inr 4), .inl x1] M Q1 ∧ ∀ v1 M1, Q1 v1 M1 →
  ((v1 : Int) = 0 →
    Q (zI (-1)) M1) ∧
  (¬ (v1 : Int) = 0 →
    ∃ Q2, zCi d 62 [.inr (.inr 4), .inl x1] M1 Q2 ∧ ∀ v2 M2, Q2 v2 M2 →
    Q (zI v2) M2)) : zBg (d + 1) 93 0 [zR 0, zI x1] [] M Q :=
  zvc_ok (I := zm93) (cuts := []) (n := 17) rfl h
theorem zk93 {d : Nat} {M : zMem} {Q : Option zV → zMem → Prop} {x1 : Int} (h : zBg d 93 0 [zR 0, zI x1] [] M Q) : zCt d 93 [.inr (.inr 0), .inl x1] M Q := zCt_of (I := zm93) rfl rfl h
/-! CommaCopies.wrong(II)I , as 94 -/
set_option maxRecDepth 20000 in
theorem zv94_0 {d : Nat} {M : zMem} {Q : Option zV → zMem → Prop} (x1 : Int) (x2 : Int) (h :
  ((x1 : Int) < 0 →
    Q (zI (-1)) M) ∧
  (¬ (x1 : Int) < 0 →
    ((x1 : Int) > 6 →
      Q (zI (-1)) M) ∧
    (¬ (x1 : Int) > 6 →
      ((x2 : Int) = 0 →
        ((M 13 4 : Int) ≠ 0 →
          ∃ Q1, zCv d 0 [.inr (.inr 49), .inr (.inr 4)] M Q1 ∧ ∀ M1, Q1 M1 →
          ∃ Q2, zCi d 2 [.inr (.inr 49), .inl x1, .inl x2] M1 Q2 ∧ ∀ v2 M2, Q2 v2 M2 →
          Q (zI v2) M2) ∧
        (¬ (M 13 4 : Int) ≠ 0 →
          Q (zI (-2)) M)) ∧
      (¬ (x2 : Int) = 0 →
        ((x2 : Int) = 1 →
          ((M 13 4 : Int) ≠ 0 →
            ∃ Q3, zCv d 0 [.inr (.inr 49), .inr (.inr 4)] M Q3 ∧ ∀ M3, Q3 M3 →
            ∃ Q4, zCi d 2 [.inr (.inr 49), .inl x1, .inl x2] M3 Q4 ∧ ∀ v4 M4, Q4 v4 M4 →
            Q (zI v4) M4) ∧
          (¬ (M 13 4 : Int) ≠ 0 →
            Q (zI (-2)) M)) ∧
        (¬ (x2 : Int) = 1 →
          Q (zI (-1)) M))))) : zBg (d + 1) 94 0 [zR 0, zI x1, zI x2] [] M Q :=
  zvc_ok (I := zm94) (cuts := []) (n := 35) rfl h
theorem zk94 {d : Nat} {M : zMem} {Q : Option zV → zMem → Prop} {x1 : Int} {x2 : Int} (h : zBg d 94 0 [zR 0, zI x1, zI x2] [] M Q) : zCt d 94 [.inr (.inr 0), .inl x1, .inl x2] M Q := zCt_of (I := zm94) rfl rfl h
/-! CommaCopies.bar(I)I , as 95 -/
set_option maxRecDepth 20000 in
theorem zv95_0 {d : Nat} {M : zMem} {Q : Option zV → zMem → Prop} (x1 : Int) (h :
  ((x1 : Int) < 1 →
    Q (zI (-1)) M) ∧
  (¬ (x1 : Int) < 1 →
    ((x1 : Int) ≤ 9999 →
      ((M 13 4 : Int) ≠ 0 →
        ∃ Q1, zCv d 0 [.inr (.inr 49), .inr (.inr 4)] M Q1 ∧ ∀ M1, Q1 M1 →
        ∃ Q2, zCi d 4 [.inr (.inr 49), .inl x1] M1 Q2 ∧ ∀ v2 M2, Q2 v2 M2 →
        Q (zI v2) M2) ∧
      (¬ (M 13 4 : Int) ≠ 0 →
        Q (zI (-2)) M)) ∧
    (¬ (x1 : Int) ≤ 9999 →
      Q (zI (-1)) M))) : zBg (d + 1) 95 0 [zR 0, zI x1] [] M Q :=
  zvc_ok (I := zm95) (cuts := []) (n := 30) rfl h
theorem zk95 {d : Nat} {M : zMem} {Q : Option zV → zMem → Prop} {x1 : Int} (h : zBg d 95 0 [zR 0, zI x1] [] M Q) : zCt d 95 [.inr (.inr 0), .inl x1] M Q := zCt_of (I := zm95) rfl rfl h
/-! CommaCopies.put(II)I , as 96 -/
set_option maxRecDepth 20000 in
theorem zv96_0 {d : Nat} {M : zMem} {Q : Option zV → zMem → Prop} (x1 : Int) (x2 : Int) (h :
  ∃ Q1, zCi d 35 [.inr (.inr 13), .inl x1, .inl x2] M Q1 ∧ ∀ v1 M1, Q1 v1 M1 →
  ((v1 : Int) ≠ 0 →
    ∃ Q2, zCi d 64 [.inr (.inr 4), .inl x1] M1 Q2 ∧ ∀ v2 M2, Q2 v2 M2 →
    ∃ Q3, zCi d 67 [.inl v2, .inl x2] M2 Q3 ∧ ∀ v3 M3, Q3 v3 M3 →
    Q (zI v3) M3) ∧
  (¬ (v1 : Int) ≠ 0 →
    Q (zI (-1)) M1)) : zBg (d + 1) 96 0 [zR 0, zI x1, zI x2] [] M Q :=
  zvc_ok (I := zm96) (cuts := []) (n := 21) rfl h
theorem zk96 {d : Nat} {M : zMem} {Q : Option zV → zMem → Prop} {x1 : Int} {x2 : Int} (h : zBg d 96 0 [zR 0, zI x1, zI x2] [] M Q) : zCt d 96 [.inr (.inr 0), .inl x1, .inl x2] M Q := zCt_of (I := zm96) rfl rfl h
/-! CommaCopies.putAll()I , as 97 -/
set_option maxRecDepth 20000 in
theorem zv97_0 {d : Nat} {M : zMem} {Q : Option zV → zMem → Prop} (h :
  ((M 13 4 : Int) ≠ 0 →
    zBg d 97 18 [zR 0, zI 0, none] [] M Q) ∧
  (¬ (M 13 4 : Int) ≠ 0 →
    Q (zI (-2)) M)) : zBg d 97 0 [zR 0, none, none] [] M Q :=
  zvc_ok (I := zm97) (cuts := [(18, [true, true, false]), (58, [true, true, true])]) (n := 50) rfl h
set_option maxRecDepth 20000 in
theorem zv97_18 {d : Nat} {M : zMem} {Q : Option zV → zMem → Prop} (x1 : Int) (h :
  ((x1 : Int) ≥ (M 13 6) →
    zBg (d + 1) 97 58 [zR 0, zI 0, zI 0] [] M Q) ∧
  (¬ (x1 : Int) ≥ (M 13 6) →
    ∃ Q1, zCi d 64 [.inr (.inr 4), .inl x1] M Q1 ∧ ∀ v1 M1, Q1 v1 M1 →
    ∃ Q2, zCv d 66 [.inr (.inr 4), .inl x1, .inl v1] M1 Q2 ∧ ∀ M2, Q2 M2 →
    zR32 (x1 + 1) ∧ zBg (d + 1) 97 18 [zR 0, zI (x1 + 1), none] [] M2 Q)) : zBg (d + 1) 97 18 [zR 0, zI x1, none] [] M Q :=
  zvc_ok (I := zm97) (cuts := [(18, [true, true, false]), (58, [true, true, true])]) (n := 50) rfl h
set_option maxRecDepth 20000 in
theorem zv97_58 {d : Nat} {M : zMem} {Q : Option zV → zMem → Prop} (x1 : Int) (x2 : Int) (h :
  ((x2 : Int) ≥ (M 4 9) →
    Q (zI x1) M) ∧
  (¬ (x2 : Int) ≥ (M 4 9) →
    ∃ Q1, zCi d 63 [.inr (.inr 4), .inl x2] M Q1 ∧ ∀ v1 M1, Q1 v1 M1 →
    zR32 (x1 + v1) ∧ zR32 (x2 + 1) ∧ zBg (d + 1) 97 58 [zR 0, zI (x1 + v1), zI (x2 + 1)] [] M1 Q)) : zBg (d + 1) 97 58 [zR 0, zI x1, zI x2] [] M Q :=
  zvc_ok (I := zm97) (cuts := [(18, [true, true, false]), (58, [true, true, true])]) (n := 50) rfl h
theorem zk97 {d : Nat} {M : zMem} {Q : Option zV → zMem → Prop} (h : zBg d 97 0 [zR 0, none, none] [] M Q) : zCt d 97 [.inr (.inr 0)] M Q := zCt_of (I := zm97) rfl rfl h
/-! CommaCopies.hidden(II)I , as 98 -/
set_option maxRecDepth 20000 in
theorem zv98_0 {d : Nat} {M : zMem} {Q : Option zV → zMem → Prop} (x1 : Int) (x2 : Int) (h :
  ∃ Q1, zCi d 57 [.inr (.inr 4), .inl x1] M Q1 ∧ ∀ v1 M1, Q1 v1 M1 →
  ((v1 : Int) = 0 →
    Q (zI (-1)) M1) ∧
  (¬ (v1 : Int) = 0 →
    ((x2 : Int) = (-1) →
      ∃ Q2, zCr d 107 [.inr (.inr 0)] M1 Q2 ∧ ∀ M2, Q2 M2 →
      ∃ Q3, zCv d 5 [.inr (.inr 51), .inr (.inr 42), .inl x1, .inl (M2 13 6)] M2 Q3 ∧ ∀ M3, Q3 M3 →
      ((x2 : Int) ≠ (-1) →
        (0 : Int) ≤ x2 ∧ (x2 : Int) < 6 ∧ Q (zI (M3 54 x2.toNat)) M3) ∧
      (¬ (x2 : Int) ≠ (-1) →
        Q (zI (M3 51 3)) M3)) ∧
    (¬ (x2 : Int) = (-1) →
      ∃ Q4, zCi d 34 [.inr (.inr 13), .inl x2] M1 Q4 ∧ ∀ v4 M4, Q4 v4 M4 →
      ((v4 : Int) ≠ 0 →
        ∃ Q5, zCr d 107 [.inr (.inr 0)] M4 Q5 ∧ ∀ M5, Q5 M5 →
        ∃ Q6, zCv d 5 [.inr (.inr 51), .inr (.inr 42), .inl x1, .inl (M5 13 6)] M5 Q6 ∧ ∀ M6, Q6 M6 →
        ((x2 : Int) ≠ (-1) →
          (0 : Int) ≤ x2 ∧ (x2 : Int) < 6 ∧ Q (zI (M6 54 x2.toNat)) M6) ∧
        (¬ (x2 : Int) ≠ (-1) →
          Q (zI (M6 51 3)) M6)) ∧
      (¬ (v4 : Int) ≠ 0 →
        Q (zI (-1)) M4)))) : zBg (d + 1) 98 0 [zR 0, zI x1, zI x2] [] M Q :=
  zvc_ok (I := zm98) (cuts := []) (n := 44) rfl h
theorem zk98 {d : Nat} {M : zMem} {Q : Option zV → zMem → Prop} {x1 : Int} {x2 : Int} (h : zBg d 98 0 [zR 0, zI x1, zI x2] [] M Q) : zCt d 98 [.inr (.inr 0), .inl x1, .inl x2] M Q := zCt_of (I := zm98) rfl rfl h
/-! CommaCopies.keep()I , as 99 -/
set_option maxRecDepth 20000 in
theorem zv99_0 {d : Nat} {M : zMem} {Q : Option zV → zMem → Prop} (h :
  ((M 13 4 : Int) = 0 →
    Q (zI (-2)) M) ∧
  (¬ (M 13 4 : Int) = 0 →
    ∃ Q1, zCi d 59 [.inr (.inr 4)] M Q1 ∧ ∀ v1 M1, Q1 v1 M1 →
    Q (zI v1) M1)) : zBg (d + 1) 99 0 [zR 0] [] M Q :=
  zvc_ok (I := zm99) (cuts := []) (n := 16) rfl h
theorem zk99 {d : Nat} {M : zMem} {Q : Option zV → zMem → Prop} (h : zBg d 99 0 [zR 0] [] M Q) : zCt d 99 [.inr (.inr 0)] M Q := zCt_of (I := zm99) rfl rfl h
/-! CommaCopies.past(II)I , as 100 -/
set_option maxRecDepth 20000 in
theorem zv100_0 {d : Nat} {M : zMem} {Q : Option zV → zMem → Prop} (x1 : Int) (x2 : Int) (h :
  ∃ Q1, zCi d 56 [.inr (.inr 4), .inl x1] M Q1 ∧ ∀ v1 M1, Q1 v1 M1 →
  ((v1 : Int) = 0 →
    Q (zI (-1)) M1) ∧
  (¬ (v1 : Int) = 0 →
    ((x2 : Int) = 0 →
      zBg (d + 1) 100 27 [zR 0, zI x1, zI x2, zI 0, zI 0, none] [] M1 Q) ∧
    (¬ (x2 : Int) = 0 →
      ((x2 : Int) = 1 →
        zBg (d + 1) 100 27 [zR 0, zI x1, zI x2, zI 0, zI 0, none] [] M1 Q) ∧
      (¬ (x2 : Int) = 1 →
        Q (zI (-1)) M1)))) : zBg (d + 1) 100 0 [zR 0, zI x1, zI x2, none, none, none] [] M Q :=
  zvc_ok (I := zm100) (cuts := [(27, [true, true, true, true, true, false])]) (n := 78) rfl h
set_option maxRecDepth 20000 in
theorem zv100_27 {d : Nat} {M : zMem} {Q : Option zV → zMem → Prop} (x1 : Int) (x2 : Int) (x3 : Int) (x4 : Int) (h :
  ((x4 : Int) ≥ (M 4 10) →
    Q (zI x3) M) ∧
  (¬ (x4 : Int) ≥ (M 4 10) →
    (0 : Int) ≤ x4 ∧ (x4 : Int) < 6 ∧ (0 : Int) ≤ x4 ∧ (x4 : Int) < 6 ∧ ∃ Q1, zCv d 9 [.inr (.inr 42), .inr (.inr 4), .inl (M 10 x4.toNat), .inl (M 11 x4.toNat)] M Q1 ∧ ∀ M1, Q1 M1 →
    ∃ Q2, zCv d 10 [.inr (.inr 42)] M1 Q2 ∧ ∀ M2, Q2 M2 →
    zR32 (x4 * 6) ∧ ∃ Q3, zCi d 60 [.inr (.inr 4), .inr (.inr 9), .inl (x4 * 6)] M2 Q3 ∧ ∀ v3 M3, Q3 v3 M3 →
    ∃ Q4, zCv d 15 [.inr (.inr 42), .inl v3] M3 Q4 ∧ ∀ M4, Q4 M4 →
    ((x2 : Int) ≠ 0 →
      zR32 (x3 + (ziand (zishr (M4 42 12) x1) 1)) ∧ zR32 (x4 + 1) ∧ zBg (d + 1) 100 27 [zR 0, zI x1, zI x2, zI (x3 + (ziand (zishr (M4 42 12) x1) 1)), zI (x4 + 1), none] [] M4 Q) ∧
    (¬ (x2 : Int) ≠ 0 →
      zR32 (x3 + (ziand (zishr (M4 42 11) x1) 1)) ∧ zR32 (x4 + 1) ∧ zBg (d + 1) 100 27 [zR 0, zI x1, zI x2, zI (x3 + (ziand (zishr (M4 42 11) x1) 1)), zI (x4 + 1), none] [] M4 Q))) : zBg (d + 1) 100 27 [zR 0, zI x1, zI x2, zI x3, zI x4, none] [] M Q :=
  zvc_ok (I := zm100) (cuts := [(27, [true, true, true, true, true, false])]) (n := 78) rfl h
theorem zk100 {d : Nat} {M : zMem} {Q : Option zV → zMem → Prop} {x1 : Int} {x2 : Int} (h : zBg d 100 0 [zR 0, zI x1, zI x2, none, none, none] [] M Q) : zCt d 100 [.inr (.inr 0), .inl x1, .inl x2] M Q := zCt_of (I := zm100) rfl rfl h
/-! CommaCopies.image()I , as 101 -/
set_option maxRecDepth 20000 in
theorem zv101_0 {d : Nat} {M : zMem} {Q : Option zV → zMem → Prop} (h :
  ∃ Q1, zCv d 55 [.inr (.inr 18), .inr (.inr 4)] M Q1 ∧ ∀ M1, Q1 M1 →
  ((1 : Int) = 0 ∨ (1 : Int) = 1) ∧ Q (zI 1) (zup M1 0 10 1)) : zBg (d + 1) 101 0 [zR 0] [] M Q :=
  zvc_ok (I := zm101) (cuts := []) (n := 15) rfl h
theorem zk101 {d : Nat} {M : zMem} {Q : Option zV → zMem → Prop} (h : zBg d 101 0 [zR 0] [] M Q) : zCt d 101 [.inr (.inr 0)] M Q := zCt_of (I := zm101) rfl rfl h
/-! CommaCopies.restore()I , as 102 -/
set_option maxRecDepth 20000 in
theorem zv102_0 {d : Nat} {M : zMem} {Q : Option zV → zMem → Prop} (h :
  ((M 0 10 : Int) ≠ 0 →
    ∃ Q1, zCv d 55 [.inr (.inr 4), .inr (.inr 18)] M Q1 ∧ ∀ M1, Q1 M1 →
    Q (zI 1) M1) ∧
  (¬ (M 0 10 : Int) ≠ 0 →
    Q (zI (-4)) M)) : zBg (d + 1) 102 0 [zR 0] [] M Q :=
  zvc_ok (I := zm102) (cuts := []) (n := 17) rfl h
theorem zk102 {d : Nat} {M : zMem} {Q : Option zV → zMem → Prop} (h : zBg d 102 0 [zR 0] [] M Q) : zCt d 102 [.inr (.inr 0)] M Q := zCt_of (I := zm102) rfl rfl h
/-! CommaCopies.sheet(III)I , as 103 -/
set_option maxRecDepth 20000 in
theorem zv103_0 {d : Nat} {M : zMem} {Q : Option zV → zMem → Prop} (x1 : Int) (x2 : Int) (x3 : Int) (h :
  ∃ Q1, zCi d 48 [.inr (.inr 32), .inl x1, .inl x2, .inl x3] M Q1 ∧ ∀ v1 M1, Q1 v1 M1 →
  Q (zI v1) M1) : zBg (d + 1) 103 0 [zR 0, zI x1, zI x2, zI x3] [] M Q :=
  zvc_ok (I := zm103) (cuts := []) (n := 12) rfl h
theorem zk103 {d : Nat} {M : zMem} {Q : Option zV → zMem → Prop} {x1 : Int} {x2 : Int} {x3 : Int} (h : zBg d 103 0 [zR 0, zI x1, zI x2, zI x3] [] M Q) : zCt d 103 [.inr (.inr 0), .inl x1, .inl x2, .inl x3] M Q := zCt_of (I := zm103) rfl rfl h
/-! CommaCopies.drop(I)I , as 104 -/
set_option maxRecDepth 20000 in
theorem zv104_0 {d : Nat} {M : zMem} {Q : Option zV → zMem → Prop} (x1 : Int) (h :
  ∃ Q1, zCi d 49 [.inr (.inr 32), .inl x1] M Q1 ∧ ∀ v1 M1, Q1 v1 M1 →
  Q (zI v1) M1) : zBg (d + 1) 104 0 [zR 0, zI x1] [] M Q :=
  zvc_ok (I := zm104) (cuts := []) (n := 10) rfl h
theorem zk104 {d : Nat} {M : zMem} {Q : Option zV → zMem → Prop} {x1 : Int} (h : zBg d 104 0 [zR 0, zI x1] [] M Q) : zCt d 104 [.inr (.inr 0), .inl x1] M Q := zCt_of (I := zm104) rfl rfl h
/-! CommaCopies.item(IIII)I , as 105 -/
set_option maxRecDepth 20000 in
theorem zv105_0 {d : Nat} {M : zMem} {Q : Option zV → zMem → Prop} (x1 : Int) (x2 : Int) (x3 : Int) (x4 : Int) (h :
  ∃ Q1, zCi d 50 [.inr (.inr 32), .inl x1, .inl x2, .inl x3, .inl 1] M Q1 ∧ ∀ v1 M1, Q1 v1 M1 →
  ((v1 : Int) ≥ 0 →
    zR32 (x1 * 12) ∧ zR32 ((x1 * 12) + x3) ∧ ∃ Q2, zCi d 52 [.inl x2, .inl x4] M1 Q2 ∧ ∀ v2 M2, Q2 v2 M2 →
    (0 : Int) ≤ ((x1 * 12) + x3) ∧ ((x1 * 12) + x3 : Int) < 48 ∧ Q (zI 1) (zup M2 35 (((x1 * 12) + x3).toNat) v2)) ∧
  (¬ (v1 : Int) ≥ 0 →
    Q (zI v1) M1)) : zBg (d + 1) 105 0 [zR 0, zI x1, zI x2, zI x3, zI x4, none] [] M Q :=
  zvc_ok (I := zm105) (cuts := []) (n := 31) rfl h
theorem zk105 {d : Nat} {M : zMem} {Q : Option zV → zMem → Prop} {x1 : Int} {x2 : Int} {x3 : Int} {x4 : Int} (h : zBg d 105 0 [zR 0, zI x1, zI x2, zI x3, zI x4, none] [] M Q) : zCt d 105 [.inr (.inr 0), .inl x1, .inl x2, .inl x3, .inl x4] M Q := zCt_of (I := zm105) rfl rfl h
/-! CommaCopies.copy(IIIII)I , as 106 -/
set_option maxRecDepth 20000 in
theorem zv106_0 {d : Nat} {M : zMem} {Q : Option zV → zMem → Prop} (x1 : Int) (x2 : Int) (x3 : Int) (x4 : Int) (x5 : Int) (h :
  ∃ Q1, zCi d 53 [.inr (.inr 32), .inl x1, .inl x2, .inl x3, .inl x4, .inl x5] M Q1 ∧ ∀ v1 M1, Q1 v1 M1 →
  Q (zI v1) M1) : zBg (d + 1) 106 0 [zR 0, zI x1, zI x2, zI x3, zI x4, zI x5] [] M Q :=
  zvc_ok (I := zm106) (cuts := []) (n := 14) rfl h
theorem zk106 {d : Nat} {M : zMem} {Q : Option zV → zMem → Prop} {x1 : Int} {x2 : Int} {x3 : Int} {x4 : Int} {x5 : Int} (h : zBg d 106 0 [zR 0, zI x1, zI x2, zI x3, zI x4, zI x5] [] M Q) : zCt d 106 [.inr (.inr 0), .inl x1, .inl x2, .inl x3, .inl x4, .inl x5] M Q := zCt_of (I := zm106) rfl rfl h
/-! CommaCopies.lookNow()LCommaCopies$Joins; , as 107 -/
set_option maxRecDepth 20000 in
theorem zv107_0 {d : Nat} {M : zMem} {Q : Option zV → zMem → Prop} (h :
  ∃ Q1, zCv d 9 [.inr (.inr 42), .inr (.inr 4), .inl (M 4 11), .inl (M 4 12)] M Q1 ∧ ∀ M1, Q1 M1 →
  Q (zR 42) M1) : zBg (d + 1) 107 0 [zR 0] [] M Q :=
  zvc_ok (I := zm107) (cuts := []) (n := 19) rfl h
theorem zk107 {d : Nat} {M : zMem} {Q : Option zV → zMem → Prop} (h : zBg d 107 0 [zR 0] [] M Q) : zCt d 107 [.inr (.inr 0)] M Q := zCt_of (I := zm107) rfl rfl h
/-! CommaCopies.tryPrint()LCommaCopies$Joins; , as 108 -/
set_option maxRecDepth 20000 in
theorem zv108_0 {d : Nat} {M : zMem} {Q : Option zV → zMem → Prop} (h :
  ∃ Q1, zCr d 107 [.inr (.inr 0)] M Q1 ∧ ∀ M1, Q1 M1 →
  ∃ Q2, zCv d 10 [.inr (.inr 42)] M1 Q2 ∧ ∀ M2, Q2 M2 →
  ∃ Q3, zCi d 60 [.inr (.inr 4), .inr (.inr 8), .inl 0] M2 Q3 ∧ ∀ v3 M3, Q3 v3 M3 →
  ∃ Q4, zCv d 15 [.inr (.inr 42), .inl v3] M3 Q4 ∧ ∀ M4, Q4 M4 →
  Q (zR 42) M4) : zBg (d + 1) 108 0 [zR 0] [] M Q :=
  zvc_ok (I := zm108) (cuts := []) (n := 21) rfl h
theorem zk108 {d : Nat} {M : zMem} {Q : Option zV → zMem → Prop} (h : zBg d 108 0 [zR 0] [] M Q) : zCt d 108 [.inr (.inr 0)] M Q := zCt_of (I := zm108) rfl rfl h
/-! CommaCopies.breaks(I)Z , as 109 -/
set_option maxRecDepth 20000 in
theorem zv109_0 {d : Nat} {M : zMem} {Q : Option zV → zMem → Prop} (x1 : Int) (h :
  ∃ Q1, zCr d 107 [.inr (.inr 0)] M Q1 ∧ ∀ M1, Q1 M1 →
  ∃ Q2, zCv d 10 [.inr (.inr 42)] M1 Q2 ∧ ∀ M2, Q2 M2 →
  ((x1 : Int) ≠ 2 →
    ∃ Q3, zCi d 36 [.inr (.inr 13)] M2 Q3 ∧ ∀ v3 M3, Q3 v3 M3 →
    ∃ Q4, zCi d 16 [.inr (.inr 36), .inl x1, .inl v3] M3 Q4 ∧ ∀ v4 M4, Q4 v4 M4 →
    ((v4 : Int) = 0 ∨ (v4 : Int) = 1) ∧ Q (zI v4) M4) ∧
  (¬ (x1 : Int) ≠ 2 →
    ∃ Q5, zCv d 24 [.inr (.inr 36)] M2 Q5 ∧ ∀ M5, Q5 M5 →
    ∃ Q6, zCi d 36 [.inr (.inr 13)] M5 Q6 ∧ ∀ v6 M6, Q6 v6 M6 →
    ∃ Q7, zCi d 16 [.inr (.inr 36), .inl x1, .inl v6] M6 Q7 ∧ ∀ v7 M7, Q7 v7 M7 →
    ((v7 : Int) = 0 ∨ (v7 : Int) = 1) ∧ Q (zI v7) M7)) : zBg (d + 1) 109 0 [zR 0, zI x1] [] M Q :=
  zvc_ok (I := zm109) (cuts := []) (n := 23) rfl h
theorem zk109 {d : Nat} {M : zMem} {Q : Option zV → zMem → Prop} {x1 : Int} (h : zBg d 109 0 [zR 0, zI x1] [] M Q) : zCt d 109 [.inr (.inr 0), .inl x1] M Q := zCt_of (I := zm109) rfl rfl h
/-! CommaCopiesModel.in(JJJ)Z , as 110 -/
set_option maxRecDepth 20000 in
theorem zv110_0 {d : Nat} {M : zMem} {Q : Option zV → zMem → Prop} (x0 : Int) (x2 : Int) (x4 : Int) (h :
  ((zlcmp x0 x2 : Int) < 0 →
    ((0 : Int) = 0 ∨ (0 : Int) = 1) ∧ Q (zI 0) M) ∧
  (¬ (zlcmp x0 x2 : Int) < 0 →
    ((zlcmp x0 x4 : Int) > 0 →
      ((0 : Int) = 0 ∨ (0 : Int) = 1) ∧ Q (zI 0) M) ∧
    (¬ (zlcmp x0 x4 : Int) > 0 →
      ((1 : Int) = 0 ∨ (1 : Int) = 1) ∧ Q (zI 1) M))) : zBg d 110 0 [zL x0, none, zL x2, none, zL x4, none] [] M Q :=
  zvc_ok (I := zm110) (cuts := []) (n := 17) rfl h
theorem zk110 {d : Nat} {M : zMem} {Q : Option zV → zMem → Prop} {x0 : Int} {x2 : Int} {x4 : Int} (h : zBg d 110 0 [zL x0, none, zL x2, none, zL x4, none] [] M Q) : zCt d 110 [.inr (.inl x0), .inr (.inl x2), .inr (.inl x4)] M Q := zCt_of (I := zm110) rfl rfl h
/-! CommaCopiesModel.type(JI)I , as 111 -/
set_option maxRecDepth 20000 in
theorem zv111_0 {d : Nat} {M : zMem} {Q : Option zV → zMem → Prop} (x1 : Int) (x3 : Int) (h :
  ∃ Q1, zCi d 110 [.inr (.inl x3), .inr (.inl 1), .inr (.inl 8)] M Q1 ∧ ∀ v1 M1, Q1 v1 M1 →
  ((v1 : Int) ≠ 0 →
    zBg (d + 1) 111 17 [zR 55, zL x1, none, zI x3, zI 0] [] M1 Q) ∧
  (¬ (v1 : Int) ≠ 0 →
    Q (zI (-1)) M1)) : zBg (d + 1) 111 0 [zR 55, zL x1, none, zI x3, none] [] M Q :=
  zvc_ok (I := zm111) (cuts := [(17, [true, true, false, true, true]), (73, [true, true, false, false, true])]) (n := 71) rfl h
set_option maxRecDepth 20000 in
theorem zv111_17 {d : Nat} {M : zMem} {Q : Option zV → zMem → Prop} (x1 : Int) (x3 : Int) (x4 : Int) (h :
  ((x4 : Int) ≥ x3 →
    zR32 ((M 55 1) + x3) ∧ (((M 55 1) + x3 : Int) ≤ 120 →
      zR32 (x3 - 1) ∧ zBg (d + 1) 111 73 [zR 55, zL x1, none, none, zI (x3 - 1)] [] M Q) ∧
    (¬ ((M 55 1) + x3 : Int) ≤ 120 →
      Q (zI (-3)) M)) ∧
  (¬ (x4 : Int) ≥ x3 →
    zR32 (8 * x4) ∧ ∃ Q1, zCi d 110 [.inr (.inl (zland (zlshr x1 (8 * x4)) 255)), .inr (.inl 32), .inr (.inl 126)] M Q1 ∧ ∀ v1 M1, Q1 v1 M1 →
    ((v1 : Int) ≠ 0 →
      zR32 (x4 + 1) ∧ zBg (d + 1) 111 17 [zR 55, zL x1, none, zI x3, zI (x4 + 1)] [] M1 Q) ∧
    (¬ (v1 : Int) ≠ 0 →
      Q (zI (-1)) M1))) : zBg (d + 1) 111 17 [zR 55, zL x1, none, zI x3, zI x4] [] M Q :=
  zvc_ok (I := zm111) (cuts := [(17, [true, true, false, true, true]), (73, [true, true, false, false, true])]) (n := 71) rfl h
set_option maxRecDepth 20000 in
theorem zv111_73 {d : Nat} {M : zMem} {Q : Option zV → zMem → Prop} (x1 : Int) (x4 : Int) (h :
  ((x4 : Int) < 0 →
    Q (zI (M 55 1)) M) ∧
  (¬ (x4 : Int) < 0 →
    zR32 (8 * x4) ∧ (0 : Int) ≤ (M 55 1) ∧ (M 55 1 : Int) < 120 ∧ zR32 ((M 55 1) + 1) ∧ zR32 (x4 + (-1)) ∧ zBg d 111 73 [zR 55, zL x1, none, none, zI (x4 + (-1))] [] (zup (zup M 56 ((M 55 1).toNat) (zl2i (zland (zlshr x1 (8 * x4)) 255))) 55 1 ((M 55 1) + 1)) Q)) : zBg d 111 73 [zR 55, zL x1, none, none, zI x4] [] M Q :=
  zvc_ok (I := zm111) (cuts := [(17, [true, true, false, true, true]), (73, [true, true, false, false, true])]) (n := 71) rfl h
theorem zk111 {d : Nat} {M : zMem} {Q : Option zV → zMem → Prop} {x1 : Int} {x3 : Int} (h : zBg d 111 0 [zR 55, zL x1, none, zI x3, none] [] M Q) : zCt d 111 [.inr (.inr 55), .inr (.inl x1), .inl x3] M Q := zCt_of (I := zm111) rfl rfl h
/-! CommaCopiesModel.fault()I , as 112 -/
set_option maxRecDepth 20000 in
theorem zv112_0 {d : Nat} {M : zMem} {Q : Option zV → zMem → Prop} (h :
  zBg d 112 12 [zR 55, zI 0, zI 0, zI 0, zI 0, zI 0, none, none] [] M Q) : zBg d 112 0 [zR 55, none, none, none, none, none, none, none] [] M Q :=
  zvc_ok (I := zm112) (cuts := [(12, [true, true, true, true, true, true, false, false])]) (n := 101) rfl h
set_option maxRecDepth 20000 in
theorem zv112_12 {d : Nat} {M : zMem} {Q : Option zV → zMem → Prop} (x1 : Int) (x2 : Int) (x3 : Int) (x4 : Int) (x5 : Int) (h :
  ((x5 : Int) ≥ (M 55 1) →
    ((x4 : Int) ≠ 0 →
      Q (zI (M 55 1)) M) ∧
    (¬ (x4 : Int) ≠ 0 →
      ((M 55 1 : Int) ≠ 0 →
        Q (zI (-4)) M) ∧
      (¬ (M 55 1 : Int) ≠ 0 →
        Q (zI (M 55 1)) M))) ∧
  (¬ (x5 : Int) ≥ (M 55 1) →
    (0 : Int) ≤ x5 ∧ (x5 : Int) < 120 ∧ ((M 56 x5.toNat : Int) ≠ 91 →
      ((M 56 x5.toNat : Int) ≠ 47 →
        ((M 56 x5.toNat : Int) ≠ 93 →
          ((x4 : Int) = 0 →
            zR32 (x3 + 1) ∧ ((0 : Int) = 0 →
              zR32 (x5 + 1) ∧ zBg d 112 12 [zR 55, zI x1, zI x2, zI (x3 + 1), zI x4, zI (x5 + 1), none, none] [] M Q) ∧
            (¬ (0 : Int) = 0 →
              Q (zI x5) M)) ∧
          (¬ (x4 : Int) = 0 →
            ((x3 : Int) ≠ 8 →
              zR32 (x3 + 1) ∧ ((0 : Int) = 0 →
                zR32 (x5 + 1) ∧ zBg d 112 12 [zR 55, zI x1, zI x2, zI (x3 + 1), zI x4, zI (x5 + 1), none, none] [] M Q) ∧
              (¬ (0 : Int) = 0 →
                Q (zI x5) M)) ∧
            (¬ (x3 : Int) ≠ 8 →
              zR32 (x3 + 1) ∧ ((1 : Int) = 0 →
                zR32 (x5 + 1) ∧ zBg d 112 12 [zR 55, zI x1, zI x2, zI (x3 + 1), zI x4, zI (x5 + 1), none, none] [] M Q) ∧
              (¬ (1 : Int) = 0 →
                Q (zI x5) M)))) ∧
        (¬ (M 56 x5.toNat : Int) ≠ 93 →
          ((x4 : Int) = 0 →
            ((1 : Int) = 0 →
              zR32 (x5 + 1) ∧ zBg d 112 12 [zR 55, zI x1, zI x2, zI x3, zI 0, zI (x5 + 1), none, none] [] M Q) ∧
            (¬ (1 : Int) = 0 →
              Q (zI x5) M)) ∧
          (¬ (x4 : Int) = 0 →
            ((x2 : Int) ≥ 2 →
              ((0 : Int) = 0 →
                zR32 (x5 + 1) ∧ zBg d 112 12 [zR 55, zI x1, zI x2, zI x3, zI 0, zI (x5 + 1), none, none] [] M Q) ∧
              (¬ (0 : Int) = 0 →
                Q (zI x5) M)) ∧
            (¬ (x2 : Int) ≥ 2 →
              ((1 : Int) = 0 →
                zR32 (x5 + 1) ∧ zBg d 112 12 [zR 55, zI x1, zI x2, zI x3, zI 0, zI (x5 + 1), none, none] [] M Q) ∧
              (¬ (1 : Int) = 0 →
                Q (zI x5) M))))) ∧
      (¬ (M 56 x5.toNat : Int) ≠ 47 →
        ((x4 : Int) = 0 →
          zR32 (x2 + 1) ∧ ((1 : Int) = 0 →
            zR32 (x5 + 1) ∧ zBg d 112 12 [zR 55, zI x1, zI (x2 + 1), zI 0, zI x4, zI (x5 + 1), none, none] [] M Q) ∧
          (¬ (1 : Int) = 0 →
            Q (zI x5) M)) ∧
        (¬ (x4 : Int) = 0 →
          ((x2 : Int) ≠ 4 →
            zR32 (x2 + 1) ∧ ((0 : Int) = 0 →
              zR32 (x5 + 1) ∧ zBg d 112 12 [zR 55, zI x1, zI (x2 + 1), zI 0, zI x4, zI (x5 + 1), none, none] [] M Q) ∧
            (¬ (0 : Int) = 0 →
              Q (zI x5) M)) ∧
          (¬ (x2 : Int) ≠ 4 →
            zR32 (x2 + 1) ∧ ((1 : Int) = 0 →
              zR32 (x5 + 1) ∧ zBg d 112 12 [zR 55, zI x1, zI (x2 + 1), zI 0, zI x4, zI (x5 + 1), none, none] [] M Q) ∧
            (¬ (1 : Int) = 0 →
              Q (zI x5) M))))) ∧
    (¬ (M 56 x5.toNat : Int) ≠ 91 →
      ((x4 : Int) ≠ 0 →
        zR32 (x1 + 1) ∧ ((1 : Int) = 0 →
          zR32 (x5 + 1) ∧ zBg d 112 12 [zR 55, zI (x1 + 1), zI 1, zI 0, zI 1, zI (x5 + 1), none, none] [] M Q) ∧
        (¬ (1 : Int) = 0 →
          Q (zI x5) M)) ∧
      (¬ (x4 : Int) ≠ 0 →
        ((x1 : Int) ≠ 6 →
          zR32 (x1 + 1) ∧ ((0 : Int) = 0 →
            zR32 (x5 + 1) ∧ zBg d 112 12 [zR 55, zI (x1 + 1), zI 1, zI 0, zI 1, zI (x5 + 1), none, none] [] M Q) ∧
          (¬ (0 : Int) = 0 →
            Q (zI x5) M)) ∧
        (¬ (x1 : Int) ≠ 6 →
          zR32 (x1 + 1) ∧ ((1 : Int) = 0 →
            zR32 (x5 + 1) ∧ zBg d 112 12 [zR 55, zI (x1 + 1), zI 1, zI 0, zI 1, zI (x5 + 1), none, none] [] M Q) ∧
          (¬ (1 : Int) = 0 →
            Q (zI x5) M)))))) : zBg d 112 12 [zR 55, zI x1, zI x2, zI x3, zI x4, zI x5, none, none] [] M Q :=
  zvc_ok (I := zm112) (cuts := [(12, [true, true, true, true, true, true, false, false])]) (n := 101) rfl h
theorem zk112 {d : Nat} {M : zMem} {Q : Option zV → zMem → Prop} (h : zBg d 112 0 [zR 55, none, none, none, none, none, none, none] [] M Q) : zCt d 112 [.inr (.inr 55)] M Q := zCt_of (I := zm112) rfl rfl h
/-! CommaCopiesModel.lays()V , as 113 -/
set_option maxRecDepth 20000 in
theorem zv113_0 {d : Nat} {M : zMem} {Q : Option zV → zMem → Prop} (h :
  zBg d 113 15 [zR 55, zI 0, none] [] (zup (zup M 55 2 (M 55 1)) 55 4 0) Q) : zBg d 113 0 [zR 55, none, none] [] M Q :=
  zvc_ok (I := zm113) (cuts := [(15, [true, true, false])]) (n := 122) rfl h
set_option maxRecDepth 20000 in
theorem zv113_15 {d : Nat} {M : zMem} {Q : Option zV → zMem → Prop} (x1 : Int) (h :
  ((x1 : Int) ≥ (M 55 1) →
    Q none M) ∧
  (¬ (x1 : Int) ≥ (M 55 1) →
    (0 : Int) ≤ x1 ∧ (x1 : Int) < 120 ∧ (0 : Int) ≤ x1 ∧ (x1 : Int) < 120 ∧ (0 : Int) ≤ x1 ∧ (x1 : Int) < 120 ∧ ((M 56 x1.toNat : Int) ≠ 91 →
      (0 : Int) ≤ x1 ∧ (x1 : Int) < 120 ∧ ((M 56 x1.toNat : Int) = 47 →
        zR32 (4 * (M 55 4)) ∧ (0 : Int) ≤ (M 55 4) ∧ (M 55 4 : Int) < 6 ∧ zR32 ((4 * (M 55 4)) + (M 60 ((M 55 4).toNat))) ∧ zR32 (((4 * (M 55 4)) + (M 60 ((M 55 4).toNat))) - 1) ∧ (0 : Int) ≤ (((4 * (M 55 4)) + (M 60 ((M 55 4).toNat))) - 1) ∧ (((4 * (M 55 4)) + (M 60 ((M 55 4).toNat))) - 1 : Int) < 24 ∧ (0 : Int) ≤ x1 ∧ (x1 : Int) < 120 ∧ ((M 56 x1.toNat : Int) ≠ 47 →
          (0 : Int) ≤ (M 55 4) ∧ (M 55 4 : Int) < 6 ∧ zR32 ((M 55 4) + 1) ∧ zR32 (x1 + 1) ∧ zBg d 113 15 [zR 55, zI (x1 + 1), none] [] (zup (zup (zup (zup M 57 x1.toNat (M 56 x1.toNat)) 62 ((((4 * (M 55 4)) + (M 60 ((M 55 4).toNat))) - 1).toNat) x1) 59 ((M 55 4).toNat) x1) 55 4 ((M 55 4) + 1)) Q) ∧
        (¬ (M 56 x1.toNat : Int) ≠ 47 →
          zR32 (x1 + 1) ∧ (0 : Int) ≤ ((4 * (M 55 4)) + (M 60 ((M 55 4).toNat))) ∧ ((4 * (M 55 4)) + (M 60 ((M 55 4).toNat)) : Int) < 24 ∧ (0 : Int) ≤ (M 55 4) ∧ (M 55 4 : Int) < 6 ∧ zR32 ((M 60 ((M 55 4).toNat)) + 1) ∧ (0 : Int) ≤ (M 55 4) ∧ (M 55 4 : Int) < 6 ∧ zR32 (x1 + 1) ∧ zBg d 113 15 [zR 55, zI (x1 + 1), none] [] (zup (zup (zup (zup M 57 x1.toNat (M 56 x1.toNat)) 62 ((((4 * (M 55 4)) + (M 60 ((M 55 4).toNat))) - 1).toNat) x1) 61 (((4 * (M 55 4)) + (M 60 ((M 55 4).toNat))).toNat) (x1 + 1)) 60 ((M 55 4).toNat) ((M 60 ((M 55 4).toNat)) + 1)) Q)) ∧
      (¬ (M 56 x1.toNat : Int) = 47 →
        (0 : Int) ≤ x1 ∧ (x1 : Int) < 120 ∧ ((M 56 x1.toNat : Int) ≠ 93 →
          zR32 (x1 + 1) ∧ zBg d 113 15 [zR 55, zI (x1 + 1), none] [] (zup M 57 x1.toNat (M 56 x1.toNat)) Q) ∧
        (¬ (M 56 x1.toNat : Int) ≠ 93 →
          zR32 (4 * (M 55 4)) ∧ (0 : Int) ≤ (M 55 4) ∧ (M 55 4 : Int) < 6 ∧ zR32 ((4 * (M 55 4)) + (M 60 ((M 55 4).toNat))) ∧ zR32 (((4 * (M 55 4)) + (M 60 ((M 55 4).toNat))) - 1) ∧ (0 : Int) ≤ (((4 * (M 55 4)) + (M 60 ((M 55 4).toNat))) - 1) ∧ (((4 * (M 55 4)) + (M 60 ((M 55 4).toNat))) - 1 : Int) < 24 ∧ (0 : Int) ≤ x1 ∧ (x1 : Int) < 120 ∧ ((M 56 x1.toNat : Int) ≠ 47 →
            (0 : Int) ≤ (M 55 4) ∧ (M 55 4 : Int) < 6 ∧ zR32 ((M 55 4) + 1) ∧ zR32 (x1 + 1) ∧ zBg d 113 15 [zR 55, zI (x1 + 1), none] [] (zup (zup (zup (zup M 57 x1.toNat (M 56 x1.toNat)) 62 ((((4 * (M 55 4)) + (M 60 ((M 55 4).toNat))) - 1).toNat) x1) 59 ((M 55 4).toNat) x1) 55 4 ((M 55 4) + 1)) Q) ∧
          (¬ (M 56 x1.toNat : Int) ≠ 47 →
            zR32 (x1 + 1) ∧ (0 : Int) ≤ ((4 * (M 55 4)) + (M 60 ((M 55 4).toNat))) ∧ ((4 * (M 55 4)) + (M 60 ((M 55 4).toNat)) : Int) < 24 ∧ (0 : Int) ≤ (M 55 4) ∧ (M 55 4 : Int) < 6 ∧ zR32 ((M 60 ((M 55 4).toNat)) + 1) ∧ (0 : Int) ≤ (M 55 4) ∧ (M 55 4 : Int) < 6 ∧ zR32 (x1 + 1) ∧ zBg d 113 15 [zR 55, zI (x1 + 1), none] [] (zup (zup (zup (zup M 57 x1.toNat (M 56 x1.toNat)) 62 ((((4 * (M 55 4)) + (M 60 ((M 55 4).toNat))) - 1).toNat) x1) 61 (((4 * (M 55 4)) + (M 60 ((M 55 4).toNat))).toNat) (x1 + 1)) 60 ((M 55 4).toNat) ((M 60 ((M 55 4).toNat)) + 1)) Q)))) ∧
    (¬ (M 56 x1.toNat : Int) ≠ 91 →
      (0 : Int) ≤ (M 55 4) ∧ (M 55 4 : Int) < 6 ∧ (0 : Int) ≤ (M 55 4) ∧ (M 55 4 : Int) < 6 ∧ zR32 (4 * (M 55 4)) ∧ zR32 (x1 + 1) ∧ (0 : Int) ≤ (4 * (M 55 4)) ∧ (4 * (M 55 4) : Int) < 24 ∧ (0 : Int) ≤ x1 ∧ (x1 : Int) < 120 ∧ ((M 56 x1.toNat : Int) = 47 →
        zR32 (4 * (M 55 4)) ∧ (0 : Int) ≤ (M 55 4) ∧ (M 55 4 : Int) < 6 ∧ zR32 ((4 * (M 55 4)) + ((zup (zup (zup M 57 x1.toNat (M 56 x1.toNat)) 58 ((M 55 4).toNat) x1) 60 ((M 55 4).toNat) 1) 60 ((M 55 4).toNat))) ∧ zR32 (((4 * (M 55 4)) + ((zup (zup (zup M 57 x1.toNat (M 56 x1.toNat)) 58 ((M 55 4).toNat) x1) 60 ((M 55 4).toNat) 1) 60 ((M 55 4).toNat))) - 1) ∧ (0 : Int) ≤ (((4 * (M 55 4)) + ((zup (zup (zup M 57 x1.toNat (M 56 x1.toNat)) 58 ((M 55 4).toNat) x1) 60 ((M 55 4).toNat) 1) 60 ((M 55 4).toNat))) - 1) ∧ (((4 * (M 55 4)) + ((zup (zup (zup M 57 x1.toNat (M 56 x1.toNat)) 58 ((M 55 4).toNat) x1) 60 ((M 55 4).toNat) 1) 60 ((M 55 4).toNat))) - 1 : Int) < 24 ∧ (0 : Int) ≤ x1 ∧ (x1 : Int) < 120 ∧ ((M 56 x1.toNat : Int) ≠ 47 →
          (0 : Int) ≤ (M 55 4) ∧ (M 55 4 : Int) < 6 ∧ zR32 ((M 55 4) + 1) ∧ zR32 (x1 + 1) ∧ zBg d 113 15 [zR 55, zI (x1 + 1), none] [] (zup (zup (zup (zup (zup (zup (zup M 57 x1.toNat (M 56 x1.toNat)) 58 ((M 55 4).toNat) x1) 60 ((M 55 4).toNat) 1) 61 ((4 * (M 55 4)).toNat) (x1 + 1)) 62 ((((4 * (M 55 4)) + ((zup (zup (zup M 57 x1.toNat (M 56 x1.toNat)) 58 ((M 55 4).toNat) x1) 60 ((M 55 4).toNat) 1) 60 ((M 55 4).toNat))) - 1).toNat) x1) 59 ((M 55 4).toNat) x1) 55 4 ((M 55 4) + 1)) Q) ∧
        (¬ (M 56 x1.toNat : Int) ≠ 47 →
          zR32 (x1 + 1) ∧ (0 : Int) ≤ ((4 * (M 55 4)) + ((zup (zup (zup M 57 x1.toNat (M 56 x1.toNat)) 58 ((M 55 4).toNat) x1) 60 ((M 55 4).toNat) 1) 60 ((M 55 4).toNat))) ∧ ((4 * (M 55 4)) + ((zup (zup (zup M 57 x1.toNat (M 56 x1.toNat)) 58 ((M 55 4).toNat) x1) 60 ((M 55 4).toNat) 1) 60 ((M 55 4).toNat)) : Int) < 24 ∧ (0 : Int) ≤ (M 55 4) ∧ (M 55 4 : Int) < 6 ∧ zR32 (((zup (zup (zup M 57 x1.toNat (M 56 x1.toNat)) 58 ((M 55 4).toNat) x1) 60 ((M 55 4).toNat) 1) 60 ((M 55 4).toNat)) + 1) ∧ (0 : Int) ≤ (M 55 4) ∧ (M 55 4 : Int) < 6 ∧ zR32 (x1 + 1) ∧ zBg d 113 15 [zR 55, zI (x1 + 1), none] [] (zup (zup (zup (zup (zup (zup (zup M 57 x1.toNat (M 56 x1.toNat)) 58 ((M 55 4).toNat) x1) 60 ((M 55 4).toNat) 1) 61 ((4 * (M 55 4)).toNat) (x1 + 1)) 62 ((((4 * (M 55 4)) + ((zup (zup (zup M 57 x1.toNat (M 56 x1.toNat)) 58 ((M 55 4).toNat) x1) 60 ((M 55 4).toNat) 1) 60 ((M 55 4).toNat))) - 1).toNat) x1) 61 (((4 * (M 55 4)) + ((zup (zup (zup M 57 x1.toNat (M 56 x1.toNat)) 58 ((M 55 4).toNat) x1) 60 ((M 55 4).toNat) 1) 60 ((M 55 4).toNat))).toNat) (x1 + 1)) 60 ((M 55 4).toNat) (((zup (zup (zup M 57 x1.toNat (M 56 x1.toNat)) 58 ((M 55 4).toNat) x1) 60 ((M 55 4).toNat) 1) 60 ((M 55 4).toNat)) + 1)) Q)) ∧
      (¬ (M 56 x1.toNat : Int) = 47 →
        (0 : Int) ≤ x1 ∧ (x1 : Int) < 120 ∧ ((M 56 x1.toNat : Int) ≠ 93 →
          zR32 (x1 + 1) ∧ zBg d 113 15 [zR 55, zI (x1 + 1), none] [] (zup (zup (zup (zup M 57 x1.toNat (M 56 x1.toNat)) 58 ((M 55 4).toNat) x1) 60 ((M 55 4).toNat) 1) 61 ((4 * (M 55 4)).toNat) (x1 + 1)) Q) ∧
        (¬ (M 56 x1.toNat : Int) ≠ 93 →
          zR32 (4 * (M 55 4)) ∧ (0 : Int) ≤ (M 55 4) ∧ (M 55 4 : Int) < 6 ∧ zR32 ((4 * (M 55 4)) + ((zup (zup (zup M 57 x1.toNat (M 56 x1.toNat)) 58 ((M 55 4).toNat) x1) 60 ((M 55 4).toNat) 1) 60 ((M 55 4).toNat))) ∧ zR32 (((4 * (M 55 4)) + ((zup (zup (zup M 57 x1.toNat (M 56 x1.toNat)) 58 ((M 55 4).toNat) x1) 60 ((M 55 4).toNat) 1) 60 ((M 55 4).toNat))) - 1) ∧ (0 : Int) ≤ (((4 * (M 55 4)) + ((zup (zup (zup M 57 x1.toNat (M 56 x1.toNat)) 58 ((M 55 4).toNat) x1) 60 ((M 55 4).toNat) 1) 60 ((M 55 4).toNat))) - 1) ∧ (((4 * (M 55 4)) + ((zup (zup (zup M 57 x1.toNat (M 56 x1.toNat)) 58 ((M 55 4).toNat) x1) 60 ((M 55 4).toNat) 1) 60 ((M 55 4).toNat))) - 1 : Int) < 24 ∧ (0 : Int) ≤ x1 ∧ (x1 : Int) < 120 ∧ ((M 56 x1.toNat : Int) ≠ 47 →
            (0 : Int) ≤ (M 55 4) ∧ (M 55 4 : Int) < 6 ∧ zR32 ((M 55 4) + 1) ∧ zR32 (x1 + 1) ∧ zBg d 113 15 [zR 55, zI (x1 + 1), none] [] (zup (zup (zup (zup (zup (zup (zup M 57 x1.toNat (M 56 x1.toNat)) 58 ((M 55 4).toNat) x1) 60 ((M 55 4).toNat) 1) 61 ((4 * (M 55 4)).toNat) (x1 + 1)) 62 ((((4 * (M 55 4)) + ((zup (zup (zup M 57 x1.toNat (M 56 x1.toNat)) 58 ((M 55 4).toNat) x1) 60 ((M 55 4).toNat) 1) 60 ((M 55 4).toNat))) - 1).toNat) x1) 59 ((M 55 4).toNat) x1) 55 4 ((M 55 4) + 1)) Q) ∧
          (¬ (M 56 x1.toNat : Int) ≠ 47 →
            zR32 (x1 + 1) ∧ (0 : Int) ≤ ((4 * (M 55 4)) + ((zup (zup (zup M 57 x1.toNat (M 56 x1.toNat)) 58 ((M 55 4).toNat) x1) 60 ((M 55 4).toNat) 1) 60 ((M 55 4).toNat))) ∧ ((4 * (M 55 4)) + ((zup (zup (zup M 57 x1.toNat (M 56 x1.toNat)) 58 ((M 55 4).toNat) x1) 60 ((M 55 4).toNat) 1) 60 ((M 55 4).toNat)) : Int) < 24 ∧ (0 : Int) ≤ (M 55 4) ∧ (M 55 4 : Int) < 6 ∧ zR32 (((zup (zup (zup M 57 x1.toNat (M 56 x1.toNat)) 58 ((M 55 4).toNat) x1) 60 ((M 55 4).toNat) 1) 60 ((M 55 4).toNat)) + 1) ∧ (0 : Int) ≤ (M 55 4) ∧ (M 55 4 : Int) < 6 ∧ zR32 (x1 + 1) ∧ zBg d 113 15 [zR 55, zI (x1 + 1), none] [] (zup (zup (zup (zup (zup (zup (zup M 57 x1.toNat (M 56 x1.toNat)) 58 ((M 55 4).toNat) x1) 60 ((M 55 4).toNat) 1) 61 ((4 * (M 55 4)).toNat) (x1 + 1)) 62 ((((4 * (M 55 4)) + ((zup (zup (zup M 57 x1.toNat (M 56 x1.toNat)) 58 ((M 55 4).toNat) x1) 60 ((M 55 4).toNat) 1) 60 ((M 55 4).toNat))) - 1).toNat) x1) 61 (((4 * (M 55 4)) + ((zup (zup (zup M 57 x1.toNat (M 56 x1.toNat)) 58 ((M 55 4).toNat) x1) 60 ((M 55 4).toNat) 1) 60 ((M 55 4).toNat))).toNat) (x1 + 1)) 60 ((M 55 4).toNat) (((zup (zup (zup M 57 x1.toNat (M 56 x1.toNat)) 58 ((M 55 4).toNat) x1) 60 ((M 55 4).toNat) 1) 60 ((M 55 4).toNat)) + 1)) Q)))))) : zBg d 113 15 [zR 55, zI x1, none] [] M Q :=
  zvc_ok (I := zm113) (cuts := [(15, [true, true, false])]) (n := 122) rfl h
theorem zk113 {d : Nat} {M : zMem} {Q : Option zV → zMem → Prop} (h : zBg d 113 0 [zR 55, none, none] [] M Q) : zCt d 113 [.inr (.inr 55)] M Q := zCt_of (I := zm113) rfl rfl h
/-! CommaCopiesModel.letter()I , as 114 -/
set_option maxRecDepth 20000 in
theorem zv114_0 {d : Nat} {M : zMem} {Q : Option zV → zMem → Prop} (h :
  ∃ Q1, zCi d 112 [.inr (.inr 55)] M Q1 ∧ ∀ v1 M1, Q1 v1 M1 →
  ((v1 : Int) < 0 →
    ∃ Q2, zCv d 113 [.inr (.inr 55)] M1 Q2 ∧ ∀ M2, Q2 M2 →
    zBg (d + 1) 114 30 [zR 55, none, zI 0] [] (zup M2 55 1 0) Q) ∧
  (¬ (v1 : Int) < 0 →
    zR32 ((-20) - v1) ∧ Q (zI ((-20) - v1)) (zup M1 55 1 0))) : zBg (d + 1) 114 0 [zR 55, none, none] [] M Q :=
  zvc_ok (I := zm114) (cuts := [(30, [true, false, true]), (51, [true, false, true])]) (n := 60) rfl h
set_option maxRecDepth 20000 in
theorem zv114_30 {d : Nat} {M : zMem} {Q : Option zV → zMem → Prop} (x2 : Int) (h :
  ((x2 : Int) ≥ 24 →
    zBg d 114 51 [zR 55, none, zI 0] [] M Q) ∧
  (¬ (x2 : Int) ≥ 24 →
    (0 : Int) ≤ x2 ∧ (x2 : Int) < 24 ∧ zR32 (x2 + 1) ∧ zBg d 114 30 [zR 55, none, zI (x2 + 1)] [] (zup M 63 x2.toNat 0) Q)) : zBg d 114 30 [zR 55, none, zI x2] [] M Q :=
  zvc_ok (I := zm114) (cuts := [(30, [true, false, true]), (51, [true, false, true])]) (n := 60) rfl h
set_option maxRecDepth 20000 in
theorem zv114_51 {d : Nat} {M : zMem} {Q : Option zV → zMem → Prop} (x2 : Int) (h :
  ((x2 : Int) ≥ 6 →
    Q (zI (M 55 4)) (zup (zup M 55 12 0) 55 17 0)) ∧
  (¬ (x2 : Int) ≥ 6 →
    (0 : Int) ≤ x2 ∧ (x2 : Int) < 6 ∧ (0 : Int) ≤ x2 ∧ (x2 : Int) < 6 ∧ zR32 (x2 + 1) ∧ zBg d 114 51 [zR 55, none, zI (x2 + 1)] [] (zup (zup M 66 x2.toNat 5) 64 x2.toNat (-1)) Q)) : zBg d 114 51 [zR 55, none, zI x2] [] M Q :=
  zvc_ok (I := zm114) (cuts := [(30, [true, false, true]), (51, [true, false, true])]) (n := 60) rfl h
theorem zk114 {d : Nat} {M : zMem} {Q : Option zV → zMem → Prop} (h : zBg d 114 0 [zR 55, none, none] [] M Q) : zCt d 114 [.inr (.inr 55)] M Q := zCt_of (I := zm114) rfl rfl h
/-! CommaCopiesModel.isPlace(I)Z , as 115 -/
set_option maxRecDepth 20000 in
theorem zv115_0 {d : Nat} {M : zMem} {Q : Option zV → zMem → Prop} (x1 : Int) (h :
  zR32 ((M 55 4) - 1) ∧ ∃ Q1, zCi d 110 [.inr (.inl x1), .inr (.inl 0), .inr (.inl ((M 55 4) - 1))] M Q1 ∧ ∀ v1 M1, Q1 v1 M1 →
  ((v1 : Int) = 0 ∨ (v1 : Int) = 1) ∧ Q (zI v1) M1) : zBg (d + 1) 115 0 [zR 55, zI x1] [] M Q :=
  zvc_ok (I := zm115) (cuts := []) (n := 15) rfl h
theorem zk115 {d : Nat} {M : zMem} {Q : Option zV → zMem → Prop} {x1 : Int} (h : zBg d 115 0 [zR 55, zI x1] [] M Q) : zCt d 115 [.inr (.inr 55), .inl x1] M Q := zCt_of (I := zm115) rfl rfl h
/-! CommaCopiesModel.isChoice(II)Z , as 116 -/
set_option maxRecDepth 20000 in
theorem zv116_0 {d : Nat} {M : zMem} {Q : Option zV → zMem → Prop} (x1 : Int) (x2 : Int) (h :
  ∃ Q1, zCi d 115 [.inr (.inr 55), .inl x1] M Q1 ∧ ∀ v1 M1, Q1 v1 M1 →
  ((v1 : Int) = 0 →
    ((0 : Int) = 0 ∨ (0 : Int) = 1) ∧ Q (zI 0) M1) ∧
  (¬ (v1 : Int) = 0 →
    (0 : Int) ≤ x1 ∧ (x1 : Int) < 6 ∧ zR32 ((M1 60 x1.toNat) - 1) ∧ ∃ Q2, zCi d 110 [.inr (.inl x2), .inr (.inl 0), .inr (.inl ((M1 60 x1.toNat) - 1))] M1 Q2 ∧ ∀ v2 M2, Q2 v2 M2 →
    ((v2 : Int) = 0 →
      ((0 : Int) = 0 ∨ (0 : Int) = 1) ∧ Q (zI 0) M2) ∧
    (¬ (v2 : Int) = 0 →
      ((1 : Int) = 0 ∨ (1 : Int) = 1) ∧ Q (zI 1) M2))) : zBg (d + 1) 116 0 [zR 55, zI x1, zI x2] [] M Q :=
  zvc_ok (I := zm116) (cuts := []) (n := 25) rfl h
theorem zk116 {d : Nat} {M : zMem} {Q : Option zV → zMem → Prop} {x1 : Int} {x2 : Int} (h : zBg d 116 0 [zR 55, zI x1, zI x2] [] M Q) : zCt d 116 [.inr (.inr 55), .inl x1, .inl x2] M Q := zCt_of (I := zm116) rfl rfl h
/-! CommaCopiesModel.choices(I)I , as 117 -/
set_option maxRecDepth 20000 in
theorem zv117_0 {d : Nat} {M : zMem} {Q : Option zV → zMem → Prop} (x1 : Int) (h :
  ∃ Q1, zCi d 115 [.inr (.inr 55), .inl x1] M Q1 ∧ ∀ v1 M1, Q1 v1 M1 →
  ((v1 : Int) = 0 →
    Q (zI (-1)) M1) ∧
  (¬ (v1 : Int) = 0 →
    (0 : Int) ≤ x1 ∧ (x1 : Int) < 6 ∧ Q (zI (M1 60 x1.toNat)) M1)) : zBg (d + 1) 117 0 [zR 55, zI x1] [] M Q :=
  zvc_ok (I := zm117) (cuts := []) (n := 16) rfl h
theorem zk117 {d : Nat} {M : zMem} {Q : Option zV → zMem → Prop} {x1 : Int} (h : zBg d 117 0 [zR 55, zI x1] [] M Q) : zCt d 117 [.inr (.inr 55), .inl x1] M Q := zCt_of (I := zm117) rfl rfl h
/-! CommaCopiesModel.cost(III)I , as 118 -/
set_option maxRecDepth 20000 in
theorem zv118_0 {d : Nat} {M : zMem} {Q : Option zV → zMem → Prop} (x1 : Int) (x2 : Int) (x3 : Int) (h :
  ∃ Q1, zCi d 116 [.inr (.inr 55), .inl x1, .inl x2] M Q1 ∧ ∀ v1 M1, Q1 v1 M1 →
  ((v1 : Int) = 0 →
    Q (zI (-1)) M1) ∧
  (¬ (v1 : Int) = 0 →
    ∃ Q2, zCi d 110 [.inr (.inl x3), .inr (.inl 0), .inr (.inl 9)] M1 Q2 ∧ ∀ v2 M2, Q2 v2 M2 →
    ((v2 : Int) ≠ 0 →
      zR32 (4 * x1) ∧ zR32 ((4 * x1) + x2) ∧ (0 : Int) ≤ ((4 * x1) + x2) ∧ ((4 * x1) + x2 : Int) < 24 ∧ zR32 (4 * x1) ∧ zR32 ((4 * x1) + x2) ∧ (0 : Int) ≤ ((4 * x1) + x2) ∧ ((4 * x1) + x2 : Int) < 24 ∧ Q (zI (M2 63 (((4 * x1) + x2).toNat))) (zup M2 63 (((4 * x1) + x2).toNat) x3)) ∧
    (¬ (v2 : Int) ≠ 0 →
      Q (zI (-1)) M2))) : zBg (d + 1) 118 0 [zR 55, zI x1, zI x2, zI x3, none] [] M Q :=
  zvc_ok (I := zm118) (cuts := []) (n := 38) rfl h
theorem zk118 {d : Nat} {M : zMem} {Q : Option zV → zMem → Prop} {x1 : Int} {x2 : Int} {x3 : Int} (h : zBg d 118 0 [zR 55, zI x1, zI x2, zI x3, none] [] M Q) : zCt d 118 [.inr (.inr 55), .inl x1, .inl x2, .inl x3] M Q := zCt_of (I := zm118) rfl rfl h
/-! CommaCopiesModel.mended(II)I , as 119 -/
set_option maxRecDepth 20000 in
theorem zv119_0 {d : Nat} {M : zMem} {Q : Option zV → zMem → Prop} (x1 : Int) (x2 : Int) (h :
  ∃ Q1, zCi d 115 [.inr (.inr 55), .inl x1] M Q1 ∧ ∀ v1 M1, Q1 v1 M1 →
  ((v1 : Int) = 0 →
    Q (zI (-101)) M1) ∧
  (¬ (v1 : Int) = 0 →
    ((x2 : Int) = (-1) →
      (0 : Int) ≤ x1 ∧ (x1 : Int) < 6 ∧ (0 : Int) ≤ x1 ∧ (x1 : Int) < 6 ∧ Q (zI (M1 64 x1.toNat)) (zup M1 64 x1.toNat x2)) ∧
    (¬ (x2 : Int) = (-1) →
      ∃ Q2, zCi d 116 [.inr (.inr 55), .inl x1, .inl x2] M1 Q2 ∧ ∀ v2 M2, Q2 v2 M2 →
      ((v2 : Int) ≠ 0 →
        (0 : Int) ≤ x1 ∧ (x1 : Int) < 6 ∧ (0 : Int) ≤ x1 ∧ (x1 : Int) < 6 ∧ Q (zI (M2 64 x1.toNat)) (zup M2 64 x1.toNat x2)) ∧
      (¬ (v2 : Int) ≠ 0 →
        Q (zI (-101)) M2)))) : zBg (d + 1) 119 0 [zR 55, zI x1, zI x2, none] [] M Q :=
  zvc_ok (I := zm119) (cuts := []) (n := 31) rfl h
theorem zk119 {d : Nat} {M : zMem} {Q : Option zV → zMem → Prop} {x1 : Int} {x2 : Int} (h : zBg d 119 0 [zR 55, zI x1, zI x2, none] [] M Q) : zCt d 119 [.inr (.inr 55), .inl x1, .inl x2] M Q := zCt_of (I := zm119) rfl rfl h
/-! CommaCopiesModel.copyOf(III)I , as 120 -/
set_option maxRecDepth 20000 in
theorem zv120_0 {d : Nat} {M : zMem} {Q : Option zV → zMem → Prop} (x1 : Int) (x2 : Int) (x3 : Int) (h :
  ∃ Q1, zCi d 172 [.inl x1] M Q1 ∧ ∀ v1 M1, Q1 v1 M1 →
  ((v1 : Int) = 0 →
    Q (zI (-1)) M1) ∧
  (¬ (v1 : Int) = 0 →
    ∃ Q2, zCi d 173 [.inl x2] M1 Q2 ∧ ∀ v2 M2, Q2 v2 M2 →
    ((v2 : Int) ≠ 0 →
      ∃ Q3, zCi d 174 [.inr (.inr 55), .inl x1, .inl x2, .inl x3, .inl (M2 55 4)] M2 Q3 ∧ ∀ v3 M3, Q3 v3 M3 →
      ((v3 : Int) ≥ 0 →
        ((M3 55 2 : Int) ≤ 0 →
          zBg (d + 1) 120 54 [zR 55, zI x1, none, zI x3, none, zI 0, zI 0] [] M3 Q) ∧
        (¬ (M3 55 2 : Int) ≤ 0 →
          zBg (d + 1) 120 54 [zR 55, zI x1, none, zI x3, none, zI 1, zI 0] [] M3 Q)) ∧
      (¬ (v3 : Int) ≥ 0 →
        Q (zI v3) M3)) ∧
    (¬ (v2 : Int) ≠ 0 →
      Q (zI (-1)) M2))) : zBg (d + 1) 120 0 [zR 55, zI x1, zI x2, zI x3, none, none, none] [] M Q :=
  zvc_ok (I := zm120) (cuts := [(54, [true, true, false, true, false, true, true]), (127, [true, true, false, true, false, false, true])]) (n := 108) rfl h
set_option maxRecDepth 20000 in
theorem zv120_54 {d : Nat} {M : zMem} {Q : Option zV → zMem → Prop} (x1 : Int) (x3 : Int) (x5 : Int) (x6 : Int) (h :
  ((x6 : Int) ≥ (M 55 4) →
    ((x5 : Int) ≠ 0 →
      ((M 55 12 : Int) ≠ 8 →
        zBg (d + 1) 120 127 [zR 55, zI x1, none, zI x3, none, none, zI 0] [] M Q) ∧
      (¬ (M 55 12 : Int) ≠ 8 →
        Q (zI (-3)) M)) ∧
    (¬ (x5 : Int) ≠ 0 →
      Q (zI (-2)) M)) ∧
  (¬ (x6 : Int) ≥ (M 55 4) →
    ((x5 : Int) = 0 →
      zR32 (x6 + 1) ∧ zBg (d + 1) 120 54 [zR 55, zI x1, none, zI x3, none, zI 0, zI (x6 + 1)] [] M Q) ∧
    (¬ (x5 : Int) = 0 →
      zR32 (12 * x1) ∧ zR32 ((12 * x1) + x3) ∧ zR32 (((12 * x1) + x3) + x6) ∧ (0 : Int) ≤ (((12 * x1) + x3) + x6) ∧ (((12 * x1) + x3) + x6 : Int) < 48 ∧ ∃ Q1, zCi d 116 [.inr (.inr 55), .inl x6, .inl (M 78 ((((12 * x1) + x3) + x6).toNat))] M Q1 ∧ ∀ v1 M1, Q1 v1 M1 →
      ((v1 : Int) = 0 →
        zR32 (x6 + 1) ∧ zBg (d + 1) 120 54 [zR 55, zI x1, none, zI x3, none, zI 0, zI (x6 + 1)] [] M1 Q) ∧
      (¬ (v1 : Int) = 0 →
        zR32 (x6 + 1) ∧ zBg (d + 1) 120 54 [zR 55, zI x1, none, zI x3, none, zI 1, zI (x6 + 1)] [] M1 Q)))) : zBg (d + 1) 120 54 [zR 55, zI x1, none, zI x3, none, zI x5, zI x6] [] M Q :=
  zvc_ok (I := zm120) (cuts := [(54, [true, true, false, true, false, true, true]), (127, [true, true, false, true, false, false, true])]) (n := 108) rfl h
set_option maxRecDepth 20000 in
theorem zv120_127 {d : Nat} {M : zMem} {Q : Option zV → zMem → Prop} (x1 : Int) (x3 : Int) (x6 : Int) (h :
  ((x6 : Int) ≥ (M 55 4) →
    zR32 ((M 55 12) + 1) ∧ zR32 (((M 55 12) + 1) - 1) ∧ Q (zI (((M 55 12) + 1) - 1)) (zup M 55 12 ((M 55 12) + 1))) ∧
  (¬ (x6 : Int) ≥ (M 55 4) →
    zR32 (6 * (M 55 12)) ∧ zR32 ((6 * (M 55 12)) + x6) ∧ zR32 (12 * x1) ∧ zR32 ((12 * x1) + x3) ∧ zR32 (((12 * x1) + x3) + x6) ∧ (0 : Int) ≤ (((12 * x1) + x3) + x6) ∧ (((12 * x1) + x3) + x6 : Int) < 48 ∧ (0 : Int) ≤ ((6 * (M 55 12)) + x6) ∧ ((6 * (M 55 12)) + x6 : Int) < 48 ∧ zR32 (x6 + 1) ∧ zBg d 120 127 [zR 55, zI x1, none, zI x3, none, none, zI (x6 + 1)] [] (zup M 65 (((6 * (M 55 12)) + x6).toNat) (M 78 ((((12 * x1) + x3) + x6).toNat))) Q)) : zBg d 120 127 [zR 55, zI x1, none, zI x3, none, none, zI x6] [] M Q :=
  zvc_ok (I := zm120) (cuts := [(54, [true, true, false, true, false, true, true]), (127, [true, true, false, true, false, false, true])]) (n := 108) rfl h
theorem zk120 {d : Nat} {M : zMem} {Q : Option zV → zMem → Prop} {x1 : Int} {x2 : Int} {x3 : Int} (h : zBg d 120 0 [zR 55, zI x1, zI x2, zI x3, none, none, none] [] M Q) : zCt d 120 [.inr (.inr 55), .inl x1, .inl x2, .inl x3] M Q := zCt_of (I := zm120) rfl rfl h
/-! CommaCopiesModel.isCopy(I)Z , as 121 -/
set_option maxRecDepth 20000 in
theorem zv121_0 {d : Nat} {M : zMem} {Q : Option zV → zMem → Prop} (x1 : Int) (h :
  zR32 ((M 55 12) - 1) ∧ ∃ Q1, zCi d 110 [.inr (.inl x1), .inr (.inl 0), .inr (.inl ((M 55 12) - 1))] M Q1 ∧ ∀ v1 M1, Q1 v1 M1 →
  ((v1 : Int) = 0 ∨ (v1 : Int) = 1) ∧ Q (zI v1) M1) : zBg (d + 1) 121 0 [zR 55, zI x1] [] M Q :=
  zvc_ok (I := zm121) (cuts := []) (n := 15) rfl h
theorem zk121 {d : Nat} {M : zMem} {Q : Option zV → zMem → Prop} {x1 : Int} (h : zBg d 121 0 [zR 55, zI x1] [] M Q) : zCt d 121 [.inr (.inr 55), .inl x1] M Q := zCt_of (I := zm121) rfl rfl h
/-! CommaCopiesModel.choice(II)I , as 122 -/
set_option maxRecDepth 20000 in
theorem zv122_0 {d : Nat} {M : zMem} {Q : Option zV → zMem → Prop} (x1 : Int) (x2 : Int) (h :
  ∃ Q1, zCi d 121 [.inr (.inr 55), .inl x1] M Q1 ∧ ∀ v1 M1, Q1 v1 M1 →
  ((v1 : Int) = 0 →
    Q (zI (-1)) M1) ∧
  (¬ (v1 : Int) = 0 →
    ∃ Q2, zCi d 115 [.inr (.inr 55), .inl x2] M1 Q2 ∧ ∀ v2 M2, Q2 v2 M2 →
    ((v2 : Int) = 0 →
      Q (zI (-1)) M2) ∧
    (¬ (v2 : Int) = 0 →
      zR32 (6 * x1) ∧ zR32 ((6 * x1) + x2) ∧ (0 : Int) ≤ ((6 * x1) + x2) ∧ ((6 * x1) + x2 : Int) < 48 ∧ Q (zI (M2 65 (((6 * x1) + x2).toNat))) M2))) : zBg (d + 1) 122 0 [zR 55, zI x1, zI x2] [] M Q :=
  zvc_ok (I := zm122) (cuts := []) (n := 24) rfl h
theorem zk122 {d : Nat} {M : zMem} {Q : Option zV → zMem → Prop} {x1 : Int} {x2 : Int} (h : zBg d 122 0 [zR 55, zI x1, zI x2] [] M Q) : zCt d 122 [.inr (.inr 55), .inl x1, .inl x2] M Q := zCt_of (I := zm122) rfl rfl h
/-! CommaCopiesModel.burn(I)I , as 123 -/
set_option maxRecDepth 20000 in
theorem zv123_0 {d : Nat} {M : zMem} {Q : Option zV → zMem → Prop} (x1 : Int) (h :
  ∃ Q1, zCi d 121 [.inr (.inr 55), .inl x1] M Q1 ∧ ∀ v1 M1, Q1 v1 M1 →
  ((v1 : Int) ≠ 0 →
    zR32 ((M1 55 12) - 1) ∧ zR32 (6 * x1) ∧ zBg (d + 1) 123 25 [zR 55, none, zI (6 * x1)] [] (zup M1 55 12 ((M1 55 12) - 1)) Q) ∧
  (¬ (v1 : Int) ≠ 0 →
    Q (zI (-1)) M1)) : zBg (d + 1) 123 0 [zR 55, zI x1, none] [] M Q :=
  zvc_ok (I := zm123) (cuts := [(25, [true, false, true])]) (n := 42) rfl h
set_option maxRecDepth 20000 in
theorem zv123_25 {d : Nat} {M : zMem} {Q : Option zV → zMem → Prop} (x2 : Int) (h :
  zR32 (6 * (M 55 12)) ∧ ((x2 : Int) ≥ (6 * (M 55 12)) →
    Q (zI (M 55 12)) M) ∧
  (¬ (x2 : Int) ≥ (6 * (M 55 12)) →
    zR32 (x2 + 6) ∧ (0 : Int) ≤ (x2 + 6) ∧ (x2 + 6 : Int) < 48 ∧ (0 : Int) ≤ x2 ∧ (x2 : Int) < 48 ∧ zR32 (x2 + 1) ∧ zBg d 123 25 [zR 55, none, zI (x2 + 1)] [] (zup M 65 x2.toNat (M 65 ((x2 + 6).toNat))) Q)) : zBg d 123 25 [zR 55, none, zI x2] [] M Q :=
  zvc_ok (I := zm123) (cuts := [(25, [true, false, true])]) (n := 42) rfl h
theorem zk123 {d : Nat} {M : zMem} {Q : Option zV → zMem → Prop} {x1 : Int} (h : zBg d 123 0 [zR 55, zI x1, none] [] M Q) : zCt d 123 [.inr (.inr 55), .inl x1] M Q := zCt_of (I := zm123) rfl rfl h
