/-! image and restore of both sides -/
def ztk (o u : Nat) (M M' : zMem) : Prop := (∀ i, i < 24 → M' (5 + u) i = M (5 + o) i) ∧ (∀ i, i < 6 → M' (6 + u) i = M (6 + o) i) ∧ (∀ i, i < 48 → M' (7 + u) i = M (7 + o) i) ∧ (∀ i, i < 6 → M' (8 + u) i = M (8 + o) i) ∧ (∀ i, i < 36 → M' (9 + u) i = M (9 + o) i) ∧ (∀ i, i < 6 → M' (10 + u) i = M (10 + o) i) ∧ (∀ i, i < 6 → M' (11 + u) i = M (11 + o) i) ∧ (∀ i, i < 120 → M' (14 + u) i = M (14 + o) i) ∧ (∀ i, i < 6 → M' (15 + u) i = M (15 + o) i) ∧ (∀ i, i < 24 → M' (16 + u) i = M (16 + o) i) ∧ (∀ i, i < 24 → M' (17 + u) i = M (17 + o) i) ∧ M' (13 + u) 4 = M (13 + o) 4 ∧ M' (13 + u) 5 = M (13 + o) 5 ∧ M' (13 + u) 6 = M (13 + o) 6 ∧ M' (4 + u) 9 = M (4 + o) 9 ∧ M' (4 + u) 10 = M (4 + o) 10 ∧ M' (4 + u) 11 = M (4 + o) 11 ∧ M' (4 + u) 12 = M (4 + o) 12 ∧ ∀ k, ¬ (4 + u ≤ k ∧ k ≤ 11 + u) → ¬ (13 + u ≤ k ∧ k ≤ 17 + u) → M' k = M k
theorem qc55a {d : Nat} {M : zMem} (h : M 27 4 = 0 ∨ M 27 4 = 1) : zCv (d + 1) 55 [.inr (.inr 4), .inr (.inr 18)] M (fun M' => ztk 14 0 M M') := by
  refine zk55a (zv55a_0 ⟨_, zk33a (zv33a_0 ⟨by omega, by omega, by omega, by omega, by omega, by omega, by omega, by omega, by omega, by omega, by omega, by omega, by omega, by omega, by omega, by omega, by omega, by omega, by omega, by omega, h, rfl, rfl⟩), ?_⟩)
  rintro M1 rfl
  refine ⟨by omega, by omega, by omega, by omega, by omega, by omega, by omega, by omega, by omega, by omega, by omega, by omega, by omega, by omega, by omega, by omega, by omega, by omega, by omega, by omega, by omega, by omega, by omega, by omega, by omega, by omega, by omega, by omega, by omega, by omega, by omega, by omega, by omega, by omega, by omega, rfl, fun i hi => ?_, fun i hi => ?_, fun i hi => ?_, fun i hi => ?_, fun i hi => ?_, fun i hi => ?_, fun i hi => ?_, fun i hi => ?_, fun i hi => ?_, fun i hi => ?_, fun i hi => ?_, ?_, ?_, ?_, ?_, ?_, ?_, ?_, fun k h1 h2 => ?_⟩
  · simp [zup, zcpy, hi]
  · simp [zup, zcpy, hi]
  · simp [zup, zcpy, hi]
  · simp [zup, zcpy, hi]
  · simp [zup, zcpy, hi]
  · simp [zup, zcpy, hi]
  · simp [zup, zcpy, hi]
  · simp [zup, zcpy, hi]
  · simp [zup, zcpy, hi]
  · simp [zup, zcpy, hi]
  · simp [zup, zcpy, hi]
  · simp [zup, zcpy]
  · simp [zup, zcpy]
  · simp [zup, zcpy]
  · simp [zup, zcpy]
  · simp [zup, zcpy]
  · simp [zup, zcpy]
  · simp [zup, zcpy]
  · funext i
    simp only [zup, zcpy]
    repeat rw [if_neg (by omega)]
theorem qc55b {d : Nat} {M : zMem} (h : M 13 4 = 0 ∨ M 13 4 = 1) : zCv (d + 1) 55 [.inr (.inr 18), .inr (.inr 4)] M (fun M' => ztk 0 14 M M') := by
  refine zk55b (zv55b_0 ⟨_, zk33b (zv33b_0 ⟨by omega, by omega, by omega, by omega, by omega, by omega, by omega, by omega, by omega, by omega, by omega, by omega, by omega, by omega, by omega, by omega, by omega, by omega, by omega, by omega, h, rfl, rfl⟩), ?_⟩)
  rintro M1 rfl
  refine ⟨by omega, by omega, by omega, by omega, by omega, by omega, by omega, by omega, by omega, by omega, by omega, by omega, by omega, by omega, by omega, by omega, by omega, by omega, by omega, by omega, by omega, by omega, by omega, by omega, by omega, by omega, by omega, by omega, by omega, by omega, by omega, by omega, by omega, by omega, by omega, rfl, fun i hi => ?_, fun i hi => ?_, fun i hi => ?_, fun i hi => ?_, fun i hi => ?_, fun i hi => ?_, fun i hi => ?_, fun i hi => ?_, fun i hi => ?_, fun i hi => ?_, fun i hi => ?_, ?_, ?_, ?_, ?_, ?_, ?_, ?_, fun k h1 h2 => ?_⟩
  · simp [zup, zcpy, hi]
  · simp [zup, zcpy, hi]
  · simp [zup, zcpy, hi]
  · simp [zup, zcpy, hi]
  · simp [zup, zcpy, hi]
  · simp [zup, zcpy, hi]
  · simp [zup, zcpy, hi]
  · simp [zup, zcpy, hi]
  · simp [zup, zcpy, hi]
  · simp [zup, zcpy, hi]
  · simp [zup, zcpy, hi]
  · simp [zup, zcpy]
  · simp [zup, zcpy]
  · simp [zup, zcpy]
  · simp [zup, zcpy]
  · simp [zup, zcpy]
  · simp [zup, zcpy]
  · simp [zup, zcpy]
  · funext i
    simp only [zup, zcpy]
    repeat rw [if_neg (by omega)]
theorem qc101 {d : Nat} {M : zMem} (h : M 13 4 = 0 ∨ M 13 4 = 1) : zCi (d + 2) 101 [.inr (.inr 0)] M (fun r M' => r = 1 ∧ ∃ M1, ztk 0 14 M M1 ∧ M' = zup M1 0 10 1) := by
  refine zk101 (zv101_0 ⟨_, qc55b h, ?_⟩)
  rintro M1 h1
  exact ⟨Or.inr rfl, _, rfl, rfl, M1, h1, rfl⟩
theorem qc102 {d : Nat} {M : zMem} (h : M 27 4 = 0 ∨ M 27 4 = 1) : zCi (d + 2) 102 [.inr (.inr 0)] M (fun r M' => (M 0 10 = 0 ∧ r = -4 ∧ M' = M) ∨ (M 0 10 ≠ 0 ∧ r = 1 ∧ ztk 14 0 M M')) := by
  refine zk102 (zv102_0 ⟨fun h0 => ⟨_, qc55a h, ?_⟩, fun h0 => ⟨_, rfl, Or.inl ⟨by omega, rfl, rfl⟩⟩⟩)
  rintro M1 h1
  exact ⟨_, rfl, Or.inr ⟨h0, rfl, h1⟩⟩
theorem zci_up {M : zMem} {a p b q n : Nat} (hab : a ≠ b) : zup (zcpy M a p b q n) b (q + n) (zcpy M a p b q n a (p + n)) = zcpy M a p b q (n + 1) := by
  funext k i
  rw [zb_ck hab]
  simp only [zup, zcpy]
  by_cases hk : k = b
  · rw [if_pos hk, if_pos hk, if_pos hk]
    by_cases hi : i = q + n
    · rw [if_pos hi, if_pos (by omega)]
      congr 1
      omega
    · rw [if_neg hi]
      by_cases hj : q ≤ i ∧ i < q + n
      · rw [if_pos hj, if_pos (by omega)]
      · rw [if_neg hj, if_neg (by omega)]
  · rw [if_neg hk, if_neg hk, if_neg hk]
theorem zci_0 {M : zMem} {a p b q : Nat} : zcpy M a p b q 0 = M := by
  funext k i
  simp only [zcpy]
  by_cases hk : k = b
  · rw [if_pos hk, if_neg (by omega)]
  · rw [if_neg hk]
theorem qc168 {d : Nat} {M : zMem} {a n off : Nat} (ha : zSHL[a]? = some (.inl (0, n))) (hab : a ≠ 75) (ho : off + n ≤ 480) : zCi d 168 [.inr (.inr a), .inr (.inr 75), .inl (off : Int)] M (fun r M' => r = ((off + n : Nat) : Int) ∧ (∀ i, i < n → M' 75 (off + i) = M a i) ∧ (∀ i, i < off ∨ off + n ≤ i → M' 75 i = M 75 i) ∧ ∀ k, k ≠ 75 → M' k = M k) := by
  have hc : zSHL[75]? = some (.inl (0, 480)) := rfl
  refine zk168 (zv168_0 _ _ _ ?_)
  have key : ∀ (m k : Nat) (M2 : zMem), k + m = n → (∀ i, i < k → M2 75 (off + i) = M a i) → (∀ i, i < off ∨ off + k ≤ i → M2 75 i = M 75 i) → (∀ k, k ≠ 75 → M2 k = M k) → zBg d 168 2 [zR a, zR 75, zI (off : Int), zI (k : Int)] [] M2 (fun q M' => ∃ w : Int, q = some (.inl w) ∧ w = ((off + n : Nat) : Int) ∧ (∀ i, i < n → M' 75 (off + i) = M a i) ∧ (∀ i, i < off ∨ off + n ≤ i → M' 75 i = M 75 i) ∧ ∀ k, k ≠ 75 → M' k = M k) := by
    intro m
    induction m with
    | zero =>
      intro k M2 hk e1 e2 e3
      have : k = n := by omega
      subst this
      refine zv168_2 _ _ _ _ ?_
      rw [zb_ln ha]
      refine ⟨fun _ => ?_, fun h => absurd (by omega) h⟩
      rw [zb_ln ha]
      exact ⟨⟨by omega, by omega⟩, _, rfl, by omega, e1, e2, e3⟩
    | succ m ih =>
      intro k M2 hk e1 e2 e3
      refine zv168_2 _ _ _ _ ?_
      rw [zb_ln ha]
      refine ⟨fun h => by omega, fun _ => ⟨⟨by omega, by omega⟩, ?_⟩⟩
      rw [zb_ar ha]
      refine ⟨by omega, by omega, ?_⟩
      rw [zb_ar hc]
      refine ⟨by omega, by omega, ⟨by omega, by omega⟩, ?_⟩
      rw [show ((off : Int) + (k : Int)).toNat = off + k by omega, Int.toNat_natCast, e3 a hab]
      refine ih (k + 1) _ (by omega) (fun i hi => ?_) (fun i hi => ?_) (fun q hq => by rw [zb_uk hq]; exact e3 q hq)
      · by_cases hik : i = k
        · subst hik; exact zb_us
        · rw [zb_ui (by omega)]; exact e1 i (by omega)
      · rw [zb_ui (by omega)]; exact e2 i (by omega)
  exact key n 0 M (by omega) (fun i hi => by omega) (fun _ _ => rfl) (fun _ _ => rfl)
theorem qc169 {d : Nat} {M : zMem} {a n off : Nat} (ha : zSHL[a]? = some (.inl (0, n))) (hab : a ≠ 75) (ho : off + n ≤ 480) : zCi d 169 [.inr (.inr 75), .inl (off : Int), .inr (.inr a)] M (fun r M' => r = ((off + n : Nat) : Int) ∧ (∀ i, i < n → M' a i = M 75 (off + i)) ∧ ∀ k, k ≠ a → M' k = M k) := by
  have hc : zSHL[75]? = some (.inl (0, 480)) := rfl
  refine zk169 (zv169_0 _ _ _ ?_)
  have key : ∀ (m k : Nat) (M2 : zMem), k + m = n → (∀ i, i < k → M2 a i = M 75 (off + i)) → (∀ k, k ≠ a → M2 k = M k) → zBg d 169 2 [zR 75, zI (off : Int), zR a, zI (k : Int)] [] M2 (fun q M' => ∃ w : Int, q = some (.inl w) ∧ w = ((off + n : Nat) : Int) ∧ (∀ i, i < n → M' a i = M 75 (off + i)) ∧ ∀ k, k ≠ a → M' k = M k) := by
    intro m
    induction m with
    | zero =>
      intro k M2 hk e1 e3
      have : k = n := by omega
      subst this
      refine zv169_2 _ _ _ _ ?_
      rw [zb_ln ha]
      refine ⟨fun _ => ?_, fun h => absurd (by omega) h⟩
      rw [zb_ln ha]
      exact ⟨⟨by omega, by omega⟩, _, rfl, by omega, e1, e3⟩
    | succ m ih =>
      intro k M2 hk e1 e3
      refine zv169_2 _ _ _ _ ?_
      rw [zb_ln ha]
      refine ⟨fun h => by omega, fun _ => ⟨⟨by omega, by omega⟩, ?_⟩⟩
      rw [zb_ar hc]
      refine ⟨by omega, by omega, ?_⟩
      rw [zb_ar ha]
      refine ⟨by omega, by omega, ⟨by omega, by omega⟩, ?_⟩
      rw [show ((off : Int) + (k : Int)).toNat = off + k by omega, Int.toNat_natCast, e3 75 (Ne.symm hab)]
      refine ih (k + 1) _ (by omega) (fun i hi => ?_) (fun q hq => by rw [zb_uk hq]; exact e3 q hq)
      by_cases hik : i = k
      · subst hik; exact zb_us
      · rw [zb_ui hik]; exact e1 i (by omega)
  exact key n 0 M (by omega) (fun i hi => by omega) (fun _ _ => rfl)
def zim (M M' : zMem) : Prop := (∀ i, i < 120 → M' 75 (0 + i) = M 57 i) ∧ (∀ i, i < 6 → M' 75 (120 + i) = M 58 i) ∧ (∀ i, i < 6 → M' 75 (126 + i) = M 59 i) ∧ (∀ i, i < 6 → M' 75 (132 + i) = M 60 i) ∧ (∀ i, i < 24 → M' 75 (138 + i) = M 61 i) ∧ (∀ i, i < 24 → M' 75 (162 + i) = M 62 i) ∧ (∀ i, i < 24 → M' 75 (186 + i) = M 63 i) ∧ (∀ i, i < 6 → M' 75 (210 + i) = M 64 i) ∧ (∀ i, i < 48 → M' 75 (216 + i) = M 65 i) ∧ (∀ i, i < 6 → M' 75 (264 + i) = M 66 i) ∧ (∀ i, i < 48 → M' 75 (270 + i) = M 67 i) ∧ M' 75 318 = M 55 2 ∧ M' 75 319 = M 55 4 ∧ M' 75 320 = M 55 12 ∧ M' 75 321 = M 55 14 ∧ M' 75 322 = M 55 15 ∧ M' 75 323 = M 55 17 ∧ M' 55 31 = 1 ∧ (∀ j, j ≠ 31 → M' 55 j = M 55 j) ∧ ∀ k, k ≠ 55 → k ≠ 75 → M' k = M k
def zre (M M' : zMem) : Prop := (∀ i, i < 120 → M' 57 i = M 75 (0 + i)) ∧ (∀ i, i < 6 → M' 58 i = M 75 (120 + i)) ∧ (∀ i, i < 6 → M' 59 i = M 75 (126 + i)) ∧ (∀ i, i < 6 → M' 60 i = M 75 (132 + i)) ∧ (∀ i, i < 24 → M' 61 i = M 75 (138 + i)) ∧ (∀ i, i < 24 → M' 62 i = M 75 (162 + i)) ∧ (∀ i, i < 24 → M' 63 i = M 75 (186 + i)) ∧ (∀ i, i < 6 → M' 64 i = M 75 (210 + i)) ∧ (∀ i, i < 48 → M' 65 i = M 75 (216 + i)) ∧ (∀ i, i < 6 → M' 66 i = M 75 (264 + i)) ∧ (∀ i, i < 48 → M' 67 i = M 75 (270 + i)) ∧ M' 55 2 = M 75 318 ∧ M' 55 4 = M 75 319 ∧ M' 55 12 = M 75 320 ∧ M' 55 14 = M 75 321 ∧ M' 55 15 = M 75 322 ∧ M' 55 17 = M 75 323 ∧ (∀ j, j ≠ 2 → j ≠ 4 → j ≠ 12 → j ≠ 14 → j ≠ 15 → j ≠ 17 → M' 55 j = M 55 j) ∧ ∀ k, k ≠ 55 → ¬ (57 ≤ k ∧ k ≤ 67) → M' k = M k
theorem qc170 {d : Nat} {M : zMem} : zCi (d + 1) 170 [.inr (.inr 55)] M (fun r M' => r = 1 ∧ zim M M') := by
  refine zk170 (zv170_0 ⟨_, qc168 (n := 120) (off := 0) rfl (by decide) (by decide), ?_⟩)
  rintro v1 M1 ⟨rfl, i1, o1, f1⟩
  have F1 : ∀ k, k ≠ 75 → M1 k = M k := f1
  refine ⟨_, qc168 (n := 6) rfl (by decide) (by decide), ?_⟩
  rintro v2 M2 ⟨rfl, i2, o2, f2⟩
  have F2 : ∀ k, k ≠ 75 → M2 k = M k := fun k h => (f2 k h).trans (F1 k h)
  refine ⟨_, qc168 (n := 6) rfl (by decide) (by decide), ?_⟩
  rintro v3 M3 ⟨rfl, i3, o3, f3⟩
  have F3 : ∀ k, k ≠ 75 → M3 k = M k := fun k h => (f3 k h).trans (F2 k h)
  refine ⟨_, qc168 (n := 6) rfl (by decide) (by decide), ?_⟩
  rintro v4 M4 ⟨rfl, i4, o4, f4⟩
  have F4 : ∀ k, k ≠ 75 → M4 k = M k := fun k h => (f4 k h).trans (F3 k h)
  refine ⟨_, qc168 (n := 24) rfl (by decide) (by decide), ?_⟩
  rintro v5 M5 ⟨rfl, i5, o5, f5⟩
  have F5 : ∀ k, k ≠ 75 → M5 k = M k := fun k h => (f5 k h).trans (F4 k h)
  refine ⟨_, qc168 (n := 24) rfl (by decide) (by decide), ?_⟩
  rintro v6 M6 ⟨rfl, i6, o6, f6⟩
  have F6 : ∀ k, k ≠ 75 → M6 k = M k := fun k h => (f6 k h).trans (F5 k h)
  refine ⟨_, qc168 (n := 24) rfl (by decide) (by decide), ?_⟩
  rintro v7 M7 ⟨rfl, i7, o7, f7⟩
  have F7 : ∀ k, k ≠ 75 → M7 k = M k := fun k h => (f7 k h).trans (F6 k h)
  refine ⟨_, qc168 (n := 6) rfl (by decide) (by decide), ?_⟩
  rintro v8 M8 ⟨rfl, i8, o8, f8⟩
  have F8 : ∀ k, k ≠ 75 → M8 k = M k := fun k h => (f8 k h).trans (F7 k h)
  refine ⟨_, qc168 (n := 48) rfl (by decide) (by decide), ?_⟩
  rintro v9 M9 ⟨rfl, i9, o9, f9⟩
  have F9 : ∀ k, k ≠ 75 → M9 k = M k := fun k h => (f9 k h).trans (F8 k h)
  refine ⟨_, qc168 (n := 6) rfl (by decide) (by decide), ?_⟩
  rintro v10 M10 ⟨rfl, i10, o10, f10⟩
  have F10 : ∀ k, k ≠ 75 → M10 k = M k := fun k h => (f10 k h).trans (F9 k h)
  refine ⟨_, qc168 (n := 48) rfl (by decide) (by decide), ?_⟩
  rintro v11 M11 ⟨hv, i11, o11, f11⟩
  have F11 : ∀ k, k ≠ 75 → M11 k = M k := fun k h => (f11 k h).trans (F10 k h)
  have e0 : v11.toNat = 318 := by omega
  have e1 : (v11 + 1).toNat = 319 := by omega
  have e2 : (v11 + 2).toNat = 320 := by omega
  have e3 : (v11 + 3).toNat = 321 := by omega
  have e4 : (v11 + 4).toNat = 322 := by omega
  have e5 : (v11 + 5).toNat = 323 := by omega
  rw [e0, e1, e2, e3, e4, e5, F11 55 (by decide)]
  refine ⟨by omega, by omega, ⟨by omega, by omega⟩, by omega, by omega, ⟨by omega, by omega⟩, by omega, by omega, ⟨by omega, by omega⟩, by omega, by omega, ⟨by omega, by omega⟩, by omega, by omega, ⟨by omega, by omega⟩, by omega, by omega, Or.inr rfl, _, rfl, rfl, fun i hi => ?_, fun i hi => ?_, fun i hi => ?_, fun i hi => ?_, fun i hi => ?_, fun i hi => ?_, fun i hi => ?_, fun i hi => ?_, fun i hi => ?_, fun i hi => ?_, fun i hi => ?_, ?_, ?_, ?_, ?_, ?_, ?_, ?_, fun j hj => ?_, fun k h1 h2 => ?_⟩
  · rw [zb_uk (by decide), zb_ui (by omega), zb_ui (by omega), zb_ui (by omega), zb_ui (by omega), zb_ui (by omega), zb_ui (by omega), o11 _ (by omega), o10 _ (by omega), o9 _ (by omega), o8 _ (by omega), o7 _ (by omega), o6 _ (by omega), o5 _ (by omega), o4 _ (by omega), o3 _ (by omega), o2 _ (by omega)]
    exact (i1 i hi).trans (rfl)
  · rw [zb_uk (by decide), zb_ui (by omega), zb_ui (by omega), zb_ui (by omega), zb_ui (by omega), zb_ui (by omega), zb_ui (by omega), o11 _ (by omega), o10 _ (by omega), o9 _ (by omega), o8 _ (by omega), o7 _ (by omega), o6 _ (by omega), o5 _ (by omega), o4 _ (by omega), o3 _ (by omega)]
    exact (i2 i hi).trans (congrFun (F1 58 (by decide)) i)
  · rw [zb_uk (by decide), zb_ui (by omega), zb_ui (by omega), zb_ui (by omega), zb_ui (by omega), zb_ui (by omega), zb_ui (by omega), o11 _ (by omega), o10 _ (by omega), o9 _ (by omega), o8 _ (by omega), o7 _ (by omega), o6 _ (by omega), o5 _ (by omega), o4 _ (by omega)]
    exact (i3 i hi).trans (congrFun (F2 59 (by decide)) i)
  · rw [zb_uk (by decide), zb_ui (by omega), zb_ui (by omega), zb_ui (by omega), zb_ui (by omega), zb_ui (by omega), zb_ui (by omega), o11 _ (by omega), o10 _ (by omega), o9 _ (by omega), o8 _ (by omega), o7 _ (by omega), o6 _ (by omega), o5 _ (by omega)]
    exact (i4 i hi).trans (congrFun (F3 60 (by decide)) i)
  · rw [zb_uk (by decide), zb_ui (by omega), zb_ui (by omega), zb_ui (by omega), zb_ui (by omega), zb_ui (by omega), zb_ui (by omega), o11 _ (by omega), o10 _ (by omega), o9 _ (by omega), o8 _ (by omega), o7 _ (by omega), o6 _ (by omega)]
    exact (i5 i hi).trans (congrFun (F4 61 (by decide)) i)
  · rw [zb_uk (by decide), zb_ui (by omega), zb_ui (by omega), zb_ui (by omega), zb_ui (by omega), zb_ui (by omega), zb_ui (by omega), o11 _ (by omega), o10 _ (by omega), o9 _ (by omega), o8 _ (by omega), o7 _ (by omega)]
    exact (i6 i hi).trans (congrFun (F5 62 (by decide)) i)
  · rw [zb_uk (by decide), zb_ui (by omega), zb_ui (by omega), zb_ui (by omega), zb_ui (by omega), zb_ui (by omega), zb_ui (by omega), o11 _ (by omega), o10 _ (by omega), o9 _ (by omega), o8 _ (by omega)]
    exact (i7 i hi).trans (congrFun (F6 63 (by decide)) i)
  · rw [zb_uk (by decide), zb_ui (by omega), zb_ui (by omega), zb_ui (by omega), zb_ui (by omega), zb_ui (by omega), zb_ui (by omega), o11 _ (by omega), o10 _ (by omega), o9 _ (by omega)]
    exact (i8 i hi).trans (congrFun (F7 64 (by decide)) i)
  · rw [zb_uk (by decide), zb_ui (by omega), zb_ui (by omega), zb_ui (by omega), zb_ui (by omega), zb_ui (by omega), zb_ui (by omega), o11 _ (by omega), o10 _ (by omega)]
    exact (i9 i hi).trans (congrFun (F8 65 (by decide)) i)
  · rw [zb_uk (by decide), zb_ui (by omega), zb_ui (by omega), zb_ui (by omega), zb_ui (by omega), zb_ui (by omega), zb_ui (by omega), o11 _ (by omega)]
    exact (i10 i hi).trans (congrFun (F9 66 (by decide)) i)
  · rw [zb_uk (by decide), zb_ui (by omega), zb_ui (by omega), zb_ui (by omega), zb_ui (by omega), zb_ui (by omega), zb_ui (by omega)]
    exact (i11 i hi).trans (congrFun (F10 67 (by decide)) i)
  · rw [zb_uk (by decide), zb_ui (by decide), zb_ui (by decide), zb_ui (by decide), zb_ui (by decide), zb_ui (by decide), zb_us]
  · rw [zb_uk (by decide), zb_ui (by decide), zb_ui (by decide), zb_ui (by decide), zb_ui (by decide), zb_us]
  · rw [zb_uk (by decide), zb_ui (by decide), zb_ui (by decide), zb_ui (by decide), zb_us]
  · rw [zb_uk (by decide), zb_ui (by decide), zb_ui (by decide), zb_us]
  · rw [zb_uk (by decide), zb_ui (by decide), zb_us]
  · rw [zb_uk (by decide), zb_us]
  · exact zb_us
  · rw [zb_ui hj, zb_uk (by decide), zb_uk (by decide), zb_uk (by decide), zb_uk (by decide), zb_uk (by decide), zb_uk (by decide), F11 55 (by decide)]
  · rw [zb_uk h1, zb_uk h2, zb_uk h2, zb_uk h2, zb_uk h2, zb_uk h2, zb_uk h2, F11 k h2]
theorem qc171 {d : Nat} {M : zMem} : zCi (d + 1) 171 [.inr (.inr 55)] M (fun r M' => (M 55 31 = 0 ∧ r = -4 ∧ M' = M) ∨ (M 55 31 ≠ 0 ∧ r = 1 ∧ zre M M')) := by
  refine zk171 (zv171_0 ⟨fun h0 => ⟨_, qc169 (n := 120) (off := 0) rfl (by decide) (by decide), ?_⟩, fun h0 => ⟨_, rfl, Or.inl ⟨by omega, rfl, rfl⟩⟩⟩)
  rintro v1 M1 ⟨rfl, i1, f1⟩
  have F1 : ∀ k, ¬ (57 ≤ k ∧ k ≤ 67) → M1 k = M k := fun k h => f1 k (by omega)
  refine ⟨_, qc169 (n := 6) rfl (by decide) (by decide), ?_⟩
  rintro v2 M2 ⟨rfl, i2, f2⟩
  have F2 : ∀ k, ¬ (57 ≤ k ∧ k ≤ 67) → M2 k = M k := fun k h => (f2 k (by omega)).trans (F1 k h)
  refine ⟨_, qc169 (n := 6) rfl (by decide) (by decide), ?_⟩
  rintro v3 M3 ⟨rfl, i3, f3⟩
  have F3 : ∀ k, ¬ (57 ≤ k ∧ k ≤ 67) → M3 k = M k := fun k h => (f3 k (by omega)).trans (F2 k h)
  refine ⟨_, qc169 (n := 6) rfl (by decide) (by decide), ?_⟩
  rintro v4 M4 ⟨rfl, i4, f4⟩
  have F4 : ∀ k, ¬ (57 ≤ k ∧ k ≤ 67) → M4 k = M k := fun k h => (f4 k (by omega)).trans (F3 k h)
  refine ⟨_, qc169 (n := 24) rfl (by decide) (by decide), ?_⟩
  rintro v5 M5 ⟨rfl, i5, f5⟩
  have F5 : ∀ k, ¬ (57 ≤ k ∧ k ≤ 67) → M5 k = M k := fun k h => (f5 k (by omega)).trans (F4 k h)
  refine ⟨_, qc169 (n := 24) rfl (by decide) (by decide), ?_⟩
  rintro v6 M6 ⟨rfl, i6, f6⟩
  have F6 : ∀ k, ¬ (57 ≤ k ∧ k ≤ 67) → M6 k = M k := fun k h => (f6 k (by omega)).trans (F5 k h)
  refine ⟨_, qc169 (n := 24) rfl (by decide) (by decide), ?_⟩
  rintro v7 M7 ⟨rfl, i7, f7⟩
  have F7 : ∀ k, ¬ (57 ≤ k ∧ k ≤ 67) → M7 k = M k := fun k h => (f7 k (by omega)).trans (F6 k h)
  refine ⟨_, qc169 (n := 6) rfl (by decide) (by decide), ?_⟩
  rintro v8 M8 ⟨rfl, i8, f8⟩
  have F8 : ∀ k, ¬ (57 ≤ k ∧ k ≤ 67) → M8 k = M k := fun k h => (f8 k (by omega)).trans (F7 k h)
  refine ⟨_, qc169 (n := 48) rfl (by decide) (by decide), ?_⟩
  rintro v9 M9 ⟨rfl, i9, f9⟩
  have F9 : ∀ k, ¬ (57 ≤ k ∧ k ≤ 67) → M9 k = M k := fun k h => (f9 k (by omega)).trans (F8 k h)
  refine ⟨_, qc169 (n := 6) rfl (by decide) (by decide), ?_⟩
  rintro v10 M10 ⟨rfl, i10, f10⟩
  have F10 : ∀ k, ¬ (57 ≤ k ∧ k ≤ 67) → M10 k = M k := fun k h => (f10 k (by omega)).trans (F9 k h)
  refine ⟨_, qc169 (n := 48) rfl (by decide) (by decide), ?_⟩
  rintro v11 M11 ⟨hv, i11, f11⟩
  have F11 : ∀ k, ¬ (57 ≤ k ∧ k ≤ 67) → M11 k = M k := fun k h => (f11 k (by omega)).trans (F10 k h)
  have e0 : v11.toNat = 318 := by omega
  have e1 : (v11 + 1).toNat = 319 := by omega
  have e2 : (v11 + 2).toNat = 320 := by omega
  have e3 : (v11 + 3).toNat = 321 := by omega
  have e4 : (v11 + 4).toNat = 322 := by omega
  have e5 : (v11 + 5).toNat = 323 := by omega
  rw [e0, e1, e2, e3, e4, e5, F11 75 (by decide)]
  refine ⟨by omega, by omega, ⟨by omega, by omega⟩, by omega, by omega, ⟨by omega, by omega⟩, by omega, by omega, ⟨by omega, by omega⟩, by omega, by omega, ⟨by omega, by omega⟩, by omega, by omega, ⟨by omega, by omega⟩, by omega, by omega, _, rfl, Or.inr ⟨h0, rfl, fun i hi => ?_, fun i hi => ?_, fun i hi => ?_, fun i hi => ?_, fun i hi => ?_, fun i hi => ?_, fun i hi => ?_, fun i hi => ?_, fun i hi => ?_, fun i hi => ?_, fun i hi => ?_, ?_, ?_, ?_, ?_, ?_, ?_, fun j hj2 hj4 hj12 hj14 hj15 hj17 => ?_, fun k h1 h2 => ?_⟩⟩
  · rw [zb_uk (by decide), zb_uk (by decide), zb_uk (by decide), zb_uk (by decide), zb_uk (by decide), zb_uk (by decide), f11 57 (by decide), f10 57 (by decide), f9 57 (by decide), f8 57 (by decide), f7 57 (by decide), f6 57 (by decide), f5 57 (by decide), f4 57 (by decide), f3 57 (by decide), f2 57 (by decide)]
    exact (i1 i hi).trans (rfl)
  · rw [zb_uk (by decide), zb_uk (by decide), zb_uk (by decide), zb_uk (by decide), zb_uk (by decide), zb_uk (by decide), f11 58 (by decide), f10 58 (by decide), f9 58 (by decide), f8 58 (by decide), f7 58 (by decide), f6 58 (by decide), f5 58 (by decide), f4 58 (by decide), f3 58 (by decide)]
    exact (i2 i hi).trans (congrFun (F1 75 (by decide)) _)
  · rw [zb_uk (by decide), zb_uk (by decide), zb_uk (by decide), zb_uk (by decide), zb_uk (by decide), zb_uk (by decide), f11 59 (by decide), f10 59 (by decide), f9 59 (by decide), f8 59 (by decide), f7 59 (by decide), f6 59 (by decide), f5 59 (by decide), f4 59 (by decide)]
    exact (i3 i hi).trans (congrFun (F2 75 (by decide)) _)
  · rw [zb_uk (by decide), zb_uk (by decide), zb_uk (by decide), zb_uk (by decide), zb_uk (by decide), zb_uk (by decide), f11 60 (by decide), f10 60 (by decide), f9 60 (by decide), f8 60 (by decide), f7 60 (by decide), f6 60 (by decide), f5 60 (by decide)]
    exact (i4 i hi).trans (congrFun (F3 75 (by decide)) _)
  · rw [zb_uk (by decide), zb_uk (by decide), zb_uk (by decide), zb_uk (by decide), zb_uk (by decide), zb_uk (by decide), f11 61 (by decide), f10 61 (by decide), f9 61 (by decide), f8 61 (by decide), f7 61 (by decide), f6 61 (by decide)]
    exact (i5 i hi).trans (congrFun (F4 75 (by decide)) _)
  · rw [zb_uk (by decide), zb_uk (by decide), zb_uk (by decide), zb_uk (by decide), zb_uk (by decide), zb_uk (by decide), f11 62 (by decide), f10 62 (by decide), f9 62 (by decide), f8 62 (by decide), f7 62 (by decide)]
    exact (i6 i hi).trans (congrFun (F5 75 (by decide)) _)
  · rw [zb_uk (by decide), zb_uk (by decide), zb_uk (by decide), zb_uk (by decide), zb_uk (by decide), zb_uk (by decide), f11 63 (by decide), f10 63 (by decide), f9 63 (by decide), f8 63 (by decide)]
    exact (i7 i hi).trans (congrFun (F6 75 (by decide)) _)
  · rw [zb_uk (by decide), zb_uk (by decide), zb_uk (by decide), zb_uk (by decide), zb_uk (by decide), zb_uk (by decide), f11 64 (by decide), f10 64 (by decide), f9 64 (by decide)]
    exact (i8 i hi).trans (congrFun (F7 75 (by decide)) _)
  · rw [zb_uk (by decide), zb_uk (by decide), zb_uk (by decide), zb_uk (by decide), zb_uk (by decide), zb_uk (by decide), f11 65 (by decide), f10 65 (by decide)]
    exact (i9 i hi).trans (congrFun (F8 75 (by decide)) _)
  · rw [zb_uk (by decide), zb_uk (by decide), zb_uk (by decide), zb_uk (by decide), zb_uk (by decide), zb_uk (by decide), f11 66 (by decide)]
    exact (i10 i hi).trans (congrFun (F9 75 (by decide)) _)
  · rw [zb_uk (by decide), zb_uk (by decide), zb_uk (by decide), zb_uk (by decide), zb_uk (by decide), zb_uk (by decide)]
    exact (i11 i hi).trans (congrFun (F10 75 (by decide)) _)
  · rw [zb_ui (by decide), zb_ui (by decide), zb_ui (by decide), zb_ui (by decide), zb_ui (by decide), zb_us]
  · rw [zb_ui (by decide), zb_ui (by decide), zb_ui (by decide), zb_ui (by decide), zb_us]
  · rw [zb_ui (by decide), zb_ui (by decide), zb_ui (by decide), zb_us]
  · rw [zb_ui (by decide), zb_ui (by decide), zb_us]
  · rw [zb_ui (by decide), zb_us]
  · rw [zb_us]
  · rw [zb_ui hj17, zb_ui hj15, zb_ui hj14, zb_ui hj12, zb_ui hj4, zb_ui hj2, F11 55 (by decide)]
  · rw [zb_uk h1, zb_uk h1, zb_uk h1, zb_uk h1, zb_uk h1, zb_uk h1, F11 k h2]
