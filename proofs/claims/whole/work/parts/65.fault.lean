/-! the letter's faults: both sides -/
/-- the first fault from byte i on: k places opened, b choices of the open one (0: none is open), w bytes of the choice -/
def zfl (t : Nat → Nat) (n : Nat) : Nat → Nat → Nat → Nat → Nat → Int
  | 0, _, _, b, _ => if b ≠ 0 ∨ n = 0 then (n : Int) else -1
  | m + 1, i, k, b, w =>
    if t i = 91 then (if b ≠ 0 ∨ k = 6 then (i : Int) else zfl t n m (i + 1) (k + 1) 1 0)
    else if t i = 47 then (if b = 0 ∨ b = 4 then (i : Int) else zfl t n m (i + 1) k (b + 1) 0)
    else if t i = 93 then (if b < 2 then (i : Int) else zfl t n m (i + 1) k 0 0)
    else if b = 0 then zfl t n m (i + 1) k 0 0
    else if w = 8 then (i : Int) else zfl t n m (i + 1) k b (w + 1)
theorem qc31 {d : Nat} {M : zMem} {t : Nat → Nat} {n : Nat} (hn : n ≤ 120) (ht : ∀ i, i < n → M 3 i = t i) : zCi d 31 [.inr (.inr 3), .inl (n : Int)] M (fun r M' => r = zfl t n n 0 0 0 0 ∧ M' = M) := by
  refine zk31 (zv31_0 _ ?_)
  have key : ∀ (m i k b w : Nat) (x2 x3 x4 x5 : Int), i + m = n → x5 = i → x2 = k → x3 = (b : Int) - 1 → (b = 0 ∨ x4 = w) → k ≤ 6 → b ≤ 4 → w ≤ 8 → zBg d 31 10 [zR 3, zI (n : Int), zI x2, zI x3, zI x4, zI x5, none] [] M (fun q M' => ∃ z : Int, q = some (.inl z) ∧ z = zfl t n m i k b w ∧ M' = M) := by
    intro m
    induction m with
    | zero =>
      intro i k b w x2 x3 x4 x5 hi e5 e2 e3 e4 hk hb hw
      unfold zfl
      refine zv31_10 _ _ _ _ _ ⟨fun _ => ⟨fun g => ⟨_, rfl, ?_, rfl⟩, fun g => ⟨fun g2 => ⟨_, rfl, ?_, rfl⟩, fun g2 => ⟨_, rfl, ?_, rfl⟩⟩⟩, fun g => absurd (by omega) g⟩
      · rw [if_pos (by omega)]
      · rw [if_neg (by omega)]
      · rw [if_pos (by omega)]
    | succ m ih =>
      intro i k b w x2 x3 x4 x5 hi e5 e2 e3 e4 hk hb hw
      subst e5
      have hti := ht i (by omega)
      unfold zfl
      refine zv31_10 _ _ _ _ _ ?_
      rw [Int.toNat_natCast, hti]
      refine ⟨fun g => by omega, fun _ => ⟨by omega, by omega, fun c1 => ⟨fun c2 => ⟨fun c3 => ⟨fun g => ⟨⟨by omega, by omega⟩, ?_⟩, fun g => ⟨fun g2 => ⟨⟨by omega, by omega⟩, ⟨by omega, by omega⟩, ?_⟩, fun g2 => ⟨_, rfl, ?_, rfl⟩⟩⟩, fun c3 => ⟨fun g => ⟨⟨by omega, by omega⟩, ?_⟩, fun g => ⟨_, rfl, ?_, rfl⟩⟩⟩, fun c2 => ⟨fun g => ⟨_, rfl, ?_, rfl⟩, fun g => ⟨fun g2 => ⟨⟨by omega, by omega⟩, ⟨by omega, by omega⟩, ?_⟩, fun g2 => ⟨_, rfl, ?_, rfl⟩⟩⟩⟩, fun c1 => ⟨fun g => ⟨_, rfl, ?_, rfl⟩, fun g => ⟨fun g2 => ⟨⟨by omega, by omega⟩, ⟨by omega, by omega⟩, ?_⟩, fun g2 => ⟨_, rfl, ?_, rfl⟩⟩⟩⟩⟩
      · rw [if_neg (by omega), if_neg (by omega), if_neg (by omega), if_pos (by omega)]
        exact ih (i + 1) k 0 0 _ _ _ _ (by omega) (by omega) (by omega) (by omega) (Or.inl rfl) hk (by omega) (by omega)
      · rw [if_neg (by omega), if_neg (by omega), if_neg (by omega), if_neg (by omega), if_neg (by omega)]
        exact ih (i + 1) k b (w + 1) _ _ _ _ (by omega) (by omega) (by omega) (by omega) (by omega) hk (by omega) (by omega)
      · rw [if_neg (by omega), if_neg (by omega), if_neg (by omega), if_neg (by omega), if_pos (by omega)]
      · rw [if_neg (by omega), if_neg (by omega), if_pos (by omega), if_neg (by omega)]
        exact ih (i + 1) k 0 0 _ _ _ _ (by omega) (by omega) (by omega) (by omega) (Or.inl rfl) hk (by omega) (by omega)
      · rw [if_neg (by omega), if_neg (by omega), if_pos (by omega), if_pos (by omega)]
      · rw [if_neg (by omega), if_pos (by omega), if_pos (by omega)]
      · rw [if_neg (by omega), if_pos (by omega), if_neg (by omega)]
        exact ih (i + 1) k (b + 1) 0 _ _ _ _ (by omega) (by omega) (by omega) (by omega) (by omega) hk (by omega) (by omega)
      · rw [if_neg (by omega), if_pos (by omega), if_pos (by omega)]
      · rw [if_pos (by omega), if_pos (by omega)]
      · rw [if_pos (by omega), if_neg (by omega)]
        exact ih (i + 1) (k + 1) 1 0 _ _ _ _ (by omega) (by omega) (by omega) (by omega) (by omega) (by omega) (by omega) (by omega)
      · rw [if_pos (by omega), if_pos (by omega)]
  exact key n 0 0 0 0 _ _ _ _ (by omega) (by omega) (by omega) (by omega) (Or.inl rfl) (by omega) (by omega) (by omega)
theorem qc112 {d : Nat} {M : zMem} {t : Nat → Nat} {n : Nat} (hn : n ≤ 120) (htn : M 55 1 = n) (ht : ∀ i, i < n → M 56 i = t i) : zCi d 112 [.inr (.inr 55)] M (fun r M' => (0 ≤ zfl t n n 0 0 0 0 ∧ r = zfl t n n 0 0 0 0 ∨ zfl t n n 0 0 0 0 < 0 ∧ r < 0) ∧ M' = M) := by
  refine zk112 (zv112_0 ?_)
  have key : ∀ (m i k b w : Nat) (x1 x2 x3 x4 x5 : Int), i + m = n → x5 = i → x1 = k → (b = 0 ∧ x4 = 0 ∨ b ≠ 0 ∧ x4 = 1 ∧ x2 = b ∧ x3 = w) → 0 ≤ x2 → x2 ≤ 4 → 0 ≤ x3 → x3 ≤ (i : Int) → k ≤ 6 → b ≤ 4 → w ≤ 8 → zBg d 112 12 [zR 55, zI x1, zI x2, zI x3, zI x4, zI x5, none, none] [] M (fun q M' => ∃ z : Int, q = some (.inl z) ∧ (0 ≤ zfl t n m i k b w ∧ z = zfl t n m i k b w ∨ zfl t n m i k b w < 0 ∧ z < 0) ∧ M' = M) := by
    intro m
    induction m with
    | zero =>
      intro i k b w x1 x2 x3 x4 x5 hi e5 e1 e4 p2 q2 p3 q3 hk hb hw
      unfold zfl
      refine zv112_12 _ _ _ _ _ ?_
      rw [htn]
      refine ⟨fun _ => ⟨fun g => ⟨_, rfl, ?_, rfl⟩, fun g => ⟨fun g2 => ⟨_, rfl, ?_, rfl⟩, fun g2 => ⟨_, rfl, ?_, rfl⟩⟩⟩, fun g => absurd (by omega) g⟩
      · rw [if_pos (by omega)]; omega
      · rw [if_neg (by omega)]; omega
      · rw [if_pos (by omega)]; omega
    | succ m ih =>
      intro i k b w x1 x2 x3 x4 x5 hi e5 e1 e4 p2 q2 p3 q3 hk hb hw
      subst e5
      have hti := ht i (by omega)
      unfold zfl
      refine zv112_12 _ _ _ _ _ ?_
      rw [Int.toNat_natCast, hti, htn]
      have S : ∀ z : Int, z = (i : Int) → ∃ z' : Int, zI (i : Int) = some (.inl z') ∧ (0 ≤ z ∧ z' = z ∨ z < 0 ∧ z' < 0) ∧ M = M := fun z hz => ⟨_, rfl, Or.inl ⟨by omega, by omega⟩, rfl⟩
      refine ⟨fun g => by omega, fun _ => ⟨by omega, by omega, fun c1 => ⟨fun c2 => ⟨fun c3 => ⟨fun g => ⟨⟨by omega, by omega⟩, fun _ => ⟨⟨by omega, by omega⟩, ?_⟩, fun y => absurd rfl y⟩, fun g => ⟨fun g2 => ⟨⟨by omega, by omega⟩, fun _ => ⟨⟨by omega, by omega⟩, ?_⟩, fun y => absurd rfl y⟩, fun g2 => ⟨⟨by omega, by omega⟩, fun y => absurd y (by decide), fun _ => S _ ?_⟩⟩⟩, fun c3 => ⟨fun g => ⟨fun y => absurd y (by decide), fun _ => S _ ?_⟩, fun g => ⟨fun g2 => ⟨fun _ => ⟨⟨by omega, by omega⟩, ?_⟩, fun y => absurd rfl y⟩, fun g2 => ⟨fun y => absurd y (by decide), fun _ => S _ ?_⟩⟩⟩⟩, fun c2 => ⟨fun g => ⟨⟨by omega, by omega⟩, fun y => absurd y (by decide), fun _ => S _ ?_⟩, fun g => ⟨fun g2 => ⟨⟨by omega, by omega⟩, fun _ => ⟨⟨by omega, by omega⟩, ?_⟩, fun y => absurd rfl y⟩, fun g2 => ⟨⟨by omega, by omega⟩, fun y => absurd y (by decide), fun _ => S _ ?_⟩⟩⟩⟩, fun c1 => ⟨fun g => ⟨⟨by omega, by omega⟩, fun y => absurd y (by decide), fun _ => S _ ?_⟩, fun g => ⟨fun g2 => ⟨⟨by omega, by omega⟩, fun _ => ⟨⟨by omega, by omega⟩, ?_⟩, fun y => absurd rfl y⟩, fun g2 => ⟨⟨by omega, by omega⟩, fun y => absurd y (by decide), fun _ => S _ ?_⟩⟩⟩⟩⟩
      · rw [if_neg (by omega), if_neg (by omega), if_neg (by omega), if_pos (by omega)]
        exact ih (i + 1) k 0 0 _ _ _ _ _ (by omega) (by omega) (by omega) (by omega) (by omega) (by omega) (by omega) (by omega) hk (by omega) (by omega)
      · rw [if_neg (by omega), if_neg (by omega), if_neg (by omega), if_neg (by omega), if_neg (by omega)]
        exact ih (i + 1) k b (w + 1) _ _ _ _ _ (by omega) (by omega) (by omega) (by omega) (by omega) (by omega) (by omega) (by omega) hk (by omega) (by omega)
      · rw [if_neg (by omega), if_neg (by omega), if_neg (by omega), if_neg (by omega), if_pos (by omega)]
      · rw [if_neg (by omega), if_neg (by omega), if_pos (by omega), if_pos (by omega)]
      · rw [if_neg (by omega), if_neg (by omega), if_pos (by omega), if_neg (by omega)]
        exact ih (i + 1) k 0 0 _ _ _ _ _ (by omega) (by omega) (by omega) (by omega) (by omega) (by omega) (by omega) (by omega) hk (by omega) (by omega)
      · rw [if_neg (by omega), if_neg (by omega), if_pos (by omega), if_pos (by omega)]
      · rw [if_neg (by omega), if_pos (by omega), if_pos (by omega)]
      · rw [if_neg (by omega), if_pos (by omega), if_neg (by omega)]
        exact ih (i + 1) k (b + 1) 0 _ _ _ _ _ (by omega) (by omega) (by omega) (by omega) (by omega) (by omega) (by omega) (by omega) hk (by omega) (by omega)
      · rw [if_neg (by omega), if_pos (by omega), if_pos (by omega)]
      · rw [if_pos (by omega), if_pos (by omega)]
      · rw [if_pos (by omega), if_neg (by omega)]
        exact ih (i + 1) (k + 1) 1 0 _ _ _ _ _ (by omega) (by omega) (by omega) (by omega) (by omega) (by omega) (by omega) (by omega) (by omega) (by omega) (by omega)
      · rw [if_pos (by omega), if_pos (by omega)]
  exact key n 0 0 0 0 _ _ _ _ _ (by omega) (by omega) (by omega) (Or.inl ⟨rfl, by omega⟩) (by omega) (by omega) (by omega) (by omega) (by omega) (by omega) (by omega)
