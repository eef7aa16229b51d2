/-! letter of both sides -/
def zltC (t : Nat → Nat) (n pl : Nat) (ch st en : Nat → Nat) (M M' : zMem) : Prop := M' 13 4 = 1 ∧ M' 13 5 = n ∧ M' 13 6 = pl ∧ (∀ i, i < n → M' 14 i = t i) ∧ (∀ p, p < pl → M' 15 p = ch p) ∧ zSet (M' 16) (M' 17) ch st en pl 0 ∧ (∀ i, i < 24 → M' 5 i = 0) ∧ (∀ i, i < 6 → M' 6 i = -1) ∧ (∀ i, i < 6 → M' 8 i = 5) ∧ M' 4 9 = 0 ∧ M' 4 10 = 0 ∧ (∀ j, j ≠ 9 → j ≠ 10 → M' 4 j = M 4 j) ∧ M' 2 1 = 0 ∧ (∀ j, j ≠ 1 → M' 2 j = M 2 j) ∧ ∀ k, k ≠ 2 → k ≠ 4 → k ≠ 5 → k ≠ 6 → k ≠ 8 → ¬ (13 ≤ k ∧ k ≤ 17) → M' k = M k
theorem qc72a {d : Nat} {M : zMem} {t : Nat → Nat} {n : Nat} (htn : M 2 1 = n) (hn : n ≤ 120) (ht : ∀ i, i < n → M 3 i = t i) (hf : 0 ≤ zfl t n n 0 0 0 0) (hf2 : zfl t n n 0 0 0 0 ≤ n) : zCi (d + 1) 72 [.inr (.inr 0)] M (fun r M' => r = -20 - zfl t n n 0 0 0 0 ∧ M' = zup M 2 1 0) := by
  refine zk72 (zv72_0 ?_)
  rw [htn]
  refine ⟨_, qc31 hn ht, ?_⟩
  rintro v M1 ⟨rfl, rfl⟩
  exact ⟨fun _ => ⟨fun _ => ⟨⟨by omega, by omega⟩, _, rfl, rfl, rfl⟩, fun g => absurd hf g⟩, fun g => absurd hf g⟩
theorem qc54 {d : Nat} {M : zMem} {t : Nat → Nat} {n pl : Nat} {ch st en : Nat → Nat} (htn : M 2 1 = n) (hn : n ≤ 120) (ht : ∀ i, i < n → M 3 i = t i) (hL : zLay t n pl ch st en n 0 0 0 0) : zCv (d + 1) 54 [.inr (.inr 4), .inr (.inr 2)] M (fun M' => zltC t n pl ch st en M (zup M' 2 1 0) ∧ M' 13 6 = pl) := by
  refine zk54 (zv54_0 ?_)
  rw [htn]
  refine ⟨_, qc32 hn ht hL, ?_⟩
  rintro M1 ⟨a1, a2, a3, a4, a5, a6, a7⟩
  refine ⟨_, qc182 (n := 24) rfl (by decide), ?_⟩
  rintro M2 ⟨b1, b2⟩
  refine ⟨_, qc182 (n := 6) rfl (by decide), ?_⟩
  rintro M3 ⟨c1, c2⟩
  refine ⟨_, qc182 (n := 6) rfl (by decide), ?_⟩
  rintro M4 ⟨e1, e2⟩
  have h4 : ∀ k, k ≠ 5 → k ≠ 6 → k ≠ 8 → M4 k = M1 k := fun k g1 g2 g3 => by rw [e1 k g3, c1 k g2, b1 k g1]
  have hz : ∀ k, k ≠ 2 → k ≠ 4 → zup (zup (zup M4 4 9 0) 4 10 0) 2 1 0 k = M4 k := fun k g1 g2 => by rw [zb_uk g1, zb_uk g2, zb_uk g2]
  refine ⟨rfl, ⟨?_, ?_, ?_, ?_, ?_, ?_, ?_, ?_, ?_, ?_, ?_, ?_, zb_us, ?_, ?_⟩, ?_⟩
  · rw [hz _ (by decide) (by decide), h4 _ (by decide) (by decide) (by decide)]; exact a1
  · rw [hz _ (by decide) (by decide), h4 _ (by decide) (by decide) (by decide)]; exact a2
  · rw [hz _ (by decide) (by decide), h4 _ (by decide) (by decide) (by decide)]; exact a3
  · rw [hz _ (by decide) (by decide), h4 _ (by decide) (by decide) (by decide)]; exact a4
  · rw [hz _ (by decide) (by decide), h4 _ (by decide) (by decide) (by decide)]; exact a5
  · rw [hz _ (by decide) (by decide), hz _ (by decide) (by decide), h4 _ (by decide) (by decide) (by decide), h4 _ (by decide) (by decide) (by decide)]; exact a6
  · rw [hz _ (by decide) (by decide), e1 _ (by decide), c1 _ (by decide)]; exact b2
  · rw [hz _ (by decide) (by decide), e1 _ (by decide)]; exact c2
  · rw [hz _ (by decide) (by decide)]; exact e2
  · rw [zb_uk (by decide), zb_ui (by decide), zb_us]
  · rw [zb_uk (by decide), zb_us]
  · intro j g1 g2
    rw [zb_uk (by decide), zb_ui g2, zb_ui g1, h4 _ (by decide) (by decide) (by decide), a7 _ (by decide)]
  · intro j g1
    rw [zb_ui g1, zb_uk (by decide), zb_uk (by decide), h4 _ (by decide) (by decide) (by decide), a7 _ (by decide)]
  · intro k g1 g2 g3 g4 g5 g6
    rw [hz _ g1 g2, h4 _ g3 g4 g5, a7 _ g6]
  · rw [zb_uk (by decide), zb_uk (by decide), h4 _ (by decide) (by decide) (by decide)]; exact a3
theorem qc72b {d : Nat} {M : zMem} {t : Nat → Nat} {n pl : Nat} {ch st en : Nat → Nat} (htn : M 2 1 = n) (hn : n ≤ 120) (ht : ∀ i, i < n → M 3 i = t i) (hf : zfl t n n 0 0 0 0 < 0) (hL : zLay t n pl ch st en n 0 0 0 0) : zCi (d + 2) 72 [.inr (.inr 0)] M (fun r M' => r = pl ∧ zltC t n pl ch st en M M') := by
  refine zk72 (zv72_0 ?_)
  rw [htn]
  refine ⟨_, qc31 hn ht, ?_⟩
  rintro v M1 ⟨rfl, rfl⟩
  refine ⟨fun g => absurd g (by omega), fun _ => ⟨_, qc54 htn hn ht hL, ?_⟩⟩
  rintro M2 ⟨h1, h2⟩
  exact ⟨fun g => absurd g (by omega), fun _ => ⟨_, rfl, h2, h1⟩⟩
def zltR (t : Nat → Nat) (n pl : Nat) (ch st en : Nat → Nat) (M M' : zMem) : Prop := M' 55 2 = n ∧ M' 55 4 = pl ∧ (∀ i, i < n → M' 57 i = t i) ∧ (∀ p, p < pl → M' 60 p = ch p ∧ M' 59 p = en (4 * p + (ch p - 1))) ∧ zSet (M' 61) (M' 62) ch st en pl 0 ∧ (∀ i, i < 24 → M' 63 i = 0) ∧ (∀ i, i < 6 → M' 64 i = -1) ∧ (∀ i, i < 6 → M' 66 i = 5) ∧ M' 55 12 = 0 ∧ M' 55 17 = 0 ∧ M' 55 1 = 0 ∧ (∀ j, j ≠ 1 → j ≠ 2 → j ≠ 4 → j ≠ 12 → j ≠ 17 → M' 55 j = M 55 j) ∧ ∀ k, k ≠ 55 → ¬ (57 ≤ k ∧ k ≤ 64) → k ≠ 66 → M' k = M k
theorem qc114a {d : Nat} {M : zMem} {t : Nat → Nat} {n : Nat} (htn : M 55 1 = n) (hn : n ≤ 120) (ht : ∀ i, i < n → M 56 i = t i) (hf : 0 ≤ zfl t n n 0 0 0 0) (hf2 : zfl t n n 0 0 0 0 ≤ n) : zCi (d + 1) 114 [.inr (.inr 55)] M (fun r M' => r = -20 - zfl t n n 0 0 0 0 ∧ M' = zup M 55 1 0) := by
  refine zk114 (zv114_0 ⟨_, qc112 hn htn ht, ?_⟩)
  rintro v M1 ⟨hv, rfl⟩
  exact ⟨fun g => by omega, fun _ => ⟨⟨by omega, by omega⟩, _, rfl, by omega, rfl⟩⟩
theorem qc114b {d : Nat} {M : zMem} {t : Nat → Nat} {n pl : Nat} {ch st en : Nat → Nat} (htn : M 55 1 = n) (hn : n ≤ 120) (ht : ∀ i, i < n → M 56 i = t i) (hf : zfl t n n 0 0 0 0 < 0) (hL : zLay t n pl ch st en n 0 0 0 0) : zCi (d + 1) 114 [.inr (.inr 55)] M (fun r M' => r = pl ∧ zltR t n pl ch st en M M') := by
  refine zk114 (zv114_0 ⟨_, qc112 hn htn ht, ?_⟩)
  rintro v M1 ⟨hv, rfl⟩
  refine ⟨fun _ => ⟨_, qc113 hn htn ht hL, ?_⟩, fun g => absurd (by omega) g⟩
  rintro M2 ⟨a1, a2, a3, a4, a5, a6, a7⟩
  have k2 : ∀ (m k : Nat) (M3 : zMem), k + m = 6 → (∀ i, i < 24 → M3 63 i = 0) → (∀ i, i < k → M3 64 i = -1) → (∀ i, i < k → M3 66 i = 5) → (∀ j, M3 55 j = zup M2 55 1 0 55 j) → (∀ k, k ≠ 55 → k ≠ 63 → k ≠ 64 → k ≠ 66 → M3 k = M2 k) → zBg (d + 1) 114 51 [zR 55, none, zI (k : Int)] [] M3 (fun q M' => ∃ w : Int, q = some (.inl w) ∧ w = pl ∧ zltR t n pl ch st en M1 M') := by
    intro m
    induction m with
    | zero =>
      intro k M3 hk e1 e2 e3 e4 e5
      have : k = 6 := by omega
      subst this
      refine zv114_51 _ ⟨fun _ => ⟨_, rfl, ?_, ?_, ?_, ?_, ?_, ?_, ?_, ?_, ?_, ?_, zb_us, ?_, ?_, ?_⟩, fun g => absurd (by omega) g⟩
      · rw [e4, zb_ui (by decide)]; exact a2
      · rw [zb_ui (by decide), zb_ui (by decide), e4, zb_ui (by decide)]; exact a1
      · rw [zb_ui (by decide), zb_ui (by decide), e4, zb_ui (by decide)]; exact a2
      · rw [zb_uk (by decide), zb_uk (by decide), e5 _ (by decide) (by decide) (by decide) (by decide)]; exact a3
      · rw [zb_uk (by decide), zb_uk (by decide), e5 _ (by decide) (by decide) (by decide) (by decide), zb_uk (by decide), zb_uk (by decide), e5 _ (by decide) (by decide) (by decide) (by decide)]; exact a4
      · rw [zb_uk (by decide), zb_uk (by decide), e5 _ (by decide) (by decide) (by decide) (by decide), zb_uk (by decide), zb_uk (by decide), e5 _ (by decide) (by decide) (by decide) (by decide)]; exact a5
      · rw [zb_uk (by decide), zb_uk (by decide)]; exact e1
      · rw [zb_uk (by decide), zb_uk (by decide)]; exact e2
      · rw [zb_uk (by decide), zb_uk (by decide)]; exact e3
      · rw [zb_ui (by decide), zb_us]
      · rw [zb_ui (by decide), zb_ui (by decide), e4, zb_us]
      · intro j g1 g2 g3 g4 g5
        rw [zb_ui g5, zb_ui g4, e4, zb_ui g1]; exact a6 j g2 g3
      · intro k g1 g2 g3
        rw [zb_uk g1, zb_uk g1, e5 _ g1 (by omega) (by omega) g3]; exact a7 k g1 (by omega)
    | succ m ih =>
      intro k M3 hk e1 e2 e3 e4 e5
      refine zv114_51 _ ⟨fun g => by omega, fun _ => ⟨by omega, by omega, by omega, by omega, ⟨by omega, by omega⟩, ?_⟩⟩
      rw [Int.toNat_natCast]
      refine ih (k + 1) _ (by omega) ?_ ?_ ?_ ?_ ?_
      · rw [zb_uk (by decide), zb_uk (by decide)]; exact e1
      · intro i hi
        by_cases hik : i = k
        · subst hik; exact zb_us
        · rw [zb_ui hik, zb_uk (by decide)]; exact e2 i (by omega)
      · intro i hi
        rw [zb_uk (by decide)]
        by_cases hik : i = k
        · subst hik; exact zb_us
        · rw [zb_ui hik]; exact e3 i (by omega)
      · rw [zb_uk (by decide), zb_uk (by decide)]; exact e4
      · intro q g1 g2 g3 g4
        rw [zb_uk g3, zb_uk g4]; exact e5 q g1 g2 g3 g4
  have k1 : ∀ (m k : Nat) (M3 : zMem), k + m = 24 → (∀ i, i < k → M3 63 i = 0) → (∀ j, M3 55 j = zup M2 55 1 0 55 j) → (∀ k, k ≠ 55 → k ≠ 63 → M3 k = M2 k) → zBg (d + 1) 114 30 [zR 55, none, zI (k : Int)] [] M3 (fun q M' => ∃ w : Int, q = some (.inl w) ∧ w = pl ∧ zltR t n pl ch st en M1 M') := by
    intro m
    induction m with
    | zero =>
      intro k M3 hk e1 e4 e5
      have : k = 24 := by omega
      subst this
      exact zv114_30 _ ⟨fun _ => k2 6 0 M3 rfl e1 (fun i hi => by omega) (fun i hi => by omega) e4 (fun k g1 g2 _ _ => e5 k g1 g2), fun g => absurd (by omega) g⟩
    | succ m ih =>
      intro k M3 hk e1 e4 e5
      refine zv114_30 _ ⟨fun g => by omega, fun _ => ⟨by omega, by omega, ⟨by omega, by omega⟩, ?_⟩⟩
      rw [Int.toNat_natCast]
      refine ih (k + 1) _ (by omega) ?_ ?_ ?_
      · intro i hi
        by_cases hik : i = k
        · subst hik; exact zb_us
        · rw [zb_ui hik]; exact e1 i (by omega)
      · rw [zb_uk (by decide)]; exact e4
      · intro q g1 g2
        rw [zb_uk g2]; exact e5 q g1 g2
  exact k1 24 0 _ rfl (fun i hi => by omega) (fun _ => rfl) (fun k g1 _ => by rw [zb_uk g1])
/-- a fault is told within the text -/
theorem zfl_le {t : Nat → Nat} {n : Nat} : ∀ (m i k b w : Nat), i + m = n → zfl t n m i k b w ≤ n := by
  intro m
  induction m with
  | zero =>
    intro i k b w h
    unfold zfl
    split <;> omega
  | succ m ih =>
    intro i k b w h
    unfold zfl
    have e := fun k b w => ih (i + 1) k b w (by omega)
    split
    · split
      · omega
      · exact e _ _ _
    · split
      · split
        · omega
        · exact e _ _ _
      · split
        · split
          · omega
          · exact e _ _ _
        · split
          · exact e _ _ _
          · split
            · omega
            · exact e _ _ _
