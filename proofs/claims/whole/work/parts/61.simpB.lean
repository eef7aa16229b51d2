/-! sheets of both sides: refusal, sheet, drop, item, copy -/
theorem zladd_32 {a b : Int} (ha : zR32 a) (hb : zR32 b) : zladd a b = a + b := by
  have a1 := ha.1
  have a2 := ha.2
  have b1 := hb.1
  have b2 := hb.2
  unfold zladd
  rw [Int64.toInt_add, Int64.toInt_ofInt_of_le (by omega) (by omega), Int64.toInt_ofInt_of_le (by omega) (by omega)]
  exact Int.bmod_eq_of_le (by omega) (by omega)
theorem zlcmp_le {a b : Int} : zlcmp a b ≤ 0 ↔ a ≤ b := by
  unfold zlcmp
  split
  · omega
  · split <;> omega
theorem qc46 {d : Nat} {M : zMem} {x : Int} : zCi d 46 [.inl x] M (fun r M' => (r = 1 ∧ zisC 4 x ∨ r = 0 ∧ ¬ zisC 4 x) ∧ M' = M) := by
  unfold zisC
  exact zk46 (zv46_0 _ ⟨fun h => ⟨Or.inl rfl, _, rfl, Or.inr ⟨rfl, by omega⟩, rfl⟩, fun h => ⟨fun h2 => ⟨Or.inl rfl, _, rfl, Or.inr ⟨rfl, by omega⟩, rfl⟩, fun h2 => ⟨Or.inr rfl, _, rfl, Or.inl ⟨rfl, by omega⟩, rfl⟩⟩⟩)
theorem qc47 {d : Nat} {M : zMem} {x : Int} : zCi d 47 [.inl x] M (fun r M' => (r = 1 ∧ zisC 3 x ∨ r = 0 ∧ ¬ zisC 3 x) ∧ M' = M) := by
  unfold zisC
  exact zk47 (zv47_0 _ ⟨fun h => ⟨Or.inl rfl, _, rfl, Or.inr ⟨rfl, by omega⟩, rfl⟩, fun h => ⟨fun h2 => ⟨Or.inl rfl, _, rfl, Or.inr ⟨rfl, by omega⟩, rfl⟩, fun h2 => ⟨Or.inr rfl, _, rfl, Or.inl ⟨rfl, by omega⟩, rfl⟩⟩⟩)
theorem qc172 {d : Nat} {M : zMem} {x : Int} : zCi (d + 1) 172 [.inl x] M (fun r M' => (r = 1 ∧ zisC 4 x ∨ r = 0 ∧ ¬ zisC 4 x) ∧ M' = M) := by
  unfold zisC
  refine zk172 (zv172_0 _ ⟨_, qc110, ?_⟩)
  rintro v M1 ⟨hv, rfl⟩
  exact ⟨by omega, _, rfl, by omega, rfl⟩
theorem qc173 {d : Nat} {M : zMem} {x : Int} : zCi (d + 1) 173 [.inl x] M (fun r M' => (r = 1 ∧ zisC 3 x ∨ r = 0 ∧ ¬ zisC 3 x) ∧ M' = M) := by
  unfold zisC
  refine zk173 (zv173_0 _ ⟨_, qc110, ?_⟩)
  rintro v M1 ⟨hv, rfl⟩
  exact ⟨by omega, _, rfl, by omega, rfl⟩
/-- lanes and lengths as they may be -/
def zShOk (L N : Nat → Int) : Prop := ∀ s, s < 4 → -1 ≤ L s ∧ L s ≤ 2 ∧ 0 ≤ N s ∧ N s ≤ 12
def zhas (N : Nat → Int) (x1 x2 x3 : Int) : Prop := 0 ≤ x2 ∧ 0 ≤ x3 ∧ x2 + x3 ≤ N x1.toNat
theorem qc51 {d : Nat} {M : zMem} {x1 x2 x3 : Int} (hS : zShOk (M 33) (M 34)) (hx : zisC 4 x1) : zCi d 51 [.inr (.inr 32), .inl x1, .inl x2, .inl x3] M (fun r M' => (r = 1 ∧ zhas (M 34) x1 x2 x3 ∨ r = 0 ∧ ¬ zhas (M 34) x1 x2 x3) ∧ M' = M) := by
  unfold zhas
  have h1 := hx.1
  have h2 := hx.2
  have hn := (hS x1.toNat (by omega)).2.2
  have n1 := hn.1
  have n2 := hn.2
  have O : ∀ (h : ¬ (0 ≤ x2 ∧ 0 ≤ x3 ∧ x2 + x3 ≤ M 34 x1.toNat)), ((0 : Int) = 0 ∨ (0 : Int) = 1) ∧ ∃ v : Int, zI 0 = some (.inl v) ∧ (v = 1 ∧ (0 ≤ x2 ∧ 0 ≤ x3 ∧ x2 + x3 ≤ M 34 x1.toNat) ∨ v = 0 ∧ ¬ (0 ≤ x2 ∧ 0 ≤ x3 ∧ x2 + x3 ≤ M 34 x1.toNat)) ∧ M = M := fun h => ⟨Or.inl rfl, _, rfl, Or.inr ⟨rfl, h⟩, rfl⟩
  exact zk51 (zv51_0 _ _ _ ⟨fun h => O (by omega), fun h => ⟨fun h => O (by omega), fun h => ⟨h1, by omega, fun h => O (by omega), fun h => ⟨h1, by omega, ⟨by omega, by omega⟩, fun h => O (by omega), fun h => ⟨Or.inr rfl, _, rfl, Or.inl ⟨rfl, by omega⟩, rfl⟩⟩⟩⟩⟩)
def zsRef (L N : Nat → Int) (x1 x2 x3 x4 r : Int) : Prop := (¬ (zisC 4 x1 ∧ zisC 3 x2) ∧ r = -1) ∨ ((zisC 4 x1 ∧ zisC 3 x2) ∧ L x1.toNat = -1 ∧ r = -11) ∨ ((zisC 4 x1 ∧ zisC 3 x2) ∧ L x1.toNat ≠ -1 ∧ L x1.toNat ≠ x2 ∧ r = -12) ∨ ((zisC 4 x1 ∧ zisC 3 x2) ∧ L x1.toNat = x2 ∧ ¬ zhas N x1 x3 x4 ∧ r = -13) ∨ ((zisC 4 x1 ∧ zisC 3 x2) ∧ L x1.toNat = x2 ∧ zhas N x1 x3 x4 ∧ r = 0)
theorem qc50 {d : Nat} {M : zMem} {x1 x2 x3 x4 : Int} (hS : zShOk (M 33) (M 34)) : zCi (d + 1) 50 [.inr (.inr 32), .inl x1, .inl x2, .inl x3, .inl x4] M (fun r M' => zsRef (M 33) (M 34) x1 x2 x3 x4 r ∧ M' = M) := by
  refine zk50 (zv50_0 _ _ _ _ ⟨_, qc46, ?_⟩)
  rintro v M1 ⟨hv, rfl⟩
  refine ⟨fun h => ⟨_, rfl, Or.inl ⟨fun hk => zor0 hv h hk.1, rfl⟩, rfl⟩, fun h => ⟨_, qc47, ?_⟩⟩
  have hx := zor1 hv h
  rintro v2 M2 ⟨hv2, rfl⟩
  refine ⟨fun h2 => ?_, fun h2 => ⟨_, rfl, Or.inl ⟨fun hk => zor0 hv2 (by omega) hk.2, rfl⟩, rfl⟩⟩
  have hy := zor1 hv2 h2
  refine ⟨hx.1, hx.2, fun h3 => ⟨hx.1, hx.2, fun h4 => ⟨_, qc51 hS hx, ?_⟩, fun h4 => ⟨_, rfl, Or.inr (Or.inr (Or.inl ⟨⟨hx, hy⟩, h3, h4, rfl⟩)), rfl⟩⟩, fun h3 => ⟨_, rfl, Or.inr (Or.inl ⟨⟨hx, hy⟩, by omega, rfl⟩), rfl⟩⟩
  rintro v3 M3 ⟨hv3, rfl⟩
  exact ⟨fun h5 => ⟨_, rfl, Or.inr (Or.inr (Or.inr (Or.inl ⟨⟨hx, hy⟩, h4, zor0 hv3 h5, rfl⟩))), rfl⟩, fun h5 => ⟨_, rfl, Or.inr (Or.inr (Or.inr (Or.inr ⟨⟨hx, hy⟩, h4, zor1 hv3 h5, rfl⟩))), rfl⟩⟩
/-- as the reference has it, once sheet and lane are such -/
theorem qc174 {d : Nat} {M : zMem} {x1 x2 x3 x4 : Int} (hS : zShOk (M 76) (M 77)) (hx : zisC 4 x1) (hy : zisC 3 x2) (r3 : zR32 x3) (h4 : 0 ≤ x4) (r4 : zR32 x4) : zCi d 174 [.inr (.inr 55), .inl x1, .inl x2, .inl x3, .inl x4] M (fun r M' => zsRef (M 76) (M 77) x1 x2 x3 x4 r ∧ M' = M) := by
  have hl := hS x1.toNat (by have := hx.1; have := hx.2; omega)
  have l1 := hl.1
  refine zk174 (zv174_0 _ _ _ _ ?_)
  rw [zladd_32 r3 r4, zlcmp_le]
  refine ⟨hx.1, hx.2, fun h1 => ⟨hx.1, hx.2, fun h2 => ⟨fun h3 => ⟨_, rfl, Or.inr (Or.inr (Or.inr (Or.inl ⟨⟨hx, hy⟩, h2, fun hk => by have := hk.1; omega, rfl⟩))), rfl⟩, fun h3 => ⟨hx.1, hx.2, fun h5 => ⟨_, rfl, Or.inr (Or.inr (Or.inr (Or.inr ⟨⟨hx, hy⟩, h2, ⟨by omega, h4, h5⟩, rfl⟩))), rfl⟩, fun h5 => ⟨_, rfl, Or.inr (Or.inr (Or.inr (Or.inl ⟨⟨hx, hy⟩, h2, fun hk => h5 hk.2.2, rfl⟩))), rfl⟩⟩⟩, fun h2 => ⟨_, rfl, Or.inr (Or.inr (Or.inl ⟨⟨hx, hy⟩, by omega, h2, rfl⟩)), rfl⟩⟩, fun h1 => ⟨_, rfl, Or.inr (Or.inl ⟨⟨hx, hy⟩, by omega, rfl⟩), rfl⟩⟩
/-- what it answers when it refuses nothing, and when -/
theorem zsRef_ok {L N : Nat → Int} {x1 x2 x3 x4 r : Int} (h : zsRef L N x1 x2 x3 x4 r) (hr : r ≥ 0) : zisC 4 x1 ∧ zisC 3 x2 ∧ L x1.toNat = x2 ∧ zhas N x1 x3 x4 := by
  rcases h with h | h | h | h | h
  · have := h.2; omega
  · have := h.2.2; omega
  · have := h.2.2.2; omega
  · have := h.2.2.2; omega
  · exact ⟨h.1.1, h.1.2, h.2.1, h.2.2.1⟩
/-- a sheet is laid -/
def zokSheet (x1 x2 x3 : Int) : Prop := zisC 4 x1 ∧ zisC 3 x2 ∧ 0 ≤ x3 ∧ x3 ≤ 12
def zsSheet (kl kn ki : Nat) (x1 x2 x3 : Int) (M : zMem) (r : Int) (M' : zMem) : Prop := (¬ zokSheet x1 x2 x3 ∧ ((zisC 4 x1 ∧ zisC 3 x2 ∧ x3 < 0) ∧ r = -14 ∨ ¬ (zisC 4 x1 ∧ zisC 3 x2 ∧ x3 < 0) ∧ r = -1) ∧ M' = M) ∨ (zokSheet x1 x2 x3 ∧ r = x3 ∧ (∀ i, M' kl i = if i = x1.toNat then x2 else M kl i) ∧ (∀ i, M' kn i = if i = x1.toNat then x3 else M kn i) ∧ (∀ i, M' ki i = if 12 * x1.toNat ≤ i ∧ i < 12 * x1.toNat + 12 then 0 else M ki i) ∧ ∀ k, k ≠ kl → k ≠ kn → k ≠ ki → M' k = M k)
theorem qc48 {d : Nat} {M : zMem} {x1 x2 x3 : Int} : zCi (d + 1) 48 [.inr (.inr 32), .inl x1, .inl x2, .inl x3] M (fun r M' => zsSheet 33 34 35 x1 x2 x3 M r M') := by
  refine zk48 (zv48_0 _ _ _ ⟨_, qc46, ?_⟩)
  rintro v M1 ⟨hv, rfl⟩
  refine ⟨fun h => ⟨_, rfl, Or.inl ⟨fun hk => zor0 hv h hk.1, Or.inr ⟨fun hk => zor0 hv h hk.1, rfl⟩, rfl⟩⟩, fun h => ⟨_, qc47, ?_⟩⟩
  have hx := zor1 hv h
  rintro v2 M2 ⟨hv2, rfl⟩
  refine ⟨fun h2 => ⟨_, rfl, Or.inl ⟨fun hk => zor0 hv2 h2 hk.2.1, Or.inr ⟨fun hk => zor0 hv2 h2 hk.2.1, rfl⟩, rfl⟩⟩, fun h2 => ?_⟩
  have hy := zor1 hv2 h2
  refine ⟨fun h3 => ⟨fun h4 => ?_, fun h4 => ⟨_, rfl, Or.inl ⟨fun hk => by have := hk.2.2.1; omega, Or.inl ⟨⟨hx, hy, by omega⟩, rfl⟩, rfl⟩⟩⟩, fun h3 => ⟨_, rfl, Or.inl ⟨fun hk => by have := hk.2.2.2; omega, Or.inr ⟨fun hk => by have := hk.2.2; omega, rfl⟩, rfl⟩⟩⟩
  refine ⟨hx.1, hx.2, hx.1, hx.2, ?_⟩
  have x1p := hx.1
  have x1q := hx.2
  have key : ∀ (m k : Nat) (M3 : zMem), k + m = 12 → (∀ i, M3 33 i = if i = x1.toNat then x2 else M2 33 i) → (∀ i, M3 34 i = if i = x1.toNat then x3 else M2 34 i) → (∀ i, M3 35 i = if 12 * x1.toNat ≤ i ∧ i < 12 * x1.toNat + k then 0 else M2 35 i) → (∀ k, k ≠ 33 → k ≠ 34 → k ≠ 35 → M3 k = M2 k) → zBg (d + 1) 48 46 [zR 32, zI x1, none, zI x3, zI (k : Int)] [] M3 (fun q M' => ∃ w : Int, q = some (.inl w) ∧ zsSheet 33 34 35 x1 x2 x3 M2 w M') := by
    intro m
    induction m with
    | zero =>
      intro k M3 hk a1 a2 a3 a4
      have : k = 12 := by omega
      subst this
      exact zv48_46 _ _ _ ⟨fun _ => ⟨_, rfl, Or.inr ⟨⟨hx, hy, by omega, by omega⟩, rfl, a1, a2, a3, a4⟩⟩, fun h => absurd (by omega) h⟩
    | succ m ih =>
      intro k M3 hk a1 a2 a3 a4
      refine zv48_46 _ _ _ ⟨fun h => by omega, fun _ => ⟨⟨by omega, by omega⟩, ⟨by omega, by omega⟩, by omega, by omega, ⟨by omega, by omega⟩, ?_⟩⟩
      rw [show (x1 * 12 + (k : Int)).toNat = 12 * x1.toNat + k by omega]
      refine ih (k + 1) _ (by omega) (fun i => by rw [zb_uk (by decide)]; exact a1 i) (fun i => by rw [zb_uk (by decide)]; exact a2 i) (fun i => ?_) (fun q h1 h2 h3 => by rw [zb_uk h3]; exact a4 q h1 h2 h3)
      by_cases hi : i = 12 * x1.toNat + k
      · subst hi
        rw [zb_us, if_pos (by omega)]
      · rw [zb_ui hi, a3]
        by_cases hj : 12 * x1.toNat ≤ i ∧ i < 12 * x1.toNat + k
        · rw [if_pos hj, if_pos (by omega)]
        · rw [if_neg hj, if_neg (by omega)]
  refine key 12 0 _ rfl (fun i => ?_) (fun i => ?_) (fun i => ?_) (fun k h1 h2 h3 => ?_)
  · rw [zb_uk (by decide)]; simp [zup]
  · simp [zup]
  · rw [if_neg (by omega), zb_uk (by decide), zb_uk (by decide)]
  · rw [zb_uk h2, zb_uk h1]
theorem qc103 {d : Nat} {M : zMem} {x1 x2 x3 : Int} : zCi (d + 2) 103 [.inr (.inr 0), .inl x1, .inl x2, .inl x3] M (fun r M' => zsSheet 33 34 35 x1 x2 x3 M r M') :=
  zk103 (zv103_0 _ _ _ ⟨_, qc48, fun _ _ h => ⟨_, rfl, h⟩⟩)
theorem qc175 {d : Nat} {M : zMem} {x1 x2 x3 : Int} : zCi (d + 2) 175 [.inr (.inr 55), .inl x1, .inl x2, .inl x3] M (fun r M' => zsSheet 76 77 78 x1 x2 x3 M r M') := by
  refine zk175 (zv175_0 _ _ _ ⟨_, qc172, ?_⟩)
  rintro v M1 ⟨hv, rfl⟩
  refine ⟨fun h => ⟨_, rfl, Or.inl ⟨fun hk => zor0 hv h hk.1, Or.inr ⟨fun hk => zor0 hv h hk.1, rfl⟩, rfl⟩⟩, fun h => ⟨_, qc173, ?_⟩⟩
  have hx := zor1 hv h
  rintro v2 M2 ⟨hv2, rfl⟩
  refine ⟨fun h2 => ⟨_, rfl, Or.inl ⟨fun hk => zor0 hv2 h2 hk.2.1, Or.inr ⟨fun hk => zor0 hv2 h2 hk.2.1, rfl⟩, rfl⟩⟩, fun h2 => ?_⟩
  have hy := zor1 hv2 h2
  refine ⟨fun h3 => ⟨fun h4 => ?_, fun h4 => ⟨_, rfl, Or.inl ⟨fun hk => by have := hk.2.2.1; omega, Or.inl ⟨⟨hx, hy, by omega⟩, rfl⟩, rfl⟩⟩⟩, fun h3 => ⟨_, rfl, Or.inl ⟨fun hk => by have := hk.2.2.2; omega, Or.inr ⟨fun hk => by have := hk.2.2; omega, rfl⟩, rfl⟩⟩⟩
  refine ⟨hx.1, hx.2, hx.1, hx.2, ?_⟩
  have x1p := hx.1
  have x1q := hx.2
  have key : ∀ (m k : Nat) (M3 : zMem), k + m = 12 → (∀ i, M3 76 i = if i = x1.toNat then x2 else M2 76 i) → (∀ i, M3 77 i = if i = x1.toNat then x3 else M2 77 i) → (∀ i, M3 78 i = if 12 * x1.toNat ≤ i ∧ i < 12 * x1.toNat + k then 0 else M2 78 i) → (∀ k, k ≠ 76 → k ≠ 77 → k ≠ 78 → M3 k = M2 k) → zBg (d + 2) 175 46 [zR 55, zI x1, none, zI x3, zI (k : Int)] [] M3 (fun q M' => ∃ w : Int, q = some (.inl w) ∧ zsSheet 76 77 78 x1 x2 x3 M2 w M') := by
    intro m
    induction m with
    | zero =>
      intro k M3 hk a1 a2 a3 a4
      have : k = 12 := by omega
      subst this
      exact zv175_46 _ _ _ ⟨fun _ => ⟨_, rfl, Or.inr ⟨⟨hx, hy, by omega, by omega⟩, rfl, a1, a2, a3, a4⟩⟩, fun h => absurd (by omega) h⟩
    | succ m ih =>
      intro k M3 hk a1 a2 a3 a4
      refine zv175_46 _ _ _ ⟨fun h => by omega, fun _ => ⟨⟨by omega, by omega⟩, ⟨by omega, by omega⟩, by omega, by omega, ⟨by omega, by omega⟩, ?_⟩⟩
      rw [show (12 * x1 + (k : Int)).toNat = 12 * x1.toNat + k by omega]
      refine ih (k + 1) _ (by omega) (fun i => by rw [zb_uk (by decide)]; exact a1 i) (fun i => by rw [zb_uk (by decide)]; exact a2 i) (fun i => ?_) (fun q h1 h2 h3 => by rw [zb_uk h3]; exact a4 q h1 h2 h3)
      by_cases hi : i = 12 * x1.toNat + k
      · subst hi
        rw [zb_us, if_pos (by omega)]
      · rw [zb_ui hi, a3]
        by_cases hj : 12 * x1.toNat ≤ i ∧ i < 12 * x1.toNat + k
        · rw [if_pos hj, if_pos (by omega)]
        · rw [if_neg hj, if_neg (by omega)]
  refine key 12 0 _ rfl (fun i => ?_) (fun i => ?_) (fun i => ?_) (fun k h1 h2 h3 => ?_)
  · rw [zb_uk (by decide)]; simp [zup]
  · simp [zup]
  · rw [if_neg (by omega), zb_uk (by decide), zb_uk (by decide)]
  · rw [zb_uk h2, zb_uk h1]
/-- a sheet is taken off -/
def zsDrop (kl kn : Nat) (x : Int) (M : zMem) (r : Int) (M' : zMem) : Prop := (¬ zisC 4 x ∧ r = -1 ∧ M' = M) ∨ (zisC 4 x ∧ M kl x.toNat = -1 ∧ r = -11 ∧ M' = M) ∨ (zisC 4 x ∧ M kl x.toNat ≠ -1 ∧ r = M kn x.toNat ∧ M' = zup M kl x.toNat (-1))
theorem qc49 {d : Nat} {M : zMem} {x : Int} : zCi (d + 1) 49 [.inr (.inr 32), .inl x] M (fun r M' => zsDrop 33 34 x M r M') := by
  refine zk49 (zv49_0 _ ⟨_, qc46, ?_⟩)
  rintro v M1 ⟨hv, rfl⟩
  refine ⟨fun h => ?_, fun h => ⟨_, rfl, Or.inl ⟨zor0 hv (by omega), rfl, rfl⟩⟩⟩
  have hx := zor1 hv h
  exact ⟨hx.1, hx.2, fun h2 => ⟨hx.1, hx.2, hx.1, hx.2, _, rfl, Or.inr (Or.inr ⟨hx, h2, rfl, rfl⟩)⟩, fun h2 => ⟨_, rfl, Or.inr (Or.inl ⟨hx, by omega, rfl, rfl⟩)⟩⟩
theorem qc104 {d : Nat} {M : zMem} {x : Int} : zCi (d + 2) 104 [.inr (.inr 0), .inl x] M (fun r M' => zsDrop 33 34 x M r M') :=
  zk104 (zv104_0 _ ⟨_, qc49, fun _ _ h => ⟨_, rfl, h⟩⟩)
theorem qc176 {d : Nat} {M : zMem} {x : Int} (hS : zShOk (M 76) (M 77)) : zCi (d + 2) 176 [.inr (.inr 55), .inl x] M (fun r M' => zsDrop 76 77 x M r M') := by
  refine zk176 (zv176_0 _ ⟨_, qc172, ?_⟩)
  rintro v M1 ⟨hv, rfl⟩
  refine ⟨fun h => ?_, fun h => ⟨_, rfl, Or.inl ⟨zor0 hv (by omega), rfl, rfl⟩⟩⟩
  have hx := zor1 hv h
  have hl := (hS x.toNat (by have := hx.1; have := hx.2; omega)).1
  exact ⟨hx.1, hx.2, fun h2 => ⟨hx.1, hx.2, hx.1, hx.2, _, rfl, Or.inr (Or.inr ⟨hx, by omega, rfl, rfl⟩)⟩, fun h2 => ⟨_, rfl, Or.inr (Or.inl ⟨hx, by omega, rfl, rfl⟩)⟩⟩
/-- an item is laid -/
def znar (x y : Int) : Int := if x = 0 then zi2b y else if x = 1 then zi2s y else y
def zsItem (kl kn ki : Nat) (x1 x2 x3 x4 : Int) (M : zMem) (r : Int) (M' : zMem) : Prop := (∃ v, zsRef (M kl) (M kn) x1 x2 x3 1 v ∧ v < 0 ∧ r = v ∧ M' = M) ∨ (∃ v, zsRef (M kl) (M kn) x1 x2 x3 1 v ∧ 0 ≤ v ∧ r = 1 ∧ M' = zup M ki (12 * x1.toNat + x3.toNat) (znar x2 x4))
theorem qc52 {d : Nat} {M : zMem} {x y : Int} : zCi d 52 [.inl x, .inl y] M (fun r M' => r = znar x y ∧ M' = M) := by
  unfold znar
  refine zk52 (zv52_0 _ _ ⟨fun h => ⟨fun h2 => ⟨_, rfl, ?_, rfl⟩, fun h2 => ⟨_, rfl, ?_, rfl⟩⟩, fun h => ⟨_, rfl, ?_, rfl⟩⟩)
  · rw [if_neg h, if_neg h2]
  · rw [if_neg h, if_pos (by omega)]
  · rw [if_pos (by omega)]
theorem qc105 {d : Nat} {M : zMem} {x1 x2 x3 x4 : Int} (hS : zShOk (M 33) (M 34)) : zCi (d + 2) 105 [.inr (.inr 0), .inl x1, .inl x2, .inl x3, .inl x4] M (fun r M' => zsItem 33 34 35 x1 x2 x3 x4 M r M') := by
  refine zk105 (zv105_0 _ _ _ _ ⟨_, qc50 hS, ?_⟩)
  rintro v M1 ⟨hv, rfl⟩
  refine ⟨fun h => ?_, fun h => ⟨_, rfl, Or.inl ⟨v, hv, by omega, rfl, rfl⟩⟩⟩
  obtain ⟨⟨a1, a2⟩, _, _, b1, b2, b3⟩ := zsRef_ok hv h
  have := (hS x1.toNat (by omega)).2.2.2
  refine ⟨⟨by omega, by omega⟩, ⟨by omega, by omega⟩, _, qc52, ?_⟩
  rintro w M2 ⟨rfl, rfl⟩
  rw [show (x1 * 12 + x3).toNat = 12 * x1.toNat + x3.toNat by omega]
  exact ⟨by omega, by omega, _, rfl, Or.inr ⟨v, hv, h, rfl, rfl⟩⟩
theorem qc177 {d : Nat} {M : zMem} {x1 x2 x3 x4 : Int} (hS : zShOk (M 76) (M 77)) (r3 : zR32 x3) : zCi (d + 2) 177 [.inr (.inr 55), .inl x1, .inl x2, .inl x3, .inl x4] M (fun r M' => zsItem 76 77 78 x1 x2 x3 x4 M r M') := by
  refine zk177 (zv177_0 _ _ _ _ ⟨_, qc172, ?_⟩)
  rintro v M1 ⟨hv, rfl⟩
  refine ⟨fun h => ⟨_, rfl, Or.inl ⟨_, Or.inl ⟨fun hk => zor0 hv h hk.1, rfl⟩, by decide, rfl, rfl⟩⟩, fun h => ⟨_, qc173, ?_⟩⟩
  have hx := zor1 hv h
  rintro v2 M2 ⟨hv2, rfl⟩
  refine ⟨fun h2 => ⟨_, qc174 hS hx (zor1 hv2 h2) r3 (by decide) ⟨by decide, by decide⟩, ?_⟩, fun h2 => ⟨_, rfl, Or.inl ⟨_, Or.inl ⟨fun hk => zor0 hv2 (by omega) hk.2, rfl⟩, by decide, rfl, rfl⟩⟩⟩
  rintro v3 M3 ⟨hv3, rfl⟩
  refine ⟨fun h => ?_, fun h => ⟨_, rfl, Or.inl ⟨v3, hv3, by omega, rfl, rfl⟩⟩⟩
  obtain ⟨⟨a1, a2⟩, _, _, b1, b2, b3⟩ := zsRef_ok hv3 h
  have := (hS x1.toNat (by omega)).2.2.2
  rw [show (12 * x1 + x3).toNat = 12 * x1.toNat + x3.toNat by omega]
  refine ⟨⟨by omega, by omega⟩, ⟨by omega, by omega⟩, fun k1 => ⟨fun k2 => ⟨by omega, by omega, _, rfl, Or.inr ⟨v3, hv3, h, rfl, ?_⟩⟩, fun k2 => ⟨by omega, by omega, _, rfl, Or.inr ⟨v3, hv3, h, rfl, ?_⟩⟩⟩, fun k1 => ⟨by omega, by omega, _, rfl, Or.inr ⟨v3, hv3, h, rfl, ?_⟩⟩⟩
  · unfold znar; rw [if_neg k1, if_neg k2]
  · unfold znar; rw [if_neg k1, if_pos (by omega)]
  · unfold znar; rw [if_pos (by omega)]
