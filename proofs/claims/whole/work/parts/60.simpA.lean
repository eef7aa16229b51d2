/-! simple calls of both sides: choices, cost, mended, choice, burn, set, print, score, keep -/
theorem zor1 {p : Prop} {v : Int} (h : v = 1 ∧ p ∨ v = 0 ∧ ¬ p) (hz : v ≠ 0) : p := by
  rcases h with ⟨_, a⟩ | ⟨a, _⟩
  · exact a
  · exact absurd a hz
theorem zor0 {p : Prop} {v : Int} (h : v = 1 ∧ p ∨ v = 0 ∧ ¬ p) (hz : v = 0) : ¬ p := by
  rcases h with ⟨a, _⟩ | ⟨_, a⟩
  · omega
  · exact a
def zsChoices (pl : Nat) (ch : Nat → Nat) (x r : Int) : Prop := (¬ zisC pl x ∧ r = -1) ∨ (zisC pl x ∧ r = ch x.toNat)
theorem qc73 {d : Nat} {M : zMem} {pl : Nat} {ch : Nat → Nat} {x : Int} (hpl : M 13 6 = pl) (h6 : pl ≤ 6) (hch : ∀ q, q < pl → M 15 q = ch q) : zCi (d + 1) 73 [.inr (.inr 0), .inl x] M (fun r M' => zsChoices pl ch x r ∧ M' = M) := by
  refine zk73 (zv73_0 _ ⟨_, qc34 hpl, ?_⟩)
  rintro v M1 ⟨hv, rfl⟩
  refine ⟨fun h => ⟨_, rfl, Or.inl ⟨zor0 hv h, rfl⟩, rfl⟩, fun h => ?_⟩
  have hx := zor1 hv h
  have x1 := hx.1
  have x2 := hx.2
  exact ⟨by omega, by omega, _, rfl, Or.inr ⟨hx, hch _ (by omega)⟩, rfl⟩
theorem qc117 {d : Nat} {M : zMem} {pl : Nat} {ch : Nat → Nat} {x : Int} (hpl : M 55 4 = pl) (h6 : pl ≤ 6) (hch : ∀ q, q < pl → M 60 q = ch q) : zCi (d + 2) 117 [.inr (.inr 55), .inl x] M (fun r M' => zsChoices pl ch x r ∧ M' = M) := by
  refine zk117 (zv117_0 _ ⟨_, qc115 hpl h6, ?_⟩)
  rintro v M1 ⟨hv, rfl⟩
  refine ⟨fun h => ⟨_, rfl, Or.inl ⟨zor0 hv h, rfl⟩, rfl⟩, fun h => ?_⟩
  have hx := zor1 hv h
  have x1 := hx.1
  have x2 := hx.2
  exact ⟨by omega, by omega, _, rfl, Or.inr ⟨hx, hch _ (by omega)⟩, rfl⟩
/-- a cell's entry is told and set, or all is refused -/
def zset1 (ok : Prop) (bad : Int) (k i : Nat) (v : Int) (M : zMem) (r : Int) (M' : zMem) : Prop := (¬ ok ∧ r = bad ∧ M' = M) ∨ (ok ∧ r = M k i ∧ M' = zup M k i v)
def zokCost (pl : Nat) (ch : Nat → Nat) (x y z : Int) : Prop := zisH pl ch x y ∧ 0 ≤ z ∧ z ≤ 9
theorem qc74 {d : Nat} {M : zMem} {pl : Nat} {ch : Nat → Nat} {x y z : Int} (hpl : M 13 6 = pl) (h6 : pl ≤ 6) (hch : ∀ q, q < pl → M 15 q = ch q ∧ ch q ≤ 4) : zCi (d + 2) 74 [.inr (.inr 0), .inl x, .inl y, .inl z] M (fun r M' => zset1 (zokCost pl ch x y z) (-1) 5 (4 * x.toNat + y.toNat) z M r M') := by
  refine zk74 (zv74_0 _ _ _ ⟨_, qc35 hpl h6 (fun q hq => (hch q hq).1), ?_⟩)
  rintro v M1 ⟨hv, rfl⟩
  refine ⟨fun h => ⟨_, rfl, Or.inl ⟨fun hk => zor0 hv h hk.1, rfl, rfl⟩⟩, fun h => ⟨fun h2 => ⟨_, rfl, Or.inl ⟨fun hk => by have := hk.2.1; omega, rfl, rfl⟩⟩, fun h2 => ⟨fun h3 => ?_, fun h3 => ⟨_, rfl, Or.inl ⟨fun hk => by have := hk.2.2; omega, rfl, rfl⟩⟩⟩⟩⟩
  have hh := zor1 hv h
  obtain ⟨⟨x1, x2⟩, y1, y2⟩ := id hh
  have := (hch x.toNat (by omega)).2
  rw [show (x * 4 + y).toNat = 4 * x.toNat + y.toNat by omega]
  exact ⟨⟨by omega, by omega⟩, ⟨by omega, by omega⟩, by omega, by omega, by omega, by omega, _, rfl, Or.inr ⟨⟨hh, by omega, by omega⟩, rfl, rfl⟩⟩
theorem qc118 {d : Nat} {M : zMem} {pl : Nat} {ch : Nat → Nat} {x y z : Int} (hpl : M 55 4 = pl) (h6 : pl ≤ 6) (hch : ∀ q, q < pl → M 60 q = ch q ∧ ch q ≤ 4) : zCi (d + 3) 118 [.inr (.inr 55), .inl x, .inl y, .inl z] M (fun r M' => zset1 (zokCost pl ch x y z) (-1) 63 (4 * x.toNat + y.toNat) z M r M') := by
  refine zk118 (zv118_0 _ _ _ ⟨_, qc116 hpl h6 hch, ?_⟩)
  rintro v M1 ⟨hv, rfl⟩
  refine ⟨fun h => ⟨_, rfl, Or.inl ⟨fun hk => zor0 hv h hk.1, rfl, rfl⟩⟩, fun h => ⟨_, qc110, ?_⟩⟩
  have hh := zor1 hv h
  obtain ⟨⟨x1, x2⟩, y1, y2⟩ := id hh
  have := (hch x.toNat (by omega)).2
  rintro v2 M2 ⟨hv2, rfl⟩
  rw [show (4 * x + y).toNat = 4 * x.toNat + y.toNat by omega]
  refine ⟨fun h2 => ⟨⟨by omega, by omega⟩, ⟨by omega, by omega⟩, by omega, by omega, ⟨by omega, by omega⟩, ⟨by omega, by omega⟩, by omega, by omega, _, rfl, Or.inr ⟨⟨hh, by omega, by omega⟩, rfl, rfl⟩⟩, fun h2 => ⟨_, rfl, Or.inl ⟨fun hk => ?_, rfl, rfl⟩⟩⟩
  have := hk.2
  omega
def zokMend (pl : Nat) (ch : Nat → Nat) (x y : Int) : Prop := zisC pl x ∧ (y = -1 ∨ zisH pl ch x y)
theorem qc75 {d : Nat} {M : zMem} {pl : Nat} {ch : Nat → Nat} {x y : Int} (hpl : M 13 6 = pl) (h6 : pl ≤ 6) (hch : ∀ q, q < pl → M 15 q = ch q) : zCi (d + 2) 75 [.inr (.inr 0), .inl x, .inl y] M (fun r M' => zset1 (zokMend pl ch x y) (-101) 6 x.toNat y M r M') := by
  refine zk75 (zv75_0 _ _ ⟨_, qc34 hpl, ?_⟩)
  rintro v M1 ⟨hv, rfl⟩
  refine ⟨fun h => ⟨_, rfl, Or.inl ⟨fun hk => zor0 hv h hk.1, rfl, rfl⟩⟩, fun h => ?_⟩
  have hx := zor1 hv h
  have x1 := hx.1
  have x2 := hx.2
  refine ⟨fun h2 => ⟨by omega, by omega, by omega, by omega, _, rfl, Or.inr ⟨⟨hx, Or.inl h2⟩, rfl, rfl⟩⟩, fun h2 => ⟨_, qc35 hpl h6 hch, ?_⟩⟩
  rintro v2 M2 ⟨hv2, rfl⟩
  refine ⟨fun h3 => ⟨by omega, by omega, by omega, by omega, _, rfl, Or.inr ⟨⟨hx, Or.inr (zor1 hv2 h3)⟩, rfl, rfl⟩⟩, fun h3 => ⟨_, rfl, Or.inl ⟨fun hk => ?_, rfl, rfl⟩⟩⟩
  rcases hk.2 with e | e
  · exact h2 e
  · exact zor0 hv2 (by omega) e
theorem qc119 {d : Nat} {M : zMem} {pl : Nat} {ch : Nat → Nat} {x y : Int} (hpl : M 55 4 = pl) (h6 : pl ≤ 6) (hch : ∀ q, q < pl → M 60 q = ch q ∧ ch q ≤ 4) : zCi (d + 3) 119 [.inr (.inr 55), .inl x, .inl y] M (fun r M' => zset1 (zokMend pl ch x y) (-101) 64 x.toNat y M r M') := by
  refine zk119 (zv119_0 _ _ ⟨_, qc115 hpl h6, ?_⟩)
  rintro v M1 ⟨hv, rfl⟩
  refine ⟨fun h => ⟨_, rfl, Or.inl ⟨fun hk => zor0 hv h hk.1, rfl, rfl⟩⟩, fun h => ?_⟩
  have hx := zor1 hv h
  have x1 := hx.1
  have x2 := hx.2
  refine ⟨fun h2 => ⟨by omega, by omega, by omega, by omega, _, rfl, Or.inr ⟨⟨hx, Or.inl h2⟩, rfl, rfl⟩⟩, fun h2 => ⟨_, qc116 hpl h6 hch, ?_⟩⟩
  rintro v2 M2 ⟨hv2, rfl⟩
  refine ⟨fun h3 => ⟨by omega, by omega, by omega, by omega, _, rfl, Or.inr ⟨⟨hx, Or.inr (zor1 hv2 h3)⟩, rfl, rfl⟩⟩, fun h3 => ⟨_, rfl, Or.inl ⟨fun hk => ?_, rfl, rfl⟩⟩⟩
  rcases hk.2 with e | e
  · exact h2 e
  · exact zor0 hv2 (by omega) e
def zokPrint (pl : Nat) (ch : Nat → Nat) (x y : Int) : Prop := zisC pl x ∧ (zisH pl ch x y ∨ y = 4 ∨ y = 5)
theorem qc83 {d : Nat} {M : zMem} {pl : Nat} {ch : Nat → Nat} {x y : Int} (hpl : M 13 6 = pl) (h6 : pl ≤ 6) (hch : ∀ q, q < pl → M 15 q = ch q) : zCi (d + 2) 83 [.inr (.inr 0), .inl x, .inl y] M (fun r M' => zset1 (zokPrint pl ch x y) (-1) 8 x.toNat y M r M') := by
  refine zk83 (zv83_0 _ _ ⟨_, qc35 hpl h6 hch, ?_⟩)
  rintro v M1 ⟨hv, rfl⟩
  refine ⟨fun h => ?_, fun h => ⟨_, qc34 hpl, ?_⟩⟩
  · have hh := zor1 hv h
    have x1 := hh.1.1
    have x2 := hh.1.2
    exact ⟨by omega, by omega, by omega, by omega, _, rfl, Or.inr ⟨⟨hh.1, Or.inl hh⟩, rfl, rfl⟩⟩
  · rintro v2 M2 ⟨hv2, rfl⟩
    refine ⟨fun h2 => ⟨_, rfl, Or.inl ⟨fun hk => zor0 hv2 h2 hk.1, rfl, rfl⟩⟩, fun h2 => ?_⟩
    have hx := zor1 hv2 h2
    have x1 := hx.1
    have x2 := hx.2
    refine ⟨fun h4 => ⟨by omega, by omega, by omega, by omega, _, rfl, Or.inr ⟨⟨hx, Or.inr (Or.inl h4)⟩, rfl, rfl⟩⟩, fun h4 => ⟨fun h5 => ⟨by omega, by omega, by omega, by omega, _, rfl, Or.inr ⟨⟨hx, Or.inr (Or.inr h5)⟩, rfl, rfl⟩⟩, fun h5 => ⟨_, rfl, Or.inl ⟨fun hk => ?_, rfl, rfl⟩⟩⟩⟩
    rcases hk.2 with e | e | e
    · exact zor0 hv (by omega) e
    · exact h4 e
    · exact h5 e
theorem qc135 {d : Nat} {M : zMem} {pl : Nat} {ch : Nat → Nat} {x y : Int} (hpl : M 55 4 = pl) (h6 : pl ≤ 6) (hch : ∀ q, q < pl → M 60 q = ch q ∧ ch q ≤ 4) : zCi (d + 3) 135 [.inr (.inr 55), .inl x, .inl y] M (fun r M' => zset1 (zokPrint pl ch x y) (-1) 66 x.toNat y M r M') := by
  refine zk135 (zv135_0 _ _ ⟨_, qc115 hpl h6, ?_⟩)
  rintro v M1 ⟨hv, rfl⟩
  refine ⟨fun h => ⟨_, rfl, Or.inl ⟨fun hk => zor0 hv h hk.1, rfl, rfl⟩⟩, fun h => ⟨_, qc110, ?_⟩⟩
  have hx := zor1 hv h
  have x1 := hx.1
  have x2 := hx.2
  have hc4 := (hch x.toNat (by omega)).2
  rintro v2 M2 ⟨hv2, rfl⟩
  refine ⟨fun h2 => ⟨_, rfl, Or.inl ⟨fun hk => ?_, rfl, rfl⟩⟩, fun h2 => ⟨fun h4 => ⟨by omega, by omega, by omega, by omega, _, rfl, Or.inr ⟨⟨hx, Or.inr (by omega)⟩, rfl, rfl⟩⟩, fun h4 => ⟨_, qc116 hpl h6 hch, ?_⟩⟩⟩
  · rcases hk.2 with e | e | e
    · have a1 := e.2.1
      have a2 := e.2.2
      omega
    · omega
    · omega
  · rintro v3 M3 ⟨hv3, rfl⟩
    refine ⟨fun h5 => ⟨by omega, by omega, by omega, by omega, _, rfl, Or.inr ⟨⟨hx, Or.inl (zor1 hv3 h5)⟩, rfl, rfl⟩⟩, fun h5 => ⟨_, rfl, Or.inl ⟨fun hk => ?_, rfl, rfl⟩⟩⟩
    rcases hk.2 with e | e | e
    · exact zor0 hv3 (by omega) e
    · omega
    · omega
def zsChoice (pl cp : Nat) (ro : Nat → Nat → Nat) (x y r : Int) : Prop := (¬ (zisC cp x ∧ zisC pl y) ∧ r = -1) ∨ ((zisC cp x ∧ zisC pl y) ∧ r = ro x.toNat y.toNat)
theorem qc77 {d : Nat} {M : zMem} {pl cp : Nat} {ch : Nat → Nat} {me : Nat → Int} {ro : Nat → Nat → Nat} {x y : Int} (hF : zWF pl cp ch me ro) (hR : zRC M pl cp ch me ro) : zCi (d + 1) 77 [.inr (.inr 0), .inl x, .inl y] M (fun r M' => zsChoice pl cp ro x y r ∧ M' = M) := by
  have h6 := hF.1
  have h8 := hF.2.1
  refine zk77 (zv77_0 _ _ ⟨_, qc56 hR.2.1, ?_⟩)
  rintro v M1 ⟨hv, rfl⟩
  refine ⟨fun h => ⟨_, rfl, Or.inl ⟨fun hk => zor0 hv h hk.1, rfl⟩, rfl⟩, fun h => ⟨_, qc34 hR.1, ?_⟩⟩
  have hx := zor1 hv h
  rintro v2 M2 ⟨hv2, rfl⟩
  refine ⟨fun h2 => ?_, fun h2 => ⟨_, rfl, Or.inl ⟨fun hk => zor0 hv2 (by omega) hk.2, rfl⟩, rfl⟩⟩
  have hy := zor1 hv2 h2
  have x1 := hx.1
  have x2 := hx.2
  have y1 := hy.1
  have y2 := hy.2
  rw [show (x * 6 + y).toNat = 6 * x.toNat + y.toNat by omega]
  exact ⟨⟨by omega, by omega⟩, ⟨by omega, by omega⟩, by omega, by omega, _, rfl, Or.inr ⟨⟨hx, hy⟩, hR.2.2.2.2 _ (by omega) _ (by omega)⟩, rfl⟩
theorem qc122 {d : Nat} {M : zMem} {pl cp : Nat} {ch : Nat → Nat} {me : Nat → Int} {ro : Nat → Nat → Nat} {x y : Int} (hF : zWF pl cp ch me ro) (hR : zRR M pl cp ch me ro) : zCi (d + 2) 122 [.inr (.inr 55), .inl x, .inl y] M (fun r M' => zsChoice pl cp ro x y r ∧ M' = M) := by
  have h6 := hF.1
  have h8 := hF.2.1
  refine zk122 (zv122_0 _ _ ⟨_, qc121 hR.2.1 h8, ?_⟩)
  rintro v M1 ⟨hv, rfl⟩
  refine ⟨fun h => ⟨_, rfl, Or.inl ⟨fun hk => zor0 hv h hk.1, rfl⟩, rfl⟩, fun h => ⟨_, qc115 hR.1 h6, ?_⟩⟩
  have hx := zor1 hv h
  rintro v2 M2 ⟨hv2, rfl⟩
  refine ⟨fun h2 => ⟨_, rfl, Or.inl ⟨fun hk => zor0 hv2 h2 hk.2, rfl⟩, rfl⟩, fun h2 => ?_⟩
  have hy := zor1 hv2 h2
  have x1 := hx.1
  have x2 := hx.2
  have y1 := hy.1
  have y2 := hy.2
  rw [show (6 * x + y).toNat = 6 * x.toNat + y.toNat by omega]
  exact ⟨⟨by omega, by omega⟩, ⟨by omega, by omega⟩, by omega, by omega, _, rfl, Or.inr ⟨⟨hx, hy⟩, hR.2.2.2.2 _ (by omega) _ (by omega)⟩, rfl⟩
/-- a copy goes: how many are left; rows behind it go one down -/
def zbn2 (cp : Nat) (R : Nat → Int) (R' : Nat → Int) (c : Nat) : Prop := (∀ i, i < 6 * c → R' i = R i) ∧ ∀ i, 6 * c ≤ i → i < 6 * (cp - 1) → R' i = R (i + 6)
theorem qc78 {d : Nat} {M : zMem} {cp : Nat} {x : Int} (hcp : M 4 9 = cp) (h8 : cp ≤ 8) : zCi (d + 1) 78 [.inr (.inr 0), .inl x] M (fun r M' => (¬ zisC cp x ∧ r = -1 ∧ M' = M) ∨ (zisC cp x ∧ r = (cp : Int) - 1 ∧ zbn2 cp (M 7) (M' 7) x.toNat ∧ M' 4 9 = (cp : Int) - 1 ∧ (∀ j, j ≠ 9 → M' 4 j = M 4 j) ∧ ∀ k, k ≠ 4 → k ≠ 7 → M' k = M k)) := by
  refine zk78 (zv78_0 _ ⟨_, qc56 hcp, ?_⟩)
  rintro v M1 ⟨hv, rfl⟩
  rw [hcp]
  refine ⟨fun h => ?_, fun h => ⟨_, rfl, Or.inl ⟨zor0 hv (by omega), rfl, rfl⟩⟩⟩
  have hx := zor1 hv h
  have x1 := hx.1
  have x2 := hx.2
  obtain ⟨c, rfl⟩ : ∃ c : Nat, x = (c : Int) := ⟨x.toNat, by omega⟩
  refine ⟨⟨by omega, by omega⟩, ⟨by omega, by omega⟩, ⟨by omega, by omega⟩, ⟨by omega, by omega⟩, ⟨by omega, by omega⟩, ⟨by omega, by omega⟩, by omega, by omega, by omega, by omega, by omega, ⟨by omega, by omega⟩, _, rfl, Or.inr ⟨hx, rfl, ⟨?_, ?_⟩, zb_us, ?_, ?_⟩⟩
  · intro i hi
    rw [Int.toNat_natCast] at hi
    rw [zb_uk (by decide)]
    simp only [zcpy, if_true]
    rw [if_neg (by omega)]
  · intro i h1 h2
    rw [Int.toNat_natCast] at h1
    rw [zb_uk (by decide)]
    simp only [zcpy, if_true]
    rw [if_pos (by omega)]
    congr 1
    omega
  · intro j hj
    rw [zb_ui hj, zb_ck (by decide)]
  · intro k h1 h2
    rw [zb_uk h1, zb_ck h2]
theorem qc123 {d : Nat} {M : zMem} {cp : Nat} {x : Int} (hcp : M 55 12 = cp) (h8 : cp ≤ 8) : zCi (d + 2) 123 [.inr (.inr 55), .inl x] M (fun r M' => (¬ zisC cp x ∧ r = -1 ∧ M' = M) ∨ (zisC cp x ∧ r = (cp : Int) - 1 ∧ zbn2 cp (M 65) (M' 65) x.toNat ∧ M' 55 12 = (cp : Int) - 1 ∧ (∀ j, j ≠ 12 → M' 55 j = M 55 j) ∧ ∀ k, k ≠ 55 → k ≠ 65 → M' k = M k)) := by
  refine zk123 (zv123_0 _ ⟨_, qc121 hcp h8, ?_⟩)
  rintro v M1 ⟨hv, rfl⟩
  rw [hcp]
  refine ⟨fun h => ⟨⟨by omega, by omega⟩, ?_⟩, fun h => ⟨_, rfl, Or.inl ⟨zor0 hv (by omega), rfl, rfl⟩⟩⟩
  have hx := zor1 hv h
  have x1 := hx.1
  have x2 := hx.2
  obtain ⟨c, rfl⟩ : ∃ c : Nat, x = (c : Int) := ⟨x.toNat, by omega⟩
  refine ⟨⟨by omega, by omega⟩, ?_⟩
  have key : ∀ (m k : Nat) (M2 : zMem), k + m = 6 * (cp - 1) → 6 * c ≤ k → M2 55 12 = (cp : Int) - 1 → (∀ j, j ≠ 12 → M2 55 j = M1 55 j) → (∀ k, k ≠ 55 → k ≠ 65 → M2 k = M1 k) → (∀ i, i < 6 * c → M2 65 i = M1 65 i) → (∀ i, 6 * c ≤ i → i < k → M2 65 i = M1 65 (i + 6)) → (∀ i, k ≤ i → M2 65 i = M1 65 i) →
      zBg (d + 2) 123 25 [zR 55, none, zI (k : Int)] [] M2 (fun q M' => ∃ w : Int, q = some (.inl w) ∧ ((¬ zisC cp (c : Int) ∧ w = -1 ∧ M' = M1) ∨ (zisC cp (c : Int) ∧ w = (cp : Int) - 1 ∧ zbn2 cp (M1 65) (M' 65) ((c : Int)).toNat ∧ M' 55 12 = (cp : Int) - 1 ∧ (∀ j, j ≠ 12 → M' 55 j = M1 55 j) ∧ ∀ k, k ≠ 55 → k ≠ 65 → M' k = M1 k))) := by
    intro m
    induction m with
    | zero =>
      intro k M2 hk hck c2 f2 g2 a1 a2 a3
      refine zv123_25 _ ?_
      rw [c2]
      refine ⟨⟨by omega, by omega⟩, fun _ => ⟨_, rfl, Or.inr ⟨hx, rfl, ⟨?_, ?_⟩, rfl, f2, g2⟩⟩, fun h => absurd (by omega) h⟩
      · rw [Int.toNat_natCast]; exact a1
      · rw [Int.toNat_natCast]; exact fun i h1 h2 => a2 i h1 (by omega)
    | succ m ih =>
      intro k M2 hk hck c2 f2 g2 a1 a2 a3
      refine zv123_25 _ ?_
      rw [c2]
      refine ⟨⟨by omega, by omega⟩, fun h => by omega, fun _ => ⟨⟨by omega, by omega⟩, by omega, by omega, by omega, by omega, ⟨by omega, by omega⟩, ?_⟩⟩
      rw [show ((k : Int) + 6).toNat = k + 6 by omega, Int.toNat_natCast, a3 (k + 6) (by omega)]
      refine ih (k + 1) _ (by omega) (by omega) (by rw [zb_uk (by decide)]; exact c2) (fun j hj => by rw [zb_uk (by decide)]; exact f2 j hj) (fun q h1 h2 => by rw [zb_uk h2]; exact g2 q h1 h2) (fun i hi => by rw [zb_ui (by omega)]; exact a1 i hi) (fun i h1 h2 => ?_) (fun i hi => by rw [zb_ui (by omega)]; exact a3 i (by omega))
      by_cases hik : i = k
      · subst hik; exact zb_us
      · rw [zb_ui hik]; exact a2 i h1 (by omega)
  have := key (6 * (cp - 1) - 6 * c) (6 * c) (zup M1 55 12 ((cp : Int) - 1)) (by omega) (Nat.le_refl _) zb_us (fun j hj => by rw [zb_ui hj]) (fun k h1 _ => by rw [zb_uk h1]) (fun i _ => by rw [zb_uk (by decide)]) (fun i h1 h2 => by omega) (fun i _ => by rw [zb_uk (by decide)])
  rw [show ((6 * c : Nat) : Int) = 6 * (c : Int) by omega] at this
  exact this
/-- N (a = 0) or HOW (a = 1) is told and set -/
def zsSet (x y : Int) (k a b : Nat) (M : zMem) (r : Int) (M' : zMem) : Prop := (x = 0 ∧ 1 ≤ y ∧ y ≤ 3 ∧ r = M k a ∧ M' = zup M k a y) ∨ (x = 1 ∧ 0 ≤ y ∧ y ≤ 2 ∧ r = M k b ∧ M' = zup M k b y) ∨ (¬ (x = 0 ∧ 1 ≤ y ∧ y ≤ 3) ∧ ¬ (x = 1 ∧ 0 ≤ y ∧ y ≤ 2) ∧ r = -1 ∧ M' = M)
theorem qc81 {d : Nat} {M : zMem} {x y : Int} : zCi d 81 [.inr (.inr 0), .inl x, .inl y] M (fun r M' => zsSet x y 4 11 12 M r M') := by
  have B : ¬ (x = 0 ∧ 1 ≤ y ∧ y ≤ 3) → ¬ (x = 1 ∧ 0 ≤ y ∧ y ≤ 2) → ∃ v : Int, zI (-1) = some (.inl v) ∧ zsSet x y 4 11 12 M v M := fun h1 h2 => ⟨_, rfl, Or.inr (Or.inr ⟨h1, h2, rfl, rfl⟩)⟩
  refine zk81 (zv81_0 _ _ ⟨fun h => ⟨fun h1 => B (by omega) (by omega), fun h1 => ⟨fun h2 => B (by omega) (by omega), fun h2 => ⟨fun h3 => B (by omega) (by omega), fun h3 => ⟨_, rfl, Or.inr (Or.inl ⟨by omega, by omega, by omega, rfl, rfl⟩)⟩⟩⟩⟩, fun h => ⟨fun h1 => ⟨fun h2 => B (by omega) (by omega), fun h2 => by omega⟩, fun h1 => ⟨fun h2 => ⟨fun h3 => B (by omega) (by omega), fun h3 => by omega⟩, fun h2 => ⟨_, rfl, Or.inl ⟨by omega, by omega, by omega, rfl, rfl⟩⟩⟩⟩⟩)
theorem qc128 {d : Nat} {M : zMem} {x y : Int} : zCi (d + 1) 128 [.inr (.inr 55), .inl x, .inl y] M (fun r M' => zsSet x y 55 14 15 M r M') := by
  have B : ¬ (x = 0 ∧ 1 ≤ y ∧ y ≤ 3) → ¬ (x = 1 ∧ 0 ≤ y ∧ y ≤ 2) → ∃ v : Int, zI (-1) = some (.inl v) ∧ zsSet x y 55 14 15 M v M := fun h1 h2 => ⟨_, rfl, Or.inr (Or.inr ⟨h1, h2, rfl, rfl⟩)⟩
  refine zk128 (zv128_0 _ _ ⟨_, qc110, ?_⟩)
  rintro v M1 ⟨hv, rfl⟩
  refine ⟨fun h => B (by omega) (by omega), fun h => ⟨fun h0 => ⟨fun _ => ⟨_, qc110, ?_⟩, fun h => absurd h0 h⟩, fun h0 => ⟨fun h => absurd h h0, fun _ => ⟨_, qc110, ?_⟩⟩⟩⟩
  · rintro v2 M2 ⟨hv2, rfl⟩
    exact ⟨fun h2 => ⟨fun _ => ⟨fun _ => ⟨_, rfl, Or.inr (Or.inl ⟨by omega, by omega, by omega, rfl, rfl⟩)⟩, fun h => absurd h0 h⟩, fun h => absurd h0 h⟩, fun h2 => B (by omega) (by omega)⟩
  · rintro v2 M2 ⟨hv2, rfl⟩
    exact ⟨fun h2 => ⟨fun h => absurd h h0, fun _ => ⟨fun h => absurd h h0, fun _ => ⟨_, rfl, Or.inl ⟨by omega, by omega, by omega, rfl, rfl⟩⟩⟩⟩, fun h2 => B (by omega) (by omega)⟩
def zsScore (pl cp : Nat) (ro : Nat → Nat → Nat) (v : Nat → Nat) (x r : Int) : Prop := (¬ zisC cp x ∧ r = -1) ∨ (zisC cp x ∧ r = (zcnt (fun q => ro x.toNat q == v q) pl : Int))
theorem qc62 {d : Nat} {M : zMem} {pl c : Nat} {r v : Nat → Nat} (hpl : M 13 6 = pl) (h6 : pl ≤ 6) (hc : c < 8) (hr : ∀ p, p < pl → M 7 (6 * c + p) = r p) (hv : ∀ p, p < pl → M 8 p = v p) :
    zCi d 62 [.inr (.inr 4), .inl (c : Int)] M (fun w M' => w = (zcnt (fun q => r q == v q) pl : Int) ∧ M' = M) := by
  refine zk62 (zv62_0 _ ?_)
  have key : ∀ (m p : Nat), p + m = pl → zBg d 62 4 [zR 4, zI (c : Int), zI (zcnt (fun q => r q == v q) p : Int), zI (p : Int)] [] M (fun q M' => ∃ w : Int, q = some (.inl w) ∧ w = (zcnt (fun q => r q == v q) pl : Int) ∧ M' = M) := by
    intro m
    induction m with
    | zero =>
      intro p hp
      have : p = pl := by omega
      subst this
      exact zv62_4 _ _ _ ⟨fun _ => ⟨_, rfl, rfl, rfl⟩, fun h => absurd (by omega) h⟩
    | succ m ih =>
      intro p hp
      have ih1 := ih (p + 1) (by omega)
      have hl := zcnt_le (P := fun q => r q == v q) p
      simp only [zcnt] at ih1
      refine zv62_4 _ _ _ ⟨fun h => by omega, fun _ => ?_⟩
      rw [show ((c : Int) * 6 + (p : Int)).toNat = 6 * c + p by omega, Int.toNat_natCast, hr p (by omega), hv p (by omega)]
      refine ⟨by omega, by omega, ⟨by omega, by omega⟩, ⟨by omega, by omega⟩, by omega, by omega, fun h => ⟨⟨by omega, by omega⟩, ⟨by omega, by omega⟩, ?_⟩, fun h => ⟨⟨by omega, by omega⟩, ⟨by omega, by omega⟩, ?_⟩⟩
      · rw [if_neg (by simp; omega)] at ih1
        simpa using ih1
      · rw [if_pos (by simp; omega)] at ih1
        simpa using ih1
  exact key pl 0 (by omega)
theorem qc93 {d : Nat} {M : zMem} {pl cp : Nat} {ch v : Nat → Nat} {me : Nat → Int} {ro : Nat → Nat → Nat} {x : Int} (hF : zWF pl cp ch me ro) (hR : zRC M pl cp ch me ro) (hv : ∀ p, p < pl → M 8 p = v p) : zCi (d + 1) 93 [.inr (.inr 0), .inl x] M (fun r M' => zsScore pl cp ro v x r ∧ M' = M) := by
  have h8 := hF.2.1
  refine zk93 (zv93_0 _ ⟨_, qc56 hR.2.1, ?_⟩)
  rintro w M1 ⟨hw, rfl⟩
  refine ⟨fun h => ⟨_, rfl, Or.inl ⟨zor0 hw h, rfl⟩, rfl⟩, fun h => ?_⟩
  have hx := zor1 hw h
  have x1 := hx.1
  have x2 := hx.2
  obtain ⟨c, rfl⟩ : ∃ c : Nat, x = (c : Int) := ⟨x.toNat, by omega⟩
  refine ⟨_, qc62 (r := ro c) (v := v) hR.1 hF.1 (by omega) (fun p hp => hR.2.2.2.2 c (by omega) p hp) hv, ?_⟩
  rintro w2 M2 ⟨rfl, rfl⟩
  exact ⟨_, rfl, Or.inr ⟨hx, by rw [Int.toNat_natCast]⟩, rfl⟩
theorem qc157 {d : Nat} {M : zMem} {pl cp : Nat} {ch v : Nat → Nat} {me : Nat → Int} {ro : Nat → Nat → Nat} {x : Int} (hF : zWF pl cp ch me ro) (hR : zRR M pl cp ch me ro) (hv : ∀ p, p < pl → M 66 p = v p) : zCi (d + 2) 157 [.inr (.inr 55), .inl x] M (fun r M' => zsScore pl cp ro v x r ∧ M' = M) := by
  have h8 := hF.2.1
  refine zk157 (zv157_0 _ ⟨_, qc121 hR.2.1 h8, ?_⟩)
  rintro w M1 ⟨hw, rfl⟩
  refine ⟨fun h => ⟨_, rfl, Or.inl ⟨zor0 hw h, rfl⟩, rfl⟩, fun h => ?_⟩
  have hx := zor1 hw h
  have x1 := hx.1
  have x2 := hx.2
  obtain ⟨c, rfl⟩ : ∃ c : Nat, x = (c : Int) := ⟨x.toNat, by omega⟩
  refine ⟨_, qc156 (r := ro c) (v := v) (n := 6) hR.1 hF.1 (by omega) rfl (by decide) (fun p hp => hR.2.2.2.2 c (by omega) p hp) hv, ?_⟩
  rintro w2 M2 ⟨rfl, rfl⟩
  exact ⟨_, rfl, Or.inr ⟨hx, by rw [Int.toNat_natCast]⟩, rfl⟩
