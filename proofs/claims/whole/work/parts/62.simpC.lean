/-! copy between sheets, a copy from a sheet, keep: both sides -/
theorem zsRef_no {L N : Nat → Int} {x1 x2 x3 x4 r : Int} (h : zsRef L N x1 x2 x3 x4 r) (hx : zisC 4 x1) (hy : zisC 3 x2) (hl : L x1.toNat = x2) (hr : r < 0) : ¬ zhas N x1 x3 x4 := by
  have y1 := hy.1
  rcases h with h | h | h | h | h
  · exact absurd ⟨hx, hy⟩ h.1
  · have := h.2.1; omega
  · exact absurd hl h.2.2.1
  · exact h.2.2.1
  · have := h.2.2.2; omega
def zsCopy (kl kn ki kx : Nat) (x1 x2 x3 x4 x5 : Int) (M : zMem) (r : Int) (M' : zMem) : Prop :=
  ((¬ (zisC 4 x1 ∧ zisC 4 x3) ∧ r = -1 ∨ (zisC 4 x1 ∧ zisC 4 x3) ∧ (M kl x1.toNat = -1 ∨ M kl x3.toNat = -1) ∧ r = -11 ∨ (zisC 4 x1 ∧ zisC 4 x3) ∧ ¬ (M kl x1.toNat = -1 ∨ M kl x3.toNat = -1) ∧ M kl x1.toNat ≠ M kl x3.toNat ∧ r = -12 ∨ (zisC 4 x1 ∧ zisC 4 x3) ∧ ¬ (M kl x1.toNat = -1 ∨ M kl x3.toNat = -1) ∧ M kl x1.toNat = M kl x3.toNat ∧ ¬ (zhas (M kn) x1 x2 x5 ∧ zhas (M kn) x3 x4 x5) ∧ r = -13) ∧ M' = M) ∨
  ((zisC 4 x1 ∧ zisC 4 x3) ∧ ¬ (M kl x1.toNat = -1 ∨ M kl x3.toNat = -1) ∧ M kl x1.toNat = M kl x3.toNat ∧ (zhas (M kn) x1 x2 x5 ∧ zhas (M kn) x3 x4 x5) ∧ r = x5 ∧ (∀ i, M' ki i = if 12 * x3.toNat + x4.toNat ≤ i ∧ i < 12 * x3.toNat + x4.toNat + x5.toNat then M ki (12 * x1.toNat + x2.toNat + (i - (12 * x3.toNat + x4.toNat))) else M ki i) ∧ ∀ k, k ≠ ki → k ≠ kx → M' k = M k)
theorem qc53 {d : Nat} {M : zMem} {x1 x2 x3 x4 x5 : Int} (hS : zShOk (M 33) (M 34)) : zCi (d + 1) 53 [.inr (.inr 32), .inl x1, .inl x2, .inl x3, .inl x4, .inl x5] M (fun r M' => zsCopy 33 34 35 35 x1 x2 x3 x4 x5 M r M') := by
  refine zk53 (zv53_0 _ _ _ _ _ ⟨_, qc46, ?_⟩)
  rintro v M1 ⟨hv, rfl⟩
  refine ⟨fun h => ⟨_, rfl, Or.inl ⟨Or.inl ⟨fun hk => zor0 hv h hk.1, rfl⟩, rfl⟩⟩, fun h => ⟨_, qc46, ?_⟩⟩
  have hx := zor1 hv h
  rintro v2 M2 ⟨hv2, rfl⟩
  refine ⟨fun h2 => ?_, fun h2 => ⟨_, rfl, Or.inl ⟨Or.inl ⟨fun hk => zor0 hv2 (by omega) hk.2, rfl⟩, rfl⟩⟩⟩
  have hy := zor1 hv2 h2
  refine ⟨hx.1, hx.2, fun h3 => ⟨_, rfl, Or.inl ⟨Or.inr (Or.inl ⟨⟨hx, hy⟩, Or.inl h3, rfl⟩), rfl⟩⟩, fun h3 => ⟨hy.1, hy.2, fun h4 => ⟨hx.1, hx.2, hy.1, hy.2, fun h5 => ⟨_, qc51 hS hx, ?_⟩, fun h5 => ⟨_, rfl, Or.inl ⟨Or.inr (Or.inr (Or.inl ⟨⟨hx, hy⟩, by omega, h5, rfl⟩)), rfl⟩⟩⟩, fun h4 => ⟨_, rfl, Or.inl ⟨Or.inr (Or.inl ⟨⟨hx, hy⟩, Or.inr (by omega), rfl⟩), rfl⟩⟩⟩⟩
  rintro v3 M3 ⟨hv3, rfl⟩
  refine ⟨fun h6 => ⟨_, rfl, Or.inl ⟨Or.inr (Or.inr (Or.inr ⟨⟨hx, hy⟩, by omega, h5, fun hk => zor0 hv3 h6 hk.1, rfl⟩)), rfl⟩⟩, fun h6 => ⟨_, qc51 hS hy, ?_⟩⟩
  have ha := zor1 hv3 h6
  rintro v4 M4 ⟨hv4, rfl⟩
  refine ⟨fun h7 => ?_, fun h7 => ⟨_, rfl, Or.inl ⟨Or.inr (Or.inr (Or.inr ⟨⟨hx, hy⟩, by omega, h5, fun hk => zor0 hv4 (by omega) hk.2, rfl⟩)), rfl⟩⟩⟩
  have hb := zor1 hv4 h7
  obtain ⟨p1, p2⟩ := id hx
  obtain ⟨q1, q2⟩ := id hy
  obtain ⟨a1, a2, a3⟩ := id ha
  obtain ⟨b1, b2, b3⟩ := id hb
  have n1 := (hS x1.toNat (by omega)).2.2.2
  have n2 := (hS x3.toNat (by omega)).2.2.2
  refine ⟨⟨by omega, by omega⟩, ⟨by omega, by omega⟩, ⟨by omega, by omega⟩, ⟨by omega, by omega⟩, by omega, by omega, by omega, by omega, by omega, _, rfl, Or.inr ⟨⟨hx, hy⟩, by omega, h5, ⟨ha, hb⟩, rfl, fun i => ?_, fun k hk _ => by rw [zb_ck hk]⟩⟩
  rw [show (x1 * 12 + x2).toNat = 12 * x1.toNat + x2.toNat by omega, show (x3 * 12 + x4).toNat = 12 * x3.toNat + x4.toNat by omega]
  simp only [zcpy, if_true]
theorem qc106 {d : Nat} {M : zMem} {x1 x2 x3 x4 x5 : Int} (hS : zShOk (M 33) (M 34)) : zCi (d + 2) 106 [.inr (.inr 0), .inl x1, .inl x2, .inl x3, .inl x4, .inl x5] M (fun r M' => zsCopy 33 34 35 35 x1 x2 x3 x4 x5 M r M') :=
  zk106 (zv106_0 _ _ _ _ _ ⟨_, qc53 hS, fun _ _ h => ⟨_, rfl, h⟩⟩)
theorem qc178 {d : Nat} {M : zMem} {x1 x2 x3 x4 x5 : Int} (hS : zShOk (M 76) (M 77)) (r2 : zR32 x2) (r4 : zR32 x4) (r5 : zR32 x5) : zCi (d + 2) 178 [.inr (.inr 55), .inl x1, .inl x2, .inl x3, .inl x4, .inl x5] M (fun r M' => zsCopy 76 77 78 79 x1 x2 x3 x4 x5 M r M') := by
  refine zk178 (zv178_0 _ _ _ _ _ ⟨_, qc172, ?_⟩)
  rintro v M1 ⟨hv, rfl⟩
  refine ⟨fun h => ⟨_, rfl, Or.inl ⟨Or.inl ⟨fun hk => zor0 hv h hk.1, rfl⟩, rfl⟩⟩, fun h => ⟨_, qc172, ?_⟩⟩
  have hx := zor1 hv h
  rintro v2 M2 ⟨hv2, rfl⟩
  refine ⟨fun h2 => ?_, fun h2 => ⟨_, rfl, Or.inl ⟨Or.inl ⟨fun hk => zor0 hv2 (by omega) hk.2, rfl⟩, rfl⟩⟩⟩
  have hy := zor1 hv2 h2
  obtain ⟨p1, p2⟩ := id hx
  obtain ⟨q1, q2⟩ := id hy
  have n1 := hS x1.toNat (by omega)
  have n2 := hS x3.toNat (by omega)
  refine ⟨hx.1, hx.2, fun h3 => ⟨_, rfl, Or.inl ⟨Or.inr (Or.inl ⟨⟨hx, hy⟩, Or.inl (by omega), rfl⟩), rfl⟩⟩, fun h3 => ⟨hy.1, hy.2, fun h4 => ⟨hx.1, hx.2, hy.1, hy.2, fun h5 => ⟨fun h6 => ⟨_, rfl, Or.inl ⟨Or.inr (Or.inr (Or.inr ⟨⟨hx, hy⟩, by omega, h5, fun hk => by have := hk.1.2.1; omega, rfl⟩)), rfl⟩⟩, fun h6 => ⟨hx.1, hx.2, _, qc174 hS hx ⟨by omega, by omega⟩ r2 (by omega) r5, ?_⟩⟩, fun h5 => ⟨_, rfl, Or.inl ⟨Or.inr (Or.inr (Or.inl ⟨⟨hx, hy⟩, by omega, h5, rfl⟩)), rfl⟩⟩⟩, fun h4 => ⟨_, rfl, Or.inl ⟨Or.inr (Or.inl ⟨⟨hx, hy⟩, Or.inr (by omega), rfl⟩), rfl⟩⟩⟩⟩
  rintro v3 M3 ⟨hv3, rfl⟩
  refine ⟨fun h7 => ⟨_, rfl, Or.inl ⟨Or.inr (Or.inr (Or.inr ⟨⟨hx, hy⟩, by omega, h5, fun hk => zsRef_no hv3 hx ⟨by omega, by omega⟩ rfl h7 hk.1, rfl⟩)), rfl⟩⟩, fun h7 => ⟨hy.1, hy.2, _, qc174 hS hy ⟨by omega, by omega⟩ r4 (by omega) r5, ?_⟩⟩
  have ha := (zsRef_ok hv3 (by omega)).2.2.2
  rintro v4 M4 ⟨hv4, rfl⟩
  refine ⟨fun h8 => ?_, fun h8 => ⟨_, rfl, Or.inl ⟨Or.inr (Or.inr (Or.inr ⟨⟨hx, hy⟩, by omega, h5, fun hk => zsRef_no hv4 hy ⟨by omega, by omega⟩ rfl (by omega) hk.2, rfl⟩)), rfl⟩⟩⟩
  have hb := (zsRef_ok hv4 h8).2.2.2
  obtain ⟨a1, a2, a3⟩ := id ha
  obtain ⟨b1, b2, b3⟩ := id hb
  have k2 : ∀ (m k : Nat) (M5 : zMem), k + m = x5.toNat → (∀ i, i < x5.toNat → M5 79 i = M4 78 (12 * x1.toNat + x2.toNat + i)) → (∀ i, M5 78 i = if 12 * x3.toNat + x4.toNat ≤ i ∧ i < 12 * x3.toNat + x4.toNat + k then M4 78 (12 * x1.toNat + x2.toNat + (i - (12 * x3.toNat + x4.toNat))) else M4 78 i) → (∀ k, k ≠ 78 → k ≠ 79 → M5 k = M4 k) → zBg (d + 2) 178 138 [zR 55, none, none, zI x3, zI x4, zI x5, zI (k : Int)] [] M5 (fun q M' => ∃ w : Int, q = some (.inl w) ∧ zsCopy 76 77 78 79 x1 x2 x3 x4 x5 M4 w M') := by
    intro m
    induction m with
    | zero =>
      intro k M5 hk c1 c2 c3
      have : k = x5.toNat := by omega
      subst this
      exact zv178_138 _ _ _ _ ⟨fun _ => ⟨_, rfl, Or.inr ⟨⟨hx, hy⟩, by omega, h5, ⟨ha, hb⟩, rfl, c2, c3⟩⟩, fun h => absurd (by omega) h⟩
    | succ m ih =>
      intro k M5 hk c1 c2 c3
      refine zv178_138 _ _ _ _ ⟨fun h => by omega, fun _ => ⟨⟨by omega, by omega⟩, ⟨by omega, by omega⟩, ⟨by omega, by omega⟩, by omega, by omega, by omega, by omega, ⟨by omega, by omega⟩, ?_⟩⟩
      rw [show (12 * x3 + x4 + (k : Int)).toNat = 12 * x3.toNat + x4.toNat + k by omega, Int.toNat_natCast, c1 k (by omega)]
      refine ih (k + 1) _ (by omega) (fun i hi => by rw [zb_uk (by decide)]; exact c1 i hi) (fun i => ?_) (fun q g1 g2 => by rw [zb_uk g1]; exact c3 q g1 g2)
      by_cases hi : i = 12 * x3.toNat + x4.toNat + k
      · subst hi
        rw [zb_us, if_pos (by omega)]
        congr 1
        omega
      · rw [zb_ui hi, c2]
        by_cases hj : 12 * x3.toNat + x4.toNat ≤ i ∧ i < 12 * x3.toNat + x4.toNat + k
        · rw [if_pos hj, if_pos (by omega)]
        · rw [if_neg hj, if_neg (by omega)]
  have k1 : ∀ (m k : Nat) (M5 : zMem), k + m = x5.toNat → (∀ i, i < k → M5 79 i = M4 78 (12 * x1.toNat + x2.toNat + i)) → (∀ k, k ≠ 79 → M5 k = M4 k) → zBg (d + 2) 178 101 [zR 55, zI x1, zI x2, zI x3, zI x4, zI x5, zI (k : Int)] [] M5 (fun q M' => ∃ w : Int, q = some (.inl w) ∧ zsCopy 76 77 78 79 x1 x2 x3 x4 x5 M4 w M') := by
    intro m
    induction m with
    | zero =>
      intro k M5 hk c1 c3
      have : k = x5.toNat := by omega
      subst this
      refine zv178_101 _ _ _ _ _ _ ⟨fun _ => k2 x5.toNat 0 M5 (by omega) c1 (fun i => ?_) (fun k _ g2 => c3 k g2), fun h => absurd (by omega) h⟩
      rw [if_neg (by omega), c3 78 (by decide)]
    | succ m ih =>
      intro k M5 hk c1 c3
      refine zv178_101 _ _ _ _ _ _ ⟨fun h => by omega, fun _ => ⟨⟨by omega, by omega⟩, ⟨by omega, by omega⟩, ⟨by omega, by omega⟩, by omega, by omega, by omega, by omega, ⟨by omega, by omega⟩, ?_⟩⟩
      rw [show (12 * x1 + x2 + (k : Int)).toNat = 12 * x1.toNat + x2.toNat + k by omega, Int.toNat_natCast, c3 78 (by decide)]
      refine ih (k + 1) _ (by omega) (fun i hi => ?_) (fun q g1 => by rw [zb_uk g1]; exact c3 q g1)
      by_cases hj : i = k
      · subst hj; rw [zb_us]
      · rw [zb_ui hj]; exact c1 i (by omega)
  exact k1 x5.toNat 0 M4 (by omega) (fun i hi => by omega) (fun _ _ => rfl)
/-- a copy read off a sheet -/
def zgood (sz pl : Nat) (ch : Nat → Nat) (I : Nat → Int) (b : Nat) : Prop := sz ≠ 0 ∧ ∀ p, p < pl → zisH pl ch (p : Int) (I (b + p))
def zsCopyOf (kl kn ki kf kj kr : Nat) (sz pl cp : Nat) (ch : Nat → Nat) (x1 x2 x3 : Int) (M : zMem) (r : Int) (M' : zMem) : Prop :=
  (∃ v, zsRef (M kl) (M kn) x1 x2 x3 pl v ∧ v < 0 ∧ r = v ∧ M' = M) ∨
  ∃ v, zsRef (M kl) (M kn) x1 x2 x3 pl v ∧ 0 ≤ v ∧ ((¬ zgood sz pl ch (M ki) (12 * x1.toNat + x3.toNat) ∧ r = -2 ∧ M' = M) ∨ (zgood sz pl ch (M ki) (12 * x1.toNat + x3.toNat) ∧ cp = 8 ∧ r = -3 ∧ M' = M) ∨ (zgood sz pl ch (M ki) (12 * x1.toNat + x3.toNat) ∧ cp < 8 ∧ r = cp ∧ (∀ p, p < pl → M' kr (6 * cp + p) = M ki (12 * x1.toNat + x3.toNat + p)) ∧ (∀ i, i < 6 * cp → M' kr i = M kr i) ∧ M' kf kj = (cp : Int) + 1 ∧ (∀ j, j ≠ kj → M' kf j = M kf j) ∧ ∀ k, k ≠ kf → k ≠ kr → M' k = M k))
theorem qc76 {d : Nat} {M : zMem} {sz pl cp : Nat} {ch : Nat → Nat} {x1 x2 x3 : Int} (hS : zShOk (M 33) (M 34)) (hsz : M 13 4 = if sz = 0 then 0 else 1) (hpl : M 13 6 = pl) (h6 : pl ≤ 6) (hcp : M 4 9 = cp) (h8 : cp ≤ 8) (hch : ∀ q, q < pl → M 15 q = ch q) : zCi (d + 3) 76 [.inr (.inr 0), .inl x1, .inl x2, .inl x3] M (fun r M' => zsCopyOf 33 34 35 4 9 7 sz pl cp ch x1 x2 x3 M r M') := by
  refine zk76 (zv76_0 _ _ _ ?_)
  rw [hpl]
  refine ⟨_, qc50 hS, ?_⟩
  rintro v M1 ⟨hv, rfl⟩
  refine ⟨fun h => ?_, fun h => ⟨_, rfl, Or.inl ⟨v, hv, by omega, rfl, rfl⟩⟩⟩
  obtain ⟨⟨a1, a2⟩, _, _, b1, b2, b3⟩ := zsRef_ok hv h
  have n1 := (hS x1.toNat (by omega)).2.2.2
  refine ⟨⟨by omega, by omega⟩, ⟨by omega, by omega⟩, fun w M' => (¬ zgood sz pl ch (M1 35) (12 * x1.toNat + x3.toNat) ∧ w = -2 ∧ M' = M1) ∨ (zgood sz pl ch (M1 35) (12 * x1.toNat + x3.toNat) ∧ cp = 8 ∧ w = -3 ∧ M' = M1) ∨ (zgood sz pl ch (M1 35) (12 * x1.toNat + x3.toNat) ∧ cp < 8 ∧ w = cp ∧ (∀ p, p < pl → M' 7 (6 * cp + p) = M1 35 (12 * x1.toNat + x3.toNat + p)) ∧ (∀ i, i < 6 * cp → M' 7 i = M1 7 i) ∧ M' 4 9 = (cp : Int) + 1 ∧ (∀ j, j ≠ 9 → M' 4 j = M1 4 j) ∧ ∀ k, k ≠ 4 → k ≠ 7 → M' k = M1 k), ?_, fun w M' hw => ⟨_, rfl, Or.inr ⟨v, hv, h, hw⟩⟩⟩
  obtain ⟨b, hb⟩ : ∃ b : Nat, b = 12 * x1.toNat + x3.toNat := ⟨_, rfl⟩
  rw [show x1 * 12 + x3 = (b : Int) by omega, ← hb]
  refine zk58 (zv58_0 _ ?_)
  rw [hsz]
  refine ⟨fun hs => ?_, fun hs => ⟨_, rfl, Or.inl ⟨fun hg => hs (by rw [if_neg hg.1]; decide), rfl, rfl⟩⟩⟩
  have hs0 : sz ≠ 0 := by
    intro h0
    rw [if_pos h0] at hs
    exact hs rfl
  have key : ∀ (m p : Nat), p + m = pl → (∀ q, q < p → zisH pl ch (q : Int) (M1 35 (b + q))) → zBg (d + 2) 58 15 [zR 4, zR 35, zI (b : Int), zI (p : Int)] [] M1 (fun q M' => ∃ w : Int, q = some (.inl w) ∧ ((¬ zgood sz pl ch (M1 35) b ∧ w = -2 ∧ M' = M1) ∨ (zgood sz pl ch (M1 35) b ∧ cp = 8 ∧ w = -3 ∧ M' = M1) ∨ (zgood sz pl ch (M1 35) b ∧ cp < 8 ∧ w = cp ∧ (∀ p, p < pl → M' 7 (6 * cp + p) = M1 35 (b + p)) ∧ (∀ i, i < 6 * cp → M' 7 i = M1 7 i) ∧ M' 4 9 = (cp : Int) + 1 ∧ (∀ j, j ≠ 9 → M' 4 j = M1 4 j) ∧ ∀ k, k ≠ 4 → k ≠ 7 → M' k = M1 k))) := by
    intro m
    induction m with
    | zero =>
      intro p hp hq
      have : p = pl := by omega
      subst this
      refine zv58_15 _ _ ?_
      rw [hcp, hpl]
      refine ⟨fun _ => ⟨fun h9 => ?_, fun h9 => ⟨_, rfl, Or.inr (Or.inl ⟨⟨hs0, hq⟩, by omega, rfl, rfl⟩)⟩⟩, fun h => absurd (by omega) h⟩
      refine ⟨⟨by omega, by omega⟩, by omega, by omega, by omega, by omega, by omega, ⟨by omega, by omega⟩, ⟨by omega, by omega⟩, _, rfl, Or.inr (Or.inr ⟨⟨hs0, hq⟩, by omega, by omega, fun q hq2 => ?_, fun i hi => ?_, zb_us, fun j hj => ?_, fun k g1 g2 => ?_⟩)⟩
      · rw [zb_uk (by decide)]
        simp only [zcpy, if_true]
        rw [if_pos (by omega)]
        congr 1
        omega
      · rw [zb_uk (by decide)]
        simp only [zcpy, if_true]
        rw [if_neg (by omega)]
      · rw [zb_ui hj, zb_ck (by decide)]
      · rw [zb_uk g1, zb_ck g2]
    | succ m ih =>
      intro p hp hq
      refine zv58_15 _ _ ?_
      rw [hpl, show ((b : Int) + (p : Int)).toNat = b + p by omega]
      refine ⟨fun h => by omega, fun _ => ⟨⟨by omega, by omega⟩, by omega, by omega, _, qc35 hpl h6 hch, ?_⟩⟩
      rintro w M2 ⟨hw, rfl⟩
      refine ⟨fun g => ⟨⟨by omega, by omega⟩, ih (p + 1) (by omega) (fun q hq2 => ?_)⟩, fun g => ⟨_, rfl, Or.inl ⟨fun hg => zor0 hw (by omega) (hg.2 p (by omega)), rfl, rfl⟩⟩⟩
      by_cases hqp : q = p
      · subst hqp; exact zor1 hw g
      · exact hq q (by omega)
  exact key pl 0 (by omega) (fun q hq => by omega)
theorem qc120 {d : Nat} {M : zMem} {sz pl cp : Nat} {ch : Nat → Nat} {x1 x2 x3 : Int} (hS : zShOk (M 76) (M 77)) (r3 : zR32 x3) (hsz : M 55 2 = sz) (hpl : M 55 4 = pl) (h6 : pl ≤ 6) (hcp : M 55 12 = cp) (h8 : cp ≤ 8) (hch : ∀ q, q < pl → M 60 q = ch q ∧ ch q ≤ 4) : zCi (d + 3) 120 [.inr (.inr 55), .inl x1, .inl x2, .inl x3] M (fun r M' => zsCopyOf 76 77 78 55 12 65 sz pl cp ch x1 x2 x3 M r M') := by
  refine zk120 (zv120_0 _ _ _ ⟨_, qc172, ?_⟩)
  rintro v M1 ⟨hv, rfl⟩
  refine ⟨fun h => ⟨_, rfl, Or.inl ⟨_, Or.inl ⟨fun hk => zor0 hv h hk.1, rfl⟩, by decide, rfl, rfl⟩⟩, fun h => ⟨_, qc173, ?_⟩⟩
  have hx := zor1 hv h
  rintro v2 M2 ⟨hv2, rfl⟩
  refine ⟨fun h2 => ?_, fun h2 => ⟨_, rfl, Or.inl ⟨_, Or.inl ⟨fun hk => zor0 hv2 (by omega) hk.2, rfl⟩, by decide, rfl, rfl⟩⟩⟩
  have hy := zor1 hv2 h2
  rw [hpl]
  refine ⟨_, qc174 hS hx hy r3 (by omega) ⟨by omega, by omega⟩, ?_⟩
  rintro v3 M3 ⟨hv3, rfl⟩
  refine ⟨fun h => ?_, fun h => ⟨_, rfl, Or.inl ⟨v3, hv3, by omega, rfl, rfl⟩⟩⟩
  obtain ⟨⟨a1, a2⟩, _, _, b1, b2, b3⟩ := zsRef_ok hv3 h
  have n1 := (hS x1.toNat (by omega)).2.2.2
  obtain ⟨b, hb⟩ : ∃ b : Nat, b = 12 * x1.toNat + x3.toNat := ⟨_, rfl⟩
  have k2 : ∀ (m k : Nat) (M5 : zMem), k + m = pl → zgood sz pl ch (M3 78) b → cp < 8 → M5 55 = M3 55 → (∀ p, p < k → M5 65 (6 * cp + p) = M3 78 (b + p)) → (∀ i, i < 6 * cp → M5 65 i = M3 65 i) → (∀ k, k ≠ 65 → M5 k = M3 k) → zBg (d + 3) 120 127 [zR 55, zI x1, none, zI x3, none, none, zI (k : Int)] [] M5 (fun q M' => ∃ w : Int, q = some (.inl w) ∧ zsCopyOf 76 77 78 55 12 65 sz pl cp ch x1 x2 x3 M3 w M') := by
    intro m
    induction m with
    | zero =>
      intro k M5 hk hg h9 e1 e2 e3 e4
      have : k = pl := by omega
      subst this
      refine zv120_127 _ _ _ ?_
      rw [e1, hcp, hpl]
      refine ⟨fun _ => ⟨⟨by omega, by omega⟩, ⟨by omega, by omega⟩, _, rfl, Or.inr ⟨v3, hv3, h, Or.inr (Or.inr ?_)⟩⟩, fun h => absurd (by omega) h⟩
      rw [← hb]
      refine ⟨hg, h9, by omega, fun p hp => ?_, fun i hi => ?_, zb_us, fun j hj => ?_, fun k g1 g2 => ?_⟩
      · rw [zb_uk (by decide)]; exact e2 p hp
      · rw [zb_uk (by decide)]; exact e3 i hi
      · rw [zb_ui hj, e1]
      · rw [zb_uk g1]; exact e4 k g2
    | succ m ih =>
      intro k M5 hk hg h9 e1 e2 e3 e4
      refine zv120_127 _ _ _ ?_
      rw [e1, hcp, hpl]
      refine ⟨fun h => by omega, fun _ => ⟨⟨by omega, by omega⟩, ⟨by omega, by omega⟩, ⟨by omega, by omega⟩, ⟨by omega, by omega⟩, ⟨by omega, by omega⟩, by omega, by omega, by omega, by omega, ⟨by omega, by omega⟩, ?_⟩⟩
      rw [show (12 * x1 + x3 + (k : Int)).toNat = b + k by omega, show (6 * (cp : Int) + (k : Int)).toNat = 6 * cp + k by omega, e4 78 (by decide)]
      refine ih (k + 1) _ (by omega) hg h9 (by rw [zb_uk (by decide)]; exact e1) (fun p hp => ?_) (fun i hi => by rw [zb_ui (by omega)]; exact e3 i hi) (fun q g => by rw [zb_uk g]; exact e4 q g)
      by_cases hpk : p = k
      · subst hpk; exact zb_us
      · rw [zb_ui (by omega)]; exact e2 p (by omega)
  have k1 : ∀ (m p : Nat) (x : Int), p + m = pl → (x = 1 ∧ (sz ≠ 0 ∧ ∀ q, q < p → zisH pl ch (q : Int) (M3 78 (b + q))) ∨ x = 0 ∧ ¬ (sz ≠ 0 ∧ ∀ q, q < p → zisH pl ch (q : Int) (M3 78 (b + q)))) → zBg (d + 3) 120 54 [zR 55, zI x1, none, zI x3, none, zI x, zI (p : Int)] [] M3 (fun q M' => ∃ w : Int, q = some (.inl w) ∧ zsCopyOf 76 77 78 55 12 65 sz pl cp ch x1 x2 x3 M3 w M') := by
    intro m
    induction m with
    | zero =>
      intro p x hp hq
      have : p = pl := by omega
      subst this
      refine zv120_54 _ _ _ _ ?_
      rw [hcp, hpl]
      refine ⟨fun _ => ⟨fun g => ⟨fun g2 => k2 p 0 M3 (by omega) (zor1 hq g) (by omega) rfl (fun i hi => by omega) (fun _ _ => rfl) (fun _ _ => rfl), fun g2 => ⟨_, rfl, Or.inr ⟨v3, hv3, h, Or.inr (Or.inl ?_)⟩⟩⟩, fun g => ⟨_, rfl, Or.inr ⟨v3, hv3, h, Or.inl ?_⟩⟩⟩, fun h => absurd (by omega) h⟩
      · rw [← hb]
        exact ⟨zor1 hq g, by omega, rfl, rfl⟩
      · rw [← hb]
        exact ⟨zor0 hq (by omega), rfl, rfl⟩
    | succ m ih =>
      intro p x hp hq
      refine zv120_54 _ _ _ _ ?_
      rw [hpl]
      refine ⟨fun h => by omega, fun _ => ⟨fun g => ⟨⟨by omega, by omega⟩, ih (p + 1) 0 (by omega) (Or.inr ⟨rfl, fun hk => zor0 hq g ⟨hk.1, fun q hq2 => hk.2 q (by omega)⟩⟩)⟩, fun g => ⟨⟨by omega, by omega⟩, ⟨by omega, by omega⟩, ⟨by omega, by omega⟩, by omega, by omega, _, qc116 hpl h6 hch, ?_⟩⟩⟩
      rw [show (12 * x1 + x3 + (p : Int)).toNat = b + p by omega]
      have hq1 := zor1 hq g
      rintro w M4 ⟨hw, rfl⟩
      refine ⟨fun g2 => ⟨⟨by omega, by omega⟩, ih (p + 1) 0 (by omega) (Or.inr ⟨rfl, fun hk => zor0 hw g2 (hk.2 p (by omega))⟩)⟩, fun g2 => ⟨⟨by omega, by omega⟩, ih (p + 1) 1 (by omega) (Or.inl ⟨rfl, hq1.1, fun q hq2 => ?_⟩)⟩⟩
      by_cases hqp : q = p
      · subst hqp; exact zor1 hw g2
      · exact hq1.2 q (by omega)
  rw [hsz]
  exact ⟨fun g => k1 pl 0 0 (by omega) (Or.inr ⟨rfl, fun hk => hk.1 (by omega)⟩), fun g => k1 pl 0 1 (by omega) (Or.inl ⟨rfl, by omega, fun q hq => by omega⟩)⟩
/-- the print is kept -/
def zsKeep (sz pn : Nat) (M : zMem) (r : Int) (M' : zMem) (E : Prop) : Prop := (sz = 0 ∧ r = -2 ∧ M' = M) ∨ (sz ≠ 0 ∧ pn = 6 ∧ r = -3 ∧ M' = M) ∨ (sz ≠ 0 ∧ pn < 6 ∧ r = pn ∧ E)
def zkpC (pn : Nat) (M M' : zMem) : Prop := (∀ p, p < 6 → M' 9 (6 * pn + p) = M 8 p) ∧ (∀ i, i < 6 * pn → M' 9 i = M 9 i) ∧ M' 10 pn = M 4 11 ∧ (∀ i, i ≠ pn → M' 10 i = M 10 i) ∧ M' 11 pn = M 4 12 ∧ (∀ i, i ≠ pn → M' 11 i = M 11 i) ∧ M' 4 10 = (pn : Int) + 1 ∧ (∀ j, j ≠ 10 → M' 4 j = M 4 j) ∧ ∀ k, k ≠ 4 → k ≠ 9 → k ≠ 10 → k ≠ 11 → M' k = M k
def zkpR (pn : Nat) (M M' : zMem) : Prop := (∀ p, p < 6 → M' 67 (8 * pn + p) = M 66 p) ∧ (∀ i, i < 8 * pn → M' 67 i = M 67 i) ∧ M' 67 (8 * pn + 6) = M 55 14 ∧ M' 67 (8 * pn + 7) = M 55 15 ∧ M' 55 17 = (pn : Int) + 1 ∧ (∀ j, j ≠ 17 → M' 55 j = M 55 j) ∧ ∀ k, k ≠ 55 → k ≠ 67 → M' k = M k
theorem qc99 {d : Nat} {M : zMem} {sz pn : Nat} (hsz : M 13 4 = if sz = 0 then 0 else 1) (hpn : M 4 10 = pn) (h6 : pn ≤ 6) : zCi (d + 1) 99 [.inr (.inr 0)] M (fun r M' => zsKeep sz pn M r M' (zkpC pn M M')) := by
  refine zk99 (zv99_0 ?_)
  rw [hsz]
  refine ⟨fun h => ⟨_, rfl, Or.inl ⟨?_, rfl, rfl⟩⟩, fun h => ?_⟩
  · by_cases h0 : sz = 0
    · exact h0
    · rw [if_neg h0] at h
      exact absurd h (by decide)
  have h0 : sz ≠ 0 := by
    intro h0
    rw [if_pos h0] at h
    exact h rfl
  refine ⟨fun r M' => zsKeep sz pn M r M' (zkpC pn M M'), zk59 (zv59_0 ?_), fun _ _ h => ⟨_, rfl, h⟩⟩
  rw [hpn]
  refine ⟨fun h1 => ?_, fun h1 => ⟨_, rfl, Or.inr (Or.inl ⟨h0, by omega, rfl, rfl⟩)⟩⟩
  rw [show ((pn : Int) * 6).toNat = 6 * pn by omega, Int.toNat_natCast]
  refine ⟨⟨by omega, by omega⟩, by omega, by omega, by omega, by omega, by omega, by omega, by omega, by omega, by omega, ⟨by omega, by omega⟩, ⟨by omega, by omega⟩, _, rfl, Or.inr (Or.inr ⟨h0, by omega, by omega, fun p hp => ?_, fun i hi => ?_, ?_, fun i hi => ?_, ?_, fun i hi => ?_, zb_us, fun j hj => ?_, fun k g1 g2 g3 g4 => ?_⟩)⟩
  · rw [zb_uk (by decide), zb_uk (by decide), zb_uk (by decide)]
    simp only [zcpy, if_true]
    rw [if_pos (by omega)]
    congr 1
    omega
  · rw [zb_uk (by decide), zb_uk (by decide), zb_uk (by decide)]
    simp only [zcpy, if_true]
    rw [if_neg (by omega)]
  · rw [zb_uk (by decide), zb_uk (by decide), zb_us]
  · rw [zb_uk (by decide), zb_uk (by decide), zb_ui hi, zb_ck (by decide)]
  · rw [zb_uk (by decide), zb_us]
  · rw [zb_uk (by decide), zb_ui hi, zb_uk (by decide), zb_ck (by decide)]
  · rw [zb_ui hj, zb_uk (by decide), zb_uk (by decide), zb_ck (by decide)]
  · rw [zb_uk g1, zb_uk g4, zb_uk g3, zb_ck g2]
theorem qc166 {d : Nat} {M : zMem} {sz pn : Nat} (hsz : M 55 2 = sz) (hpn : M 55 17 = pn) (h6 : pn ≤ 6) : zCi d 166 [.inr (.inr 55)] M (fun r M' => zsKeep sz pn M r M' (zkpR pn M M')) := by
  refine zk166 (zv166_0 ?_)
  rw [hsz, hpn]
  refine ⟨fun h => ⟨fun h1 => ?_, fun h1 => ⟨_, rfl, Or.inr (Or.inl ⟨by omega, by omega, rfl, rfl⟩)⟩⟩, fun h => ⟨_, rfl, Or.inl ⟨by omega, rfl, rfl⟩⟩⟩
  have key : ∀ (m k : Nat) (M2 : zMem), k + m = 6 → (∀ p, p < k → M2 67 (8 * pn + p) = M 66 p) → (∀ i, i < 8 * pn → M2 67 i = M 67 i) → (∀ k, k ≠ 67 → M2 k = M k) → zBg d 166 24 [zR 55, zI (k : Int)] [] M2 (fun q M' => ∃ w : Int, q = some (.inl w) ∧ zsKeep sz pn M w M' (zkpR pn M M')) := by
    intro m
    induction m with
    | zero =>
      intro k M2 hk a1 a2 a3
      have : k = 6 := by omega
      subst this
      refine zv166_24 _ ?_
      rw [a3 55 (by decide), hpn]
      refine ⟨fun _ => ?_, fun h => absurd (by omega) h⟩
      rw [show (8 * (pn : Int) + 6).toNat = 8 * pn + 6 by omega, show (8 * (pn : Int) + 7).toNat = 8 * pn + 7 by omega]
      refine ⟨⟨by omega, by omega⟩, ⟨by omega, by omega⟩, by omega, by omega, ⟨by omega, by omega⟩, ⟨by omega, by omega⟩, by omega, by omega, ⟨by omega, by omega⟩, ⟨by omega, by omega⟩, _, rfl, Or.inr (Or.inr ⟨by omega, by omega, by omega, fun p hp => ?_, fun i hi => ?_, ?_, ?_, zb_us, fun j hj => ?_, fun k g1 g2 => ?_⟩)⟩
      · rw [zb_uk (by decide), zb_ui (by omega), zb_ui (by omega)]; exact a1 p hp
      · rw [zb_uk (by decide), zb_ui (by omega), zb_ui (by omega)]; exact a2 i hi
      · rw [zb_uk (by decide), zb_ui (by omega), zb_us]
      · rw [zb_uk (by decide), zb_us]
      · rw [zb_ui hj, zb_uk (by decide), zb_uk (by decide), a3 55 (by decide)]
      · rw [zb_uk g1, zb_uk g2, zb_uk g2, a3 k g2]
    | succ m ih =>
      intro k M2 hk a1 a2 a3
      refine zv166_24 _ ?_
      rw [a3 55 (by decide), hpn, a3 66 (by decide)]
      refine ⟨fun h => by omega, fun _ => ⟨⟨by omega, by omega⟩, ⟨by omega, by omega⟩, by omega, by omega, by omega, by omega, ⟨by omega, by omega⟩, ?_⟩⟩
      rw [show (8 * (pn : Int) + (k : Int)).toNat = 8 * pn + k by omega, Int.toNat_natCast]
      refine ih (k + 1) _ (by omega) (fun p hp => ?_) (fun i hi => by rw [zb_ui (by omega)]; exact a2 i hi) (fun q g => by rw [zb_uk g]; exact a3 q g)
      by_cases hpk : p = k
      · subst hpk; exact zb_us
      · rw [zb_ui (by omega)]; exact a1 p (by omega)
  exact key 6 0 M rfl (fun p hp => by omega) (fun _ _ => rfl) (fun _ _ => rfl)
