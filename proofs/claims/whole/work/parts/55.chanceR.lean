/-! chance: the reference -/
theorem qc158 {d : Nat} {M : zMem} {pl : Nat} {ch v : Nat → Nat} (hpl : M 55 4 = pl) (h6 : pl ≤ 6) (hch : ∀ q, q < pl → M 60 q = ch q ∧ 2 ≤ ch q ∧ ch q ≤ 4) (hv : ∀ q, q < pl → M 66 q = v q) :
    zCi d 158 [.inr (.inr 55)] M (fun r M' => r = (zAb pl ch v 0 : Int) ∧ (∀ k, k ≤ 6 → M' 72 k = zwy (zcp pl ch) v pl k) ∧ M' 72 7 = 0 ∧ ∀ k, k ≠ 72 → M' k = M k) := by
  have hc2 : ∀ q, q < pl → 2 ≤ ch q ∧ ch q ≤ 4 := fun q hq => (hch q hq).2
  have h4 : ∀ q, zcp pl ch q ≤ 4 := fun q => by unfold zcp; split <;> first | (have := hc2 q (by assumption); omega) | omega
  obtain ⟨z1, z2, z3, z4⟩ := zAb_ok (v := v) h6 hc2
  refine zk158 (zv158_0 ?_)
  have key2 : ∀ (m p : Nat) (M2 : zMem), p + m = pl → (∀ k, k ≠ 72 → M2 k = M k) → (∀ k, k ≤ 6 → M2 72 k = zwy (zcp pl ch) v p k) → M2 72 7 = 0 →
      zBg d 158 33 [zR 55, zI (zpd (zcp pl ch) p : Int), zI (p : Int), none, none] [] M2 (fun r M' => ∃ w : Int, r = some (.inl w) ∧ w = (zAb pl ch v 0 : Int) ∧ (∀ k, k ≤ 6 → M' 72 k = zwy (zcp pl ch) v pl k) ∧ M' 72 7 = 0 ∧ ∀ k, k ≠ 72 → M' k = M k) := by
    intro m
    induction m with
    | zero =>
      intro p M2 hp f2 g2 s2
      have : p = pl := by omega
      subst this
      exact zv158_33 _ _ ⟨fun _ => ⟨_, rfl, by rw [z1], g2, s2, f2⟩, fun h => absurd (by rw [f2 55 (by decide), hpl]; omega) h⟩
    | succ m ih =>
      intro p M2 hp f2 g2 s2
      have hpp : p < pl := by omega
      obtain ⟨c1, c2, c3⟩ := hch p hpp
      have hcp : zcp pl ch p = ch p := by unfold zcp; rw [if_pos hpp]
      have inner : ∀ (h : Nat), h = zht v p → zBg d 158 61 [zR 55, zI (zpd (zcp pl ch) p : Int), zI (p : Int), zI (h : Int), zI 6] [] M2 (fun r M' => ∃ w : Int, r = some (.inl w) ∧ w = (zAb pl ch v 0 : Int) ∧ (∀ k, k ≤ 6 → M' 72 k = zwy (zcp pl ch) v pl k) ∧ M' 72 7 = 0 ∧ ∀ k, k ≠ 72 → M' k = M k) := by
        intro h hh
        have hh1 : h ≤ 1 := by rw [hh]; unfold zht; split <;> omega
        have loop : ∀ (j : Nat) (M3 : zMem), j ≤ 7 → (∀ k, k ≠ 72 → M3 k = M k) → (∀ k, k < j → M3 72 k = zwy (zcp pl ch) v p k) → (∀ k, j ≤ k → k ≤ 6 → M3 72 k = zwy (zcp pl ch) v (p + 1) k) → M3 72 7 = 0 →
            zBg d 158 61 [zR 55, zI (zpd (zcp pl ch) p : Int), zI (p : Int), zI (h : Int), zI ((j : Int) - 1)] [] M3 (fun r M' => ∃ w : Int, r = some (.inl w) ∧ w = (zAb pl ch v 0 : Int) ∧ (∀ k, k ≤ 6 → M' 72 k = zwy (zcp pl ch) v pl k) ∧ M' 72 7 = 0 ∧ ∀ k, k ≠ 72 → M' k = M k) := by
          intro j
          induction j with
          | zero =>
            intro M3 hj f3 g3 n3 s3
            have hpd := zpd_le h4 (p + 1)
            have h46 : (4 : Nat) ^ (p + 1) ≤ 4 ^ 6 := Nat.pow_le_pow_right (by decide) (by omega)
            have h40 : (4 : Nat) ^ 6 = 4096 := by decide
            have e : (zpd (zcp pl ch) p : Int) * M3 60 p = ((zpd (zcp pl ch) (p + 1) : Nat) : Int) := by
              rw [f3 60 (by decide), c1, ← Int.natCast_mul]
              simp only [zpd]
              rw [hcp]
            refine zv158_61 _ _ _ _ ⟨fun _ => ?_, fun h => absurd (by omega) h⟩
            rw [Int.toNat_natCast, e]
            exact ⟨by omega, by omega, ⟨by omega, by omega⟩, ⟨by omega, by omega⟩, ih (p + 1) M3 (by omega) f3 (fun k hk => n3 k (by omega) hk) s3⟩
          | succ j ihj =>
            intro M3 hj f3 g3 n3 s3
            rw [show ((j + 1 : Nat) : Int) - 1 = (j : Int) by omega]
            have b1 := zwy_b (v := v) (k := j) h6 (by omega : p ≤ pl) (by omega) hc2
            have e1 : M3 72 j * (M3 60 p - (h : Int)) = ((zwy (zcp pl ch) v p j * (ch p - h) : Nat) : Int) := by
              rw [g3 j (by omega), f3 60 (by decide), c1, show (ch p : Int) - (h : Int) = ((ch p - h : Nat) : Int) by omega, Int.natCast_mul]
            have hb1 : zwy (zcp pl ch) v p j * (ch p - h) ≤ 4096 * 4 := Nat.mul_le_mul b1 (by omega)
            refine zv158_61 _ _ _ _ ⟨fun h => by omega, fun _ => ?_⟩
            rw [Int.toNat_natCast, Int.toNat_natCast, e1]
            refine ⟨by omega, by omega, by omega, by omega, ⟨by rw [f3 60 (by decide), c1]; omega, by rw [f3 60 (by decide), c1]; omega⟩, ⟨by omega, by omega⟩, fun h0 => ⟨⟨by omega, by omega⟩, by omega, by omega, ⟨by omega, by omega⟩, ?_⟩, fun h0 => ?_⟩
            · have hj0 : j = 0 := by omega
              subst hj0
              refine ihj _ (by omega) (fun k hk => by rw [zb_uk hk]; exact f3 k hk) (fun k hk => by omega) (fun k hk hk2 => ?_) (by rw [zb_ui (by decide)]; exact s3)
              by_cases hk0 : k = 0
              · subst hk0
                have e9 : zwy (zcp pl ch) v (p + 1) 0 = zwy (zcp pl ch) v p 0 * (zcp pl ch p - zht v p) + 0 := rfl
                rw [zb_us, e9, hcp, ← hh]
                rfl
              · rw [zb_ui hk0]; exact n3 k (by omega) hk2
            · obtain ⟨i, rfl⟩ : ∃ i, j = i + 1 := ⟨j - 1, by omega⟩
              have b2 := zwy_b (v := v) (k := i) h6 (by omega : p ≤ pl) (by omega) hc2
              have e2 : (h : Int) * M3 72 i = ((zwy (zcp pl ch) v p i * h : Nat) : Int) := by
                rw [g3 i (by omega), Int.natCast_mul, Int.mul_comm]
              have hb2 : zwy (zcp pl ch) v p i * h ≤ 4096 * 1 := Nat.mul_le_mul b2 hh1
              rw [show ((i + 1 : Nat) : Int) - 1 = (i : Int) by omega, Int.toNat_natCast, e2]
              refine ⟨⟨by omega, by omega⟩, by omega, by omega, ⟨by omega, by omega⟩, ⟨by omega, by omega⟩, by omega, by omega, ⟨by omega, by omega⟩, ?_⟩
              refine ihj _ (by omega) (fun k hk => by rw [zb_uk hk]; exact f3 k hk) (fun k hk => by rw [zb_ui (by omega)]; exact g3 k (by omega)) (fun k hk hk2 => ?_) (by rw [zb_ui (by omega)]; exact s3)
              by_cases hki : k = i + 1
              · subst hki
                rw [zb_us]
                simp only [zwy]
                rw [if_neg (by omega), hcp, ← hh, Nat.add_sub_cancel]
                omega
              · rw [zb_ui hki]; exact n3 k (by omega) hk2
        exact loop 7 M2 (by omega) f2 (fun k hk => g2 k (by omega)) (fun k h1 h2 => by omega) s2
      refine zv158_33 _ _ ⟨fun h => by rw [f2 55 (by decide), hpl] at h; omega, fun _ => ?_⟩
      rw [Int.toNat_natCast, f2 66 (by decide), hv p hpp]
      refine ⟨by omega, by omega, fun hge => ?_, fun hge => ?_⟩
      · exact inner 0 (by unfold zht; rw [if_neg (by omega)])
      · exact inner 1 (by unfold zht; rw [if_pos (by omega)])
  have key1 : ∀ (m k : Nat) (M2 : zMem), k + m = 8 → (∀ j, j ≠ 72 → M2 j = M j) → (∀ j, j < k → M2 72 j = if j = 0 then 1 else 0) →
      zBg d 158 2 [zR 55, zI (k : Int), none, none, none] [] M2 (fun r M' => ∃ w : Int, r = some (.inl w) ∧ w = (zAb pl ch v 0 : Int) ∧ (∀ k, k ≤ 6 → M' 72 k = zwy (zcp pl ch) v pl k) ∧ M' 72 7 = 0 ∧ ∀ k, k ≠ 72 → M' k = M k) := by
    intro m
    induction m with
    | zero =>
      intro k M2 hk f2 g2
      refine zv158_2 _ ⟨fun _ => ?_, fun h => absurd (by omega) h⟩
      refine key2 pl 0 M2 (by omega) f2 (fun j hj => ?_) ?_
      · rw [g2 j (by omega)]
        simp only [zwy]
        split <;> rfl
      · rw [g2 7 (by omega)]; rfl
    | succ m ih =>
      intro k M2 hk f2 g2
      refine zv158_2 _ ⟨fun h => by omega, fun _ => ?_⟩
      rw [Int.toNat_natCast]
      refine ⟨fun h => ⟨by omega, by omega, ⟨by omega, by omega⟩, ih (k + 1) _ (by omega) (fun j hj => by rw [zb_uk hj]; exact f2 j hj) (fun j hj => ?_)⟩, fun h => ⟨by omega, by omega, ⟨by omega, by omega⟩, ih (k + 1) _ (by omega) (fun j hj => by rw [zb_uk hj]; exact f2 j hj) (fun j hj => ?_)⟩⟩
      · by_cases hjk : j = k
        · subst hjk; rw [zb_us, if_neg (by omega)]
        · rw [zb_ui hjk]; exact g2 j (by omega)
      · by_cases hjk : j = k
        · subst hjk; rw [zb_us, if_pos (by omega)]
        · rw [zb_ui hjk]; exact g2 j (by omega)
  exact key1 8 0 M (by omega) (fun _ _ => rfl) (fun j hj => by omega)
theorem qc159 {d : Nat} {M : zMem} {pl b : Nat} {ch v : Nat → Nat} (h6 : pl ≤ 6) (hc : ∀ q, q < pl → 2 ≤ ch q ∧ ch q ≤ 4) (hb : b ≤ 6) (hw : ∀ k, k ≤ 6 → M 72 k = zwy (zcp pl ch) v pl k) (h7 : M 72 7 = 0) :
    zCi d 159 [.inr (.inr 55), .inl (b : Int)] M (fun r M' => r = (zAb pl ch v b : Int) ∧ M' = M) := by
  refine zk159 (zv159_0 _ ?_)
  obtain ⟨z1, z2, z3, z4⟩ := zAb_ok (v := v) h6 hc
  have hA := z4 b hb
  have key : ∀ (m k x : Nat), k + m = 7 → x + zsf (zwy (zcp pl ch) v pl) m k = zAb pl ch v b → zBg d 159 4 [zR 55, none, zI (x : Int), zI (k : Int)] [] M (fun r M' => ∃ w : Int, r = some (.inl w) ∧ w = (zAb pl ch v b : Int) ∧ M' = M) := by
    intro m
    induction m with
    | zero =>
      intro k x hk hx
      have : k = 7 := by omega
      subst this
      simp only [zsf] at hx
      refine zv159_4 _ _ ⟨fun h => by omega, fun _ => ?_⟩
      rw [Int.toNat_natCast, h7, Int.add_zero]
      exact ⟨by omega, by omega, ⟨by omega, by omega⟩, ⟨by omega, by omega⟩, zv159_4 _ _ ⟨fun _ => ⟨_, rfl, by omega, rfl⟩, fun h => absurd (by omega) h⟩⟩
    | succ m ih =>
      intro k x hk hx
      simp only [zsf] at hx
      refine zv159_4 _ _ ⟨fun h => by omega, fun _ => ?_⟩
      rw [Int.toNat_natCast, hw k (by omega), ← Int.natCast_add]
      exact ⟨by omega, by omega, ⟨by omega, by omega⟩, ⟨by omega, by omega⟩, ih (k + 1) _ (by omega) (by omega)⟩
  exact key (7 - b) b 0 (by omega) (by unfold zAb; omega)
theorem qc160 {d : Nat} {M : zMem} {pl sz : Nat} {ch v : Nat → Nat} {x y : Int} (hpl : M 55 4 = pl) (h6 : pl ≤ 6) (hch : ∀ q, q < pl → M 60 q = ch q ∧ 2 ≤ ch q ∧ ch q ≤ 4) (hv : ∀ q, q < pl → M 66 q = v q) (hsz : M 55 2 = sz) :
    zCi (d + 1) 160 [.inr (.inr 55), .inl x, .inl y] M (fun r M' => zsWrong pl sz ch v x y r ∧ zfR M M') := by
  have hc2 : ∀ q, q < pl → 2 ≤ ch q ∧ ch q ≤ 4 := fun q hq => (hch q hq).2
  obtain ⟨z1, z2, z3, z4⟩ := zAb_ok (v := v) h6 hc2
  refine zk160 (zv160_0 _ _ ⟨_, qc110, ?_⟩)
  rintro v1 M1 ⟨hv1, rfl⟩
  refine ⟨fun h => ⟨_, rfl, Or.inl ⟨by omega, rfl⟩, zfR.rf⟩, fun h => ⟨_, qc110, ?_⟩⟩
  rintro v2 M2 ⟨hv2, rfl⟩
  rw [hsz]
  refine ⟨fun h2 => ⟨fun hs => ⟨_, qc158 hpl h6 hch hv, ?_⟩, fun hs => ⟨_, rfl, Or.inr ⟨by omega, by rw [if_pos (by omega)]⟩, zfR.rf⟩⟩, fun h2 => ⟨_, rfl, Or.inl ⟨by omega, rfl⟩, zfR.rf⟩⟩
  rintro v3 M3 ⟨rfl, a1, a2, a3⟩
  have f3 : zfR M2 M3 := ⟨fun k x1 x2 => a3 k (by omega), fun j _ _ _ _ => by rw [a3 55 (by decide)]⟩
  obtain ⟨b, hb, rfl⟩ : ∃ b : Nat, b ≤ 6 ∧ x = (b : Int) := ⟨x.toNat, by omega, by omega⟩
  have zb := z4 b hb
  refine ⟨_, qc159 h6 hc2 hb a1 a2, ?_⟩
  rintro v4 M4 ⟨rfl, rfl⟩
  have hgp : 0 < Nat.gcd (zAb pl ch v 0) (zAb pl ch v b) := Nat.gcd_pos_of_pos_left _ z2
  have hgl : Nat.gcd (zAb pl ch v 0) (zAb pl ch v b) ≤ zAb pl ch v 0 := Nat.gcd_le_left _ z2
  have key : ∀ (n x4 x5 : Nat), x5 ≤ n → x4 ≤ 4096 → x5 ≤ 4096 → Nat.gcd x5 x4 = Nat.gcd (zAb pl ch v 0) (zAb pl ch v b) → zBg (d + 1) 160 49 [zR 55, zI (b : Int), zI y, zI (zAb pl ch v 0 : Int), zI (x4 : Int), zI (x5 : Int), none] [] M4 (fun r M' => ∃ w : Int, r = some (.inl w) ∧ zsWrong pl sz ch v (b : Int) y w ∧ zfR M2 M') := by
    have fin : ∀ x4 : Nat, Nat.gcd 0 x4 = Nat.gcd (zAb pl ch v 0) (zAb pl ch v b) → ((y : Int) ≠ 0 → ((x4 : Int) : Int) ≠ 0 ∧ ∃ w : Int, zI (zidiv (zAb pl ch v 0 : Int) (x4 : Int)) = some (.inl w) ∧ zsWrong pl sz ch v (b : Int) y w ∧ zfR M2 M4) ∧ (¬ (y : Int) ≠ 0 → ∃ Q1, zCi d 159 [.inr (.inr 55), .inl (b : Int)] M4 Q1 ∧ ∀ v1 M1, Q1 v1 M1 → ((x4 : Int) : Int) ≠ 0 ∧ ∃ w : Int, zI (zidiv v1 (x4 : Int)) = some (.inl w) ∧ zsWrong pl sz ch v (b : Int) y w ∧ zfR M2 M1) := by
      intro x4 hg
      rw [Nat.gcd_zero_left] at hg
      refine ⟨fun hy => ⟨by omega, _, rfl, Or.inr ⟨by omega, ?_⟩, f3⟩, fun hy => ⟨_, qc159 h6 hc2 hb a1 a2, ?_⟩⟩
      · rw [if_neg (by omega), if_neg hy, Int.toNat_natCast, ← hg, zb_div (by omega) (by omega) (by omega)]
      · rintro v5 M5 ⟨rfl, rfl⟩
        refine ⟨by omega, _, rfl, Or.inr ⟨by omega, ?_⟩, f3⟩
        rw [if_neg (by omega), if_pos (by omega), Int.toNat_natCast, ← hg, zb_div (by omega) (by omega) (by omega)]
    intro n
    induction n with
    | zero =>
      intro x4 x5 h5 h4 h5' hg
      have : x5 = 0 := by omega
      subst this
      exact zv160_49 _ _ _ _ _ ⟨fun _ => fin x4 hg, fun h => absurd rfl h⟩
    | succ n ih =>
      intro x4 x5 h5 h4 h5' hg
      refine zv160_49 _ _ _ _ _ ⟨fun h0 => ?_, fun h0 => ⟨h0, ?_⟩⟩
      · have : x5 = 0 := by omega
        subst this
        exact fin x4 hg
      · have hp : 0 < x5 := by omega
        have hm := Nat.mod_lt x4 hp
        rw [zb_rem (by omega) hp (by omega)]
        exact ih x5 (x4 % x5) (by omega) (by omega) (by omega) (by rw [← hg, Nat.gcd_rec x5 x4])
  exact key (zAb pl ch v 0) (zAb pl ch v b) (zAb pl ch v 0) (Nat.le_refl _) (by omega) (by omega) rfl
theorem qc161 {d : Nat} {M : zMem} {pl sz : Nat} {ch v : Nat → Nat} {x : Int} (hpl : M 55 4 = pl) (h6 : pl ≤ 6) (hch : ∀ q, q < pl → M 60 q = ch q ∧ 2 ≤ ch q ∧ ch q ≤ 4) (hv : ∀ q, q < pl → M 66 q = v q) (hsz : M 55 2 = sz) :
    zCi (d + 1) 161 [.inr (.inr 55), .inl x] M (fun r M' => zsBar pl sz ch v x r ∧ zfR M M') := by
  have hc2 : ∀ q, q < pl → 2 ≤ ch q ∧ ch q ≤ 4 := fun q hq => (hch q hq).2
  obtain ⟨z1, z2, z3, z4⟩ := zAb_ok (v := v) h6 hc2
  refine zk161 (zv161_0 _ ⟨_, qc110, ?_⟩)
  rintro v1 M1 ⟨hv1, rfl⟩
  rw [hsz]
  refine ⟨fun h2 => ⟨fun hs => ⟨_, qc158 hpl h6 hch hv, ?_⟩, fun hs => ⟨_, rfl, Or.inr ⟨by omega, by rw [if_pos (by omega)]⟩, zfR.rf⟩⟩, fun h2 => ⟨_, rfl, Or.inl ⟨by omega, rfl⟩, zfR.rf⟩⟩
  rintro v3 M3 ⟨rfl, a1, a2, a3⟩
  have f3 : zfR M1 M3 := ⟨fun k x1 x2 => a3 k (by omega), fun j _ _ _ _ => by rw [a3 55 (by decide)]⟩
  obtain ⟨q, rfl⟩ : ∃ q : Nat, x = (q : Int) := ⟨x.toNat, by omega⟩
  have key : ∀ (m b : Nat), b + m = 7 → zfd (fun b => decide (zAb pl ch v b * q ≤ zAb pl ch v 0)) m b = zfd (fun b => decide (zAb pl ch v b * q ≤ zAb pl ch v 0)) 7 0 → zBg (d + 1) 161 31 [zR 55, zI (q : Int), zI (zAb pl ch v 0 : Int), zI (b : Int)] [] M3 (fun r M' => ∃ w : Int, r = some (.inl w) ∧ zsBar pl sz ch v (q : Int) w ∧ zfR M1 M') := by
    intro m
    induction m with
    | zero =>
      intro b hb hfd
      refine zv161_31 _ _ _ ⟨fun _ => ⟨_, rfl, Or.inr ⟨by omega, ?_⟩, f3⟩, fun h => absurd (by omega) h⟩
      rw [if_neg (by omega), Int.toNat_natCast, ← hfd]
      rfl
    | succ m ih =>
      intro b hb hfd
      have hfd2 : zfd (fun b => decide (zAb pl ch v b * q ≤ zAb pl ch v 0)) (m + 1) b = if decide (zAb pl ch v b * q ≤ zAb pl ch v 0) = true then some b else zfd (fun b => decide (zAb pl ch v b * q ≤ zAb pl ch v 0)) m (b + 1) := rfl
      rw [hfd2] at hfd
      have zb := z4 b (by omega)
      have hmul : zAb pl ch v b * q ≤ 4096 * 9999 := Nat.mul_le_mul (by omega) (by omega)
      refine zv161_31 _ _ _ ⟨fun h => by omega, fun _ => ⟨_, qc159 h6 hc2 (by omega) a1 a2, ?_⟩⟩
      rintro v5 M5 ⟨rfl, rfl⟩
      have e : zlmul (zAb pl ch v b : Int) (q : Int) = ((zAb pl ch v b * q : Nat) : Int) := by
        unfold zlmul
        rw [← Int64.ofInt_mul, ← Int.natCast_mul]
        exact Int64.toInt_ofInt_of_le (by omega) (by omega)
      rw [e, zlcmp_gt]
      refine ⟨fun hgt => ⟨⟨by omega, by omega⟩, ih (b + 1) (by omega) ?_⟩, fun hle => ⟨_, rfl, Or.inr ⟨by omega, ?_⟩, f3⟩⟩
      · rw [if_neg (by simp; omega)] at hfd
        exact hfd
      · rw [if_pos (by simp; omega)] at hfd
        rw [if_neg (by omega), Int.toNat_natCast, ← hfd]
        rfl
  exact key 7 0 rfl rfl
