/-! chance: how many rows have which score; wrong and bar of both sides -/
def zht (v : Nat → Nat) (p : Nat) : Nat := if v p < 4 then 1 else 0
def zwy (ch v : Nat → Nat) : Nat → Nat → Nat
  | 0, k => if k = 0 then 1 else 0
  | p + 1, k => zwy ch v p k * (ch p - zht v p) + (if k = 0 then 0 else zwy ch v p (k - 1) * zht v p)
def zpd (ch : Nat → Nat) : Nat → Nat
  | 0 => 1
  | p + 1 => zpd ch p * ch p
/-- f b + .. of m -/
def zsf (f : Nat → Nat) : Nat → Nat → Nat
  | 0, _ => 0
  | m + 1, b => f b + zsf f m (b + 1)
theorem zsf_end {f : Nat → Nat} : ∀ {m b : Nat}, zsf f (m + 1) b = zsf f m b + f (b + m) := by
  intro m
  induction m with
  | zero => intro b; simp [zsf]
  | succ m ih =>
    intro b
    rw [show zsf f (m + 1 + 1) b = f b + zsf f (m + 1) (b + 1) from rfl, ih, show zsf f (m + 1) b = f b + zsf f m (b + 1) from rfl, show b + 1 + m = b + (m + 1) by omega]
    omega
theorem zwy_0 {ch v : Nat → Nat} : ∀ {p k : Nat}, p < k → zwy ch v p k = 0 := by
  intro p
  induction p with
  | zero => intro k h; simp only [zwy]; rw [if_neg (by omega)]
  | succ p ih =>
    intro k h
    simp only [zwy]
    rw [ih (by omega), if_neg (by omega), ih (by omega)]
    simp
theorem zsf_lin {f g : Nat → Nat} {a c : Nat} (h0 : ∀ k, g k = f k * a + (if k = 0 then 0 else f (k - 1) * c)) : ∀ m, zsf g (m + 1) 0 = zsf f (m + 1) 0 * a + zsf f m 0 * c := by
  intro m
  induction m with
  | zero => simp [zsf, h0]
  | succ m ih =>
    rw [zsf_end, ih, zsf_end (m := m + 1), Nat.zero_add, h0 (m + 1), if_neg (by omega), zsf_end (m := m) (f := f), Nat.zero_add]
    simp only [Nat.add_sub_cancel, Nat.add_mul]
    omega
theorem zwy_sum {ch v : Nat → Nat} (hc : ∀ q, 1 ≤ ch q) : ∀ {p m : Nat}, p ≤ m → zsf (zwy ch v p) (m + 1) 0 = zpd ch p := by
  intro p
  induction p with
  | zero =>
    intro m _
    induction m with
    | zero => simp [zsf, zwy, zpd]
    | succ m ih =>
      rw [zsf_end, ih (by omega)]
      simp [zwy]
  | succ p ih =>
    intro m hm
    rw [zsf_lin (f := zwy ch v p) (g := zwy ch v (p + 1)) (a := ch p - zht v p) (c := zht v p) (fun k => rfl) m]
    rw [ih (by omega)]
    obtain ⟨j, rfl⟩ : ∃ j, m = j + 1 := ⟨m - 1, by omega⟩
    rw [ih (m := j) (by omega), ← Nat.mul_add]
    simp only [zpd]
    congr 1
    have := hc p
    unfold zht
    split <;> omega
theorem zsf_le {f : Nat → Nat} : ∀ {m b j : Nat}, b ≤ j → j < b + m → f j ≤ zsf f m b := by
  intro m
  induction m with
  | zero => intro b j h1 h2; omega
  | succ m ih =>
    intro b j h1 h2
    simp only [zsf]
    by_cases e : j = b
    · subst e; omega
    · have := ih (b := b + 1) (j := j) (by omega) (by omega)
      omega
theorem zpd_le {ch : Nat → Nat} (hc : ∀ q, ch q ≤ 4) : ∀ p, zpd ch p ≤ 4 ^ p := by
  intro p
  induction p with
  | zero => simp [zpd]
  | succ p ih => simp only [zpd, Nat.pow_succ]; exact Nat.mul_le_mul ih (hc p)
theorem zpd_pos {ch : Nat → Nat} (hc : ∀ q, 1 ≤ ch q) : ∀ p, 0 < zpd ch p := by
  intro p
  induction p with
  | zero => simp [zpd]
  | succ p ih => simp only [zpd]; exact Nat.mul_pos ih (hc p)
theorem zsf_tail {f : Nat → Nat} : ∀ {m b : Nat}, zsf f m b ≤ zsf f (m + b) 0 := by
  intro m b
  induction b with
  | zero => exact Nat.le_refl _
  | succ b ih =>
    refine Nat.le_trans ?_ (Nat.le_refl (zsf f (m + (b + 1)) 0))
    have h1 : zsf f (m + 1) b = f b + zsf f m (b + 1) := rfl
    have h2 : ∀ (m b : Nat), zsf f m b ≤ zsf f (m + b) 0 → True := fun _ _ _ => trivial
    have h3 : ∀ (b m : Nat), zsf f m b ≤ zsf f (m + b) 0 := by
      intro b
      induction b with
      | zero => intro m; exact Nat.le_refl _
      | succ b ihb =>
        intro m
        have := ihb (m + 1)
        have e : zsf f (m + 1) b = f b + zsf f m (b + 1) := rfl
        rw [show m + (b + 1) = m + 1 + b by omega]
        omega
    exact h3 (b + 1) m
/-- the counts, with choices and hits taken at the first pl places alone -/
def zcp (pl : Nat) (ch : Nat → Nat) (q : Nat) : Nat := if q < pl then ch q else 1
def zAb (pl : Nat) (ch v : Nat → Nat) (b : Nat) : Nat := zsf (zwy (zcp pl ch) v pl) (7 - b) b
def zsWrong (pl sz : Nat) (ch v : Nat → Nat) (x y r : Int) : Prop := (¬ (0 ≤ x ∧ x ≤ 6 ∧ (y = 0 ∨ y = 1)) ∧ r = -1) ∨ ((0 ≤ x ∧ x ≤ 6 ∧ (y = 0 ∨ y = 1)) ∧ r = if sz = 0 then -2 else (((if y = 0 then zAb pl ch v x.toNat else zAb pl ch v 0) / Nat.gcd (zAb pl ch v 0) (zAb pl ch v x.toNat) : Nat) : Int))
def zbo (o : Option Nat) : Int := match o with
  | some b => (b : Int)
  | none => -4
def zsBar (pl sz : Nat) (ch v : Nat → Nat) (x r : Int) : Prop := (¬ (1 ≤ x ∧ x ≤ 9999) ∧ r = -1) ∨ ((1 ≤ x ∧ x ≤ 9999) ∧ r = if sz = 0 then -2 else zbo (zfd (fun b => decide (zAb pl ch v b * x.toNat ≤ zAb pl ch v 0)) 7 0))
theorem zwy_b {pl p k : Nat} {ch v : Nat → Nat} (h6 : pl ≤ 6) (hp : p ≤ pl) (hk : k ≤ 6) (hc : ∀ q, q < pl → 2 ≤ ch q ∧ ch q ≤ 4) : zwy (zcp pl ch) v p k ≤ 4096 := by
  have h1 : ∀ q, 1 ≤ zcp pl ch q := fun q => by unfold zcp; split <;> first | (have := hc q (by assumption); omega) | omega
  have h4 : ∀ q, zcp pl ch q ≤ 4 := fun q => by unfold zcp; split <;> first | (have := hc q (by assumption); omega) | omega
  have hs : zsf (zwy (zcp pl ch) v p) 7 0 = zpd (zcp pl ch) p := zwy_sum (v := v) h1 (p := p) (m := 6) (by omega)
  have hle := zsf_le (f := zwy (zcp pl ch) v p) (m := 7) (b := 0) (j := k) (by omega) (by omega)
  have hpd := zpd_le h4 p
  have h46 : (4 : Nat) ^ p ≤ 4 ^ 6 := Nat.pow_le_pow_right (by decide) (by omega)
  have : (4 : Nat) ^ 6 = 4096 := by decide
  omega
theorem zAb_ok {pl : Nat} {ch v : Nat → Nat} (h6 : pl ≤ 6) (hc : ∀ q, q < pl → 2 ≤ ch q ∧ ch q ≤ 4) : zAb pl ch v 0 = zpd (zcp pl ch) pl ∧ 0 < zAb pl ch v 0 ∧ zAb pl ch v 0 ≤ 4096 ∧ ∀ b, b ≤ 6 → zAb pl ch v b ≤ zAb pl ch v 0 := by
  have h1 : ∀ q, 1 ≤ zcp pl ch q := fun q => by unfold zcp; split <;> first | (have := hc q (by assumption); omega) | omega
  have h4 : ∀ q, zcp pl ch q ≤ 4 := fun q => by unfold zcp; split <;> first | (have := hc q (by assumption); omega) | omega
  have hs := zwy_sum (v := v) h1 (p := pl) (m := 6) h6
  have hpd := zpd_le h4 pl
  have h46 : (4 : Nat) ^ pl ≤ 4 ^ 6 := Nat.pow_le_pow_right (by decide) h6
  have h40 : (4 : Nat) ^ 6 = 4096 := by decide
  have e : zAb pl ch v 0 = zpd (zcp pl ch) pl := hs
  have hp := zpd_pos h1 pl
  refine ⟨e, by omega, by omega, fun b hb => ?_⟩
  unfold zAb
  have := zsf_tail (f := zwy (zcp pl ch) v pl) (m := 7 - b) (b := b)
  rw [show 7 - b + b = 7 - 0 by omega] at this
  exact this
theorem qc0 {d : Nat} {M : zMem} {pl : Nat} {ch v : Nat → Nat} (hpl : M 13 6 = pl) (h6 : pl ≤ 6) (hch : ∀ q, q < pl → M 15 q = ch q ∧ 2 ≤ ch q ∧ ch q ≤ 4) (hv : ∀ q, q < pl → M 8 q = v q) :
    zCv (d + 1) 0 [.inr (.inr 49), .inr (.inr 4)] M (fun M' => (∀ k, k ≤ 6 → M' 50 k = zwy (zcp pl ch) v pl k) ∧ ∀ k, k ≠ 50 → M' k = M k) := by
  have hc2 : ∀ q, q < pl → 2 ≤ ch q ∧ ch q ≤ 4 := fun q hq => (hch q hq).2
  refine zk0 (zv0_0 ⟨_, qc182 (n := 7) rfl (by decide), ?_⟩)
  rintro M1 ⟨a1, a2⟩
  refine ⟨by omega, by omega, ?_⟩
  have key : ∀ (m p : Nat) (M2 : zMem), p + m = pl → (∀ k, k ≠ 50 → M2 k = M k) → (∀ k, k ≤ 6 → M2 50 k = zwy (zcp pl ch) v p k) →
      zBg (d + 1) 0 17 [zR 49, zR 4, zI (p : Int), none, none, none] [] M2 (fun r M' => r = none ∧ (∀ k, k ≤ 6 → M' 50 k = zwy (zcp pl ch) v pl k) ∧ ∀ k, k ≠ 50 → M' k = M k) := by
    intro m
    induction m with
    | zero =>
      intro p M2 hp f2 g2
      have : p = pl := by omega
      subst this
      exact zv0_17 _ ⟨fun _ => ⟨rfl, g2, f2⟩, fun h => absurd (by rw [f2 13 (by decide), hpl]; omega) h⟩
    | succ m ih =>
      intro p M2 hp f2 g2
      have hpp : p < pl := by omega
      obtain ⟨c1, c2, c3⟩ := hch p hpp
      have inner : ∀ (h : Nat), h = zht v p → zBg (d + 1) 0 61 [zR 49, zR 4, zI (p : Int), zI (h : Int), zI ((ch p : Int) - h), zI 6] [] M2 (fun r M' => r = none ∧ (∀ k, k ≤ 6 → M' 50 k = zwy (zcp pl ch) v pl k) ∧ ∀ k, k ≠ 50 → M' k = M k) := by
        intro h hh
        have hh1 : h ≤ 1 := by rw [hh]; unfold zht; split <;> omega
        have hcp : zcp pl ch p = ch p := by unfold zcp; rw [if_pos hpp]
        have hsub : (ch p : Int) - h = ((ch p - h : Nat) : Int) := by omega
        have loop : ∀ (j : Nat) (M3 : zMem), j ≤ 6 → (∀ k, k ≠ 50 → M3 k = M k) → (∀ k, k ≤ j → M3 50 k = zwy (zcp pl ch) v p k) → (∀ k, j < k → k ≤ 6 → M3 50 k = zwy (zcp pl ch) v (p + 1) k) →
            zBg (d + 1) 0 61 [zR 49, zR 4, zI (p : Int), zI (h : Int), zI ((ch p - h : Nat) : Int), zI (j : Int)] [] M3 (fun r M' => r = none ∧ (∀ k, k ≤ 6 → M' 50 k = zwy (zcp pl ch) v pl k) ∧ ∀ k, k ≠ 50 → M' k = M k) := by
          intro j
          induction j with
          | zero =>
            intro M3 hj f3 g3 n3
            have b0 := zwy_b (v := v) (k := 0) h6 (by omega : p ≤ pl) (by omega) hc2
            have e0 : M3 50 0 * ((ch p - h : Nat) : Int) = ((zwy (zcp pl ch) v p 0 * (ch p - h) : Nat) : Int) := by
              rw [g3 0 (by omega), Int.natCast_mul]
            have hb : zwy (zcp pl ch) v p 0 * (ch p - h) ≤ 4096 * 4 := Nat.mul_le_mul b0 (by omega)
            refine zv0_61 _ _ _ _ ⟨fun _ => ?_, fun h => absurd (by omega) h⟩
            rw [e0]
            refine ⟨by omega, by omega, ⟨by omega, by omega⟩, by omega, by omega, ⟨by omega, by omega⟩, ?_⟩
            refine ih (p + 1) _ (by omega) (fun k hk => by rw [zb_uk hk]; exact f3 k hk) (fun k hk => ?_)
            by_cases hk0 : k = 0
            · subst hk0
              have e9 : zwy (zcp pl ch) v (p + 1) 0 = zwy (zcp pl ch) v p 0 * (zcp pl ch p - zht v p) + 0 := rfl
              rw [zb_us, e9, hcp, ← hh, Nat.add_zero]
            · rw [zb_ui hk0]; exact n3 k (by omega) hk
          | succ j ihj =>
            intro M3 hj f3 g3 n3
            have b1 := zwy_b (v := v) (k := j + 1) h6 (by omega : p ≤ pl) (by omega) hc2
            have b2 := zwy_b (v := v) (k := j) h6 (by omega : p ≤ pl) (by omega) hc2
            have e1 : M3 50 (j + 1) * ((ch p - h : Nat) : Int) = ((zwy (zcp pl ch) v p (j + 1) * (ch p - h) : Nat) : Int) := by
              rw [g3 (j + 1) (by omega), Int.natCast_mul]
            have e2 : M3 50 j * (h : Int) = ((zwy (zcp pl ch) v p j * h : Nat) : Int) := by
              rw [g3 j (by omega), Int.natCast_mul]
            have hb1 : zwy (zcp pl ch) v p (j + 1) * (ch p - h) ≤ 4096 * 4 := Nat.mul_le_mul b1 (by omega)
            have hb2 : zwy (zcp pl ch) v p j * h ≤ 4096 * 1 := Nat.mul_le_mul b2 hh1
            refine zv0_61 _ _ _ _ ⟨fun h => by omega, fun _ => ?_⟩
            rw [show ((j + 1 : Nat) : Int) - 1 = (j : Int) by omega, Int.toNat_natCast, Int.toNat_natCast, e1, e2, show ((j + 1 : Nat) : Int) + (-1) = (j : Int) by omega]
            refine ⟨by omega, by omega, ⟨by omega, by omega⟩, ⟨by omega, by omega⟩, by omega, by omega, ⟨by omega, by omega⟩, ⟨by omega, by omega⟩, by omega, by omega, ⟨by omega, by omega⟩, ?_⟩
            refine ihj _ (by omega) (fun k hk => by rw [zb_uk hk]; exact f3 k hk) (fun k hk => by rw [zb_ui (by omega)]; exact g3 k (by omega)) (fun k hk hk2 => ?_)
            by_cases hkj : k = j + 1
            · subst hkj
              rw [zb_us]
              simp only [zwy]
              rw [if_neg (by omega), hcp, ← hh, Nat.add_sub_cancel]
              omega
            · rw [zb_ui hkj]; exact n3 k (by omega) hk2
        rw [hsub]
        exact loop 6 M2 (by omega) f2 g2 (fun k h1 h2 => by omega)
      refine zv0_17 _ ⟨fun h => by rw [f2 13 (by decide), hpl] at h; omega, fun _ => ?_⟩
      rw [Int.toNat_natCast, f2 8 (by decide), f2 15 (by decide), c1, hv p hpp]
      refine ⟨by omega, by omega, fun hge => ⟨by omega, by omega, ⟨by omega, by omega⟩, ?_⟩, fun hge => ⟨by omega, by omega, ⟨by omega, by omega⟩, ?_⟩⟩
      · exact inner 0 (by unfold zht; rw [if_neg (by omega)])
      · exact inner 1 (by unfold zht; rw [if_pos (by omega)])
  refine key pl 0 _ (by omega) (fun k hk => by rw [zb_uk hk]; exact a1 k hk) (fun k hk => ?_)
  simp only [zwy]
  by_cases hk0 : k = 0
  · subst hk0; rw [zb_us]; rfl
  · rw [zb_ui hk0, a2 k (by omega), if_neg hk0]; rfl
theorem qc1 {d : Nat} {M : zMem} {pl b : Nat} {ch v : Nat → Nat} (h6 : pl ≤ 6) (hc : ∀ q, q < pl → 2 ≤ ch q ∧ ch q ≤ 4) (hb : b ≤ 6) (hw : ∀ k, k ≤ 6 → M 50 k = zwy (zcp pl ch) v pl k) :
    zCi d 1 [.inr (.inr 49), .inl (b : Int)] M (fun r M' => r = (zAb pl ch v b : Int) ∧ M' = M) := by
  refine zk1 (zv1_0 _ ?_)
  obtain ⟨z1, z2, z3, z4⟩ := zAb_ok (v := v) h6 hc
  have hA := z4 b hb
  have key : ∀ (m k x : Nat), k + m = 7 → x + zsf (zwy (zcp pl ch) v pl) m k = zAb pl ch v b → zBg d 1 4 [zR 49, none, zI (x : Int), zI (k : Int)] [] M (fun r M' => ∃ w : Int, r = some (.inl w) ∧ w = (zAb pl ch v b : Int) ∧ M' = M) := by
    intro m
    induction m with
    | zero =>
      intro k x hk hx
      simp only [zsf] at hx
      exact zv1_4 _ _ ⟨fun _ => ⟨_, rfl, by omega, rfl⟩, fun h => absurd (by omega) h⟩
    | succ m ih =>
      intro k x hk hx
      simp only [zsf] at hx
      refine zv1_4 _ _ ⟨fun h => by omega, fun _ => ?_⟩
      rw [Int.toNat_natCast, hw k (by omega), ← Int.natCast_add]
      exact ⟨by omega, by omega, ⟨by omega, by omega⟩, ⟨by omega, by omega⟩, ih (k + 1) _ (by omega) (by omega)⟩
  exact key (7 - b) b 0 (by omega) (by unfold zAb; omega)
theorem qc3 {d : Nat} {M : zMem} {x y : Nat} (hx : x ≤ 4096) (hy : y ≤ 4096) : zCi d 3 [.inl (x : Int), .inl (y : Int)] M (fun r M' => r = (Nat.gcd x y : Int) ∧ M' = M) := by
  refine zk3 (zv3_0 _ _ ?_)
  generalize hg : Nat.gcd x y = g
  have key : ∀ (n a b st : Nat), b < 2 ^ n → a ≤ 4096 → b ≤ 4096 → st + 2 * n < 64 → Nat.gcd a b = g → zBg d 3 7 [none, none, zI (a : Int), zI (b : Int), zI (st : Int), none] [] M (fun r M' => ∃ w : Int, r = some (.inl w) ∧ w = (g : Int) ∧ M' = M) := by
    intro n
    induction n with
    | zero =>
      intro a b st hb ha hb4 hst hgc
      have : b = 0 := by omega
      subst this
      rw [Nat.gcd_zero_right] at hgc
      exact zv3_7 _ _ _ ⟨fun h => by omega, fun _ => ⟨fun _ => ⟨_, rfl, by omega, rfl⟩, fun h => absurd (by omega) h⟩⟩
    | succ n ih =>
      intro a b st hb ha hb4 hst hgc
      refine zv3_7 _ _ _ ⟨fun h => by omega, fun _ => ⟨fun h0 => ⟨_, rfl, ?_, rfl⟩, fun h0 => ?_⟩⟩
      · have : b = 0 := by omega
        subst this
        rw [Nat.gcd_zero_right] at hgc
        omega
      · have hbp : 0 < b := by omega
        rw [zb_rem (by omega) hbp (by omega)]
        have hm := Nat.mod_lt a hbp
        have hg1 : Nat.gcd b (a % b) = g := by rw [← hgc, Nat.gcd_comm a b, Nat.gcd_rec b a, Nat.gcd_comm]
        refine ⟨by omega, ⟨by omega, by omega⟩, ?_⟩
        refine zv3_7 _ _ _ ⟨fun h => by omega, fun _ => ⟨fun h1 => ⟨_, rfl, ?_, rfl⟩, fun h1 => ?_⟩⟩
        · have : a % b = 0 := by omega
          rw [this, Nat.gcd_zero_right] at hg1
          omega
        · have hrp : 0 < a % b := by omega
          rw [zb_rem (by omega) hrp (by omega)]
          have hm2 := Nat.mod_lt b hrp
          have hg2 : Nat.gcd (a % b) (b % (a % b)) = g := by rw [← hg1, Nat.gcd_comm b, Nat.gcd_rec (a % b) b, Nat.gcd_comm]
          have hhalf : 2 * (b % (a % b)) < b := by
            have h5 := Nat.div_add_mod b (a % b)
            have h6 : 1 ≤ b / (a % b) := (Nat.one_le_div_iff hrp).mpr (Nat.le_of_lt hm)
            have h7 : (a % b) * 1 ≤ (a % b) * (b / (a % b)) := Nat.mul_le_mul_left _ h6
            omega
          rw [Nat.pow_succ] at hb
          have := ih (a % b) (b % (a % b)) (st + 2) (by omega) (by omega) (by omega) (by omega) hg2
          rw [show ((st + 2 : Nat) : Int) = (st : Int) + 1 + 1 by omega] at this
          exact ⟨by omega, ⟨by omega, by omega⟩, this⟩
  exact key 13 x y 0 (by omega) hx hy (by omega) hg
theorem qc94 {d : Nat} {M : zMem} {pl sz : Nat} {ch v : Nat → Nat} {x y : Int} (hpl : M 13 6 = pl) (h6 : pl ≤ 6) (hch : ∀ q, q < pl → M 15 q = ch q ∧ 2 ≤ ch q ∧ ch q ≤ 4) (hv : ∀ q, q < pl → M 8 q = v q) (hsz : M 13 4 = if sz = 0 then 0 else 1) :
    zCi (d + 3) 94 [.inr (.inr 0), .inl x, .inl y] M (fun r M' => zsWrong pl sz ch v x y r ∧ zfC M M') := by
  have hc2 : ∀ q, q < pl → 2 ≤ ch q ∧ ch q ≤ 4 := fun q hq => (hch q hq).2
  obtain ⟨z1, z2, z3, z4⟩ := zAb_ok (v := v) h6 hc2
  have T : (0 ≤ x ∧ x ≤ 6 ∧ (y = 0 ∨ y = 1)) → ((M 13 4 : Int) ≠ 0 → ∃ Q1, zCv (d + 2) 0 [.inr (.inr 49), .inr (.inr 4)] M Q1 ∧ ∀ M1, Q1 M1 → ∃ Q2, zCi (d + 2) 2 [.inr (.inr 49), .inl x, .inl y] M1 Q2 ∧ ∀ v2 M2, Q2 v2 M2 → ∃ w : Int, zI v2 = some (.inl w) ∧ zsWrong pl sz ch v x y w ∧ zfC M M2) ∧ (¬ (M 13 4 : Int) ≠ 0 → ∃ w : Int, zI (-2) = some (.inl w) ∧ zsWrong pl sz ch v x y w ∧ zfC M M) := by
    intro hk
    refine ⟨fun hne => ⟨_, qc0 hpl h6 hch hv, ?_⟩, fun hne => ⟨_, rfl, Or.inr ⟨hk, ?_⟩, zfC.rf⟩⟩
    · rintro M1 ⟨a1, a2⟩
      have hs : sz ≠ 0 := by intro e; rw [hsz, if_pos e] at hne; exact hne rfl
      obtain ⟨b, hb, rfl⟩ : ∃ b : Nat, b ≤ 6 ∧ x = (b : Int) := ⟨x.toNat, by omega, by omega⟩
      have zb := z4 b hb
      have hgp : 0 < Nat.gcd (zAb pl ch v 0) (zAb pl ch v b) := Nat.gcd_pos_of_pos_left _ z2
      have hgl : Nat.gcd (zAb pl ch v 0) (zAb pl ch v b) ≤ zAb pl ch v 0 := Nat.gcd_le_left _ z2
      have h2 : zCi (d + 2) 2 [.inr (.inr 49), .inl (b : Int), .inl y] M1 (fun r M' => r = (((if y = 0 then zAb pl ch v b else zAb pl ch v 0) / Nat.gcd (zAb pl ch v 0) (zAb pl ch v b) : Nat) : Int) ∧ M' = M1) := by
        refine zk2 (zv2_0 _ _ ⟨_, qc1 h6 hc2 hb a1, ?_⟩)
        rintro v1 M2 ⟨rfl, rfl⟩
        have hq := qc1 (d := d + 1) (M := M2) (b := 0) h6 hc2 (by omega) a1
        refine ⟨_, hq, ?_⟩
        rintro v2 M3 ⟨rfl, rfl⟩
        refine ⟨_, qc3 (by omega) (by omega), ?_⟩
        rintro v3 M4 ⟨rfl, rfl⟩
        refine ⟨fun _ => ⟨fun hy => ⟨by omega, _, rfl, ?_, rfl⟩, fun hy => ⟨by omega, _, rfl, ?_, rfl⟩⟩, fun h => absurd (by omega) h⟩
        · rw [if_neg hy, zb_div (by omega) hgp (by omega)]
        · rw [if_pos (by omega), zb_div (by omega) hgp (by omega)]
      refine ⟨_, h2, ?_⟩
      rintro v2 M2 ⟨rfl, rfl⟩
      refine ⟨_, rfl, Or.inr ⟨hk, ?_⟩, fun k _ _ h => a2 k (by omega)⟩
      rw [if_neg hs, Int.toNat_natCast]
    · have hs : sz = 0 := by
        rcases Nat.eq_zero_or_pos sz with e | e
        · exact e
        · rw [hsz, if_neg (by omega)] at hne; exact absurd (by decide) hne
      rw [if_pos hs]
  refine zk94 (zv94_0 _ _ ⟨fun h => ⟨_, rfl, Or.inl ⟨by omega, rfl⟩, zfC.rf⟩, fun h => ⟨fun h2 => ⟨_, rfl, Or.inl ⟨by omega, rfl⟩, zfC.rf⟩, fun h2 => ⟨fun h3 => T ⟨by omega, by omega, Or.inl h3⟩, fun h3 => ⟨fun h4 => T ⟨by omega, by omega, Or.inr h4⟩, fun h4 => ⟨_, rfl, Or.inl ⟨by omega, rfl⟩, zfC.rf⟩⟩⟩⟩⟩)
theorem qc95 {d : Nat} {M : zMem} {pl sz : Nat} {ch v : Nat → Nat} {x : Int} (hpl : M 13 6 = pl) (h6 : pl ≤ 6) (hch : ∀ q, q < pl → M 15 q = ch q ∧ 2 ≤ ch q ∧ ch q ≤ 4) (hv : ∀ q, q < pl → M 8 q = v q) (hsz : M 13 4 = if sz = 0 then 0 else 1) :
    zCi (d + 3) 95 [.inr (.inr 0), .inl x] M (fun r M' => zsBar pl sz ch v x r ∧ zfC M M') := by
  have hc2 : ∀ q, q < pl → 2 ≤ ch q ∧ ch q ≤ 4 := fun q hq => (hch q hq).2
  obtain ⟨z1, z2, z3, z4⟩ := zAb_ok (v := v) h6 hc2
  refine zk95 (zv95_0 _ ⟨fun h => ⟨_, rfl, Or.inl ⟨by omega, rfl⟩, zfC.rf⟩, fun h => ⟨fun h2 => ⟨fun hne => ⟨_, qc0 hpl h6 hch hv, ?_⟩, fun hne => ⟨_, rfl, Or.inr ⟨by omega, ?_⟩, zfC.rf⟩⟩, fun h2 => ⟨_, rfl, Or.inl ⟨by omega, rfl⟩, zfC.rf⟩⟩⟩)
  · rintro M1 ⟨a1, a2⟩
    have hs : sz ≠ 0 := by intro e; rw [hsz, if_pos e] at hne; exact hne rfl
    obtain ⟨q, rfl⟩ : ∃ q : Nat, x = (q : Int) := ⟨x.toNat, by omega⟩
    have h4 : zCi (d + 2) 4 [.inr (.inr 49), .inl (q : Int)] M1 (fun r M' => r = zbo (zfd (fun b => decide (zAb pl ch v b * q ≤ zAb pl ch v 0)) 7 0) ∧ M' = M1) := by
      have hq0 := qc1 (d := d + 1) (M := M1) (b := 0) h6 hc2 (by omega) a1
      refine zk4 (zv4_0 _ ⟨_, hq0, ?_⟩)
      rintro v1 M2 ⟨rfl, rfl⟩
      have key : ∀ (m b : Nat), b + m = 7 → zfd (fun b => decide (zAb pl ch v b * q ≤ zAb pl ch v 0)) m b = zfd (fun b => decide (zAb pl ch v b * q ≤ zAb pl ch v 0)) 7 0 → zBg (d + 2) 4 8 [zR 49, zI (q : Int), zI (zAb pl ch v 0 : Int), zI (b : Int)] [] M2 (fun r M' => ∃ w : Int, r = some (.inl w) ∧ w = zbo (zfd (fun b => decide (zAb pl ch v b * q ≤ zAb pl ch v 0)) 7 0) ∧ M' = M2) := by
        intro m
        induction m with
        | zero =>
          intro b hb hfd
          exact zv4_8 _ _ _ ⟨fun _ => ⟨_, rfl, by rw [← hfd]; rfl, rfl⟩, fun h => absurd (by omega) h⟩
        | succ m ih =>
          intro b hb hfd
          have hfd2 : zfd (fun b => decide (zAb pl ch v b * q ≤ zAb pl ch v 0)) (m + 1) b = if decide (zAb pl ch v b * q ≤ zAb pl ch v 0) = true then some b else zfd (fun b => decide (zAb pl ch v b * q ≤ zAb pl ch v 0)) m (b + 1) := rfl
          rw [hfd2] at hfd
          have zb := z4 b (by omega)
          have hmul : zAb pl ch v b * q ≤ 4096 * 9999 := Nat.mul_le_mul (by omega) (by omega)
          refine zv4_8 _ _ _ ⟨fun h => by omega, fun _ => ⟨_, qc1 h6 hc2 (by omega) a1, ?_⟩⟩
          rintro v3 M3 ⟨rfl, rfl⟩
          rw [← Int.natCast_mul]
          refine ⟨⟨by omega, by omega⟩, fun hgt => ⟨⟨by omega, by omega⟩, ih (b + 1) (by omega) ?_⟩, fun hle => ⟨_, rfl, ?_, rfl⟩⟩
          · rw [if_neg (by simp; omega)] at hfd
            exact hfd
          · rw [if_pos (by simp; omega)] at hfd
            rw [← hfd]
            rfl
      exact key 7 0 rfl rfl
    refine ⟨_, h4, ?_⟩
    rintro v2 M2 ⟨rfl, rfl⟩
    refine ⟨_, rfl, Or.inr ⟨by omega, ?_⟩, fun k _ _ h => a2 k (by omega)⟩
    rw [if_neg hs, Int.toNat_natCast]
  · have hs : sz = 0 := by
      rcases Nat.eq_zero_or_pos sz with e | e
      · exact e
      · rw [hsz, if_neg (by omega)] at hne; exact absurd (by decide) hne
    rw [if_pos hs]
