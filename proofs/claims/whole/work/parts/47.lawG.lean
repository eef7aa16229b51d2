/-! breach and fewest -/
theorem qc34 {d : Nat} {M : zMem} {pl : Nat} {x : Int} (h : M 13 6 = pl) : zCi d 34 [.inr (.inr 13), .inl x] M (fun r M' => (r = 1 ∧ zisC pl x ∨ r = 0 ∧ ¬ zisC pl x) ∧ M' = M) := by
  refine zk34 (zv34_0 _ ?_)
  rw [h]
  unfold zisC
  refine ⟨fun h => ⟨Or.inl rfl, _, rfl, Or.inr ⟨rfl, by omega⟩, rfl⟩, fun h => ⟨fun h2 => ⟨Or.inl rfl, _, rfl, Or.inr ⟨rfl, by omega⟩, rfl⟩, fun h2 => ⟨Or.inr rfl, _, rfl, Or.inl ⟨rfl, by omega, by omega⟩, rfl⟩⟩⟩
theorem qc115 {d : Nat} {M : zMem} {pl : Nat} {x : Int} (h : M 55 4 = pl) (h6 : pl ≤ 6) : zCi (d + 1) 115 [.inr (.inr 55), .inl x] M (fun r M' => (r = 1 ∧ zisC pl x ∨ r = 0 ∧ ¬ zisC pl x) ∧ M' = M) := by
  refine zk115 (zv115_0 _ ?_)
  rw [h]
  refine ⟨⟨by omega, by omega⟩, _, qc110, ?_⟩
  rintro v M1 ⟨hv, rfl⟩
  unfold zisC
  exact ⟨by omega, _, rfl, by omega, rfl⟩
def zbv (o : Option (Nat × Nat)) (y : Int) : Int := match o with
  | none => -4
  | some (s, t) => if y = 0 then (s : Int) else (t : Int)
def zbn (pl S : Nat) (o : Option Nat) (q : Nat) : Int := match o with
  | none => -4
  | some k => (zdt (zn5 pl S) 6 k q : Int)
def zknw (pl : Nat) (x y : Int) : Prop := (x = 2 ∧ zisC pl y) ∨ ((x = 0 ∨ x = 1) ∧ (y = 0 ∨ y = 1))
def zsBreach (pl cp : Nat) (ch : Nat → Nat) (me : Nat → Int) (ro : Nat → Nat → Nat) (ms hw : Nat) (x y r : Int) : Prop := (¬ zknw pl x y ∧ r = -1) ∨ (zknw pl x y ∧ r = if x = 0 then zbv (zbr0 (fun s => zfrm pl (2 ^ pl - 1) ro (zcn cp ch me ro hw s) s) cp (zSs cp ms)) y else if x = 1 then zbv (zbr1 (fun s => ztch pl (2 ^ pl - 1) (zcn cp ch me ro hw) (zcn cp ch me ro hw s) s) (zSs cp ms)) y else zbn pl (2 ^ pl - 1) (zfd (zG pl (2 ^ pl - 1) (zcn cp ch me ro hw) (zSs cp ms)) (zwq (zn5 pl (2 ^ pl - 1)) 6 0) 0) y.toNat)
theorem qc90 {d : Nat} {M : zMem} {pl cp ms hw : Nat} {ch : Nat → Nat} {me : Nat → Int} {ro : Nat → Nat → Nat} {v : Nat → Nat} {x y : Int} (hC : zCC M pl cp ch me ro ms hw v) :
    zCi (d + 10) 90 [.inr (.inr 0), .inl x, .inl y] M (fun r M' => zsBreach pl cp ch me ro ms hw x y r ∧ zfC M M') := by
  obtain ⟨h1, h2, h3, h4, h5, h6, h7⟩ := id hC
  have h61 := h1.1
  have Bd : ¬ zknw pl x y → ∃ v : Int, zI (-1) = some (.inl v) ∧ zsBreach pl cp ch me ro ms hw x y v ∧ zfC M M := fun hk => ⟨_, rfl, Or.inl ⟨hk, rfl⟩, zfC.rf⟩
  have T : zknw pl x y → ∃ Q1, zCi (d + 9) 109 [.inr (.inr 0), .inl x] M Q1 ∧ ∀ v1 M1, Q1 v1 M1 →
      ((v1 : Int) ≠ 0 → ((x : Int) ≠ 2 → ((y : Int) ≠ 0 → ∃ v : Int, zI (M1 36 7) = some (.inl v) ∧ zsBreach pl cp ch me ro ms hw x y v ∧ zfC M M1) ∧ (¬ (y : Int) ≠ 0 → ∃ v : Int, zI (M1 36 6) = some (.inl v) ∧ zsBreach pl cp ch me ro ms hw x y v ∧ zfC M M1)) ∧ (¬ (x : Int) ≠ 2 → (0 : Int) ≤ y ∧ (y : Int) < 6 ∧ ∃ v : Int, zI (M1 37 y.toNat) = some (.inl v) ∧ zsBreach pl cp ch me ro ms hw x y v ∧ zfC M M1)) ∧
      (¬ (v1 : Int) ≠ 0 → ∃ v : Int, zI (-4) = some (.inl v) ∧ zsBreach pl cp ch me ro ms hw x y v ∧ zfC M M1) := by
    intro hk
    have hx : x = 0 ∨ x = 1 ∨ x = 2 := by
      rcases hk with ⟨a, _⟩ | ⟨a | a, _⟩
      · exact Or.inr (Or.inr a)
      · exact Or.inl a
      · exact Or.inr (Or.inl a)
    obtain ⟨l, rfl⟩ : ∃ l : Nat, x = (l : Int) := ⟨x.toNat, by omega⟩
    have hl : l ≤ 2 := by omega
    refine ⟨_, qc109 (l := l) hC hl, ?_⟩
    rintro w M1 ⟨a1, a2, a3⟩
    obtain ⟨c0, c1, c2⟩ := a1
    refine ⟨fun hw1 => ⟨fun hl2 => ⟨fun hy => ⟨_, rfl, Or.inr ⟨hk, ?_⟩, a3⟩, fun hy => ⟨_, rfl, Or.inr ⟨hk, ?_⟩, a3⟩⟩, fun hl2 => ?_⟩, fun hw0 => ⟨_, rfl, Or.inr ⟨hk, ?_⟩, a3⟩⟩
    · by_cases e0 : l = 0
      · rw [if_pos (by omega)]
        have := c0 e0
        cases ho : zbr0 (fun s => zfrm pl (2 ^ pl - 1) ro (zcn cp ch me ro hw s) s) cp (zSs cp ms) with
        | none => rw [ho] at this; exact absurd this hw1
        | some st => rw [ho] at this; simp only [zbv]; rw [if_neg hy]; exact this.2.2
      · rw [if_neg (by omega), if_pos (by omega)]
        have := c1 (by omega)
        cases ho : zbr1 (fun s => ztch pl (2 ^ pl - 1) (zcn cp ch me ro hw) (zcn cp ch me ro hw s) s) (zSs cp ms) with
        | none => rw [ho] at this; exact absurd this hw1
        | some st => rw [ho] at this; simp only [zbv]; rw [if_neg hy]; exact this.2.2
    · rw [Ne, Decidable.not_not] at hy
      by_cases e0 : l = 0
      · rw [if_pos (by omega)]
        have := c0 e0
        cases ho : zbr0 (fun s => zfrm pl (2 ^ pl - 1) ro (zcn cp ch me ro hw s) s) cp (zSs cp ms) with
        | none => rw [ho] at this; exact absurd this hw1
        | some st => rw [ho] at this; simp only [zbv]; rw [if_pos hy]; exact this.2.1
      · rw [if_neg (by omega), if_pos (by omega)]
        have := c1 (by omega)
        cases ho : zbr1 (fun s => ztch pl (2 ^ pl - 1) (zcn cp ch me ro hw) (zcn cp ch me ro hw s) s) (zSs cp ms) with
        | none => rw [ho] at this; exact absurd this hw1
        | some st => rw [ho] at this; simp only [zbv]; rw [if_pos hy]; exact this.2.1
    · have hy : zisC pl y := by
        rcases hk with ⟨_, a⟩ | ⟨a, _⟩
        · exact a
        · omega
      have hy1 := hy.1
      have hy2 := hy.2
      refine ⟨by omega, by omega, _, rfl, Or.inr ⟨hk, ?_⟩, a3⟩
      rw [if_neg (by omega), if_neg (by omega)]
      have := c2 (by omega)
      cases ho : zfd (zG pl (2 ^ pl - 1) (zcn cp ch me ro hw) (zSs cp ms)) (zwq (zn5 pl (2 ^ pl - 1)) 6 0) 0 with
      | none => rw [ho] at this; exact absurd this hw1
      | some k => rw [ho] at this; exact this.2 y.toNat (by omega) (by omega) (z63 h61 (by omega)).2
    · rw [Ne, Decidable.not_not] at hw0
      by_cases e0 : l = 0
      · rw [if_pos (by omega)]
        have := c0 e0
        cases ho : zbr0 (fun s => zfrm pl (2 ^ pl - 1) ro (zcn cp ch me ro hw s) s) cp (zSs cp ms) with
        | none => rfl
        | some st => rw [ho] at this; have := this.1; omega
      · rw [if_neg (by omega)]
        by_cases e1 : l = 1
        · rw [if_pos (by omega)]
          have := c1 e1
          cases ho : zbr1 (fun s => ztch pl (2 ^ pl - 1) (zcn cp ch me ro hw) (zcn cp ch me ro hw s) s) (zSs cp ms) with
          | none => rfl
          | some st => rw [ho] at this; have := this.1; omega
        · rw [if_neg (by omega)]
          have := c2 (by omega)
          cases ho : zfd (zG pl (2 ^ pl - 1) (zcn cp ch me ro hw) (zSs cp ms)) (zwq (zn5 pl (2 ^ pl - 1)) 6 0) 0 with
          | none => rfl
          | some st => rw [ho] at this; have := this.1; omega
  have nk : ∀ {p : Prop}, (p → False) → ¬ p := fun h => h
  refine zk90 (zv90_0 _ _ ⟨fun n2 => ⟨fun e0 => ⟨fun y0 => ⟨fun _ => T (Or.inr ⟨Or.inl e0, Or.inl y0⟩), fun h => absurd (by decide) h⟩, fun y0 => ⟨fun y1 => ⟨fun h => absurd rfl h, fun _ => Bd ?_⟩, fun y1 => ⟨fun _ => T (Or.inr ⟨Or.inl e0, Or.inr (by omega)⟩), fun h => absurd (by decide) h⟩⟩⟩, fun n0 => ⟨fun n1 => ⟨fun h => absurd rfl h, fun _ => Bd ?_⟩, fun n1 => ⟨fun y0 => ⟨fun _ => T (Or.inr ⟨Or.inr (by omega), Or.inl y0⟩), fun h => absurd (by decide) h⟩, fun y0 => ⟨fun y1 => ⟨fun h => absurd rfl h, fun _ => Bd ?_⟩, fun y1 => ⟨fun _ => T (Or.inr ⟨Or.inr (by omega), Or.inr (by omega)⟩), fun h => absurd (by decide) h⟩⟩⟩⟩⟩, fun n2 => ⟨_, qc34 h2.1, ?_⟩⟩)
  · rintro (⟨a, _⟩ | ⟨_, a | a⟩)
    · exact n2 a
    · exact y0 a
    · exact y1 a
  · rintro (⟨a, _⟩ | ⟨a | a, _⟩)
    · exact n2 a
    · exact n0 a
    · exact n1 a
  · rintro (⟨a, _⟩ | ⟨_, a | a⟩)
    · exact n2 a
    · exact y0 a
    · exact y1 a
  · rintro w M1 ⟨hw1, rfl⟩
    refine ⟨fun hz => T (Or.inl ⟨by omega, ?_⟩), fun hz => Bd ?_⟩
    · rcases hw1 with ⟨_, a⟩ | ⟨a, _⟩
      · exact a
      · exact absurd a hz
    · rintro (⟨_, a⟩ | ⟨a, _⟩)
      · rcases hw1 with ⟨b, _⟩ | ⟨_, b⟩
        · omega
        · exact b a
      · omega
theorem qc152 {d : Nat} {M : zMem} {pl cp ms hw : Nat} {ch : Nat → Nat} {me : Nat → Int} {ro : Nat → Nat → Nat} {v : Nat → Nat} {x y : Int} (hC : zCR M pl cp ch me ro ms hw v) :
    zCi (d + 4) 152 [.inr (.inr 55), .inl x, .inl y] M (fun r M' => zsBreach pl cp ch me ro ms hw x y r ∧ zfR M M') := by
  obtain ⟨h1, h2, h3, h4, h5, h6, h7⟩ := id hC
  have h61 := h1.1
  obtain ⟨g0, g1, g2, g3⟩ := zS_cg (cp := cp) (hw := hw) (ch := ch) (me := me) (ro := ro) (L := zSs cp ms) (S := 63) (S' := 2 ^ pl - 1) (pl := pl) (fun q hq => by rw [(z63 h61 hq).1, (z63 h61 hq).2])
  have Bd : ¬ zknw pl x y → ∃ v : Int, zI (-1) = some (.inl v) ∧ zsBreach pl cp ch me ro ms hw x y v ∧ zfR M M := fun hk => ⟨_, rfl, Or.inl ⟨hk, rfl⟩, zfR.rf⟩
  have T : zknw pl x y → ∃ Q1, zCi (d + 3) 150 [.inr (.inr 55), .inl x, .inl 63] M Q1 ∧ ∀ v1 M1, Q1 v1 M1 →
      ((v1 : Int) = 0 → ((x : Int) ≠ 2 → ((y : Int) ≠ 0 → ∃ v : Int, zI (M1 55 25) = some (.inl v) ∧ zsBreach pl cp ch me ro ms hw x y v ∧ zfR M M1) ∧ (¬ (y : Int) ≠ 0 → ∃ v : Int, zI (M1 55 24) = some (.inl v) ∧ zsBreach pl cp ch me ro ms hw x y v ∧ zfR M M1)) ∧ (¬ (x : Int) ≠ 2 → (0 : Int) ≤ y ∧ (y : Int) < 6 ∧ ∃ v : Int, zI (M1 70 y.toNat) = some (.inl v) ∧ zsBreach pl cp ch me ro ms hw x y v ∧ zfR M M1)) ∧
      (¬ (v1 : Int) = 0 → ∃ v : Int, zI (-4) = some (.inl v) ∧ zsBreach pl cp ch me ro ms hw x y v ∧ zfR M M1) := by
    intro hk
    have hx : x = 0 ∨ x = 1 ∨ x = 2 := by
      rcases hk with ⟨a, _⟩ | ⟨a | a, _⟩
      · exact Or.inr (Or.inr a)
      · exact Or.inl a
      · exact Or.inr (Or.inl a)
    obtain ⟨l, rfl⟩ : ∃ l : Nat, x = (l : Int) := ⟨x.toNat, by omega⟩
    have hl : l ≤ 2 := by omega
    refine ⟨_, qc150 (l := l) (S := 63) hC hl (by decide), ?_⟩
    rintro w M1 ⟨a1, a3⟩
    obtain ⟨c0, c1, c2⟩ := a1
    rw [g0] at c0
    rw [g1] at c1
    have c2' : l = 2 → zanM pl (2 ^ pl - 1) (zfd (zG pl (2 ^ pl - 1) (zcn cp ch me ro hw) (zSs cp ms)) (zwq (zn5 pl (2 ^ pl - 1)) 6 0) 0) w (M1 70) := by
      intro e
      have := c2 e
      rw [g3, g2] at this
      unfold zanM at this ⊢
      rw [g2] at this
      exact this
    refine ⟨fun hw1 => ⟨fun hl2 => ⟨fun hy => ⟨_, rfl, Or.inr ⟨hk, ?_⟩, a3⟩, fun hy => ⟨_, rfl, Or.inr ⟨hk, ?_⟩, a3⟩⟩, fun hl2 => ?_⟩, fun hw0 => ⟨_, rfl, Or.inr ⟨hk, ?_⟩, a3⟩⟩
    · by_cases e0 : l = 0
      · rw [if_pos (by omega)]
        have := c0 e0
        cases ho : zbr0 (fun s => zfrm pl (2 ^ pl - 1) ro (zcn cp ch me ro hw s) s) cp (zSs cp ms) with
        | none => rw [ho] at this; have : w = 1 := this; omega
        | some st => rw [ho] at this; simp only [zbv]; rw [if_neg hy]; exact this.2.2
      · rw [if_neg (by omega), if_pos (by omega)]
        have := c1 (by omega)
        cases ho : zbr1 (fun s => ztch pl (2 ^ pl - 1) (zcn cp ch me ro hw) (zcn cp ch me ro hw s) s) (zSs cp ms) with
        | none => rw [ho] at this; have : w = 1 := this; omega
        | some st => rw [ho] at this; simp only [zbv]; rw [if_neg hy]; exact this.2.2
    · rw [Ne, Decidable.not_not] at hy
      by_cases e0 : l = 0
      · rw [if_pos (by omega)]
        have := c0 e0
        cases ho : zbr0 (fun s => zfrm pl (2 ^ pl - 1) ro (zcn cp ch me ro hw s) s) cp (zSs cp ms) with
        | none => rw [ho] at this; have : w = 1 := this; omega
        | some st => rw [ho] at this; simp only [zbv]; rw [if_pos hy]; exact this.2.1
      · rw [if_neg (by omega), if_pos (by omega)]
        have := c1 (by omega)
        cases ho : zbr1 (fun s => ztch pl (2 ^ pl - 1) (zcn cp ch me ro hw) (zcn cp ch me ro hw s) s) (zSs cp ms) with
        | none => rw [ho] at this; have : w = 1 := this; omega
        | some st => rw [ho] at this; simp only [zbv]; rw [if_pos hy]; exact this.2.1
    · have hy : zisC pl y := by
        rcases hk with ⟨_, a⟩ | ⟨a, _⟩
        · exact a
        · omega
      have hy1 := hy.1
      have hy2 := hy.2
      refine ⟨by omega, by omega, _, rfl, Or.inr ⟨hk, ?_⟩, a3⟩
      rw [if_neg (by omega), if_neg (by omega)]
      have := c2' (by omega)
      cases ho : zfd (zG pl (2 ^ pl - 1) (zcn cp ch me ro hw) (zSs cp ms)) (zwq (zn5 pl (2 ^ pl - 1)) 6 0) 0 with
      | none => rw [ho] at this; have : w = 1 := this; omega
      | some k => rw [ho] at this; exact this.2 y.toNat (by omega)
    · by_cases e0 : l = 0
      · rw [if_pos (by omega)]
        have := c0 e0
        cases ho : zbr0 (fun s => zfrm pl (2 ^ pl - 1) ro (zcn cp ch me ro hw s) s) cp (zSs cp ms) with
        | none => rfl
        | some st => rw [ho] at this; exact absurd this.1 hw0
      · rw [if_neg (by omega)]
        by_cases e1 : l = 1
        · rw [if_pos (by omega)]
          have := c1 e1
          cases ho : zbr1 (fun s => ztch pl (2 ^ pl - 1) (zcn cp ch me ro hw) (zcn cp ch me ro hw s) s) (zSs cp ms) with
          | none => rfl
          | some st => rw [ho] at this; exact absurd this.1 hw0
        · rw [if_neg (by omega)]
          have := c2' (by omega)
          cases ho : zfd (zG pl (2 ^ pl - 1) (zcn cp ch me ro hw) (zSs cp ms)) (zwq (zn5 pl (2 ^ pl - 1)) 6 0) 0 with
          | none => rfl
          | some st => rw [ho] at this; exact absurd this.1 hw0
  refine zk152 (zv152_0 _ _ ⟨_, qc110, ?_⟩)
  rintro w1 M1 ⟨hw1, rfl⟩
  refine ⟨fun h => Bd ?_, fun h => ⟨fun hx2 => ⟨_, qc115 h2.1 h61, ?_⟩, fun hx2 => ⟨_, qc110, ?_⟩⟩⟩
  · unfold zknw
    omega
  · rintro w2 M2 ⟨hw2, rfl⟩
    refine ⟨fun hz => T (Or.inl ⟨by omega, ?_⟩), fun hz => Bd ?_⟩
    · rcases hw2 with ⟨_, a⟩ | ⟨a, _⟩
      · exact a
      · exact absurd a hz
    · rintro (⟨_, a⟩ | ⟨a, _⟩)
      · rcases hw2 with ⟨b, _⟩ | ⟨_, b⟩
        · omega
        · exact b a
      · omega
  · rintro w2 M2 ⟨hw2, rfl⟩
    refine ⟨fun hz => T (Or.inr ⟨by omega, by omega⟩), fun hz => Bd ?_⟩
    unfold zknw
    omega
/-! fewest -/
theorem zrank {n f : Nat → Nat} {P : Nat} (hn : ∀ q, 0 < n q) (hf : ∀ q, q < P → f q < n q) : ∀ p, p ≤ P → ∃ k, zwq n P p ∣ k ∧ k + zwq n P p ≤ zwq n P 0 ∧ ∀ q, q < p → zdt n P k q = f q := by
  intro p
  induction p with
  | zero => intro _; exact ⟨0, Nat.dvd_zero _, by omega, fun q hq => by omega⟩
  | succ p ih =>
    intro hp
    obtain ⟨k, h1, h2, h3⟩ := ih (by omega)
    obtain ⟨d1, d2, d3⟩ := zdt_at (n := n) (P := P) (k := k) (p := p) (v := f p) hn (by omega) h1 (hf p (by omega))
    refine ⟨k + f p * zwq n P (p + 1), d3, ?_, fun q hq => ?_⟩
    · have hs := zwq_s (n := n) (P := P) (q := p) (by omega)
      have hfp := hf p (by omega)
      have h5 : (f p + 1) * zwq n P (p + 1) ≤ n p * zwq n P (p + 1) := Nat.mul_le_mul_right _ (by omega)
      rw [Nat.add_mul, Nat.one_mul] at h5
      omega
    · by_cases hqp : q = p
      · subst hqp; exact d1
      · rw [d2 q (by omega)]; exact h3 q (by omega)
theorem zbr0_some {P : Nat → Nat → Bool} {cp : Nat} : ∀ {L : List Nat}, (zbr0 P cp L).isSome = true ↔ ∃ s, s ∈ L ∧ ∃ c, c < cp ∧ P s c = true := by
  intro L
  induction L with
  | nil => simp [zbr0]
  | cons s r ih =>
    simp only [zbr0]
    cases ho : zfd (P s) cp 0 with
    | some c =>
      have := zfd_some ho
      simp only [Option.isSome_some, true_iff]
      exact ⟨s, List.mem_cons_self, c, by omega, this.1⟩
    | none =>
      rw [ih]
      constructor
      · rintro ⟨t, ht, h⟩; exact ⟨t, List.mem_cons_of_mem _ ht, h⟩
      · rintro ⟨t, ht, c, hc, h⟩
        rcases List.mem_cons.mp ht with rfl | ht
        · rw [zfd_none.mp ho c (by omega) (by omega)] at h; cases h
        · exact ⟨t, ht, c, hc, h⟩
theorem zbr1_mono {T T' : Nat → Nat → Bool} (h : ∀ s t, T s t = true → T' s t = true) : ∀ {L : List Nat}, (zbr1 T L).isSome = true → (zbr1 T' L).isSome = true := by
  intro L
  induction L with
  | nil => intro h; cases h
  | cons s r ih =>
    intro hh
    simp only [zbr1] at hh ⊢
    cases ho' : r.find? (T' s) with
    | some t => rfl
    | none =>
      cases ho : r.find? (T s) with
      | some t =>
        have h1 := List.find?_some ho
        have h2 := List.mem_of_find?_eq_some ho
        have h3 := List.find?_eq_none.mp ho' t h2
        exact absurd (h s t h1) h3
      | none =>
        rw [ho] at hh
        exact ih hh
theorem zbk_mono {pl cp hw l S : Nat} {ch : Nat → Nat} {me : Nat → Int} {ro : Nat → Nat → Nat} {L : List Nat} (h6 : pl ≤ 6) (h : zbk pl cp ch me ro hw L l (2 ^ pl - 1) = true) : zbk pl cp ch me ro hw L l S = true := by
  have hall : ∀ q, q < pl → (2 ^ pl - 1).testBit q = true := fun q hq => (z63 h6 hq).2
  unfold zbk at h ⊢
  by_cases e0 : l = 0
  · rw [if_pos e0] at h ⊢
    rw [zbr0_some] at h ⊢
    obtain ⟨s, hs, c, hc, hP⟩ := h
    refine ⟨s, hs, c, hc, ?_⟩
    unfold zfrm at hP ⊢
    rw [Bool.and_eq_true] at hP ⊢
    exact ⟨hP.1, zfts_iff.mpr (fun p hp _ => zfts_iff.mp hP.2 p hp (hall p hp))⟩
  · rw [if_neg e0] at h ⊢
    by_cases e1 : l = 1
    · rw [if_pos e1] at h ⊢
      refine zbr1_mono (fun s t hst => ?_) h
      unfold ztch at hst ⊢
      rw [Bool.and_eq_true] at hst ⊢
      exact ⟨hst.1, zme2_iff.mpr (fun p hp _ => zme2_iff.mp hst.2 p hp (hall p hp))⟩
    · rw [if_neg e1] at h ⊢
      obtain ⟨k, hk⟩ := Option.isSome_iff_exists.mp h
      have hG := (zfd_some hk).1
      have hdl : ∀ q, zdt (zn5 pl (2 ^ pl - 1)) 6 k q < 5 := fun q => Nat.lt_of_lt_of_le (zdt_lt zn5_pos) (by unfold zn5; split <;> omega)
      obtain ⟨k', h1, h2, h3⟩ := zrank (n := zn5 pl S) (f := fun q => if q < pl ∧ S.testBit q = true then zdt (zn5 pl (2 ^ pl - 1)) 6 k q else 0) (P := 6) zn5_pos (fun q hq => by
        unfold zn5
        by_cases hc : q < pl ∧ S.testBit q = true
        · rw [if_pos hc, if_pos hc]; exact hdl q
        · rw [if_neg hc, if_neg hc]; decide) 6 (Nat.le_refl _)
      have hw6 : zwq (zn5 pl S) 6 6 = 1 := zwq_e (Nat.le_refl _)
      have hG' : zG pl S (zcn cp ch me ro hw) L k' = true := by
        unfold zG at hG ⊢
        have hsub : ∀ s, zsu pl (2 ^ pl - 1) (zcn cp ch me ro hw) 6 k s = true → zsu pl S (zcn cp ch me ro hw) 6 k' s = true := by
          intro s hs
          rw [zsu_iff] at hs ⊢
          intro q hq hq2 hq3
          rw [h3 q hq]
          simp only [if_pos (show q < pl ∧ S.testBit q = true from ⟨hq2, hq3⟩)]
          exact hs q hq hq2 (hall q hq2)
        simp only [Bool.and_eq_true, Bool.not_eq_true', beq_iff_eq] at hG ⊢
        obtain ⟨x1, x2⟩ := hG
        have hne : L.filter (zsu pl (2 ^ pl - 1) (zcn cp ch me ro hw) 6 k) ≠ [] := by
          intro e; rw [e] at x1; cases x1
        obtain ⟨s, hs⟩ := List.exists_mem_of_ne_nil _ hne
        have hs' : s ∈ L.filter (zsu pl S (zcn cp ch me ro hw) 6 k') := List.mem_filter.mpr ⟨(List.mem_filter.mp hs).1, hsub s (List.mem_filter.mp hs).2⟩
        refine ⟨?_, ?_⟩
        · cases hh : L.filter (zsu pl S (zcn cp ch me ro hw) 6 k') with
          | nil => rw [hh] at hs'; cases hs'
          | cons a b => rfl
        · apply Nat.eq_of_testBit_eq
          intro i
          rw [Nat.zero_testBit]
          cases hb : (zall (L.filter (zsu pl S (zcn cp ch me ro hw) 6 k'))).testBit i with
          | false => rfl
          | true =>
            obtain ⟨y1, y2⟩ := zall_bit.mp hb
            have : (zall (L.filter (zsu pl (2 ^ pl - 1) (zcn cp ch me ro hw) 6 k))).testBit i = true := zall_bit.mpr ⟨y1, fun t ht => y2 t (List.mem_filter.mpr ⟨(List.mem_filter.mp ht).1, hsub t (List.mem_filter.mp ht).2⟩)⟩
            rw [x2, Nat.zero_testBit] at this
            cases this
      cases ho : zfd (zG pl S (zcn cp ch me ro hw) L) (zwq (zn5 pl S) 6 0) 0 with
      | some x => rfl
      | none =>
        have := zfd_none.mp ho k' (by omega) (by omega)
        rw [hG'] at this
        cases this
def zfw (bk : Nat → Bool) (N : Nat) (r : Int) : Prop := (r = -4 ∧ ∀ S, S < N → bk S = true) ∨ ∃ s : Nat, s < N ∧ r = s ∧ bk s = false ∧ ∀ t, t < N → bk t = false → zpop s < zpop t ∨ (zpop s = zpop t ∧ s ≤ t)
theorem zfw_uniq {bk : Nat → Bool} {N : Nat} {r r' : Int} (h : zfw bk N r) (h' : zfw bk N r') : r = r' := by
  rcases h with ⟨e, h⟩ | ⟨s, h1, e, h2, h3⟩
  · rcases h' with ⟨e', _⟩ | ⟨s', h1', e', h2', _⟩
    · omega
    · rw [h s' h1'] at h2'; cases h2'
  · rcases h' with ⟨e', h'⟩ | ⟨s', h1', e', h2', h3'⟩
    · rw [h' s h1] at h2; cases h2
    · have a := h3 s' h1' h2'
      have b := h3' s h1 h2
      omega
theorem zpop_le : ∀ pl, pl < 7 → ∀ t, t < 2 ^ pl → zpop t ≤ pl := by decide +kernel
def zsFewest (pl cp : Nat) (ch : Nat → Nat) (me : Nat → Int) (ro : Nat → Nat → Nat) (ms hw : Nat) (x r : Int) : Prop := (¬ (0 ≤ x ∧ x ≤ 2) ∧ r = -1) ∨ ((0 ≤ x ∧ x ≤ 2) ∧ zfw (zbk pl cp ch me ro hw (zSs cp ms) x.toNat) (2 ^ pl) r)
theorem qc91 {d : Nat} {M : zMem} {pl cp ms hw : Nat} {ch : Nat → Nat} {me : Nat → Int} {ro : Nat → Nat → Nat} {v : Nat → Nat} {x : Int} (hC : zCC M pl cp ch me ro ms hw v) :
    zCi (d + 10) 91 [.inr (.inr 0), .inl x] M (fun r M' => zsFewest pl cp ch me ro ms hw x r ∧ zfC M M') := by
  obtain ⟨h1, h2, h3, h4, h5, h6, h7⟩ := id hC
  have h61 := h1.1
  refine zk91 (zv91_0 _ ⟨fun h => ⟨_, rfl, Or.inl ⟨by omega, rfl⟩, zfC.rf⟩, fun h => ⟨fun hx2 => ?_, fun hx2 => ⟨_, rfl, Or.inl ⟨by omega, rfl⟩, zfC.rf⟩⟩⟩)
  obtain ⟨l, rfl⟩ : ∃ l : Nat, x = (l : Int) := ⟨x.toNat, by omega⟩
  have hl : l ≤ 2 := by omega
  refine ⟨_, qc109 (l := l) hC hl, ?_⟩
  rintro w M1 ⟨a1, a2, a3⟩
  have hr := zpC_r hl a1
  have hp64 := zb_p2le (a := pl) (b := 6) h61
  have hpp := Nat.two_pow_pos pl
  generalize hbk : zbk pl cp ch me ro hw (zSs cp ms) l = bk at *
  have fin : ∀ r, zfw bk (2 ^ pl) r → zsFewest pl cp ch me ro ms hw (l : Int) r := by
    intro r hf
    refine Or.inr ⟨by omega, ?_⟩
    rw [Int.toNat_natCast, hbk]
    exact hf
  refine ⟨fun hw0 => ⟨_, qc36 (h2.fr a3).1 h61, ?_⟩, fun hw0 => ⟨_, rfl, fin _ (Or.inl ⟨rfl, fun S _ => ?_⟩), a3⟩⟩
  · rintro w2 M2 ⟨rfl, rfl⟩
    have key : ∀ (m k : Nat) (M3 : zMem), k + m = pl + 1 → zfC M M3 → zSt M3 pl cp ch me ro ms hw l → (∀ t, t < 2 ^ pl → zpop t < k → bk t = true) → zBg (d + 10) 91 35 [zR 0, zI (l : Int), zI ((2 ^ pl - 1 : Nat) : Int), zI (k : Int), none] [] M3 (fun r M' => ∃ z : Int, r = some (.inl z) ∧ zsFewest pl cp ch me ro ms hw (l : Int) z ∧ zfC M M') := by
      intro m
      induction m with
      | zero =>
        intro k M3 hk f3 s3 hlt
        refine zv91_35 _ _ _ ⟨fun _ => ⟨_, rfl, fin _ (Or.inl ⟨rfl, fun t ht => hlt t ht ?_⟩), f3⟩, fun h => absurd (by rw [(h2.fr f3).1]; omega) h⟩
        have := zpop_le pl (by omega) t ht
        omega
      | succ m ih =>
        intro k M3 hk f3 s3 hlt
        refine zv91_35 _ _ _ ⟨fun h => by rw [(h2.fr f3).1] at h; omega, fun _ => ?_⟩
        have key2 : ∀ (n s : Nat) (M4 : zMem), s + n = 2 ^ pl → zfC M M4 → zSt M4 pl cp ch me ro ms hw l → (∀ t, t < s → zpop t = k → bk t = true) → zBg (d + 10) 91 52 [zR 0, zI (l : Int), zI ((2 ^ pl - 1 : Nat) : Int), zI (k : Int), zI (s : Int)] [] M4 (fun r M' => ∃ z : Int, r = some (.inl z) ∧ zsFewest pl cp ch me ro ms hw (l : Int) z ∧ zfC M M') := by
          intro n
          induction n with
          | zero =>
            intro s M4 hs f4 s4 hlt2
            refine zv91_52 _ _ _ _ ⟨fun _ => ⟨⟨by omega, by omega⟩, ?_⟩, fun h => absurd (by omega) h⟩
            refine ih (k + 1) M4 (by omega) f4 s4 (fun t ht hp => ?_)
            by_cases hpk : zpop t = k
            · exact hlt2 t (by omega) hpk
            · exact hlt t ht (by omega)
          | succ n ih2 =>
            intro s M4 hs f4 s4 hlt2
            have hnext : ∀ M5, zfC M M5 → zSt M5 pl cp ch me ro ms hw l → (zpop s = k → bk s = true) → zBg (d + 10) 91 52 [zR 0, zI (l : Int), zI ((2 ^ pl - 1 : Nat) : Int), zI (k : Int), zI ((s : Int) + 1)] [] M5 (fun r M' => ∃ z : Int, r = some (.inl z) ∧ zsFewest pl cp ch me ro ms hw (l : Int) z ∧ zfC M M') := by
              intro M5 f5 s5 hb
              refine ih2 (s + 1) M5 (by omega) f5 s5 (fun t ht hp => ?_)
              by_cases hts : t = s
              · subst hts; exact hb hp
              · exact hlt2 t (by omega) hp
            refine zv91_52 _ _ _ _ ⟨fun h => by omega, fun _ => ⟨_, qc180 (by omega), ?_⟩⟩
            rintro w3 M5 ⟨rfl, rfl⟩
            refine ⟨fun hne => ⟨⟨by omega, by omega⟩, hnext M5 f4 s4 (fun e => by omega)⟩, fun he => ⟨_, qc16 h1 h6 hl (by omega) s4, ?_⟩⟩
            rintro w4 M6 ⟨c1, c2⟩
            have hr2 := zpC_r hl c1
            rw [hbk] at hr2
            have f6 : zfC M M6 := f4.tr (fun k _ _ h => c2 k (by omega) (by omega))
            refine ⟨fun hne => ⟨⟨by omega, by omega⟩, hnext M6 f6 (s4.fr c2) (fun _ => ?_)⟩, fun he2 => ⟨_, rfl, fin _ (Or.inr ⟨s, by omega, rfl, ?_, fun t ht hbt => ?_⟩), f6⟩⟩
            · cases e : bk s with
              | true => rfl
              | false => rw [e] at hr2; exact absurd hr2 hne
            · cases e : bk s with
              | false => rfl
              | true => rw [e] at hr2; simp at hr2; omega
            · rcases Nat.lt_trichotomy (zpop t) k with hh | hh | hh
              · rw [hlt t ht hh] at hbt; cases hbt
              · rcases Nat.lt_or_ge t s with hts | hts
                · rw [hlt2 t hts hh] at hbt; cases hbt
                · exact Or.inr ⟨by omega, hts⟩
              · exact Or.inl (by omega)
        exact key2 (2 ^ pl) 0 M3 (by omega) f3 s3 (fun t ht => by omega)
    exact key (pl + 1) 0 M2 (by omega) a3 a2 (fun t _ h => by omega)
  · rw [← hbk]
    refine zbk_mono h61 ?_
    rw [hbk]
    cases e : bk (2 ^ pl - 1) with
    | true => rfl
    | false => rw [e] at hr; exact absurd hr hw0
theorem qc153 {d : Nat} {M : zMem} {pl cp ms hw : Nat} {ch : Nat → Nat} {me : Nat → Int} {ro : Nat → Nat → Nat} {v : Nat → Nat} {x : Int} (hC : zCR M pl cp ch me ro ms hw v) :
    zCi (d + 4) 153 [.inr (.inr 55), .inl x] M (fun r M' => zsFewest pl cp ch me ro ms hw x r ∧ zfR M M') := by
  obtain ⟨h1, h2, h3, h4, h5, h6, h7⟩ := id hC
  have h61 := h1.1
  refine zk153 (zv153_0 _ ⟨_, qc110, ?_⟩)
  rintro w M1 ⟨hw1, rfl⟩
  refine ⟨fun hz => ?_, fun hz => ⟨_, rfl, Or.inl ⟨by omega, rfl⟩, zfR.rf⟩⟩
  obtain ⟨l, rfl⟩ : ∃ l : Nat, x = (l : Int) := ⟨x.toNat, by omega⟩
  have hl : l ≤ 2 := by omega
  have hp64 := zb_p2le (a := pl) (b := 6) h61
  have hpp := Nat.two_pow_pos pl
  generalize hbk : zbk pl cp ch me ro hw (zSs cp ms) l = bk
  have fin : ∀ r, zfw bk (2 ^ pl) r → zsFewest pl cp ch me ro ms hw (l : Int) r := by
    intro r hf
    refine Or.inr ⟨by omega, ?_⟩
    rw [Int.toNat_natCast, hbk]
    exact hf
  have key : ∀ (m s : Nat) (best : Int) (M2 : zMem), s + m = 2 ^ pl → zfR M1 M2 → zfw bk s best → zBg (d + 4) 153 19 [zR 55, zI (l : Int), zI best, zI (s : Int), none] [] M2 (fun r M' => ∃ z : Int, r = some (.inl z) ∧ zsFewest pl cp ch me ro ms hw (l : Int) z ∧ zfR M1 M') := by
    intro m
    induction m with
    | zero =>
      intro s best M2 hs f2 hb
      have : s = 2 ^ pl := by omega
      subst this
      have p2 := (h2.fr f2).1
      refine zv153_19 _ _ _ ⟨fun _ => ⟨_, rfl, fin _ hb, f2⟩, fun h => absurd ?_ h⟩
      rw [p2, zb_shl1 (by omega)]
      omega
    | succ m ih =>
      intro s best M2 hs f2 hb
      have p2 := (h2.fr f2).1
      have keep : ∀ M3, zfR M1 M3 → (bk s = true ∨ ∃ t : Nat, t < s ∧ best = t ∧ zpop t ≤ zpop s) → zBg (d + 4) 153 19 [zR 55, zI (l : Int), zI best, zI ((s : Int) + 1), none] [] M3 (fun r M' => ∃ z : Int, r = some (.inl z) ∧ zsFewest pl cp ch me ro ms hw (l : Int) z ∧ zfR M1 M') := by
        intro M3 f3 hh
        refine ih (s + 1) best M3 (by omega) f3 ?_
        rcases hb with ⟨e, hall⟩ | ⟨t, b1, e, b2, b3⟩
        · rcases hh with hh | ⟨t, ht, e2, _⟩
          · refine Or.inl ⟨e, fun S hS => ?_⟩
            by_cases hSs : S = s
            · subst hSs; exact hh
            · exact hall S (by omega)
          · omega
        · refine Or.inr ⟨t, by omega, e, b2, fun u hu hbu => ?_⟩
          by_cases hus : u = s
          · subst hus
            rcases hh with hh | ⟨t2, ht2, e2, hle⟩
            · rw [hh] at hbu; cases hbu
            · have : t2 = t := by omega
              subst this
              omega
          · exact b3 u (by omega) hbu
      have take : ∀ M3, zfR M1 M3 → bk s = false → (best < 0 ∨ ∃ t : Nat, t < s ∧ best = t ∧ zpop s < zpop t) → zBg (d + 4) 153 19 [zR 55, zI (l : Int), zI (s : Int), zI ((s : Int) + 1), none] [] M3 (fun r M' => ∃ z : Int, r = some (.inl z) ∧ zsFewest pl cp ch me ro ms hw (l : Int) z ∧ zfR M1 M') := by
        intro M3 f3 hbs hh
        refine ih (s + 1) (s : Int) M3 (by omega) f3 (Or.inr ⟨s, by omega, rfl, hbs, fun u hu hbu => ?_⟩)
        by_cases hus : u = s
        · subst hus; exact Or.inr ⟨rfl, Nat.le_refl _⟩
        · rcases hb with ⟨e, hall⟩ | ⟨t, b1, e, b2, b3⟩
          · rw [hall u (by omega)] at hbu; cases hbu
          · have := b3 u (by omega) hbu
            rcases hh with hh | ⟨t2, ht2, e2, hlt⟩
            · omega
            · have : t2 = t := by omega
              subst this
              omega
      have call : ∀ M3, zfR M1 M3 → (best < 0 ∨ ∃ t : Nat, t < s ∧ best = t ∧ zpop s < zpop t) → ∃ Q1, zCi (d + 3) 150 [.inr (.inr 55), .inl (l : Int), .inl (s : Int)] M3 Q1 ∧ ∀ v1 M4, Q1 v1 M4 →
          ((v1 : Int) = 0 → zR32 ((s : Int) + 1) ∧ zBg (d + 4) 153 19 [zR 55, zI (l : Int), zI best, zI ((s : Int) + 1), none] [] M4 (fun r M' => ∃ z : Int, r = some (.inl z) ∧ zsFewest pl cp ch me ro ms hw (l : Int) z ∧ zfR M1 M')) ∧
          (¬ (v1 : Int) = 0 → zR32 ((s : Int) + 1) ∧ zBg (d + 4) 153 19 [zR 55, zI (l : Int), zI (s : Int), zI ((s : Int) + 1), none] [] M4 (fun r M' => ∃ z : Int, r = some (.inl z) ∧ zsFewest pl cp ch me ro ms hw (l : Int) z ∧ zfR M1 M')) := by
        intro M3 f3 hh
        refine ⟨_, qc150 (l := l) (S := s) (hC.fr f3) hl (by omega), ?_⟩
        rintro v1 M4 ⟨c1, c2⟩
        have hr := zpR_r hl c1
        rw [hbk] at hr
        have f4 := f3.tr c2
        refine ⟨fun h0 => ⟨⟨by omega, by omega⟩, keep M4 f4 (Or.inl ?_)⟩, fun h0 => ⟨⟨by omega, by omega⟩, take M4 f4 ?_ hh⟩⟩
        · cases e : bk s with
          | true => rfl
          | false => rw [e] at hr; simp at hr; omega
        · cases e : bk s with
          | false => rfl
          | true => rw [e] at hr; exact absurd hr h0
      refine zv153_19 _ _ _ ⟨fun h => ?_, fun _ => ?_⟩
      · rw [p2, zb_shl1 (by omega)] at h
        omega
      · refine ⟨fun hneg => ⟨fun h => absurd h (by decide), fun _ => call M2 f2 (Or.inl hneg)⟩, fun hneg => ?_⟩
        obtain ⟨t, ht, rfl⟩ : ∃ t : Nat, t < s ∧ best = t := by
          rcases hb with ⟨e, _⟩ | ⟨t, b1, e, _⟩
          · omega
          · exact ⟨t, b1, e⟩
        refine ⟨_, qc129 (by omega), ?_⟩
        rintro w3 M3 ⟨rfl, rfl⟩
        refine ⟨_, qc129 (by omega), ?_⟩
        rintro w4 M4 ⟨rfl, rfl⟩
        refine ⟨fun hge => ⟨fun _ => ⟨⟨by omega, by omega⟩, keep M4 f2 (Or.inr ⟨t, ht, rfl, by omega⟩)⟩, fun h => absurd rfl h⟩, fun hge => ⟨fun h => absurd h (by decide), fun _ => call M4 f2 (Or.inr ⟨t, ht, rfl, by omega⟩)⟩⟩
  exact key (2 ^ pl) 0 (-4) M1 (by omega) zfR.rf (Or.inl ⟨rfl, fun S hS => by omega⟩)
