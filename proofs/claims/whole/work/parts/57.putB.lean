/-! put: the reference's search -/
theorem zsq_y : ∀ o : Nat, o < 256 → ∀ k : Nat, k < 4 → ziand (zishr (o : Int) (6 - 2 * (k : Int))) 3 = (zsq o k : Int) := by
  intro o ho k hk
  rw [show 6 - 2 * (k : Int) = 2 * (3 - (k : Int)) by omega]
  exact zsq_z o ho k hk
theorem qc162 {d : Nat} {M : zMem} {pl cp p : Nat} {ch co : Nat → Nat} {ro : Nat → Nat → Nat} (hpl : pl ≤ 6) (hp : p < pl) (hcpM : M 55 12 = cp) (hcp : cp ≤ 8) (hch : M 60 p = ch p ∧ 2 ≤ ch p ∧ ch p ≤ 4) (hro : ∀ c, c < cp → M 65 (6 * c + p) = ro c p ∧ ro c p < ch p) (hco : ∀ i, i < 24 → M 63 i = co i ∧ co i ≤ 9) :
    zCv d 162 [.inr (.inr 55), .inl (p : Int)] M (fun M' => (∃ b, zbcO co ro cp p (ch p) = some b ∧ b ∈ zLr (ch p) ∧ ∀ k, k < 4 → M' 73 k = zsq b k) ∧ ∀ k, k ≠ 73 → M' k = M k) := by
  obtain ⟨c1, c2, c3⟩ := hch
  obtain ⟨m1, m2⟩ := zL_map (ch p) (by omega) c2
  have hg9 : ∀ (o x : Nat), x < 4 → M 63 (4 * p + zsq o x) = co (4 * p + zsq o x) ∧ co (4 * p + zsq o x) ≤ 9 := fun o x _ => hco _ (by have := zsq_lt (o := o) (k := x); omega)
  have hsum : ∀ (o n : Nat), zps (fun x => co (4 * p + zsq o x)) (fun c => ro c p) n ≤ 9 * n := fun o n => zps_le (fun x => (hco (4 * p + zsq o x) (by have := zsq_lt (o := o) (k := x); omega)).2) n
  have lay : ∀ (b : Nat), b < 256 → zbcO co ro cp p (ch p) = some b → b ∈ zLr (ch p) → ∀ (m k : Nat) (M2 : zMem), k + m = 4 → (∀ j, j ≠ 73 → M2 j = M j) → (∀ j, j < k → M2 73 j = zsq b j) → zBg d 162 229 [zR 55, none, none, none, zI (b : Int), zI (k : Int), none, none, none, none, none] [] M2 (fun r M' => r = none ∧ (∃ b, zbcO co ro cp p (ch p) = some b ∧ b ∈ zLr (ch p) ∧ ∀ k, k < 4 → M' 73 k = zsq b k) ∧ ∀ k, k ≠ 73 → M' k = M k) := by
    intro b hb e1 e2 m
    induction m with
    | zero =>
      intro k M2 hk f2 g2
      exact zv162_229 _ _ ⟨fun _ => ⟨rfl, ⟨b, e1, e2, fun j hj => g2 j (by omega)⟩, f2⟩, fun h => absurd (by omega) h⟩
    | succ m ih =>
      intro k M2 hk f2 g2
      refine zv162_229 _ _ ⟨fun h => by omega, fun _ => ?_⟩
      rw [zsq_y b hb k (by omega), Int.toNat_natCast]
      refine ⟨⟨by omega, by omega⟩, ⟨by omega, by omega⟩, by omega, by omega, ⟨by omega, by omega⟩, ?_⟩
      refine ih (k + 1) _ (by omega) (fun j hj => by rw [zb_uk hj]; exact f2 j hj) (fun j hj => ?_)
      by_cases hjk : j = k
      · subst hjk; exact zb_us
      · rw [zb_ui hjk]; exact g2 j (by omega)
  have search : ∀ (m o : Nat) (st : Nat × Option Nat) (x4 : Int), o + m = 256 → (x4 = match st.2 with | some b => (b : Int) | none => 0) → st.1 ≤ 1000000 → zhl (zfc co ro cp p) ((List.range' o m).filter (zrvK (ch p))) st = zhl (zfc co ro cp p) (zLr (ch p)) (1000000, none) →
      zBg d 162 16 [zR 55, zI (p : Int), zI (ch p : Int), zI (st.1 : Int), zI x4, zI (o : Int), none, none, none, none, none] [] M (fun r M' => r = none ∧ (∃ b, zbcO co ro cp p (ch p) = some b ∧ b ∈ zLr (ch p) ∧ ∀ k, k < 4 → M' 73 k = zsq b k) ∧ ∀ k, k ≠ 73 → M' k = M k) := by
    intro m
    induction m with
    | zero =>
      intro o st x4 ho hx hle hz
      simp only [List.range'_zero, List.filter_nil, zhl] at hz
      obtain ⟨s1, b, s2, s3⟩ := zhl_start (f := zfc co ro cp p) (L := zLr (ch p)) (a := 1000000) (b := 1000000) (fun c _ => by have := hsum c cp; unfold zfc; omega) m2
      rw [hz, s3] at hx
      have hb256 := List.mem_range.mp (List.mem_filter.mp s2).1
      refine zv162_16 _ _ _ _ _ ⟨fun _ => ?_, fun h => absurd (by omega) h⟩
      rw [hx]
      exact lay b hb256 s3 s2 4 0 M rfl (fun _ _ => rfl) (fun j hj => by omega)
    | succ m ih =>
      intro o st x4 ho hx hle hz
      rw [List.range'_succ] at hz
      have go : ∀ (st' : Nat × Option Nat) (x4' : Int), (x4' = match st'.2 with | some b => (b : Int) | none => 0) → st'.1 ≤ 1000000 → zhl (zfc co ro cp p) ((List.range' (o + 1) m).filter (zrvK (ch p))) st' = zhl (zfc co ro cp p) (zLr (ch p)) (1000000, none) → zBg d 162 16 [zR 55, zI (p : Int), zI (ch p : Int), zI (st'.1 : Int), zI x4', zI ((o : Int) + 1), none, none, none, none, none] [] M (fun r M' => r = none ∧ (∃ b, zbcO co ro cp p (ch p) = some b ∧ b ∈ zLr (ch p) ∧ ∀ k, k < 4 → M' 73 k = zsq b k) ∧ ∀ k, k ≠ 73 → M' k = M k) := by
        intro st' x4' h1 h2 h3
        exact ih (o + 1) st' x4' (by omega) h1 h2 h3
      refine zv162_16 _ _ _ _ _ ⟨fun h => by omega, fun _ => ?_⟩
      -- the sum over the copies, and what becomes of the best
      have sumno : ∀ c : Nat, zrvK (ch p) o = false → zBg d 162 126 [zR 55, zI (p : Int), zI (ch p : Int), zI (st.1 : Int), zI x4, zI (o : Int), none, zI 0, zI 0, zI (c : Int), none] [] M (fun r M' => r = none ∧ (∃ b, zbcO co ro cp p (ch p) = some b ∧ b ∈ zLr (ch p) ∧ ∀ k, k < 4 → M' 73 k = zsq b k) ∧ ∀ k, k ≠ 73 → M' k = M k) := by
        intro c hno
        rw [List.filter_cons_of_neg (by rw [hno]; decide)] at hz
        have g := go st x4 hx hle hz
        exact zv162_126 _ _ _ _ _ _ _ _ ⟨fun _ => ⟨fun _ => ⟨fun _ => ⟨⟨by omega, by omega⟩, g⟩, fun h => absurd rfl h⟩, fun h => absurd rfl h⟩, fun _ => ⟨fun _ => ⟨fun _ => ⟨fun _ => ⟨⟨by omega, by omega⟩, g⟩, fun h => absurd rfl h⟩, fun h => absurd rfl h⟩, fun h => absurd rfl h⟩⟩
      have sumyes : zrvK (ch p) o = true → ∀ (n c : Nat), c + n = cp → zBg d 162 126 [zR 55, zI (p : Int), zI (ch p : Int), zI (st.1 : Int), zI x4, zI (o : Int), none, zI (zps (fun x => co (4 * p + zsq o x)) (fun c => ro c p) c : Int), zI 1, zI (c : Int), none] [] M (fun r M' => r = none ∧ (∃ b, zbcO co ro cp p (ch p) = some b ∧ b ∈ zLr (ch p) ∧ ∀ k, k < 4 → M' 73 k = zsq b k) ∧ ∀ k, k ≠ 73 → M' k = M k) := by
        intro hyes n
        rw [List.filter_cons_of_pos hyes] at hz
        simp only [zhl] at hz
        induction n with
        | zero =>
          intro c hc
          have : c = cp := by omega
          subst this
          have hf : zps (fun x => co (4 * p + zsq o x)) (fun c => ro c p) c = zfc co ro c p o := rfl
          rw [hf]
          have hb := hsum o c
          rw [hf] at hb
          refine zv162_126 _ _ _ _ _ _ _ _ ⟨fun _ => ⟨fun h => by omega, fun _ => ⟨fun hge => ⟨fun h => by omega, fun _ => ⟨fun _ => ⟨⟨by omega, by omega⟩, ?_⟩, fun h => absurd hge h⟩⟩, fun hlt => ⟨fun h => by omega, fun _ => ⟨fun h => absurd h hlt, fun _ => ⟨⟨by omega, by omega⟩, ?_⟩⟩⟩⟩⟩, fun h => absurd (by omega) h⟩
          · rw [if_neg (by omega)] at hz
            exact go st x4 hx hle hz
          · rw [if_pos (by omega)] at hz
            exact go (zfc co ro c p o, some o) (o : Int) rfl (by simp only []; omega) hz
        | succ n ih2 =>
          intro c hc
          obtain ⟨r1, r2⟩ := hro c (by omega)
          have ih3 := ih2 (c + 1) (by omega)
          simp only [zps] at ih3
          have hs := hsum o c
          have hq := zsq_lt (o := o) (k := ro c p)
          obtain ⟨g1, g2⟩ := hg9 o (ro c p) (by omega)
          refine zv162_126 _ _ _ _ _ _ _ _ ⟨fun h => by omega, fun _ => ⟨fun h => by omega, fun _ => ?_⟩⟩
          rw [show (6 * (c : Int) + (p : Int)).toNat = 6 * c + p by omega, r1, zsq_y o (by omega) (ro c p) (by omega), show (4 * (p : Int) + (zsq o (ro c p) : Int)).toNat = 4 * p + zsq o (ro c p) by omega, g1]
          exact ⟨⟨by omega, by omega⟩, ⟨by omega, by omega⟩, ⟨by omega, by omega⟩, by omega, by omega, ⟨by omega, by omega⟩, ⟨by omega, by omega⟩, ⟨by omega, by omega⟩, by omega, by omega, ⟨by omega, by omega⟩, ⟨by omega, by omega⟩, ih3⟩
      have walk : ∀ (n c met : Nat) (b : Bool), c + n = 4 → met < 16 → zrv o (ch p) n c met b = zrvK (ch p) o → zBg d 162 36 [zR 55, zI (p : Int), zI (ch p : Int), zI (st.1 : Int), zI x4, zI (o : Int), zI (met : Int), zI 0, zI (if b then 1 else 0), zI (c : Int), none] [] M (fun r M' => r = none ∧ (∃ b, zbcO co ro cp p (ch p) = some b ∧ b ∈ zLr (ch p) ∧ ∀ k, k < 4 → M' 73 k = zsq b k) ∧ ∀ k, k ≠ 73 → M' k = M k) := by
        intro n
        induction n with
        | zero =>
          intro c met b hc hm hzr
          simp only [zrv] at hzr
          refine zv162_36 _ _ _ _ _ _ _ _ _ ⟨fun _ => ?_, fun h => absurd (by omega) h⟩
          cases b with
          | true => exact sumyes hzr.symm cp 0 (by omega)
          | false => exact sumno 0 hzr.symm
        | succ n ih2 =>
          intro c met b hc hm hzr
          simp only [zrv] at hzr
          have hq := zsq_lt (o := o) (k := c)
          have hb4 : 2 ^ zsq o c < 2 ^ 4 := zb_p2 hq
          have hor : met ||| 2 ^ zsq o c < 2 ^ 4 := Nat.or_lt_two_pow (by omega) hb4
          have N := ih2 (c + 1) _ _ (by omega) (by split <;> omega) hzr
          rw [show ((c + 1 : Nat) : Int) = (c : Int) + 1 by omega] at N
          have e0 : zior (met : Int) 0 = (met : Int) := by
            have := zb_or (a := met) (b := 0) (by omega) (by decide)
            rw [Nat.or_zero] at this
            exact this
          refine zv162_36 _ _ _ _ _ _ _ _ _ ⟨fun h => by omega, fun _ => ?_⟩
          rw [zsq_y o (by omega) c (by omega), zb_shl1 (by omega), zb_or (by omega) (by omega), e0, zb_bit (by omega) (by omega)]
          by_cases hcn : c < ch p
          · rw [if_pos hcn, if_pos hcn] at N
            cases b with
            | false =>
              simp only [Bool.false_and] at N
              exact ⟨⟨by omega, by omega⟩, ⟨by omega, by omega⟩, fun _ => ⟨fun h => by omega, fun _ => ⟨⟨by omega, by omega⟩, N⟩⟩, fun h => absurd rfl h⟩
            | true =>
              simp only [Bool.true_and] at N
              refine ⟨⟨by omega, by omega⟩, ⟨by omega, by omega⟩, fun h => absurd h (by decide), fun _ => ⟨fun h => by omega, fun _ => ⟨fun hge => ⟨fun h => by omega, fun _ => ⟨⟨by omega, by omega⟩, ?_⟩⟩, fun hlt => ⟨fun hbit => ⟨fun h => by omega, fun _ => ⟨⟨by omega, by omega⟩, ?_⟩⟩, fun hbit => ⟨fun h => by omega, fun _ => ⟨⟨by omega, by omega⟩, ?_⟩⟩⟩⟩⟩⟩
              · rw [show decide (zsq o c < ch p) = false from decide_eq_false (by omega)] at N
                exact N
              · have ht : met.testBit (zsq o c) = true := by
                  cases e : met.testBit (zsq o c) with
                  | true => rfl
                  | false => rw [e] at hbit; exact absurd rfl hbit
                rw [ht] at N
                simpa using N
              · have ht : met.testBit (zsq o c) = false := by
                  cases e : met.testBit (zsq o c) with
                  | false => rfl
                  | true => rw [e] at hbit; exact absurd (by decide) hbit
                rw [ht, show decide (zsq o c < ch p) = true from decide_eq_true (by omega)] at N
                exact N
          · rw [if_neg hcn, if_neg hcn] at N
            cases b with
            | false =>
              simp only [Bool.false_and] at N
              exact ⟨⟨by omega, by omega⟩, ⟨by omega, by omega⟩, fun _ => ⟨fun _ => ⟨⟨by omega, by omega⟩, N⟩, fun h => absurd (by omega) h⟩, fun h => absurd rfl h⟩
            | true =>
              simp only [Bool.true_and] at N
              refine ⟨⟨by omega, by omega⟩, ⟨by omega, by omega⟩, fun h => absurd h (by decide), fun _ => ⟨fun _ => ⟨fun hne => ⟨fun _ => ⟨⟨by omega, by omega⟩, ?_⟩, fun h => absurd (by omega) h⟩, fun he => ⟨fun _ => ⟨⟨by omega, by omega⟩, ?_⟩, fun h => absurd (by omega) h⟩⟩, fun h => absurd (by omega) h⟩⟩
              · rw [show (zsq o c == 0) = false by simp; omega] at N
                exact N
              · rw [show (zsq o c == 0) = true by simp; omega] at N
                exact N
      exact walk 4 0 0 true rfl (by decide) rfl
  refine zk162 (zv162_0 _ ⟨by omega, by omega, ?_⟩)
  rw [Int.toNat_natCast, c1]
  refine search 256 0 (1000000, none) 0 rfl rfl (Nat.le_refl _) ?_
  unfold zLr
  rw [List.range_eq_range']
