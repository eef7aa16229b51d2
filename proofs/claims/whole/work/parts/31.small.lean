/-! small methods of the JDK and of the reference -/
def zpop (s : Nat) : Nat := (List.range 8).countP (fun i => s.testBit i)
def zlw (x : Nat) : Nat → Nat → Nat
  | 0, k => k
  | n + 1, k => if x.testBit k then k else zlw x n (k + 1)
def zlow (x : Nat) : Nat := zlw x 31 0
set_option maxRecDepth 20000 in
theorem qc180 {d : Nat} {M : zMem} {x : Nat} (hx : x < 256) : zCi d 180 [.inl (x : Int)] M (fun v M' => v = (zpop x : Int) ∧ M' = M) := by
  refine zk180 (zBg.mono (Q := fun r M' => r = zI (zpop x : Int) ∧ M' = M) ?_ (fun r M' h => ⟨_, h.1, rfl, h.2⟩))
  refine zv180_0 _ ?_
  simp only [eq_self, and_true]
  revert x
  decide +kernel
set_option maxRecDepth 20000 in
theorem qc179 {d : Nat} {M : zMem} {x : Nat} (h0 : 0 < x) (hx : x < 256) : zCi d 179 [.inl (x : Int)] M (fun v M' => v = (zlow x : Int) ∧ M' = M) := by
  refine zk179 (zBg.mono (Q := fun r M' => r = zI (zlow x : Int) ∧ M' = M) ?_ (fun r M' h => ⟨_, h.1, rfl, h.2⟩))
  have hw : ∀ x : Nat, x < 256 → 0 < x → ziand (zixor (x : Int) (-1)) ((x : Int) - 1) ≤ 256 := by decide +kernel
  have hw1 := hw x hx h0
  refine zv179_0 _ ⟨⟨by omega, by omega⟩, fun hpos => ⟨fun _ => ⟨fun _ => ?_, fun h => absurd hw1 h⟩, fun h => absurd (Int.le_trans hw1 (by decide)) h⟩, fun h => ?_⟩
  · simp only [eq_self, and_true, Option.some.injEq, Sum.inl.injEq]
    have k1 : ∀ x : Nat, x < 256 → 0 < x → ((ziand (zixor (x : Int) (-1)) ((x : Int) - 1)) > 0 ∧ (ziand (zixor (x : Int) (-1)) ((x : Int) - 1)) ≤ 4) →  zR32 (1 + ziushr (ziand (zixor (x : Int) (-1)) ((x : Int) - 1)) 1) ∧ 1 + ziushr (ziand (zixor (x : Int) (-1)) ((x : Int) - 1)) 1 = (zlow x : Int) := by decide +kernel
    have k2 : ∀ x : Nat, x < 256 → 0 < x → (ziand (zixor (x : Int) (-1)) ((x : Int) - 1)) ≤ 16 → ¬ (ziand (zixor (x : Int) (-1)) ((x : Int) - 1)) ≤ 4 →  zR32 ((1 + 2) + ziushr (ziushr (ziand (zixor (x : Int) (-1)) ((x : Int) - 1)) 2) 1) ∧ (1 + 2) + ziushr (ziushr (ziand (zixor (x : Int) (-1)) ((x : Int) - 1)) 2) 1 = (zlow x : Int) := by decide +kernel
    have k3 : ∀ x : Nat, x < 256 → 0 < x → ¬ (ziand (zixor (x : Int) (-1)) ((x : Int) - 1)) ≤ 16 → ziushr (ziand (zixor (x : Int) (-1)) ((x : Int) - 1)) 4 ≤ 4 →  zR32 ((1 + 4) + ziushr (ziushr (ziand (zixor (x : Int) (-1)) ((x : Int) - 1)) 4) 1) ∧ (1 + 4) + ziushr (ziushr (ziand (zixor (x : Int) (-1)) ((x : Int) - 1)) 4) 1 = (zlow x : Int) := by decide +kernel
    have k4 : ∀ x : Nat, x < 256 → 0 < x → ¬ (ziand (zixor (x : Int) (-1)) ((x : Int) - 1)) ≤ 16 → ¬ ziushr (ziand (zixor (x : Int) (-1)) ((x : Int) - 1)) 4 ≤ 4 →  zR32 (((1 + 4) + 2) + ziushr (ziushr (ziushr (ziand (zixor (x : Int) (-1)) ((x : Int) - 1)) 4) 2) 1) ∧ ((1 + 4) + 2) + ziushr (ziushr (ziushr (ziand (zixor (x : Int) (-1)) ((x : Int) - 1)) 4) 2) 1 = (zlow x : Int) := by decide +kernel
    have r1 : zR32 (1 + 2) := by decide
    have r2 : zR32 (1 + 4) := by decide
    have r3 : zR32 (1 + 4 + 2) := by decide
    exact ⟨fun h => ⟨fun h' => k1 x hx h0 ⟨hpos, h'⟩, fun h' => ⟨r1, k2 x hx h0 h h'⟩⟩, fun h => ⟨r2, fun h' => k3 x hx h0 h h', fun h' => ⟨r3, k4 x hx h0 h h'⟩⟩⟩
  · have key : ∀ x : Nat, x < 256 → 0 < x → ¬ ziand (zixor (x : Int) (-1)) ((x : Int) - 1) > 0 → ziand (ziand (zixor (x : Int) (-1)) ((x : Int) - 1)) 32 = (zlow x : Int) := by decide +kernel
    exact ⟨congrArg (fun v : Int => zI v) (key x hx h0 h), rfl⟩
set_option maxRecDepth 20000 in
theorem zpop_s : ∀ x, x < 256 → 0 < x → (x &&& (x - 1)) < x ∧ zpop (x &&& (x - 1)) + 1 = zpop x := by decide +kernel
theorem zpop_0 : zpop 0 = 0 := by decide
theorem qc129 {d : Nat} {M : zMem} {x : Nat} (hx : x < 256) : zCi d 129 [.inl (x : Int)] M (fun v M' => v = (zpop x : Int) ∧ M' = M) := by
  refine zk129 (zv129_0 _ ?_)
  have key : ∀ (n y a : Nat), y ≤ n → y < 256 → a + zpop y = zpop x → a ≤ 256 → zBg d 129 4 [none, zI (a : Int), zI (y : Int)] [] M (fun r M' => ∃ v : Int, r = some (.inl v) ∧ v = (zpop x : Int) ∧ M' = M) := by
    intro n
    induction n with
    | zero =>
      intro y a h1 h2 h3 h4
      have : y = 0 := by omega
      subst this
      rw [zpop_0] at h3
      exact zv129_4 _ _ ⟨fun _ => ⟨_, rfl, by omega, rfl⟩, fun h => absurd rfl h⟩
    | succ n ih =>
      intro y a h1 h2 h3 h4
      refine zv129_4 _ _ ⟨fun h => ?_, fun h => ?_⟩
      · have : y = 0 := by omega
        subst this
        rw [zpop_0] at h3
        exact ⟨_, rfl, by omega, rfl⟩
      · have hy : 0 < y := by omega
        obtain ⟨e1, e2⟩ := zpop_s y h2 hy
        have e3 : ziand (y : Int) ((y : Int) - 1) = ((y &&& (y - 1) : Nat) : Int) := by
          rw [show (y : Int) - 1 = ((y - 1 : Nat) : Int) by omega]
          exact zb_and (by omega)
        have e4 : zpop x ≤ 8 := by
          unfold zpop
          exact Nat.le_trans List.countP_le_length (by simp)
        rw [e3]
        refine ⟨⟨by omega, by omega⟩, ⟨by omega, by omega⟩, ?_⟩
        exact ih (y &&& (y - 1)) (a + 1) (by omega) (by omega) (by omega) (by omega)
  exact key x x 0 (Nat.le_refl _) hx (by omega) (by omega)
theorem qc143 {d : Nat} {M : zMem} {x : Nat} (hx : x < 2 ^ 31) : zCi d 143 [.inl (x : Int)] M (fun v M' => v = (zlow x : Int) ∧ M' = M) := by
  refine zk143 (zv143_0 _ ?_)
  have key : ∀ (n k : Nat), k + n = 31 → zlw x n k = zlow x → zBg d 143 2 [zI (x : Int), zI (k : Int)] [] M (fun r M' => ∃ v : Int, r = some (.inl v) ∧ v = (zlow x : Int) ∧ M' = M) := by
    intro n
    induction n with
    | zero =>
      intro k h1 h2
      refine zv143_2 _ _ ⟨fun _ => ⟨_, rfl, ?_, rfl⟩, fun h => absurd (by omega) h⟩
      simp only [zlw] at h2
      omega
    | succ n ih =>
      intro k h1 h2
      refine zv143_2 _ _ ⟨fun h => by omega, fun _ => ⟨fun h => ?_, fun h => ?_⟩⟩
      · rw [Ne, zb_bit0 hx (by omega)] at h
        simp only [zlw] at h2
        rw [if_pos (by cases hh : x.testBit k <;> simp_all)] at h2
        exact ⟨_, rfl, by omega, rfl⟩
      · rw [Ne, zb_bit0 hx (by omega), Decidable.not_not] at h
        simp only [zlw] at h2
        rw [if_neg (by rw [h]; decide)] at h2
        exact ⟨⟨by omega, by omega⟩, ih (k + 1) (by omega) h2⟩
  exact key 31 0 rfl rfl
theorem qc182 {d : Nat} {M : zMem} {a n : Nat} {x : Int} (ha : zSHL[a]? = some (.inl (0, n))) (hn : n < 2000) : zCv d 182 [.inr (.inr a), .inl x] M (fun M' => (∀ k, k ≠ a → M' k = M k) ∧ ∀ i, i < n → M' a i = x) := by
  refine zk182 (zv182_0 _ _ ?_)
  rw [zb_ln ha]
  have key : ∀ (m p : Nat) (M1 : zMem), p + m = n → (∀ k, k ≠ a → M1 k = M k) → (∀ i, i < p → M1 a i = x) → zBg d 182 5 [zR a, zI x, zI (p : Int), zI (n : Int)] [] M1 (fun r M' => r = none ∧ (∀ k, k ≠ a → M' k = M k) ∧ ∀ i, i < n → M' a i = x) := by
    intro m
    induction m with
    | zero =>
      intro p M1 h1 h2 h3
      exact zv182_5 _ _ _ _ ⟨fun _ => ⟨rfl, h2, fun i hi => h3 i (by omega)⟩, fun h => absurd (by omega) h⟩
    | succ m ih =>
      intro p M1 h1 h2 h3
      refine zv182_5 _ _ _ _ ⟨fun h => by omega, fun _ => ?_⟩
      rw [zb_ar ha]
      refine ⟨by omega, by omega, ⟨by omega, by omega⟩, ?_⟩
      refine ih (p + 1) _ (by omega) (fun k hk => by rw [zb_uk hk]; exact h2 k hk) (fun i hi => ?_)
      rw [Int.toNat_natCast]
      by_cases h : i = p
      · subst h; exact zb_us
      · rw [zb_ui h]; exact h3 i (by omega)
  exact key n 0 M (by omega) (fun _ _ => rfl) (fun i hi => by omega)
theorem qc181 {d : Nat} {M : zMem} {a n : Nat} {x : Int} (ha : zSHL[a]? = some (.inl (2, n))) (hn : n < 2000) : zCv d 181 [.inr (.inr a), .inr (.inl x)] M (fun M' => (∀ k, k ≠ a → M' k = M k) ∧ ∀ i, i < n → M' a i = x) := by
  refine zk181 (zv181_0 _ _ ?_)
  rw [zb_ln ha]
  have key : ∀ (m p : Nat) (M1 : zMem), p + m = n → (∀ k, k ≠ a → M1 k = M k) → (∀ i, i < p → M1 a i = x) → zBg d 181 6 [zR a, zL x, none, zI (p : Int), zI (n : Int)] [] M1 (fun r M' => r = none ∧ (∀ k, k ≠ a → M' k = M k) ∧ ∀ i, i < n → M' a i = x) := by
    intro m
    induction m with
    | zero =>
      intro p M1 h1 h2 h3
      exact zv181_6 _ _ _ _ ⟨fun _ => ⟨rfl, h2, fun i hi => h3 i (by omega)⟩, fun h => absurd (by omega) h⟩
    | succ m ih =>
      intro p M1 h1 h2 h3
      refine zv181_6 _ _ _ _ ⟨fun h => by omega, fun _ => ?_⟩
      rw [zb_ar ha]
      refine ⟨by omega, by omega, ⟨by omega, by omega⟩, ?_⟩
      refine ih (p + 1) _ (by omega) (fun k hk => by rw [zb_uk hk]; exact h2 k hk) (fun i hi => ?_)
      rw [Int.toNat_natCast]
      by_cases h : i = p
      · subst h; exact zb_us
      · rw [zb_ui h]; exact h3 i (by omega)
  exact key n 0 M (by omega) (fun _ _ => rfl) (fun i hi => by omega)
