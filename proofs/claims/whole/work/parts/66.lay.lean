/-! how the letter is laid: from byte i on, k places opened, b choices of the open one, w bytes of the choice -/
def zLay (t : Nat → Nat) (n pl : Nat) (ch st en : Nat → Nat) : Nat → Nat → Nat → Nat → Nat → Prop
  | 0, _, k, b, _ => b = 0 ∧ pl = k ∧ n ≠ 0
  | m + 1, i, k, b, w =>
    (t i = 91 → b = 0 ∧ k < 6 ∧ st (4 * k) = i + 1 ∧ zLay t n pl ch st en m (i + 1) (k + 1) 1 0) ∧
    (t i = 47 → 1 ≤ b ∧ b < 4 ∧ en (4 * (k - 1) + (b - 1)) = i ∧ st (4 * (k - 1) + b) = i + 1 ∧ zLay t n pl ch st en m (i + 1) k (b + 1) 0) ∧
    (t i = 93 → 2 ≤ b ∧ en (4 * (k - 1) + (b - 1)) = i ∧ ch (k - 1) = b ∧ zLay t n pl ch st en m (i + 1) k 0 0) ∧
    (t i ≠ 91 → t i ≠ 47 → t i ≠ 93 → b = 0 → zLay t n pl ch st en m (i + 1) k 0 0) ∧
    (t i ≠ 91 → t i ≠ 47 → t i ≠ 93 → b ≠ 0 → w < 8 ∧ zLay t n pl ch st en m (i + 1) k b (w + 1))
theorem zlay_ex {t : Nat → Nat} {n : Nat} : ∀ (m i k b w : Nat) (ch0 st0 en0 : Nat → Nat), zfl t n m i k b w < 0 → b ≤ 4 → (b ≠ 0 → 1 ≤ k) → k ≤ 6 → w ≤ 8 →
    ∃ pl ch st en, zLay t n pl ch st en m i k b w ∧ (∀ j, (b = 0 → j < 4 * k) → (b ≠ 0 → j < 4 * (k - 1) + b) → st j = st0 j) ∧ (∀ j, (b = 0 → j < 4 * k) → (b ≠ 0 → j + 1 < 4 * (k - 1) + b) → en j = en0 j) ∧ (∀ j, (b = 0 → j < k) → (b ≠ 0 → j + 1 < k) → ch j = ch0 j) := by
  intro m
  induction m with
  | zero =>
    intro i k b w ch0 st0 en0 hz hb hk h6 hw
    unfold zfl at hz
    by_cases h : b ≠ 0 ∨ n = 0
    · rw [if_pos h] at hz; omega
    · exact ⟨k, ch0, st0, en0, ⟨by omega, rfl, by omega⟩, fun _ _ _ => rfl, fun _ _ _ => rfl, fun _ _ _ => rfl⟩
  | succ m ih =>
    intro i k b w ch0 st0 en0 hz hb hk h6 hw
    unfold zfl at hz
    by_cases c1 : t i = 91
    · rw [if_pos c1] at hz
      by_cases h : b ≠ 0 ∨ k = 6
      · rw [if_pos h] at hz; omega
      rw [if_neg h] at hz
      obtain ⟨pl, ch, st, en, g1, g2, g3, g4⟩ := ih (i + 1) (k + 1) 1 0 ch0 (fun j => if j = 4 * k then i + 1 else st0 j) en0 hz (by omega) (fun _ => by omega) (by omega) (by omega)
      refine ⟨pl, ch, st, en, ⟨fun _ => ⟨by omega, ?_, ?_, g1⟩, fun h => by omega, fun h => by omega, fun h => by omega, fun h => by omega⟩, fun j a1 a2 => ?_, fun j a1 a2 => ?_, fun j a1 a2 => ?_⟩
      · omega
      · rw [g2 _ (by omega) (by omega), if_pos rfl]
      · rw [g2 _ (by omega) (by omega), if_neg (by omega)]
      · exact g3 j (by omega) (by omega)
      · exact g4 j (by omega) (by omega)
    · rw [if_neg c1] at hz
      by_cases c2 : t i = 47
      · rw [if_pos c2] at hz
        by_cases h : b = 0 ∨ b = 4
        · rw [if_pos h] at hz; omega
        rw [if_neg h] at hz
        obtain ⟨pl, ch, st, en, g1, g2, g3, g4⟩ := ih (i + 1) k (b + 1) 0 ch0 (fun j => if j = 4 * (k - 1) + b then i + 1 else st0 j) (fun j => if j = 4 * (k - 1) + (b - 1) then i else en0 j) hz (by omega) (fun _ => by omega) (by omega) (by omega)
        refine ⟨pl, ch, st, en, ⟨fun h => by omega, fun _ => ⟨by omega, by omega, ?_, ?_, g1⟩, fun h => by omega, fun _ h => by omega, fun _ h => by omega⟩, fun j a1 a2 => ?_, fun j a1 a2 => ?_, fun j a1 a2 => ?_⟩
        · rw [g3 _ (by omega) (by omega), if_pos rfl]
        · rw [g2 _ (by omega) (by omega), if_pos rfl]
        · rw [g2 _ (by omega) (by omega), if_neg (by omega)]
        · rw [g3 _ (by omega) (by omega), if_neg (by omega)]
        · exact g4 j (by omega) (by omega)
      · rw [if_neg c2] at hz
        by_cases c3 : t i = 93
        · rw [if_pos c3] at hz
          by_cases h : b < 2
          · rw [if_pos h] at hz; omega
          rw [if_neg h] at hz
          obtain ⟨pl, ch, st, en, g1, g2, g3, g4⟩ := ih (i + 1) k 0 0 (fun j => if j = k - 1 then b else ch0 j) st0 (fun j => if j = 4 * (k - 1) + (b - 1) then i else en0 j) hz (by omega) (fun h => absurd rfl h) (by omega) (by omega)
          refine ⟨pl, ch, st, en, ⟨fun h => by omega, fun h => by omega, fun _ => ⟨by omega, ?_, ?_, g1⟩, fun _ _ h => by omega, fun _ _ h => by omega⟩, fun j a1 a2 => ?_, fun j a1 a2 => ?_, fun j a1 a2 => ?_⟩
          · rw [g3 _ (by omega) (by omega), if_pos rfl]
          · rw [g4 _ (by omega) (by omega), if_pos rfl]
          · exact g2 j (by omega) (by omega)
          · rw [g3 _ (by omega) (by omega), if_neg (by omega)]
          · rw [g4 _ (by omega) (by omega), if_neg (by omega)]
        · rw [if_neg c3] at hz
          by_cases h0 : b = 0
          · rw [if_pos h0] at hz
            subst h0
            obtain ⟨pl, ch, st, en, g1, g2, g3, g4⟩ := ih (i + 1) k 0 0 ch0 st0 en0 hz (by omega) (fun h => absurd rfl h) (by omega) (by omega)
            exact ⟨pl, ch, st, en, ⟨fun h => by omega, fun h => by omega, fun h => by omega, fun _ _ _ _ => g1, fun _ _ _ h => absurd rfl h⟩, g2, g3, g4⟩
          · rw [if_neg h0] at hz
            by_cases h8 : w = 8
            · rw [if_pos h8] at hz; omega
            rw [if_neg h8] at hz
            obtain ⟨pl, ch, st, en, g1, g2, g3, g4⟩ := ih (i + 1) k b (w + 1) ch0 st0 en0 hz hb hk h6 (by omega)
            refine ⟨pl, ch, st, en, ⟨fun h => by omega, fun h => by omega, fun h => by omega, fun _ _ _ h => absurd h h0, fun _ _ _ _ => ⟨?_, g1⟩⟩, g2, g3, g4⟩
            omega
/-- what stands of starts and ends once so much is read -/
def zSet (S E : Nat → Int) (ch st en : Nat → Nat) (k b : Nat) : Prop := (∀ p, (b = 0 → p < k) → (b ≠ 0 → p + 1 < k) → ∀ c, c < ch p → c < 4 → S (4 * p + c) = st (4 * p + c) ∧ E (4 * p + c) = en (4 * p + c)) ∧ (b ≠ 0 → (∀ c, c < b → S (4 * (k - 1) + c) = st (4 * (k - 1) + c)) ∧ ∀ c, c + 1 < b → E (4 * (k - 1) + c) = en (4 * (k - 1) + c))
theorem zSet_open {S S' E : Nat → Int} {ch st en : Nat → Nat} {k : Nat} (h : zSet S E ch st en k 0) (h1 : S' (4 * k) = st (4 * k)) (h2 : ∀ j, j ≠ 4 * k → S' j = S j) : zSet S' E ch st en (k + 1) 1 := by
  refine ⟨fun p _ a2 c hc h4 => ?_, fun _ => ⟨fun c hc => ?_, fun c hc => by omega⟩⟩
  · rw [h2 _ (by omega)]
    exact h.1 p (by omega) (by omega) c hc h4
  · have : c = 0 := by omega
    subst this
    exact h1
theorem zSet_slash {S S' E E' : Nat → Int} {ch st en : Nat → Nat} {k b : Nat} (h : zSet S E ch st en k b) (hk : 1 ≤ k) (hb : 1 ≤ b) (h1 : S' (4 * (k - 1) + b) = st (4 * (k - 1) + b)) (h2 : ∀ j, j ≠ 4 * (k - 1) + b → S' j = S j) (h3 : E' (4 * (k - 1) + (b - 1)) = en (4 * (k - 1) + (b - 1))) (h4 : ∀ j, j ≠ 4 * (k - 1) + (b - 1) → E' j = E j) : zSet S' E' ch st en k (b + 1) := by
  have hh := h.2 (by omega)
  refine ⟨fun p _ a2 c hc hc4 => ?_, fun _ => ⟨fun c hc => ?_, fun c hc => ?_⟩⟩
  · rw [h2 _ (by omega), h4 _ (by omega)]
    exact h.1 p (by omega) (by omega) c hc hc4
  · by_cases e : c = b
    · subst e; exact h1
    · rw [h2 _ (by omega)]; exact hh.1 c (by omega)
  · by_cases e : c = b - 1
    · subst e; exact h3
    · rw [h4 _ (by omega)]; exact hh.2 c (by omega)
theorem zSet_close {S E E' : Nat → Int} {ch st en : Nat → Nat} {k b : Nat} (h : zSet S E ch st en k b) (hk : 1 ≤ k) (hb : 1 ≤ b) (hc : ch (k - 1) = b) (h3 : E' (4 * (k - 1) + (b - 1)) = en (4 * (k - 1) + (b - 1))) (h4 : ∀ j, j ≠ 4 * (k - 1) + (b - 1) → E' j = E j) : zSet S E' ch st en k 0 := by
  have hh := h.2 (by omega)
  refine ⟨fun p a1 _ c hcp hc4 => ?_, fun g => absurd rfl g⟩
  by_cases e : p = k - 1
  · subst e
    rw [hc] at hcp
    refine ⟨hh.1 c hcp, ?_⟩
    by_cases e : c = b - 1
    · subst e; exact h3
    · rw [h4 _ (by omega)]; exact hh.2 c (by omega)
  · rw [h4 _ (by omega)]
    exact h.1 p (by omega) (by omega) c hcp hc4
/-- the letter as the class lays it -/
theorem qc32 {d : Nat} {M : zMem} {t : Nat → Nat} {n pl : Nat} {ch st en : Nat → Nat} (hn : n ≤ 120) (ht : ∀ i, i < n → M 3 i = t i) (hL : zLay t n pl ch st en n 0 0 0 0) : zCv d 32 [.inr (.inr 13), .inr (.inr 3), .inl (n : Int)] M (fun M' => M' 13 4 = 1 ∧ M' 13 5 = n ∧ M' 13 6 = pl ∧ (∀ i, i < n → M' 14 i = t i) ∧ (∀ p, p < pl → M' 15 p = ch p) ∧ zSet (M' 16) (M' 17) ch st en pl 0 ∧ ∀ k, ¬ (13 ≤ k ∧ k ≤ 17) → M' k = M k) := by
  refine zk32 (zv32_0 _ ⟨Or.inr rfl, by omega, by omega, by omega, by omega, by omega, ?_⟩)
  have key : ∀ (m i k b w : Nat) (x3 : Int) (M2 : zMem), i + m = n → zLay t n pl ch st en m i k b w → (b ≠ 0 → 1 ≤ k ∧ x3 = 4 * ((k : Int) - 1) + ((b : Int) - 1)) → k ≤ 6 → b ≤ 4 → M2 13 4 = 1 → M2 13 5 = n → M2 13 6 = ((if b = 0 then k else k - 1 : Nat) : Int) → (∀ i, i < n → M2 14 i = t i) → (∀ p, (b = 0 → p < k) → (b ≠ 0 → p + 1 < k) → M2 15 p = ch p) → zSet (M2 16) (M2 17) ch st en k b → (∀ k, ¬ (13 ≤ k ∧ k ≤ 17) → M2 k = M k) →
      zBg d 32 31 [zR 13, zR 3, zI (n : Int), zI x3, zI (i : Int), none] [] M2 (fun q M' => q = none ∧ M' 13 4 = 1 ∧ M' 13 5 = n ∧ M' 13 6 = pl ∧ (∀ i, i < n → M' 14 i = t i) ∧ (∀ p, p < pl → M' 15 p = ch p) ∧ zSet (M' 16) (M' 17) ch st en pl 0 ∧ ∀ k, ¬ (13 ≤ k ∧ k ≤ 17) → M' k = M k) := by
    intro m
    induction m with
    | zero =>
      intro i k b w x3 M2 hi hl hx h6 h4 f4 f5 f6 e14 e15 eS eF
      obtain ⟨rfl, rfl, hn0⟩ := hl
      rw [if_pos rfl] at f6
      exact zv32_31 _ _ _ ⟨fun _ => ⟨rfl, f4, f5, f6, e14, fun p hp => e15 p (fun _ => hp) (fun g => absurd rfl g), eS, eF⟩, fun g => absurd (by omega) g⟩
    | succ m ih =>
      intro i k b w x3 M2 hi hl hx h6 h4 f4 f5 f6 e14 e15 eS eF
      obtain ⟨l1, l2, l3, l4, l5⟩ := hl
      refine zv32_31 _ _ _ ?_
      rw [Int.toNat_natCast, eF 3 (by decide), ht i (by omega), f6]
      refine ⟨fun g => by omega, fun _ => ⟨by omega, by omega, fun c1 => ⟨fun c2 => ⟨fun c3 => ⟨⟨by omega, by omega⟩, ?_⟩, fun c3 => ?_⟩, fun c2 => ?_⟩, fun c1 => ?_⟩⟩
      · by_cases h0 : b = 0
        · have := l4 (by omega) (by omega) (by omega) h0
          subst h0
          exact ih (i + 1) k 0 0 x3 M2 (by omega) this (fun g => absurd rfl g) h6 (by omega) f4 f5 f6 e14 e15 eS eF
        · have := (l5 (by omega) (by omega) (by omega) h0).2
          exact ih (i + 1) k b (w + 1) x3 M2 (by omega) this hx h6 h4 f4 f5 f6 e14 e15 eS eF
      · obtain ⟨b2, g1, g2, g3⟩ := l3 (by omega)
        obtain ⟨k1, hx3⟩ := hx (by omega)
        rw [if_neg (by omega)] at f6 ⊢
        refine ⟨by omega, by omega, ⟨by omega, by omega⟩, ⟨by omega, by omega⟩, ⟨by omega, by omega⟩, by omega, by omega, ⟨by omega, by omega⟩, ⟨by omega, by omega⟩, ?_⟩
        rw [show x3.toNat = 4 * (k - 1) + (b - 1) by omega, Int.toNat_natCast, show x3 - ((k - 1 : Nat) : Int) * 4 + 1 = (b : Int) by omega]
        refine ih (i + 1) k 0 0 x3 _ (by omega) g3 (fun g => absurd rfl g) h6 (by omega) ?_ ?_ ?_ ?_ ?_ ?_ ?_
        · rw [zb_ui (by decide), zb_uk (by decide), zb_uk (by decide)]; exact f4
        · rw [zb_ui (by decide), zb_uk (by decide), zb_uk (by decide)]; exact f5
        · rw [zb_us, if_pos rfl]; omega
        · intro q hq
          rw [zb_uk (by decide), zb_uk (by decide), zb_uk (by decide)]; exact e14 q hq
        · intro p hp _
          rw [zb_uk (by decide)]
          by_cases hpk : p = k - 1
          · subst hpk; rw [zb_us, g2]
          · rw [zb_ui hpk, zb_uk (by decide)]
            exact e15 p (fun _ => by omega) (fun _ => by have := hp rfl; omega)
        · rw [zb_uk (by decide), zb_uk (by decide), zb_uk (by decide)]
          refine zSet_close eS k1 (by omega) g2 ?_ ?_
          · rw [zb_uk (by decide), zb_uk (by decide), zb_us, g1]
          · intro j hj
            rw [zb_uk (by decide), zb_uk (by decide), zb_ui hj]
        · intro q hq
          rw [zb_uk (by omega), zb_uk (by omega), zb_uk (by omega)]; exact eF q hq
      · obtain ⟨b1, b4, g1, g2, g3⟩ := l2 (by omega)
        obtain ⟨k1, hx3⟩ := hx (by omega)
        rw [if_neg (by omega)] at f6
        refine ⟨by omega, by omega, ⟨by omega, by omega⟩, ⟨by omega, by omega⟩, by omega, by omega, ⟨by omega, by omega⟩, ?_⟩
        rw [show x3.toNat = 4 * (k - 1) + (b - 1) by omega, show (x3 + 1).toNat = 4 * (k - 1) + b by omega]
        refine ih (i + 1) k (b + 1) 0 (x3 + 1) _ (by omega) g3 (fun _ => ⟨k1, by omega⟩) h6 (by omega) ?_ ?_ ?_ ?_ ?_ ?_ ?_
        · rw [zb_uk (by decide), zb_uk (by decide)]; exact f4
        · rw [zb_uk (by decide), zb_uk (by decide)]; exact f5
        · rw [zb_uk (by decide), zb_uk (by decide), if_neg (by omega)]; exact f6
        · intro q hq
          rw [zb_uk (by decide), zb_uk (by decide)]; exact e14 q hq
        · intro p _ hp
          rw [zb_uk (by decide), zb_uk (by decide)]
          exact e15 p (fun _ => by omega) (fun _ => hp (by omega))
        · rw [zb_uk (k' := 17) (k := 16) (by decide)]
          refine zSet_slash eS k1 b1 ?_ ?_ ?_ ?_
          · rw [zb_us, g2]; omega
          · intro j hj
            rw [zb_ui hj, zb_uk (by decide)]
          · rw [zb_us, g1]
          · intro j hj
            rw [zb_ui hj]
        · intro q hq
          rw [zb_uk (by omega), zb_uk (by omega)]; exact eF q hq
      · obtain ⟨b0, k6, g1, g2⟩ := l1 (by omega)
        subst b0
        rw [if_pos rfl] at f6 ⊢
        refine ⟨⟨by omega, by omega⟩, ⟨by omega, by omega⟩, by omega, by omega, ⟨by omega, by omega⟩, ?_⟩
        rw [show ((k : Int) * 4).toNat = 4 * k by omega]
        refine ih (i + 1) (k + 1) 1 0 _ _ (by omega) g2 (fun _ => ⟨by omega, by omega⟩) (by omega) (by omega) ?_ ?_ ?_ ?_ ?_ ?_ ?_
        · rw [zb_uk (by decide)]; exact f4
        · rw [zb_uk (by decide)]; exact f5
        · rw [zb_uk (by decide), if_neg (by omega)]; exact f6
        · intro q hq
          rw [zb_uk (by decide)]; exact e14 q hq
        · intro p _ hp
          rw [zb_uk (by decide)]
          exact e15 p (fun _ => by have := hp (by omega); omega) (fun g => absurd rfl g)
        · rw [zb_uk (k' := 17) (by decide)]
          refine zSet_open eS ?_ ?_
          · rw [zb_us, g1]; omega
          · intro j hj
            rw [zb_ui hj]
        · intro q hq
          rw [zb_uk (by omega)]; exact eF q hq
  refine key n 0 0 0 0 0 _ (by omega) hL (fun g => absurd rfl g) (by omega) (by omega) ?_ ?_ ?_ ?_ ?_ ?_ ?_
  · simp [zup, zcpy]
  · simp [zup, zcpy]
  · simp [zup, zcpy]
  · intro i hi
    simp only [zcpy, if_true]
    rw [if_pos (by omega), zb_uk (by decide), zb_uk (by decide), zb_uk (by decide), ← ht i hi]
    congr 1
    omega
  · intro p hp _
    exact absurd (hp rfl) (by omega)
  · exact ⟨fun p hp _ => absurd (hp rfl) (by omega), fun g => absurd rfl g⟩
  · intro k hk
    rw [zb_ck (by omega), zb_uk (by omega), zb_uk (by omega), zb_uk (by omega)]
