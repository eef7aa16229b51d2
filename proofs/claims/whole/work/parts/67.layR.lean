/-! the letter as the reference lays it -/
def zlyF (M M' : zMem) : Prop := (∀ j, j ≠ 2 → j ≠ 4 → M' 55 j = M 55 j) ∧ ∀ k, k ≠ 55 → ¬ (57 ≤ k ∧ k ≤ 62) → M' k = M k
theorem qc113 {d : Nat} {M : zMem} {t : Nat → Nat} {n pl : Nat} {ch st en : Nat → Nat} (hn : n ≤ 120) (htn : M 55 1 = n) (ht : ∀ i, i < n → M 56 i = t i) (hL : zLay t n pl ch st en n 0 0 0 0) : zCv d 113 [.inr (.inr 55)] M (fun M' => M' 55 2 = n ∧ M' 55 4 = pl ∧ (∀ i, i < n → M' 57 i = t i) ∧ (∀ p, p < pl → M' 60 p = ch p ∧ M' 59 p = en (4 * p + (ch p - 1))) ∧ zSet (M' 61) (M' 62) ch st en pl 0 ∧ zlyF M M') := by
  refine zk113 (zv113_0 ?_)
  have key : ∀ (m i k b w : Nat) (M2 : zMem), i + m = n → zLay t n pl ch st en m i k b w → (b ≠ 0 → 1 ≤ k ∧ M2 60 (k - 1) = b) → k ≤ 6 → b ≤ 4 → M2 55 2 = n → M2 55 4 = ((if b = 0 then k else k - 1 : Nat) : Int) → (∀ j, j < i → M2 57 j = t j) → (∀ p, (b = 0 → p < k) → (b ≠ 0 → p + 1 < k) → M2 60 p = ch p ∧ M2 59 p = en (4 * p + (ch p - 1))) → zSet (M2 61) (M2 62) ch st en k b → zlyF M M2 →
      zBg d 113 15 [zR 55, zI (i : Int), none] [] M2 (fun q M' => q = none ∧ M' 55 2 = n ∧ M' 55 4 = pl ∧ (∀ i, i < n → M' 57 i = t i) ∧ (∀ p, p < pl → M' 60 p = ch p ∧ M' 59 p = en (4 * p + (ch p - 1))) ∧ zSet (M' 61) (M' 62) ch st en pl 0 ∧ zlyF M M') := by
    intro m
    induction m with
    | zero =>
      intro i k b w M2 hi hl hx h6 h4 f2 f4 e57 e60 eS eF
      obtain ⟨rfl, rfl, hn0⟩ := hl
      rw [if_pos rfl] at f4
      have : i = n := by omega
      subst this
      refine zv113_15 _ ?_
      rw [eF.1 1 (by decide) (by decide), htn]
      exact ⟨fun _ => ⟨rfl, f2, f4, e57, fun p hp => e60 p (fun _ => hp) (fun g => absurd rfl g), eS, eF⟩, fun g => absurd (by omega) g⟩
    | succ m ih =>
      intro i k b w M2 hi hl hx h6 h4 f2 f4 e57 e60 eS eF
      obtain ⟨l1, l2, l3, l4, l5⟩ := hl
      refine zv113_15 _ ?_
      rw [eF.1 1 (by decide) (by decide), htn, Int.toNat_natCast, eF.2 56 (by decide) (by decide), ht i (by omega), f4]
      have h57 : ∀ (M3 : zMem), M3 57 = (fun j => if j = i then (t i : Int) else M2 57 j) → ∀ j, j < i + 1 → M3 57 j = t j := by
        intro M3 h3 j hj
        rw [h3]
        by_cases hji : j = i
        · subst hji; simp
        · simp only [if_neg hji]
          exact e57 j (by omega)
      refine ⟨fun g => by omega, fun _ => ⟨by omega, by omega, by omega, by omega, by omega, by omega, fun c1 => ⟨by omega, by omega, fun c2 => ?_, fun c2 => ⟨by omega, by omega, fun c3 => ⟨⟨by omega, by omega⟩, ?_⟩, fun c3 => ?_⟩⟩, fun c1 => ?_⟩⟩
      · -- slash
        obtain ⟨b1, b4, g1, g2, g3⟩ := l2 (by omega)
        obtain ⟨k1, hx3⟩ := hx (by omega)
        rw [if_neg (by omega)] at f4 ⊢
        rw [Int.toNat_natCast, hx3]
        refine ⟨⟨by omega, by omega⟩, by omega, by omega, ⟨by omega, by omega⟩, ⟨by omega, by omega⟩, by omega, by omega, by omega, by omega, fun g => absurd c2 g, fun _ => ⟨⟨by omega, by omega⟩, by omega, by omega, by omega, by omega, ⟨by omega, by omega⟩, by omega, by omega, ⟨by omega, by omega⟩, ?_⟩⟩
        rw [show (4 * ((k - 1 : Nat) : Int) + (b : Int) - 1).toNat = 4 * (k - 1) + (b - 1) by omega, show (4 * ((k - 1 : Nat) : Int) + (b : Int)).toNat = 4 * (k - 1) + b by omega]
        refine ih (i + 1) k (b + 1) 0 _ (by omega) g3 (fun _ => ⟨k1, by rw [zb_us]; omega⟩) h6 (by omega) ?_ ?_ (h57 _ ?_) ?_ ?_ ⟨?_, ?_⟩
        · rw [zb_uk (by decide), zb_uk (by decide), zb_uk (by decide), zb_uk (by decide)]; exact f2
        · rw [zb_uk (by decide), zb_uk (by decide), zb_uk (by decide), zb_uk (by decide), if_neg (by omega)]; exact f4
        · rw [zb_uk (by decide), zb_uk (by decide), zb_uk (by decide)]; funext j; simp [zup]
        · intro p _ hp
          have hp2 := hp (by omega)
          rw [zb_ui (by omega), zb_uk (by decide), zb_uk (by decide), zb_uk (by decide), zb_uk (by decide), zb_uk (by decide), zb_uk (by decide), zb_uk (by decide)]
          exact e60 p (fun _ => by omega) (fun _ => hp2)
        · rw [zb_uk (k' := 61) (k := 60) (by decide), zb_uk (k' := 62) (k := 60) (by decide), zb_uk (k' := 62) (k := 61) (by decide)]
          refine zSet_slash eS k1 b1 ?_ ?_ ?_ ?_
          · rw [zb_us, g2]; omega
          · intro j hj
            rw [zb_ui hj, zb_uk (by decide), zb_uk (by decide)]
          · rw [zb_us, g1]
          · intro j hj
            rw [zb_ui hj, zb_uk (by decide)]
        · intro j g1 g2
          rw [zb_uk (by decide), zb_uk (by decide), zb_uk (by decide), zb_uk (by decide)]; exact eF.1 j g1 g2
        · intro q g1 g2
          rw [zb_uk (by omega), zb_uk (by omega), zb_uk (by omega), zb_uk (by omega)]; exact eF.2 q g1 g2
      · -- plain
        by_cases h0 : b = 0
        · have hl := l4 (by omega) (by omega) (by omega) h0
          subst h0
          refine ih (i + 1) k 0 0 _ (by omega) hl (fun g => absurd rfl g) h6 (by omega) ?_ ?_ (h57 _ ?_) ?_ ?_ ⟨?_, ?_⟩
          · rw [zb_uk (by decide)]; exact f2
          · rw [zb_uk (by decide)]; exact f4
          · funext j; simp [zup]
          · rw [zb_uk (by decide), zb_uk (by decide)]; exact e60
          · rw [zb_uk (by decide), zb_uk (by decide)]; exact eS
          · rw [zb_uk (by decide)]; exact eF.1
          · intro q g1 g2
            rw [zb_uk (by omega)]; exact eF.2 q g1 g2
        · have hl := (l5 (by omega) (by omega) (by omega) h0).2
          refine ih (i + 1) k b (w + 1) _ (by omega) hl ?_ h6 h4 ?_ ?_ (h57 _ ?_) ?_ ?_ ⟨?_, ?_⟩
          · rw [zb_uk (by decide)]; exact hx
          · rw [zb_uk (by decide)]; exact f2
          · rw [zb_uk (by decide)]; exact f4
          · funext j; simp [zup]
          · rw [zb_uk (by decide), zb_uk (by decide)]; exact e60
          · rw [zb_uk (by decide), zb_uk (by decide)]; exact eS
          · rw [zb_uk (by decide)]; exact eF.1
          · intro q g1 g2
            rw [zb_uk (by omega)]; exact eF.2 q g1 g2
      · -- close
        obtain ⟨b2, g1, g2, g3⟩ := l3 (by omega)
        obtain ⟨k1, hx3⟩ := hx (by omega)
        rw [if_neg (by omega)] at f4 ⊢
        rw [Int.toNat_natCast, hx3]
        refine ⟨⟨by omega, by omega⟩, by omega, by omega, ⟨by omega, by omega⟩, ⟨by omega, by omega⟩, by omega, by omega, by omega, by omega, fun _ => ⟨by omega, by omega, ⟨by omega, by omega⟩, ⟨by omega, by omega⟩, ?_⟩, fun g => by omega⟩
        rw [show (4 * ((k - 1 : Nat) : Int) + (b : Int) - 1).toNat = 4 * (k - 1) + (b - 1) by omega]
        refine ih (i + 1) k 0 0 _ (by omega) g3 (fun g => absurd rfl g) h6 (by omega) ?_ ?_ (h57 _ ?_) ?_ ?_ ⟨?_, ?_⟩
        · rw [zb_ui (by decide), zb_uk (by decide), zb_uk (by decide), zb_uk (by decide)]; exact f2
        · rw [zb_us, if_pos rfl]; omega
        · rw [zb_uk (by decide), zb_uk (by decide), zb_uk (by decide)]; funext j; simp [zup]
        · intro p hp _
          have hp2 := hp rfl
          rw [zb_uk (k' := 60) (by decide), zb_uk (k' := 60) (by decide), zb_uk (k' := 60) (by decide), zb_uk (k' := 60) (by decide), zb_uk (k' := 59) (k := 55) (by decide)]
          by_cases hpk : p = k - 1
          · subst hpk
            rw [zb_us, g2, g1]
            exact ⟨hx3, rfl⟩
          · rw [zb_ui hpk, zb_uk (by decide), zb_uk (by decide)]
            exact e60 p (fun _ => by omega) (fun _ => by omega)
        · rw [zb_uk (k' := 61) (by decide), zb_uk (k' := 61) (by decide), zb_uk (k' := 61) (by decide), zb_uk (k' := 61) (by decide)]
          refine zSet_close eS k1 (by omega) g2 ?_ ?_
          · rw [zb_uk (by decide), zb_uk (by decide), zb_us, g1]
          · intro j hj
            rw [zb_uk (by decide), zb_uk (by decide), zb_ui hj, zb_uk (by decide)]
        · intro j g1 g2
          rw [zb_ui g2, zb_uk (by decide), zb_uk (by decide), zb_uk (by decide)]; exact eF.1 j g1 g2
        · intro q g1 g2
          rw [zb_uk g1, zb_uk (by omega), zb_uk (by omega), zb_uk (by omega)]; exact eF.2 q g1 g2
      · -- open
        obtain ⟨b0, k6, g1, g2⟩ := l1 (by omega)
        subst b0
        rw [if_pos rfl] at f4 ⊢
        refine ⟨by omega, by omega, by omega, by omega, ⟨by omega, by omega⟩, ⟨by omega, by omega⟩, by omega, by omega, by omega, by omega, fun c2 => by omega, fun c2 => ⟨by omega, by omega, fun c3 => ⟨⟨by omega, by omega⟩, ?_⟩, fun c3 => by omega⟩⟩
        rw [Int.toNat_natCast, show (4 * (k : Int)).toNat = 4 * k by omega]
        refine ih (i + 1) (k + 1) 1 0 _ (by omega) g2 (fun _ => ⟨by omega, ?_⟩) (by omega) (by omega) ?_ ?_ (h57 _ ?_) ?_ ?_ ⟨?_, ?_⟩
        · rw [zb_uk (by decide), Nat.add_sub_cancel, zb_us]; rfl
        · rw [zb_uk (by decide), zb_uk (by decide), zb_uk (by decide), zb_uk (by decide)]; exact f2
        · rw [zb_uk (by decide), zb_uk (by decide), zb_uk (by decide), zb_uk (by decide), if_neg (by omega)]; exact f4
        · rw [zb_uk (by decide), zb_uk (by decide), zb_uk (by decide)]; funext j; simp [zup]
        · intro p _ hp
          have hp2 := hp (by omega)
          rw [zb_uk (by decide), zb_ui (by omega), zb_uk (by decide), zb_uk (by decide), zb_uk (by decide), zb_uk (by decide), zb_uk (by decide), zb_uk (by decide)]
          exact e60 p (fun _ => by omega) (fun g => absurd rfl g)
        · rw [zb_uk (k' := 62) (by decide), zb_uk (k' := 62) (by decide), zb_uk (k' := 62) (by decide), zb_uk (k' := 62) (by decide)]
          refine zSet_open eS ?_ ?_
          · rw [zb_us, g1]; omega
          · intro j hj
            rw [zb_ui hj, zb_uk (by decide), zb_uk (by decide), zb_uk (by decide)]
        · intro j g1 g2
          rw [zb_uk (by decide), zb_uk (by decide), zb_uk (by decide), zb_uk (by decide)]; exact eF.1 j g1 g2
        · intro q g1 g2
          rw [zb_uk (by omega), zb_uk (by omega), zb_uk (by omega), zb_uk (by omega)]; exact eF.2 q g1 g2
  refine key n 0 0 0 0 _ (by omega) hL (fun g => absurd rfl g) (by omega) (by omega) ?_ ?_ ?_ ?_ ?_ ⟨?_, ?_⟩
  · rw [zb_ui (by decide), zb_us]; exact htn
  · rw [zb_us]; rfl
  · intro j hj; omega
  · intro p hp _
    exact absurd (hp rfl) (by omega)
  · exact ⟨fun p hp _ => absurd (hp rfl) (by omega), fun g => absurd rfl g⟩
  · intro j g1 g2
    rw [zb_ui g2, zb_ui g1]
  · intro k g1 g2
    rw [zb_uk g1, zb_uk g1]
