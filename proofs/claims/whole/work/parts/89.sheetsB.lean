/-! steps: sheet, item, copy -/
theorem zt103 {x1 x2 x3 : Int} : zcse zInv 103 175 [.inl x1, .inl x2, .inl x3] := zcse_sh (fun M hav hS => ⟨_, qc103, by
  rintro r M1 hs
  obtain ⟨s1, s2, s3⟩ := id hS
  rcases hs with ⟨g, gr, rfl⟩ | ⟨g, rfl, e1, e2, e3, e4⟩
  · refine ⟨fun _ _ => rfl, zCt.mono qc175 ?_⟩
    rintro q M2 ⟨r', rfl, hs'⟩
    rcases hs' with ⟨_, gr', rfl⟩ | ⟨g', _⟩
    · refine ⟨r', rfl, ?_, fun _ _ => rfl, hS⟩
      rcases gr with ⟨a, rfl⟩ | ⟨a, rfl⟩
      · rcases gr' with ⟨_, rfl⟩ | ⟨b, _⟩
        · rfl
        · exact absurd a b
      · rcases gr' with ⟨b, _⟩ | ⟨_, rfl⟩
        · exact absurd b a
        · rfl
    · exact absurd g' g
  · refine ⟨fun k hk => e4 k (by omega) (by omega) (by omega), zCt.mono qc175 ?_⟩
    rintro q M2 ⟨r', rfl, hs'⟩
    rcases hs' with ⟨g', _⟩ | ⟨_, rfl, f1, f2, f3, f4⟩
    · exact absurd g g'
    · refine ⟨_, rfl, rfl, fun k hk => f4 k (by omega) (by omega) (by omega), fun s hs => ?_, fun s hs => ?_, fun i hi => ?_⟩
      · rw [f4 33 (by decide) (by decide) (by decide), f4 34 (by decide) (by decide) (by decide), e1, e2]
        have := s1 s hs
        have y1 := g.2.1.1
        have y2 := g.2.1.2
        have y3 := g.2.2.1
        have y4 := g.2.2.2
        split <;> omega
      · rw [f1, f2, f4 33 (by decide) (by decide) (by decide), f4 34 (by decide) (by decide) (by decide), e1, e2, e4 76 (by decide) (by decide) (by decide), e4 77 (by decide) (by decide) (by decide), (s2 s hs).1, (s2 s hs).2]
        exact ⟨rfl, rfl⟩
      · rw [f3, f4 35 (by decide) (by decide) (by decide), e3, e4 78 (by decide) (by decide) (by decide), s3 i hi]⟩)
theorem zsRef_c {L N L' N' : Nat → Int} {x1 x2 x3 x4 r : Int} (hL : ∀ s, s < 4 → L' s = L s ∧ N' s = N s) (h : zsRef L' N' x1 x2 x3 x4 r) : zsRef L N x1 x2 x3 x4 r := by
  by_cases hA : zisC 4 x1
  · have a1 : x1.toNat < 4 := by have := hA.1; have := hA.2; omega
    unfold zsRef zhas at *
    rw [(hL _ a1).1, (hL _ a1).2] at h
    exact h
  · rcases h with h | h | h | h | h
    · exact Or.inl h
    · exact absurd h.1.1 hA
    · exact absurd h.1.1 hA
    · exact absurd h.1.1 hA
    · exact absurd h.1.1 hA
theorem zsRef_u {L N : Nat → Int} {x1 x2 x3 x4 a b : Int} (h : zsRef L N x1 x2 x3 x4 a) (h' : zsRef L N x1 x2 x3 x4 b) : b = a := by
  unfold zsRef zhas at h h'
  by_cases hA : zisC 4 x1 ∧ zisC 3 x2
  · have y1 := hA.2.1
    simp only [hA, and_self, not_true_eq_false, false_and, true_and, false_or] at h h'
    omega
  · simp only [hA, not_false_eq_true, false_and, true_and, or_false] at h h'
    omega
theorem zsRef_in {L N : Nat → Int} {x1 x2 x3 x4 a : Int} (h : zsRef L N x1 x2 x3 x4 a) (ha : 0 ≤ a) : zisC 4 x1 ∧ 0 ≤ x3 ∧ 0 ≤ x4 ∧ x3 + x4 ≤ N x1.toNat := by
  rcases h with h | h | h | h | h
  · have := h.2; omega
  · have := h.2.2; omega
  · have := h.2.2.2; omega
  · have := h.2.2.2; omega
  · exact ⟨h.1.1, h.2.2.1⟩
theorem zt105 {x1 x2 x3 x4 : Int} : zcse zInv 105 177 [.inl x1, .inl x2, .inl x3, .inl x4] := zcse_sh (fun M hav hS => ⟨_, qc105 hS.1, by
  rintro r M1 hs
  obtain ⟨s1, s2, s3⟩ := id hS
  have fr : ∀ k, ¬ (33 ≤ k ∧ k ≤ 35) → M1 k = M k := by
    intro k hk
    rcases hs with ⟨_, _, _, _, rfl⟩ | ⟨_, _, _, _, rfl⟩
    · rfl
    · rw [zb_uk (by omega)]
  have hok : zShOk (M1 76) (M1 77) := by
    rw [fr 76 (by decide), fr 77 (by decide)]
    exact zShs_R hS
  have hL : ∀ s, s < 4 → M1 76 s = M 33 s ∧ M1 77 s = M 34 s := fun s hs => by
    rw [fr 76 (by decide), fr 77 (by decide)]
    exact s2 s hs
  refine ⟨fr, zCt.mono (qc177 hok (hav (.inl x3) (by simp))) ?_⟩
  rintro q M2 ⟨r', rfl, hs'⟩
  rcases hs with ⟨v, g, gv, rfl, rfl⟩ | ⟨v, g, gv, rfl, rfl⟩
  · rcases hs' with ⟨v', g', gv', rfl, rfl⟩ | ⟨v', g', gv', _⟩
    · exact ⟨_, rfl, zsRef_u g (zsRef_c hL g'), fun _ _ => rfl, hS⟩
    · have := zsRef_u g (zsRef_c hL g'); omega
  · rcases hs' with ⟨v', g', gv', _⟩ | ⟨v', g', gv', rfl, rfl⟩
    · have := zsRef_u g (zsRef_c hL g'); omega
    · refine ⟨_, rfl, rfl, fun k hk => by rw [zb_uk (by omega)], ?_⟩
      generalize 12 * x1.toNat + x3.toNat = j
      generalize znar x2 x4 = w
      have e : ∀ k, k ≠ 35 → k ≠ 78 → zup (zup M 35 j w) 78 j w k = M k := fun k k1 k2 => by rw [zb_uk k2, zb_uk k1]
      refine ⟨?_, ?_, fun i hi => ?_⟩
      · rw [e 33 (by decide) (by decide), e 34 (by decide) (by decide)]
        exact s1
      · rw [e 33 (by decide) (by decide), e 34 (by decide) (by decide), e 76 (by decide) (by decide), e 77 (by decide) (by decide)]
        exact s2
      · simp [zup, s3 i hi]⟩)
theorem zt106 {x1 x2 x3 x4 x5 : Int} : zcse zInv 106 178 [.inl x1, .inl x2, .inl x3, .inl x4, .inl x5] := zcse_sh (fun M hav hS => ⟨_, qc106 hS.1, by
  rintro r M1 hs
  obtain ⟨s1, s2, s3⟩ := id hS
  have fr : ∀ k, ¬ (33 ≤ k ∧ k ≤ 35) → M1 k = M k := by
    intro k hk
    rcases hs with ⟨_, rfl⟩ | ⟨_, _, _, _, _, _, e⟩
    · rfl
    · exact e k (by omega) (by omega)
  have hok : zShOk (M1 76) (M1 77) := by
    rw [fr 76 (by decide), fr 77 (by decide)]
    exact zShs_R hS
  have hL : ∀ s, s < 4 → M1 76 s = M 33 s ∧ M1 77 s = M 34 s := fun s hs => by
    rw [fr 76 (by decide), fr 77 (by decide)]
    exact s2 s hs
  refine ⟨fr, zCt.mono (qc178 hok (hav (.inl x2) (by simp)) (hav (.inl x4) (by simp)) (hav (.inl x5) (by simp))) ?_⟩
  rintro q M2 ⟨r', rfl, hs'⟩
  by_cases hA : zisC 4 x1 ∧ zisC 4 x3
  · have p1 := hA.1.1
    have p2 := hA.1.2
    have p3 := hA.2.1
    have p4 := hA.2.2
    have a1 : x1.toNat < 4 := by omega
    have a3 : x3.toNat < 4 := by omega
    have n1 := (s1 _ a1).2.2.2
    have n3 := (s1 _ a3).2.2.2
    unfold zsCopy zhas at hs hs'
    simp only [(hL _ a1).1, (hL _ a1).2, (hL _ a3).1, (hL _ a3).2] at hs'
    simp only [hA, and_self, not_true_eq_false, false_and, true_and, false_or] at hs hs'
    rcases hs with ⟨c, rfl⟩ | ⟨c1, c2, c3, rfl, e1, e2⟩
    · rcases hs' with ⟨c', rfl⟩ | ⟨c1', c2', c3', rfl, f1, f2⟩
      · exact ⟨r', rfl, by omega, fun _ _ => rfl, hS⟩
      · omega
    · rcases hs' with ⟨c', rfl⟩ | ⟨c1', c2', c3', rfl, f1, f2⟩
      · omega
      · refine ⟨_, rfl, rfl, fun k hk => f2 k (by omega) (by omega), ?_, ?_, fun i hi => ?_⟩
        · rw [f2 33 (by decide) (by decide), f2 34 (by decide) (by decide), e2 33 (by decide) (by decide), e2 34 (by decide) (by decide)]
          exact s1
        · rw [f2 33 (by decide) (by decide), f2 34 (by decide) (by decide), f2 76 (by decide) (by decide), f2 77 (by decide) (by decide), fr 76 (by decide), fr 77 (by decide), e2 33 (by decide) (by decide), e2 34 (by decide) (by decide)]
          exact s2
        · rw [f1, f2 35 (by decide) (by decide), e1, fr 78 (by decide)]
          split
          · exact s3 _ (by omega)
          · exact s3 i hi
  · unfold zsCopy at hs hs'
    simp only [hA, not_false_eq_true, false_and, true_and, or_false] at hs hs'
    obtain ⟨rfl, rfl⟩ := hs
    obtain ⟨rfl, rfl⟩ := hs'
    exact ⟨_, rfl, rfl, fun _ _ => rfl, hS⟩⟩)
