/-! steps of the sheets -/
theorem zcse_sh {mc mm : Nat} {av : List zV} (h : ∀ M, (∀ v ∈ av, zrg v) → zShs M → ∃ P : Int → zMem → Prop, zCi 20 mc (.inr (.inr 0) :: av) M P ∧ ∀ r M1, P r M1 → (∀ k, ¬ (33 ≤ k ∧ k ≤ 35) → M1 k = M k) ∧ zCi 20 mm (.inr (.inr 55) :: av) M1 (fun r' M2 => r' = r ∧ (∀ k, ¬ (76 ≤ k ∧ k ≤ 79) → M2 k = M1 k) ∧ zShs M2)) : zcse zInv mc mm av := by
  intro M hM hav hI
  obtain ⟨P, h1, h2⟩ := h M hav hI.2.2.2
  refine zCt.mono h1 ?_
  rintro q M1 ⟨r, rfl, hp⟩
  obtain ⟨hg, h3⟩ := h2 r M1 hp
  refine ⟨r, rfl, fun _ => zCt.mono h3 ?_⟩
  rintro q M2 ⟨r', rfl, hr, hf, hS⟩
  have e : ∀ k, ¬ (33 ≤ k ∧ k ≤ 35) → ¬ (76 ≤ k ∧ k ≤ 79) → M2 k = M k := fun k k1 k2 => by rw [hf k k2, hg k k1]
  exact ⟨r', rfl, hr, zCur_fr hI.1 (fun k k1 k2 _ => e k (by omega) (by omega)) (fun j _ => by rw [e 55 (by decide) (by decide)]) (fun k k1 k2 => e k (by omega) (by omega)), zKep_fr hI.2.1 (by rw [e 0 (by decide) (by decide)]) (by rw [e 55 (by decide) (by decide)]) (fun k k1 k2 _ => e k (by omega) (by omega)) (e 75 (by decide) (by decide)), zTap_fr hI.2.2.1 (by rw [e 2 (by decide) (by decide)]) (e 3 (by decide) (by decide)) (by rw [e 55 (by decide) (by decide)]) (e 56 (by decide) (by decide)), hS⟩
theorem zShs_R {M : zMem} (h : zShs M) : zShOk (M 76) (M 77) := fun s hs => by
  rw [(h.2.1 s hs).1, (h.2.1 s hs).2]
  exact h.1 s hs
theorem zt104 {x : Int} : zcse zInv 104 176 [.inl x] := zcse_sh (fun M hav hS => ⟨_, qc104, by
  rintro r M1 hs
  obtain ⟨s1, s2, s3⟩ := id hS
  have fr : ∀ k, ¬ (33 ≤ k ∧ k ≤ 35) → M1 k = M k := by
    intro k hk
    rcases hs with ⟨_, _, rfl⟩ | ⟨_, _, _, rfl⟩ | ⟨_, _, _, rfl⟩
    · rfl
    · rfl
    · rw [zb_uk (by omega)]
  have hok : zShOk (M1 76) (M1 77) := by
    rw [fr 76 (by decide), fr 77 (by decide)]
    exact zShs_R hS
  refine ⟨fr, zCt.mono (qc176 hok) ?_⟩
  rintro q M2 ⟨r', rfl, hs'⟩
  unfold zsDrop at hs'
  rw [fr 76 (by decide), fr 77 (by decide)] at hs'
  rcases hs with ⟨g, rfl, rfl⟩ | ⟨g, g2, rfl, rfl⟩ | ⟨g, g2, rfl, rfl⟩
  · rcases hs' with ⟨_, rfl, rfl⟩ | ⟨g', _⟩ | ⟨g', _⟩
    · exact ⟨_, rfl, rfl, fun _ _ => rfl, hS⟩
    · exact absurd g' g
    · exact absurd g' g
  · have hx : x.toNat < 4 := by have := g.1; have := g.2; omega
    rcases hs' with ⟨g', _⟩ | ⟨_, _, rfl, rfl⟩ | ⟨_, g3, _⟩
    · exact absurd g g'
    · exact ⟨_, rfl, rfl, fun _ _ => rfl, hS⟩
    · rw [(s2 _ hx).1] at g3; exact absurd g2 g3
  · have hx : x.toNat < 4 := by have := g.1; have := g.2; omega
    rcases hs' with ⟨g', _⟩ | ⟨_, g3, _⟩ | ⟨_, g3, rfl, rfl⟩
    · exact absurd g g'
    · rw [(s2 _ hx).1] at g3; exact absurd g3 g2
    · refine ⟨_, rfl, (s2 _ hx).2, fun k hk => by rw [zb_uk (by omega)], ?_⟩
      have e33 : ∀ s, zup (zup M 33 x.toNat (-1)) 76 x.toNat (-1) 33 s = if s = x.toNat then -1 else M 33 s := by
        intro s
        rw [zb_uk (by decide)]
        simp [zup]
      have e76 : ∀ s, zup (zup M 33 x.toNat (-1)) 76 x.toNat (-1) 76 s = if s = x.toNat then -1 else M 76 s := by
        intro s
        simp [zup]
      have e34 : ∀ k, k ≠ 33 → k ≠ 76 → zup (zup M 33 x.toNat (-1)) 76 x.toNat (-1) k = M k := fun k k1 k2 => by rw [zb_uk k2, zb_uk k1]
      refine ⟨fun s hs => ?_, fun s hs => ?_, ?_⟩
      · rw [e33, e34 34 (by decide) (by decide)]
        have := s1 s hs
        split <;> omega
      · rw [e33, e76, e34 34 (by decide) (by decide), e34 77 (by decide) (by decide), (s2 s hs).1]
        exact ⟨rfl, (s2 s hs).2⟩
      · rw [e34 78 (by decide) (by decide), e34 35 (by decide) (by decide)]
        exact s3⟩)
