/-! steps: burn -/
theorem zQC_ro {C C' : Nat → Nat → Int} {sz pl cp ms hw pn : Nat} {t ch st en co v pm ph : Nat → Nat} {ro pp : Nat → Nat → Nat} {me : Nat → Int} {cp' : Nat} {ro' : Nat → Nat → Nat} (h : zQC C sz pl cp ms hw pn t ch st en co v pm ph ro pp me) (hf : ∀ k, 5 ≤ k → k ≤ 17 → k ≠ 12 → k ≠ 7 → C' k = C k) (h4 : ∀ j, j ≠ 9 → C' 4 j = C 4 j) (h9 : C' 4 9 = cp') (h7 : ∀ c, c < cp' → ∀ p, p < pl → C' 7 (6 * c + p) = ro' c p) : zQC C' sz pl cp' ms hw pn t ch st en co v pm ph ro' pp me := by
  unfold zQC zlC zRC at *
  rw [hf 5 (by decide) (by decide) (by decide) (by decide), hf 6 (by decide) (by decide) (by decide) (by decide), hf 8 (by decide) (by decide) (by decide) (by decide), hf 9 (by decide) (by decide) (by decide) (by decide), hf 10 (by decide) (by decide) (by decide) (by decide), hf 11 (by decide) (by decide) (by decide) (by decide), hf 13 (by decide) (by decide) (by decide) (by decide), hf 14 (by decide) (by decide) (by decide) (by decide), hf 15 (by decide) (by decide) (by decide) (by decide), hf 16 (by decide) (by decide) (by decide) (by decide), hf 17 (by decide) (by decide) (by decide) (by decide), h4 10 (by decide), h4 11 (by decide), h4 12 (by decide)]
  obtain ⟨a1, a2, ⟨b1, _, b3, b4, _⟩, a4⟩ := h
  exact ⟨a1, a2, ⟨b1, h9, b3, b4, h7⟩, a4⟩
theorem zQR_ro {C C' : Nat → Nat → Int} {sz pl cp ms hw pn : Nat} {t ch st en co v pm ph : Nat → Nat} {ro pp : Nat → Nat → Nat} {me : Nat → Int} {cp' : Nat} {ro' : Nat → Nat → Nat} (h : zQR C sz pl cp ms hw pn t ch st en co v pm ph ro pp me) (hf : ∀ k, 57 ≤ k → k ≤ 67 → k ≠ 65 → C' k = C k) (h4 : ∀ j, j ≠ 12 → C' 55 j = C 55 j) (h9 : C' 55 12 = cp') (h7 : ∀ c, c < cp' → ∀ p, p < pl → C' 65 (6 * c + p) = ro' c p) : zQR C' sz pl cp' ms hw pn t ch st en co v pm ph ro' pp me := by
  unfold zQR zlR zRR at *
  rw [hf 57 (by decide) (by decide) (by decide), hf 59 (by decide) (by decide) (by decide), hf 60 (by decide) (by decide) (by decide), hf 61 (by decide) (by decide) (by decide), hf 62 (by decide) (by decide) (by decide), hf 63 (by decide) (by decide) (by decide), hf 64 (by decide) (by decide) (by decide), hf 66 (by decide) (by decide) (by decide), hf 67 (by decide) (by decide) (by decide), h4 2 (by decide), h4 4 (by decide), h4 14 (by decide), h4 15 (by decide), h4 17 (by decide)]
  obtain ⟨a1, ⟨b1, _, b3, b4, _⟩, a3⟩ := h
  exact ⟨a1, ⟨b1, h9, b3, b4, h7⟩, a3⟩
theorem zbn2_ro {cp pl c : Nat} {ro : Nat → Nat → Nat} {R R' : Nat → Int} (h6 : pl ≤ 6) (hc : c < cp) (h : zbn2 cp R R' c) (hr : ∀ c, c < cp → ∀ p, p < pl → R (6 * c + p) = ro c p) : ∀ c', c' < cp - 1 → ∀ p, p < pl → R' (6 * c' + p) = ((if c' < c then ro c' p else ro (c' + 1) p : Nat) : Int) := by
  intro c' hc' p hp
  by_cases e : c' < c
  · rw [if_pos e, h.1 _ (by omega)]
    exact hr c' (by omega) p hp
  · rw [if_neg e, h.2 _ (by omega) (by omega), show 6 * c' + p + 6 = 6 * (c' + 1) + p by omega]
    exact hr (c' + 1) (by omega) p hp
theorem zt78 {x : Int} : zcse zInv 78 123 [.inl x] := zcse_g (fun M sz pl cp ms hw pn t ch st en co v pm ph ro pp me hav hO hC => ⟨_, qc78 hC.2.2.1.2.1 hO.1.2.1, by
  rintro r M1 hs
  rcases hs with ⟨hk, rfl, rfl⟩ | ⟨hk, rfl, e1, e2, e3, e4⟩
  · refine ⟨fun _ _ _ _ => rfl, fun hR => zCt.mono (qc123 hR.2.1.2.1 hO.1.2.1) ?_⟩
    rintro q M2 ⟨r', rfl, hs'⟩
    rcases hs' with ⟨_, rfl, rfl⟩ | ⟨g, _⟩
    · exact ⟨_, rfl, rfl, ⟨fun _ _ _ _ => rfl, rfl, rfl⟩, sz, pl, cp, ms, hw, pn, t, ch, st, en, co, v, pm, ph, ro, pp, me, hO, hC, hR⟩
    · exact absurd g hk
  · have x1 := hk.1
    have x2 := hk.2
    refine ⟨fun k k1 _ _ => e4 k (by omega) (by omega), fun hR => zCt.mono (qc123 hR.2.1.2.1 hO.1.2.1) ?_⟩
    rintro q M2 ⟨r', rfl, hs'⟩
    rcases hs' with ⟨g, _⟩ | ⟨_, rfl, f1, f2, f3, f4⟩
    · exact absurd hk g
    · refine ⟨_, rfl, rfl, ⟨fun k k1 k2 _ => f4 k k1 (by omega), f3 31 (by decide), f3 1 (by decide)⟩, sz, pl, cp - 1, ms, hw, pn, t, ch, st, en, co, v, pm, ph, (fun c' p => if c' < x.toNat then ro c' p else ro (c' + 1) p), pp, me, ?_, ?_, ?_⟩
      · obtain ⟨⟨a1, a2, a3, a4⟩, b1, b2, b3, b4, b5, b6, b7, b8, b9⟩ := hO
        refine ⟨⟨a1, by omega, a3, fun c hc p hp => ?_⟩, b1, b2, b3, b4, b5, b6, b7, b8, fun h0 => ?_⟩
        · by_cases e : c < x.toNat
          · simp only [if_pos e]; exact a4 c (by omega) p hp
          · simp only [if_neg e]; exact a4 (c + 1) (by omega) p hp
        · have := b9 h0; omega
      · exact zQC_ro hC (fun k k1 _ _ k4 => e4 k (by omega) k4) e3 (by rw [e2]; omega) (zbn2_ro hO.1.1 (by omega) e1 hC.2.2.1.2.2.2.2)
      · exact zQR_ro hR (fun k k1 _ k3 => f4 k (by omega) k3) f3 (by rw [f2]; omega) (zbn2_ro hO.1.1 (by omega) f1 hR.2.1.2.2.2.2)⟩)
