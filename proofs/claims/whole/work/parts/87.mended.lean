/-! steps: mended -/
theorem zQC_me {C C' : Nat → Nat → Int} {sz pl cp ms hw pn : Nat} {t ch st en co v pm ph : Nat → Nat} {ro pp : Nat → Nat → Nat} {me : Nat → Int} {me' : Nat → Int} (h : zQC C sz pl cp ms hw pn t ch st en co v pm ph ro pp me) (hf : ∀ k, 4 ≤ k → k ≤ 17 → k ≠ 12 → k ≠ 6 → C' k = C k) (h5 : ∀ p, p < pl → C' 6 p = me' p) : zQC C' sz pl cp ms hw pn t ch st en co v pm ph ro pp me' := by
  unfold zQC zlC zRC at *
  rw [hf 4 (by decide) (by decide) (by decide) (by decide), hf 5 (by decide) (by decide) (by decide) (by decide), hf 7 (by decide) (by decide) (by decide) (by decide), hf 8 (by decide) (by decide) (by decide) (by decide), hf 9 (by decide) (by decide) (by decide) (by decide), hf 10 (by decide) (by decide) (by decide) (by decide), hf 11 (by decide) (by decide) (by decide) (by decide), hf 13 (by decide) (by decide) (by decide) (by decide), hf 14 (by decide) (by decide) (by decide) (by decide), hf 15 (by decide) (by decide) (by decide) (by decide), hf 16 (by decide) (by decide) (by decide) (by decide), hf 17 (by decide) (by decide) (by decide) (by decide)]
  obtain ⟨a1, a2, ⟨b1, b2, b3, _, b5⟩, a4⟩ := h
  exact ⟨a1, a2, ⟨b1, b2, b3, h5, b5⟩, a4⟩
theorem zQR_me {C C' : Nat → Nat → Int} {sz pl cp ms hw pn : Nat} {t ch st en co v pm ph : Nat → Nat} {ro pp : Nat → Nat → Nat} {me : Nat → Int} {me' : Nat → Int} (h : zQR C sz pl cp ms hw pn t ch st en co v pm ph ro pp me) (hf : ∀ k, 55 ≤ k → k ≤ 67 → k ≠ 64 → C' k = C k) (h5 : ∀ p, p < pl → C' 64 p = me' p) : zQR C' sz pl cp ms hw pn t ch st en co v pm ph ro pp me' := by
  unfold zQR zlR zRR at *
  rw [hf 55 (by decide) (by decide) (by decide), hf 57 (by decide) (by decide) (by decide), hf 59 (by decide) (by decide) (by decide), hf 60 (by decide) (by decide) (by decide), hf 61 (by decide) (by decide) (by decide), hf 62 (by decide) (by decide) (by decide), hf 63 (by decide) (by decide) (by decide), hf 65 (by decide) (by decide) (by decide), hf 66 (by decide) (by decide) (by decide), hf 67 (by decide) (by decide) (by decide)]
  obtain ⟨a1, ⟨b1, b2, b3, _, b5⟩, a3⟩ := h
  exact ⟨a1, ⟨b1, b2, b3, h5, b5⟩, a3⟩
theorem zt75 {x y : Int} : zcse zInv 75 119 [.inl x, .inl y] := zcse_g (fun M sz pl cp ms hw pn t ch st en co v pm ph ro pp me hav hO hC => ⟨_, qc75 hC.2.1.2.1 hO.1.1 hC.2.1.2.2.2.1, by
  rintro r M1 hs
  rcases hs with ⟨hk, rfl, rfl⟩ | ⟨hk, rfl, rfl⟩
  · refine ⟨fun _ _ _ _ => rfl, fun hR => zCt.mono (qc119 hR.1.2.1 hO.1.1 (fun q hq => ⟨(hR.1.2.2.2.1 q hq).1, (hO.1.2.2.1 q hq).2.1⟩)) ?_⟩
    rintro q M2 ⟨r', rfl, hs'⟩
    rcases hs' with ⟨_, rfl, rfl⟩ | ⟨g, _⟩
    · exact ⟨_, rfl, rfl, ⟨fun _ _ _ _ => rfl, rfl, rfl⟩, sz, pl, cp, ms, hw, pn, t, ch, st, en, co, v, pm, ph, ro, pp, me, hO, hC, hR⟩
    · exact absurd g hk
  · have x1 := hk.1.1
    have x2 := hk.1.2
    have hi : x.toNat < pl := by omega
    have hy : -1 ≤ y ∧ y < ch x.toNat := by
      rcases hk.2 with g | g
      · omega
      · have g1 := g.2.1
        have g2 := g.2.2
        omega
    refine ⟨fun k k1 _ _ => by rw [zb_uk (by omega)], fun hR => zCt.mono (qc119 hR.1.2.1 hO.1.1 (fun q hq => ⟨(hR.1.2.2.2.1 q hq).1, (hO.1.2.2.1 q hq).2.1⟩)) ?_⟩
    rintro q M2 ⟨r', rfl, hs'⟩
    rcases hs' with ⟨g, _⟩ | ⟨_, rfl, rfl⟩
    · exact absurd hk g
    · refine ⟨_, rfl, ?_, ⟨fun k k1 k2 k3 => by rw [zb_uk (by omega)], by rw [zb_uk (by decide)], by rw [zb_uk (by decide)]⟩, sz, pl, cp, ms, hw, pn, t, ch, st, en, co, v, pm, ph, ro, pp, (fun j => if j = x.toNat then y else me j), ?_, ?_, ?_⟩
      · rw [hR.2.1.2.2.2.1 _ hi, hC.2.2.1.2.2.2.1 _ hi]
      · obtain ⟨⟨a1, a2, a3, a4⟩, a5⟩ := hO
        refine ⟨⟨a1, a2, fun i hi => ?_, a4⟩, a5⟩
        have := a3 i hi
        by_cases e : i = x.toNat
        · simp only [if_pos e]; rw [e] at this ⊢; omega
        · simp only [if_neg e]; exact this
      · refine zQC_me hC (fun k k1 k2 k3 k4 => by rw [zb_uk k4]) (fun i hi => ?_)
        by_cases e : i = x.toNat
        · subst e; rw [zb_us]; simp only [if_true]
        · rw [zb_ui e]; simp only [if_neg e]; exact hC.2.2.1.2.2.2.1 i hi
      · refine zQR_me hR (fun k k1 k2 k3 => by rw [zb_uk k3]) (fun i hi => ?_)
        by_cases e : i = x.toNat
        · subst e; rw [zb_us]; simp only [if_true]
        · rw [zb_ui e]; simp only [if_neg e]; exact hR.2.1.2.2.2.1 i hi⟩)
