/-! steps: print -/
theorem zQC_v {C C' : Nat → Nat → Int} {sz pl cp ms hw pn : Nat} {t ch st en co v pm ph : Nat → Nat} {ro pp : Nat → Nat → Nat} {me : Nat → Int} {v' : Nat → Nat} (h : zQC C sz pl cp ms hw pn t ch st en co v pm ph ro pp me) (hf : ∀ k, 4 ≤ k → k ≤ 17 → k ≠ 12 → k ≠ 8 → C' k = C k) (h5 : ∀ p, p < pl → C' 8 p = v' p) : zQC C' sz pl cp ms hw pn t ch st en co v' pm ph ro pp me := by
  unfold zQC zlC zRC at *
  rw [hf 4 (by decide) (by decide) (by decide) (by decide), hf 5 (by decide) (by decide) (by decide) (by decide), hf 6 (by decide) (by decide) (by decide) (by decide), hf 7 (by decide) (by decide) (by decide) (by decide), hf 9 (by decide) (by decide) (by decide) (by decide), hf 10 (by decide) (by decide) (by decide) (by decide), hf 11 (by decide) (by decide) (by decide) (by decide), hf 13 (by decide) (by decide) (by decide) (by decide), hf 14 (by decide) (by decide) (by decide) (by decide), hf 15 (by decide) (by decide) (by decide) (by decide), hf 16 (by decide) (by decide) (by decide) (by decide), hf 17 (by decide) (by decide) (by decide) (by decide)]
  obtain ⟨a1, a2, a3, a4, a5, a6, a7, _, a9⟩ := h
  exact ⟨a1, a2, a3, a4, a5, a6, a7, h5, a9⟩
theorem zQR_v {C C' : Nat → Nat → Int} {sz pl cp ms hw pn : Nat} {t ch st en co v pm ph : Nat → Nat} {ro pp : Nat → Nat → Nat} {me : Nat → Int} {v' : Nat → Nat} (h : zQR C sz pl cp ms hw pn t ch st en co v pm ph ro pp me) (h55 : ∀ j, j = 2 ∨ j = 4 ∨ j = 12 ∨ j = 14 ∨ j = 15 ∨ j = 17 → C' 55 j = C 55 j) (hf : ∀ k, 57 ≤ k → k ≤ 67 → k ≠ 66 → C' k = C k) (h5 : ∀ p, p < pl → C' 66 p = v' p) : zQR C' sz pl cp ms hw pn t ch st en co v' pm ph ro pp me := by
  unfold zQR zlR zRR at *
  rw [hf 57 (by decide) (by decide) (by decide), hf 59 (by decide) (by decide) (by decide), hf 60 (by decide) (by decide) (by decide), hf 61 (by decide) (by decide) (by decide), hf 62 (by decide) (by decide) (by decide), hf 63 (by decide) (by decide) (by decide), hf 64 (by decide) (by decide) (by decide), hf 65 (by decide) (by decide) (by decide), hf 67 (by decide) (by decide) (by decide), h55 2 (by decide), h55 4 (by decide), h55 12 (by decide), h55 14 (by decide), h55 15 (by decide), h55 17 (by decide)]
  obtain ⟨a1, a2, a3, a4, a5, a6, _, a8⟩ := h
  exact ⟨a1, a2, a3, a4, a5, a6, h5, a8⟩
theorem zt83 {x y : Int} : zcse zInv 83 135 [.inl x, .inl y] := zcse_g (fun M sz pl cp ms hw pn t ch st en co v pm ph ro pp me hav hO hC => ⟨_, qc83 hC.2.1.2.1 hO.1.1 hC.2.1.2.2.2.1, by
  rintro r M1 hs
  rcases hs with ⟨hk, rfl, rfl⟩ | ⟨hk, rfl, rfl⟩
  · refine ⟨fun _ _ _ _ => rfl, fun hR => zCt.mono (qc135 hR.1.2.1 hO.1.1 (fun q hq => ⟨(hR.1.2.2.2.1 q hq).1, (hO.1.2.2.1 q hq).2.1⟩)) ?_⟩
    rintro q M2 ⟨r', rfl, hs'⟩
    rcases hs' with ⟨_, rfl, rfl⟩ | ⟨g, _⟩
    · exact ⟨_, rfl, rfl, ⟨fun _ _ _ _ => rfl, rfl, rfl⟩, sz, pl, cp, ms, hw, pn, t, ch, st, en, co, v, pm, ph, ro, pp, me, hO, hC, hR⟩
    · exact absurd g hk
  · have x1 := hk.1.1
    have x2 := hk.1.2
    have hi : x.toNat < pl := by omega
    have hy : 0 ≤ y ∧ y ≤ 5 := by
      have h5 := (hO.1.2.2.1 x.toNat hi).2.1
      rcases hk.2 with g | g | g
      · have g1 := g.2.1
        have g2 := g.2.2
        omega
      · omega
      · omega
    refine ⟨fun k k1 _ _ => by rw [zb_uk (by omega)], fun hR => zCt.mono (qc135 hR.1.2.1 hO.1.1 (fun q hq => ⟨(hR.1.2.2.2.1 q hq).1, (hO.1.2.2.1 q hq).2.1⟩)) ?_⟩
    rintro q M2 ⟨r', rfl, hs'⟩
    rcases hs' with ⟨g, _⟩ | ⟨_, rfl, rfl⟩
    · exact absurd hk g
    · refine ⟨_, rfl, ?_, ⟨fun k k1 k2 k3 => by rw [zb_uk (by omega)], by rw [zb_uk (by decide)], by rw [zb_uk (by decide)]⟩, sz, pl, cp, ms, hw, pn, t, ch, st, en, co, (fun j => if j = x.toNat then y.toNat else v j), pm, ph, ro, pp, me, ?_, ?_, ?_⟩
      · rw [hR.2.2.2.2.2.2.1 _ hi, hC.2.2.2.2.2.2.2.1 _ hi]
      · obtain ⟨a1, a2, a3, a4, a5, a6, a7, a8⟩ := hO
        refine ⟨a1, a2, a3, a4, a5, a6, fun i hi => ?_, a8⟩
        by_cases e : i = x.toNat
        · simp only [if_pos e]; omega
        · simp only [if_neg e]; exact a7 i hi
      · refine zQC_v hC (fun k k1 k2 k3 k4 => by rw [zb_uk k4]) (fun i hi => ?_)
        by_cases e : i = x.toNat
        · subst e; rw [zb_us]; simp only [if_true]; omega
        · rw [zb_ui e]; simp only [if_neg e]; exact hC.2.2.2.2.2.2.2.1 i hi
      · refine zQR_v hR (fun j _ => by rw [zb_uk (by decide)]) (fun k k1 k2 k3 => by rw [zb_uk k3]) (fun i hi => ?_)
        by_cases e : i = x.toNat
        · subst e; rw [zb_us]; simp only [if_true]; omega
        · rw [zb_ui e]; simp only [if_neg e]; exact hR.2.2.2.2.2.2.1 i hi⟩)
