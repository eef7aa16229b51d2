/-! steps: set -/
theorem zQC_set {C C' : Nat → Nat → Int} {sz pl cp ms hw pn : Nat} {t ch st en co v pm ph : Nat → Nat} {ro pp : Nat → Nat → Nat} {me : Nat → Int} {ms' hw' : Nat} (h : zQC C sz pl cp ms hw pn t ch st en co v pm ph ro pp me) (hf : ∀ k, 5 ≤ k → k ≤ 17 → k ≠ 12 → C' k = C k) (h9 : C' 4 9 = C 4 9) (h10 : C' 4 10 = C 4 10) (h11 : C' 4 11 = ms') (h12 : C' 4 12 = hw') : zQC C' sz pl cp ms' hw' pn t ch st en co v pm ph ro pp me := by
  unfold zQC zlC zRC at *
  rw [hf 5 (by decide) (by decide) (by decide), hf 6 (by decide) (by decide) (by decide), hf 7 (by decide) (by decide) (by decide), hf 8 (by decide) (by decide) (by decide), hf 9 (by decide) (by decide) (by decide), hf 10 (by decide) (by decide) (by decide), hf 11 (by decide) (by decide) (by decide), hf 13 (by decide) (by decide) (by decide), hf 14 (by decide) (by decide) (by decide), hf 15 (by decide) (by decide) (by decide), hf 16 (by decide) (by decide) (by decide), hf 17 (by decide) (by decide) (by decide), h9, h10]
  obtain ⟨a1, a2, a3, a4, _, _, a7⟩ := h
  exact ⟨a1, a2, a3, a4, h11, h12, a7⟩
theorem zQR_set {C C' : Nat → Nat → Int} {sz pl cp ms hw pn : Nat} {t ch st en co v pm ph : Nat → Nat} {ro pp : Nat → Nat → Nat} {me : Nat → Int} {ms' hw' : Nat} (h : zQR C sz pl cp ms hw pn t ch st en co v pm ph ro pp me) (hf : ∀ k, 57 ≤ k → k ≤ 67 → C' k = C k) (h55 : ∀ j, j = 2 ∨ j = 4 ∨ j = 12 ∨ j = 17 → C' 55 j = C 55 j) (h14 : C' 55 14 = ms') (h15 : C' 55 15 = hw') : zQR C' sz pl cp ms' hw' pn t ch st en co v pm ph ro pp me := by
  unfold zQR zlR zRR at *
  rw [hf 57 (by decide) (by decide), hf 59 (by decide) (by decide), hf 60 (by decide) (by decide), hf 61 (by decide) (by decide), hf 62 (by decide) (by decide), hf 63 (by decide) (by decide), hf 64 (by decide) (by decide), hf 65 (by decide) (by decide), hf 66 (by decide) (by decide), hf 67 (by decide) (by decide), h55 2 (by decide), h55 4 (by decide), h55 12 (by decide), h55 17 (by decide)]
  obtain ⟨a1, a2, a3, _, _, a6⟩ := h
  exact ⟨a1, a2, a3, h14, h15, a6⟩
theorem zt81 {x y : Int} : zcse zInv 81 128 [.inl x, .inl y] := zcse_g (fun M sz pl cp ms hw pn t ch st en co v pm ph ro pp me hav hO hC => ⟨_, qc81, by
  rintro r M1 hs
  obtain ⟨o1, o2, o3, o4, o5⟩ := id hO
  rcases hs with ⟨rfl, y1, y2, rfl, rfl⟩ | ⟨rfl, y1, y2, rfl, rfl⟩ | ⟨n1, n2, rfl, rfl⟩
  · refine ⟨fun k k1 _ _ => by rw [zb_uk (by omega)], fun hR => zCt.mono qc128 ?_⟩
    rintro q M2 ⟨r', rfl, hs'⟩
    rcases hs' with ⟨_, _, _, rfl, rfl⟩ | ⟨g, _⟩ | ⟨g, _⟩
    · refine ⟨_, rfl, by rw [hR.2.2.2.1, hC.2.2.2.2.1], ⟨fun k k1 _ _ => by rw [zb_uk k1], by rw [zb_ui (by decide)], by rw [zb_ui (by decide)]⟩, sz, pl, cp, y.toNat, hw, pn, t, ch, st, en, co, v, pm, ph, ro, pp, me, ⟨o1, by omega, by omega, o4, o5⟩, ?_, ?_⟩
      · exact zQC_set hC (fun k k1 _ _ => by rw [zb_uk (by omega)]) (by rw [zb_ui (by decide)]) (by rw [zb_ui (by decide)]) (by rw [zb_us]; omega) (by rw [zb_ui (by decide)]; exact hC.2.2.2.2.2.1)
      · exact zQR_set hR (fun k k1 _ => by rw [zb_uk (by omega)]) (fun j hj => by rw [zb_ui (by omega)]) (by rw [zb_us]; omega) (by rw [zb_ui (by decide)]; exact hR.2.2.2.2.1)
    · omega
    · exact absurd ⟨rfl, y1, y2⟩ g
  · refine ⟨fun k k1 _ _ => by rw [zb_uk (by omega)], fun hR => zCt.mono qc128 ?_⟩
    rintro q M2 ⟨r', rfl, hs'⟩
    rcases hs' with ⟨g, _⟩ | ⟨_, _, _, rfl, rfl⟩ | ⟨_, g, _⟩
    · omega
    · refine ⟨_, rfl, by rw [hR.2.2.2.2.1, hC.2.2.2.2.2.1], ⟨fun k k1 _ _ => by rw [zb_uk k1], by rw [zb_ui (by decide)], by rw [zb_ui (by decide)]⟩, sz, pl, cp, ms, y.toNat, pn, t, ch, st, en, co, v, pm, ph, ro, pp, me, ⟨o1, o2, o3, by omega, o5⟩, ?_, ?_⟩
      · exact zQC_set hC (fun k k1 _ _ => by rw [zb_uk (by omega)]) (by rw [zb_ui (by decide)]) (by rw [zb_ui (by decide)]) (by rw [zb_ui (by decide)]; exact hC.2.2.2.2.1) (by rw [zb_us]; omega)
      · exact zQR_set hR (fun k k1 _ => by rw [zb_uk (by omega)]) (fun j hj => by rw [zb_ui (by omega)]) (by rw [zb_ui (by decide)]; exact hR.2.2.2.1) (by rw [zb_us]; omega)
    · exact absurd ⟨rfl, y1, y2⟩ g
  · refine ⟨fun _ _ _ _ => rfl, fun hR => zCt.mono qc128 ?_⟩
    rintro q M2 ⟨r', rfl, hs'⟩
    rcases hs' with ⟨g1, g2, g3, _⟩ | ⟨g1, g2, g3, _⟩ | ⟨_, _, rfl, rfl⟩
    · exact absurd ⟨g1, g2, g3⟩ n1
    · exact absurd ⟨g1, g2, g3⟩ n2
    · exact ⟨_, rfl, rfl, ⟨fun _ _ _ _ => rfl, rfl, rfl⟩, sz, pl, cp, ms, hw, pn, t, ch, st, en, co, v, pm, ph, ro, pp, me, hO, hC, hR⟩⟩)
