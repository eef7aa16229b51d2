/-! steps: cost -/
theorem zQC_co {C C' : Nat → Nat → Int} {sz pl cp ms hw pn : Nat} {t ch st en co v pm ph : Nat → Nat} {ro pp : Nat → Nat → Nat} {me : Nat → Int} {co' : Nat → Nat} (h : zQC C sz pl cp ms hw pn t ch st en co v pm ph ro pp me) (hf : ∀ k, 4 ≤ k → k ≤ 17 → k ≠ 12 → k ≠ 5 → C' k = C k) (h5 : ∀ i, i < 24 → C' 5 i = co' i) : zQC C' sz pl cp ms hw pn t ch st en co' v pm ph ro pp me := by
  unfold zQC zlC zRC at *
  rw [hf 4 (by decide) (by decide) (by decide) (by decide), hf 6 (by decide) (by decide) (by decide) (by decide), hf 7 (by decide) (by decide) (by decide) (by decide), hf 8 (by decide) (by decide) (by decide) (by decide), hf 9 (by decide) (by decide) (by decide) (by decide), hf 10 (by decide) (by decide) (by decide) (by decide), hf 11 (by decide) (by decide) (by decide) (by decide), hf 13 (by decide) (by decide) (by decide) (by decide), hf 14 (by decide) (by decide) (by decide) (by decide), hf 15 (by decide) (by decide) (by decide) (by decide), hf 16 (by decide) (by decide) (by decide) (by decide), hf 17 (by decide) (by decide) (by decide) (by decide)]
  obtain ⟨a1, a2, a3, a4, a5, a6, _, a8⟩ := h
  exact ⟨a1, a2, a3, a4, a5, a6, h5, a8⟩
theorem zQR_co {C C' : Nat → Nat → Int} {sz pl cp ms hw pn : Nat} {t ch st en co v pm ph : Nat → Nat} {ro pp : Nat → Nat → Nat} {me : Nat → Int} {co' : Nat → Nat} (h : zQR C sz pl cp ms hw pn t ch st en co v pm ph ro pp me) (hf : ∀ k, 55 ≤ k → k ≤ 67 → k ≠ 63 → C' k = C k) (h5 : ∀ i, i < 24 → C' 63 i = co' i) : zQR C' sz pl cp ms hw pn t ch st en co' v pm ph ro pp me := by
  unfold zQR zlR zRR at *
  rw [hf 55 (by decide) (by decide) (by decide), hf 57 (by decide) (by decide) (by decide), hf 59 (by decide) (by decide) (by decide), hf 60 (by decide) (by decide) (by decide), hf 61 (by decide) (by decide) (by decide), hf 62 (by decide) (by decide) (by decide), hf 64 (by decide) (by decide) (by decide), hf 65 (by decide) (by decide) (by decide), hf 66 (by decide) (by decide) (by decide), hf 67 (by decide) (by decide) (by decide)]
  obtain ⟨a1, a2, a3, a4, a5, _, a8⟩ := h
  exact ⟨a1, a2, a3, a4, a5, h5, a8⟩
theorem zt74 {x y z : Int} : zcse zInv 74 118 [.inl x, .inl y, .inl z] := zcse_g (fun M sz pl cp ms hw pn t ch st en co v pm ph ro pp me hav hO hC => ⟨_, qc74 hC.2.1.2.1 hO.1.1 (fun q hq => ⟨hC.2.1.2.2.2.1 q hq, (hO.1.2.2.1 q hq).2.1⟩), by
  rintro r M1 hs
  rcases hs with ⟨hk, rfl, rfl⟩ | ⟨hk, rfl, rfl⟩
  · refine ⟨fun _ _ _ _ => rfl, fun hR => zCt.mono (qc118 hR.1.2.1 hO.1.1 (fun q hq => ⟨(hR.1.2.2.2.1 q hq).1, (hO.1.2.2.1 q hq).2.1⟩)) ?_⟩
    rintro q M2 ⟨r', rfl, hs'⟩
    rcases hs' with ⟨_, rfl, rfl⟩ | ⟨g, _⟩
    · exact ⟨_, rfl, rfl, ⟨fun _ _ _ _ => rfl, rfl, rfl⟩, sz, pl, cp, ms, hw, pn, t, ch, st, en, co, v, pm, ph, ro, pp, me, hO, hC, hR⟩
    · exact absurd g hk
  · have hi : 4 * x.toNat + y.toNat < 24 := by
      have h1 := hk.1.1.1
      have h2 := hk.1.1.2
      have h3 := hk.1.2.1
      have h4 := hk.1.2.2
      have h5 := (hO.1.2.2.1 x.toNat (by omega)).2.1
      have h6 := hO.1.1
      omega
    have z1 := hk.2.1
    have z2 := hk.2.2
    refine ⟨fun k k1 _ _ => by rw [zb_uk (by omega)], fun hR => zCt.mono (qc118 hR.1.2.1 hO.1.1 (fun q hq => ⟨(hR.1.2.2.2.1 q hq).1, (hO.1.2.2.1 q hq).2.1⟩)) ?_⟩
    rintro q M2 ⟨r', rfl, hs'⟩
    rcases hs' with ⟨g, _⟩ | ⟨_, rfl, rfl⟩
    · exact absurd hk g
    · refine ⟨_, rfl, ?_, ⟨fun k k1 k2 k3 => by rw [zb_uk (by omega)], by rw [zb_uk (by decide)], by rw [zb_uk (by decide)]⟩, sz, pl, cp, ms, hw, pn, t, ch, st, en, (fun j => if j = 4 * x.toNat + y.toNat then z.toNat else co j), v, pm, ph, ro, pp, me, ?_, ?_, ?_⟩
      · rw [hR.2.2.2.2.2.1 _ hi, hC.2.2.2.2.2.2.1 _ hi]
      · obtain ⟨a1, a2, a3, a4, a5, a6, a7⟩ := hO
        refine ⟨a1, a2, a3, a4, a5, fun i hi => ?_, a7⟩
        by_cases e : i = 4 * x.toNat + y.toNat
        · simp only [if_pos e]; omega
        · simp only [if_neg e]; exact a6 i hi
      · refine zQC_co hC (fun k k1 k2 k3 k4 => by rw [zb_uk k4]) (fun i hi => ?_)
        by_cases e : i = 4 * x.toNat + y.toNat
        · subst e; rw [zb_us]; simp only [if_true]; omega
        · rw [zb_ui e]; simp only [if_neg e]; exact hC.2.2.2.2.2.2.1 i hi
      · refine zQR_co hR (fun k k1 k2 k3 => by rw [zb_uk k3]) (fun i hi => ?_)
        by_cases e : i = 4 * x.toNat + y.toNat
        · subst e; rw [zb_us]; simp only [if_true]; omega
        · rw [zb_ui e]; simp only [if_neg e]; exact hR.2.2.2.2.2.1 i hi⟩)
