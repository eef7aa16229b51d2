/-! steps: putAll, copyOf, keep -/
theorem zrn_lt {cp c p : Nat} {ch co : Nat → Nat} {ro : Nat → Nat → Nat} (hcp : cp ≤ 8) (hp : p < 6) (h2 : 2 ≤ ch p) (h4 : ch p ≤ 4) (hco : ∀ i, i < 24 → co i ≤ 9) (hr : ro c p < ch p) : zrn cp ch co ro c p < ch p := by
  have hle : ∀ o, zfc co ro cp p o ≤ 72 := by
    intro o
    have := zps_le (g := fun x => co (4 * p + zsq o x)) (r := fun c => ro c p) (b := 9) (fun x => hco _ (by have := zsq_lt (o := o) (k := x); omega)) cp
    unfold zfc
    omega
  obtain ⟨_, b, s2, s3⟩ := zhl_start (f := zfc co ro cp p) (L := zLr (ch p)) (a := 1000000) (b := 1000000) (fun c _ => by have := hle c; omega) (zL_map (ch p) (by omega) h2).2
  have e : zbc co ro cp p (ch p) = b := by unfold zbc zbcO; rw [s3]; rfl
  unfold zrn
  rw [e]
  exact zbc_lt (co := co) (ro := ro) (cp := cp) (p := p) (by omega) h2 s2 hr
theorem zt97 : zcse zInv 97 164 [] := zcse_g (fun M sz pl cp ms hw pn t ch st en co v pm ph ro pp me hav hO hC => ⟨_, qc97 (sz := sz) hO.1 hC.2.2.1 (fun i hi => ⟨hC.2.2.2.2.2.2.1 i hi, hO.2.2.2.2.2.1 i hi⟩) hC.1, by
  rintro r M1 ⟨g1, g2, g3, g4⟩
  refine ⟨fun k k1 _ _ => g4 k (by omega) (by omega), fun hR => zCt.mono (qc164 (sz := sz) hO.1 hR.2.1 (fun i hi => ⟨hR.2.2.2.2.2.1 i hi, hO.2.2.2.2.2.1 i hi⟩) hR.1.1) ?_⟩
  rintro q M2 ⟨r', rfl, f1, f2, f3, f4⟩
  refine ⟨r', rfl, by rw [f1, g1], ⟨fun k k1 k2 k3 => f4 k (by omega) (by omega), by rw [f4 55 (by decide) (by decide)], by rw [f4 55 (by decide) (by decide)]⟩, ?_⟩
  by_cases h0 : sz = 0
  · rw [f2 h0, g2 h0] at *
    rw [g2 h0] at hR
    exact ⟨sz, pl, cp, ms, hw, pn, t, ch, st, en, co, v, pm, ph, ro, pp, me, hO, hC, hR⟩
  · refine ⟨sz, pl, cp, ms, hw, pn, t, ch, st, en, co, v, pm, ph, (fun c p => zrn cp ch co ro c p), pp, me, ?_, ?_, ?_⟩
    · obtain ⟨⟨a1, a2, a3, a4⟩, b1, b2, b3, b4, b5, b6⟩ := hO
      exact ⟨⟨a1, a2, a3, fun c hc p hp => zrn_lt a2 (by omega) (a3 p hp).1 (a3 p hp).2.1 b5 (a4 c hc p hp)⟩, b1, b2, b3, b4, b5, b6⟩
    · exact zQC_ro hC (fun k k1 _ k3 k4 => g4 k k4 k3) (fun j _ => by rw [g4 4 (by decide) (by decide)]) (by rw [g4 4 (by decide) (by decide)]; exact hC.2.2.1.2.1) (g3 h0)
    · exact zQR_ro hR (fun k k1 _ k3 => f4 k k3 (by omega)) (fun j _ => by rw [f4 55 (by decide) (by decide)]) (by rw [f4 55 (by decide) (by decide)]; exact hR.2.1.2.1) (f3 h0)⟩)
theorem zcse_gi {mc mm : Nat} {av : List zV} (h : ∀ M sz pl cp ms hw pn t ch st en co v pm ph ro pp me, (∀ v ∈ av, zrg v) → zShs M → zOK sz pl cp ms hw pn t ch st en co v pm ph ro pp me → zQC M sz pl cp ms hw pn t ch st en co v pm ph ro pp me → ∃ P : Int → zMem → Prop, zCi 20 mc (.inr (.inr 0) :: av) M P ∧ ∀ r M1, P r M1 → zgcC M M1 ∧ (zQR M1 sz pl cp ms hw pn t ch st en co v pm ph ro pp me → zCi 20 mm (.inr (.inr 55) :: av) M1 (fun r' M2 => r' = r ∧ zgcR M1 M2 ∧ ∃ sz pl cp ms hw pn t ch st en co v pm ph ro pp me, zOK sz pl cp ms hw pn t ch st en co v pm ph ro pp me ∧ zQC M1 sz pl cp ms hw pn t ch st en co v pm ph ro pp me ∧ zQR M2 sz pl cp ms hw pn t ch st en co v pm ph ro pp me))) : zcse zInv mc mm av := by
  intro M hM hav hI
  obtain ⟨sz, pl, cp, ms, hw, pn, t, ch, st, en, co, v, pm, ph, ro, pp, me, hO, hC, hR⟩ := hI.1
  obtain ⟨P, h1, h2⟩ := h M sz pl cp ms hw pn t ch st en co v pm ph ro pp me hav hI.2.2.2 hO hC
  refine zCt.mono h1 ?_
  rintro q M1 ⟨r, rfl, hp⟩
  obtain ⟨hg, h3⟩ := h2 r M1 hp
  refine ⟨r, rfl, fun _ => zCt.mono (h3 ?_) ?_⟩
  · exact zQR_fr hR (fun j _ => by rw [hg 55 (by decide) (by decide) (by decide)]) (fun k k1 k2 => hg k (by omega) (by omega) (by omega))
  · rintro q M2 ⟨r', rfl, hr, hf, hX⟩
    refine ⟨r', rfl, hr, ?_, ?_, ?_, ?_⟩
    · obtain ⟨sz, pl, cp, ms, hw, pn, t, ch, st, en, co, v, pm, ph, ro, pp, me, c1, c2, c3⟩ := hX
      exact ⟨sz, pl, cp, ms, hw, pn, t, ch, st, en, co, v, pm, ph, ro, pp, me, c1, zQC_fr c2 (fun k k1 k2 k3 => hf.1 k (by omega) (by omega) (by omega)), c3⟩
    · exact zKep_fr hI.2.1 (by rw [hf.1 0 (by decide) (by decide) (by decide), hg 0 (by decide) (by decide) (by decide)]) (by rw [hf.2.1, hg 55 (by decide) (by decide) (by decide)]) (fun k k1 k2 _ => by rw [hf.1 k (by omega) (by omega) (by omega), hg k (by omega) (by omega) (by omega)]) (by rw [hf.1 75 (by decide) (by decide) (by decide), hg 75 (by decide) (by decide) (by decide)])
    · exact zTap_fr hI.2.2.1 (by rw [hf.1 2 (by decide) (by decide) (by decide), hg 2 (by decide) (by decide) (by decide)]) (by rw [hf.1 3 (by decide) (by decide) (by decide), hg 3 (by decide) (by decide) (by decide)]) (by rw [hf.2.2, hg 55 (by decide) (by decide) (by decide)]) (by rw [hf.1 56 (by decide) (by decide) (by decide), hg 56 (by decide) (by decide) (by decide)])
    · exact zShs_fr hI.2.2.2 (fun k hk => by rw [hf.1 k (by omega) (by omega) (by omega), hg k (by omega) (by omega) (by omega)])
theorem zgood_c {sz pl b : Nat} {ch : Nat → Nat} {I J : Nat → Int} (h : ∀ p, p < pl → J (b + p) = I (b + p)) (g : zgood sz pl ch J b) : zgood sz pl ch I b := ⟨g.1, fun p hp => by rw [← h p hp]; exact g.2 p hp⟩
theorem zt76 {x1 x2 x3 : Int} : zcse zInv 76 120 [.inl x1, .inl x2, .inl x3] := zcse_gi (fun M sz pl cp ms hw pn t ch st en co v pm ph ro pp me hav hS hO hC => ⟨_, qc76 (sz := sz) hS.1 hC.1 hC.2.1.2.1 hO.1.1 hC.2.2.1.2.1 hO.1.2.1 hC.2.1.2.2.2.1, by
  rintro r M1 hs
  obtain ⟨s1, s2, s3⟩ := id hS
  have fr : ∀ k, k ≠ 4 → k ≠ 7 → M1 k = M k := by
    intro k k1 k2
    rcases hs with ⟨_, _, _, _, rfl⟩ | ⟨_, _, _, ⟨_, _, rfl⟩ | ⟨_, _, _, rfl⟩ | ⟨_, _, _, _, _, _, _, e⟩⟩
    · rfl
    · rfl
    · rfl
    · exact e k k1 k2
  have hL : ∀ s, s < 4 → M1 76 s = M 33 s ∧ M1 77 s = M 34 s := fun s hs => by
    rw [fr 76 (by decide) (by decide), fr 77 (by decide) (by decide)]
    exact s2 s hs
  have hok : zShOk (M1 76) (M1 77) := by
    rw [fr 76 (by decide) (by decide), fr 77 (by decide) (by decide)]
    exact zShs_R hS
  refine ⟨fun k k1 _ _ => fr k (by omega) (by omega), fun hR => zCt.mono (qc120 (sz := sz) (ch := ch) hok (hav (.inl x3) (by simp)) hR.1.1 hR.1.2.1 hO.1.1 hR.2.1.2.1 hO.1.2.1 (fun q hq => ⟨(hR.1.2.2.2.1 q hq).1, (hO.1.2.2.1 q hq).2.1⟩)) ?_⟩
  rintro q M2 ⟨r', rfl, hs'⟩
  rcases hs with ⟨a, ga, na, rfl, rfl⟩ | ⟨a, ga, na, hs⟩
  · rcases hs' with ⟨b, gb, nb, rfl, rfl⟩ | ⟨b, gb, nb, _⟩
    · exact ⟨_, rfl, zsRef_u ga (zsRef_c hL gb), ⟨fun _ _ _ _ => rfl, rfl, rfl⟩, sz, pl, cp, ms, hw, pn, t, ch, st, en, co, v, pm, ph, ro, pp, me, hO, hC, hR⟩
    · have := zsRef_u ga (zsRef_c hL gb); omega
  · rcases hs' with ⟨b, gb, nb, rfl, rfl⟩ | ⟨b, gb, nb, hs'⟩
    · have := zsRef_u ga (zsRef_c hL gb); omega
    · obtain ⟨i1, i2, i3, i4⟩ := zsRef_in ga na
      have i5 := i1.1
      have i6 := i1.2
      have i7 := (s1 x1.toNat (by omega)).2.2.2
      have eI : ∀ p, p < pl → M1 78 (12 * x1.toNat + x3.toNat + p) = M 35 (12 * x1.toNat + x3.toNat + p) := fun p hp => by
        rw [fr 78 (by decide) (by decide)]
        exact s3 _ (by omega)
      rcases hs with ⟨g, rfl, rfl⟩ | ⟨g, g2, rfl, rfl⟩ | ⟨g, g2, rfl, e1, e2, e3, e4, e5⟩
      · rcases hs' with ⟨_, rfl, rfl⟩ | ⟨g', _⟩ | ⟨g', _⟩
        · exact ⟨_, rfl, rfl, ⟨fun _ _ _ _ => rfl, rfl, rfl⟩, sz, pl, cp, ms, hw, pn, t, ch, st, en, co, v, pm, ph, ro, pp, me, hO, hC, hR⟩
        · exact absurd (zgood_c eI g') g
        · exact absurd (zgood_c eI g') g
      · rcases hs' with ⟨g', _⟩ | ⟨_, _, rfl, rfl⟩ | ⟨_, g3, _⟩
        · exact absurd (zgood_c (fun p hp => (eI p hp).symm) g) g'
        · exact ⟨_, rfl, rfl, ⟨fun _ _ _ _ => rfl, rfl, rfl⟩, sz, pl, cp, ms, hw, pn, t, ch, st, en, co, v, pm, ph, ro, pp, me, hO, hC, hR⟩
        · omega
      · rcases hs' with ⟨g', _⟩ | ⟨_, g3, _⟩ | ⟨_, _, rfl, f1, f2, f3, f4, f5⟩
        · exact absurd (zgood_c (fun p hp => (eI p hp).symm) g) g'
        · omega
        · have hb : ∀ p, p < pl → 0 ≤ M 35 (12 * x1.toNat + x3.toNat + p) ∧ M 35 (12 * x1.toNat + x3.toNat + p) < ch p := fun p hp => by
            have := (g.2 p hp).2
            rw [Int.toNat_natCast] at this
            exact this
          refine ⟨_, rfl, rfl, ⟨fun k k1 k2 _ => f5 k k1 (by omega), f4 31 (by decide), f4 1 (by decide)⟩, sz, pl, cp + 1, ms, hw, pn, t, ch, st, en, co, v, pm, ph, (fun c p => if c = cp then (M 35 (12 * x1.toNat + x3.toNat + p)).toNat else ro c p), pp, me, ?_, ?_, ?_⟩
          · obtain ⟨⟨a1, a2, a3, a4⟩, b1, b2, b3, b4, b5, b6, b7, b8, b9⟩ := hO
            refine ⟨⟨a1, by omega, a3, fun c hc p hp => ?_⟩, b1, b2, b3, b4, b5, b6, b7, b8, fun h0 => absurd h0 g.1⟩
            have := hb p hp
            by_cases e : c = cp
            · simp only [if_pos e]; omega
            · simp only [if_neg e]; exact a4 c (by omega) p hp
          · refine zQC_ro hC (fun k k1 _ _ k4 => e5 k (by omega) k4) e4 (by rw [e3]; omega) (fun c hc p hp => ?_)
            have := hb p hp
            have hp6 := hO.1.1
            by_cases e : c = cp
            · subst e; simp only [if_true]; rw [e1 p hp]; omega
            · simp only [if_neg e]; rw [e2 _ (by omega)]; exact hC.2.2.1.2.2.2.2 c (by omega) p hp
          · refine zQR_ro hR (fun k k1 _ k3 => f5 k (by omega) k3) f4 (by rw [f3]; omega) (fun c hc p hp => ?_)
            have := hb p hp
            have hp6 := hO.1.1
            by_cases e : c = cp
            · subst e; simp only [if_true]; rw [f1 p hp, eI p hp]; omega
            · simp only [if_neg e]; rw [f2 _ (by omega)]; exact hR.2.1.2.2.2.2 c (by omega) p hp⟩)
theorem zQC_pn {C C' : Nat → Nat → Int} {sz pl cp ms hw pn : Nat} {t ch st en co v pm ph : Nat → Nat} {ro pp : Nat → Nat → Nat} {me : Nat → Int} {pn' : Nat} {pm' ph' : Nat → Nat} {pp' : Nat → Nat → Nat} (h : zQC C sz pl cp ms hw pn t ch st en co v pm ph ro pp me) (hf : ∀ k, 4 ≤ k → k ≤ 17 → k ≠ 12 → k ≠ 4 → k ≠ 9 → k ≠ 10 → k ≠ 11 → C' k = C k) (h4 : ∀ j, j ≠ 10 → C' 4 j = C 4 j) (h10 : C' 4 10 = pn') (hp : ∀ k, k < pn' → C' 10 k = pm' k ∧ C' 11 k = ph' k ∧ ∀ p, p < pl → C' 9 (6 * k + p) = pp' k p) : zQC C' sz pl cp ms hw pn' t ch st en co v pm' ph' ro pp' me := by
  unfold zQC zlC zRC at *
  rw [hf 5 (by decide) (by decide) (by decide) (by decide) (by decide) (by decide) (by decide), hf 6 (by decide) (by decide) (by decide) (by decide) (by decide) (by decide) (by decide), hf 7 (by decide) (by decide) (by decide) (by decide) (by decide) (by decide) (by decide), hf 8 (by decide) (by decide) (by decide) (by decide) (by decide) (by decide) (by decide), hf 13 (by decide) (by decide) (by decide) (by decide) (by decide) (by decide) (by decide), hf 14 (by decide) (by decide) (by decide) (by decide) (by decide) (by decide) (by decide), hf 15 (by decide) (by decide) (by decide) (by decide) (by decide) (by decide) (by decide), hf 16 (by decide) (by decide) (by decide) (by decide) (by decide) (by decide) (by decide), hf 17 (by decide) (by decide) (by decide) (by decide) (by decide) (by decide) (by decide), h4 9 (by decide), h4 11 (by decide), h4 12 (by decide)]
  obtain ⟨a1, a2, a3, _, a5, a6, a7, a8, _⟩ := h
  exact ⟨a1, a2, a3, h10, a5, a6, a7, a8, hp⟩
theorem zQR_pn {C C' : Nat → Nat → Int} {sz pl cp ms hw pn : Nat} {t ch st en co v pm ph : Nat → Nat} {ro pp : Nat → Nat → Nat} {me : Nat → Int} {pn' : Nat} {pm' ph' : Nat → Nat} {pp' : Nat → Nat → Nat} (h : zQR C sz pl cp ms hw pn t ch st en co v pm ph ro pp me) (hf : ∀ k, k ≠ 55 → k ≠ 67 → C' k = C k) (h4 : ∀ j, j ≠ 17 → C' 55 j = C 55 j) (h10 : C' 55 17 = pn') (hp : ∀ k, k < pn' → C' 67 (8 * k + 6) = pm' k ∧ C' 67 (8 * k + 7) = ph' k ∧ ∀ p, p < pl → C' 67 (8 * k + p) = pp' k p) : zQR C' sz pl cp ms hw pn' t ch st en co v pm' ph' ro pp' me := by
  unfold zQR zlR zRR at *
  rw [hf 57 (by decide) (by decide), hf 59 (by decide) (by decide), hf 60 (by decide) (by decide), hf 61 (by decide) (by decide), hf 62 (by decide) (by decide), hf 63 (by decide) (by decide), hf 64 (by decide) (by decide), hf 65 (by decide) (by decide), hf 66 (by decide) (by decide), h4 2 (by decide), h4 4 (by decide), h4 12 (by decide), h4 14 (by decide), h4 15 (by decide)]
  obtain ⟨a1, a2, _, a5, a6, a7, a8, _⟩ := h
  exact ⟨a1, a2, h10, a5, a6, a7, a8, hp⟩
theorem zt99 : zcse zInv 99 166 [] := zcse_g (fun M sz pl cp ms hw pn t ch st en co v pm ph ro pp me hav hO hC => ⟨_, qc99 (sz := sz) hC.1 hC.2.2.2.1 hO.2.2.2.2.1, by
  rintro r M1 hs
  have fr : ∀ k, k ≠ 4 → k ≠ 9 → k ≠ 10 → k ≠ 11 → M1 k = M k := by
    intro k k1 k2 k3 k4
    rcases hs with ⟨_, _, rfl⟩ | ⟨_, _, _, rfl⟩ | ⟨_, _, _, _, _, _, _, _, _, _, _, e⟩
    · rfl
    · rfl
    · exact e k k1 k2 k3 k4
  refine ⟨fun k k1 _ _ => fr k (by omega) (by omega) (by omega) (by omega), fun hR => zCt.mono (qc166 (sz := sz) hR.1.1 hR.2.2.1 hO.2.2.2.2.1) ?_⟩
  rintro q M2 ⟨r', rfl, hs'⟩
  rcases hs with ⟨g, rfl, rfl⟩ | ⟨g, g2, rfl, rfl⟩ | ⟨g, g2, rfl, e1, e2, e3, e4, e5, e6, e7, e8, e9⟩
  · rcases hs' with ⟨_, rfl, rfl⟩ | ⟨g', _⟩ | ⟨g', _⟩
    · exact ⟨_, rfl, rfl, ⟨fun _ _ _ _ => rfl, rfl, rfl⟩, sz, pl, cp, ms, hw, pn, t, ch, st, en, co, v, pm, ph, ro, pp, me, hO, hC, hR⟩
    · exact absurd g g'
    · exact absurd g g'
  · rcases hs' with ⟨g', _⟩ | ⟨_, _, rfl, rfl⟩ | ⟨_, g', _⟩
    · exact absurd g' g
    · exact ⟨_, rfl, rfl, ⟨fun _ _ _ _ => rfl, rfl, rfl⟩, sz, pl, cp, ms, hw, pn, t, ch, st, en, co, v, pm, ph, ro, pp, me, hO, hC, hR⟩
    · omega
  · rcases hs' with ⟨g', _⟩ | ⟨_, g', _⟩ | ⟨_, _, rfl, f1, f2, f3, f4, f5, f6, f7⟩
    · exact absurd g' g
    · omega
    · have h6 := hO.1.1
      refine ⟨_, rfl, rfl, ⟨fun k k1 k2 _ => f7 k k1 (by omega), f6 31 (by decide), f6 1 (by decide)⟩, sz, pl, cp, ms, hw, pn + 1, t, ch, st, en, co, v, (fun k => if k = pn then ms else pm k), (fun k => if k = pn then hw else ph k), ro, (fun k p => if k = pn then v p else pp k p), me, ?_, ?_, ?_⟩
      · obtain ⟨a, b1, b2, b3, b4, b5, b6, b7, b8, b9⟩ := hO
        refine ⟨a, b1, b2, b3, by omega, b5, b6, fun k hk => ?_, b8, fun h0 => absurd h0 g⟩
        by_cases e : k = pn
        · simp only [if_pos e]; exact ⟨b2, b6⟩
        · simp only [if_neg e]; exact b7 k (by omega)
      · refine zQC_pn hC (fun k _ _ _ k1 k2 k3 k4 => e9 k k1 k2 k3 k4) e8 (by rw [e7]; omega) (fun k hk => ?_)
        by_cases e : k = pn
        · subst e; simp only [if_true]
          exact ⟨by rw [e3]; exact hC.2.2.2.2.1, by rw [e5]; exact hC.2.2.2.2.2.1, fun p hp => by rw [e1 p (by omega)]; exact hC.2.2.2.2.2.2.2.1 p hp⟩
        · simp only [if_neg e]
          have := hC.2.2.2.2.2.2.2.2 k (by omega)
          exact ⟨by rw [e4 k e]; exact this.1, by rw [e6 k e]; exact this.2.1, fun p hp => by rw [e2 _ (by omega)]; exact this.2.2 p hp⟩
      · refine zQR_pn hR f7 f6 (by rw [f5]; omega) (fun k hk => ?_)
        by_cases e : k = pn
        · subst e; simp only [if_true]
          exact ⟨by rw [f3]; exact hR.2.2.2.1, by rw [f4]; exact hR.2.2.2.2.1, fun p hp => by rw [f1 p (by omega)]; exact hR.2.2.2.2.2.2.1 p hp⟩
        · simp only [if_neg e]
          have := hR.2.2.2.2.2.2.2 k (by omega)
          exact ⟨by rw [f2 _ (by omega)]; exact this.1, by rw [f2 _ (by omega)]; exact this.2.1, fun p hp => by rw [f2 _ (by omega)]; exact this.2.2 p hp⟩⟩)
