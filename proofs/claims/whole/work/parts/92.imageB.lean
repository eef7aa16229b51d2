/-! steps: image, restore -/
def zsmC (C C' : Nat → Nat → Int) : Prop := (∀ i, i < 24 → C' 5 i = C 5 i) ∧ (∀ i, i < 6 → C' 6 i = C 6 i) ∧ (∀ i, i < 48 → C' 7 i = C 7 i) ∧ (∀ i, i < 6 → C' 8 i = C 8 i) ∧ (∀ i, i < 36 → C' 9 i = C 9 i) ∧ (∀ i, i < 6 → C' 10 i = C 10 i) ∧ (∀ i, i < 6 → C' 11 i = C 11 i) ∧ (∀ i, i < 120 → C' 14 i = C 14 i) ∧ (∀ i, i < 6 → C' 15 i = C 15 i) ∧ (∀ i, i < 24 → C' 16 i = C 16 i) ∧ (∀ i, i < 24 → C' 17 i = C 17 i) ∧ C' 13 4 = C 13 4 ∧ C' 13 5 = C 13 5 ∧ C' 13 6 = C 13 6 ∧ C' 4 9 = C 4 9 ∧ C' 4 10 = C 4 10 ∧ C' 4 11 = C 4 11 ∧ C' 4 12 = C 4 12
def zsmR (C C' : Nat → Nat → Int) : Prop := (∀ i, i < 120 → C' 57 i = C 57 i) ∧ (∀ i, i < 6 → C' 59 i = C 59 i) ∧ (∀ i, i < 6 → C' 60 i = C 60 i) ∧ (∀ i, i < 24 → C' 61 i = C 61 i) ∧ (∀ i, i < 24 → C' 62 i = C 62 i) ∧ (∀ i, i < 24 → C' 63 i = C 63 i) ∧ (∀ i, i < 6 → C' 64 i = C 64 i) ∧ (∀ i, i < 48 → C' 65 i = C 65 i) ∧ (∀ i, i < 6 → C' 66 i = C 66 i) ∧ (∀ i, i < 48 → C' 67 i = C 67 i) ∧ C' 55 2 = C 55 2 ∧ C' 55 4 = C 55 4 ∧ C' 55 12 = C 55 12 ∧ C' 55 14 = C 55 14 ∧ C' 55 15 = C 55 15 ∧ C' 55 17 = C 55 17
theorem zOK_sz {sz pl cp ms hw pn : Nat} {t ch st en co v pm ph : Nat → Nat} {ro pp : Nat → Nat → Nat} {me : Nat → Int} (hO : zOK sz pl cp ms hw pn t ch st en co v pm ph ro pp me) : sz ≤ 120 := by
  by_cases h : sz = 0
  · omega
  · exact (hO.2.2.2.2.2.2.2.2.1 h).2.1
theorem zQC_cp {C C' : Nat → Nat → Int} {sz pl cp ms hw pn : Nat} {t ch st en co v pm ph : Nat → Nat} {ro pp : Nat → Nat → Nat} {me : Nat → Int} (hO : zOK sz pl cp ms hw pn t ch st en co v pm ph ro pp me) (h : zQC C sz pl cp ms hw pn t ch st en co v pm ph ro pp me) (hs : zsmC C C') : zQC C' sz pl cp ms hw pn t ch st en co v pm ph ro pp me := by
  have h120 := zOK_sz hO
  have h6 := hO.1.1
  have h8 := hO.1.2.1
  have hpn := hO.2.2.2.2.1
  obtain ⟨a1, ⟨l1, l2, l3, l4, l5⟩, ⟨r1, r2, r3, r4, r5⟩, a4, a5, a6, a7, a8, a9⟩ := h
  obtain ⟨s5, s6, s7, s8, s9, s10, s11, s14, s15, s16, s17, f13_4, f13_5, f13_6, f4_9, f4_10, f4_11, f4_12⟩ := hs
  refine ⟨by rw [f13_4]; exact a1, ⟨by rw [f13_5]; exact l1, by rw [f13_6]; exact l2, fun i hi => by rw [s14 i (by omega)]; exact l3 i hi, fun p hp => by rw [s15 p (by omega)]; exact l4 p hp, fun p hp c hc => ?_⟩, ⟨by rw [f13_6]; exact r1, by rw [f4_9]; exact r2, fun p hp => by rw [s15 p (by omega)]; exact r3 p hp, fun p hp => by rw [s6 p (by omega)]; exact r4 p hp, fun c hc p hp => by rw [s7 _ (by omega)]; exact r5 c hc p hp⟩, by rw [f4_10]; exact a4, by rw [f4_11]; exact a5, by rw [f4_12]; exact a6, fun i hi => by rw [s5 i hi]; exact a7 i hi, fun p hp => by rw [s8 p (by omega)]; exact a8 p hp, fun k hk => ⟨by rw [s10 k (by omega)]; exact (a9 k hk).1, by rw [s11 k (by omega)]; exact (a9 k hk).2.1, fun p hp => by rw [s9 _ (by omega)]; exact (a9 k hk).2.2 p hp⟩⟩
  have h4 := (hO.1.2.2.1 p hp).2.1
  rw [s16 _ (by omega), s17 _ (by omega)]
  exact l5 p hp c hc
theorem zQR_cp {C C' : Nat → Nat → Int} {sz pl cp ms hw pn : Nat} {t ch st en co v pm ph : Nat → Nat} {ro pp : Nat → Nat → Nat} {me : Nat → Int} (hO : zOK sz pl cp ms hw pn t ch st en co v pm ph ro pp me) (h : zQR C sz pl cp ms hw pn t ch st en co v pm ph ro pp me) (hs : zsmR C C') : zQR C' sz pl cp ms hw pn t ch st en co v pm ph ro pp me := by
  have h120 := zOK_sz hO
  have h6 := hO.1.1
  have h8 := hO.1.2.1
  have hpn := hO.2.2.2.2.1
  obtain ⟨⟨l1, l2, l3, l4, l5⟩, ⟨r1, r2, r3, r4, r5⟩, a4, a5, a6, a7, a8, a9⟩ := h
  obtain ⟨s57, s59, s60, s61, s62, s63, s64, s65, s66, s67, f2, f4, f12, f14, f15, f17⟩ := hs
  refine ⟨⟨by rw [f2]; exact l1, by rw [f4]; exact l2, fun i hi => by rw [s57 i (by omega)]; exact l3 i hi, fun p hp => by rw [s60 p (by omega), s59 p (by omega)]; exact l4 p hp, fun p hp c hc => ?_⟩, ⟨by rw [f4]; exact r1, by rw [f12]; exact r2, fun p hp => by rw [s60 p (by omega)]; exact r3 p hp, fun p hp => by rw [s64 p (by omega)]; exact r4 p hp, fun c hc p hp => by rw [s65 _ (by omega)]; exact r5 c hc p hp⟩, by rw [f17]; exact a4, by rw [f14]; exact a5, by rw [f15]; exact a6, fun i hi => by rw [s63 i hi]; exact a7 i hi, fun p hp => by rw [s66 p (by omega)]; exact a8 p hp, fun k hk => ⟨by rw [s67 _ (by omega)]; exact (a9 k hk).1, by rw [s67 _ (by omega)]; exact (a9 k hk).2.1, fun p hp => by rw [s67 _ (by omega)]; exact (a9 k hk).2.2 p hp⟩⟩
  have h4 := (hO.1.2.2.1 p hp).2.1
  rw [s61 _ (by omega), s62 _ (by omega)]
  exact l5 p hp c hc
theorem zimo57 {i : Nat} : zimo 57 i = 0 + i := by simp [zimo]
theorem zimo59 {i : Nat} : zimo 59 i = 126 + i := by simp [zimo]
theorem zimo60 {i : Nat} : zimo 60 i = 132 + i := by simp [zimo]
theorem zimo61 {i : Nat} : zimo 61 i = 138 + i := by simp [zimo]
theorem zimo62 {i : Nat} : zimo 62 i = 162 + i := by simp [zimo]
theorem zimo63 {i : Nat} : zimo 63 i = 186 + i := by simp [zimo]
theorem zimo64 {i : Nat} : zimo 64 i = 210 + i := by simp [zimo]
theorem zimo65 {i : Nat} : zimo 65 i = 216 + i := by simp [zimo]
theorem zimo66 {i : Nat} : zimo 66 i = 264 + i := by simp [zimo]
theorem zimo67 {i : Nat} : zimo 67 i = 270 + i := by simp [zimo]
theorem zimf2 : zimo 55 2 = 318 := by simp [zimo]
theorem zimf4 : zimo 55 4 = 319 := by simp [zimo]
theorem zimf12 : zimo 55 12 = 320 := by simp [zimo]
theorem zimf14 : zimo 55 14 = 321 := by simp [zimo]
theorem zimf15 : zimo 55 15 = 322 := by simp [zimo]
theorem zimf17 : zimo 55 17 = 323 := by simp [zimo]
theorem ztk_to {M M' : zMem} (h : ztk 0 14 M M') : zsmC M (fun k i => M' (k + 14) i) := by
  obtain ⟨s5, s6, s7, s8, s9, s10, s11, s14, s15, s16, s17, f13_4, f13_5, f13_6, f4_9, f4_10, f4_11, f4_12, -⟩ := h
  exact ⟨s5, s6, s7, s8, s9, s10, s11, s14, s15, s16, s17, f13_4, f13_5, f13_6, f4_9, f4_10, f4_11, f4_12⟩
theorem ztk_fro {M M' : zMem} (h : ztk 14 0 M M') : zsmC (fun k i => M (k + 14) i) M' := by
  obtain ⟨s5, s6, s7, s8, s9, s10, s11, s14, s15, s16, s17, f13_4, f13_5, f13_6, f4_9, f4_10, f4_11, f4_12, -⟩ := h
  exact ⟨s5, s6, s7, s8, s9, s10, s11, s14, s15, s16, s17, f13_4, f13_5, f13_6, f4_9, f4_10, f4_11, f4_12⟩
theorem zim_to {M M' : zMem} (h : zim M M') : zsmR M (fun k i => M' 75 (zimo k i)) := by
  obtain ⟨s57, s58, s59, s60, s61, s62, s63, s64, s65, s66, s67, f2, f4, f12, f14, f15, f17, -⟩ := h
  exact ⟨fun i hi => by show M' 75 (zimo 57 i) = _; rw [zimo57]; exact s57 i hi, fun i hi => by show M' 75 (zimo 59 i) = _; rw [zimo59]; exact s59 i hi, fun i hi => by show M' 75 (zimo 60 i) = _; rw [zimo60]; exact s60 i hi, fun i hi => by show M' 75 (zimo 61 i) = _; rw [zimo61]; exact s61 i hi, fun i hi => by show M' 75 (zimo 62 i) = _; rw [zimo62]; exact s62 i hi, fun i hi => by show M' 75 (zimo 63 i) = _; rw [zimo63]; exact s63 i hi, fun i hi => by show M' 75 (zimo 64 i) = _; rw [zimo64]; exact s64 i hi, fun i hi => by show M' 75 (zimo 65 i) = _; rw [zimo65]; exact s65 i hi, fun i hi => by show M' 75 (zimo 66 i) = _; rw [zimo66]; exact s66 i hi, fun i hi => by show M' 75 (zimo 67 i) = _; rw [zimo67]; exact s67 i hi, by show M' 75 (zimo 55 2) = _; rw [zimf2]; exact f2, by show M' 75 (zimo 55 4) = _; rw [zimf4]; exact f4, by show M' 75 (zimo 55 12) = _; rw [zimf12]; exact f12, by show M' 75 (zimo 55 14) = _; rw [zimf14]; exact f14, by show M' 75 (zimo 55 15) = _; rw [zimf15]; exact f15, by show M' 75 (zimo 55 17) = _; rw [zimf17]; exact f17⟩
theorem zre_fro {M M' : zMem} (h : zre M M') : zsmR (fun k i => M 75 (zimo k i)) M' := by
  obtain ⟨s57, s58, s59, s60, s61, s62, s63, s64, s65, s66, s67, f2, f4, f12, f14, f15, f17, -⟩ := h
  exact ⟨fun i hi => by show _ = M 75 (zimo 57 i); rw [zimo57]; exact s57 i hi, fun i hi => by show _ = M 75 (zimo 59 i); rw [zimo59]; exact s59 i hi, fun i hi => by show _ = M 75 (zimo 60 i); rw [zimo60]; exact s60 i hi, fun i hi => by show _ = M 75 (zimo 61 i); rw [zimo61]; exact s61 i hi, fun i hi => by show _ = M 75 (zimo 62 i); rw [zimo62]; exact s62 i hi, fun i hi => by show _ = M 75 (zimo 63 i); rw [zimo63]; exact s63 i hi, fun i hi => by show _ = M 75 (zimo 64 i); rw [zimo64]; exact s64 i hi, fun i hi => by show _ = M 75 (zimo 65 i); rw [zimo65]; exact s65 i hi, fun i hi => by show _ = M 75 (zimo 66 i); rw [zimo66]; exact s66 i hi, fun i hi => by show _ = M 75 (zimo 67 i); rw [zimo67]; exact s67 i hi, by show _ = M 75 (zimo 55 2); rw [zimf2]; exact f2, by show _ = M 75 (zimo 55 4); rw [zimf4]; exact f4, by show _ = M 75 (zimo 55 12); rw [zimf12]; exact f12, by show _ = M 75 (zimo 55 14); rw [zimf14]; exact f14, by show _ = M 75 (zimo 55 15); rw [zimf15]; exact f15, by show _ = M 75 (zimo 55 17); rw [zimf17]; exact f17⟩
theorem ztk_o {o u : Nat} {M M' : zMem} (h : ztk o u M M') : ∀ k, ¬ (4 + u ≤ k ∧ k ≤ 11 + u) → ¬ (13 + u ≤ k ∧ k ≤ 17 + u) → M' k = M k := by
  obtain ⟨s5, s6, s7, s8, s9, s10, s11, s14, s15, s16, s17, f13_4, f13_5, f13_6, f4_9, f4_10, f4_11, f4_12, h⟩ := h
  exact h
theorem ztk_f {M M' : zMem} (h : ztk 0 14 M M') : M' 27 4 = M 13 4 := by
  obtain ⟨s5, s6, s7, s8, s9, s10, s11, s14, s15, s16, s17, f13_4, f13_5, f13_6, f4_9, f4_10, f4_11, f4_12, h⟩ := h
  exact f13_4
theorem zim_o {M M' : zMem} (h : zim M M') : M' 55 31 = 1 ∧ (∀ j, j ≠ 31 → M' 55 j = M 55 j) ∧ ∀ k, k ≠ 55 → k ≠ 75 → M' k = M k := by
  obtain ⟨s57, s58, s59, s60, s61, s62, s63, s64, s65, s66, s67, f2, f4, f12, f14, f15, f17, h⟩ := h
  exact h
theorem zre_o {M M' : zMem} (h : zre M M') : (∀ j, j ≠ 2 → j ≠ 4 → j ≠ 12 → j ≠ 14 → j ≠ 15 → j ≠ 17 → M' 55 j = M 55 j) ∧ ∀ k, k ≠ 55 → ¬ (57 ≤ k ∧ k ≤ 67) → M' k = M k := by
  obtain ⟨s57, s58, s59, s60, s61, s62, s63, s64, s65, s66, s67, f2, f4, f12, f14, f15, f17, h⟩ := h
  exact h
theorem zt101 : zcse zInv 101 170 [] := by
  intro M hM hav hI
  obtain ⟨sz, pl, cp, ms, hw, pn, t, ch, st, en, co, v, pm, ph, ro, pp, me, hO, hC, hR⟩ := hI.1
  have h01 : M 13 4 = 0 ∨ M 13 4 = 1 := by
    rw [hC.1]
    split
    · exact Or.inl rfl
    · exact Or.inr rfl
  refine zCt.mono (qc101 h01) ?_
  rintro q M1 ⟨r, rfl, rfl, Ma, hk, rfl⟩
  have ho := ztk_o hk
  have e1 : ∀ k, k ≠ 0 → ¬ (18 ≤ k ∧ k ≤ 25) → ¬ (27 ≤ k ∧ k ≤ 31) → zup Ma 0 10 1 k = M k := fun k k0 k1 k2 => by rw [zb_uk k0, ho k k1 k2]
  have hR1 : zQR (zup Ma 0 10 1) sz pl cp ms hw pn t ch st en co v pm ph ro pp me := zQR_fr hR (fun j _ => by rw [e1 55 (by decide) (by decide) (by decide)]) (fun k k1 k2 => e1 k (by omega) (by omega) (by omega))
  refine ⟨_, rfl, fun _ => zCt.mono qc170 ?_⟩
  rintro q M2 ⟨r', rfl, rfl, hz⟩
  obtain ⟨z1, z2, z3⟩ := zim_o hz
  have e : ∀ k, k ≠ 0 → ¬ (18 ≤ k ∧ k ≤ 25) → ¬ (27 ≤ k ∧ k ≤ 31) → k ≠ 55 → k ≠ 75 → M2 k = M k := fun k k0 k1 k2 k3 k4 => by rw [z3 k k3 k4, e1 k k0 k1 k2]
  have e55 : ∀ j, j ≠ 31 → M2 55 j = M 55 j := fun j hj => by rw [z2 j hj, e1 55 (by decide) (by decide) (by decide)]
  have ea : ∀ k, 1 ≤ k → k ≤ 54 → M2 k = Ma k := fun k k1 k2 => by rw [z3 k (by omega) (by omega), zb_uk (by omega)]
  have g0 : M2 0 10 = 1 := by rw [z3 0 (by decide) (by decide), zb_us]
  refine ⟨_, rfl, rfl, ?_, ⟨?_, ?_, fun _ => ⟨sz, pl, cp, ms, hw, pn, t, ch, st, en, co, v, pm, ph, ro, pp, me, hO, ?_, zQR_cp hO hR1 (zim_to hz)⟩⟩, ?_, ?_⟩
  · exact zCur_fr hI.1 (fun k k1 k2 _ => e k (by omega) (by omega) (by omega) (by omega) (by omega)) (fun j hj => e55 j (by omega)) (fun k k1 k2 => e k (by omega) (by omega) (by omega) (by omega) (by omega))
  · rw [g0, z1]
  · rw [ea 27 (by decide) (by decide), ztk_f hk]
    exact h01
  · exact zQC_fr (zQC_cp hO hC (ztk_to hk)) (fun k k1 k2 _ => by funext i; show M2 (k + 14) i = Ma (k + 14) i; rw [ea (k + 14) (by omega) (by omega)])
  · exact zTap_fr hI.2.2.1 (by rw [e 2 (by decide) (by decide) (by decide) (by decide) (by decide)]) (e 3 (by decide) (by decide) (by decide) (by decide) (by decide)) (e55 1 (by decide)) (e 56 (by decide) (by decide) (by decide) (by decide) (by decide))
  · exact zShs_fr hI.2.2.2 (fun k hk => e k (by omega) (by omega) (by omega) (by omega) (by omega))
theorem zt102 : zcse zInv 102 171 [] := by
  intro M hM hav hI
  obtain ⟨k1, k2, k3⟩ := hI.2.1
  refine zCt.mono (qc102 k2) ?_
  rintro q M1 ⟨r, rfl, hs⟩
  rcases hs with ⟨h0, rfl, rfl⟩ | ⟨h0, rfl, hk⟩
  · refine ⟨_, rfl, fun _ => zCt.mono qc171 ?_⟩
    rintro q M2 ⟨r', rfl, hs'⟩
    rcases hs' with ⟨_, rfl, rfl⟩ | ⟨g, _⟩
    · exact ⟨_, rfl, rfl, hI⟩
    · exact absurd (by rw [← k1]; exact h0) g
  · have ho := ztk_o hk
    refine ⟨_, rfl, fun _ => zCt.mono qc171 ?_⟩
    rintro q M2 ⟨r', rfl, hs'⟩
    rcases hs' with ⟨g, _⟩ | ⟨_, rfl, hz⟩
    · exact absurd (by rw [k1, ← g, ho 55 (by decide) (by decide)]) h0
    · obtain ⟨z1, z2⟩ := zre_o hz
      have e : ∀ k, ¬ (4 ≤ k ∧ k ≤ 11) → ¬ (13 ≤ k ∧ k ≤ 17) → k ≠ 55 → ¬ (57 ≤ k ∧ k ≤ 67) → M2 k = M k := fun k b1 b2 b3 b4 => by rw [z2 k b3 b4, ho k b1 b2]
      have e55 : ∀ j, j ≠ 2 → j ≠ 4 → j ≠ 12 → j ≠ 14 → j ≠ 15 → j ≠ 17 → M2 55 j = M 55 j := fun j b1 b2 b3 b4 b5 b6 => by rw [z1 j b1 b2 b3 b4 b5 b6, ho 55 (by decide) (by decide)]
      refine ⟨_, rfl, rfl, ?_, ?_, ?_, ?_⟩
      · obtain ⟨sz, pl, cp, ms, hw, pn, t, ch, st, en, co, v, pm, ph, ro, pp, me, hO, hC, hR⟩ := k3 h0
        refine ⟨sz, pl, cp, ms, hw, pn, t, ch, st, en, co, v, pm, ph, ro, pp, me, hO, zQC_fr (zQC_cp hO hC (ztk_fro hk)) (fun k b1 b2 _ => z2 k (by omega) (by omega)), zQR_cp (C := fun k i => M1 75 (zimo k i)) hO ?_ (zre_fro hz)⟩
        rw [ho 75 (by decide) (by decide)]
        exact hR
      · exact zKep_fr hI.2.1 (by rw [e 0 (by decide) (by decide) (by decide) (by decide)]) (e55 31 (by decide) (by decide) (by decide) (by decide) (by decide) (by decide)) (fun k b1 b2 _ => e k (by omega) (by omega) (by omega) (by omega)) (e 75 (by decide) (by decide) (by decide) (by decide))
      · exact zTap_fr hI.2.2.1 (by rw [e 2 (by decide) (by decide) (by decide) (by decide)]) (e 3 (by decide) (by decide) (by decide) (by decide)) (e55 1 (by decide) (by decide) (by decide) (by decide) (by decide) (by decide)) (e 56 (by decide) (by decide) (by decide) (by decide))
      · exact zShs_fr hI.2.2.2 (fun k hk => e k (by omega) (by omega) (by omega) (by omega))
