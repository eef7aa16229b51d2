/-! steps that change the state -/
theorem zt96 {x y : Int} : zcse zInv 96 163 [.inl x, .inl y] := zcse_q (fun M sz pl cp ms hw pn t ch st en co v pm ph ro pp me hav hO hC => ⟨_, fun _ _ h h' => zu2 h h', qc96 hO.1 hC.2.2.1 (fun i hi => ⟨hC.2.2.2.2.2.2.1 i hi, hO.2.2.2.2.2.1 i hi⟩), fun M1 hR => qc163 hO.1 hR.2.1 (fun i hi => ⟨hR.2.2.2.2.2.1 i hi, hO.2.2.2.2.2.1 i hi⟩)⟩)
/-- the class changes what is current, and scratch -/
def zgcC (M M' : zMem) : Prop := ∀ k, ¬ (4 ≤ k ∧ k ≤ 17) → k ≠ 1 → (k < 36 ∨ 54 < k) → M' k = M k
/-- the reference changes what is current, and scratch -/
def zgcR (M M' : zMem) : Prop := (∀ k, k ≠ 55 → ¬ (57 ≤ k ∧ k ≤ 67) → (k < 68 ∨ (74 < k ∧ k ≠ 79)) → M' k = M k) ∧ M' 55 31 = M 55 31 ∧ M' 55 1 = M 55 1
theorem zcse_g {mc mm : Nat} {av : List zV} (h : ∀ M sz pl cp ms hw pn t ch st en co v pm ph ro pp me, (∀ v ∈ av, zrg v) → zOK sz pl cp ms hw pn t ch st en co v pm ph ro pp me → zQC M sz pl cp ms hw pn t ch st en co v pm ph ro pp me → ∃ P : Int → zMem → Prop, zCi 20 mc (.inr (.inr 0) :: av) M P ∧ ∀ r M1, P r M1 → zgcC M M1 ∧ (zQR M1 sz pl cp ms hw pn t ch st en co v pm ph ro pp me → zCi 20 mm (.inr (.inr 55) :: av) M1 (fun r' M2 => r' = r ∧ zgcR M1 M2 ∧ ∃ sz pl cp ms hw pn t ch st en co v pm ph ro pp me, zOK sz pl cp ms hw pn t ch st en co v pm ph ro pp me ∧ zQC M1 sz pl cp ms hw pn t ch st en co v pm ph ro pp me ∧ zQR M2 sz pl cp ms hw pn t ch st en co v pm ph ro pp me))) : zcse zInv mc mm av := by
  intro M hM hav hI
  obtain ⟨sz, pl, cp, ms, hw, pn, t, ch, st, en, co, v, pm, ph, ro, pp, me, hO, hC, hR⟩ := hI.1
  obtain ⟨P, h1, h2⟩ := h M sz pl cp ms hw pn t ch st en co v pm ph ro pp me hav hO hC
  refine zCt.mono h1 ?_
  rintro q M1 ⟨r, rfl, hp⟩
  obtain ⟨hg, h3⟩ := h2 r M1 hp
  refine ⟨r, rfl, fun _ => zCt.mono (h3 ?_) ?_⟩
  · exact zQR_fr hR (fun j _ => by rw [hg 55 (by decide) (by decide) (by decide)]) (fun k k1 k2 => hg k (by omega) (by omega) (by omega))
  · rintro q M2 ⟨r', rfl, hr, hf, hX⟩
    refine ⟨r', rfl, hr, ?_, ?_, ?_, ?_⟩
    · obtain ⟨sz, pl, cp, ms, hw, pn, t, ch, st, en, co, v, pm, ph, ro, pp, me, c1, c2, c3⟩ := hX
      exact ⟨sz, pl, cp, ms, hw, pn, t, ch, st, en, co, v, pm, ph, ro, pp, me, c1, zQC_fr c2 (fun k k1 k2 k3 => hf.1 k (by omega) (by omega) (by omega)), c3⟩
    · exact zKep_fr hI.2.1 (by rw [hf.1 0 (by decide) (by decide) (by decide), hg 0 (by decide) (by decide) (by decide)]) (by rw [hf.2.1, hg 55 (by decide) (by decide) (by decide)]) (fun k k1 k2 _ => by rw [hf.1 k (by omega) (by omega) (by omega), hg k (by omega) (by omega) (by omega)]) (by rw [hf.1 75 (by decide) (by decide) (by decide), hg 75 (by decide) (by decide) (by decide)])
    · exact zTap_fr hI.2.2.1 (by rw [hf.1 2 (by decide) (by decide) (by decide), hg 2 (by decide) (by decide) (by decide)]) (by rw [hf.1 3 (by decide) (by decide) (by decide), hg 3 (by decide) (by decide) (by decide)]) (by rw [hf.2.2, hg 55 (by decide) (by decide) (by decide)]) (by rw [hf.1 56 (by decide) (by decide) (by decide), hg 56 (by decide) (by decide) (by decide)])
    · exact zShs_fr hI.2.2.2 (fun k hk => by rw [hf.1 k (by omega) (by omega) (by omega), hg k (by omega) (by omega) (by omega)])
theorem zgcC_f {M M' : zMem} (h : zfC M M') : zgcC M M' := fun k _ k2 k3 => h k k2 (by omega) k3
theorem zt92 {x y : Int} : zcse zInv 92 155 [.inl x, .inl y] := zcse_g (fun M sz pl cp ms hw pn t ch st en co v pm ph ro pp me hav hO hC => ⟨_, qc92 (zQC_C hO hC), by
  rintro r M1 ⟨hs, hf⟩
  refine ⟨zgcC_f hf, fun hR => zCt.mono (qc155 (zQR_C hO hR)) ?_⟩
  rintro q M2 ⟨r', rfl, hs', ⟨f1, f2, f3⟩, f4⟩
  have h12 : ∀ j, j ≠ 21 → j ≠ 24 → j ≠ 25 → j ≠ 26 → M2 55 j = M1 55 j := fun j j1 j2 j3 j4 => by
    by_cases hj : j = 12
    · subst hj; exact f4
    · exact f2 j hj j1 j2 j3 j4
  refine ⟨r', rfl, zu2 hs hs', ⟨fun k k1 k2 k3 => f1 k k1 (by omega) (by omega), h12 31 (by decide) (by decide) (by decide) (by decide), h12 1 (by decide) (by decide) (by decide) (by decide)⟩, sz, pl, cp, ms, hw, pn, t, ch, st, en, co, v, pm, ph, ro, pp, me, hO, zQC_fr hC (fun k k1 k2 k3 => hf k (by omega) k3 (by omega)), ?_⟩
  unfold zQR zlR zRR at hR ⊢
  rw [f1 57 (by decide) (by decide) (by decide), f1 59 (by decide) (by decide) (by decide), f1 60 (by decide) (by decide) (by decide), f1 61 (by decide) (by decide) (by decide), f1 62 (by decide) (by decide) (by decide), f1 63 (by decide) (by decide) (by decide), f1 64 (by decide) (by decide) (by decide), f1 66 (by decide) (by decide) (by decide), f1 67 (by decide) (by decide) (by decide), h12 2 (by decide) (by decide) (by decide) (by decide), h12 4 (by decide) (by decide) (by decide) (by decide), h12 12 (by decide) (by decide) (by decide) (by decide), h12 14 (by decide) (by decide) (by decide) (by decide), h12 15 (by decide) (by decide) (by decide) (by decide), h12 17 (by decide) (by decide) (by decide) (by decide)]
  obtain ⟨a1, ⟨b1, b2, b3, b4, b5⟩, a3⟩ := hR
  have h6 := hO.1.1
  exact ⟨a1, ⟨b1, b2, b3, b4, fun c hc p hp => by rw [f3 _ (by omega)]; exact b5 c hc p hp⟩, a3⟩⟩)
