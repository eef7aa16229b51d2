/-! match and printed of the class -/
theorem zlC_fr {M M' : zMem} {t : Nat → Nat} {n pl : Nat} {ch st en : Nat → Nat} (h : zlC M t n pl ch st en) (hf : ∀ k, 13 ≤ k → k ≤ 17 → M' k = M k) : zlC M' t n pl ch st en := by
  unfold zlC
  rw [hf 13 (by decide) (by decide), hf 14 (by decide) (by decide), hf 15 (by decide) (by decide), hf 16 (by decide) (by decide), hf 17 (by decide) (by decide)]
  exact h
theorem zvl_ok {pl : Nat} {ch : Nat → Nat} {k p : Nat} : zvl pl ch k p < ch p ∨ zvl pl ch k p = 4 := by
  unfold zvl zv6
  split
  · left; assumption
  · right; rfl
def ztab (M : zMem) (t w : Nat → Nat) (n pl nt : Nat) (ch st en : Nat → Nat) (p : Nat) : Prop := ∀ q, p ≤ q → q ≤ pl → ∀ a, a ≤ nt → zpv t w n pl nt ch st en (pl - q) q a (M 48 (121 * q + a))
theorem zq42f {d : Nat} {t w : Nat → Nat} {n pl nt : Nat} {ch st en : Nat → Nat} (hW : zWL t n pl ch st en) (hnt : nt ≤ 120) : ∀ (m p at0 j : Nat) (M : zMem), p + m = pl → at0 ≤ nt → j < zwq (zn6 pl ch 1) 6 p → zGm t w n pl nt ch st en m p at0 j → (∀ j', j' < j → ¬ zGm t w n pl nt ch st en m p at0 j') → ztab M t w n pl nt ch st en p → zlC M t n pl ch st en →
    zBg (d + 1) 42 73 [zR 47, zR 13, none, none, zR 8, zI (at0 : Int), zI (p : Int), none] [] M (fun q M' => ∃ r : Int, q = some (.inl r) ∧ r = 1 ∧ (∀ q, p ≤ q → q < pl → M' 8 q = (zvl pl ch j q : Int)) ∧ (∀ q, q < p ∨ pl ≤ q → M' 8 q = M 8 q) ∧ ∀ k, k ≠ 8 → M' k = M k) := by
  have h6 := hW.2.2.1
  have h120 := hW.2.1
  intro m
  induction m with
  | zero =>
    intro p at0 j M hp hat hj hg hl hT hC
    refine zv42_73 _ _ ?_
    rw [hC.2.1]
    exact ⟨fun _ => ⟨Or.inr rfl, _, rfl, rfl, fun q g1 g2 => by omega, fun _ _ => rfl, fun _ _ => rfl⟩, fun g => absurd (by omega) g⟩
  | succ m ih =>
    intro p at0 j M hp hat hj hg hl hT hC
    obtain ⟨q1, q2, _, q4⟩ := zWL_pl hW (p := p) (by omega)
    have hv : M 48 (121 * p + at0) = (zvl pl ch j p : Int) := by
      have h := hT p (Nat.le_refl _) (by omega) at0 hat
      rw [show pl - p = m + 1 by omega] at h
      rcases h with ⟨_, h⟩ | ⟨j1, h1, h2, h3, h4⟩
      · exact absurd hg (h j hj)
      · have : j1 = j := by
          rcases Nat.lt_trichotomy j1 j with g | g | g
          · exact absurd h2 (hl j1 g)
          · exact g
          · exact absurd hg (h3 j g)
        rw [h4, this, if_pos (by omega)]
    obtain ⟨g1, g2, g3⟩ := (zGm_s h6 hp hat hj).mp hg
    obtain ⟨d1, d2, d3, d4⟩ := zvl_dm (ch := ch) h6 (p := p) (by omega) hj
    have g11 := g1.1
    have g21 := g2.1
    refine zv42_73 _ _ ?_
    rw [hC.2.1, show ((p : Int) * 121 + (at0 : Int)).toNat = 121 * p + at0 by omega, hv, Int.toNat_natCast]
    refine ⟨fun g => by omega, fun _ => ⟨⟨by omega, by omega⟩, ⟨by omega, by omega⟩, by omega, by omega, by omega, by omega, ?_⟩⟩
    have hC1 : zlC (zup M 8 p (zvl pl ch j p : Int)) t n pl ch st en := zlC_fr hC (fun k k1 k2 => by rw [zb_uk (by omega)])
    refine ⟨_, qc38 hW hC1 (by omega), ?_⟩
    rintro r1 M1 ⟨rfl, rfl⟩
    refine ⟨_, qc37 hW hC1 (by omega), ?_⟩
    rintro r2 M2 ⟨rfl, rfl⟩
    refine ⟨⟨by omega, by omega⟩, _, qc44 hW hC1 (by omega) zvl_ok, ?_⟩
    rintro r3 M3 ⟨rfl, rfl⟩
    refine ⟨⟨by omega, by omega⟩, ⟨by omega, by omega⟩, ⟨by omega, by omega⟩, ?_⟩
    rw [show (at0 : Int) + ((zqe n pl st p : Int) - (zqs ch en p : Int) + (zwdt st en p (zvl pl ch j p) : Int)) = ((at0 + (zqe n pl st p - zqs ch en p) + zwdt st en p (zvl pl ch j p) : Nat) : Int) by omega]
    have hr := ih (p + 1) (at0 + (zqe n pl st p - zqs ch en p) + zwdt st en p (zvl pl ch j p)) (j % zwq (zn6 pl ch 1) 6 (p + 1)) _ (by omega) g21 d3 g3 ?_ ?_ hC1
    · refine hr.mono ?_
      rintro q M' ⟨r, e0, e1, e2, e3, e4⟩
      refine ⟨r, e0, e1, fun q' h1 h2 => ?_, fun q' h1 => ?_, fun k hk => ?_⟩
      · by_cases hq : q' = p
        · subst hq
          rw [e3 _ (Or.inl (by omega)), zb_us]
        · rw [e2 q' (by omega) h2, d4 q' (by omega) h2]
      · rw [e3 q' (by omega), zb_ui (by omega)]
      · rw [e4 k hk, zb_uk hk]
    · intro j' hj' hgj
      have e := Nat.mod_add_div j (zwq (zn6 pl ch 1) 6 (p + 1))
      generalize hZ : zwq (zn6 pl ch 1) 6 (p + 1) = Z at e hj' d3
      have hlt : Z * (j / Z) + j' < j := by omega
      have hdiv : (Z * (j / Z) + j') / Z = j / Z := by
        rw [Nat.mul_add_div (by omega), Nat.div_eq_of_lt (a := j') (by omega), Nat.add_zero]
      have hmod : (Z * (j / Z) + j') % Z = j' := by
        rw [Nat.mul_add_mod, Nat.mod_eq_of_lt (by omega)]
      have hv2 := (zvl_dm (ch := ch) (j := Z * (j / Z) + j') h6 (p := p) (by omega) (by omega)).2.1
      rw [hZ, hdiv, ← hZ, ← d2] at hv2
      refine hl _ hlt ((zGm_s h6 hp hat (by omega)).mpr ?_)
      rw [hZ, hmod, ← hZ, hv2]
      exact ⟨g1, g2, hgj⟩
    · intro q k1 k2 a ha
      rw [zb_uk (by decide)]
      exact hT q (by omega) k2 a ha
