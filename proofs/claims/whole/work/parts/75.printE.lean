/-! match and printed of the class, whole -/
def zsM (t w : Nat → Nat) (n pl nt : Nat) (ch st en : Nat → Nat) (P P' : Nat → Int) (r : Int) : Prop := (r = 0 ∧ (∀ j, j < zwq (zn6 pl ch 1) 6 0 → ¬ zGm t w n pl nt ch st en pl 0 0 j) ∧ P' = P) ∨ (r = 1 ∧ ∃ j, j < zwq (zn6 pl ch 1) 6 0 ∧ zGm t w n pl nt ch st en pl 0 0 j ∧ (∀ j', j' < j → ¬ zGm t w n pl nt ch st en pl 0 0 j') ∧ (∀ p, p < pl → P' p = (zvl pl ch j p : Int)) ∧ ∀ p, pl ≤ p → P' p = P p)
theorem qc42 {d : Nat} {M : zMem} {t w : Nat → Nat} {n pl nt : Nat} {ch st en : Nat → Nat} (hW : zWL t n pl ch st en) (hC : zlC M t n pl ch st en) (hw : ∀ i, i < nt → M 3 i = w i) (hnt : nt ≤ 120) : zCi (d + 2) 42 [.inr (.inr 47), .inr (.inr 13), .inr (.inr 3), .inl (nt : Int), .inr (.inr 8)] M (fun r M' => zsM t w n pl nt ch st en (M 8) (M' 8) r ∧ ∀ k, k ≠ 8 → k ≠ 48 → M' k = M k) := by
  have h6 := hW.2.2.1
  refine zk42 (zv42_0 _ ?_)
  rw [hC.2.1]
  have key : ∀ (p : Nat) (M2 : zMem), p ≤ pl + 1 → ztab M2 t w n pl nt ch st en p → (∀ k, k ≠ 48 → M2 k = M k) → zBg (d + 2) 42 6 [zR 47, zR 13, zR 3, zI (nt : Int), zR 8, zI ((p : Int) - 1), none, none] [] M2 (fun q M' => ∃ r : Int, q = some (.inl r) ∧ zsM t w n pl nt ch st en (M 8) (M' 8) r ∧ ∀ k, k ≠ 8 → k ≠ 48 → M' k = M k) := by
    intro p
    induction p with
    | zero =>
      intro M2 hp hT hF
      have hC2 : zlC M2 t n pl ch st en := zlC_fr hC (fun k k1 k2 => hF k (by omega))
      refine zv42_6 _ _ ⟨fun _ => ⟨by omega, by omega, fun g => ?_, fun g => ?_⟩, fun g => absurd (by omega) g⟩
      · have h0 := hT 0 (Nat.le_refl _) (by omega) 0 (by omega)
        rcases h0 with ⟨h1, _⟩ | ⟨j, h1, h2, h3, _⟩
        · simp only [Nat.mul_zero, Nat.add_zero] at h1
          omega
        · rw [Nat.sub_zero] at h2 h3
          refine (zq42f (d := d + 1) hW hnt pl 0 0 j M2 (by omega) (by omega) h1 h2 h3 hT hC2).mono ?_
          rintro q M' ⟨r, e0, rfl, e2, e3, e4⟩
          refine ⟨1, e0, Or.inr ⟨rfl, j, h1, h2, h3, fun p hp => e2 p (by omega) hp, fun p hp => ?_⟩, fun k k1 k2 => by rw [e4 k k1]; exact hF k k2⟩
          rw [e3 p (Or.inr hp), hF 8 (by decide)]
      · have h0 := hT 0 (Nat.le_refl _) (by omega) 0 (by omega)
        refine ⟨Or.inl rfl, _, rfl, Or.inl ⟨rfl, ?_, hF 8 (by decide)⟩, fun k _ k2 => hF k k2⟩
        rcases h0 with ⟨_, h1⟩ | ⟨j, h1, h2, h3, h4⟩
        · rw [Nat.sub_zero] at h1
          exact h1
        · simp only [Nat.mul_zero, Nat.add_zero] at h4
          split at h4 <;> omega
    | succ p ih =>
      intro M2 hp hT hF
      have lop : ∀ (s a : Nat) (M3 : zMem), a + s = nt + 1 → ztab M3 t w n pl nt ch st en (p + 1) → (∀ x, x < a → zpv t w n pl nt ch st en (pl - p) p x (M3 48 (121 * p + x))) → (∀ k, k ≠ 48 → M3 k = M k) → zBg (d + 2) 42 14 [zR 47, zR 13, zR 3, zI (nt : Int), zR 8, zI (p : Int), zI (a : Int), none] [] M3 (fun q M' => ∃ r : Int, q = some (.inl r) ∧ zsM t w n pl nt ch st en (M 8) (M' 8) r ∧ ∀ k, k ≠ 8 → k ≠ 48 → M' k = M k) := by
        intro s
        induction s with
        | zero =>
          intro a M3 ha hT3 hR hF3
          refine zv42_14 _ _ _ ⟨fun _ => ⟨⟨by omega, by omega⟩, ?_⟩, fun g => absurd (by omega) g⟩
          refine ih M3 (by omega) (fun q q1 q2 x hx => ?_) hF3
          by_cases hq : q = p
          · subst hq; exact hR x (by omega)
          · exact hT3 q (by omega) q2 x hx
        | succ s ih2 =>
          intro a M3 ha hT3 hR hF3
          have hC3 : zlC M3 t n pl ch st en := zlC_fr hC (fun k k1 k2 => hF3 k (by omega))
          refine zv42_14 _ _ _ ⟨fun g => by omega, fun _ => ⟨⟨by omega, by omega⟩, ⟨by omega, by omega⟩, _, qc43 (m := pl - p) hW hC3 (by rw [hF3 3 (by decide)]; exact hw) hnt (by omega) (by omega) (fun m' hm' x hx => ?_), ?_⟩⟩
          · have := hT3 (p + 1) (Nat.le_refl _) (by omega) x hx
            rw [show pl - (p + 1) = m' by omega] at this
            exact this
          · rintro r M4 ⟨hr, rfl⟩
            rw [show ((p : Int) * 121 + (a : Int)).toNat = 121 * p + a by omega]
            refine ⟨by omega, by omega, ⟨by omega, by omega⟩, ih2 (a + 1) _ (by omega) (fun q q1 q2 x hx => ?_) (fun x hx => ?_) (fun k hk => by rw [zb_uk hk]; exact hF3 k hk)⟩
            · rw [zb_ui (by omega)]; exact hT3 q q1 q2 x hx
            · by_cases hxa : x = a
              · subst hxa; rw [zb_us]; exact hr
              · rw [zb_ui (by omega)]; exact hR x (by omega)
      refine zv42_6 _ _ ⟨fun g => by omega, fun _ => ?_⟩
      rw [show ((p + 1 : Nat) : Int) - 1 = (p : Int) by omega]
      exact lop (nt + 1) 0 M2 (by omega) hT (fun x hx => by omega) hF
  have h := key (pl + 1) M (Nat.le_refl _) (fun q q1 q2 => by omega) (fun _ _ => rfl)
  rw [show ((pl + 1 : Nat) : Int) - 1 = (pl : Int) by omega] at h
  exact h
theorem qc84 {d : Nat} {M : zMem} {t w : Nat → Nat} {n pl nt : Nat} {ch st en : Nat → Nat} (hn : M 13 4 = if n = 0 then 0 else 1) (htn : M 2 1 = nt) (h120 : nt ≤ 120) (hw : ∀ i, i < nt → M 3 i = w i) (hW : n ≠ 0 → zWL t n pl ch st en ∧ zlC M t n pl ch st en) : zCi (d + 3) 84 [.inr (.inr 0)] M (fun r M' => ((n = 0 ∧ r = -2 ∧ M' 8 = M 8) ∨ (n ≠ 0 ∧ zsPr pl (zwq (zn6 pl ch 1) 6 0) ch (fun k => zrd t n pl ch st en (zvl pl ch k) pl 0) (zsg w nt 0) (M 8) (M' 8) r)) ∧ M' 2 1 = 0 ∧ (∀ j, j ≠ 1 → M' 2 j = M 2 j) ∧ ∀ k, k ≠ 2 → k ≠ 8 → k ≠ 48 → M' k = M k) := by
  refine zk84 (zv84_0 ?_)
  rw [hn, htn]
  refine ⟨fun g => ?_, fun g => ⟨_, rfl, Or.inl ⟨?_, rfl, by rw [zb_uk (by decide)]⟩, zb_us, fun j hj => by rw [zb_ui hj], fun k hk _ _ => by rw [zb_uk hk]⟩⟩
  · have hn0 : n ≠ 0 := by
      intro h0
      rw [if_pos h0] at g
      exact g rfl
    obtain ⟨W1, W2⟩ := hW hn0
    refine ⟨_, qc42 (M := zup M 2 1 0) W1 (zlC_fr W2 (fun k k1 k2 => by rw [zb_uk (by omega)])) (fun i hi => by rw [zb_uk (by decide)]; exact hw i hi) h120, ?_⟩
    rintro v M1 ⟨hv, hF⟩
    rw [zb_uk (k' := 8) (by decide)] at hv
    have a1 : M1 2 1 = 0 := by rw [hF 2 (by decide) (by decide), zb_us]
    have a2 : ∀ j, j ≠ 1 → M1 2 j = M 2 j := fun j hj => by rw [hF 2 (by decide) (by decide), zb_ui hj]
    have a3 : ∀ k, k ≠ 2 → k ≠ 8 → k ≠ 48 → M1 k = M k := fun k k1 k2 k3 => by rw [hF k k2 k3, zb_uk k1]
    rcases hv with ⟨rfl, h1, h2⟩ | ⟨rfl, j, h1, h2, h3, h4, h5⟩
    · exact ⟨fun _ => ⟨_, rfl, Or.inr ⟨hn0, Or.inl ⟨h1, rfl, h2⟩⟩, a1, a2, a3⟩, fun g => absurd rfl g⟩
    · exact ⟨fun g => absurd g (by decide), fun _ => ⟨_, rfl, Or.inr ⟨hn0, Or.inr ⟨j, h1, h2, h3, rfl, h4, h5⟩⟩, a1, a2, a3⟩⟩
  · by_cases h0 : n = 0
    · exact h0
    · rw [if_neg h0] at g
      exact absurd (by decide) g
