/-! look, list, madeBy, suspect of the class -/
theorem qc9 {d : Nat} {M : zMem} {pl cp ms hw : Nat} {ch : Nat → Nat} {me : Nat → Int} {ro : Nat → Nat → Nat} (hF : zWF pl cp ch me ro) (hR : zRC M pl cp ch me ro) :
    zCv (d + 1) 9 [.inr (.inr 42), .inr (.inr 4), .inl (ms : Int), .inl (hw : Int)] M (fun M' => zJn M' pl cp ch me ro ms hw ∧ ∀ k, k ≠ 42 → k ≠ 43 → M' k = M k) := by
  obtain ⟨f1, f2, f3, f4⟩ := hF
  obtain ⟨r1, r2, r3, r4, r5⟩ := hR
  refine zk9 (zv9_0 _ _ ?_)
  have key2 : ∀ (m c : Nat) (M1 : zMem), c + m = cp → (∀ k, k ≠ 42 → k ≠ 43 → M1 k = M k) → (M1 42 5 = cp ∧ M1 42 6 = ms ∧ M1 42 7 = hw ∧ M1 42 8 = (zW 6 (zdgs pl (fun _ => 1)) : Int) ∧ M1 42 9 = (zW 6 (zdgs pl (fun p => 2 ^ ch p - 1)) : Int) ∧ M1 42 10 = (zW 6 (zdgs pl (fun p => zmd (me p))) : Int)) → (∀ q, q < c → M1 43 q = (zbits pl (ro q) : Int)) →
      zBg (d + 1) 9 133 [zR 42, zR 4, none, none, zI (c : Int)] [] M1 (fun r M' => r = none ∧ zJn M' pl cp ch me ro ms hw ∧ ∀ k, k ≠ 42 → k ≠ 43 → M' k = M k) := by
    intro m
    induction m with
    | zero =>
      intro c M1 hc h1 h2 h3
      have : c = cp := by omega
      subst this
      obtain ⟨a1, a2, a3, a4, a5, a6⟩ := h2
      exact zv9_133 _ ⟨fun _ => ⟨rfl, ⟨a1, a2, a3, a4, a5, a6, h3⟩, h1⟩, fun h => absurd (by omega) h⟩
    | succ m ih =>
      intro c M1 hc h1 h2 h3
      have a1 := h2.1
      refine zv9_133 _ ⟨fun h => by omega, fun _ => ⟨⟨by omega, by omega⟩, ?_⟩⟩
      rw [show (c : Int) * 6 = ((6 * c : Nat) : Int) by omega]
      refine ⟨_, qc60 (n := 48) (v := ro c) (by rw [h1 13 (by decide) (by decide)]; exact r1) f1 rfl (by omega) (by decide) (fun p hp => ?_), ?_⟩
      · have := f4 c (by omega) p hp
        have := (f3 p hp).2.1
        exact ⟨by rw [h1 7 (by decide) (by decide)]; exact r5 c (by omega) p hp, by omega⟩
      · rintro v1 M2 ⟨rfl, rfl⟩
        rw [Int.toNat_natCast]
        refine ⟨by omega, by omega, ⟨by omega, by omega⟩, ?_⟩
        refine ih (c + 1) _ (by omega) (fun k hk hk2 => by rw [zb_uk hk2]; exact h1 k hk hk2) (by rw [zb_uk (by decide)]; exact h2) (fun q hq => ?_)
        by_cases hqc : q = c
        · subst hqc; exact zb_us
        · rw [zb_ui hqc]; exact h3 q (by omega)
  have key1 : ∀ (m p : Nat) (M1 : zMem), p + m = pl → (∀ k, k ≠ 42 → k ≠ 43 → M1 k = M k) → (M1 42 5 = cp ∧ M1 42 6 = ms ∧ M1 42 7 = hw ∧ M1 42 8 = (zW 6 (zdgs p (fun _ => 1)) : Int) ∧ M1 42 9 = (zW 6 (zdgs p (fun p => 2 ^ ch p - 1)) : Int) ∧ M1 42 10 = (zW 6 (zdgs p (fun p => zmd (me p))) : Int)) →
      zBg (d + 1) 9 36 [zR 42, zR 4, none, none, zI (p : Int)] [] M1 (fun r M' => r = none ∧ zJn M' pl cp ch me ro ms hw ∧ ∀ k, k ≠ 42 → k ≠ 43 → M' k = M k) := by
    intro m
    induction m with
    | zero =>
      intro p M1 hp h1 h2
      have : p = pl := by omega
      subst this
      refine zv9_36 _ ⟨fun _ => key2 cp 0 M1 (by omega) h1 h2 (fun q hq => by omega), fun h => absurd ?_ h⟩
      rw [h1 13 (by decide) (by decide), r1]
      omega
    | succ m ih =>
      intro p M1 hp h1 h2
      obtain ⟨a1, a2, a3, a4, a5, a6⟩ := h2
      have e13 : M1 13 6 = pl := by rw [h1 13 (by decide) (by decide)]; exact r1
      have e15 : M1 15 p = ch p := by rw [h1 15 (by decide) (by decide)]; exact r3 p (by omega)
      have e6 : M1 6 p = me p := by rw [h1 6 (by decide) (by decide)]; exact r4 p (by omega)
      obtain ⟨w1, w2, w3, w4⟩ := f3 p (by omega)
      have hany : ∀ i, i < p + 1 → 2 ^ ch i - 1 < 32 := fun i hi => by have := zb_p2le (a := ch i) (b := 4) (f3 i (by omega)).2.1; omega
      have hmd : ∀ i, i < p + 1 → zmd (me i) < 32 := fun i hi => by have := zmd_lt (me := me i) (by have := f3 i (by omega); omega); omega
      have s1 := zdgs_s (p := p) (g := fun _ => 1) (by omega) (fun _ _ => by decide)
      have s2 := zdgs_s (p := p) (g := fun p => 2 ^ ch p - 1) (by omega) hany
      have s3 := zdgs_s (p := p) (g := fun p => zmd (me p)) (by omega) hmd
      have l1 : zW 6 (zdgs p (fun _ => 1)) < 2 ^ 30 := zdgs_30 (fun _ _ => by decide)
      have l2 : zW 6 (zdgs p (fun p => 2 ^ ch p - 1)) < 2 ^ 30 := zdgs_30 (fun i hi => hany i (by omega))
      have l3 : zW 6 (zdgs p (fun p => zmd (me p))) < 2 ^ 30 := zdgs_30 (fun i hi => hmd i (by omega))
      have m2 := hany p (by omega)
      have m3 := hmd p (by omega)
      have t1 : zior (M1 42 8) (zishl 1 (5 * (p : Int))) = ((zW 6 (zdgs (p + 1) (fun _ => 1)) : Nat) : Int) := by
        have l4 := zb_sh (a := 1) (p := p) (by decide) (by omega)
        rw [a4, show 5 * (p : Int) = ((5 * p : Nat) : Int) by omega, zb_shl1 (by omega), zb_or (by omega) (by omega), ← s1, Nat.one_mul]
      have t2 : zishl 1 (M1 15 p) - 1 = ((2 ^ ch p - 1 : Nat) : Int) := by
        rw [e15, zb_shl1 (by omega)]
        have := Nat.two_pow_pos (ch p)
        omega
      have t3 : zior (M1 42 9) (zishl (((2 ^ ch p - 1 : Nat) : Int)) (5 * (p : Int))) = ((zW 6 (zdgs (p + 1) (fun p => 2 ^ ch p - 1)) : Nat) : Int) := by
        have l4 := zb_sh (a := 2 ^ ch p - 1) (p := p) m2 (by omega)
        rw [a5, show 5 * (p : Int) = ((5 * p : Nat) : Int) by omega, zb_shl (by omega) (by omega), zb_or (by omega) (by omega), ← s2]
      have hp2 := zb_p2le (a := ch p) (b := 4) w2
      refine zv9_36 _ ⟨fun h => by omega, fun _ => ?_⟩
      rw [Int.toNat_natCast, t1, t2, t3, e6]
      refine ⟨⟨by omega, by omega⟩, by omega, by omega, ⟨by omega, by omega⟩, ⟨by omega, by omega⟩, by omega, by omega, fun h => ⟨⟨by omega, by omega⟩, ?_⟩, fun h => ⟨⟨by omega, by omega⟩, by omega, by omega, ⟨by omega, by omega⟩, ⟨by omega, by omega⟩, ?_⟩⟩
      · refine ih (p + 1) _ (by omega) (fun k hk hk2 => by rw [zb_uk hk, zb_uk hk]; exact h1 k hk hk2) ⟨by simp [zup]; exact a1, by simp [zup]; exact a2, by simp [zup]; exact a3, by simp [zup], by simp [zup], ?_⟩
        have z : zmd (me p) = 0 := by unfold zmd; rw [if_pos h]
        rw [← s3, z]
        simp [zup, a6]
      · have z : zmd (me p) = 2 ^ (me p).toNat := by unfold zmd; rw [if_neg h]
        have t4 : zior (M1 42 10) (zishl 1 (5 * (p : Int) + me p)) = ((zW 6 (zdgs (p + 1) (fun p => zmd (me p))) : Nat) : Int) := by
          rw [a6, show 5 * (p : Int) + me p = ((5 * p + (me p).toNat : Nat) : Int) by omega, zb_shl1 (by omega), zb_or (by omega) (zb_p2 (by omega)), ← s3, z, Nat.pow_add, Nat.mul_comm]
        rw [t4]
        exact ih (p + 1) _ (by omega) (fun k hk hk2 => by rw [zb_uk hk, zb_uk hk, zb_uk hk]; exact h1 k hk hk2) ⟨by simp [zup]; exact a1, by simp [zup]; exact a2, by simp [zup]; exact a3, by simp [zup], by simp [zup], by simp [zup]⟩
  refine key1 pl 0 _ (by omega) (fun k hk hk2 => by simp only [zb_uk hk]) ⟨?_, ?_, ?_, ?_, ?_, ?_⟩
  · simp [zup]; exact r2
  · simp [zup]
  · simp [zup]
  · rw [zdgs_z]; simp [zup]
  · rw [zdgs_z]; simp [zup]
  · rw [zdgs_z]; simp [zup]
theorem zJn_of {M M' : zMem} {pl cp ms hw : Nat} {ch : Nat → Nat} {me : Nat → Int} {ro : Nat → Nat → Nat} (h : zJn M pl cp ch me ro ms hw) (h1 : ∀ j, 5 ≤ j → j < 11 → M' 42 j = M 42 j) (h2 : M' 43 = M 43) : zJn M' pl cp ch me ro ms hw := by
  unfold zJn
  rw [h1 5 (by decide) (by decide), h1 6 (by decide) (by decide), h1 7 (by decide) (by decide), h1 8 (by decide) (by decide), h1 9 (by decide) (by decide), h1 10 (by decide) (by decide), h2]
  exact h
theorem qc10 {d : Nat} {M : zMem} {pl cp ms hw : Nat} {ch : Nat → Nat} {me : Nat → Int} {ro : Nat → Nat → Nat} (hF : zWF pl cp ch me ro) (hJ : zJn M pl cp ch me ro ms hw) (hms : ms ≤ 3) :
    zCv (d + 1) 10 [.inr (.inr 42)] M (fun M' => zJn M' pl cp ch me ro ms hw ∧ zLs M' pl cp ch me ro hw (zSs cp ms) ∧ ∀ k, k < 42 ∨ k = 43 ∨ 46 < k → M' k = M k) := by
  refine zk10 (zv10_0 ?_)
  have hcp := hF.2.1
  have h256 : 2 ^ cp ≤ 2 ^ 8 := zb_p2le hcp
  have key : ∀ (m k : Nat) (M1 : zMem), k + m = ms + 1 → 1 ≤ k → zJn M1 pl cp ch me ro ms hw → zLs M1 pl cp ch me ro hw (zSs cp (k - 1)) → (∀ k, k < 42 ∨ k = 43 ∨ 46 < k → M1 k = M k) →
      zBg (d + 1) 10 7 [zR 42, zI (k : Int), none] [] M1 (fun r M' => r = none ∧ zJn M' pl cp ch me ro ms hw ∧ zLs M' pl cp ch me ro hw (zSs cp ms) ∧ ∀ k, k < 42 ∨ k = 43 ∨ 46 < k → M' k = M k) := by
    intro m
    induction m with
    | zero =>
      intro k M1 hk hk1 a1 a2 a3
      have : k = ms + 1 := by omega
      subst this
      refine zv10_7 _ ⟨fun _ => ⟨rfl, a1, a2, a3⟩, fun h => absurd ?_ h⟩
      rw [a1.2.1]; omega
    | succ m ih =>
      intro k M1 hk hk1 a1 a2 a3
      refine zv10_7 _ ⟨fun h => by rw [a1.2.1] at h; omega, fun _ => ?_⟩
      have key2 : ∀ (n s : Nat) (M2 : zMem), s + n = 2 ^ cp → 1 ≤ s → zJn M2 pl cp ch me ro ms hw → zLs M2 pl cp ch me ro hw (zSs cp (k - 1) ++ (List.range s).filter (fun s => zpop s == k)) → (∀ k, k < 42 ∨ k = 43 ∨ 46 < k → M2 k = M k) →
          zBg (d + 1) 10 17 [zR 42, zI (k : Int), zI (s : Int)] [] M2 (fun r M' => r = none ∧ zJn M' pl cp ch me ro ms hw ∧ zLs M' pl cp ch me ro hw (zSs cp ms) ∧ ∀ k, k < 42 ∨ k = 43 ∨ 46 < k → M' k = M k) := by
        intro n
        induction n with
        | zero =>
          intro s M2 hs hs1 b1 b2 b3
          have : s = 2 ^ cp := by omega
          subst this
          refine zv10_17 _ _ ⟨fun _ => ⟨⟨by omega, by omega⟩, ?_⟩, fun h => absurd ?_ h⟩
          · refine ih (k + 1) M2 (by omega) (by omega) b1 ?_ b3
            rw [show k + 1 - 1 = k - 1 + 1 by omega]
            simp only [zSs, zSk]
            rw [show k - 1 + 1 = k by omega]
            exact b2
          · rw [b1.1, zb_shl1 (by omega)]; omega
        | succ n ih2 =>
          intro s M2 hs hs1 b1 b2 b3
          refine zv10_17 _ _ ⟨fun h => ?_, fun _ => ?_⟩
          · rw [b1.1, zb_shl1 (by omega)] at h; omega
          · refine ⟨_, qc180 (by omega), ?_⟩
            rintro v1 M3 ⟨rfl, rfl⟩
            have hss := zSk_s (k := k) (s := s)
            refine ⟨fun h => ⟨⟨by omega, by omega⟩, ?_⟩, fun h => ?_⟩
            · rw [if_neg (by omega)] at hss
              refine ih2 (s + 1) M3 (by omega) (by omega) b1 ?_ b3
              rw [hss, List.append_nil]
              exact b2
            · rw [if_pos (by omega)] at hss
              have hlen : (zSs cp (k - 1) ++ (List.range s).filter (fun s => zpop s == k)).length < 92 := by
                have q1 := zSs_92 cp (by omega) k (by omega)
                have q2 := zSk_le (cp := cp) (k := k) (s := s + 1) (by omega)
                rw [hss] at q2
                rw [show k = k - 1 + 1 by omega] at q1
                simp only [zSs] at q1
                rw [show k - 1 + 1 = k by omega] at q1
                simp only [List.length_append, List.length_cons, List.length_nil] at q1 q2 ⊢
                omega
              have b20 := b2.1
              generalize hL : zSs cp (k - 1) ++ (List.range s).filter (fun s => zpop s == k) = L at b2 b20 hlen
              refine ⟨fun h => by rw [b20] at h; omega, fun _ => ?_⟩
              rw [b20]
              refine ⟨by omega, by omega, _, qc11 (M := zup M3 44 ((L.length : Int)).toNat s) hF (zJn_of b1 (fun j _ _ => by rw [zb_uk (by decide)]) (by rw [zb_uk (by decide)])) (by omega), ?_⟩
              rintro v2 M4 ⟨rfl, rfl⟩
              have b4 : zup M3 44 ((L.length : Int)).toNat (s : Int) 42 4 = L.length := by rw [zb_uk (by decide)]; exact b20
              rw [b4]
              simp only [Int.toNat_natCast]
              rw [zb_us]
              refine ⟨by omega, by omega, by omega, by omega, _, qc13s (M := zup (zup M3 44 L.length s) 45 L.length (zuw pl cp ro s)) hF (zJn_of b1 (fun j _ _ => by rw [zb_uk (by decide), zb_uk (by decide)]) (by rw [zb_uk (by decide), zb_uk (by decide)])) (by omega) (by omega), ?_⟩
              rintro v3 M5 ⟨rfl, rfl⟩
              have b5 : zup (zup M3 44 L.length (s : Int)) 45 L.length (zuw pl cp ro s) 42 4 = L.length := by rw [zb_uk (by decide), zb_uk (by decide)]; exact b20
              rw [b5]
              refine ⟨by omega, by omega, ⟨by omega, by omega⟩, ⟨by omega, by omega⟩, ?_⟩
              refine ih2 (s + 1) _ (by omega) (by omega) (zJn_of b1 (fun j _ _ => ?_) ?_) ?_ (fun q hq => ?_)
              · rw [zb_ui (by omega), zb_uk (by decide), zb_uk (by decide), zb_uk (by decide)]
              · rw [zb_uk (by decide), zb_uk (by decide), zb_uk (by decide), zb_uk (by decide)]
              · rw [hss, ← List.append_assoc, hL]
                refine zLs_push b2 zb_us (fun i hi => ⟨?_, ?_, ?_⟩) ⟨?_, ?_, ?_⟩
                · rw [zb_uk (by decide), zb_uk (by decide), zb_uk (by decide), zb_ui hi]
                · rw [zb_uk (by decide), zb_uk (by decide), zb_ui hi, zb_uk (by decide)]
                · rw [zb_uk (by decide), zb_ui hi, zb_uk (by decide), zb_uk (by decide)]
                · rw [zb_uk (by decide), zb_uk (by decide), zb_uk (by decide), zb_us]
                · rw [zb_uk (by decide), zb_uk (by decide), zb_us]
                · rw [zb_uk (by decide), zb_us]
              · rw [zb_uk (by omega), zb_uk (by omega), zb_uk (by omega), zb_uk (by omega)]
                exact b3 q hq
      have hpos := Nat.two_pow_pos cp
      refine key2 (2 ^ cp - 1) 1 M1 (by omega) (by omega) a1 ?_ a3
      have : (List.range 1).filter (fun s => zpop s == k) = [] := by
        have h0 : zpop 0 = 0 := by decide
        have h1 : ¬ 0 = k := by omega
        simp [List.range_succ, h0, h1]
      rw [this, List.append_nil]
      exact a2
  refine key ms 1 _ (by omega) (by omega) (zJn_of hJ (fun j _ _ => by rw [zb_ui (by omega)]) (by rw [zb_uk (by decide)])) ?_ (fun k hk => by rw [zb_uk (by omega)])
  refine ⟨zb_us, fun i s h => ?_⟩
  simp [zSs] at h
