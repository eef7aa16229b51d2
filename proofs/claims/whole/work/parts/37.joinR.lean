/-! the reference: in, isSet, isCopy, can, makes, laysSets, madeBy -/
theorem zlcmp_lt {a b : Int} : zlcmp a b < 0 ↔ a < b := by
  unfold zlcmp
  split
  · omega
  · split <;> omega
theorem zlcmp_gt {a b : Int} : zlcmp a b > 0 ↔ b < a := by
  unfold zlcmp
  split
  · omega
  · split <;> omega
theorem qc110 {d : Nat} {M : zMem} {x a b : Int} : zCi d 110 [.inr (.inl x), .inr (.inl a), .inr (.inl b)] M (fun r M' => (r = 1 ∧ a ≤ x ∧ x ≤ b ∨ r = 0 ∧ ¬ (a ≤ x ∧ x ≤ b)) ∧ M' = M) := by
  refine zk110 (zv110_0 _ _ _ ?_)
  rw [zlcmp_lt, zlcmp_gt]
  exact ⟨fun h => ⟨Or.inl rfl, _, rfl, Or.inr ⟨rfl, by omega⟩, rfl⟩, fun h => ⟨fun h2 => ⟨Or.inl rfl, _, rfl, Or.inr ⟨rfl, by omega⟩, rfl⟩, fun h2 => ⟨Or.inr rfl, _, rfl, Or.inl ⟨rfl, by omega, by omega⟩, rfl⟩⟩⟩
theorem qc139 {d : Nat} {M : zMem} {cp : Nat} {x : Int} (h : M 55 12 = cp) (h8 : cp ≤ 8) : zCi (d + 1) 139 [.inr (.inr 55), .inl x] M (fun r M' => (r = 1 ∧ zisS cp x ∨ r = 0 ∧ ¬ zisS cp x) ∧ M' = M) := by
  refine zk139 (zv139_0 _ ?_)
  have h256 : 2 ^ cp ≤ 2 ^ 8 := zb_p2le h8
  have hpos := Nat.two_pow_pos cp
  rw [h, zb_shl1 (by omega)]
  refine ⟨⟨by omega, by omega⟩, _, qc110, ?_⟩
  rintro v M1 ⟨hv, rfl⟩
  unfold zisS
  exact ⟨by omega, _, rfl, by omega, rfl⟩
theorem qc121 {d : Nat} {M : zMem} {cp : Nat} {x : Int} (h : M 55 12 = cp) (h8 : cp ≤ 8) : zCi (d + 1) 121 [.inr (.inr 55), .inl x] M (fun r M' => (r = 1 ∧ zisC cp x ∨ r = 0 ∧ ¬ zisC cp x) ∧ M' = M) := by
  refine zk121 (zv121_0 _ ?_)
  rw [h]
  refine ⟨⟨by omega, by omega⟩, _, qc110, ?_⟩
  rintro v M1 ⟨hv, rfl⟩
  unfold zisC
  exact ⟨by omega, _, rfl, by omega, rfl⟩
def zfR (M M' : zMem) : Prop := (∀ k, k ≠ 55 → (k < 68 ∨ (74 < k ∧ k ≠ 79)) → M' k = M k) ∧ ∀ j, j ≠ 21 → j ≠ 24 → j ≠ 25 → j ≠ 26 → M' 55 j = M 55 j
theorem zfR.rf {M : zMem} : zfR M M := ⟨fun _ _ _ => rfl, fun _ _ _ _ _ => rfl⟩
theorem zfR.tr {M M1 M2 : zMem} (h : zfR M M1) (h2 : zfR M1 M2) : zfR M M2 := ⟨fun k a b => by rw [h2.1 k a b, h.1 k a b], fun j a b c d => by rw [h2.2 j a b c d, h.2 j a b c d]⟩
theorem zRR.fr {M M' : zMem} {pl cp : Nat} {ch : Nat → Nat} {me : Nat → Int} {ro : Nat → Nat → Nat} (h : zfR M M') (hr : zRR M pl cp ch me ro) : zRR M' pl cp ch me ro := by
  unfold zRR
  rw [h.2 4 (by decide) (by decide) (by decide) (by decide), h.2 12 (by decide) (by decide) (by decide) (by decide), h.1 60 (by decide) (by decide), h.1 64 (by decide) (by decide), h.1 65 (by decide) (by decide)]
  exact hr
theorem zpop_1 : ∀ u, u < 16 → (zpop u ≤ 1 ↔ u &&& (u - 1) = 0) := by decide +kernel
theorem qc130 {d : Nat} {M : zMem} {pl cp hw s p : Nat} {ch : Nat → Nat} {me : Nat → Int} {ro : Nat → Nat → Nat} (hF : zWF pl cp ch me ro) (hR : zRR M pl cp ch me ro) (hs : s < 256) (hp : p < pl) :
    zCi (d + 1) 130 [.inr (.inr 55), .inl (s : Int), .inl (p : Int), .inl (hw : Int)] M (fun r M' => r = (zcan hw (ch p) (me p) (zU ro s p cp) : Int) ∧ M' = M) := by
  have hF0 := hF
  obtain ⟨f1, f2, f3, f4⟩ := hF
  obtain ⟨r1, r2, r3, r4, r5⟩ := hR
  refine zk130 (zv130_0 _ _ _ ?_)
  have key : ∀ (m c : Nat), c + m = cp → zBg (d + 1) 130 6 [zR 55, zI (s : Int), zI (p : Int), zI (hw : Int), zI (zU ro s p c : Int), zI (c : Int)] [] M (fun r M' => ∃ w : Int, r = some (.inl w) ∧ w = (zcan hw (ch p) (me p) (zU ro s p cp) : Int) ∧ M' = M) := by
    intro m
    induction m with
    | zero =>
      intro c hc
      have : c = cp := by omega
      subst this
      have hu := (zU_ok hF0 (s := s) hp (n := c) (Nat.le_refl _)).2
      refine zv130_6 _ _ _ _ _ ⟨fun _ => ?_, fun h => absurd (by omega) h⟩
      refine ⟨_, qc129 (by omega), ?_⟩
      rintro v1 M1 ⟨rfl, rfl⟩
      obtain ⟨w1, w2, w3, w4⟩ := f3 p hp
      have hch := zb_p2le (a := ch p) (b := 4) w2
      have hpos := Nat.two_pow_pos (ch p)
      rw [Int.toNat_natCast, r3 p hp, r4 p hp, zb_shl1 (by omega)]
      have hun := zpop_1 _ hu
      generalize hmm : me p = mm at *
      generalize zU ro s p c = u at *
      rw [show ((2 ^ ch p : Nat) : Int) - 1 = ((2 ^ ch p - 1 : Nat) : Int) by omega]
      have e0 : zior (u : Int) 0 = (u : Int) := by
        have := zb_or (a := u) (b := 0) (by omega) (by decide)
        rw [Nat.or_zero] at this
        exact this
      have e1 : zior (u : Int) 16 = ((u ||| 16 : Nat) : Int) := zb_or (a := u) (b := 16) (by omega) (by decide)
      have e2 : zior ((2 ^ ch p - 1 : Nat) : Int) 0 = ((2 ^ ch p - 1 : Nat) : Int) := by
        have := zb_or (a := 2 ^ ch p - 1) (b := 0) (by omega) (by decide)
        rw [Nat.or_zero] at this
        exact this
      rw [e0, e1, e2]
      have l1 : u ||| 16 < 2 ^ 5 := Nat.or_lt_two_pow (by omega) (by decide)
      by_cases hme : mm < 0
      · have T : zcan hw (ch p) mm u = if hw = 1 ∧ u &&& (u - 1) ≠ 0 then 2 ^ ch p - 1 else if hw = 2 ∧ u &&& (u - 1) ≠ 0 then u ||| 16 else u := by
          unfold zcan
          rw [if_pos hme, Nat.or_zero]
        rw [T]
        by_cases h1 : hw = 1
        · by_cases hq : u &&& (u - 1) = 0
          · rw [if_neg (by omega), if_neg (by omega)]
            repeat' (first | refine And.intro ?_ ?_ | intro _)
            all_goals first | omega | exact ⟨_, rfl, rfl, rfl⟩
          · rw [if_pos ⟨h1, hq⟩]
            repeat' (first | refine And.intro ?_ ?_ | intro _)
            all_goals first | omega | exact ⟨_, rfl, rfl, rfl⟩
        · rw [if_neg (by omega)]
          by_cases h2 : hw = 2
          · by_cases hq : u &&& (u - 1) = 0
            · rw [if_neg (by omega)]
              repeat' (first | refine And.intro ?_ ?_ | intro _)
              all_goals first | omega | exact ⟨_, rfl, rfl, rfl⟩
            · rw [if_pos ⟨h2, hq⟩]
              repeat' (first | refine And.intro ?_ ?_ | intro _)
              all_goals first | omega | exact ⟨_, rfl, rfl, rfl⟩
          · rw [if_neg (by omega)]
            repeat' (first | refine And.intro ?_ ?_ | intro _)
            all_goals first | omega | exact ⟨_, rfl, rfl, rfl⟩
      · have T : zcan hw (ch p) mm u = (if hw = 1 ∧ u &&& (u - 1) ≠ 0 then 2 ^ ch p - 1 else if hw = 2 ∧ u &&& (u - 1) ≠ 0 then u ||| 16 else u) ||| 2 ^ mm.toNat := by
          unfold zcan
          rw [if_neg hme]
        have hb : 2 ^ mm.toNat < 2 ^ 4 := zb_p2 (by omega)
        have e3 : zishl 1 mm = ((2 ^ mm.toNat : Nat) : Int) := by
          have := zb_shl1 (k := mm.toNat) (by omega)
          rw [show ((mm.toNat : Nat) : Int) = mm by omega] at this
          exact this
        rw [T, e3, zb_or (a := u) (b := 2 ^ mm.toNat) (by omega) (by omega), zb_or (a := u ||| 16) (b := 2 ^ mm.toNat) (by omega) (by omega), zb_or (a := 2 ^ ch p - 1) (b := 2 ^ mm.toNat) (by omega) (by omega)]
        by_cases h1 : hw = 1
        · by_cases hq : u &&& (u - 1) = 0
          · rw [if_neg (by omega), if_neg (by omega)]
            repeat' (first | refine And.intro ?_ ?_ | intro _)
            all_goals first | omega | exact ⟨_, rfl, rfl, rfl⟩
          · rw [if_pos ⟨h1, hq⟩]
            repeat' (first | refine And.intro ?_ ?_ | intro _)
            all_goals first | omega | exact ⟨_, rfl, rfl, rfl⟩
        · rw [if_neg (by omega)]
          by_cases h2 : hw = 2
          · by_cases hq : u &&& (u - 1) = 0
            · rw [if_neg (by omega)]
              repeat' (first | refine And.intro ?_ ?_ | intro _)
              all_goals first | omega | exact ⟨_, rfl, rfl, rfl⟩
            · rw [if_pos ⟨h2, hq⟩]
              repeat' (first | refine And.intro ?_ ?_ | intro _)
              all_goals first | omega | exact ⟨_, rfl, rfl, rfl⟩
          · rw [if_neg (by omega)]
            repeat' (first | refine And.intro ?_ ?_ | intro _)
            all_goals first | omega | exact ⟨_, rfl, rfl, rfl⟩
    | succ m ih =>
      intro c hc
      have hu := (zU_ok hF0 (s := s) hp (n := c) (by omega)).2
      have ih1 := ih (c + 1) (by omega)
      simp only [zU] at ih1
      refine zv130_6 _ _ _ _ _ ⟨fun h => by omega, fun _ => ?_⟩
      rw [Ne, zb_bit1 (by omega) (by omega)]
      refine ⟨fun h => ⟨⟨by omega, by omega⟩, ?_⟩, fun h => ?_⟩
      · rw [if_neg h] at ih1
        have e0 := zb_or (a := zU ro s p c) (b := 0) (by omega) (by decide)
        exact e0 ▸ ih1
      · rw [Decidable.not_not] at h
        rw [if_pos h] at ih1
        have hro := f4 c (by omega) p hp
        have hch := (f3 p hp).2.1
        rw [show (6 * (c : Int) + (p : Int)).toNat = 6 * c + p by omega, r5 c (by omega) p hp, zb_shl1 (by omega), zb_or (by omega) (zb_p2 (by omega))]
        exact ⟨⟨by omega, by omega⟩, ⟨by omega, by omega⟩, by omega, by omega, ⟨by omega, by omega⟩, ih1⟩
  exact key cp 0 (by omega)
theorem qc131 {d : Nat} {M : zMem} {pl cp hw s a b n : Nat} {ch : Nat → Nat} {me : Nat → Int} {ro : Nat → Nat → Nat} {v : Nat → Nat} (hF : zWF pl cp ch me ro) (hR : zRR M pl cp ch me ro) (hs : s < 256) (ha : zSHL[a]? = some (.inl (0, n))) (hb : b + pl ≤ n) (hn : n < 1000) (hv : ∀ p, p < pl → M a (b + p) = v p ∧ v p ≤ 5) :
    zCi (d + 2) 131 [.inr (.inr 55), .inl (s : Int), .inr (.inr a), .inl (b : Int), .inl (hw : Int)] M (fun r M' => r = (if zmk pl cp ch me ro hw v s then 1 else 0) ∧ M' = M) := by
  have hF0 := hF
  have hR0 := hR
  obtain ⟨f1, f2, f3, f4⟩ := hF
  obtain ⟨r1, r2, r3, r4, r5⟩ := hR
  refine zk131 (zv131_0 _ _ _ _ ?_)
  have key : ∀ (m p : Nat), p + m = pl → (∀ q, q < p → v q = 5 ∨ (zcan hw (ch q) (me q) (zU ro s q cp)).testBit (v q) = true) → zBg (d + 2) 131 6 [zR 55, zI (s : Int), zR a, zI (b : Int), zI (hw : Int), zI 1, zI (p : Int)] [] M (fun r M' => ∃ w : Int, r = some (.inl w) ∧ w = (if zmk pl cp ch me ro hw v s then 1 else 0) ∧ M' = M) := by
    intro m
    induction m with
    | zero =>
      intro p hp h
      have : p = pl := by omega
      subst this
      refine zv131_6 _ _ _ _ _ _ ⟨fun _ => ⟨Or.inr rfl, _, rfl, ?_, rfl⟩, fun h => absurd (by omega) h⟩
      rw [if_pos (zmk_iff.mpr h)]
    | succ m ih =>
      intro p hp h
      obtain ⟨v1, v2⟩ := hv p (by omega)
      refine zv131_6 _ _ _ _ _ _ ⟨fun h => by omega, fun _ => ⟨fun h => by omega, fun _ => ⟨⟨by omega, by omega⟩, ?_⟩⟩⟩
      rw [zb_ar ha, show ((b : Int) + (p : Int)).toNat = b + p by omega, v1]
      refine ⟨by omega, by omega, fun h5 => ⟨⟨by omega, by omega⟩, ?_⟩, fun h5 => ⟨_, qc130 hF0 hR0 hs (by omega), ?_⟩⟩
      · refine ih (p + 1) (by omega) (fun q hq => ?_)
        by_cases hqp : q = p
        · subst hqp; exact Or.inl (by omega)
        · exact h q (by omega)
      · rintro w M1 ⟨rfl, rfl⟩
        refine ⟨⟨by omega, by omega⟩, ?_⟩
        have hc := zcan_lt (hw := hw) (ch := ch p) (me := me p) (u := zU ro s p cp) (f3 p (by omega)).2.1 (zU_ok hF0 (by omega) (Nat.le_refl _)).2 (by have := f3 p (by omega); omega)
        rw [zb_ar ha, v1, Ne, zb_bit1 (by omega) (by omega)]
        refine ⟨by omega, by omega, fun h6 => ⟨⟨by omega, by omega⟩, ?_⟩, fun h6 => ⟨⟨by omega, by omega⟩, ?_⟩⟩
        · have hno : ¬ zmk pl cp ch me ro hw v s = true := by
            intro hz
            rcases zmk_iff.mp hz p (by omega) with h7 | h7
            · omega
            · exact h6 h7
          refine zv131_6 _ _ _ _ _ _ ⟨fun _ => ⟨Or.inl rfl, _, rfl, by rw [if_neg hno], rfl⟩, fun _ => ⟨fun _ => ⟨Or.inl rfl, _, rfl, by rw [if_neg hno], rfl⟩, fun h => absurd rfl h⟩⟩
        · rw [Decidable.not_not] at h6
          refine ih (p + 1) (by omega) (fun q hq => ?_)
          by_cases hqp : q = p
          · subst hqp; exact Or.inr h6
          · exact h q (by omega)
  exact key pl 0 (by omega) (fun q hq => by omega)
def zRL (M : zMem) (L : List Nat) : Prop := M 55 21 = L.length ∧ ∀ i s : Nat, L[i]? = some s → M 69 i = s
theorem zRL_push {M M' : zMem} {s : Nat} {L : List Nat} (h : zRL M L) (h1 : M' 55 21 = L.length + 1) (h2 : ∀ i, i ≠ L.length → M' 69 i = M 69 i) (h3 : M' 69 L.length = s) : zRL M' (L ++ [s]) := by
  refine ⟨by rw [h1]; simp, fun i x hx => ?_⟩
  rw [List.getElem?_append] at hx
  split at hx
  · rename_i hi
    rw [h2 i (by omega)]
    exact h.2 i x hx
  · rename_i hi
    have h4 : i - L.length = 0 := by
      have := (List.getElem?_eq_some_iff.mp hx).1
      simp at this
      omega
    rw [h4] at hx
    cases hx
    have h5 : i = L.length := by omega
    rw [h5]
    exact h3
theorem qc132 {d : Nat} {M : zMem} {cp ms : Nat} (hcpM : M 55 12 = cp) (hcp : cp ≤ 8) (hms : ms ≤ 3) :
    zCv (d + 1) 132 [.inr (.inr 55), .inl (ms : Int)] M (fun M' => zRL M' (zSs cp ms) ∧ (∀ k, k ≠ 55 → k ≠ 69 → M' k = M k) ∧ ∀ j, j ≠ 21 → M' 55 j = M 55 j) := by
  refine zk132 (zv132_0 _ ?_)
  have h256 : 2 ^ cp ≤ 2 ^ 8 := zb_p2le hcp
  have key : ∀ (m k : Nat) (M1 : zMem), k + m = ms + 1 → 1 ≤ k → zRL M1 (zSs cp (k - 1)) → ((∀ k, k ≠ 55 → k ≠ 69 → M1 k = M k) ∧ ∀ j, j ≠ 21 → M1 55 j = M 55 j) →
      zBg (d + 1) 132 7 [zR 55, zI (ms : Int), zI (k : Int), none] [] M1 (fun r M' => r = none ∧ zRL M' (zSs cp ms) ∧ (∀ k, k ≠ 55 → k ≠ 69 → M' k = M k) ∧ ∀ j, j ≠ 21 → M' 55 j = M 55 j) := by
    intro m
    induction m with
    | zero =>
      intro k M1 hk hk1 a2 a3
      have : k = ms + 1 := by omega
      subst this
      exact zv132_7 _ _ ⟨fun _ => ⟨rfl, a2, a3⟩, fun h => absurd (by omega) h⟩
    | succ m ih =>
      intro k M1 hk hk1 a2 a3
      refine zv132_7 _ _ ⟨fun h => by omega, fun _ => ?_⟩
      have key2 : ∀ (n s : Nat) (M2 : zMem), s + n = 2 ^ cp → 1 ≤ s → zRL M2 (zSs cp (k - 1) ++ (List.range s).filter (fun s => zpop s == k)) → ((∀ k, k ≠ 55 → k ≠ 69 → M2 k = M k) ∧ ∀ j, j ≠ 21 → M2 55 j = M 55 j) →
          zBg (d + 1) 132 14 [zR 55, zI (ms : Int), zI (k : Int), zI (s : Int)] [] M2 (fun r M' => r = none ∧ zRL M' (zSs cp ms) ∧ (∀ k, k ≠ 55 → k ≠ 69 → M' k = M k) ∧ ∀ j, j ≠ 21 → M' 55 j = M 55 j) := by
        intro n
        induction n with
        | zero =>
          intro s M2 hs hs1 b2 b3
          have : s = 2 ^ cp := by omega
          subst this
          refine zv132_14 _ _ _ ⟨fun _ => ⟨⟨by omega, by omega⟩, ?_⟩, fun h => absurd ?_ h⟩
          · refine ih (k + 1) M2 (by omega) (by omega) ?_ b3
            rw [show k + 1 - 1 = k - 1 + 1 by omega]
            simp only [zSs, zSk]
            rw [show k - 1 + 1 = k by omega]
            exact b2
          · rw [b3.2 12 (by decide), hcpM, zb_shl1 (by omega)]; omega
        | succ n ih2 =>
          intro s M2 hs hs1 b2 b3
          refine zv132_14 _ _ _ ⟨fun h => ?_, fun _ => ?_⟩
          · rw [b3.2 12 (by decide), hcpM, zb_shl1 (by omega)] at h; omega
          · refine ⟨_, qc129 (by omega), ?_⟩
            rintro v1 M3 ⟨rfl, rfl⟩
            have hss := zSk_s (k := k) (s := s)
            refine ⟨fun h => ⟨⟨by omega, by omega⟩, ?_⟩, fun h => ?_⟩
            · rw [if_neg (by omega)] at hss
              refine ih2 (s + 1) M3 (by omega) (by omega) ?_ b3
              rw [hss, List.append_nil]
              exact b2
            · rw [if_pos (by omega)] at hss
              have hlen : (zSs cp (k - 1) ++ (List.range s).filter (fun s => zpop s == k)).length < 92 := by
                have q1 := zSs_92 cp (by omega) k (by omega)
                have q2 := zSk_le (cp := cp) (k := k) (s := s + 1) (by omega)
                rw [hss] at q2
                rw [show k = k - 1 + 1 by omega] at q1
                simp only [zSs] at q1
                rw [show k - 1 + 1 = k by omega] at q1
                simp only [List.length_append, List.length_cons, List.length_nil] at q1 q2 ⊢
                omega
              have b20 := b2.1
              generalize hL : zSs cp (k - 1) ++ (List.range s).filter (fun s => zpop s == k) = L at b2 b20 hlen
              rw [b20]
              refine ⟨by omega, by omega, ⟨by omega, by omega⟩, ⟨by omega, by omega⟩, ?_⟩
              rw [Int.toNat_natCast]
              refine ih2 (s + 1) _ (by omega) (by omega) ?_ ⟨fun q hq hq2 => ?_, fun j hj => ?_⟩
              · rw [hss, ← List.append_assoc, hL]
                refine zRL_push b2 zb_us (fun i hi => ?_) ?_
                · rw [zb_uk (by decide), zb_ui hi]
                · rw [zb_uk (by decide), zb_us]
              · rw [zb_uk hq, zb_uk hq2]
                exact b3.1 q hq hq2
              · rw [zb_ui hj, zb_uk (by decide)]
                exact b3.2 j hj
      have hpos := Nat.two_pow_pos cp
      refine key2 (2 ^ cp - 1) 1 M1 (by omega) (by omega) ?_ a3
      have : (List.range 1).filter (fun s => zpop s == k) = [] := by
        have h0 : zpop 0 = 0 := by decide
        have h1 : ¬ 0 = k := by omega
        simp [List.range_succ, h0, h1]
      rw [this, List.append_nil]
      exact a2
  refine key ms 1 _ (by omega) (by omega) ?_ ⟨fun k hk hk2 => by rw [zb_uk hk], fun j hj => by rw [zb_ui hj]⟩
  refine ⟨zb_us, fun i s h => ?_⟩
  simp [zSs] at h
