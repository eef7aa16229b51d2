/-! hiding: the class's walk, seek, hidden -/
theorem zcan_bits {hw ch u v : Nat} {me : Int} (hc : ch ≤ 4) (hu : u < 2 ^ ch) (hm : me < ch) (h : (zcan hw ch me u).testBit v = true) : v < ch ∨ v = 4 := by
  unfold zcan at h
  rw [Nat.testBit_or, Bool.or_eq_true] at h
  have small : ∀ x, x < 2 ^ ch → x.testBit v = true → v < ch := by
    intro x hx hb
    rcases Nat.lt_or_ge v ch with h1 | h1
    · exact h1
    · rw [Nat.testBit_lt_two_pow (Nat.lt_of_lt_of_le hx (zb_p2le h1))] at hb; cases hb
  rcases h with h | h
  · split at h
    · rw [Nat.testBit_two_pow_sub_one] at h
      exact Or.inl (of_decide_eq_true h)
    · split at h
      · rw [Nat.testBit_or, Bool.or_eq_true] at h
        rcases h with h | h
        · exact Or.inl (small u hu h)
        · refine Or.inr ?_
          have h16 : Nat.testBit 16 v = decide (4 = v) := Nat.testBit_two_pow (n := 4)
          rw [h16] at h
          exact (of_decide_eq_true h).symm
      · exact Or.inl (small u hu h)
  · split at h
    · rw [Nat.zero_testBit] at h; cases h
    · rw [Nat.testBit_two_pow] at h
      have := of_decide_eq_true h
      exact Or.inl (by omega)
def zgn (cp : Nat) (ro : Nat → Nat → Nat) (s q v : Nat) : Nat := zX 8 (fun c => if c < cp ∧ s.testBit c = true ∧ ro c q = v then 1 else 0)
/-- what the walk holds: the least so far, and the best row -/
def zhst (M : zMem) (pl : Nat) (ch : Nat → Nat) (st : Nat × Option Nat) : Prop := M 51 3 = st.1 ∧ ∀ b, st.2 = some b → ∀ q, q < pl → M 54 q = zvl pl ch b q
theorem zvl_at {pl k p j : Nat} {ch : Nat → Nat} (h6 : pl ≤ 6) (hp : p < pl) (hd : zwq (zn6 pl ch 1) 6 p ∣ k) (hj : j < ch p + 1) : zvl pl ch (k + j * zwq (zn6 pl ch 1) 6 (p + 1)) p = zv6 ch p j ∧ (∀ q, q < p → zvl pl ch (k + j * zwq (zn6 pl ch 1) 6 (p + 1)) q = zvl pl ch k q) ∧ zwq (zn6 pl ch 1) 6 (p + 1) ∣ k + j * zwq (zn6 pl ch 1) 6 (p + 1) := by
  have hn : zn6 pl ch 1 p = ch p + 1 := by unfold zn6; rw [if_pos hp]; omega
  obtain ⟨d1, d2, d3⟩ := zdt_at (n := zn6 pl ch 1) (P := 6) (k := k) (p := p) (v := j) zn6_pos (by omega) hd (by rw [hn]; exact hj)
  exact ⟨by unfold zvl; rw [d1], fun q hq => by unfold zvl; rw [d2 q hq], d3⟩
theorem zint {n : Nat → Nat} {P p k0 x : Nat} (hn : ∀ q, 0 < n q) (hd : zwq n P p ∣ k0) (h1 : k0 ≤ x) (h2 : x < k0 + zwq n P p) : x / zwq n P p = k0 / zwq n P p := by
  obtain ⟨Y, hY⟩ := hd
  have hw0 := zwq_pos' (n := n) (P := P) (q := p) hn
  rw [hY, Nat.mul_div_cancel_left _ hw0]
  rw [hY] at h1 h2
  obtain ⟨r, rfl⟩ : ∃ r, x = zwq n P p * Y + r := ⟨x - zwq n P p * Y, by omega⟩
  rw [Nat.mul_add_div hw0, Nat.div_eq_of_lt (by omega), Nat.add_zero]
theorem zX_ci {n : Nat} {f g : Nat → Nat} (h : ∀ i, i < n → f i = g i) : ((zX n f : Nat) : Int) = ((zX n g : Nat) : Int) := by rw [zX_congr h]
theorem zsc_s {pl cp s p k k' v c : Nat} {ch : Nat → Nat} {ro : Nat → Nat → Nat} (h1 : zvl pl ch k' p = v) (h2 : ∀ q, q < p → zvl pl ch k' q = zvl pl ch k q) : zsc pl cp ch ro s (p + 1) k' c = zsc pl cp ch ro s p k c + (if c < cp ∧ s.testBit c = true ∧ ro c p = v then 1 else 0) := by
  unfold zsc
  by_cases hc : c < cp ∧ s.testBit c = true
  · rw [if_pos hc, if_pos hc]
    simp only [zcnt]
    rw [zcnt_congr (P' := fun q => ro c q == zvl pl ch k q) (fun q hq => by rw [h2 q hq])]
    simp only [h1]
    congr 1
    by_cases e : ro c p = v
    · rw [if_pos (by simp [e]), if_pos ⟨hc.1, hc.2, e⟩]
    · rw [if_neg (by simp [e]), if_neg (fun h => e h.2.2)]
  · rw [if_neg hc, if_neg hc, if_neg (fun h => hc ⟨h.1, h.2.1⟩)]
theorem qc7 {d : Nat} {pl cp hw s : Nat} {ch : Nat → Nat} {me : Nat → Int} {ro : Nat → Nat → Nat} (hF : zWF pl cp ch me ro) : ∀ (m p k0 : Nat) (st : Nat × Option Nat) (M : zMem), p + m = pl → zwq (zn6 pl ch 1) 6 p ∣ k0 → st.1 ≤ 7 → zhst M pl ch st → (∀ q, q < p → M 53 q = zvl pl ch k0 q) → (∀ q, q < p → (zcn cp ch me ro hw s q).testBit (zvl pl ch k0 q) = true) → (∀ q, q < pl → ∀ v, v < 5 → M 52 (5 * q + v) = zgn cp ro s q v) →
    zCv (d + 1 + m) 7 [.inr (.inr 51), .inl (p : Int), .inl (pl : Int), .inl (zcw pl cp ch me ro hw s : Int), .inl ((zX 8 (zsc pl cp ch ro s p k0) : Nat) : Int)] M (fun M' => zhst M' pl ch (zhs (zhf pl cp ch me ro hw s) (zwq (zn6 pl ch 1) 6 p) k0 st) ∧ (∀ k, k ≠ 51 → k ≠ 53 → k ≠ 54 → M' k = M k) ∧ ∀ q, q < p → M' 53 q = M 53 q) := by
  have h6 := hF.1
  have hcw := zcw_lt (hw := hw) (s := s) hF
  intro m
  induction m with
  | zero =>
    intro p k0 st M hp hd h7 hst hrow hmk hg
    have : p = pl := by omega
    subst this
    have w1 : zwq (zn6 p ch 1) 6 p = 1 := zwq_one rfl (fun q h1 h2 => by unfold zn6; rw [if_neg (by omega)])
    have hf0 : zhf p cp ch me ro hw s k0 = zmx (zsc p cp ch ro s p k0) 8 := by
      unfold zhf
      rw [if_pos (zmkk_iff.mpr hmk)]
    have hz : zhs (zhf p cp ch me ro hw s) 1 k0 st = if zhf p cp ch me ro hw s k0 < st.1 then (zhf p cp ch me ro hw s k0, some k0) else st := rfl
    rw [w1, hz, hf0]
    refine zk7 (zv7_0 _ _ _ _ ⟨_, qc8 (fun i _ => Nat.le_trans zsc_le h6), ?_⟩)
    rintro v1 M1 ⟨rfl, rfl⟩
    rw [hst.1]
    refine ⟨fun hlt => ⟨fun _ => ⟨by omega, by omega, by omega, by omega, by omega, rfl, ⟨?_, ?_⟩, ?_, ?_⟩, fun h => absurd (by omega) h⟩, fun hlt => ⟨rfl, ?_, fun _ _ _ _ => rfl, fun _ _ => rfl⟩⟩
    · rw [if_pos (by omega), zb_ck (by decide), zb_us]
    · intro b hb q hq
      rw [if_pos (by omega)] at hb
      cases hb
      simp only [zcpy, if_true]
      rw [if_pos (by omega), zb_uk (by decide)]
      rw [show 0 + (q - 0) = q by omega]
      exact hrow q hq
    · intro k x1 x2 x3
      rw [zb_ck x3, zb_uk x1]
    · intro q hq
      rw [zb_ck (by decide), zb_uk (by decide)]
    · rw [if_neg (by omega)]
      exact hst
  | succ m ih =>
    intro p k0 st M hp hd h7 hst hrow hmk hg
    have hpp : p < pl := by omega
    obtain ⟨c1, c2, c3, c4⟩ := hF.2.2.1 p hpp
    have hn : zn6 pl ch 1 p = ch p + 1 := by unfold zn6; rw [if_pos hpp]; omega
    have hws := zwq_s (n := zn6 pl ch 1) (P := 6) (q := p) (by omega)
    rw [hn] at hws
    have hpre : ∀ x, k0 ≤ x → x < k0 + zwq (zn6 pl ch 1) 6 p → ∀ q, q < p → zvl pl ch x q = zvl pl ch k0 q := by
      intro x h1 h2 q hq
      unfold zvl
      rw [zdt_pre (p := p) (by omega) hq (zint zn6_pos hd h1 h2)]
    refine zk7 (zv7_0 _ _ _ _ ⟨_, qc8 (fun i _ => Nat.le_trans zsc_le (by omega)), ?_⟩)
    rintro v1 M1 ⟨rfl, rfl⟩
    rw [hst.1]
    refine ⟨fun hlt => ⟨fun h => by omega, fun _ => ⟨fun _ => ?_, fun h => absurd (by omega) h⟩⟩, fun hlt => ⟨rfl, ?_, fun _ _ _ _ => rfl, fun _ _ => rfl⟩⟩
    · have loop : ∀ (j u : Nat) (M2 : zMem) (st2 : Nat × Option Nat), u + j = 5 → st2 = zhs (zhf pl cp ch me ro hw s) ((if u ≤ 4 then min u (ch p) else ch p + 1) * zwq (zn6 pl ch 1) 6 (p + 1)) k0 st → zhst M2 pl ch st2 → (∀ k, k ≠ 51 → k ≠ 53 → k ≠ 54 → M2 k = M1 k) → (∀ q, q < p → M2 53 q = M1 53 q) →
          zBg (d + 1 + m + 1) 7 53 [zR 51, zI (p : Int), zI (pl : Int), zI (zcw pl cp ch me ro hw s : Int), zI ((zX 8 (zsc pl cp ch ro s p k0) : Nat) : Int), none, zI (u : Int), none] [] M2 (fun r M' => r = none ∧ zhst M' pl ch (zhs (zhf pl cp ch me ro hw s) (zwq (zn6 pl ch 1) 6 p) k0 st) ∧ (∀ k, k ≠ 51 → k ≠ 53 → k ≠ 54 → M' k = M1 k) ∧ ∀ q, q < p → M' 53 q = M1 53 q) := by
        intro j
        induction j with
        | zero =>
          intro u M2 st2 hu e2 s2 f2 g2
          have : u = 5 := by omega
          subst this
          refine zv7_53 _ _ _ _ _ ⟨fun _ => ⟨rfl, ?_, f2, g2⟩, fun h => absurd (by omega) h⟩
          rw [if_neg (by omega), ← hws] at e2
          rw [← e2]
          exact s2
        | succ j ihj =>
          intro u M2 st2 hu e2 s2 f2 g2
          have hbit : (zcw pl cp ch me ro hw s).testBit (5 * p + u) = (zcn cp ch me ro hw s p).testBit u := by
            rw [zcw_cn, zW_at (zdgs_lt (by decide) (fun q hq => zcn_lt hF hq)) (by omega) (by omega)]
            unfold zdgs
            rw [if_pos hpp]
          have hst2le : st2.1 ≤ 7 := by rw [e2]; exact Nat.le_trans zhs_le h7
          refine zv7_53 _ _ _ _ _ ⟨fun h => by omega, fun _ => ⟨⟨by omega, by omega⟩, ⟨by omega, by omega⟩, ?_⟩⟩
          rw [show (p : Int) * 5 + (u : Int) = ((5 * p + u : Nat) : Int) by omega, Ne, zb_bit1 (by omega) (by omega), hbit]
          -- a digit j2 with value u adds one part
          have part : ∀ j2 : Nat, (if u ≤ 4 then min u (ch p) else ch p + 1) = j2 → (if u + 1 ≤ 4 then min (u + 1) (ch p) else ch p + 1) = j2 + 1 → zhs (zhf pl cp ch me ro hw s) ((if u + 1 ≤ 4 then min (u + 1) (ch p) else ch p + 1) * zwq (zn6 pl ch 1) 6 (p + 1)) k0 st = zhs (zhf pl cp ch me ro hw s) (zwq (zn6 pl ch 1) 6 (p + 1)) (k0 + j2 * zwq (zn6 pl ch 1) 6 (p + 1)) st2 := by
            intro j2 hj1 hj2
            rw [hj1] at e2
            rw [hj2, Nat.add_mul, Nat.one_mul, zhs_add, ← e2]
          by_cases hmid : ch p ≤ u ∧ u < 4
          · -- no choice has this number
            have hno : ¬ (zcn cp ch me ro hw s p).testBit u = true := by
              intro h
              rcases zcan_bits c2 (zU_ok hF hpp (Nat.le_refl _)).1 c4 h with h1 | h1 <;> omega
            refine ⟨fun _ => ⟨⟨by omega, by omega⟩, ?_⟩, fun h => absurd (fun e => hno e) h⟩
            refine ihj (u + 1) M2 st2 (by omega) ?_ s2 f2 g2
            rw [e2, if_pos (by omega), if_pos (by omega), show min (u + 1) (ch p) = min u (ch p) by omega]
          · obtain ⟨j2, hj1, hj2, hjl, hjv⟩ : ∃ j2 : Nat, (if u ≤ 4 then min u (ch p) else ch p + 1) = j2 ∧ (if u + 1 ≤ 4 then min (u + 1) (ch p) else ch p + 1) = j2 + 1 ∧ j2 < ch p + 1 ∧ zv6 ch p j2 = u := by
              by_cases hlt2 : u < ch p
              · refine ⟨u, by rw [if_pos (by omega)]; omega, ?_, by omega, by unfold zv6; rw [if_pos hlt2]⟩
                rw [if_pos (by omega)]; omega
              · have hu4 : u = 4 := by omega
                subst hu4
                refine ⟨ch p, by rw [if_pos (by omega)]; omega, by rw [if_neg (by omega)], by omega, by unfold zv6; rw [if_neg (by omega)]⟩
            obtain ⟨a1, a2, a3⟩ := zvl_at (k := k0) (ch := ch) h6 hpp hd hjl
            have hpart := part j2 hj1 hj2
            have hin : ∀ x, k0 + j2 * zwq (zn6 pl ch 1) 6 (p + 1) ≤ x → x < k0 + j2 * zwq (zn6 pl ch 1) 6 (p + 1) + zwq (zn6 pl ch 1) 6 (p + 1) → zvl pl ch x p = u := by
              intro x h1 h2
              have := zdt_pre (n := zn6 pl ch 1) (P := 6) (p := p + 1) (q := p) (by omega) (by omega) (zint zn6_pos a3 h1 h2)
              have e : zvl pl ch x p = zvl pl ch (k0 + j2 * zwq (zn6 pl ch 1) 6 (p + 1)) p := by unfold zvl; rw [this]
              rw [e, a1, hjv]
            refine ⟨fun hno => ⟨⟨by omega, by omega⟩, ?_⟩, fun hyes => ?_⟩
            · refine ihj (u + 1) M2 st2 (by omega) ?_ s2 f2 g2
              rw [hpart, zhs_skip]
              intro x h1 h2
              have : zhf pl cp ch me ro hw s x = 100 := by
                unfold zhf
                rw [if_neg]
                intro hh
                have := zmkk_iff.mp hh p hpp
                rw [hin x h1 h2] at this
                exact hno this
              omega
            · rw [Decidable.not_not] at hyes
              have hsum : ((zX 8 (zsc pl cp ch ro s p k0) : Nat) : Int) + M2 52 (5 * p + u) = ((zX 8 (zsc pl cp ch ro s (p + 1) (k0 + j2 * zwq (zn6 pl ch 1) 6 (p + 1))) : Nat) : Int) := by
                rw [f2 52 (by decide) (by decide) (by decide), hg p hpp u (by omega)]
                unfold zgn
                rw [← Int.natCast_add, zX_add]
                exact zX_ci (fun c _ => (zsc_s (a1.trans hjv) a2).symm)
              have hb := zX_31 (f := zsc pl cp ch ro s (p + 1) (k0 + j2 * zwq (zn6 pl ch 1) 6 (p + 1))) (fun i _ => Nat.le_trans zsc_le (by omega))
              rw [Int.toNat_natCast, hsum, Int.toNat_natCast]
              have hrec := ih (p + 1) (k0 + j2 * zwq (zn6 pl ch 1) 6 (p + 1)) st2 (zup M2 53 p u) (by omega) a3 hst2le ⟨by rw [zb_uk (by decide)]; exact s2.1, fun b hb q hq => by rw [zb_uk (by decide)]; exact s2.2 b hb q hq⟩ (fun q hq => by
                by_cases hqp : q = p
                · subst hqp; rw [zb_us, a1, hjv]
                · rw [zb_ui hqp, g2 q (by omega), hrow q (by omega), a2 q (by omega)]) (fun q hq => by
                by_cases hqp : q = p
                · subst hqp; rw [a1, hjv]; exact hyes
                · rw [a2 q (by omega)]; exact hmk q (by omega)) (fun q hq v hv => by rw [zb_uk (by decide), f2 52 (by decide) (by decide) (by decide)]; exact hg q hq v hv)
              refine ⟨by omega, by omega, ⟨by omega, by omega⟩, by omega, by omega, ⟨by omega, by omega⟩, _, hrec, ?_⟩
              rintro M3 ⟨b1, b2, b3⟩
              rw [← hpart] at b1
              refine ⟨⟨by omega, by omega⟩, ihj (u + 1) M3 _ (by omega) rfl b1 (fun k x1 x2 x3 => by rw [b2 k x1 x2 x3, zb_uk x2]; exact f2 k x1 x2 x3) (fun q hq => by rw [b3 q (by omega), zb_ui (by omega)]; exact g2 q hq)⟩
      refine loop 5 0 M1 st (by omega) ?_ hst (fun _ _ _ _ => rfl) (fun _ _ => rfl)
      rw [if_pos (by omega), show min 0 (ch p) = 0 by omega, Nat.zero_mul]
      rfl
    · rw [zhs_skip]
      · exact hst
      · intro x h1 h2
        unfold zhf
        split
        · have hm : zmx (zsc pl cp ch ro s p k0) 8 ≤ zmx (zsc pl cp ch ro s pl x) 8 := by
            refine zmx_mono (fun c _ => ?_)
            unfold zsc
            by_cases hc : c < cp ∧ s.testBit c = true
            · rw [if_pos hc, if_pos hc]
              refine Nat.le_trans ?_ (zcnt_mono (m := p) (by omega))
              rw [zcnt_congr (P' := fun q => ro c q == zvl pl ch x q) (fun q hq => by rw [hpre x h1 h2 q hq])]
              exact Nat.le_refl _
            · rw [if_neg hc, if_neg hc]
              exact Nat.le_refl _
          omega
        · omega
theorem qc5 {d : Nat} {M : zMem} {pl cp ms hw s : Nat} {ch : Nat → Nat} {me : Nat → Int} {ro : Nat → Nat → Nat} (hF : zWF pl cp ch me ro) (hJ : zJn M pl cp ch me ro ms hw) (h0 : 0 < s) (hs : s < 2 ^ cp) :
    zCv (d + 8) 5 [.inr (.inr 51), .inr (.inr 42), .inl (s : Int), .inl (pl : Int)] M (fun M' => zhst M' pl ch (zhs (zhf pl cp ch me ro hw s) (zwq (zn6 pl ch 1) 6 0) 0 (7, none)) ∧ ∀ k, k < 51 ∨ 54 < k → M' k = M k) := by
  have hcp := hF.2.1
  have h256 : s < 256 := Nat.lt_of_lt_of_le hs (zb_p2le (b := 8) hcp)
  refine zk5 (zv5_0 _ _ ⟨_, qc182 (n := 30) rfl (by decide), ?_⟩)
  rintro M1 ⟨a1, a2⟩
  have key : ∀ (m c : Nat) (M2 : zMem), c + m = cp → (∀ k, k < 51 ∨ 54 < k → M2 k = M k) → (∀ b, b < 30 → M2 52 b = ((zX 8 (fun e => if e < c ∧ s.testBit e = true ∧ (zbits pl (ro e)).testBit b = true then 1 else 0) : Nat) : Int)) →
      zBg (d + 8) 5 11 [zR 51, zR 42, zI (s : Int), zI (pl : Int), zI (c : Int)] [] M2 (fun r M' => r = none ∧ zhst M' pl ch (zhs (zhf pl cp ch me ro hw s) (zwq (zn6 pl ch 1) 6 0) 0 (7, none)) ∧ ∀ k, k < 51 ∨ 54 < k → M' k = M k) := by
    intro m
    induction m with
    | zero =>
      intro c M2 hc f2 g2
      have : c = cp := by omega
      subst this
      have hJ2 : zJn (zup M2 51 3 7) pl c ch me ro ms hw := zJn_of hJ (fun j _ _ => by rw [zb_uk (by decide), f2 42 (by omega)]) (by rw [zb_uk (by decide), f2 43 (by omega)])
      refine zv5_11 _ _ _ ⟨fun _ => ⟨_, qc12 hF hJ2 h0 hs, ?_⟩, fun h => absurd (by rw [f2 42 (by omega), hJ.1]; omega) h⟩
      rintro v1 M3 ⟨rfl, rfl⟩
      have hsc0 : zX 8 (zsc pl c ch ro s 0 0) = 0 := by
        rw [zX_congr (g := fun _ => 0) (fun i _ => by unfold zsc; split <;> rfl), zX_0]
      have hq := qc7 (d := d + 6 - pl) (hw := hw) (s := s) hF pl 0 0 (7, none) (zup M2 51 3 7) (by omega) (Nat.dvd_zero _) (Nat.le_refl 7) ⟨by rw [zb_us]; rfl, fun b hb => by cases hb⟩ (fun q hq => by omega) (fun q hq => by omega) (fun q hq v hv => by
        have h6 := hF.1
        rw [zb_uk (by decide), g2 (5 * q + v) (by omega)]
        unfold zgn
        refine zX_ci (fun e _ => ?_)
        by_cases he : e < c
        · have hre : ∀ p, p < pl → ro e p < 4 := fun p hp => by have := hF.2.2.2 e he p hp; have := (hF.2.2.1 p hp).2.1; omega
          have hb : (zbits pl (ro e)).testBit (5 * q + v) = true ↔ ro e q = v := by
            rw [zbits_ro hre, zW_at (zdgs_lt (by decide) (fun i hi => zb_p2 (b := 5) (by have := hre i hi; omega))) (by omega) hv]
            unfold zdgs
            rw [if_pos hq, Nat.testBit_two_pow, decide_eq_true_eq]
          simp only [hb]
        · rw [if_neg (fun h => he h.1), if_neg (fun h => he h.1)])
      have h6 := hF.1
      rw [hsc0, show d + 6 - pl + 1 + pl = d + 7 by omega] at hq
      refine ⟨_, hq, ?_⟩
      rintro M4 ⟨b1, b2, b3⟩
      exact ⟨rfl, b1, fun k hk => by rw [b2 k (by omega) (by omega) (by omega), zb_uk (by omega)]; exact f2 k hk⟩
    | succ m ih =>
      intro c M2 hc f2 g2
      refine zv5_11 _ _ _ ⟨fun h => by rw [f2 42 (by omega), hJ.1] at h; omega, fun _ => ?_⟩
      rw [Ne, zb_bit1 (by omega) (by omega)]
      refine ⟨fun hno => ⟨⟨by omega, by omega⟩, ih (c + 1) M2 (by omega) f2 (fun b hb => ?_)⟩, fun hyes => ⟨by omega, by omega, ⟨by omega, by omega⟩, ?_⟩⟩
      · rw [g2 b hb]
        refine zX_ci (fun e _ => ?_)
        by_cases he : e = c
        · subst he
          rw [if_neg (fun h => by omega), if_neg (fun h => hno h.2.1)]
        · simp only [show e < c + 1 ↔ e < c from ⟨fun h => by omega, fun h => by omega⟩]
      · rw [Decidable.not_not] at hyes
        have hrc : ∀ p, p < pl → ro c p < 4 := fun p hp => by have := hF.2.2.2 c (by omega) p hp; have := (hF.2.2.1 p hp).2.1; omega
        have hlt := zbits_lt (pl := pl) (v := ro c) (fun p hp => by have := hrc p hp; omega)
        have hpow : (16 : Nat) ^ c ≤ 16 ^ 7 := Nat.pow_le_pow_right (by decide) (by omega)
        have h167 : (16 : Nat) ^ 7 = 268435456 := by decide
        rw [Int.toNat_natCast, f2 43 (by omega), hJ.2.2.2.2.2.2 c (by omega), show 4 * (c : Int) = ((4 * c : Nat) : Int) by omega, zb_shl1 (by omega), Nat.pow_mul, show (2 : Nat) ^ 4 = 16 by decide]
        have hq := qc6 (d := d + 7) (M := M2) (bits := zbits pl (ro c)) (w := 16 ^ c) (g := fun b => zX 8 (fun e => if e < c ∧ s.testBit e = true ∧ (zbits pl (ro e)).testBit b = true then 1 else 0)) (by omega) (fun b hb => ⟨g2 b hb, by
          have := zX_31 (f := fun e => if e < c ∧ s.testBit e = true ∧ (zbits pl (ro e)).testBit b = true then 1 else 0) (fun i _ => by split <;> omega)
          omega⟩)
        refine ⟨_, hq, ?_⟩
        rintro M3 ⟨b1, b2⟩
        refine ⟨⟨by omega, by omega⟩, ih (c + 1) M3 (by omega) (fun k hk => by rw [b1 k (by omega)]; exact f2 k hk) (fun b hb => ?_)⟩
        rw [b2 b hb]
        by_cases hbb : (zbits pl (ro c)).testBit b = true
        · rw [if_pos hbb, ← zX_one (n := 8) (c := c) (by omega), zX_add]
          refine zX_ci (fun e _ => ?_)
          by_cases he : e = c
          · subst he
            rw [if_neg (fun h => by omega), if_pos rfl, if_pos ⟨by omega, hyes, hbb⟩]
          · rw [if_neg he, Nat.add_zero]
            simp only [show e < c + 1 ↔ e < c from ⟨fun h => by omega, fun h => by omega⟩]
        · rw [if_neg hbb, Nat.add_zero]
          refine zX_ci (fun e _ => ?_)
          by_cases he : e = c
          · subst he
            rw [if_neg (fun h => by omega), if_neg (fun h => hbb h.2.2)]
          · simp only [show e < c + 1 ↔ e < c from ⟨fun h => by omega, fun h => by omega⟩]
  refine key cp 0 M1 (by omega) (fun k hk => a1 k (by omega)) (fun b hb => ?_)
  rw [a2 b hb, zX_congr (g := fun _ => 0) (fun i _ => by rw [if_neg (fun h => by omega)]), zX_0]
  rfl
def zkh (pl cp : Nat) (x y : Int) : Prop := zisS cp x ∧ (y = -1 ∨ zisC pl y)
def zhv (pl : Nat) (ch : Nat → Nat) (st : Nat × Option Nat) (y : Int) : Int := if y = -1 then (st.1 : Int) else match st.2 with
  | some b => (zvl pl ch b y.toNat : Int)
  | none => 0
def zsHidden (pl cp : Nat) (ch : Nat → Nat) (me : Nat → Int) (ro : Nat → Nat → Nat) (hw : Nat) (x y r : Int) : Prop := (¬ zkh pl cp x y ∧ r = -1) ∨ (zkh pl cp x y ∧ r = zhv pl ch (zhs (zhf pl cp ch me ro hw x.toNat) (zwq (zn6 pl ch 1) 6 0) 0 (100, none)) y)
theorem qc98 {d : Nat} {M : zMem} {pl cp ms hw : Nat} {ch : Nat → Nat} {me : Nat → Int} {ro : Nat → Nat → Nat} {v : Nat → Nat} {x y : Int} (hC : zCC M pl cp ch me ro ms hw v) :
    zCi (d + 9) 98 [.inr (.inr 0), .inl x, .inl y] M (fun r M' => zsHidden pl cp ch me ro hw x y r ∧ zfC M M') := by
  obtain ⟨h1, h2, h3, h4, h5, h6, h7⟩ := id hC
  have h61 := h1.1
  have T : zkh pl cp x y → ∃ Q2, zCr (d + 8) 107 [.inr (.inr 0)] M Q2 ∧ ∀ M2, Q2 M2 →
      ∃ Q3, zCv (d + 8) 5 [.inr (.inr 51), .inr (.inr 42), .inl x, .inl (M2 13 6)] M2 Q3 ∧ ∀ M3, Q3 M3 →
      ((y : Int) ≠ (-1) → (0 : Int) ≤ y ∧ (y : Int) < 6 ∧ ∃ w : Int, zI (M3 54 y.toNat) = some (.inl w) ∧ zsHidden pl cp ch me ro hw x y w ∧ zfC M M3) ∧
      (¬ (y : Int) ≠ (-1) → ∃ w : Int, zI (M3 51 3) = some (.inl w) ∧ zsHidden pl cp ch me ro hw x y w ∧ zfC M M3) := by
    intro hk
    obtain ⟨s, rfl⟩ : ∃ s : Nat, x = (s : Int) := ⟨x.toNat, by have := hk.1.1; omega⟩
    have hs0 := hk.1.1
    have hs1 := hk.1.2
    refine ⟨_, qc107 hC, ?_⟩
    rintro M2 ⟨a1, a2⟩
    rw [(h2.fr a2).1]
    refine ⟨_, qc5 h1 a1 (by omega) (by omega), ?_⟩
    rintro M3 ⟨b1, b2⟩
    have f3 : zfC M M3 := a2.tr (fun k _ _ h => b2 k (by omega))
    obtain ⟨z1, b, z2⟩ := zhs_start (f := zhf pl cp ch me ro hw s) (zhf_7 h61) (m := zwq (zn6 pl ch 1) 6 0) (k := 0) (zhf_some h1 (by omega) (by omega))
    rw [z1] at b1
    refine ⟨fun hy => ?_, fun hy => ⟨_, rfl, Or.inr ⟨hk, ?_⟩, f3⟩⟩
    · have hyc : zisC pl y := by
        rcases hk.2 with h | h
        · exact absurd h hy
        · exact h
      have y1 := hyc.1
      have y2 := hyc.2
      refine ⟨by omega, by omega, _, rfl, Or.inr ⟨hk, ?_⟩, f3⟩
      unfold zhv
      rw [if_neg hy, Int.toNat_natCast, z2, b1.2 b z2 y.toNat (by omega)]
    · unfold zhv
      rw [if_pos (by omega), Int.toNat_natCast, b1.1]
  refine zk98 (zv98_0 _ _ ⟨_, qc57 h2.2.1 h1.2.1, ?_⟩)
  rintro v1 M1 ⟨hv1, rfl⟩
  refine ⟨fun hz => ⟨_, rfl, Or.inl ⟨fun hk => ?_, rfl⟩, zfC.rf⟩, fun hz => ?_⟩
  · rcases hv1 with ⟨a, _⟩ | ⟨_, a⟩
    · omega
    · exact a hk.1
  · have hx : zisS cp x := by
      rcases hv1 with ⟨_, a⟩ | ⟨a, _⟩
      · exact a
      · exact absurd a hz
    refine ⟨fun hy => T ⟨hx, Or.inl hy⟩, fun hy => ⟨_, qc34 h2.1, ?_⟩⟩
    rintro v4 M4 ⟨hv4, rfl⟩
    refine ⟨fun hz2 => T ⟨hx, Or.inr ?_⟩, fun hz2 => ⟨_, rfl, Or.inl ⟨fun hk => ?_, rfl⟩, zfC.rf⟩⟩
    · rcases hv4 with ⟨_, a⟩ | ⟨a, _⟩
      · exact a
      · exact absurd a hz2
    · rcases hk.2 with h | h
      · exact hy h
      · rcases hv4 with ⟨a, _⟩ | ⟨_, a⟩
        · omega
        · exact a h
