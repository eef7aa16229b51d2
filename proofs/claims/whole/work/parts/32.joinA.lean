/-! who CAN what: the pure words; the class's bitsOf, look, unionOf, widened, canOf -/
def zWF (pl cp : Nat) (ch : Nat → Nat) (me : Nat → Int) (ro : Nat → Nat → Nat) : Prop := pl ≤ 6 ∧ cp ≤ 8 ∧ (∀ p, p < pl → 2 ≤ ch p ∧ ch p ≤ 4 ∧ -1 ≤ me p ∧ me p < ch p) ∧ ∀ c, c < cp → ∀ p, p < pl → ro c p < ch p
def zRC (M : zMem) (pl cp : Nat) (ch : Nat → Nat) (me : Nat → Int) (ro : Nat → Nat → Nat) : Prop := M 13 6 = pl ∧ M 4 9 = cp ∧ (∀ p, p < pl → M 15 p = ch p) ∧ (∀ p, p < pl → M 6 p = me p) ∧ ∀ c, c < cp → ∀ p, p < pl → M 7 (6 * c + p) = ro c p
def zRR (M : zMem) (pl cp : Nat) (ch : Nat → Nat) (me : Nat → Int) (ro : Nat → Nat → Nat) : Prop := M 55 4 = pl ∧ M 55 12 = cp ∧ (∀ p, p < pl → M 60 p = ch p) ∧ (∀ p, p < pl → M 64 p = me p) ∧ ∀ c, c < cp → ∀ p, p < pl → M 65 (6 * c + p) = ro c p
def zdgs (pl : Nat) (g : Nat → Nat) (i : Nat) : Nat := if i < pl then g i else 0
theorem zdgs_lt {pl k : Nat} {g : Nat → Nat} (hk : 0 < k) (h : ∀ i, i < pl → g i < k) : ∀ i, i < 6 → zdgs pl g i < k := by
  intro i _
  unfold zdgs
  split
  · exact h i (by assumption)
  · exact hk
theorem zdgs_s {p : Nat} {g : Nat → Nat} (hp : p < 6) (h : ∀ i, i < p + 1 → g i < 32) : zW 6 (zdgs p g) ||| (g p * 2 ^ (5 * p)) = zW 6 (zdgs (p + 1) g) := by
  rw [zW_set hp (zdgs_lt (by decide) (fun i hi => h i (by omega))) (h p (by omega))]
  refine zW_congr (fun i _ => ?_)
  unfold zdgs
  by_cases hi : i = p
  · subst hi; simp
  · rw [if_neg hi]
    simp only [show (i < p + 1) ↔ (i < p) from ⟨fun h => by omega, fun h => by omega⟩]
theorem zdgs_z {g : Nat → Nat} : zW 6 (zdgs 0 g) = 0 := by
  rw [zW_congr (g := fun _ => 0) (fun i _ => by unfold zdgs; simp), zW_0]
theorem zdgs_30 {pl : Nat} {g : Nat → Nat} (h : ∀ i, i < pl → g i < 32) : zW 6 (zdgs pl g) < 2 ^ 30 := zW_lt (n := 6) (zdgs_lt (by decide) h)
theorem zb_p2 {a b : Nat} (h : a < b) : 2 ^ a < 2 ^ b := Nat.pow_lt_pow_right (by decide) h
theorem zb_p2le {a b : Nat} (h : a ≤ b) : 2 ^ a ≤ 2 ^ b := Nat.pow_le_pow_right (by decide) h
theorem zb_sh {a p : Nat} (ha : a < 32) (hp : p < 6) : a * 2 ^ (5 * p) < 2 ^ 30 := by
  have h1 : 2 ^ (5 * p) ≤ 2 ^ 25 := zb_p2le (by omega)
  have h2 : a * 2 ^ (5 * p) ≤ 31 * 2 ^ 25 := Nat.mul_le_mul (by omega) h1
  omega
def zU (ro : Nat → Nat → Nat) (set p : Nat) : Nat → Nat
  | 0 => 0
  | n + 1 => zU ro set p n ||| (if set.testBit n then 2 ^ ro n p else 0)
theorem zU_lt {ro : Nat → Nat → Nat} {set p k : Nat} : ∀ {n : Nat}, (∀ c, c < n → ro c p < k) → zU ro set p n < 2 ^ k := by
  intro n
  induction n with
  | zero => intro _; exact Nat.two_pow_pos k
  | succ n ih =>
    intro h
    refine Nat.or_lt_two_pow (ih (fun c hc => h c (by omega))) ?_
    split
    · exact zb_p2 (h n (by omega))
    · exact Nat.two_pow_pos k
theorem zU_bit {ro : Nat → Nat → Nat} {set p v : Nat} : ∀ {n : Nat}, (zU ro set p n).testBit v = true ↔ ∃ c, c < n ∧ set.testBit c = true ∧ ro c p = v := by
  intro n
  induction n with
  | zero => simp [zU]
  | succ n ih =>
    simp only [zU, Nat.testBit_or, Bool.or_eq_true, ih]
    constructor
    · rintro (⟨c, h1, h2, h3⟩ | h)
      · exact ⟨c, by omega, h2, h3⟩
      · by_cases hs : set.testBit n = true
        · rw [if_pos hs, Nat.testBit_two_pow] at h
          exact ⟨n, by omega, hs, of_decide_eq_true h⟩
        · rw [if_neg hs, Nat.zero_testBit] at h; cases h
    · rintro ⟨c, h1, h2, h3⟩
      by_cases hc : c = n
      · subst hc
        refine Or.inr ?_
        rw [if_pos h2, h3]
        exact Nat.testBit_two_pow_self
      · exact Or.inl ⟨c, by omega, h2, h3⟩
theorem zU_pos {ro : Nat → Nat → Nat} {set p n c : Nat} (hc : c < n) (hs : set.testBit c = true) : 0 < zU ro set p n := by
  have h : (zU ro set p n).testBit (ro c p) = true := zU_bit.mpr ⟨c, hc, hs, rfl⟩
  rcases Nat.eq_zero_or_pos (zU ro set p n) with h0 | h0
  · rw [h0, Nat.zero_testBit] at h; cases h
  · exact h0
/-- what a union u CAN at a place with ch choices, mended to me, by hw -/
def zcan (hw ch : Nat) (me : Int) (u : Nat) : Nat := (if hw = 1 ∧ u &&& (u - 1) ≠ 0 then 2 ^ ch - 1 else if hw = 2 ∧ u &&& (u - 1) ≠ 0 then u ||| 16 else u) ||| (if me < 0 then 0 else 2 ^ me.toNat)
def zmd (me : Int) : Nat := if me < 0 then 0 else 2 ^ me.toNat
theorem zmd_lt {me : Int} (h : me < 4) : zmd me < 16 := by
  unfold zmd
  split
  · decide
  · exact zb_p2 (a := me.toNat) (b := 4) (by omega)
theorem zcan_lt {hw ch u : Nat} {me : Int} (h4 : ch ≤ 4) (hu : u < 16) (hm : me < 4) : zcan hw ch me u < 32 := by
  unfold zcan
  have h1 : 2 ^ ch ≤ 2 ^ 4 := zb_p2le h4
  refine Nat.or_lt_two_pow (n := 5) ?_ (Nat.lt_trans (zmd_lt hm) (by decide))
  split
  · omega
  · split
    · exact Nat.or_lt_two_pow (n := 5) (by omega) (by decide)
    · omega
def zwg (hw one any mnd u : Nat) : Nat := if hw = 1 then (u ||| mnd) ||| (((((u &&& (u - one)) + 15) &&& (16 * one)) - (((u &&& (u - one)) + 15) &&& (16 * one)) / 16) &&& any) else if hw = 2 then (u ||| mnd) ||| (((u &&& (u - one)) + 15) &&& (16 * one)) else u ||| mnd
theorem zwg_un : ∀ u, u < 16 → (((u &&& (u - 1)) + 15) &&& (16 * 1)) = if u &&& (u - 1) ≠ 0 then 16 else 0 := by decide
theorem zwg_or : ∀ ch, ch < 5 → ∀ u, u < 2 ^ ch → u ||| (2 ^ ch - 1) = 2 ^ ch - 1 ∧ 15 &&& (2 ^ ch - 1) = 2 ^ ch - 1 := by decide
theorem zwg_in {hw ch u : Nat} {me : Int} (hc : ch ≤ 4) (hu : u < 2 ^ ch) : zwg hw 1 (2 ^ ch - 1) (zmd me) u = zcan hw ch me u := by
  have h16 : u < 16 := Nat.lt_of_lt_of_le hu (zb_p2le (b := 4) hc)
  unfold zwg zcan
  rw [zwg_un u h16]
  obtain ⟨o1, o2⟩ := zwg_or ch (by omega) u hu
  by_cases h1 : hw = 1
  · rw [if_pos h1]
    by_cases h2 : u &&& (u - 1) ≠ 0
    · rw [if_pos h2, if_pos ⟨h1, h2⟩, show 16 - 16 / 16 = 15 by decide, o2, Nat.or_assoc, Nat.or_comm (zmd me), ← Nat.or_assoc, o1]
      rfl
    · rw [if_neg h2, if_neg (fun h => h2 h.2), if_neg (fun h => h2 h.2)]
      simp [zmd]
  · simp only [h1, false_and, if_false]
    by_cases h3 : hw = 2
    · simp only [h3, true_and, if_true]
      by_cases h2 : u &&& (u - 1) ≠ 0
      · rw [if_pos h2, if_pos h2, Nat.or_assoc, Nat.or_comm (zmd me), ← Nat.or_assoc]
        rfl
      · rw [if_neg h2, if_neg h2]
        simp [zmd]
    · simp only [h3, false_and, if_false]
      rfl
theorem zwg_out {hw : Nat} : zwg hw 0 0 0 0 = 0 := by
  unfold zwg
  split
  · decide
  · split <;> decide
theorem qc60 {d : Nat} {M : zMem} {pl a b n : Nat} {v : Nat → Nat} (hpl : M 13 6 = pl) (h6 : pl ≤ 6) (ha : zSHL[a]? = some (.inl (0, n))) (hb : b + pl ≤ n) (hn : n < 1000) (hv : ∀ p, p < pl → M a (b + p) = v p ∧ v p ≤ 5) :
    zCi d 60 [.inr (.inr 4), .inr (.inr a), .inl (b : Int)] M (fun r M' => r = (zbits pl v : Int) ∧ M' = M) := by
  refine zk60 (zv60_0 _ _ ?_)
  have key : ∀ (m p : Nat), p + m = pl → zBg d 60 5 [zR 4, zR a, zI (b : Int), zI (zbits p v : Int), zI (p : Int)] [] M (fun r M' => ∃ w : Int, r = some (.inl w) ∧ w = (zbits pl v : Int) ∧ M' = M) := by
    intro m
    induction m with
    | zero =>
      intro p hp
      have : p = pl := by omega
      subst this
      exact zv60_5 _ _ _ _ ⟨fun _ => ⟨_, rfl, rfl, rfl⟩, fun h => absurd (by omega) h⟩
    | succ m ih =>
      intro p hp
      obtain ⟨h1, h2⟩ := hv p (by omega)
      have hs := zbits_s (pl := p) (v := v) (fun q hq => (hv q (by omega)).2) (by omega)
      have hlt := zbits_lt (pl := p) (v := v) (fun q hq => (hv q (by omega)).2)
      refine zv60_5 _ _ _ _ ⟨fun h => by omega, fun _ => ?_⟩
      rw [show ((b : Int) + (p : Int)).toNat = b + p by omega, h1]
      refine ⟨⟨by omega, by omega⟩, ?_⟩
      rw [zb_ar ha]
      refine ⟨by omega, by omega, fun h => ?_, fun h => ?_⟩
      · refine ⟨⟨by omega, by omega⟩, ?_⟩
        have := ih (p + 1) (by omega)
        rw [hs, if_pos (by omega)] at this
        exact this
      · refine ⟨⟨by omega, by omega⟩, ⟨by omega, by omega⟩, ?_⟩
        rw [zb_ar ha]
        refine ⟨by omega, by omega, ⟨by omega, by omega⟩, ⟨by omega, by omega⟩, ?_⟩
        have h5 : v p ≠ 5 := by omega
        have := ih (p + 1) (by omega)
        rw [hs, if_neg h5] at this
        rw [show (5 * (p : Int) + (v p : Int)) = ((5 * p + v p : Nat) : Int) by omega, zb_shl1 (by omega), zb_or (by omega) (zb_p2 (by omega))]
        exact this
  have h0 : zbits 0 v = 0 := by
    unfold zbits
    rw [zW_congr (g := fun _ => 0) (fun i _ => by unfold zdg; simp), zW_0]
  have := key pl 0 (by omega)
  rw [h0] at this
  exact this
/-- what look leaves: ones, any, mends, the copies' rows as words -/
def zJn (M : zMem) (pl cp : Nat) (ch : Nat → Nat) (me : Nat → Int) (ro : Nat → Nat → Nat) (ms hw : Nat) : Prop := M 42 5 = cp ∧ M 42 6 = ms ∧ M 42 7 = hw ∧ M 42 8 = (zW 6 (zdgs pl (fun _ => 1)) : Int) ∧ M 42 9 = (zW 6 (zdgs pl (fun p => 2 ^ ch p - 1)) : Int) ∧ M 42 10 = (zW 6 (zdgs pl (fun p => zmd (me p))) : Int) ∧ ∀ c, c < cp → M 43 c = (zbits pl (ro c) : Int)
theorem zbits_ro {pl : Nat} {r : Nat → Nat} (h : ∀ p, p < pl → r p < 4) : zbits pl r = zW 6 (zdgs pl (fun p => 2 ^ r p)) := by
  refine zW_congr (fun i _ => ?_)
  unfold zdg zdgs
  by_cases hi : i < pl
  · have := h i hi
    rw [if_pos hi, if_pos ⟨hi, by omega⟩]
  · rw [if_neg hi, if_neg (fun h => hi h.1)]
