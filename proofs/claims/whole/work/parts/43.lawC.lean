/-! NAMED: sets of the list as bits of two longs; the class (wb_ rows began as rows of kit/laws) -/
theorem wb_tb (n : Nat) : (lN n).toBitVec = BitVec.ofNat 64 n := rfl
theorem wb_inj {a b : Int64} (h : a.toBitVec = b.toBitVec) : a = b := Int64.toBitVec_inj.mp h
theorem wb_tn {n : Nat} (h : n < 2 ^ 64) : (lN n).toBitVec.toNat = n := by rw [wb_tb, BitVec.toNat_ofNat, Nat.mod_eq_of_lt h]
theorem wb_and {a b : Nat} (ha : a < 2 ^ 64) (hb : b < 2 ^ 64) : lN a &&& lN b = lN (a &&& b) := by
  apply wb_inj
  rw [Int64.toBitVec_and, wb_tb, wb_tb, wb_tb]
  apply BitVec.eq_of_toNat_eq
  rw [BitVec.toNat_and, BitVec.toNat_ofNat, BitVec.toNat_ofNat, BitVec.toNat_ofNat, Nat.mod_eq_of_lt ha, Nat.mod_eq_of_lt hb, Nat.mod_eq_of_lt (Nat.and_lt_two_pow _ hb)]
theorem wb_or {a b : Nat} (ha : a < 2 ^ 64) (hb : b < 2 ^ 64) : lN a ||| lN b = lN (a ||| b) := by
  apply wb_inj
  rw [Int64.toBitVec_or, wb_tb, wb_tb, wb_tb]
  apply BitVec.eq_of_toNat_eq
  rw [BitVec.toNat_or, BitVec.toNat_ofNat, BitVec.toNat_ofNat, BitVec.toNat_ofNat, Nat.mod_eq_of_lt ha, Nat.mod_eq_of_lt hb, Nat.mod_eq_of_lt (Nat.or_lt_two_pow ha hb)]
theorem wb_xr {a b : Nat} (ha : a < 2 ^ 64) (hb : b < 2 ^ 64) : lN a ^^^ lN b = lN (a ^^^ b) := by
  apply wb_inj
  rw [Int64.toBitVec_xor, wb_tb, wb_tb, wb_tb]
  apply BitVec.eq_of_toNat_eq
  rw [BitVec.toNat_xor, BitVec.toNat_ofNat, BitVec.toNat_ofNat, BitVec.toNat_ofNat, Nat.mod_eq_of_lt ha, Nat.mod_eq_of_lt hb, Nat.mod_eq_of_lt (Nat.xor_lt_two_pow ha hb)]
def zs (w : Nat) : Int := (lN w).toInt
theorem zs_and {a b : Nat} (ha : a < 2 ^ 64) (hb : b < 2 ^ 64) : zland (zs a) (zs b) = zs (a &&& b) := by
  unfold zland zs
  rw [Int64.ofInt_toInt, Int64.ofInt_toInt, wb_and ha hb]
theorem zs_or {a b : Nat} (ha : a < 2 ^ 64) (hb : b < 2 ^ 64) : zlor (zs a) (zs b) = zs (a ||| b) := by
  unfold zlor zs
  rw [Int64.ofInt_toInt, Int64.ofInt_toInt, wb_or ha hb]
theorem zs_xm {a : Nat} (ha : a < 2 ^ 64) : zlxor (zs a) (-1) = zs (a ^^^ 18446744073709551615) := by
  unfold zlxor zs
  rw [Int64.ofInt_toInt, show Int64.ofInt (-1) = lN 18446744073709551615 by decide, wb_xr ha (by decide)]
theorem zs_0 {a : Nat} (ha : a < 2 ^ 64) : zs a = 0 ↔ a = 0 := by
  unfold zs
  constructor
  · intro h
    have h1 : lN a = lN 0 := Int64.toInt_inj.mp (by rw [h]; decide)
    have h2 : (lN a).toBitVec.toNat = (lN 0).toBitVec.toNat := by rw [h1]
    rw [wb_tn ha, wb_tn (by decide)] at h2
    exact h2
  · intro h; subst h; decide
theorem zlcmp_0 {z : Int} : zlcmp z 0 = 0 ↔ z = 0 := by
  unfold zlcmp
  split
  · omega
  · split <;> omega
theorem zb_tm64 (i : Nat) : Nat.testBit 18446744073709551615 i = decide (i < 64) := Nat.testBit_two_pow_sub_one 64 i
/-- z, as a long, has the bit i just where the list has at off + i one that does -/
def zwr (L : List Nat) (P : Nat → Bool) (off : Nat) (z : Int) : Prop := ∃ w, w < 2 ^ 64 ∧ z = zs w ∧ ∀ i, i < 64 → (w.testBit i = true ↔ ∃ s, L[off + i]? = some s ∧ P s = true)
theorem zwr_and {L : List Nat} {P P' : Nat → Bool} {off : Nat} {z z' : Int} (h : zwr L P off z) (h' : zwr L P' off z') : zwr L (fun s => P s && P' s) off (zland z z') := by
  obtain ⟨w, h1, h2, h3⟩ := h
  obtain ⟨w', h1', h2', h3'⟩ := h'
  refine ⟨w &&& w', Nat.lt_of_le_of_lt Nat.and_le_left h1, by rw [h2, h2', zs_and h1 h1'], fun i hi => ?_⟩
  rw [Nat.testBit_and, Bool.and_eq_true, h3 i hi, h3' i hi]
  constructor
  · rintro ⟨⟨s, a, b⟩, ⟨t, c, e⟩⟩
    rw [a] at c
    cases c
    exact ⟨s, a, by simp [b, e]⟩
  · rintro ⟨s, a, b⟩
    simp only [Bool.and_eq_true] at b
    exact ⟨⟨s, a, b.1⟩, ⟨s, a, b.2⟩⟩
theorem zwr_congr {L : List Nat} {P P' : Nat → Bool} {off : Nat} {z : Int} (h : zwr L P off z) (hp : ∀ s, s ∈ L → P s = P' s) : zwr L P' off z := by
  obtain ⟨w, h1, h2, h3⟩ := h
  refine ⟨w, h1, h2, fun i hi => ?_⟩
  rw [h3 i hi]
  constructor
  · rintro ⟨s, a, b⟩; exact ⟨s, a, by rw [← hp s (List.mem_of_getElem? a)]; exact b⟩
  · rintro ⟨s, a, b⟩; exact ⟨s, a, by rw [hp s (List.mem_of_getElem? a)]; exact b⟩
theorem zwr_z {L : List Nat} {P : Nat → Bool} {off : Nat} {z : Int} (h : zwr L P off z) : zlor z 0 = z := by
  obtain ⟨w, h1, h2, h3⟩ := h
  have : (0 : Int) = zs 0 := by decide
  rw [h2, this, zs_or h1 (by decide), Nat.or_zero]
theorem zw_0 {w : Nat} (h : w < 2 ^ 64) : w = 0 ↔ ∀ i, i < 64 → w.testBit i = false := by
  constructor
  · intro h0 i _; rw [h0]; exact Nat.zero_testBit i
  · intro h0
    apply Nat.eq_of_testBit_eq
    intro i
    rw [Nat.zero_testBit]
    rcases Nat.lt_or_ge i 64 with hi | hi
    · exact h0 i hi
    · exact Nat.testBit_lt_two_pow (Nat.lt_of_lt_of_le h (Nat.pow_le_pow_right (by decide) hi))
theorem zwr_none {L : List Nat} {P : Nat → Bool} {lo hi : Int} (h : zwr L P 0 lo) (h' : zwr L P 64 hi) (hl : L.length ≤ 128) : zlcmp (zlor lo hi) 0 = 0 ↔ ∀ s, s ∈ L → P s = false := by
  obtain ⟨w, h1, h2, h3⟩ := h
  obtain ⟨w', h1', h2', h3'⟩ := h'
  rw [zlcmp_0, h2, h2', zs_or h1 h1', zs_0 (Nat.or_lt_two_pow h1 h1'), zw_0 (Nat.or_lt_two_pow h1 h1')]
  constructor
  · intro h s hs
    obtain ⟨j, hj⟩ := List.getElem?_of_mem hs
    have hjl : j < L.length := (List.getElem?_eq_some_iff.mp hj).1
    cases hp : P s with
    | false => rfl
    | true =>
      exfalso
      rcases Nat.lt_or_ge j 64 with hj6 | hj6
      · have h4 := h j hj6
        rw [Nat.testBit_or, Bool.or_eq_false_iff] at h4
        have h5 := (h3 j hj6).mpr ⟨s, by rw [Nat.zero_add]; exact hj, hp⟩
        rw [h5] at h4
        cases h4.1
      · have h4 := h (j - 64) (by omega)
        rw [Nat.testBit_or, Bool.or_eq_false_iff] at h4
        have h5 := (h3' (j - 64) (by omega)).mpr ⟨s, by rw [show 64 + (j - 64) = j by omega]; exact hj, hp⟩
        rw [h5] at h4
        cases h4.2
  · intro h i hi6
    rw [Nat.testBit_or, Bool.or_eq_false_iff]
    constructor
    · cases hw : w.testBit i with
      | false => rfl
      | true =>
        obtain ⟨s, a, b⟩ := (h3 i hi6).mp hw
        rw [h s (List.mem_of_getElem? a)] at b
        cases b
    · cases hw : w'.testBit i with
      | false => rfl
      | true =>
        obtain ⟨s, a, b⟩ := (h3' i hi6).mp hw
        rw [h s (List.mem_of_getElem? a)] at b
        cases b
theorem zwr_sub {L : List Nat} {P P' : Nat → Bool} {off : Nat} {z y : Int} (h : zwr L P off z) (h' : zwr L P' off y) : zlcmp (zland z (zlxor y (-1))) 0 = 0 ↔ ∀ i, i < 64 → ∀ s, L[off + i]? = some s → P s = true → P' s = true := by
  obtain ⟨w, h1, h2, h3⟩ := h
  obtain ⟨w', h1', h2', h3'⟩ := h'
  have hx : w' ^^^ 18446744073709551615 < 2 ^ 64 := Nat.xor_lt_two_pow h1' (by decide)
  rw [zlcmp_0, h2, h2', zs_xm h1', zs_and h1 hx, zs_0 (Nat.lt_of_le_of_lt Nat.and_le_left h1), zw_0 (Nat.lt_of_le_of_lt Nat.and_le_left h1)]
  constructor
  · intro h i hi s hs hp
    have h4 := h i hi
    rw [Nat.testBit_and, (h3 i hi).mpr ⟨s, hs, hp⟩, Nat.testBit_xor, zb_tm64, decide_eq_true hi] at h4
    have h5 : w'.testBit i = true := by
      cases hb : w'.testBit i with
      | false => rw [hb] at h4; cases h4
      | true => rfl
    obtain ⟨t, a, b⟩ := (h3' i hi).mp h5
    rw [hs] at a
    cases a
    exact b
  · intro h i hi
    rw [Nat.testBit_and, Nat.testBit_xor, zb_tm64, decide_eq_true hi]
    cases hw : w.testBit i with
    | false => rfl
    | true =>
      obtain ⟨s, a, b⟩ := (h3 i hi).mp hw
      rw [(h3' i hi).mpr ⟨s, a, h i hi s a b⟩]
      rfl
theorem zwr_sub2 {L : List Nat} {P P' : Nat → Bool} {lo hi y0 y1 : Int} (h0 : zwr L P 0 lo) (h1 : zwr L P 64 hi) (g0 : zwr L P' 0 y0) (g1 : zwr L P' 64 y1) (hl : L.length ≤ 128) : (zlcmp (zland lo (zlxor y0 (-1))) 0 = 0 ∧ zlcmp (zland hi (zlxor y1 (-1))) 0 = 0) ↔ ∀ s, s ∈ L → P s = true → P' s = true := by
  rw [zwr_sub h0 g0, zwr_sub h1 g1]
  constructor
  · rintro ⟨a, b⟩ s hs hp
    obtain ⟨j, hj⟩ := List.getElem?_of_mem hs
    have hjl : j < L.length := (List.getElem?_eq_some_iff.mp hj).1
    rcases Nat.lt_or_ge j 64 with hj6 | hj6
    · exact a j hj6 s (by rw [Nat.zero_add]; exact hj) hp
    · exact b (j - 64) (by omega) s (by rw [show 64 + (j - 64) = j by omega]; exact hj) hp
  · intro h
    exact ⟨fun i _ s hs hp => h s (List.mem_of_getElem? hs) hp, fun i _ s hs hp => h s (List.mem_of_getElem? hs) hp⟩
theorem zwr_push {D : List Nat} {P : Nat → Bool} {off s : Nat} {z : Int} (h : zwr D P off z) : zwr (D ++ [s]) P off (if P s then zlor z (if off ≤ D.length ∧ D.length < off + 64 then zs (2 ^ (D.length - off)) else 0) else z) := by
  have hz := zwr_z h
  obtain ⟨w, h1, h2, h3⟩ := h
  have app : ∀ i t, (D ++ [s])[off + i]? = some t ↔ D[off + i]? = some t ∨ (off + i = D.length ∧ t = s) := by
    intro i t
    rw [List.getElem?_append]
    split
    · rename_i hlt
      constructor
      · intro hh; exact Or.inl hh
      · rintro (hh | ⟨hh, _⟩)
        · exact hh
        · omega
    · rename_i hge
      constructor
      · intro hh
        have h9 : off + i - D.length = 0 := by
          have := (List.getElem?_eq_some_iff.mp hh).1
          simp at this
          omega
        rw [h9] at hh
        cases hh
        exact Or.inr ⟨by omega, rfl⟩
      · rintro (hh | ⟨hh, h8⟩)
        · have := (List.getElem?_eq_some_iff.mp hh).1; omega
        · rw [hh, h8]; simp
  by_cases hps : P s = true
  · rw [if_pos hps]
    by_cases hr : off ≤ D.length ∧ D.length < off + 64
    · rw [if_pos hr]
      have hlt : 2 ^ (D.length - off) < 2 ^ 64 := zb_p2 (by omega)
      refine ⟨w ||| 2 ^ (D.length - off), Nat.or_lt_two_pow h1 hlt, by rw [h2, zs_or h1 hlt], fun i hi => ?_⟩
      rw [Nat.testBit_or, Bool.or_eq_true, h3 i hi, Nat.testBit_two_pow, decide_eq_true_eq]
      constructor
      · rintro (⟨t, a, b⟩ | hh)
        · exact ⟨t, (app i t).mpr (Or.inl a), b⟩
        · exact ⟨s, (app i s).mpr (Or.inr ⟨by omega, rfl⟩), hps⟩
      · rintro ⟨t, a, b⟩
        rcases (app i t).mp a with a | ⟨a, e⟩
        · exact Or.inl ⟨t, a, b⟩
        · exact Or.inr (by omega)
    · rw [if_neg hr, hz]
      refine ⟨w, h1, h2, fun i hi => ?_⟩
      rw [h3 i hi]
      constructor
      · rintro ⟨t, a, b⟩; exact ⟨t, (app i t).mpr (Or.inl a), b⟩
      · rintro ⟨t, a, b⟩
        rcases (app i t).mp a with a | ⟨a, e⟩
        · exact ⟨t, a, b⟩
        · omega
  · rw [if_neg hps]
    refine ⟨w, h1, h2, fun i hi => ?_⟩
    rw [h3 i hi]
    constructor
    · rintro ⟨t, a, b⟩; exact ⟨t, (app i t).mpr (Or.inl a), b⟩
    · rintro ⟨t, a, b⟩
      rcases (app i t).mp a with a | ⟨a, e⟩
      · exact ⟨t, a, b⟩
      · subst e; exact absurd b hps
theorem zwr_full {L : List Nat} {off : Nat} : zwr L (fun _ => true) off (zs (2 ^ (min (L.length - off) 64) - 1)) := by
  have hp : 2 ^ (min (L.length - off) 64) ≤ 2 ^ 64 := zb_p2le (by omega)
  refine ⟨_, by have := Nat.two_pow_pos (min (L.length - off) 64); omega, rfl, fun i hi => ?_⟩
  rw [Nat.testBit_two_pow_sub_one, decide_eq_true_eq]
  constructor
  · intro h; exact ⟨_, List.getElem?_eq_getElem (by omega), rfl⟩
  · rintro ⟨s, a, _⟩
    have := (List.getElem?_eq_some_iff.mp a).1
    omega
theorem zlow64 : ∀ n : Nat, n < 64 → zlsub (zlshl 1 (n : Int)) 1 = zs (2 ^ n - 1) := by decide +kernel
theorem zshl64 : ∀ n : Nat, n < 64 → zlshl 1 (n : Int) = zs (2 ^ n) := by decide +kernel
theorem qc18 {d : Nat} {M : zMem} {n : Int} : zCl d 18 [.inl n] M (fun r M' => r = zs (2 ^ (min n.toNat 64) - 1) ∧ M' = M) := by
  refine zk18 (zv18_0 _ ⟨fun h => ⟨fun h2 => ⟨_, rfl, ?_, rfl⟩, fun h2 => ⟨_, rfl, ?_, rfl⟩⟩, fun h => ⟨_, rfl, ?_, rfl⟩⟩)
  · have := zlow64 n.toNat (by omega)
    rw [show ((n.toNat : Nat) : Int) = n by omega] at this
    rw [this, show min n.toNat 64 = n.toNat by omega]
  · rw [show min n.toNat 64 = 64 by omega]; decide
  · rw [show min n.toNat 64 = 0 by omega]; decide
theorem qc25 {d : Nat} {M : zMem} {bits a n : Nat} {z : Int} (hb : bits < 2 ^ 31) (ha : zSHL[a]? = some (.inl (2, n))) (hn : n ≤ 30) :
    zCv d 25 [.inl (bits : Int), .inr (.inr a), .inr (.inl z)] M (fun M' => (∀ k, k ≠ a → M' k = M k) ∧ ∀ b, b < n → M' a b = if bits.testBit b then zlor (M a b) z else M a b) := by
  refine zk25 (zv25_0 _ _ _ ?_)
  have key : ∀ (m b : Nat) (M1 : zMem), b + m = n → (∀ k, k ≠ a → M1 k = M k) → (∀ j, j < b → M1 a j = if bits.testBit j then zlor (M a j) z else M a j) → (∀ j, b ≤ j → M1 a j = M a j) →
      zBg d 25 3 [zI (bits : Int), zR a, zL z, none, zI (b : Int)] [] M1 (fun r M' => r = none ∧ (∀ k, k ≠ a → M' k = M k) ∧ ∀ b, b < n → M' a b = if bits.testBit b then zlor (M a b) z else M a b) := by
    intro m
    induction m with
    | zero =>
      intro b M1 hb1 h1 h2 h3
      refine zv25_3 _ _ _ _ ?_
      rw [zb_ln ha]
      exact ⟨fun _ => ⟨rfl, h1, fun j hj => h2 j (by omega)⟩, fun h => absurd (by omega) h⟩
    | succ m ih =>
      intro b M1 hb1 h1 h2 h3
      refine zv25_3 _ _ _ _ ?_
      rw [zb_ln ha, Ne, zb_bit1 hb (by omega)]
      refine ⟨fun h => by omega, fun _ => ⟨fun h => ⟨⟨by omega, by omega⟩, ?_⟩, fun h => ?_⟩⟩
      · refine ih (b + 1) M1 (by omega) h1 (fun j hj => ?_) (fun j hj => h3 j (by omega))
        by_cases hjb : j = b
        · subst hjb; rw [if_neg h]; exact h3 j (Nat.le_refl _)
        · exact h2 j (by omega)
      · rw [Decidable.not_not] at h
        rw [zb_ar ha]
        refine ⟨by omega, by omega, ?_⟩
        rw [zb_ar ha, Int.toNat_natCast]
        refine ⟨by omega, by omega, ⟨by omega, by omega⟩, ?_⟩
        refine ih (b + 1) _ (by omega) (fun k hk => by rw [zb_uk hk]; exact h1 k hk) (fun j hj => ?_) (fun j hj => by rw [zb_ui (by omega)]; exact h3 j (by omega))
        by_cases hjb : j = b
        · subst hjb; rw [zb_us, if_pos h, h3 j (Nat.le_refl _)]
        · rw [zb_ui hjb]; exact h2 j (by omega)
  exact key n 0 M (by omega) (fun _ _ => rfl) (fun j hj => by omega) (fun _ _ => rfl)
/-- what mark leaves -/
def zMk (M : zMem) (cw : Nat → Nat) (L : List Nat) : Prop := (∀ b, b < 30 → zwr L (fun s => (cw s).testBit b) 0 (M 38 b) ∧ zwr L (fun s => (cw s).testBit b) 64 (M 39 b)) ∧ ∀ c, c < 8 → zwr L (fun s => s.testBit c) 0 (M 40 c) ∧ zwr L (fun s => s.testBit c) 64 (M 41 c)
theorem zwr_nil {P : Nat → Bool} {off : Nat} : zwr [] P off 0 := ⟨0, by decide, by decide, fun i _ => by simp⟩
theorem qc24 {d : Nat} {M : zMem} {pl cp ms hw : Nat} {ch : Nat → Nat} {me : Nat → Int} {ro : Nat → Nat → Nat} {L : List Nat} (hF : zWF pl cp ch me ro) (hL : zLs M pl cp ch me ro hw L) (h92 : L.length ≤ 92) (h256 : ∀ s, s ∈ L → s < 256) :
    zCv (d + 1) 24 [.inr (.inr 36)] M (fun M' => zMk M' (zcw pl cp ch me ro hw) L ∧ ∀ k, (k < 38 ∨ 41 < k) → M' k = M k) := by
  refine zk24 (zv24_0 ⟨_, qc181 (n := 30) rfl (by decide), ?_⟩)
  rintro M1 ⟨a1, b1⟩
  refine ⟨_, qc181 (n := 30) rfl (by decide), ?_⟩
  rintro M2 ⟨a2, b2⟩
  refine ⟨_, qc181 (n := 8) rfl (by decide), ?_⟩
  rintro M3 ⟨a3, b3⟩
  refine ⟨_, qc181 (n := 8) rfl (by decide), ?_⟩
  rintro M4 ⟨a4, b4⟩
  have fr4 : ∀ k, (k < 38 ∨ 41 < k) → M4 k = M k := fun k hk => by rw [a4 k (by omega), a3 k (by omega), a2 k (by omega), a1 k (by omega)]
  have key : ∀ (R D : List Nat) (M5 : zMem), D ++ R = L → (∀ k, (k < 38 ∨ 41 < k) → M5 k = M k) → zMk M5 (zcw pl cp ch me ro hw) D →
      zBg (d + 1) 24 34 [zR 36, zI (D.length : Int), none, none, none, none] [] M5 (fun r M' => r = none ∧ zMk M' (zcw pl cp ch me ro hw) L ∧ ∀ k, (k < 38 ∨ 41 < k) → M' k = M k) := by
    intro R
    induction R with
    | nil =>
      intro D M5 h1 h2 h3
      rw [List.append_nil] at h1
      subst h1
      exact zv24_34 _ ⟨fun _ => ⟨rfl, h3, h2⟩, fun h => absurd (by rw [h2 42 (by omega), hL.1]; omega) h⟩
    | cons s R ih =>
      intro D M5 h1 h2 h3
      have hlen : D.length < L.length := by rw [← h1]; simp
      have hs : L[D.length]? = some s := by rw [← h1]; simp
      have hs2 : s < 256 := h256 s (by rw [← h1]; simp)
      obtain ⟨c1, c2, c3⟩ := hL.2 _ _ hs
      have hcw := zcw_lt (hw := hw) (s := s) hF
      have ih1 := ih (D ++ [s])
      simp only [List.append_assoc, List.singleton_append, List.length_append, List.length_cons, List.length_nil] at ih1
      -- the four spreads, with any marks
      have go : ∀ (lo hi : Int), lo = (if 0 ≤ D.length ∧ D.length < 0 + 64 then zs (2 ^ (D.length - 0)) else 0) → hi = (if 64 ≤ D.length ∧ D.length < 64 + 64 then zs (2 ^ (D.length - 64)) else 0) →
          ∃ Q1, zCv d 25 [.inl (M5 46 D.length), .inr (.inr 38), .inr (.inl lo)] M5 Q1 ∧ ∀ M1, Q1 M1 →
          (0 : Int) ≤ (D.length : Int) ∧ ((D.length : Int) : Int) < 92 ∧ ∃ Q2, zCv d 25 [.inl (M1 46 D.length), .inr (.inr 39), .inr (.inl hi)] M1 Q2 ∧ ∀ M2, Q2 M2 →
          (0 : Int) ≤ (D.length : Int) ∧ ((D.length : Int) : Int) < 92 ∧ ∃ Q3, zCv d 25 [.inl (M2 44 D.length), .inr (.inr 40), .inr (.inl lo)] M2 Q3 ∧ ∀ M3, Q3 M3 →
          (0 : Int) ≤ (D.length : Int) ∧ ((D.length : Int) : Int) < 92 ∧ ∃ Q4, zCv d 25 [.inl (M3 44 D.length), .inr (.inr 41), .inr (.inl hi)] M3 Q4 ∧ ∀ M4, Q4 M4 →
          zR32 ((D.length : Int) + 1) ∧ zBg (d + 1) 24 34 [zR 36, zI ((D.length : Int) + 1), none, none, none, none] [] M4 (fun r M' => r = none ∧ zMk M' (zcw pl cp ch me ro hw) L ∧ ∀ k, (k < 38 ∨ 41 < k) → M' k = M k) := by
        intro lo hi hlo hhi
        rw [h2 46 (by omega), c3]
        refine ⟨_, qc25 (n := 30) (by omega) rfl (by decide), ?_⟩
        rintro N1 ⟨e1, g1⟩
        rw [e1 46 (by decide), h2 46 (by omega), c3]
        refine ⟨by omega, by omega, _, qc25 (n := 30) (by omega) rfl (by decide), ?_⟩
        rintro N2 ⟨e2, g2⟩
        rw [e2 44 (by decide), e1 44 (by decide), h2 44 (by omega), c1]
        refine ⟨by omega, by omega, _, qc25 (n := 8) (by omega) rfl (by decide), ?_⟩
        rintro N3 ⟨e3, g3⟩
        rw [e3 44 (by decide), e2 44 (by decide), e1 44 (by decide), h2 44 (by omega), c1]
        refine ⟨by omega, by omega, _, qc25 (n := 8) (by omega) rfl (by decide), ?_⟩
        rintro N4 ⟨e4, g4⟩
        refine ⟨⟨by omega, by omega⟩, ih1 N4 h1 (fun k hk => by rw [e4 k (by omega), e3 k (by omega), e2 k (by omega), e1 k (by omega)]; exact h2 k hk) ⟨fun b hb => ⟨?_, ?_⟩, fun c hc => ⟨?_, ?_⟩⟩⟩
        · have := zwr_push (s := s) (h3.1 b hb).1
          rw [← hlo] at this
          rw [e4 38 (by decide), e3 38 (by decide), e2 38 (by decide), g1 b hb]
          exact this
        · have := zwr_push (s := s) (h3.1 b hb).2
          rw [← hhi] at this
          rw [e4 39 (by decide), e3 39 (by decide), g2 b hb, e1 39 (by decide)]
          exact this
        · have := zwr_push (s := s) (h3.2 c hc).1
          rw [← hlo] at this
          rw [e4 40 (by decide), g3 c hc, e2 40 (by decide), e1 40 (by decide)]
          exact this
        · have := zwr_push (s := s) (h3.2 c hc).2
          rw [← hhi] at this
          rw [g4 c hc, e3 41 (by decide), e2 41 (by decide), e1 41 (by decide)]
          exact this
      refine zv24_34 _ ⟨fun h => by rw [h2 42 (by omega), hL.1] at h; omega, fun _ => ?_⟩
      rw [Int.toNat_natCast]
      refine ⟨fun h64 => ⟨fun _ => ?_, fun h => absurd h64 h⟩, fun h64 => ⟨fun h => absurd h h64, fun _ => ?_⟩⟩
      · rw [show (D.length : Int) - 64 = ((D.length - 64 : Nat) : Int) by omega, zshl64 _ (by omega)]
        exact ⟨⟨by omega, by omega⟩, by omega, by omega, go 0 (zs (2 ^ (D.length - 64))) (by rw [if_neg (by omega)]) (by rw [if_pos (by omega)])⟩
      · rw [zshl64 _ (by omega)]
        exact ⟨by omega, by omega, go (zs (2 ^ D.length)) 0 (by rw [if_pos (by omega), Nat.sub_zero]) (by rw [if_neg (by omega)])⟩
  refine key L [] M4 rfl fr4 ⟨fun b hb => ⟨?_, ?_⟩, fun c hc => ⟨?_, ?_⟩⟩
  · rw [a4 38 (by decide), a3 38 (by decide), a2 38 (by decide), b1 b hb]; exact zwr_nil
  · rw [a4 39 (by decide), a3 39 (by decide), b2 b hb]; exact zwr_nil
  · rw [a4 40 (by decide), b3 c hc]; exact zwr_nil
  · rw [b4 c hc]; exact zwr_nil
theorem qc27 {d : Nat} {M : zMem} {cp : Nat} {cw : Nat → Nat} {L : List Nat} {P : Nat → Bool} {lo hi : Int} (hcp : M 42 5 = cp) (h8 : cp ≤ 8) (hK : zMk M cw L) (h0 : zwr L P 0 lo) (h1 : zwr L P 64 hi) (hl : L.length ≤ 92) :
    zCi d 27 [.inr (.inr 36), .inr (.inl lo), .inr (.inl hi)] M (fun r M' => (r = 1 ∧ (∃ c, c < cp ∧ ∀ s, s ∈ L → P s = true → s.testBit c = true) ∨ r = 0 ∧ ¬ ∃ c, c < cp ∧ ∀ s, s ∈ L → P s = true → s.testBit c = true) ∧ M' = M) := by
  refine zk27 (zv27_0 _ _ ?_)
  have key : ∀ (m c : Nat), c + m = cp → (∀ e, e < c → ¬ ∀ s, s ∈ L → P s = true → s.testBit e = true) → zBg d 27 3 [zR 36, zL lo, none, zL hi, none, zI (c : Int)] [] M (fun r M' => ∃ v : Int, r = some (.inl v) ∧ (v = 1 ∧ (∃ c, c < cp ∧ ∀ s, s ∈ L → P s = true → s.testBit c = true) ∨ v = 0 ∧ ¬ ∃ c, c < cp ∧ ∀ s, s ∈ L → P s = true → s.testBit c = true) ∧ M' = M) := by
    intro m
    induction m with
    | zero =>
      intro c hc h2
      have : c = cp := by omega
      subst this
      refine zv27_3 _ _ _ ⟨fun _ => ⟨Or.inl rfl, _, rfl, Or.inr ⟨rfl, ?_⟩, rfl⟩, fun h => absurd (by omega) h⟩
      rintro ⟨e, he, hs⟩
      exact h2 e he hs
    | succ m ih =>
      intro c hc h2
      obtain ⟨g0, g1⟩ := hK.2 c (by omega)
      have hz := zwr_sub2 h0 h1 g0 g1 (by omega)
      have hnext : (¬ ∀ s, s ∈ L → P s = true → s.testBit c = true) → zBg d 27 3 [zR 36, zL lo, none, zL hi, none, zI ((c : Int) + 1)] [] M (fun r M' => ∃ v : Int, r = some (.inl v) ∧ (v = 1 ∧ (∃ c, c < cp ∧ ∀ s, s ∈ L → P s = true → s.testBit c = true) ∨ v = 0 ∧ ¬ ∃ c, c < cp ∧ ∀ s, s ∈ L → P s = true → s.testBit c = true) ∧ M' = M) := by
        intro hn
        refine ih (c + 1) (by omega) (fun e he => ?_)
        by_cases hec : e = c
        · subst hec; exact hn
        · exact h2 e (by omega)
      refine zv27_3 _ _ _ ⟨fun h => by omega, fun _ => ⟨by omega, by omega, ?_⟩⟩
      rw [Int.toNat_natCast]
      refine ⟨fun h => ⟨⟨by omega, by omega⟩, hnext (fun h3 => h (hz.mpr h3).1)⟩, fun h => ⟨by omega, by omega, fun h4 => ⟨⟨by omega, by omega⟩, hnext (fun h3 => h4 (hz.mpr h3).2)⟩, fun h4 => ⟨Or.inr rfl, _, rfl, Or.inl ⟨rfl, c, by omega, ?_⟩, rfl⟩⟩⟩
      rw [Ne, Decidable.not_not] at h h4
      exact hz.mp ⟨h, h4⟩
  exact key cp 0 (by omega) (fun e he => by omega)
