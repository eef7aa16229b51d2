/-! widened, look, unionOf, canOf, list of the class; the sets in their order -/
theorem qc13 {d : Nat} {M : zMem} {pl cp ms hw : Nat} {ch : Nat → Nat} {me : Nat → Int} {ro : Nat → Nat → Nat} {u : Nat → Nat} (hF : zWF pl cp ch me ro) (hJ : zJn M pl cp ch me ro ms hw) (hu : ∀ p, p < pl → 0 < u p ∧ u p < 2 ^ ch p) :
    zCi d 13 [.inr (.inr 42), .inl ((zW 6 (zdgs pl u) : Nat) : Int)] M (fun r M' => r = ((zW 6 (zdgs pl (fun p => zcan hw (ch p) (me p) (u p))) : Nat) : Int) ∧ M' = M) := by
  obtain ⟨f1, f2, f3, f4⟩ := hF
  obtain ⟨j5, j6, j7, j8, j9, j10, j43⟩ := hJ
  have hu16 : ∀ p, p < pl → u p < 16 := fun p hp => Nat.lt_of_lt_of_le (hu p hp).2 (zb_p2le (b := 4) (f3 p hp).2.1)
  have b1 : ∀ i, i < 6 → zdgs pl u i < 16 := zdgs_lt (by decide) hu16
  have b2 : ∀ i, i < 6 → zdgs pl (fun _ => 1) i < 2 := zdgs_lt (by decide) (fun _ _ => by decide)
  have b3 : ∀ i, i < 6 → zdgs pl (fun p => 2 ^ ch p - 1) i < 16 := zdgs_lt (by decide) (fun p hp => by have := zb_p2le (a := ch p) (b := 4) (f3 p hp).2.1; omega)
  have b4 : ∀ i, i < 6 → zdgs pl (fun p => zmd (me p)) i < 16 := zdgs_lt (by decide) (fun p hp => zmd_lt (by have := f3 p hp; omega))
  have c1 : ∀ i, i < 6 → zdgs pl (fun _ => 1) i ≤ zdgs pl u i := by
    intro i _
    unfold zdgs
    split
    · exact (hu i (by assumption)).1
    · exact Nat.le_refl _
  generalize hU : zdgs pl u = U at b1 c1
  generalize hO : zdgs pl (fun _ => 1) = O at b2 c1 j8
  generalize hA : zdgs pl (fun p => 2 ^ ch p - 1) = A at b3 j9
  generalize hD : zdgs pl (fun p => zmd (me p)) = D at b4 j10
  have lt : ∀ {f : Nat → Nat}, (∀ i, i < 6 → f i < 32) → zW 6 f < 2 ^ 31 := fun h => Nat.lt_trans (zW_lt (n := 6) h) (by decide)
  have e1 : ((zW 6 U : Nat) : Int) - M 42 8 = ((zW 6 (fun i => U i - O i) : Nat) : Int) := by
    have h := zW_sub c1
    rw [j8, ← h.2]
    omega
  have g1 : ∀ i, i < 6 → U i - O i < 32 := fun i hi => by have := b1 i hi; omega
  have gU : ∀ i, i < 6 → U i < 32 := fun i hi => by have := b1 i hi; omega
  have gA : ∀ i, i < 6 → A i < 32 := fun i hi => by have := b3 i hi; omega
  have gD : ∀ i, i < 6 → D i < 32 := fun i hi => by have := b4 i hi; omega
  have e2 : ziand ((zW 6 U : Nat) : Int) ((zW 6 (fun i => U i - O i) : Nat) : Int) = ((zW 6 (fun i => U i &&& (U i - O i)) : Nat) : Int) := by
    rw [zb_and (lt gU), zW_and gU g1]
  have g2 : ∀ i, i < 6 → U i &&& (U i - O i) < 16 := fun i hi => Nat.lt_of_le_of_lt Nat.and_le_left (b1 i hi)
  have e3 : ((zW 6 (fun i => U i &&& (U i - O i)) : Nat) : Int) + 519552495 = ((zW 6 (fun i => (U i &&& (U i - O i)) + 15) : Nat) : Int) := by
    have h : zW 6 (fun _ => 15) = 519552495 := by decide
    have h2 := zW_add (n := 6) (f := fun i => U i &&& (U i - O i)) (g := fun _ => 15)
    rw [← h2, h]
    omega
  have g3 : ∀ i, i < 6 → (U i &&& (U i - O i)) + 15 < 32 := fun i hi => by have := g2 i hi; omega
  have e4 : 16 * M 42 8 = ((zW 6 (fun i => 16 * O i) : Nat) : Int) := by
    rw [j8, ← zW_mul]
    omega
  have g4 : ∀ i, i < 6 → 16 * O i < 32 := fun i hi => by have := b2 i hi; omega
  have e5 : ziand ((zW 6 (fun i => (U i &&& (U i - O i)) + 15) : Nat) : Int) ((zW 6 (fun i => 16 * O i) : Nat) : Int) = ((zW 6 (fun i => ((U i &&& (U i - O i)) + 15) &&& (16 * O i)) : Nat) : Int) := by
    rw [zb_and (lt g3), zW_and g3 g4]
  have g5 : ∀ i, i < 6 → ((U i &&& (U i - O i)) + 15) &&& (16 * O i) < 32 := fun i hi => Nat.lt_of_le_of_lt Nat.and_le_left (g3 i hi)
  have d5 : ∀ i, i < 6 → 16 * ((((U i &&& (U i - O i)) + 15) &&& (16 * O i)) / 16) = ((U i &&& (U i - O i)) + 15) &&& (16 * O i) := by
    intro i hi
    have h1 := b2 i hi
    have h2 : O i = 0 ∨ O i = 1 := by omega
    have h3 := g2 i hi
    rcases h2 with h2 | h2
    · rw [h2]; simp
    · rw [h2] at h3 ⊢
      have : ∀ y, y < 16 → 16 * (((y + 15) &&& (16 * 1)) / 16) = ((y + 15) &&& (16 * 1)) := by decide
      exact this _ h3
  have e6 : zishr ((zW 6 (fun i => ((U i &&& (U i - O i)) + 15) &&& (16 * O i)) : Nat) : Int) 4 = ((zW 6 (fun i => (((U i &&& (U i - O i)) + 15) &&& (16 * O i)) / 16) : Nat) : Int) := by
    have h := zb_shr (a := zW 6 (fun i => ((U i &&& (U i - O i)) + 15) &&& (16 * O i))) (k := 4) (lt g5) (by decide)
    refine h.trans ?_
    have h2 : zW 6 (fun i => ((U i &&& (U i - O i)) + 15) &&& (16 * O i)) = 16 * zW 6 (fun i => (((U i &&& (U i - O i)) + 15) &&& (16 * O i)) / 16) := by
      rw [zW_mul]
      exact zW_congr (fun i hi => (d5 i hi).symm)
    rw [h2]
    omega
  have hs := zW_sub (n := 6) (f := fun i => ((U i &&& (U i - O i)) + 15) &&& (16 * O i)) (g := fun i => (((U i &&& (U i - O i)) + 15) &&& (16 * O i)) / 16) (fun i _ => Nat.div_le_self _ _)
  have e7 : ((zW 6 (fun i => ((U i &&& (U i - O i)) + 15) &&& (16 * O i)) : Nat) : Int) - ((zW 6 (fun i => (((U i &&& (U i - O i)) + 15) &&& (16 * O i)) / 16) : Nat) : Int) = ((zW 6 (fun i => (((U i &&& (U i - O i)) + 15) &&& (16 * O i)) - (((U i &&& (U i - O i)) + 15) &&& (16 * O i)) / 16) : Nat) : Int) := by
    rw [← hs.2]
    omega
  have g7 : ∀ i, i < 6 → (((U i &&& (U i - O i)) + 15) &&& (16 * O i)) - (((U i &&& (U i - O i)) + 15) &&& (16 * O i)) / 16 < 32 := fun i hi => by have := g5 i hi; omega
  have e8 : zior ((zW 6 U : Nat) : Int) (M 42 10) = ((zW 6 (fun i => U i ||| D i) : Nat) : Int) := by
    rw [j10, zb_or (lt gU) (lt gD), zW_or gU gD]
  have g8 : ∀ i, i < 6 → U i ||| D i < 32 := fun i hi => Nat.or_lt_two_pow (n := 5) (gU i hi) (gD i hi)
  have fin : zW 6 (fun i => zwg hw (O i) (A i) (D i) (U i)) = zW 6 (zdgs pl (fun p => zcan hw (ch p) (me p) (u p))) := by
    refine zW_congr (fun i _ => ?_)
    rw [← hU, ← hO, ← hA, ← hD]
    by_cases hi : i < pl
    · simp only [zdgs, if_pos hi]
      exact zwg_in (f3 i hi).2.1 (hu i hi).2
    · simp only [zdgs, if_neg hi]
      exact zwg_out
  refine zk13 (zv13_0 _ ?_)
  rw [e1, e2, e3, e4, e5, e6, e7, e8, j7, j9]
  have l1 := lt g1
  have l2 := lt g3
  have l3 := lt g4
  have l4 := lt g7
  refine ⟨⟨by omega, by omega⟩, ⟨by omega, by omega⟩, ⟨by omega, by omega⟩, fun h => ⟨fun h2 => ⟨_, rfl, ?_, rfl⟩, fun h2 => ⟨_, rfl, ?_, rfl⟩⟩, fun h => ⟨⟨by omega, by omega⟩, _, rfl, ?_, rfl⟩⟩
  · rw [← fin]
    have q1 : hw ≠ 1 := by omega
    have q2 : hw ≠ 2 := by omega
    simp only [zwg, if_neg q1, if_neg q2]
  · rw [← fin]
    have q2 : hw = 2 := by omega
    subst q2
    rw [zb_or (lt g8) (lt g5), zW_or g8 g5]
    rfl
  · rw [← fin]
    have q2 : hw = 1 := by omega
    subst q2
    rw [zb_and (lt g7), zW_and g7 gA, zb_or (lt g8) (lt (fun i hi => Nat.lt_of_le_of_lt Nat.and_le_left (g7 i hi))), zW_or g8 (fun i hi => Nat.lt_of_le_of_lt Nat.and_le_left (g7 i hi))]
    rfl
/-- the words of a union, of what a set CAN -/
def zuw (pl cp : Nat) (ro : Nat → Nat → Nat) (s : Nat) : Nat := zW 6 (zdgs pl (fun p => zU ro s p cp))
def zcw (pl cp : Nat) (ch : Nat → Nat) (me : Nat → Int) (ro : Nat → Nat → Nat) (hw s : Nat) : Nat := zW 6 (zdgs pl (fun p => zcan hw (ch p) (me p) (zU ro s p cp)))
theorem zU_ok {pl cp : Nat} {ch : Nat → Nat} {me : Nat → Int} {ro : Nat → Nat → Nat} (hF : zWF pl cp ch me ro) {s p n : Nat} (hp : p < pl) (hn : n ≤ cp) : zU ro s p n < 2 ^ ch p ∧ zU ro s p n < 16 := by
  have h := zU_lt (ro := ro) (set := s) (p := p) (k := ch p) (n := n) (fun c hc => hF.2.2.2 c (by omega) p hp)
  exact ⟨h, Nat.lt_of_lt_of_le h (zb_p2le (b := 4) (hF.2.2.1 p hp).2.1)⟩
theorem qc11 {d : Nat} {M : zMem} {pl cp ms hw s : Nat} {ch : Nat → Nat} {me : Nat → Int} {ro : Nat → Nat → Nat} (hF : zWF pl cp ch me ro) (hJ : zJn M pl cp ch me ro ms hw) (hs : s < 256) :
    zCi d 11 [.inr (.inr 42), .inl (s : Int)] M (fun r M' => r = (zuw pl cp ro s : Int) ∧ M' = M) := by
  have hJ' := hJ
  obtain ⟨j5, j6, j7, j8, j9, j10, j43⟩ := hJ'
  refine zk11 (zv11_0 _ ?_)
  have hcp : cp ≤ 8 := hF.2.1
  have key : ∀ (m c : Nat), c + m = cp → zBg d 11 4 [zR 42, zI (s : Int), zI ((zW 6 (zdgs pl (fun p => zU ro s p c)) : Nat) : Int), zI (c : Int)] [] M (fun r M' => ∃ w : Int, r = some (.inl w) ∧ w = (zuw pl cp ro s : Int) ∧ M' = M) := by
    intro m
    induction m with
    | zero =>
      intro c hc
      have : c = cp := by omega
      subst this
      exact zv11_4 _ _ _ ⟨fun _ => ⟨_, rfl, rfl, rfl⟩, fun h => absurd (by omega) h⟩
    | succ m ih =>
      intro c hc
      have ih1 := ih (c + 1) (by omega)
      have l1 : zW 6 (zdgs pl (fun p => zU ro s p c)) < 2 ^ 30 := zdgs_30 (fun i hi => by have := (zU_ok hF (s := s) hi (n := c) (by omega)).2; omega)
      refine zv11_4 _ _ _ ⟨fun h => by omega, fun _ => ⟨fun h => ?_, fun h => ?_⟩⟩
      · rw [Ne, zb_bit1 (by omega) (by omega)] at h
        refine ⟨⟨by omega, by omega⟩, ?_⟩
        have e : zW 6 (zdgs pl (fun p => zU ro s p (c + 1))) = zW 6 (zdgs pl (fun p => zU ro s p c)) := by
          refine zW_congr (fun i _ => ?_)
          unfold zdgs
          split
          · simp only [zU]
            rw [if_neg h]
            simp
          · rfl
        rw [e] at ih1
        exact ih1
      · rw [Ne, zb_bit1 (by omega) (by omega), Decidable.not_not] at h
        have hr : ∀ p, p < pl → ro c p < 4 := fun p hp => by have := hF.2.2.2 c (by omega) p hp; have := (hF.2.2.1 p hp).2.1; omega
        have e : zW 6 (zdgs pl (fun p => zU ro s p (c + 1))) = zW 6 (zdgs pl (fun p => zU ro s p c)) ||| zbits pl (ro c) := by
          rw [zbits_ro hr, zW_or (zdgs_lt (by decide) (fun i hi => by have := (zU_ok hF (s := s) hi (n := c) (by omega)).2; omega)) (zdgs_lt (by decide) (fun i hi => zb_p2 (b := 5) (by have := hr i hi; omega)))]
          refine zW_congr (fun i _ => ?_)
          unfold zdgs
          split
          · simp only [zU]
            rw [if_pos h]
          · rfl
        have l2 : zbits pl (ro c) < 2 ^ 30 := zbits_lt (fun p hp => by have := hr p hp; omega)
        rw [e] at ih1
        rw [Int.toNat_natCast, j43 c (by omega), zb_or (by omega) (by omega)]
        exact ⟨by omega, by omega, ⟨by omega, by omega⟩, ih1⟩
  have h0 : zW 6 (zdgs pl (fun p => zU ro s p 0)) = 0 := by
    rw [zW_congr (g := fun _ => 0) (fun i _ => by unfold zdgs; split <;> rfl), zW_0]
  have := key cp 0 (by omega)
  rw [h0] at this
  exact this
theorem zb_some {s n : Nat} (h0 : 0 < s) (h : s < 2 ^ n) : ∃ c, c < n ∧ s.testBit c = true := by
  obtain ⟨i, hi⟩ := Nat.exists_testBit_of_ne_zero (x := s) (by omega)
  refine ⟨i, ?_, hi⟩
  rcases Nat.lt_or_ge i n with h1 | h1
  · exact h1
  · rw [Nat.testBit_lt_two_pow (Nat.lt_of_lt_of_le h (zb_p2le h1))] at hi
    cases hi
theorem qc13s {d : Nat} {M : zMem} {pl cp ms hw s : Nat} {ch : Nat → Nat} {me : Nat → Int} {ro : Nat → Nat → Nat} (hF : zWF pl cp ch me ro) (hJ : zJn M pl cp ch me ro ms hw) (h0 : 0 < s) (hs : s < 2 ^ cp) :
    zCi d 13 [.inr (.inr 42), .inl (zuw pl cp ro s : Int)] M (fun r M' => r = (zcw pl cp ch me ro hw s : Int) ∧ M' = M) := by
  obtain ⟨c, h1, h2⟩ := zb_some h0 hs
  exact qc13 hF hJ (fun p hp => ⟨zU_pos h1 h2, (zU_ok hF hp (Nat.le_refl _)).1⟩)
theorem qc12 {d : Nat} {M : zMem} {pl cp ms hw s : Nat} {ch : Nat → Nat} {me : Nat → Int} {ro : Nat → Nat → Nat} (hF : zWF pl cp ch me ro) (hJ : zJn M pl cp ch me ro ms hw) (h0 : 0 < s) (hs : s < 2 ^ cp) :
    zCi (d + 1) 12 [.inr (.inr 42), .inl (s : Int)] M (fun r M' => r = (zcw pl cp ch me ro hw s : Int) ∧ M' = M) := by
  have h256 : s < 256 := Nat.lt_of_lt_of_le hs (zb_p2le (b := 8) hF.2.1)
  refine zk12 (zv12_0 _ ⟨_, qc11 hF hJ h256, ?_⟩)
  rintro v1 M1 ⟨rfl, rfl⟩
  refine ⟨_, qc13s hF hJ h0 hs, ?_⟩
  rintro v2 M2 ⟨rfl, rfl⟩
  exact ⟨_, rfl, rfl, rfl⟩
/-! the sets in their order -/
def zSk (cp k : Nat) : List Nat := (List.range (2 ^ cp)).filter (fun s => zpop s == k)
def zSs (cp : Nat) : Nat → List Nat
  | 0 => []
  | n + 1 => zSs cp n ++ zSk cp (n + 1)
set_option maxRecDepth 20000 in
theorem zSs_92 : ∀ cp, cp < 9 → ∀ k, k < 4 → (zSs cp k).length ≤ 92 := by decide +kernel
theorem zSs_mem {cp k s : Nat} (h : s ∈ zSs cp k) : 0 < s ∧ s < 2 ^ cp ∧ 1 ≤ zpop s ∧ zpop s ≤ k := by
  induction k with
  | zero => cases h
  | succ k ih =>
    rcases List.mem_append.mp h with h | h
    · have := ih h; omega
    · obtain ⟨h1, h2⟩ := List.mem_filter.mp h
      have h3 : zpop s = k + 1 := by simpa using h2
      refine ⟨?_, List.mem_range.mp h1, by omega, by omega⟩
      rcases Nat.eq_zero_or_pos s with h0 | h0
      · subst h0
        rw [zpop_0] at h3
        omega
      · exact h0
def zLs (M : zMem) (pl cp : Nat) (ch : Nat → Nat) (me : Nat → Int) (ro : Nat → Nat → Nat) (hw : Nat) (L : List Nat) : Prop := M 42 4 = L.length ∧ ∀ i s : Nat, L[i]? = some s → M 44 i = s ∧ M 45 i = zuw pl cp ro s ∧ M 46 i = zcw pl cp ch me ro hw s
theorem zLs_push {M M' : zMem} {pl cp hw s : Nat} {ch : Nat → Nat} {me : Nat → Int} {ro : Nat → Nat → Nat} {L : List Nat} (h : zLs M pl cp ch me ro hw L) (h1 : M' 42 4 = L.length + 1) (h2 : ∀ i, i ≠ L.length → M' 44 i = M 44 i ∧ M' 45 i = M 45 i ∧ M' 46 i = M 46 i) (h3 : M' 44 L.length = s ∧ M' 45 L.length = zuw pl cp ro s ∧ M' 46 L.length = zcw pl cp ch me ro hw s) : zLs M' pl cp ch me ro hw (L ++ [s]) := by
  refine ⟨by rw [h1]; simp, fun i x hx => ?_⟩
  rw [List.getElem?_append] at hx
  split at hx
  · rename_i hi
    obtain ⟨a, b, c⟩ := h2 i (by omega)
    rw [a, b, c]
    exact h.2 i x hx
  · rename_i hi
    have h4 : i - L.length = 0 := by
      have := (List.getElem?_eq_some_iff.mp hx).1
      simp at this
      omega
    rw [h4] at hx
    cases hx
    have h5 : i = L.length := by omega
    rw [h5]
    exact h3
theorem zSk_s {k s : Nat} : (List.range (s + 1)).filter (fun s => zpop s == k) = (List.range s).filter (fun s => zpop s == k) ++ (if zpop s = k then [s] else []) := by
  rw [List.range_succ, List.filter_append]
  congr 1
  by_cases h : zpop s = k
  · simp [h]
  · simp [h]
theorem zSk_le {cp k s : Nat} (h : s ≤ 2 ^ cp) : ((List.range s).filter (fun s => zpop s == k)).length ≤ (zSk cp k).length :=
  List.Sublist.length_le ((List.range_sublist.mpr h).filter _)
