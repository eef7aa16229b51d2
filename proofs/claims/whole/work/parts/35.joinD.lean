/-! who COULD: makes as a predicate, madeBy and suspect of the class, its calls could, maker, blamed, unjust, count, past -/
def zmk (pl cp : Nat) (ch : Nat → Nat) (me : Nat → Int) (ro : Nat → Nat → Nat) (hw : Nat) (v : Nat → Nat) (s : Nat) : Bool := (List.range pl).all (fun p => v p == 5 || (zcan hw (ch p) (me p) (zU ro s p cp)).testBit (v p))
theorem zmk_iff {pl cp hw s : Nat} {ch : Nat → Nat} {me : Nat → Int} {ro : Nat → Nat → Nat} {v : Nat → Nat} : zmk pl cp ch me ro hw v s = true ↔ ∀ p, p < pl → v p = 5 ∨ (zcan hw (ch p) (me p) (zU ro s p cp)).testBit (v p) = true := by
  unfold zmk
  simp
theorem zcan_ok {pl cp hw s : Nat} {ch : Nat → Nat} {me : Nat → Int} {ro : Nat → Nat → Nat} (hF : zWF pl cp ch me ro) : ∀ i, i < 6 → zdgs pl (fun p => zcan hw (ch p) (me p) (zU ro s p cp)) i < 32 :=
  zdgs_lt (by decide) (fun p hp => zcan_lt (hF.2.2.1 p hp).2.1 (zU_ok hF hp (Nat.le_refl _)).2 (by have := hF.2.2.1 p hp; omega))
theorem zcw_lt {pl cp hw s : Nat} {ch : Nat → Nat} {me : Nat → Int} {ro : Nat → Nat → Nat} (hF : zWF pl cp ch me ro) : zcw pl cp ch me ro hw s < 2 ^ 30 := zW_lt (n := 6) (zcan_ok hF)
/-- bits of a row of values lie within a word of groups just where each is there -/
theorem zbits_in {pl : Nat} {v g : Nat → Nat} (h6 : pl ≤ 6) (hv : ∀ p, p < pl → v p ≤ 5) (hg : ∀ i, i < pl → g i < 32) : (∀ i, (zbits pl v).testBit i = true → (zW 6 (zdgs pl g)).testBit i = true) ↔ ∀ p, p < pl → v p = 5 ∨ (g p).testBit (v p) = true := by
  have hg6 := zdgs_lt (pl := pl) (g := g) (k := 32) (by decide) hg
  constructor
  · intro h p hp
    by_cases h5 : v p = 5
    · exact Or.inl h5
    · refine Or.inr ?_
      have hv5 := hv p hp
      have h1 : (zbits pl v).testBit (5 * p + v p) = true := by
        unfold zbits
        rw [zW_at (zdg_lt hv) (by omega) (by omega)]
        unfold zdg
        rw [if_pos ⟨hp, h5⟩]
        exact Nat.testBit_two_pow_self
      have h2 := h _ h1
      rw [zW_at hg6 (by omega) (by omega)] at h2
      unfold zdgs at h2
      rw [if_pos hp] at h2
      exact h2
  · intro h i hi
    unfold zbits at hi
    rw [zW_bit (zdg_lt hv)] at hi
    simp only [Bool.and_eq_true, decide_eq_true_eq] at hi
    obtain ⟨h1, h2⟩ := hi
    unfold zdg at h2
    by_cases hc : i / 5 < pl ∧ v (i / 5) ≠ 5
    · rw [if_pos hc, Nat.testBit_two_pow] at h2
      have h3 := of_decide_eq_true h2
      rw [zW_bit hg6, decide_eq_true h1]
      unfold zdgs
      rw [if_pos hc.1, ← h3]
      rcases h (i / 5) hc.1 with h4 | h4
      · exact absurd h4 hc.2
      · rw [h4]; rfl
    · rw [if_neg hc, Nat.zero_testBit] at h2; cases h2
theorem zmk_word {pl cp hw s : Nat} {ch : Nat → Nat} {me : Nat → Int} {ro : Nat → Nat → Nat} {v : Nat → Nat} (hF : zWF pl cp ch me ro) (hv : ∀ p, p < pl → v p ≤ 5) : ziand (zbits pl v : Int) (zixor (zcw pl cp ch me ro hw s : Int) (-1)) = 0 ↔ zmk pl cp ch me ro hw v s = true := by
  have h1 := zbits_lt hv
  rw [zb_andn0 (by omega), zmk_iff]
  exact zbits_in hF.1 hv (fun p hp => zcan_lt (hF.2.2.1 p hp).2.1 (zU_ok hF hp (Nat.le_refl _)).2 (by have := hF.2.2.1 p hp; omega))
def zith (F : List Nat) (i : Nat) : Int := match F[i]? with
  | some s => (s : Int)
  | none => -4
def zall (F : List Nat) : Nat := F.foldl (fun a s => a &&& s) 255
def zsome (F : List Nat) : Nat := F.foldl (fun a s => a ||| s) 0
def zsur (F : List Nat) : Nat := if F = [] then 0 else zall F
theorem zall_lt {F : List Nat} : zall F < 256 := by
  unfold zall
  have : ∀ (F : List Nat) (a : Nat), a < 256 → F.foldl (fun a s => a &&& s) a < 256 := by
    intro F
    induction F with
    | nil => intro a h; exact h
    | cons s F ih => intro a h; exact ih _ (Nat.lt_of_le_of_lt Nat.and_le_left h)
  exact this F 255 (by decide)
theorem zsome_lt {F : List Nat} (h : ∀ s, s ∈ F → s < 256) : zsome F < 256 := by
  unfold zsome
  have : ∀ (F : List Nat) (a : Nat), (∀ s, s ∈ F → s < 256) → a < 256 → F.foldl (fun a s => a ||| s) a < 256 := by
    intro F
    induction F with
    | nil => intro a _ h; exact h
    | cons s F ih => intro a h1 h; exact ih _ (fun x hx => h1 x (List.mem_cons_of_mem _ hx)) (Nat.or_lt_two_pow (n := 8) h (h1 s List.mem_cons_self))
  exact this F 0 h (by decide)
theorem zsur_lt {F : List Nat} : zsur F < 256 := by
  unfold zsur
  split
  · decide
  · exact zall_lt
/-- the sets that could have made the values v -/
def zF (pl cp : Nat) (ch : Nat → Nat) (me : Nat → Int) (ro : Nat → Nat → Nat) (ms hw : Nat) (v : Nat → Nat) : List Nat := (zSs cp ms).filter (zmk pl cp ch me ro hw v)
theorem zF_256 {pl cp ms hw : Nat} {ch : Nat → Nat} {me : Nat → Int} {ro : Nat → Nat → Nat} {v : Nat → Nat} (hcp : cp ≤ 8) : ∀ s, s ∈ zF pl cp ch me ro ms hw v → s < 256 := by
  intro s hs
  have h1 := (zSs_mem (List.mem_filter.mp hs).1).2.1
  exact Nat.lt_of_lt_of_le h1 (zb_p2le (b := 8) hcp)
theorem qc14 {d : Nat} {M : zMem} {pl cp hw i : Nat} {ch : Nat → Nat} {me : Nat → Int} {ro : Nat → Nat → Nat} {v : Nat → Nat} {L : List Nat} (hF : zWF pl cp ch me ro) (hv : ∀ p, p < pl → v p ≤ 5) (hL : zLs M pl cp ch me ro hw L) (h92 : L.length ≤ 92) (hi : i < 2 ^ 31) :
    zCi d 14 [.inr (.inr 42), .inl (zbits pl v : Int), .inl (i : Int)] M (fun r M' => r = zith (L.filter (zmk pl cp ch me ro hw v)) i ∧ M' = M) := by
  refine zk14 (zv14_0 _ _ ?_)
  have key : ∀ (R D : List Nat) (j : Nat), D ++ R = L → j + (D.filter (zmk pl cp ch me ro hw v)).length = i → zBg d 14 5 [zR 42, zI (zbits pl v : Int), none, zI (j : Int), zI (D.length : Int)] [] M (fun r M' => ∃ w : Int, r = some (.inl w) ∧ w = zith (L.filter (zmk pl cp ch me ro hw v)) i ∧ M' = M) := by
    intro R
    induction R with
    | nil =>
      intro D j h1 h2
      rw [List.append_nil] at h1
      subst h1
      refine zv14_5 _ _ _ ⟨fun _ => ⟨_, rfl, ?_, rfl⟩, fun h => absurd (by rw [hL.1]; omega) h⟩
      unfold zith
      rw [List.getElem?_eq_none (by omega)]
    | cons s R ih =>
      intro D j h1 h2
      have hlen : D.length < L.length := by rw [← h1]; simp
      have hs : L[D.length]? = some s := by rw [← h1]; simp
      obtain ⟨a1, a2, a3⟩ := hL.2 _ _ hs
      refine zv14_5 _ _ _ ⟨fun h => by rw [hL.1] at h; omega, fun _ => ⟨by omega, by omega, ?_⟩⟩
      rw [Int.toNat_natCast, a1, a3, Ne, zmk_word hF hv]
      have ih1 := ih (D ++ [s])
      simp only [List.append_assoc, List.singleton_append, List.length_append, List.length_cons, List.length_nil] at ih1
      refine ⟨fun h => ⟨⟨by omega, by omega⟩, ?_⟩, fun h => ?_⟩
      · refine ih1 j h1 ?_
        rw [List.filter_append, List.filter_cons_of_neg h]
        simp
        exact h2
      · rw [Decidable.not_not] at h
        refine ⟨fun hj => ⟨⟨by omega, by omega⟩, ⟨by omega, by omega⟩, ?_⟩, fun hj => ⟨by omega, by omega, _, rfl, ?_, rfl⟩⟩
        · rw [show (j : Int) + -1 = ((j - 1 : Nat) : Int) by omega]
          refine ih1 (j - 1) h1 ?_
          rw [List.filter_append, List.filter_cons_of_pos h]
          simp
          omega
        · unfold zith
          rw [← h1, List.filter_append, List.filter_cons_of_pos h, List.getElem?_append_right (by omega)]
          rw [show i - (D.filter (zmk pl cp ch me ro hw v)).length = 0 by omega]
          rfl
  exact key L [] i rfl (by simp)
theorem zall_push {F : List Nat} {s : Nat} (hs : s < 256) : ziand (if F = [] then (-1 : Int) else (zall F : Int)) s = if F ++ [s] = [] then (-1 : Int) else (zall (F ++ [s]) : Int) := by
  have e : zall (F ++ [s]) = zall F &&& s := by
    unfold zall
    rw [List.foldl_append]
    rfl
  have hne : ¬ (F ++ [s] = []) := by simp
  rw [if_neg hne, e]
  by_cases he : F = []
  · rw [if_pos he, he, zb_m1and (by omega)]
    have h9 : ∀ s, s < 256 → 255 &&& s = s := by decide +kernel
    have h10 : zall [] &&& s = s := h9 s hs
    rw [h10]
  · rw [if_neg he, zb_and (Nat.lt_trans zall_lt (by decide))]
theorem qc15 {d : Nat} {M : zMem} {pl cp ms hw : Nat} {ch : Nat → Nat} {me : Nat → Int} {ro : Nat → Nat → Nat} {v : Nat → Nat} (hF : zWF pl cp ch me ro) (hv : ∀ p, p < pl → v p ≤ 5) (hL : zLs M pl cp ch me ro hw (zSs cp ms)) (hms : ms ≤ 3) :
    zCv d 15 [.inr (.inr 42), .inl (zbits pl v : Int)] M (fun M' => (M' 42 13 = ((zF pl cp ch me ro ms hw v).length : Int) ∧ M' 42 11 = (zsur (zF pl cp ch me ro ms hw v) : Int) ∧ M' 42 12 = (zsome (zF pl cp ch me ro ms hw v) : Int)) ∧ ∀ k, k ≠ 42 → M' k = M k) := by
  have h92 := zSs_92 cp (by have := hF.2.1; omega) ms (by omega)
  have h256 : ∀ s, s ∈ zSs cp ms → s < 256 := fun s hs => Nat.lt_of_lt_of_le (zSs_mem hs).2.1 (zb_p2le (b := 8) hF.2.1)
  refine zk15 (zv15_0 _ ?_)
  unfold zF
  generalize zSs cp ms = L at *
  generalize hmk : zmk pl cp ch me ro hw v = mk
  have key : ∀ (R D : List Nat) (M1 : zMem), D ++ R = L → (∀ k, k ≠ 42 → M1 k = M k) → M1 42 4 = L.length → (M1 42 13 = ((D.filter mk).length : Int) ∧ M1 42 11 = (if D.filter mk = [] then (-1 : Int) else (zall (D.filter mk) : Int)) ∧ M1 42 12 = (zsome (D.filter mk) : Int)) →
      zBg d 15 17 [zR 42, zI (zbits pl v : Int), zI (D.length : Int)] [] M1 (fun r M' => r = none ∧ (M' 42 13 = ((L.filter mk).length : Int) ∧ M' 42 11 = (zsur (L.filter mk) : Int) ∧ M' 42 12 = (zsome (L.filter mk) : Int)) ∧ ∀ k, k ≠ 42 → M' k = M k) := by
    intro R
    induction R with
    | nil =>
      intro D M1 h1 h2 h3 h4
      rw [List.append_nil] at h1
      subst h1
      obtain ⟨b1, b2, b3⟩ := h4
      refine zv15_17 _ _ ⟨fun _ => ⟨fun hz => ⟨rfl, ⟨?_, ?_, ?_⟩, fun k hk => by rw [zb_uk hk]; exact h2 k hk⟩, fun hz => ⟨rfl, ⟨?_, ?_, ?_⟩, fun k hk => by rw [zb_uk hk]; exact h2 k hk⟩⟩, fun h => absurd (by rw [h3]; omega) h⟩
      · rw [zb_ui (by decide)]; exact b1
      · have hne : D.filter mk ≠ [] := fun e => hz (by rw [b1, e]; rfl)
        rw [zb_us, b2]
        unfold zsur
        rw [if_neg hne, if_neg hne]
      · rw [zb_ui (by decide)]; exact b3
      · rw [zb_ui (by decide)]; exact b1
      · have he : D.filter mk = [] := List.length_eq_zero_iff.mp (by rw [Ne, Decidable.not_not, b1] at hz; omega)
        rw [zb_us]
        unfold zsur
        rw [if_pos he]
        rfl
      · rw [zb_ui (by decide)]; exact b3
    | cons s R ih =>
      intro D M1 h1 h2 h3 h4
      obtain ⟨b1, b2, b3⟩ := h4
      have hlen : D.length < L.length := by rw [← h1]; simp
      have hs : L[D.length]? = some s := by rw [← h1]; simp
      obtain ⟨a1, a2, a3⟩ := hL.2 _ _ hs
      have hs2 : s < 256 := h256 s (by rw [← h1]; simp)
      refine zv15_17 _ _ ⟨fun h => by rw [h3] at h; omega, fun _ => ⟨by omega, by omega, ?_⟩⟩
      rw [Int.toNat_natCast, h2 44 (by decide), h2 46 (by decide), a1, a3, Ne, zmk_word hF hv, hmk]
      have ih1 := ih (D ++ [s])
      simp only [List.append_assoc, List.singleton_append, List.length_append, List.length_cons, List.length_nil] at ih1
      refine ⟨fun h => ⟨⟨by omega, by omega⟩, ?_⟩, fun h => ?_⟩
      · refine ih1 M1 h1 h2 h3 ?_
        rw [List.filter_append, List.filter_cons_of_neg h, List.filter_nil, List.append_nil]
        exact ⟨b1, b2, b3⟩
      · rw [Decidable.not_not] at h
        have hfl : (D.filter mk).length ≤ 92 := Nat.le_trans (List.length_filter_le _ _) (by omega)
        refine ⟨⟨by omega, by omega⟩, by omega, by omega, by omega, by omega, ⟨by omega, by omega⟩, ?_⟩
        refine ih1 _ h1 (fun k hk => by rw [zb_uk hk, zb_uk hk, zb_uk hk]; exact h2 k hk) ?_ ?_
        · rw [zb_ui (by decide), zb_ui (by decide), zb_ui (by decide)]; exact h3
        · rw [List.filter_append, List.filter_cons_of_pos h]
          refine ⟨?_, ?_, ?_⟩
          · rw [zb_ui (by decide), zb_ui (by decide), zb_us, b1]
            simp
          · rw [zb_ui (by decide), zb_us, b2]
            exact zall_push hs2
          · have hz := zsome_lt (F := D.filter mk) (fun x hx => h256 x (by rw [← h1]; exact List.mem_append_left _ (List.mem_filter.mp hx).1))
            rw [zb_us, b3, zb_or (by omega) (by omega)]
            unfold zsome
            rw [List.foldl_append]
            rfl
  refine key L [] _ rfl (fun k hk => by simp only [zb_uk hk]) ?_ ⟨?_, ?_, ?_⟩
  · rw [zb_ui (by decide), zb_ui (by decide), zb_ui (by decide)]; exact hL.1
  · rw [zb_ui (by decide), zb_ui (by decide), zb_us]; rfl
  · rw [zb_ui (by decide), zb_us]; rfl
  · rw [zb_us]; rfl
