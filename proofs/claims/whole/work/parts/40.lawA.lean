/-! laws FRAMED and APART: the class -/
theorem zW_inj {f g : Nat → Nat} (hf : ∀ i, i < 6 → f i < 32) (hg : ∀ i, i < 6 → g i < 32) (h : zW 6 f = zW 6 g) : ∀ p, p < 6 → f p = g p := by
  intro p hp
  apply Nat.eq_of_testBit_eq
  intro v
  rcases Nat.lt_or_ge v 5 with hv | hv
  · rw [← zW_at hf hp hv, ← zW_at hg hp hv, h]
  · rw [Nat.testBit_lt_two_pow (Nat.lt_of_lt_of_le (hf p hp) (zb_p2le (a := 5) hv)), Nat.testBit_lt_two_pow (Nat.lt_of_lt_of_le (hg p hp) (zb_p2le (a := 5) hv))]
def zgr (S p : Nat) : Nat := if S.testBit p then 31 else 0
theorem zgr_lt {S : Nat} : ∀ i, i < 6 → zgr S i < 32 := by
  intro i _
  unfold zgr
  split <;> decide
theorem qc17 {d : Nat} {M : zMem} {S : Nat} (hS : S < 64) : zCi d 17 [.inl (S : Int)] M (fun r M' => r = (zW 6 (zgr S) : Int) ∧ M' = M) := by
  refine zk17 (zv17_0 _ ?_)
  have key : ∀ (m p : Nat), p + m = 6 → zBg d 17 4 [zI (S : Int), zI ((zW 6 (zdgs p (zgr S)) : Nat) : Int), zI (p : Int)] [] M (fun r M' => ∃ w : Int, r = some (.inl w) ∧ w = (zW 6 (zgr S) : Int) ∧ M' = M) := by
    intro m
    induction m with
    | zero =>
      intro p hp
      have : p = 6 := by omega
      subst this
      refine zv17_4 _ _ _ ⟨fun _ => ⟨_, rfl, ?_, rfl⟩, fun h => absurd (by omega) h⟩
      rw [zW_congr (f := zdgs 6 (zgr S)) (g := zgr S) (fun i hi => by unfold zdgs; rw [if_pos hi])]
    | succ m ih =>
      intro p hp
      have ih1 := ih (p + 1) (by omega)
      have s1 := zdgs_s (p := p) (g := zgr S) (by omega) (fun i hi => zgr_lt i (by omega))
      have l1 : zW 6 (zdgs p (zgr S)) < 2 ^ 30 := zdgs_30 (fun i hi => zgr_lt i (by omega))
      refine zv17_4 _ _ _ ⟨fun h => by omega, fun _ => ?_⟩
      rw [Ne, zb_bit1 (by omega) (by omega)]
      refine ⟨fun h => ⟨⟨by omega, by omega⟩, ?_⟩, fun h => ⟨⟨by omega, by omega⟩, ⟨by omega, by omega⟩, ?_⟩⟩
      · rw [← s1, show zgr S p = 0 by unfold zgr; rw [if_neg h]] at ih1
        simpa using ih1
      · rw [Decidable.not_not] at h
        rw [← s1, show zgr S p = 31 by unfold zgr; rw [if_pos h]] at ih1
        have l4 := zb_sh (a := 31) (p := p) (by decide) (by omega)
        have e : zishl 31 (5 * (p : Int)) = ((31 * 2 ^ (5 * p) : Nat) : Int) := by
          have := zb_shl (a := 31) (k := 5 * p) (by omega) (by omega)
          rw [show ((5 * p : Nat) : Int) = 5 * (p : Int) by omega] at this
          exact this
        rw [e, zb_or (by omega) (by omega)]
        exact ih1
  have := key 6 0 (by omega)
  rw [zdgs_z] at this
  exact this
/-- the first number from c on, of m, that does -/
def zfd (P : Nat → Bool) : Nat → Nat → Option Nat
  | 0, _ => none
  | m + 1, c => if P c then some c else zfd P m (c + 1)
theorem zfd_some {P : Nat → Bool} : ∀ {m c x : Nat}, zfd P m c = some x → P x = true ∧ c ≤ x ∧ x < c + m := by
  intro m
  induction m with
  | zero => intro c x h; cases h
  | succ m ih =>
    intro c x h
    simp only [zfd] at h
    split at h
    · cases h; exact ⟨by assumption, by omega, by omega⟩
    · have := ih h; exact ⟨this.1, by omega, by omega⟩
theorem zfd_none {P : Nat → Bool} : ∀ {m c : Nat}, zfd P m c = none ↔ ∀ x, c ≤ x → x < c + m → P x = false := by
  intro m
  induction m with
  | zero => intro c; simp only [zfd]; exact ⟨fun _ x h1 h2 => by omega, fun _ => trivial⟩
  | succ m ih =>
    intro c
    simp only [zfd]
    constructor
    · intro h x h1 h2
      split at h
      · cases h
      · rename_i hp
        by_cases hx : x = c
        · subst hx; simpa using hp
        · exact ih.mp h x (by omega) (by omega)
    · intro h
      rw [if_neg (by rw [h c (by omega) (by omega)]; decide)]
      exact ih.mpr (fun x h1 h2 => h x (by omega) (by omega))
def zfi (o : Option Nat) : Int := match o with
  | some c => (c : Int)
  | none => -1
/-- at the places S the values r are all in the groups g -/
def zfts (pl S : Nat) (g r : Nat → Nat) : Bool := (List.range pl).all (fun p => !S.testBit p || (g p).testBit (r p))
theorem zfts_iff {pl S : Nat} {g r : Nat → Nat} : zfts pl S g r = true ↔ ∀ p, p < pl → S.testBit p = true → (g p).testBit (r p) = true := by
  unfold zfts
  simp only [List.all_eq_true, List.mem_range, Bool.or_eq_true, Bool.not_eq_true']
  constructor
  · intro h p hp hs
    rcases h p hp with h1 | h1
    · rw [hs] at h1; cases h1
    · exact h1
  · intro h p hp
    cases hs : S.testBit p
    · exact Or.inl rfl
    · exact Or.inr (h p hp hs)
def zfrm (pl S : Nat) (ro : Nat → Nat → Nat) (g : Nat → Nat) (s c : Nat) : Bool := !s.testBit c && zfts pl S g (ro c)
theorem qc20 {d : Nat} {M : zMem} {pl cp ms hw s S : Nat} {ch : Nat → Nat} {me : Nat → Int} {ro : Nat → Nat → Nat} {g : Nat → Nat} (hF : zWF pl cp ch me ro) (hJ : zJn M pl cp ch me ro ms hw) (hs : s < 256) (hg : ∀ p, p < pl → g p < 32) :
    zCi d 20 [.inr (.inr 36), .inl (s : Int), .inl ((zW 6 (zdgs pl g) : Nat) : Int), .inl (zW 6 (zgr S) : Int)] M (fun r M' => r = zfi (zfd (zfrm pl S ro g s) cp 0) ∧ M' = M) := by
  obtain ⟨f1, f2, f3, f4⟩ := hF
  obtain ⟨j5, j6, j7, j8, j9, j10, j43⟩ := hJ
  refine zk20 (zv20_0 _ _ _ ?_)
  have key : ∀ (m c : Nat), c + m = cp → zfd (zfrm pl S ro g s) m c = zfd (zfrm pl S ro g s) cp 0 → zBg d 20 3 [zR 36, zI (s : Int), zI ((zW 6 (zdgs pl g) : Nat) : Int), zI (zW 6 (zgr S) : Int), zI (c : Int)] [] M (fun r M' => ∃ w : Int, r = some (.inl w) ∧ w = zfi (zfd (zfrm pl S ro g s) cp 0) ∧ M' = M) := by
    intro m
    induction m with
    | zero =>
      intro c hc h
      have : c = cp := by omega
      subst this
      refine zv20_3 _ _ _ _ ⟨fun _ => ⟨_, rfl, by rw [← h]; rfl, rfl⟩, fun h => absurd (by omega) h⟩
    | succ m ih =>
      intro c hc h
      have hr : ∀ p, p < pl → ro c p < 4 := fun p hp => by have := f4 c (by omega) p hp; have := (f3 p hp).2.1; omega
      have hbv : ∀ p, p < pl → (if S.testBit p then ro c p else 5) ≤ 5 := fun p hp => by have := hr p hp; split <;> omega
      have lt1 : zbits pl (ro c) < 2 ^ 30 := zbits_lt (fun p hp => by have := hr p hp; omega)
      have e1 : ziand (zbits pl (ro c) : Int) (zW 6 (zgr S) : Int) = ((zbits pl (fun p => if S.testBit p then ro c p else 5) : Nat) : Int) := by
        rw [zb_and (by omega), zbits_ro hr, zW_and (zdgs_lt (by decide) (fun i hi => zb_p2 (b := 5) (by have := hr i hi; omega))) zgr_lt]
        congr 1
        refine zW_congr (fun i _ => ?_)
        unfold zdgs zgr zdg
        simp only []
        by_cases hi : i < pl
        · have hr1 := hr i hi
          rw [if_pos hi]
          by_cases hsi : S.testBit i = true
          · have hz : ∀ x, x < 4 → 2 ^ x &&& 31 = 2 ^ x := by decide
            simp only [if_pos hsi]
            rw [if_pos (show i < pl ∧ ro c i ≠ 5 from ⟨hi, by omega⟩), hz _ hr1]
          · simp only [if_neg hsi]
            rw [if_neg (show ¬ (i < pl ∧ 5 ≠ 5) from fun hh => hh.2 rfl)]
            simp
        · rw [if_neg hi, if_neg (show ¬ (i < pl ∧ (if S.testBit i = true then ro c i else 5) ≠ 5) from fun hh => hi hh.1)]
          simp
      simp only [zfd] at h
      have hfr : zfrm pl S ro g s c = true ↔ (s.testBit c = false ∧ zfts pl S g (ro c) = true) := by
        unfold zfrm
        simp
      have hnext : ¬ zfrm pl S ro g s c = true → zBg d 20 3 [zR 36, zI (s : Int), zI ((zW 6 (zdgs pl g) : Nat) : Int), zI (zW 6 (zgr S) : Int), zI ((c : Int) + 1)] [] M (fun r M' => ∃ w : Int, r = some (.inl w) ∧ w = zfi (zfd (zfrm pl S ro g s) cp 0) ∧ M' = M) := by
        intro hn
        rw [if_neg hn] at h
        exact ih (c + 1) (by omega) h
      refine zv20_3 _ _ _ _ ⟨fun h => by omega, fun _ => ?_⟩
      rw [Ne, zb_bit0 (by omega) (by omega)]
      refine ⟨fun h2 => ⟨⟨by omega, by omega⟩, hnext (fun h3 => h2 (hfr.mp h3).1)⟩, fun h2 => ⟨by omega, by omega, ?_⟩⟩
      rw [Decidable.not_not] at h2
      have lt2 := zbits_lt hbv
      rw [Int.toNat_natCast, j43 c (by omega), e1, Ne, zb_andn0 (by omega), zbits_in f1 hbv hg]
      have hft : (∀ p, p < pl → (if S.testBit p then ro c p else 5) = 5 ∨ (g p).testBit (if S.testBit p then ro c p else 5) = true) ↔ zfts pl S g (ro c) = true := by
        rw [zfts_iff]
        constructor
        · intro h3 p hp hs2
          have hr1 := hr p hp
          have := h3 p hp
          rw [if_pos hs2] at this
          rcases this with h4 | h4
          · omega
          · exact h4
        · intro h3 p hp
          by_cases hs2 : S.testBit p = true
          · rw [if_pos hs2]; exact Or.inr (h3 p hp hs2)
          · rw [if_neg hs2]; exact Or.inl rfl
      rw [hft]
      refine ⟨fun h3 => ⟨⟨by omega, by omega⟩, hnext (fun h4 => h3 (hfr.mp h4).2)⟩, fun h3 => ⟨_, rfl, ?_, rfl⟩⟩
      rw [Decidable.not_not] at h3
      rw [if_pos (hfr.mpr ⟨h2, h3⟩)] at h
      rw [← h]
      rfl
  exact key cp 0 (by omega) rfl
/-- at the places S the groups h are nowhere empty -/
def zme2 (pl S : Nat) (h : Nat → Nat) : Bool := (List.range pl).all (fun p => !S.testBit p || !(h p == 0))
theorem zme2_iff {pl S : Nat} {h : Nat → Nat} : zme2 pl S h = true ↔ ∀ p, p < pl → S.testBit p = true → h p ≠ 0 := by
  unfold zme2
  simp only [List.all_eq_true, List.mem_range, Bool.or_eq_true, Bool.not_eq_true', beq_eq_false_iff_ne]
  constructor
  · intro h2 p hp hs
    rcases h2 p hp with h1 | h1
    · rw [hs] at h1; cases h1
    · exact h1
  · intro h2 p hp
    cases hs : S.testBit p
    · exact Or.inl rfl
    · exact Or.inr (h2 p hp hs)
theorem zme_d : ∀ h, h < 32 → ((((h &&& 15) + 15) ||| h) &&& (16 &&& 31) = (16 &&& 31) ↔ h ≠ 0) := by decide
theorem qc23 {d : Nat} {M : zMem} {pl S : Nat} {h : Nat → Nat} (h6 : pl ≤ 6) (hS : S < 2 ^ pl) (hh : ∀ p, p < pl → h p < 32) :
    zCi d 23 [.inl ((zW 6 (zdgs pl h) : Nat) : Int), .inl (zW 6 (zgr S) : Int)] M (fun r M' => r = (if zme2 pl S h then 1 else 0) ∧ M' = M) := by
  refine zk23 (zv23_0 _ _ ?_)
  have gH : ∀ i, i < 6 → zdgs pl h i < 32 := zdgs_lt (by decide) hh
  have lt : ∀ {f : Nat → Nat}, (∀ i, i < 6 → f i < 32) → zW 6 f < 2 ^ 30 := fun h => zW_lt (n := 6) h
  have c15 : zW 6 (fun _ => 15) = 519552495 := by decide
  have c16 : zW 6 (fun _ => 16) = 554189328 := by decide
  have g15 : ∀ i, i < 6 → (fun _ : Nat => 15) i < 32 := fun _ _ => (by decide : 15 < 32)
  have g16 : ∀ i, i < 6 → (fun _ : Nat => 16) i < 32 := fun _ _ => (by decide : 16 < 32)
  have e1 : ziand ((zW 6 (zdgs pl h) : Nat) : Int) 519552495 = ((zW 6 (fun i => zdgs pl h i &&& 15) : Nat) : Int) := by
    have := zb_and (a := zW 6 (zdgs pl h)) (b := 519552495) (by have := lt gH; omega)
    refine this.trans ?_
    rw [← c15, zW_and gH g15]
  have g1 : ∀ i, i < 6 → zdgs pl h i &&& 15 < 16 := fun i hi => Nat.lt_of_le_of_lt Nat.and_le_right (by decide)
  have e2 : ((zW 6 (fun i => zdgs pl h i &&& 15) : Nat) : Int) + 519552495 = ((zW 6 (fun i => (zdgs pl h i &&& 15) + 15) : Nat) : Int) := by
    have h2 := zW_add (n := 6) (f := fun i => zdgs pl h i &&& 15) (g := fun _ => 15)
    rw [← h2, c15]
    omega
  have g2 : ∀ i, i < 6 → (zdgs pl h i &&& 15) + 15 < 32 := fun i hi => by have := g1 i hi; omega
  have e3 : zior ((zW 6 (fun i => (zdgs pl h i &&& 15) + 15) : Nat) : Int) ((zW 6 (zdgs pl h) : Nat) : Int) = ((zW 6 (fun i => ((zdgs pl h i &&& 15) + 15) ||| zdgs pl h i) : Nat) : Int) := by
    rw [zb_or (by have := lt g2; omega) (by have := lt gH; omega), zW_or g2 gH]
  have g3 : ∀ i, i < 6 → ((zdgs pl h i &&& 15) + 15) ||| zdgs pl h i < 32 := fun i hi => Nat.or_lt_two_pow (n := 5) (g2 i hi) (gH i hi)
  have e4 : ziand 554189328 (zW 6 (zgr S) : Int) = ((zW 6 (fun i => 16 &&& zgr S i) : Nat) : Int) := by
    have := zb_and (a := 554189328) (b := zW 6 (zgr S)) (by decide)
    refine this.trans ?_
    rw [← c16, zW_and g16 zgr_lt]
  have g4 : ∀ i, i < 6 → 16 &&& zgr S i < 32 := fun i hi => Nat.lt_of_le_of_lt Nat.and_le_left (by decide)
  rw [e1, e2, e3, e4, zb_and (by have := lt g3; omega), zW_and g3 g4]
  have hiff : (((zW 6 (fun i => (((zdgs pl h i &&& 15) + 15) ||| zdgs pl h i) &&& (16 &&& zgr S i)) : Nat) : Int) = ((zW 6 (fun i => 16 &&& zgr S i) : Nat) : Int)) ↔ zme2 pl S h = true := by
    rw [zme2_iff, Int.ofNat_inj]
    constructor
    · intro hw p hp hs
      have := zW_inj (fun i hi => Nat.lt_of_le_of_lt Nat.and_le_left (g3 i hi)) g4 hw p (by omega)
      simp only [zgr, hs, if_true, zdgs, if_pos hp] at this
      exact (zme_d (h p) (hh p hp)).mp this
    · intro hz
      refine zW_congr (fun i hi => ?_)
      cases hs : S.testBit i
      · simp [zgr, hs]
      · have hpl : i < pl := by
          rcases Nat.lt_or_ge i pl with h1 | h1
          · exact h1
          · rw [Nat.testBit_lt_two_pow (Nat.lt_of_lt_of_le hS (zb_p2le h1))] at hs; cases hs
        simp only [zgr, hs, if_true, zdgs, if_pos hpl]
        exact (zme_d (h i) (hh i hpl)).mpr (hz i hpl hs)
  rw [Ne, hiff]
  have l2 := lt g2
  refine ⟨⟨by omega, by omega⟩, fun h1 => ⟨Or.inl rfl, _, rfl, by rw [if_neg h1], rfl⟩, fun h1 => ⟨Or.inr rfl, _, rfl, ?_, rfl⟩⟩
  rw [Decidable.not_not] at h1
  rw [if_pos h1]
/-- what a set of the list CAN, by places -/
def zcn (cp : Nat) (ch : Nat → Nat) (me : Nat → Int) (ro : Nat → Nat → Nat) (hw s p : Nat) : Nat := zcan hw (ch p) (me p) (zU ro s p cp)
theorem zcn_lt {pl cp hw s p : Nat} {ch : Nat → Nat} {me : Nat → Int} {ro : Nat → Nat → Nat} (hF : zWF pl cp ch me ro) (hp : p < pl) : zcn cp ch me ro hw s p < 32 :=
  zcan_lt (hF.2.2.1 p hp).2.1 (zU_ok hF hp (Nat.le_refl _)).2 (by have := hF.2.2.1 p hp; omega)
theorem zcw_cn {pl cp hw s : Nat} {ch : Nat → Nat} {me : Nat → Int} {ro : Nat → Nat → Nat} : zcw pl cp ch me ro hw s = zW 6 (zdgs pl (zcn cp ch me ro hw s)) := rfl
def ztch (pl S : Nat) (c : Nat → Nat → Nat) (g : Nat → Nat) (s t : Nat) : Bool := (s &&& t == 0) && zme2 pl S (fun p => g p &&& c t p)
/-- the place in the list of the first, from there on, that does -/
def zix (P : Nat → Bool) : Nat → List Nat → Option Nat
  | _, [] => none
  | i, s :: r => if P s then some i else zix P (i + 1) r
theorem zix_find {P : Nat → Bool} : ∀ {L : List Nat} {i : Nat}, (zix P i L = none ↔ L.find? P = none) ∧ ∀ j, zix P i L = some j → i ≤ j ∧ j < i + L.length ∧ L.find? P = L[j - i]? := by
  intro L
  induction L with
  | nil => intro i; exact ⟨by simp [zix], fun j h => by cases h⟩
  | cons s r ih =>
    intro i
    simp only [zix]
    by_cases h : P s = true
    · rw [if_pos h, List.find?_cons_of_pos h]
      refine ⟨by simp, fun j hj => ?_⟩
      cases hj
      exact ⟨Nat.le_refl _, by simp, by simp⟩
    · rw [if_neg h, List.find?_cons_of_neg h]
      refine ⟨ih.1, fun j hj => ?_⟩
      obtain ⟨a, b, c⟩ := ih.2 j hj
      refine ⟨by omega, by simp; omega, ?_⟩
      rw [c, show j - i = (j - (i + 1)) + 1 by omega]
      rfl
theorem qc22 {d : Nat} {M : zMem} {pl cp ms hw s S : Nat} {ch : Nat → Nat} {me : Nat → Int} {ro : Nat → Nat → Nat} {g : Nat → Nat} {L D R : List Nat} (hF : zWF pl cp ch me ro) (hJ : zJn M pl cp ch me ro ms hw) (hL : zLs M pl cp ch me ro hw L) (h92 : L.length ≤ 92) (hs : s < 256) (hS : S < 2 ^ pl) (hg : ∀ p, p < pl → g p < 32) (hDR : D ++ R = L) :
    zCi (d + 1) 22 [.inr (.inr 36), .inl (s : Int), .inl ((zW 6 (zdgs pl g) : Nat) : Int), .inl (zW 6 (zgr S) : Int), .inl (D.length : Int)] M (fun r M' => r = zfi (zix (ztch pl S (zcn cp ch me ro hw) g s) D.length R) ∧ M' = M) := by
  have hF0 := hF
  refine zk22 (zv22_0 _ _ _ _ ?_)
  have key : ∀ (R2 D2 : List Nat), D2 ++ R2 = L → zix (ztch pl S (zcn cp ch me ro hw) g s) D2.length R2 = zix (ztch pl S (zcn cp ch me ro hw) g s) D.length R → zBg (d + 1) 22 4 [zR 36, zI (s : Int), zI ((zW 6 (zdgs pl g) : Nat) : Int), zI (zW 6 (zgr S) : Int), none, zI (D2.length : Int)] [] M (fun r M' => ∃ w : Int, r = some (.inl w) ∧ w = zfi (zix (ztch pl S (zcn cp ch me ro hw) g s) D.length R) ∧ M' = M) := by
    intro R2
    induction R2 with
    | nil =>
      intro D2 h1 h2
      rw [List.append_nil] at h1
      subst h1
      exact zv22_4 _ _ _ _ ⟨fun _ => ⟨_, rfl, by rw [← h2]; rfl, rfl⟩, fun h => absurd (by rw [hL.1]; omega) h⟩
    | cons t R2 ih =>
      intro D2 h1 h2
      have hlen : D2.length < L.length := by rw [← h1]; simp
      have ht : L[D2.length]? = some t := by rw [← h1]; simp
      obtain ⟨a1, a2, a3⟩ := hL.2 _ _ ht
      simp only [zix] at h2
      have ih1 := ih (D2 ++ [t])
      simp only [List.append_assoc, List.singleton_append, List.length_append, List.length_cons, List.length_nil] at ih1
      have hnext : ¬ ztch pl S (zcn cp ch me ro hw) g s t = true → zBg (d + 1) 22 4 [zR 36, zI (s : Int), zI ((zW 6 (zdgs pl g) : Nat) : Int), zI (zW 6 (zgr S) : Int), none, zI ((D2.length : Int) + 1)] [] M (fun r M' => ∃ w : Int, r = some (.inl w) ∧ w = zfi (zix (ztch pl S (zcn cp ch me ro hw) g s) D.length R) ∧ M' = M) := by
        intro hn
        rw [if_neg hn] at h2
        exact ih1 h1 h2
      refine zv22_4 _ _ _ _ ⟨fun h => by rw [hL.1] at h; omega, fun _ => ⟨by omega, by omega, ?_⟩⟩
      rw [Int.toNat_natCast, a1, a3, zb_and (by omega)]
      refine ⟨fun h => ⟨⟨by omega, by omega⟩, hnext (fun h3 => ?_)⟩, fun h => ⟨by omega, by omega, ?_⟩⟩
      · unfold ztch at h3
        simp only [Bool.and_eq_true, beq_iff_eq] at h3
        exact h (by rw [h3.1]; rfl)
      · have hg6 : ∀ i, i < 6 → zdgs pl g i < 32 := zdgs_lt (by decide) hg
        have e : ziand ((zW 6 (zdgs pl g) : Nat) : Int) (zcw pl cp ch me ro hw t : Int) = ((zW 6 (zdgs pl (fun p => g p &&& zcn cp ch me ro hw t p)) : Nat) : Int) := by
          have hl := zW_lt (n := 6) hg6
          rw [zb_and (by omega), zcw_cn, zW_and hg6 (zdgs_lt (by decide) (fun p hp => zcn_lt hF0 hp))]
          congr 1
          refine zW_congr (fun i _ => ?_)
          unfold zdgs
          split
          · rfl
          · rfl
        rw [e]
        refine ⟨_, qc23 hF0.1 hS (fun p hp => Nat.lt_of_le_of_lt Nat.and_le_left (hg p hp)), ?_⟩
        rintro w M2 ⟨rfl, rfl⟩
        have hand : s &&& t = 0 := by omega
        refine ⟨fun h3 => ⟨⟨by omega, by omega⟩, hnext (fun h4 => ?_)⟩, fun h3 => ⟨_, rfl, ?_, rfl⟩⟩
        · unfold ztch at h4
          simp only [Bool.and_eq_true] at h4
          rw [if_pos h4.2] at h3
          omega
        · have hz : zme2 pl S (fun p => g p &&& zcn cp ch me ro hw t p) = true := by
            cases e2 : zme2 pl S (fun p => g p &&& zcn cp ch me ro hw t p)
            · rw [e2] at h3; exact absurd rfl h3
            · rfl
          rw [if_pos (by unfold ztch; simp only [Bool.and_eq_true, beq_iff_eq]; exact ⟨hand, hz⟩)] at h2
          rw [← h2]
          rfl
  exact key R D hDR rfl
def zbr0 (P : Nat → Nat → Bool) (cp : Nat) : List Nat → Option (Nat × Nat)
  | [] => none
  | s :: r => match zfd (P s) cp 0 with
    | some c => some (s, c)
    | none => zbr0 P cp r
def zbr1 (T : Nat → Nat → Bool) : List Nat → Option (Nat × Nat)
  | [] => none
  | s :: r => match r.find? (T s) with
    | some t => some (s, t)
    | none => zbr1 T r
/-- the answer of a law's check, and the breach at two fields -/
def zans (o : Option (Nat × Nat)) (r : Int) (a b : Int) : Prop := match o with
  | none => r = 0
  | some (s, t) => r = 1 ∧ a = s ∧ b = t
theorem qc19 {d : Nat} {M : zMem} {pl cp ms hw S : Nat} {ch : Nat → Nat} {me : Nat → Int} {ro : Nat → Nat → Nat} {L : List Nat} (hF : zWF pl cp ch me ro) (hJ : zJn M pl cp ch me ro ms hw) (hL : zLs M pl cp ch me ro hw L) (h92 : L.length ≤ 92) (h256 : ∀ s, s ∈ L → s < 256) :
    zCi (d + 1) 19 [.inr (.inr 36), .inl (zW 6 (zgr S) : Int)] M (fun r M' => zans (zbr0 (fun s => zfrm pl S ro (zcn cp ch me ro hw s) s) cp L) r (M' 36 6) (M' 36 7) ∧ ∀ k, k ≠ 36 → M' k = M k) := by
  refine zk19 (zv19_0 _ ?_)
  have key : ∀ (R D : List Nat), D ++ R = L → zbr0 (fun s => zfrm pl S ro (zcn cp ch me ro hw s) s) cp R = zbr0 (fun s => zfrm pl S ro (zcn cp ch me ro hw s) s) cp L → zBg (d + 1) 19 2 [zR 36, zI (zW 6 (zgr S) : Int), zI (D.length : Int), none] [] M (fun r M' => ∃ w : Int, r = some (.inl w) ∧ zans (zbr0 (fun s => zfrm pl S ro (zcn cp ch me ro hw s) s) cp L) w (M' 36 6) (M' 36 7) ∧ ∀ k, k ≠ 36 → M' k = M k) := by
    intro R
    induction R with
    | nil =>
      intro D h1 h2
      rw [List.append_nil] at h1
      refine zv19_2 _ _ ⟨fun _ => ⟨Or.inl rfl, _, rfl, ?_, fun _ _ => rfl⟩, fun h => absurd (by rw [hL.1, h1]; omega) h⟩
      rw [← h2]
      rfl
    | cons t R ih =>
      intro D h1 h2
      have hlen : D.length < L.length := by rw [← h1]; simp
      have ht : L[D.length]? = some t := by rw [← h1]; simp
      have ht2 : t < 256 := h256 t (by rw [← h1]; simp)
      obtain ⟨a1, a2, a3⟩ := hL.2 _ _ ht
      refine zv19_2 _ _ ⟨fun h => by rw [hL.1] at h; omega, fun _ => ⟨by omega, by omega, by omega, by omega, ?_⟩⟩
      rw [Int.toNat_natCast, a1, a3, zcw_cn]
      refine ⟨_, qc20 hF hJ ht2 (fun p hp => zcn_lt hF hp), ?_⟩
      rintro w M2 ⟨rfl, rfl⟩
      simp only [zbr0] at h2
      have ih1 := ih (D ++ [t])
      simp only [List.append_assoc, List.singleton_append, List.length_append, List.length_cons, List.length_nil] at ih1
      cases ho : zfd (zfrm pl S ro (zcn cp ch me ro hw t) t) cp 0 with
      | none =>
        rw [ho] at h2
        exact ⟨fun _ => ⟨⟨by omega, by omega⟩, ih1 h1 h2⟩, fun h => absurd (by simp [zfi]) h⟩
      | some c =>
        rw [ho] at h2
        refine ⟨fun h => by simp only [zfi] at h; omega, fun _ => ⟨by omega, by omega, Or.inr rfl, _, rfl, ?_, fun k hk => by rw [zb_uk hk, zb_uk hk]⟩⟩
        rw [← h2]
        refine ⟨rfl, ?_, ?_⟩
        · rw [zb_ui (by decide), zb_us, a1]
        · rw [zb_us]; rfl
  exact key L [] rfl rfl
theorem qc21 {d : Nat} {M : zMem} {pl cp ms hw S : Nat} {ch : Nat → Nat} {me : Nat → Int} {ro : Nat → Nat → Nat} {L : List Nat} (hF : zWF pl cp ch me ro) (hJ : zJn M pl cp ch me ro ms hw) (hL : zLs M pl cp ch me ro hw L) (h92 : L.length ≤ 92) (h256 : ∀ s, s ∈ L → s < 256) (hS : S < 2 ^ pl) :
    zCi (d + 2) 21 [.inr (.inr 36), .inl (zW 6 (zgr S) : Int)] M (fun r M' => zans (zbr1 (fun s => ztch pl S (zcn cp ch me ro hw) (zcn cp ch me ro hw s) s) L) r (M' 36 6) (M' 36 7) ∧ ∀ k, k ≠ 36 → M' k = M k) := by
  refine zk21 (zv21_0 _ ?_)
  have key : ∀ (R D : List Nat), D ++ R = L → zbr1 (fun s => ztch pl S (zcn cp ch me ro hw) (zcn cp ch me ro hw s) s) R = zbr1 (fun s => ztch pl S (zcn cp ch me ro hw) (zcn cp ch me ro hw s) s) L → zBg (d + 2) 21 2 [zR 36, zI (zW 6 (zgr S) : Int), zI (D.length : Int), none] [] M (fun r M' => ∃ w : Int, r = some (.inl w) ∧ zans (zbr1 (fun s => ztch pl S (zcn cp ch me ro hw) (zcn cp ch me ro hw s) s) L) w (M' 36 6) (M' 36 7) ∧ ∀ k, k ≠ 36 → M' k = M k) := by
    intro R
    induction R with
    | nil =>
      intro D h1 h2
      rw [List.append_nil] at h1
      refine zv21_2 _ _ ⟨fun _ => ⟨Or.inl rfl, _, rfl, ?_, fun _ _ => rfl⟩, fun h => absurd (by rw [hL.1, h1]; omega) h⟩
      rw [← h2]
      rfl
    | cons t R ih =>
      intro D h1 h2
      have hlen : D.length < L.length := by rw [← h1]; simp
      have ht : L[D.length]? = some t := by rw [← h1]; simp
      have ht2 : t < 256 := h256 t (by rw [← h1]; simp)
      obtain ⟨a1, a2, a3⟩ := hL.2 _ _ ht
      refine zv21_2 _ _ ⟨fun h => by rw [hL.1] at h; omega, fun _ => ⟨by omega, by omega, by omega, by omega, ⟨by omega, by omega⟩, ?_⟩⟩
      have hd1 : (D ++ [t]) ++ R = L := by rw [List.append_assoc]; exact h1
      have hq := qc22 (d := d) (M := M) (S := S) (s := t) (g := zcn cp ch me ro hw t) hF hJ hL h92 ht2 hS (fun p hp => zcn_lt hF hp) hd1
      rw [show (((D ++ [t]).length : Nat) : Int) = (D.length : Int) + 1 by simp] at hq
      rw [Int.toNat_natCast, a1, a3, zcw_cn]
      refine ⟨_, hq, ?_⟩
      rintro w M2 ⟨rfl, rfl⟩
      simp only [zbr1] at h2
      have ih1 := ih (D ++ [t])
      simp only [List.append_assoc, List.singleton_append, List.length_append, List.length_cons, List.length_nil] at ih1
      have hz := zix_find (P := ztch pl S (zcn cp ch me ro hw) (zcn cp ch me ro hw t) t) (L := R) (i := (D ++ [t]).length)
      cases ho : zix (ztch pl S (zcn cp ch me ro hw) (zcn cp ch me ro hw t) t) (D ++ [t]).length R with
      | none =>
        rw [hz.1.mp ho] at h2
        exact ⟨fun _ => ⟨⟨by omega, by omega⟩, ih1 h1 h2⟩, fun h => absurd (by simp [zfi]) h⟩
      | some j =>
        obtain ⟨b1, b2, b3⟩ := hz.2 j ho
        have hRl : (D ++ [t]).length + R.length = L.length := by rw [← hd1, List.length_append (as := D ++ [t])]
        obtain ⟨u, hu⟩ : ∃ u, L[j]? = some u := ⟨_, List.getElem?_eq_getElem (by omega)⟩
        have hu2 : R.find? (ztch pl S (zcn cp ch me ro hw) (zcn cp ch me ro hw t) t) = some u := by
          rw [b3, ← hu, ← hd1, List.getElem?_append_right b1]
        rw [hu2] at h2
        obtain ⟨c1, c2, c3⟩ := hL.2 _ _ hu
        refine ⟨fun h => by simp only [zfi] at h; omega, fun _ => ?_⟩
        simp only [zfi, Int.toNat_natCast]
        refine ⟨by omega, by omega, by omega, by omega, Or.inr trivial, _, rfl, ?_, fun k hk => by rw [zb_uk hk, zb_uk hk]⟩
        rw [← h2]
        refine ⟨rfl, ?_, ?_⟩
        · rw [zb_ui (by decide), zb_us, a1]
        · rw [zb_us, c1]
  exact key L [] rfl rfl
