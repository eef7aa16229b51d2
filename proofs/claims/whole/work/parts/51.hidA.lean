/-! hiding: scores in nibbles, the best of rows one by one -/
def zcnt (P : Nat → Bool) : Nat → Nat
  | 0 => 0
  | n + 1 => zcnt P n + (if P n then 1 else 0)
theorem zcnt_le {P : Nat → Bool} : ∀ n, zcnt P n ≤ n := by
  intro n
  induction n with
  | zero => exact Nat.le_refl _
  | succ n ih => simp only [zcnt]; split <;> omega
theorem zcnt_mono {P : Nat → Bool} : ∀ {m n : Nat}, m ≤ n → zcnt P m ≤ zcnt P n := by
  intro m n h
  induction n with
  | zero => rw [show m = 0 by omega]; exact Nat.le_refl _
  | succ n ih =>
    by_cases e : m = n + 1
    · rw [e]; exact Nat.le_refl _
    · have := ih (by omega)
      simp only [zcnt]
      omega
theorem zcnt_congr {P P' : Nat → Bool} : ∀ {n : Nat}, (∀ i, i < n → P i = P' i) → zcnt P n = zcnt P' n := by
  intro n
  induction n with
  | zero => intro _; rfl
  | succ n ih =>
    intro h
    simp only [zcnt]
    rw [ih (fun i hi => h i (by omega)), h n (by omega)]
def zX : Nat → (Nat → Nat) → Nat
  | 0, _ => 0
  | n + 1, f => f 0 + 16 * zX n (fun i => f (i + 1))
theorem zX_congr : ∀ {n : Nat} {f g : Nat → Nat}, (∀ i, i < n → f i = g i) → zX n f = zX n g := by
  intro n
  induction n with
  | zero => intro f g h; rfl
  | succ n ih =>
    intro f g h
    simp only [zX]
    rw [h 0 (by omega), ih (fun i hi => h (i + 1) (by omega))]
theorem zX_add : ∀ {n : Nat} {f g : Nat → Nat}, zX n f + zX n g = zX n (fun i => f i + g i) := by
  intro n
  induction n with
  | zero => intro f g; rfl
  | succ n ih =>
    intro f g
    simp only [zX]
    rw [← ih]
    omega
theorem zX_0 : ∀ {n : Nat}, zX n (fun _ => 0) = 0 := by
  intro n
  induction n with
  | zero => rfl
  | succ n ih => simp only [zX]; rw [ih]
theorem zX_one : ∀ {n c : Nat}, c < n → zX n (fun i => if i = c then 1 else 0) = 16 ^ c := by
  intro n
  induction n with
  | zero => intro c h; omega
  | succ n ih =>
    intro c h
    simp only [zX]
    cases c with
    | zero =>
      rw [zX_congr (g := fun _ => 0) (fun i _ => by simp), zX_0]
      simp
    | succ c =>
      rw [zX_congr (g := fun i => if i = c then 1 else 0) (fun i _ => by simp), ih (by omega), Nat.pow_succ]
      simp
      omega
theorem zX_at : ∀ {n c : Nat} {f : Nat → Nat}, (∀ i, i < n → f i < 16) → c < n → zX n f / 16 ^ c % 16 = f c := by
  intro n
  induction n with
  | zero => intro c f _ h; omega
  | succ n ih =>
    intro c f hf hc
    simp only [zX]
    have h0 := hf 0 (by omega)
    cases c with
    | zero => rw [Nat.pow_zero, Nat.div_one]; omega
    | succ c =>
      rw [Nat.pow_succ, Nat.mul_comm (16 ^ c) 16, ← Nat.div_div_eq_div_mul]
      rw [show (f 0 + 16 * zX n (fun i => f (i + 1))) / 16 = zX n (fun i => f (i + 1)) by omega]
      exact ih (f := fun i => f (i + 1)) (fun i hi => hf (i + 1) (by omega)) (by omega)
theorem zX_le : ∀ {n : Nat} {f : Nat → Nat}, (∀ i, i < n → f i ≤ 6) → 15 * zX n f ≤ 6 * (16 ^ n - 1) := by
  intro n
  induction n with
  | zero => intro f _; simp [zX]
  | succ n ih =>
    intro f hf
    have h1 := ih (f := fun i => f (i + 1)) (fun i hi => hf (i + 1) (by omega))
    have h2 := hf 0 (by omega)
    simp only [zX]
    rw [Nat.pow_succ]
    have h3 : 0 < 16 ^ n := Nat.pow_pos (by decide)
    omega
theorem zX_31 {f : Nat → Nat} (h : ∀ i, i < 8 → f i ≤ 6) : zX 8 f ≤ 1717986918 := by
  have h1 := zX_le (n := 8) h
  have h2 : (16 : Nat) ^ 8 = 4294967296 := by decide
  omega
def zmx (g : Nat → Nat) : Nat → Nat
  | 0 => 0
  | n + 1 => max (zmx g n) (g n)
theorem zmx_le {g : Nat → Nat} {b : Nat} : ∀ {n : Nat}, (∀ i, i < n → g i ≤ b) → zmx g n ≤ b := by
  intro n
  induction n with
  | zero => intro _; exact Nat.zero_le _
  | succ n ih =>
    intro h
    have h1 := ih (fun i hi => h i (by omega))
    have h2 := h n (by omega)
    simp only [zmx]
    omega
theorem zmx_mono {g g' : Nat → Nat} : ∀ {n : Nat}, (∀ i, i < n → g i ≤ g' i) → zmx g n ≤ zmx g' n := by
  intro n
  induction n with
  | zero => intro _; exact Nat.le_refl _
  | succ n ih =>
    intro h
    have h1 := ih (fun i hi => h i (by omega))
    have h2 := h n (by omega)
    simp only [zmx]
    omega
theorem qc8 {d : Nat} {M : zMem} {f : Nat → Nat} (hf : ∀ i, i < 8 → f i ≤ 6) : zCi d 8 [.inl ((zX 8 f : Nat) : Int)] M (fun r M' => r = (zmx f 8 : Int) ∧ M' = M) := by
  refine zk8 (zv8_0 _ ?_)
  have hx := zX_31 hf
  have key : ∀ (m c : Nat), c + m = 8 → zBg d 8 4 [zI ((zX 8 f : Nat) : Int), zI (zmx f c : Int), zI (c : Int)] [] M (fun r M' => ∃ w : Int, r = some (.inl w) ∧ w = (zmx f 8 : Int) ∧ M' = M) := by
    intro m
    induction m with
    | zero =>
      intro c hc
      have : c = 8 := by omega
      subst this
      exact zv8_4 _ _ _ ⟨fun _ => ⟨_, rfl, rfl, rfl⟩, fun h => absurd (by omega) h⟩
    | succ m ih =>
      intro c hc
      have ih1 := ih (c + 1) (by omega)
      have hfc := hf c (by omega)
      have hn : ziand (ziushr ((zX 8 f : Nat) : Int) (4 * (c : Int))) 15 = (f c : Int) := by
        rw [show 4 * (c : Int) = ((4 * c : Nat) : Int) by omega, zb_ushr (by omega) (by omega)]
        have h1 : zX 8 f / 2 ^ (4 * c) < 2 ^ 31 := Nat.lt_of_le_of_lt (Nat.div_le_self _ _) (by omega)
        have h2 := zb_and (a := zX 8 f / 2 ^ (4 * c)) (b := 15) h1
        refine h2.trans ?_
        rw [show 15 = 2 ^ 4 - 1 by decide, Nat.and_two_pow_sub_one_eq_mod, Nat.pow_mul, show (2 : Nat) ^ 4 = 16 by decide, zX_at (fun i hi => by have := hf i hi; omega) (by omega)]
      refine zv8_4 _ _ _ ⟨fun h => by omega, fun _ => ⟨⟨by omega, by omega⟩, ⟨by omega, by omega⟩, ?_⟩⟩
      rw [hn]
      have e : (if (zmx f c : Int) < (f c : Int) then (f c : Int) else (zmx f c : Int)) = ((zmx f (c + 1) : Nat) : Int) := by
        simp only [zmx]
        split <;> omega
      rw [e]
      exact ih1
  exact key 8 0 (by omega)
/-- the least of f so far, and where it was first -/
def zhs (f : Nat → Nat) : Nat → Nat → Nat × Option Nat → Nat × Option Nat
  | 0, _, st => st
  | m + 1, k, st => zhs f m (k + 1) (if f k < st.1 then (f k, some k) else st)
theorem zhs_add {f : Nat → Nat} : ∀ {a b k : Nat} {st : Nat × Option Nat}, zhs f (a + b) k st = zhs f b (k + a) (zhs f a k st) := by
  intro a
  induction a with
  | zero => intro b k st; simp [zhs]
  | succ a ih =>
    intro b k st
    rw [show a + 1 + b = (a + b) + 1 by omega]
    simp only [zhs]
    rw [ih, show k + 1 + a = k + (a + 1) by omega]
theorem zhs_skip {f : Nat → Nat} : ∀ {m k : Nat} {st : Nat × Option Nat}, (∀ x, k ≤ x → x < k + m → st.1 ≤ f x) → zhs f m k st = st := by
  intro m
  induction m with
  | zero => intro k st _; rfl
  | succ m ih =>
    intro k st h
    simp only [zhs]
    rw [if_neg (by have := h k (by omega) (by omega); omega)]
    exact ih (fun x h1 h2 => h x (by omega) (by omega))
theorem zhs_le {f : Nat → Nat} : ∀ {m k : Nat} {st : Nat × Option Nat}, (zhs f m k st).1 ≤ st.1 := by
  intro m
  induction m with
  | zero => intro k st; exact Nat.le_refl _
  | succ m ih =>
    intro k st
    simp only [zhs]
    refine Nat.le_trans ih ?_
    split
    · exact Nat.le_of_lt (by assumption)
    · exact Nat.le_refl _
/-- begun from 7 or from 100: alike, once one is below 7 and all others are 100 -/
theorem zhs_start {f : Nat → Nat} (hf : ∀ x, f x < 7 ∨ f x = 100) : ∀ {m k : Nat}, (∃ x, k ≤ x ∧ x < k + m ∧ f x < 7) → zhs f m k (7, none) = zhs f m k (100, none) ∧ ∃ b, (zhs f m k (100, none)).2 = some b := by
  have hkeep : ∀ (m k : Nat) (st : Nat × Option Nat) (b : Nat), st.2 = some b → ∃ b', (zhs f m k st).2 = some b' := by
    intro m
    induction m with
    | zero => intro k st b h; exact ⟨b, h⟩
    | succ m ih =>
      intro k st b h
      simp only [zhs]
      split
      · exact ih (k + 1) _ k rfl
      · exact ih (k + 1) _ b h
  intro m
  induction m with
  | zero => rintro k ⟨x, h1, h2, _⟩; omega
  | succ m ih =>
    rintro k ⟨x, h1, h2, h3⟩
    simp only [zhs]
    rcases hf k with hk | hk
    · rw [if_pos hk, if_pos (by omega)]
      exact ⟨rfl, hkeep m (k + 1) _ k rfl⟩
    · rw [if_neg (by omega), if_neg (by omega)]
      refine ih ⟨x, ?_, by omega, h3⟩
      by_cases e : x = k
      · subst e; omega
      · omega
/-! the rows of choices and LEFT OUT -/
def zvl (pl : Nat) (ch : Nat → Nat) (k q : Nat) : Nat := zv6 ch q (zdt (zn6 pl ch 1) 6 k q)
/-- the score of copy c by the first p places of the row k, if it is in the set -/
def zsc (pl cp : Nat) (ch : Nat → Nat) (ro : Nat → Nat → Nat) (s p k c : Nat) : Nat := if c < cp ∧ s.testBit c = true then zcnt (fun q => ro c q == zvl pl ch k q) p else 0
theorem zsc_le {pl cp s p k c : Nat} {ch : Nat → Nat} {ro : Nat → Nat → Nat} : zsc pl cp ch ro s p k c ≤ p := by
  unfold zsc
  split
  · exact zcnt_le p
  · exact Nat.zero_le _
def zmkk (pl : Nat) (ch : Nat → Nat) (g : Nat → Nat) (p k : Nat) : Bool := (List.range p).all (fun q => (g q).testBit (zvl pl ch k q))
theorem zmkk_iff {pl p k : Nat} {ch g : Nat → Nat} : zmkk pl ch g p k = true ↔ ∀ q, q < p → (g q).testBit (zvl pl ch k q) = true := by
  unfold zmkk
  simp
/-- the most that one of the set scores by the row k, or 100 if the set does not make it -/
def zhf (pl cp : Nat) (ch : Nat → Nat) (me : Nat → Int) (ro : Nat → Nat → Nat) (hw s k : Nat) : Nat := if zmkk pl ch (zcn cp ch me ro hw s) pl k then zmx (zsc pl cp ch ro s pl k) 8 else 100
theorem zhf_7 {pl cp hw s : Nat} {ch : Nat → Nat} {me : Nat → Int} {ro : Nat → Nat → Nat} (h6 : pl ≤ 6) : ∀ k, zhf pl cp ch me ro hw s k < 7 ∨ zhf pl cp ch me ro hw s k = 100 := by
  intro k
  unfold zhf
  split
  · have := zmx_le (g := zsc pl cp ch ro s pl k) (b := 6) (n := 8) (fun i _ => Nat.le_trans zsc_le h6)
    omega
  · exact Or.inr rfl
theorem zcan_self {hw ch u v : Nat} {me : Int} (hc : ch ≤ 4) (hu : u < 2 ^ ch) (h : u.testBit v = true) : (zcan hw ch me u).testBit v = true := by
  unfold zcan
  rw [Nat.testBit_or, Bool.or_eq_true]
  refine Or.inl ?_
  split
  · rw [Nat.testBit_two_pow_sub_one]
    refine decide_eq_true ?_
    rcases Nat.lt_or_ge v ch with h1 | h1
    · exact h1
    · rw [Nat.testBit_lt_two_pow (Nat.lt_of_lt_of_le hu (zb_p2le h1))] at h; cases h
  · split
    · rw [Nat.testBit_or, h]; rfl
    · exact h
/-- some row is made: that of a copy in the set -/
theorem zhf_some {pl cp hw s : Nat} {ch : Nat → Nat} {me : Nat → Int} {ro : Nat → Nat → Nat} (hF : zWF pl cp ch me ro) (h0 : 0 < s) (hs : s < 2 ^ cp) : ∃ x, 0 ≤ x ∧ x < 0 + zwq (zn6 pl ch 1) 6 0 ∧ zhf pl cp ch me ro hw s x < 7 := by
  obtain ⟨c, hc, hb⟩ := zb_some h0 hs
  obtain ⟨k, k1, k2, k3⟩ := zrank (n := zn6 pl ch 1) (f := fun q => if q < pl then ro c q else 0) (P := 6) zn6_pos (fun q hq => by
    unfold zn6
    by_cases hq2 : q < pl
    · rw [if_pos hq2, if_pos hq2]
      have := hF.2.2.2 c hc q hq2
      omega
    · rw [if_neg hq2, if_neg hq2]; decide) 6 (Nat.le_refl _)
  have hw6 : zwq (zn6 pl ch 1) 6 6 = 1 := zwq_e (Nat.le_refl _)
  refine ⟨k, Nat.zero_le _, by omega, ?_⟩
  have hmk : zmkk pl ch (zcn cp ch me ro hw s) pl k = true := by
    rw [zmkk_iff]
    intro q hq
    have h6 := hF.1
    have hro := hF.2.2.2 c hc q hq
    have e : zvl pl ch k q = ro c q := by
      unfold zvl zv6
      rw [k3 q (by omega)]
      simp only [if_pos hq]
      rw [if_pos hro]
    rw [e]
    exact zcan_self (hF.2.2.1 q hq).2.1 (zU_ok hF hq (Nat.le_refl _)).1 (zU_bit.mpr ⟨c, hc, hb, rfl⟩)
  unfold zhf
  rw [if_pos hmk]
  have := zmx_le (g := zsc pl cp ch ro s pl k) (b := 6) (n := 8) (fun i _ => Nat.le_trans zsc_le hF.1)
  omega
theorem qc6 {d : Nat} {M : zMem} {bits w : Nat} {g : Nat → Nat} (hb : bits < 2 ^ 31) (hg : ∀ b, b < 30 → M 52 b = g b ∧ g b + w < 2 ^ 31) :
    zCv d 6 [.inr (.inr 51), .inl (bits : Int), .inl (w : Int)] M (fun M' => (∀ k, k ≠ 52 → M' k = M k) ∧ ∀ b, b < 30 → M' 52 b = ((g b + (if bits.testBit b then w else 0) : Nat) : Int)) := by
  refine zk6 (zv6_0 _ _ ?_)
  have key : ∀ (m b : Nat) (M1 : zMem), b + m = 30 → (∀ k, k ≠ 52 → M1 k = M k) → (∀ j, j < b → M1 52 j = ((g j + (if bits.testBit j then w else 0) : Nat) : Int)) → (∀ j, b ≤ j → M1 52 j = M 52 j) →
      zBg d 6 2 [zR 51, zI (bits : Int), zI (w : Int), zI (b : Int)] [] M1 (fun r M' => r = none ∧ (∀ k, k ≠ 52 → M' k = M k) ∧ ∀ b, b < 30 → M' 52 b = ((g b + (if bits.testBit b then w else 0) : Nat) : Int)) := by
    intro m
    induction m with
    | zero =>
      intro b M1 hb1 h1 h2 h3
      exact zv6_2 _ _ _ ⟨fun _ => ⟨rfl, h1, fun j hj => h2 j (by omega)⟩, fun h => absurd (by omega) h⟩
    | succ m ih =>
      intro b M1 hb1 h1 h2 h3
      obtain ⟨g1, g2⟩ := hg b (by omega)
      refine zv6_2 _ _ _ ⟨fun h => by omega, fun _ => ?_⟩
      rw [Ne, zb_bit1 hb (by omega)]
      refine ⟨fun h => ⟨⟨by omega, by omega⟩, ?_⟩, fun h => ?_⟩
      · refine ih (b + 1) M1 (by omega) h1 (fun j hj => ?_) (fun j hj => h3 j (by omega))
        by_cases hjb : j = b
        · subst hjb; rw [if_neg h, Nat.add_zero, h3 j (Nat.le_refl _)]; exact g1
        · exact h2 j (by omega)
      · rw [Decidable.not_not] at h
        rw [Int.toNat_natCast, h3 b (Nat.le_refl _), g1]
        refine ⟨by omega, by omega, ⟨by omega, by omega⟩, by omega, by omega, ⟨by omega, by omega⟩, ?_⟩
        refine ih (b + 1) _ (by omega) (fun k hk => by rw [zb_uk hk]; exact h1 k hk) (fun j hj => ?_) (fun j hj => by rw [zb_ui (by omega)]; exact h3 j (by omega))
        by_cases hjb : j = b
        · subst hjb; rw [zb_us, if_pos h]; omega
        · rw [zb_ui hjb]; exact h2 j (by omega)
  exact key 30 0 M (by omega) (fun _ _ => rfl) (fun j hj => by omega) (fun _ _ => rfl)
