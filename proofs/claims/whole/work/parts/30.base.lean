/-! memory and words: the machine's numbers as natural numbers (nx_and and s_l began as rows of kit/laws) -/
theorem zb_uk {M : zMem} {k i k' : Nat} {v : Int} (h : k' ≠ k) : zup M k i v k' = M k' := by
  funext j; simp [zup, h]
theorem zb_ui {M : zMem} {k i i' : Nat} {v : Int} (h : i' ≠ i) : zup M k i v k i' = M k i' := by simp [zup, h]
theorem zb_us {M : zMem} {k i : Nat} {v : Int} : zup M k i v k i = v := by simp [zup]
theorem zb_un {M : zMem} {k i k' i' : Nat} {v : Int} (h : k' ≠ k ∨ i' ≠ i) : zup M k i v k' i' = M k' i' := by
  simp only [zup]
  split
  · split
    · rename_i h1 h2; rcases h with h | h <;> contradiction
    · rfl
  · rfl
theorem zb_ck {M : zMem} {a p b q n k : Nat} (h : k ≠ b) : zcpy M a p b q n k = M k := by
  funext j; simp [zcpy, h]
theorem zb_ar {a t n : Nat} {f : Nat → Prop} (h : zSHL[a]? = some (.inl (t, n))) : zar a t f = f n := by
  simp [zar, h]
theorem zb_ln {a t n : Nat} {f : Nat → Prop} (h : zSHL[a]? = some (.inl (t, n))) : zln a f = f n := by
  simp [zln, h]
theorem zBg.rg {d mi pc : Nat} {ls : List (Option zV)} {st : List zV} {M : zMem} {Q : Option zV → zMem → Prop} (h : zrgM M → zBg d mi pc ls st M Q) : zBg d mi pc ls st M Q :=
  fun hM => h hM hM
theorem zb_if {c A B : Prop} (a : c → A) (b : ¬ c → B) : (c → A) ∧ (¬ c → B) := ⟨a, b⟩
theorem zb_t {c A B : Prop} (h : c) (a : A) : (c → A) ∧ (¬ c → B) := ⟨fun _ => a, fun h' => absurd h h'⟩
theorem zb_f {c A B : Prop} (h : ¬ c) (b : B) : (c → A) ∧ (¬ c → B) := ⟨fun h' => absurd h' h, fun _ => b⟩
theorem nx_and (a b : Nat) : nI a &&& nI b = nI (a &&& b) := by
  apply Int32.toBitVec_inj.1
  show BitVec.ofNat 32 a &&& BitVec.ofNat 32 b = BitVec.ofNat 32 (a &&& b)
  apply BitVec.eq_of_getLsbD_eq
  intro i hi
  simp [hi]
theorem nx_xor (a b : Nat) : nI a ^^^ nI b = nI (a ^^^ b) := by
  apply Int32.toBitVec_inj.1
  show BitVec.ofNat 32 a ^^^ BitVec.ofNat 32 b = BitVec.ofNat 32 (a ^^^ b)
  apply BitVec.eq_of_getLsbD_eq
  intro i hi
  simp [hi]
theorem nx_or (a b : Nat) : nI a ||| nI b = nI (a ||| b) := by
  apply Int32.toBitVec_inj.1
  show BitVec.ofNat 32 a ||| BitVec.ofNat 32 b = BitVec.ofNat 32 (a ||| b)
  apply BitVec.eq_of_getLsbD_eq
  intro i hi
  simp [hi]
theorem s_l : ∀ n, n < 32 → ((nI n &&& 31).toBitVec.smod 32).toNat = n := by decide +kernel
theorem s_u : ∀ n, n < 32 → (((nI n).toUInt32 &&& Int32.toUInt32 31).toBitVec % 32).toNat = n := by decide +kernel
theorem zb_N (n : Nat) : Int32.ofInt (n : Int) = nI n := rfl
theorem zb_and {a b : Nat} (ha : a < 2 ^ 31) : ziand a b = ((a &&& b : Nat) : Int) := by
  unfold ziand
  rw [zb_N, zb_N, nx_and, nI_toInt (Nat.lt_of_le_of_lt Nat.and_le_left ha)]
theorem zb_or {a b : Nat} (ha : a < 2 ^ 31) (hb : b < 2 ^ 31) : zior a b = ((a ||| b : Nat) : Int) := by
  unfold zior
  rw [zb_N, zb_N, nx_or, nI_toInt (Nat.or_lt_two_pow ha hb)]
theorem zb_andn {w c : Nat} (hw : w < 2 ^ 31) : ziand w (zixor c (-1)) = ((w &&& (c ^^^ 4294967295) : Nat) : Int) := by
  unfold ziand zixor
  rw [Int32.ofInt_toInt, show Int32.ofInt (-1) = nI 4294967295 by decide, zb_N, zb_N, nx_xor, nx_and, nI_toInt (Nat.lt_of_le_of_lt Nat.and_le_left hw)]
theorem zb_tm (i : Nat) : Nat.testBit 4294967295 i = decide (i < 32) := Nat.testBit_two_pow_sub_one 32 i
theorem zb_sub {w c : Nat} (hw : w < 2 ^ 31) : w &&& (c ^^^ 4294967295) = 0 ↔ ∀ i, w.testBit i = true → c.testBit i = true := by
  constructor
  · intro h i hi
    have h1 : (w &&& (c ^^^ 4294967295)).testBit i = false := by rw [h]; exact Nat.zero_testBit i
    rw [Nat.testBit_and, Nat.testBit_xor, zb_tm, hi] at h1
    have h2 : i < 32 := by
      rcases Nat.lt_or_ge i 32 with h2 | h2
      · exact h2
      · rw [Nat.testBit_lt_two_pow (Nat.lt_of_lt_of_le hw (Nat.pow_le_pow_right (by decide) (by omega)))] at hi
        cases hi
    rw [decide_eq_true h2] at h1
    cases hc : c.testBit i
    · rw [hc] at h1; cases h1
    · rfl
  · intro h
    apply Nat.eq_of_testBit_eq
    intro i
    rw [Nat.zero_testBit, Nat.testBit_and, Nat.testBit_xor, zb_tm]
    cases hw2 : w.testBit i
    · rfl
    · rw [h i hw2]
      have h2 : i < 32 := by
        rcases Nat.lt_or_ge i 32 with h2 | h2
        · exact h2
        · rw [Nat.testBit_lt_two_pow (Nat.lt_of_lt_of_le hw (Nat.pow_le_pow_right (by decide) (by omega)))] at hw2
          cases hw2
      simp [h2]
theorem zb_andn0 {w c : Nat} (hw : w < 2 ^ 31) : ziand w (zixor c (-1)) = 0 ↔ ∀ i, w.testBit i = true → c.testBit i = true := by
  rw [zb_andn hw, ← zb_sub hw]
  omega
theorem zb_shl {a k : Nat} (hk : k < 32) (h : a * 2 ^ k < 2 ^ 31) : zishl a k = ((a * 2 ^ k : Nat) : Int) := by
  unfold zishl
  rw [zb_N, zb_N, pk_shlN _ k (s_l k hk) (by omega), nI_toInt h]
theorem zb_shl1 {k : Nat} (hk : k < 31) : zishl 1 k = ((2 ^ k : Nat) : Int) := by
  have h := zb_shl (a := 1) (k := k) (by omega) (by rw [Nat.one_mul]; exact Nat.pow_lt_pow_right (by decide) hk)
  rw [Nat.one_mul] at h
  exact h
theorem zb_shr {a k : Nat} (ha : a < 2 ^ 31) (hk : k < 32) : zishr a k = ((a / 2 ^ k : Nat) : Int) := by
  unfold zishr
  rw [zb_N, zb_N, pk_shrN ha _ k (s_l k hk), nI_toInt (Nat.lt_of_le_of_lt (Nat.div_le_self _ _) ha)]
theorem zb_ushr {a k : Nat} (ha : a < 2 ^ 31) (hk : k < 32) : ziushr a k = ((a / 2 ^ k : Nat) : Int) := by
  unfold ziushr
  rw [zb_N, zb_N, pk_ushrN (by omega) _ k (s_u k hk), nI_toInt (Nat.lt_of_le_of_lt (Nat.div_le_self _ _) ha)]
theorem zb_bit {a k : Nat} (ha : a < 2 ^ 31) (hk : k < 32) : ziand (zishr a k) 1 = if a.testBit k = true then 1 else 0 := by
  have h1 : a / 2 ^ k < 2 ^ 31 := Nat.lt_of_le_of_lt (Nat.div_le_self _ _) ha
  have h2 := zb_and (a := a / 2 ^ k) (b := 1) h1
  rw [zb_shr ha hk]
  refine h2.trans ?_
  rw [Nat.and_one_is_mod, Nat.testBit_eq_decide_div_mod_eq]
  by_cases h : a / 2 ^ k % 2 = 1
  · simp [h]
  · have : a / 2 ^ k % 2 = 0 := by omega
    simp [this]
theorem zb_bit1 {a k : Nat} (ha : a < 2 ^ 31) (hk : k < 32) : ziand (zishr a k) 1 = 1 ↔ a.testBit k = true := by
  rw [zb_bit ha hk]
  cases a.testBit k <;> simp
theorem zb_bit0 {a k : Nat} (ha : a < 2 ^ 31) (hk : k < 32) : ziand (zishr a k) 1 = 0 ↔ a.testBit k = false := by
  rw [zb_bit ha hk]
  cases a.testBit k <;> simp
theorem zb_m1and {b : Nat} (hb : b < 2 ^ 31) : ziand (-1) b = b := by
  unfold ziand
  rw [show Int32.ofInt (-1) = nI 4294967295 by decide, zb_N, nx_and]
  have h : 4294967295 &&& b = b := by
    apply Nat.eq_of_testBit_eq
    intro i
    rw [Nat.testBit_and, zb_tm]
    rcases Nat.lt_or_ge i 32 with h2 | h2
    · simp [h2]
    · rw [Nat.testBit_lt_two_pow (x := b) (Nat.lt_of_lt_of_le hb (Nat.pow_le_pow_right (by decide) (by omega)))]; simp
  rw [h, nI_toInt hb]
theorem zb_div {a b : Nat} (ha : a < 2 ^ 31) (h0 : 0 < b) (hb : b < 2 ^ 31) : zidiv a b = ((a / b : Nat) : Int) := by
  unfold zidiv
  rw [zb_N, zb_N, pk_div ha h0 hb, nI_toInt (Nat.lt_of_le_of_lt (Nat.div_le_self _ _) ha)]
theorem zb_rem {a b : Nat} (ha : a < 2 ^ 31) (h0 : 0 < b) (hb : b < 2 ^ 31) : zirem a b = ((a % b : Nat) : Int) := by
  unfold zirem
  rw [zb_N, zb_N, pk_rem ha h0 hb, nI_toInt (Nat.lt_of_lt_of_le (Nat.mod_lt _ h0) (by omega))]
/-! words of six groups of five bits -/
def zW : Nat → (Nat → Nat) → Nat
  | 0, _ => 0
  | n + 1, f => f 0 + 32 * zW n (fun i => f (i + 1))
theorem zW_lt : ∀ {n : Nat} {f : Nat → Nat}, (∀ i, i < n → f i < 32) → zW n f < 2 ^ (5 * n) := by
  intro n
  induction n with
  | zero => intro f h; simp [zW]
  | succ n ih =>
    intro f h
    have h1 := ih (f := fun i => f (i + 1)) (fun i hi => h (i + 1) (by omega))
    have h2 := h 0 (by omega)
    simp only [zW]
    rw [show 5 * (n + 1) = 5 * n + 5 by omega, Nat.pow_add]
    omega
theorem zW_bit : ∀ {n : Nat} {f : Nat → Nat}, (∀ i, i < n → f i < 32) → ∀ j, (zW n f).testBit j = (decide (j < 5 * n) && (f (j / 5)).testBit (j % 5)) := by
  intro n
  induction n with
  | zero => intro f h j; simp [zW]
  | succ n ih =>
    intro f h j
    simp only [zW]
    have h2 := h 0 (by omega)
    rw [Nat.add_comm, show (32 : Nat) = 2 ^ 5 by decide, Nat.testBit_two_pow_mul_add _ (by omega) j]
    by_cases hj : j < 5
    · rw [if_pos hj, show j / 5 = 0 by omega, show j % 5 = j by omega, decide_eq_true (by omega : j < 5 * (n + 1))]; simp
    · rw [if_neg hj, ih (f := fun i => f (i + 1)) (fun i hi => h (i + 1) (by omega)) (j - 5)]
      rw [show (j - 5) / 5 + 1 = j / 5 by omega, show (j - 5) % 5 = j % 5 by omega]
      congr 1
      exact decide_eq_decide.mpr (by omega)
theorem zW_at {n : Nat} {f : Nat → Nat} (h : ∀ i, i < n → f i < 32) {p v : Nat} (hp : p < n) (hv : v < 5) : (zW n f).testBit (5 * p + v) = (f p).testBit v := by
  rw [zW_bit h, decide_eq_true (by omega : 5 * p + v < 5 * n), show (5 * p + v) / 5 = p by omega, show (5 * p + v) % 5 = v by omega]
  rfl
theorem zW_congr : ∀ {n : Nat} {f g : Nat → Nat}, (∀ i, i < n → f i = g i) → zW n f = zW n g := by
  intro n
  induction n with
  | zero => intro f g h; rfl
  | succ n ih =>
    intro f g h
    simp only [zW]
    rw [h 0 (by omega), ih (fun i hi => h (i + 1) (by omega))]
theorem zW_add : ∀ {n : Nat} {f g : Nat → Nat}, zW n f + zW n g = zW n (fun i => f i + g i) := by
  intro n
  induction n with
  | zero => intro f g; rfl
  | succ n ih =>
    intro f g
    simp only [zW]
    rw [← ih]
    omega
theorem zW_mul (c : Nat) : ∀ {n : Nat} {f : Nat → Nat}, c * zW n f = zW n (fun i => c * f i) := by
  intro n
  induction n with
  | zero => intro f; rfl
  | succ n ih =>
    intro f
    simp only [zW]
    rw [← ih, Nat.mul_add, Nat.mul_left_comm]
theorem zW_sub {n : Nat} {f g : Nat → Nat} (h : ∀ i, i < n → g i ≤ f i) : zW n g ≤ zW n f ∧ zW n f - zW n g = zW n (fun i => f i - g i) := by
  have h1 : zW n g + zW n (fun i => f i - g i) = zW n f := by
    rw [zW_add]
    exact zW_congr (fun i hi => by have := h i hi; omega)
  omega
theorem zW_and {n : Nat} {f g : Nat → Nat} (hf : ∀ i, i < n → f i < 32) (hg : ∀ i, i < n → g i < 32) : zW n f &&& zW n g = zW n (fun i => f i &&& g i) := by
  apply Nat.eq_of_testBit_eq
  intro j
  rw [Nat.testBit_and, zW_bit hf, zW_bit hg, zW_bit (fun i hi => Nat.lt_of_le_of_lt Nat.and_le_left (hf i hi)), Nat.testBit_and]
  cases decide (j < 5 * n) <;> simp
theorem zW_or {n : Nat} {f g : Nat → Nat} (hf : ∀ i, i < n → f i < 32) (hg : ∀ i, i < n → g i < 32) : zW n f ||| zW n g = zW n (fun i => f i ||| g i) := by
  apply Nat.eq_of_testBit_eq
  intro j
  rw [Nat.testBit_or, zW_bit hf, zW_bit hg, zW_bit (fun i hi => Nat.or_lt_two_pow (n := 5) (hf i hi) (hg i hi)), Nat.testBit_or]
  cases decide (j < 5 * n) <;> simp
theorem zW_0 : ∀ {n : Nat}, zW n (fun _ => 0) = 0 := by
  intro n
  induction n with
  | zero => rfl
  | succ n ih => simp only [zW]; rw [ih]
/-- one group alone -/
theorem zW_one : ∀ {n p x : Nat}, p < n → zW n (fun i => if i = p then x else 0) = x * 2 ^ (5 * p) := by
  intro n
  induction n with
  | zero => intro p x h; omega
  | succ n ih =>
    intro p x h
    simp only [zW]
    cases p with
    | zero =>
      rw [zW_congr (g := fun _ => 0) (fun i _ => by simp), zW_0]
      simp
    | succ p =>
      rw [zW_congr (g := fun i => if i = p then x else 0) (fun i _ => by simp), ih (by omega)]
      rw [show 5 * (p + 1) = 5 * p + 5 by omega, Nat.pow_add]
      simp
      rw [Nat.mul_left_comm, Nat.mul_comm 32]
theorem zW_set {n p x : Nat} {f : Nat → Nat} (hp : p < n) (hf : ∀ i, i < n → f i < 32) (hx : x < 32) : zW n f ||| (x * 2 ^ (5 * p)) = zW n (fun i => if i = p then f i ||| x else f i) := by
  rw [← zW_one hp, zW_or hf (fun i hi => by split <;> omega)]
  refine zW_congr (fun i _ => ?_)
  split
  · rfl
  · simp
/-- the values v 0 .. as bits, one a group; 5 asks for nothing -/
def zdg (pl : Nat) (v : Nat → Nat) (p : Nat) : Nat := if p < pl ∧ v p ≠ 5 then 2 ^ v p else 0
def zbits (pl : Nat) (v : Nat → Nat) : Nat := zW 6 (zdg pl v)
theorem zdg_lt {pl : Nat} {v : Nat → Nat} (h : ∀ p, p < pl → v p ≤ 5) : ∀ i, i < 6 → zdg pl v i < 32 := by
  intro i _
  unfold zdg
  split
  · rename_i hh
    have h1 := h i hh.1
    exact Nat.pow_lt_pow_right (a := 2) (n := 5) (by decide) (by omega)
  · decide
theorem zbits_lt {pl : Nat} {v : Nat → Nat} (h : ∀ p, p < pl → v p ≤ 5) : zbits pl v < 2 ^ 30 := zW_lt (n := 6) (zdg_lt h)
theorem zbits_s {pl : Nat} {v : Nat → Nat} (h : ∀ p, p < pl + 1 → v p ≤ 5) (h6 : pl < 6) : zbits (pl + 1) v = if v pl = 5 then zbits pl v else zbits pl v ||| 2 ^ (5 * pl + v pl) := by
  unfold zbits
  by_cases h5 : v pl = 5
  · rw [if_pos h5]
    refine zW_congr (fun i _ => ?_)
    unfold zdg
    by_cases hi : i = pl
    · subst hi; simp [h5]
    · simp only [show (i < pl + 1) ↔ (i < pl) from ⟨fun h => by omega, fun h => by omega⟩]
  · rw [if_neg h5, show 2 ^ (5 * pl + v pl) = 2 ^ v pl * 2 ^ (5 * pl) by rw [Nat.pow_add, Nat.mul_comm]]
    have hv := h pl (by omega)
    rw [zW_set h6 (zdg_lt (fun p hp => h p (by omega))) (Nat.pow_lt_pow_right (a := 2) (n := 5) (by decide) (by omega))]
    refine zW_congr (fun i _ => ?_)
    unfold zdg
    by_cases hi : i = pl
    · subst hi; simp [h5]
    · rw [if_neg hi]; simp only [show (i < pl + 1) ↔ (i < pl) from ⟨fun h => by omega, fun h => by omega⟩]
theorem zBg.mono {d mi pc : Nat} {ls : List (Option zV)} {st : List zV} {M : zMem} {Q Q' : Option zV → zMem → Prop} (h : zBg d mi pc ls st M Q) (hq : ∀ r M', Q r M' → Q' r M') : zBg d mi pc ls st M Q' := by
  intro h1 h2 h3 I h4 h5 l D cA ad p e s m args below meth c H locs cls k1 k2 k3 k4 k5 k6
  have hw := h h1 h2 h3 I h4 h5 l D cA ad p e s m args below meth c H locs cls k1 k2 k3 k4 k5 k6
  intro T hT X
  obtain ⟨t, a1, o, b1, b2, ⟨⟨r, M', e1, e2, e3⟩, e4⟩, b4⟩ := hw T hT X
  exact ⟨t, a1, o, b1, b2, ⟨⟨r, M', e1, hq r M' e2, e3⟩, e4⟩, b4⟩
