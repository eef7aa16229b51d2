/-! rows as numbers: place 0 counts most -/
def zwt (n : Nat → Nat) : Nat → Nat → Nat
  | 0, _ => 1
  | m + 1, p => n p * zwt n m (p + 1)
/-- how many rows there are of the places q .. P - 1 -/
def zwq (n : Nat → Nat) (P q : Nat) : Nat := zwt n (P - q) q
def zdt (n : Nat → Nat) (P k q : Nat) : Nat := k / zwq n P (q + 1) % n q
theorem zwq_s {n : Nat → Nat} {P q : Nat} (h : q < P) : zwq n P q = n q * zwq n P (q + 1) := by
  unfold zwq
  rw [show P - q = (P - (q + 1)) + 1 by omega]
  rfl
theorem zwq_e {n : Nat → Nat} {P q : Nat} (h : P ≤ q) : zwq n P q = 1 := by
  unfold zwq
  rw [show P - q = 0 by omega]
  rfl
theorem zwq_pos {n : Nat → Nat} {P : Nat} (hn : ∀ q, 0 < n q) : ∀ {m q : Nat}, P - q = m → 0 < zwq n P q := by
  intro m
  induction m with
  | zero => intro q h; rw [zwq_e (by omega)]; decide
  | succ m ih => intro q h; rw [zwq_s (by omega)]; exact Nat.mul_pos (hn q) (ih (by omega))
theorem zwq_pos' {n : Nat → Nat} {P q : Nat} (hn : ∀ q, 0 < n q) : 0 < zwq n P q := zwq_pos hn rfl
theorem zwq_mul {n : Nat → Nat} {P : Nat} : ∀ {m q p : Nat}, p - q = m → q ≤ p → p ≤ P → ∃ X, zwq n P q = X * zwq n P p := by
  intro m
  induction m with
  | zero => intro q p h h1 h2; exact ⟨1, by rw [show q = p by omega]; simp⟩
  | succ m ih =>
    intro q p h h1 h2
    obtain ⟨X, hX⟩ := ih (q := q + 1) (p := p) (by omega) (by omega) h2
    exact ⟨n q * X, by rw [zwq_s (by omega), hX, Nat.mul_assoc]⟩
theorem zdt_lt {n : Nat → Nat} {P k q : Nat} (hn : ∀ q, 0 < n q) : zdt n P k q < n q := Nat.mod_lt _ (hn q)
theorem zdt_0 {n : Nat → Nat} {P q : Nat} : zdt n P 0 q = 0 := by unfold zdt; simp
/-- what stands ahead of place p depends on k / (the rows behind) alone -/
theorem zdt_pre {n : Nat → Nat} {P k k' p q : Nat} (hp : p ≤ P) (hq : q < p) (h : k / zwq n P p = k' / zwq n P p) : zdt n P k q = zdt n P k' q := by
  unfold zdt
  obtain ⟨X, hX⟩ := zwq_mul (n := n) (P := P) (q := q + 1) (p := p) rfl (by omega) hp
  rw [hX, Nat.mul_comm, ← Nat.div_div_eq_div_mul, ← Nat.div_div_eq_div_mul, h]
theorem zod_zero {n : Nat → Nat} {P k p q : Nat} (hn : ∀ q, 0 < n q) (hd : zwq n P (p + 1) ∣ k) (h1 : p < q) (h2 : q < P) : zdt n P k q = 0 := by
  unfold zdt
  obtain ⟨X, hX⟩ := zwq_mul (n := n) (P := P) (q := p + 1) (p := q) rfl (by omega) (by omega)
  obtain ⟨Y, hY⟩ := hd
  rw [hY, hX, zwq_s h2]
  have hpos := zwq_pos' (n := n) (P := P) (q := q + 1) hn
  rw [show X * (n q * zwq n P (q + 1)) * Y = (n q * (X * Y)) * zwq n P (q + 1) by ac_rfl]
  rw [Nat.mul_div_cancel _ hpos, Nat.mul_mod_right]
theorem zod_up {n : Nat → Nat} {P k p : Nat} (hn : ∀ q, 0 < n q) (hp : p < P) (hd : zwq n P (p + 1) ∣ k + 1) (hlt : zdt n P k p + 1 < n p) : zdt n P (k + 1) p = zdt n P k p + 1 ∧ ∀ q, q < p → zdt n P (k + 1) q = zdt n P k q := by
  have hpos := zwq_pos' (n := n) (P := P) (q := p + 1) hn
  have hnp := hn p
  obtain ⟨Y, hY⟩ := hd
  have hY0 : 0 < Y := by
    rcases Nat.eq_zero_or_pos Y with h | h
    · subst h; simp at hY
    · exact h
  have e1 : (k + 1) / zwq n P (p + 1) = Y := by rw [hY, Nat.mul_div_cancel_left _ hpos]
  have e2 : k / zwq n P (p + 1) = Y - 1 := by
    have : k = zwq n P (p + 1) * (Y - 1) + (zwq n P (p + 1) - 1) := by
      obtain ⟨y, rfl⟩ : ∃ y, Y = y + 1 := ⟨Y - 1, by omega⟩
      rw [Nat.mul_add, Nat.mul_one] at hY
      simp only [Nat.add_sub_cancel]
      omega
    rw [this, Nat.mul_add_div hpos, Nat.div_eq_of_lt (by omega), Nat.add_zero]
  have hdk : zdt n P k p = (Y - 1) % n p := by unfold zdt; rw [e2]
  rw [hdk] at hlt
  have e3 : Y % n p = (Y - 1) % n p + 1 := by
    have h1 := Nat.div_add_mod (Y - 1) (n p)
    have h2 : Y = n p * ((Y - 1) / n p) + ((Y - 1) % n p + 1) := by omega
    rw [h2, Nat.mul_add_mod, Nat.mod_eq_of_lt hlt, ← h2]
  have e4 : Y / n p = (Y - 1) / n p := by
    have h1 := Nat.div_add_mod (Y - 1) (n p)
    have h2 : Y = n p * ((Y - 1) / n p) + ((Y - 1) % n p + 1) := by omega
    rw [h2, Nat.mul_add_div hnp, Nat.div_eq_of_lt hlt, ← h2, Nat.add_zero]
  refine ⟨?_, fun q hq => zdt_pre (Nat.le_of_lt hp) hq ?_⟩
  · rw [hdk]; unfold zdt; rw [e1, e3]
  · rw [zwq_s hp, Nat.mul_comm, ← Nat.div_div_eq_div_mul, ← Nat.div_div_eq_div_mul, e1, e2, e4]
theorem zod_carry {n : Nat → Nat} {P k p : Nat} (hn : ∀ q, 0 < n q) (hp : p < P) (hd : zwq n P (p + 1) ∣ k + 1) (he : zdt n P k p + 1 = n p) : zwq n P p ∣ k + 1 := by
  have hpos := zwq_pos' (n := n) (P := P) (q := p + 1) hn
  obtain ⟨Y, hY⟩ := hd
  have hY0 : 0 < Y := by
    rcases Nat.eq_zero_or_pos Y with h | h
    · subst h; simp at hY
    · exact h
  have e2 : k / zwq n P (p + 1) = Y - 1 := by
    have : k = zwq n P (p + 1) * (Y - 1) + (zwq n P (p + 1) - 1) := by
      obtain ⟨y, rfl⟩ : ∃ y, Y = y + 1 := ⟨Y - 1, by omega⟩
      rw [Nat.mul_add, Nat.mul_one] at hY
      simp only [Nat.add_sub_cancel]
      omega
    rw [this, Nat.mul_add_div hpos, Nat.div_eq_of_lt (by omega), Nat.add_zero]
  have hdk : zdt n P k p = (Y - 1) % n p := by unfold zdt; rw [e2]
  rw [hdk] at he
  have h1 := Nat.div_add_mod (Y - 1) (n p)
  have h2 : Y = n p * ((Y - 1) / n p + 1) := by rw [Nat.mul_add, Nat.mul_one]; omega
  exact ⟨(Y - 1) / n p + 1, by rw [hY, zwq_s hp, h2, Nat.mul_comm (n p) (zwq n P (p + 1)), Nat.mul_assoc]; congr 2; rw [← h2]⟩
/-- a value at place p more -/
theorem zdt_at {n : Nat → Nat} {P k p v : Nat} (hn : ∀ q, 0 < n q) (hp : p < P) (hd : zwq n P p ∣ k) (hv : v < n p) : zdt n P (k + v * zwq n P (p + 1)) p = v ∧ (∀ q, q < p → zdt n P (k + v * zwq n P (p + 1)) q = zdt n P k q) ∧ zwq n P (p + 1) ∣ k + v * zwq n P (p + 1) := by
  have hpos := zwq_pos' (n := n) (P := P) (q := p + 1) hn
  obtain ⟨Y, hY⟩ := hd
  have hk : k = zwq n P (p + 1) * (n p * Y) := by rw [hY, zwq_s hp, Nat.mul_comm (n p), Nat.mul_assoc]
  have e1 : (k + v * zwq n P (p + 1)) / zwq n P (p + 1) = n p * Y + v := by
    rw [Nat.add_mul_div_right _ _ hpos, hk, Nat.mul_div_cancel_left _ hpos]
  refine ⟨?_, fun q hq => zdt_pre (Nat.le_of_lt hp) hq ?_, ?_⟩
  · unfold zdt
    rw [e1, Nat.mul_add_mod, Nat.mod_eq_of_lt hv]
  · rw [zwq_s hp, Nat.mul_comm (n p) (zwq n P (p + 1)), ← Nat.div_div_eq_div_mul, ← Nat.div_div_eq_div_mul, e1, Nat.mul_add_div (hn p), Nat.div_eq_of_lt hv, hk, Nat.mul_div_cancel_left _ hpos, Nat.mul_div_cancel_left _ (hn p), Nat.add_zero]
  · exact Nat.dvd_add ⟨n p * Y, hk⟩ (Nat.dvd_mul_left _ _)
theorem zfd_add {P : Nat → Bool} : ∀ {a b c : Nat}, zfd P (a + b) c = match zfd P a c with
    | some x => some x
    | none => zfd P b (c + a) := by
  intro a
  induction a with
  | zero => intro b c; simp [zfd]
  | succ a ih =>
    intro b c
    rw [show a + 1 + b = (a + b) + 1 by omega]
    simp only [zfd]
    split
    · rfl
    · rw [ih, show c + 1 + a = c + (a + 1) by omega]
theorem zfd_congr {P P' : Nat → Bool} : ∀ {m c : Nat}, (∀ x, c ≤ x → x < c + m → P x = P' x) → zfd P m c = zfd P' m c := by
  intro m
  induction m with
  | zero => intro c h; rfl
  | succ m ih =>
    intro c h
    simp only [zfd]
    rw [h c (by omega) (by omega), ih (fun x h1 h2 => h x (by omega) (by omega))]
