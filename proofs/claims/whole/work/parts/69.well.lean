/-! what a laid letter is like -/
def zqs (ch en : Nat → Nat) (p : Nat) : Nat := if p = 0 then 0 else en (4 * (p - 1) + (ch (p - 1) - 1)) + 1
def zqe (n pl : Nat) (st : Nat → Nat) (p : Nat) : Nat := if p < pl then st (4 * p) - 1 else n
def zOp (t : Nat → Nat) (n : Nat) (ch st en : Nat → Nat) (p : Nat) : Prop := 1 ≤ st (4 * p) ∧ st (4 * p) ≤ n ∧ t (st (4 * p) - 1) = 91 ∧ zqs ch en p ≤ st (4 * p) - 1 ∧ ∀ j, zqs ch en p ≤ j → j < st (4 * p) - 1 → t j ≠ 91
def zCho (n : Nat) (st en : Nat → Nat) (j : Nat) : Prop := st j ≤ en j ∧ en j ≤ st j + 8 ∧ en j < n
def zPl (t : Nat → Nat) (n : Nat) (ch st en : Nat → Nat) (p : Nat) : Prop := 2 ≤ ch p ∧ ch p ≤ 4 ∧ zOp t n ch st en p ∧ (∀ c, c < ch p → zCho n st en (4 * p + c)) ∧ st (4 * p) ≤ en (4 * p + (ch p - 1))
def zWL (t : Nat → Nat) (n pl : Nat) (ch st en : Nat → Nat) : Prop := n ≠ 0 ∧ n ≤ 120 ∧ pl ≤ 6 ∧ (∀ p, p < pl → zPl t n ch st en p) ∧ zqs ch en pl ≤ n ∧ ∀ j, zqs ch en pl ≤ j → j < n → t j ≠ 91
theorem zlay_wl {t : Nat → Nat} {n pl : Nat} {ch st en : Nat → Nat} (hn : n ≤ 120) : ∀ (m i k b w : Nat), i + m = n → zLay t n pl ch st en m i k b w → k ≤ 6 → (∀ p, (b = 0 → p < k) → (b ≠ 0 → p + 1 < k) → zPl t n ch st en p) →
    (b = 0 → zqs ch en k ≤ i ∧ ∀ j, zqs ch en k ≤ j → j < i → t j ≠ 91) →
    (b ≠ 0 → 1 ≤ k ∧ b ≤ 4 ∧ w ≤ 8 ∧ zOp t n ch st en (k - 1) ∧ (∀ c, c + 1 < b → zCho n st en (4 * (k - 1) + c)) ∧ st (4 * (k - 1) + (b - 1)) + w = i ∧ st (4 * (k - 1)) ≤ st (4 * (k - 1) + (b - 1))) →
    zWL t n pl ch st en := by
  intro m
  induction m with
  | zero =>
    intro i k b w hi hl h6 hP h0 h1
    obtain ⟨rfl, rfl, hn0⟩ := hl
    have : i = n := by omega
    subst this
    exact ⟨hn0, hn, h6, fun p hp => hP p (fun _ => hp) (fun g => absurd rfl g), (h0 rfl).1, (h0 rfl).2⟩
  | succ m ih =>
    intro i k b w hi hl h6 hP h0 h1
    obtain ⟨l1, l2, l3, l4, l5⟩ := hl
    by_cases c1 : t i = 91
    · obtain ⟨rfl, k6, g1, g2⟩ := l1 c1
      have h0 := h0 rfl
      refine ih (i + 1) (k + 1) 1 0 (by omega) g2 (by omega) (fun p _ hp => hP p (fun _ => by have := hp (by omega); omega) (fun g => absurd rfl g)) (fun g => by omega) (fun _ => ⟨by omega, by omega, by omega, ?_, fun c hc => by omega, ?_, Nat.le_refl _⟩)
      · rw [Nat.add_sub_cancel]
        unfold zOp
        rw [g1, Nat.add_sub_cancel]
        exact ⟨by omega, by omega, c1, h0.1, h0.2⟩
      · rw [Nat.add_sub_cancel]
        exact g1
    · by_cases c2 : t i = 47
      · obtain ⟨b1, b4, g1, g2, g3⟩ := l2 c2
        obtain ⟨k1, _, w8, hO, hC, hs, hm⟩ := h1 (by omega)
        refine ih (i + 1) k (b + 1) 0 (by omega) g3 h6 (fun p _ hp => hP p (fun _ => by omega) (fun _ => hp (by omega))) (fun g => by omega) (fun _ => ⟨k1, by omega, by omega, hO, fun c hc => ?_, ?_, ?_⟩)
        · by_cases hcb : c = b - 1
          · subst hcb
            refine ⟨?_, ?_, ?_⟩ <;> rw [g1] <;> omega
          · exact hC c (by omega)
        · rw [Nat.add_sub_cancel, g2]
        · rw [Nat.add_sub_cancel, g2]
          omega
      · by_cases c3 : t i = 93
        · obtain ⟨b2, g1, g2, g3⟩ := l3 c3
          obtain ⟨k1, b4, w8, hO, hC, hs, hm⟩ := h1 (by omega)
          have hzp : zqs ch en k = i + 1 := by
            unfold zqs
            rw [if_neg (by omega), g2, g1]
          refine ih (i + 1) k 0 0 (by omega) g3 h6 (fun p hp _ => ?_) (fun _ => ⟨by omega, fun j j1 j2 => by omega⟩) (fun g => absurd rfl g)
          by_cases hpk : p = k - 1
          · subst hpk
            refine ⟨by omega, by omega, hO, fun c hc => ?_, ?_⟩
            · by_cases hcb : c = b - 1
              · subst hcb
                refine ⟨?_, ?_, ?_⟩ <;> rw [g1] <;> omega
              · exact hC c (by omega)
            · rw [g2, g1]
              omega
          · exact hP p (fun _ => by omega) (fun _ => by have := hp rfl; omega)
        · by_cases hb : b = 0
          · have hl := l4 c1 c2 c3 hb
            subst hb
            have h0 := h0 rfl
            refine ih (i + 1) k 0 0 (by omega) hl h6 hP (fun _ => ⟨by omega, fun j j1 j2 => ?_⟩) (fun g => absurd rfl g)
            by_cases hji : j = i
            · subst hji; exact c1
            · exact h0.2 j j1 (by omega)
          · obtain ⟨w8, hl⟩ := l5 c1 c2 c3 hb
            obtain ⟨k1, b4, _, hO, hC, hs, hm⟩ := h1 hb
            exact ih (i + 1) k b (w + 1) (by omega) hl h6 hP (fun g => absurd g hb) (fun _ => ⟨k1, b4, by omega, hO, hC, by omega, hm⟩)
theorem zlay_WL {t : Nat → Nat} {n pl : Nat} {ch st en : Nat → Nat} (hn : n ≤ 120) (hL : zLay t n pl ch st en n 0 0 0 0) : zWL t n pl ch st en :=
  zlay_wl hn n 0 0 0 0 (by omega) hL (by omega) (fun p hp _ => absurd (hp rfl) (by omega)) (fun _ => ⟨by unfold zqs; rw [if_pos rfl]; omega, fun j j1 j2 => by omega⟩) (fun g => absurd rfl g)
/-- bytes of the text from a on, so many -/
def zsg (t : Nat → Nat) : Nat → Nat → List Nat
  | 0, _ => []
  | m + 1, a => t a :: zsg t m (a + 1)
theorem zsg_len {t : Nat → Nat} : ∀ (m a : Nat), (zsg t m a).length = m := by
  intro m
  induction m with
  | zero => intro a; rfl
  | succ m ih => intro a; simp [zsg, ih]
theorem zsg_get {t : Nat → Nat} : ∀ (m a x : Nat), x < m → (zsg t m a).getD x 0 = t (a + x) := by
  intro m
  induction m with
  | zero => intro a x h; omega
  | succ m ih =>
    intro a x h
    cases x with
    | zero => simp [zsg]
    | succ x =>
      have := ih (a + 1) x (by omega)
      simp only [zsg, List.getD_cons_succ]
      rw [this]
      congr 1
      omega
/-- a choice's bytes; 4 is none -/
def zcg (t st en : Nat → Nat) (p v : Nat) : List Nat := if v = 4 then [] else zsg t (en (4 * p + v) - st (4 * p + v)) (st (4 * p + v))
/-- the letter from place p on, m places left, read with the row v -/
def zrd (t : Nat → Nat) (n pl : Nat) (ch st en v : Nat → Nat) : Nat → Nat → List Nat
  | 0, p => zsg t (zqe n pl st p - zqs ch en p) (zqs ch en p)
  | m + 1, p => zsg t (zqe n pl st p - zqs ch en p) (zqs ch en p) ++ (zcg t st en p (v p) ++ zrd t n pl ch st en v m (p + 1))
theorem zgetD_app {A B : List Nat} {x : Nat} : (A ++ B).getD x 0 = if x < A.length then A.getD x 0 else B.getD (x - A.length) 0 := by
  simp only [List.getD_eq_getElem?_getD, List.getElem?_append]
  split <;> rfl
