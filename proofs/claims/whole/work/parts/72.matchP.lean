/-! how a text reads as a row: the least rank, place by place -/
def zstd (t w : Nat → Nat) (nt a s at0 : Nat) : Prop := at0 + s ≤ nt ∧ ∀ i, i < s → t (a + i) = w (at0 + i)
theorem zsg_app {t w : Nat → Nat} {nt : Nat} : ∀ (s a at0 : Nat) (R : List Nat), at0 ≤ nt → (zsg t s a ++ R = zsg w (nt - at0) at0 ↔ zstd t w nt a s at0 ∧ R = zsg w (nt - (at0 + s)) (at0 + s)) := by
  intro s
  induction s with
  | zero =>
    intro a at0 R h
    simp only [zsg, List.nil_append, Nat.add_zero]
    exact ⟨fun e => ⟨⟨by omega, fun i hi => by omega⟩, e⟩, fun e => e.2⟩
  | succ s ih =>
    intro a at0 R h
    rcases Nat.lt_or_ge at0 nt with g | g
    · obtain ⟨x, hx⟩ : ∃ x, nt - at0 = x + 1 := ⟨nt - at0 - 1, by omega⟩
      rw [hx]
      simp only [zsg, List.cons_append, List.cons.injEq]
      have e := ih (a + 1) (at0 + 1) R (by omega)
      rw [show nt - (at0 + 1) = x by omega] at e
      rw [e]
      constructor
      · rintro ⟨h1, ⟨h2, h3⟩, h4⟩
        refine ⟨⟨by omega, fun i hi => ?_⟩, ?_⟩
        · cases i with
          | zero => exact h1
          | succ i =>
            have := h3 i (by omega)
            rw [show a + (i + 1) = a + 1 + i by omega, show at0 + (i + 1) = at0 + 1 + i by omega]
            exact this
        · rw [show at0 + (s + 1) = at0 + 1 + s by omega]
          exact h4
      · rintro ⟨⟨h2, h3⟩, h4⟩
        refine ⟨h3 0 (by omega), ⟨by omega, fun i hi => ?_⟩, ?_⟩
        · have := h3 (i + 1) (by omega)
          rw [show a + 1 + i = a + (i + 1) by omega, show at0 + 1 + i = at0 + (i + 1) by omega]
          exact this
        · rw [show at0 + 1 + s = at0 + (s + 1) by omega]
          exact h4
    · have : nt - at0 = 0 := by omega
      rw [this]
      simp only [zsg, List.cons_append]
      constructor
      · intro e; cases e
      · rintro ⟨⟨h2, _⟩, _⟩; omega
def zwdt (st en : Nat → Nat) (p v : Nat) : Nat := if v = 4 then 0 else en (4 * p + v) - st (4 * p + v)
theorem zcg_app {t w st en : Nat → Nat} {nt p v at0 : Nat} {R : List Nat} (h : at0 ≤ nt) : zcg t st en p v ++ R = zsg w (nt - at0) at0 ↔ zstd t w nt (st (4 * p + v)) (zwdt st en p v) at0 ∧ R = zsg w (nt - (at0 + zwdt st en p v)) (at0 + zwdt st en p v) := by
  unfold zcg zwdt
  by_cases h4 : v = 4
  · rw [if_pos h4, if_pos h4]
    exact zsg_app 0 _ at0 R h
  · rw [if_neg h4, if_neg h4]
    exact zsg_app _ _ at0 R h
theorem zrd_congr {t : Nat → Nat} {n pl : Nat} {ch st en v v' : Nat → Nat} : ∀ (m p : Nat), p + m = pl → (∀ q, p ≤ q → q < pl → v q = v' q) → zrd t n pl ch st en v m p = zrd t n pl ch st en v' m p := by
  intro m
  induction m with
  | zero => intro p _ _; rfl
  | succ m ih =>
    intro p hp h
    simp only [zrd]
    rw [h p (Nat.le_refl _) (by omega), ih (p + 1) (by omega) (fun q h1 h2 => h q (by omega) h2)]
theorem zvl_dm {pl p j : Nat} {ch : Nat → Nat} (h6 : pl ≤ 6) (hp : p < pl) (hj : j < zwq (zn6 pl ch 1) 6 p) : j / zwq (zn6 pl ch 1) 6 (p + 1) < ch p + 1 ∧ zvl pl ch j p = zv6 ch p (j / zwq (zn6 pl ch 1) 6 (p + 1)) ∧ j % zwq (zn6 pl ch 1) 6 (p + 1) < zwq (zn6 pl ch 1) 6 (p + 1) ∧ ∀ q, p + 1 ≤ q → q < pl → zvl pl ch j q = zvl pl ch (j % zwq (zn6 pl ch 1) 6 (p + 1)) q := by
  have hn : zn6 pl ch 1 p = ch p + 1 := by unfold zn6; rw [if_pos hp]; omega
  have hZ : 0 < zwq (zn6 pl ch 1) 6 (p + 1) := zwq_pos' zn6_pos
  have hd : j / zwq (zn6 pl ch 1) 6 (p + 1) < ch p + 1 := by
    rw [zwq_s (by omega), hn] at hj
    exact (Nat.div_lt_iff_lt_mul hZ).mpr hj
  refine ⟨hd, ?_, Nat.mod_lt _ hZ, fun q h1 h2 => ?_⟩
  · unfold zvl zdt
    rw [hn, Nat.mod_eq_of_lt hd]
  · unfold zvl zdt
    congr 1
    obtain ⟨X, hX⟩ := zwq_mul (n := zn6 pl ch 1) (P := 6) (q := p + 1) (p := q) rfl h1 (by omega)
    have hq := zwq_s (n := zn6 pl ch 1) (P := 6) (q := q) (by omega)
    have hY : 0 < zwq (zn6 pl ch 1) 6 (q + 1) := zwq_pos' zn6_pos
    have e : j = j % zwq (zn6 pl ch 1) 6 (p + 1) + zwq (zn6 pl ch 1) 6 (q + 1) * (zn6 pl ch 1 q * (X * (j / zwq (zn6 pl ch 1) 6 (p + 1)))) := by
      have e1 := Nat.mod_add_div j (zwq (zn6 pl ch 1) 6 (p + 1))
      have e2 : zwq (zn6 pl ch 1) 6 (q + 1) * (zn6 pl ch 1 q * (X * (j / zwq (zn6 pl ch 1) 6 (p + 1)))) = zwq (zn6 pl ch 1) 6 (p + 1) * (j / zwq (zn6 pl ch 1) 6 (p + 1)) := by
        generalize j / zwq (zn6 pl ch 1) 6 (p + 1) = y
        rw [hX, hq]
        ac_rfl
      rw [e2]
      exact e1.symm
    generalize j % zwq (zn6 pl ch 1) 6 (p + 1) = j1 at e
    generalize j / zwq (zn6 pl ch 1) 6 (p + 1) = y at e
    rw [e, Nat.add_mul_div_left _ _ hY, Nat.add_mul_mod_self_left]
/-- the text from at0 on reads as the letter from place p on by the rank j -/
def zGm (t w : Nat → Nat) (n pl nt : Nat) (ch st en : Nat → Nat) (m p at0 j : Nat) : Prop := zrd t n pl ch st en (zvl pl ch j) m p = zsg w (nt - at0) at0
theorem zGm_s {t w : Nat → Nat} {n pl nt : Nat} {ch st en : Nat → Nat} {m p at0 j : Nat} (h6 : pl ≤ 6) (hp : p + (m + 1) = pl) (ha : at0 ≤ nt) (hj : j < zwq (zn6 pl ch 1) 6 p) : zGm t w n pl nt ch st en (m + 1) p at0 j ↔ zstd t w nt (zqs ch en p) (zqe n pl st p - zqs ch en p) at0 ∧ zstd t w nt (st (4 * p + zvl pl ch j p)) (zwdt st en p (zvl pl ch j p)) (at0 + (zqe n pl st p - zqs ch en p)) ∧ zGm t w n pl nt ch st en m (p + 1) (at0 + (zqe n pl st p - zqs ch en p) + zwdt st en p (zvl pl ch j p)) (j % zwq (zn6 pl ch 1) 6 (p + 1)) := by
  have hd := zvl_dm (j := j) (ch := ch) h6 (p := p) (by omega) hj
  unfold zGm
  rw [show zrd t n pl ch st en (zvl pl ch j) (m + 1) p = zsg t (zqe n pl st p - zqs ch en p) (zqs ch en p) ++ (zcg t st en p (zvl pl ch j p) ++ zrd t n pl ch st en (zvl pl ch j) m (p + 1)) from rfl, zsg_app _ _ _ _ ha, zrd_congr (v' := zvl pl ch (j % zwq (zn6 pl ch 1) 6 (p + 1))) m (p + 1) (by omega) hd.2.2.2]
  constructor
  · rintro ⟨h1, h2⟩
    have := (zcg_app h1.1).mp h2
    exact ⟨h1, this.1, this.2⟩
  · rintro ⟨h1, h2, h3⟩
    exact ⟨h1, (zcg_app h1.1).mpr ⟨h2, h3⟩⟩
/-- what stands in the table: the value by which the least rank begins, or -1 -/
def zpv (t w : Nat → Nat) (n pl nt : Nat) (ch st en : Nat → Nat) (m p at0 : Nat) (r : Int) : Prop := (r = -1 ∧ ∀ j, j < zwq (zn6 pl ch 1) 6 p → ¬ zGm t w n pl nt ch st en m p at0 j) ∨ ∃ j, j < zwq (zn6 pl ch 1) 6 p ∧ zGm t w n pl nt ch st en m p at0 j ∧ (∀ j', j' < j → ¬ zGm t w n pl nt ch st en m p at0 j') ∧ r = (if p < pl then (zvl pl ch j p : Int) else 0)
