/-! rows of choices: goesOn, countRows, rowAt; admits of the class -/
def zn6 (pl : Nat) (ch : Nat → Nat) (lf q : Nat) : Nat := if q < pl then max 1 (ch q + lf) else 1
def zv6 (ch : Nat → Nat) (q j : Nat) : Nat := if j < ch q then j else 4
theorem zn6_pos {pl lf : Nat} {ch : Nat → Nat} : ∀ q, 0 < zn6 pl ch lf q := by
  intro q
  unfold zn6
  split <;> omega
theorem zwq_le {n : Nat → Nat} {P b : Nat} (hb : ∀ q, n q ≤ b) : ∀ {m q : Nat}, P - q = m → zwq n P q ≤ b ^ m := by
  intro m
  induction m with
  | zero => intro q h; rw [zwq_e (by omega)]; simp
  | succ m ih =>
    intro q h
    rw [zwq_s (by omega), Nat.pow_succ, Nat.mul_comm]
    exact Nat.mul_le_mul (ih (by omega)) (hb q)
theorem zn6_le {pl lf : Nat} {ch : Nat → Nat} (h : ∀ p, p < pl → ch p ≤ 4) (hl : lf ≤ 1) : ∀ q, zn6 pl ch lf q ≤ 4 + lf := by
  intro q
  unfold zn6
  split
  · have := h q (by assumption); omega
  · omega
theorem qc136 {d : Nat} {M : zMem} {pl lf k : Nat} {ch : Nat → Nat} (hpl : M 55 4 = pl) (h6 : pl ≤ 6) (hch : ∀ p, p < pl → M 60 p = ch p ∧ 2 ≤ ch p ∧ ch p ≤ 4) (hlf : lf ≤ 1) (hk : k < zwq (zn6 pl ch lf) 6 0) (hrow : ∀ q, q < pl → M 70 q = zv6 ch q (zdt (zn6 pl ch lf) 6 k q)) :
    zCi d 136 [.inr (.inr 55), .inl (lf : Int)] M (fun r M' => znx (zn6 pl ch lf) (zv6 ch) 6 pl k r (M' 70) ∧ ∀ k, k ≠ 70 → M' k = M k) := by
  have hpos : ∀ q, 0 < zn6 pl ch lf q := zn6_pos
  refine zk136 (zv136_0 _ ⟨⟨by omega, by omega⟩, ?_⟩)
  rw [hpl]
  have key : ∀ (j : Nat) (M1 : zMem), j ≤ pl → (∀ k, k ≠ 70 → M1 k = M k) → zwq (zn6 pl ch lf) 6 j ∣ k + 1 → (∀ q, q < j → M1 70 q = zv6 ch q (zdt (zn6 pl ch lf) 6 k q)) → (∀ q, j ≤ q → q < pl → M1 70 q = 0) →
      zBg d 136 7 [zR 55, zI (lf : Int), zI ((j : Int) - 1)] [] M1 (fun r M' => ∃ z : Int, r = some (.inl z) ∧ znx (zn6 pl ch lf) (zv6 ch) 6 pl k z (M' 70) ∧ ∀ k, k ≠ 70 → M' k = M k) := by
    intro j
    induction j with
    | zero =>
      intro M1 hj h1 h2 h3 h4
      refine zv136_7 _ _ ⟨fun _ => ⟨fun h => by omega, fun _ => ⟨Or.inl rfl, _, rfl, Or.inr ⟨rfl, znx_end hk h2⟩, h1⟩⟩, fun h => absurd (by omega) h⟩
    | succ j ih =>
      intro M1 hj h1 h2 h3 h4
      rw [show ((j + 1 : Nat) : Int) - 1 = (j : Int) by omega]
      have hdig := zdt_lt (n := zn6 pl ch lf) (P := 6) (k := k) (q := j) hpos
      obtain ⟨c1, c2, c3⟩ := hch j (by omega)
      have hn : zn6 pl ch lf j = ch j + lf := by unfold zn6; rw [if_pos (by omega)]; omega
      have e60 : M1 60 j = ch j := by rw [h1 60 (by decide)]; exact c1
      have hrest : zwq (zn6 pl ch lf) 6 j ∣ k + 1 → zBg d 136 7 [zR 55, zI (lf : Int), zI ((j : Int) + (-1))] [] (zup M1 70 j 0) (fun r M' => ∃ z : Int, r = some (.inl z) ∧ znx (zn6 pl ch lf) (zv6 ch) 6 pl k z (M' 70) ∧ ∀ k, k ≠ 70 → M' k = M k) := by
        intro hd
        have := ih (zup M1 70 j 0) (by omega) (fun k hk => by rw [zb_uk hk]; exact h1 k hk) hd (fun q hq => by rw [zb_ui (by omega)]; exact h3 q (by omega)) (fun q hq hq2 => by
          by_cases hqj : q = j
          · subst hqj; exact zb_us
          · rw [zb_ui hqj]; exact h4 q (by omega) hq2)
        exact this
      have hup : ∀ x : Int, zdt (zn6 pl ch lf) 6 k j + 1 < zn6 pl ch lf j → x = zv6 ch j (zdt (zn6 pl ch lf) 6 k j + 1) → ∃ z : Int, zI 1 = some (.inl z) ∧ znx (zn6 pl ch lf) (zv6 ch) 6 pl k z (zup M1 70 j x 70) ∧ ∀ k, k ≠ 70 → zup M1 70 j x k = M k := by
        intro x hlt hx
        refine ⟨_, rfl, Or.inl ⟨rfl, znx_up hpos (by omega) hk h2 hlt, fun q hq => ?_⟩, fun k hk => by rw [zb_uk hk]; exact h1 k hk⟩
        obtain ⟨u1, u2⟩ := zod_up hpos (by omega) h2 hlt
        rcases Nat.lt_trichotomy q j with hqj | hqj | hqj
        · rw [zb_ui (by omega), h3 q (by omega), u2 q hqj]
        · subst hqj; rw [zb_us, u1, hx]
        · rw [zb_ui (by omega), h4 q (by omega) hq, zod_zero hpos h2 hqj (by omega)]
          have := (hch q hq).2.1
          unfold zv6
          rw [if_pos (by omega)]
          rfl
      refine zv136_7 _ _ ⟨fun h => by omega, fun _ => ?_⟩
      rw [Int.toNat_natCast, h3 j (by omega), e60]
      generalize hdg : zdt (zn6 pl ch lf) 6 k j = dg at *
      refine ⟨by omega, by omega, fun hl0 => ⟨by omega, by omega, ⟨by omega, by omega⟩, fun hne => ⟨fun _ => ?_, fun h => absurd (by omega) h⟩, fun he => ⟨by omega, by omega, ⟨by omega, by omega⟩, hrest (zod_carry hpos (by omega) h2 ?_)⟩⟩, fun hl0 => ⟨fun hne => ⟨fun _ => ?_, fun h => absurd (by omega) h⟩, fun he => ⟨by omega, by omega, ⟨by omega, by omega⟩, hrest (zod_carry hpos (by omega) h2 ?_)⟩⟩⟩
      · have hl : lf = 0 := by omega
        have hv : zv6 ch j dg = dg := by unfold zv6; rw [if_pos (by omega)]
        rw [hv] at hne ⊢
        refine ⟨by omega, by omega, ⟨by omega, by omega⟩, by omega, by omega, fun hlt => ⟨by omega, by omega, ⟨by omega, by omega⟩, by omega, by omega, Or.inr rfl, hup _ (by omega) ?_⟩, fun hge => by omega⟩
        unfold zv6
        rw [if_pos (by omega)]
        rfl
      · have hl : lf = 0 := by omega
        have hv : zv6 ch j dg = dg := by unfold zv6; rw [if_pos (by omega)]
        rw [hv] at he
        rw [hdg]
        omega
      · have hl : lf = 1 := by omega
        have hlt4 : dg < ch j := by
          rcases Nat.lt_or_ge dg (ch j) with h9 | h9
          · exact h9
          · have : zv6 ch j dg = 4 := by unfold zv6; rw [if_neg (by omega)]
            rw [this] at hne
            exact absurd rfl hne
        have hv : zv6 ch j dg = dg := by unfold zv6; rw [if_pos hlt4]
        rw [hv]
        refine ⟨by omega, by omega, ⟨by omega, by omega⟩, by omega, by omega, fun hlt => ⟨by omega, by omega, ⟨by omega, by omega⟩, by omega, by omega, Or.inr rfl, hup _ (by omega) ?_⟩, fun hge => ⟨by omega, by omega, Or.inr rfl, hup _ (by omega) ?_⟩⟩
        · unfold zv6
          rw [if_pos (by omega)]
          rfl
        · unfold zv6
          rw [if_neg (by omega)]
          rfl
      · have hl : lf = 1 := by omega
        rw [hdg]
        have : ¬ dg < ch j := by
          intro h9
          have hv : zv6 ch j dg = dg := by unfold zv6; rw [if_pos h9]
          rw [hv] at he
          omega
        omega
  refine key pl M (Nat.le_refl _) (fun _ _ => rfl) ?_ hrow (fun q h1 h2 => by omega)
  rw [zwq_one rfl (fun q h1 h2 => by unfold zn6; rw [if_neg (by omega)])]
  exact Nat.one_dvd _
theorem qc40 {d : Nat} {M : zMem} {pl : Nat} {ch : Nat → Nat} (hpl : M 13 6 = pl) (h6 : pl ≤ 6) (hch : ∀ p, p < pl → M 15 p = ch p ∧ 2 ≤ ch p ∧ ch p ≤ 4) :
    zCi d 40 [.inr (.inr 13)] M (fun r M' => r = (zwq (zn6 pl ch 0) 6 0 : Int) ∧ M' = M) := by
  refine zk40 (zv40_0 ?_)
  have hT : zwq (zn6 pl ch 0) 6 0 ≤ 4 ^ 6 := zwq_le (zn6_le (fun p hp => (hch p hp).2.2) (by decide)) rfl
  have key : ∀ (m p x : Nat), p + m = pl → x * zwq (zn6 pl ch 0) 6 p = zwq (zn6 pl ch 0) 6 0 → zBg d 40 4 [zR 13, zI (x : Int), zI (p : Int)] [] M (fun r M' => ∃ w : Int, r = some (.inl w) ∧ w = (zwq (zn6 pl ch 0) 6 0 : Int) ∧ M' = M) := by
    intro m
    induction m with
    | zero =>
      intro p x hp hx
      have : p = pl := by omega
      subst this
      rw [zwq_one (p := p) rfl (fun q h1 h2 => by unfold zn6; rw [if_neg (by omega)]), Nat.mul_one] at hx
      exact zv40_4 _ _ ⟨fun _ => ⟨_, rfl, by rw [hx], rfl⟩, fun h => absurd (by omega) h⟩
    | succ m ih =>
      intro p x hp hx
      obtain ⟨c1, c2, c3⟩ := hch p (by omega)
      have hn : zn6 pl ch 0 p = ch p := by unfold zn6; rw [if_pos (by omega)]; omega
      have hs := zwq_s (n := zn6 pl ch 0) (P := 6) (q := p) (by omega)
      rw [hs, hn, ← Nat.mul_assoc] at hx
      have hpos := zwq_pos' (n := zn6 pl ch 0) (P := 6) (q := p + 1) zn6_pos
      have hle : x * ch p ≤ x * ch p * zwq (zn6 pl ch 0) 6 (p + 1) := Nat.le_mul_of_pos_right _ hpos
      refine zv40_4 _ _ ⟨fun h => by omega, fun _ => ?_⟩
      rw [Int.toNat_natCast, c1, show (x : Int) * (ch p : Int) = ((x * ch p : Nat) : Int) by simp]
      have h46 : (4 : Nat) ^ 6 = 4096 := by decide
      exact ⟨by omega, by omega, ⟨by omega, by omega⟩, ⟨by omega, by omega⟩, ih (p + 1) (x * ch p) (by omega) hx⟩
  exact key pl 0 1 (by omega) (by rw [Nat.one_mul])
theorem qc41 {d : Nat} {M : zMem} {pl k : Nat} {ch : Nat → Nat} (hpl : M 13 6 = pl) (h6 : pl ≤ 6) (hch : ∀ p, p < pl → M 15 p = ch p ∧ 2 ≤ ch p ∧ ch p ≤ 4) (hk : k < 2 ^ 31) :
    zCv d 41 [.inr (.inr 13), .inl (k : Int), .inr (.inr 1)] M (fun M' => (∀ q, q < pl → M' 1 q = zdt (zn6 pl ch 0) 6 k q) ∧ ∀ k, k ≠ 1 → M' k = M k) := by
  refine zk41 (zv41_0 _ ⟨⟨by omega, by omega⟩, ?_⟩)
  rw [hpl]
  have key : ∀ (j : Nat) (M1 : zMem), j ≤ pl → (∀ k, k ≠ 1 → M1 k = M k) → (∀ q, j ≤ q → q < pl → M1 1 q = zdt (zn6 pl ch 0) 6 k q) →
      zBg d 41 10 [zR 13, none, zR 1, zI ((k / zwq (zn6 pl ch 0) 6 j : Nat) : Int), zI ((j : Int) - 1), none] [] M1 (fun r M' => r = none ∧ (∀ q, q < pl → M' 1 q = zdt (zn6 pl ch 0) 6 k q) ∧ ∀ k, k ≠ 1 → M' k = M k) := by
    intro j
    induction j with
    | zero =>
      intro M1 hj h1 h2
      exact zv41_10 _ _ ⟨fun _ => ⟨rfl, fun q hq => h2 q (by omega) hq, h1⟩, fun h => absurd (by omega) h⟩
    | succ j ih =>
      intro M1 hj h1 h2
      rw [show ((j + 1 : Nat) : Int) - 1 = (j : Int) by omega]
      obtain ⟨c1, c2, c3⟩ := hch j (by omega)
      have hn : zn6 pl ch 0 j = ch j := by unfold zn6; rw [if_pos (by omega)]; omega
      refine zv41_10 _ _ ⟨fun h => by omega, fun _ => ?_⟩
      rw [Int.toNat_natCast, h1 15 (by decide), c1, if_pos (by omega)]
      have hd : k / zwq (zn6 pl ch 0) 6 (j + 1) < 2 ^ 31 := Nat.lt_of_le_of_lt (Nat.div_le_self _ _) hk
      rw [zb_div hd (by omega) (by omega), zb_rem hd (by omega) (by omega)]
      refine ⟨by omega, by omega, by omega, by omega, by omega, by omega, ⟨by omega, by omega⟩, ?_⟩
      have ih1 := ih (zup M1 1 j ((k / zwq (zn6 pl ch 0) 6 (j + 1) % ch j : Nat) : Int)) (by omega) (fun k hk => by rw [zb_uk hk]; exact h1 k hk) (fun q hq hq2 => by
        by_cases hqj : q = j
        · subst hqj; rw [zb_us]; unfold zdt; rw [hn]
        · rw [zb_ui hqj]; exact h2 q (by omega) hq2)
      rw [zwq_s (n := zn6 pl ch 0) (P := 6) (q := j) (by omega), hn, Nat.mul_comm, ← Nat.div_div_eq_div_mul] at ih1
      exact ih1
  have := key pl M (Nat.le_refl _) (fun _ _ => rfl) (fun q h1 h2 => by omega)
  rw [zwq_one (p := pl) rfl (fun q h1 h2 => by unfold zn6; rw [if_neg (by omega)]), Nat.div_one] at this
  exact this
/-! admits -/
def znew (cp : Nat) (ch : Nat → Nat) (me : Nat → Int) (ro : Nat → Nat → Nat) (hw : Nat) (r : Nat → Nat) (s p : Nat) : Nat := zcan hw (ch p) (me p) (zU ro s p cp ||| 2 ^ r p)
def zharm (pl cp : Nat) (ch : Nat → Nat) (me : Nat → Int) (ro : Nat → Nat → Nat) (hw : Nat) (L : List Nat) (l : Nat) (r : Nat → Nat) (s : Nat) : Prop := if l = 0 then ∃ c, c < cp ∧ zfrm pl (2 ^ pl - 1) ro (znew cp ch me ro hw r s) s c = true else ∃ t, t ∈ L ∧ ztch pl (2 ^ pl - 1) (zcn cp ch me ro hw) (znew cp ch me ro hw r s) s t = true
def zadm (pl cp : Nat) (ch : Nat → Nat) (me : Nat → Int) (ro : Nat → Nat → Nat) (ms hw : Nat) (L : List Nat) (l : Nat) (r : Nat → Nat) : Prop := (¬ ∃ c, c < cp ∧ ∀ p, p < pl → ro c p = r p) ∧ (l = 0 → ¬ ∃ s, s ∈ L ∧ zfts pl (2 ^ pl - 1) (zcn cp ch me ro hw s) r = true) ∧ ¬ zharm pl cp ch me ro hw L l r 0 ∧ ∀ s, s ∈ L → zpop s < ms → ¬ zharm pl cp ch me ro hw L l r s
theorem qc29 {d : Nat} {M : zMem} {pl cp ms hw : Nat} {ch : Nat → Nat} {me : Nat → Int} {ro : Nat → Nat → Nat} {r : Nat → Nat} {L : List Nat} (hF : zWF pl cp ch me ro) (hL : zLs M pl cp ch me ro hw L) (h92 : L.length ≤ 92) (hr : ∀ p, p < pl → r p < ch p) :
    zCi d 29 [.inr (.inr 36), .inl (zbits pl r : Int)] M (fun w M' => (w = 1 ∧ (∃ s, s ∈ L ∧ zfts pl (2 ^ pl - 1) (zcn cp ch me ro hw s) r = true) ∨ w = 0 ∧ ¬ ∃ s, s ∈ L ∧ zfts pl (2 ^ pl - 1) (zcn cp ch me ro hw s) r = true) ∧ M' = M) := by
  have hr4 : ∀ p, p < pl → r p < 4 := fun p hp => by have := hr p hp; have := (hF.2.2.1 p hp).2.1; omega
  have hmk : ∀ s, zmk pl cp ch me ro hw r s = true ↔ zfts pl (2 ^ pl - 1) (zcn cp ch me ro hw s) r = true := by
    intro s
    rw [zmk_iff, zfts_iff]
    constructor
    · intro h p hp _
      rcases h p hp with h1 | h1
      · have := hr4 p hp; omega
      · exact h1
    · intro h p hp
      exact Or.inr (h p hp (z63 hF.1 hp).2)
  refine zk29 (zv29_0 _ ?_)
  have key : ∀ (R D : List Nat), D ++ R = L → (∀ s, s ∈ D → ¬ zfts pl (2 ^ pl - 1) (zcn cp ch me ro hw s) r = true) → zBg d 29 2 [zR 36, zI (zbits pl r : Int), zI (D.length : Int)] [] M (fun q M' => ∃ w : Int, q = some (.inl w) ∧ (w = 1 ∧ (∃ s, s ∈ L ∧ zfts pl (2 ^ pl - 1) (zcn cp ch me ro hw s) r = true) ∨ w = 0 ∧ ¬ ∃ s, s ∈ L ∧ zfts pl (2 ^ pl - 1) (zcn cp ch me ro hw s) r = true) ∧ M' = M) := by
    intro R
    induction R with
    | nil =>
      intro D h1 h2
      rw [List.append_nil] at h1
      subst h1
      refine zv29_2 _ _ ⟨fun _ => ⟨Or.inl rfl, _, rfl, Or.inr ⟨rfl, ?_⟩, rfl⟩, fun h => absurd (by rw [hL.1]; omega) h⟩
      rintro ⟨s, hs, h⟩
      exact h2 s hs h
    | cons s R ih =>
      intro D h1 h2
      have hlen : D.length < L.length := by rw [← h1]; simp
      have hs : L[D.length]? = some s := by rw [← h1]; simp
      obtain ⟨a1, a2, a3⟩ := hL.2 _ _ hs
      have ih1 := ih (D ++ [s])
      simp only [List.append_assoc, List.singleton_append, List.length_append, List.length_cons, List.length_nil] at ih1
      refine zv29_2 _ _ ⟨fun h => by rw [hL.1] at h; omega, fun _ => ⟨by omega, by omega, ?_⟩⟩
      rw [Int.toNat_natCast, a3, Ne, zmk_word hF (fun p hp => by have := hr4 p hp; omega), hmk]
      refine ⟨fun h => ⟨⟨by omega, by omega⟩, ih1 h1 (fun t ht => ?_)⟩, fun h => ⟨Or.inr rfl, _, rfl, Or.inl ⟨rfl, s, by rw [← h1]; simp, ?_⟩, rfl⟩⟩
      · rcases List.mem_append.mp ht with ht | ht
        · exact h2 t ht
        · simp at ht; subst ht; exact h
      · rw [Decidable.not_not] at h; exact h
  exact key L [] rfl (fun s hs => by cases hs)
theorem zgr_all {pl : Nat} (h6 : pl ≤ 6) : 31 * zW 6 (zdgs pl (fun _ => 1)) = zW 6 (zgr (2 ^ pl - 1)) := by
  rw [zW_mul]
  refine zW_congr (fun i hi => ?_)
  unfold zdgs zgr
  rw [Nat.testBit_two_pow_sub_one]
  by_cases h : i < pl
  · simp [h]
  · simp [h]
theorem qc30 {d : Nat} {M : zMem} {pl cp ms hw l s : Nat} {ch : Nat → Nat} {me : Nat → Int} {ro : Nat → Nat → Nat} {r : Nat → Nat} {L : List Nat} (hF : zWF pl cp ch me ro) (hJ : zJn M pl cp ch me ro ms hw) (hL : zLs M pl cp ch me ro hw L) (h92 : L.length ≤ 92) (hs : s < 256) (hr : ∀ p, p < pl → r p < ch p) :
    zCi (d + 2) 30 [.inr (.inr 36), .inl (l : Int), .inl (s : Int), .inl ((zW 6 (zdgs pl (znew cp ch me ro hw r s)) : Nat) : Int)] M (fun w M' => (w = 1 ∧ zharm pl cp ch me ro hw L l r s ∨ w = 0 ∧ ¬ zharm pl cp ch me ro hw L l r s) ∧ M' = M) := by
  have hg : ∀ p, p < pl → znew cp ch me ro hw r s p < 32 := by
    intro p hp
    have h1 := hr p hp
    have h2 := hF.2.2.1 p hp
    exact zcan_lt h2.2.1 (Nat.or_lt_two_pow (n := 4) (zU_ok hF hp (Nat.le_refl _)).2 (zb_p2 (by omega))) (by omega)
  have e8 : 31 * M 42 8 = ((zW 6 (zgr (2 ^ pl - 1)) : Nat) : Int) := by
    rw [hJ.2.2.2.1, ← zgr_all hF.1]
    omega
  have hl30 : zW 6 (zgr (2 ^ pl - 1)) < 2 ^ 30 := zW_lt (n := 6) zgr_lt
  have hS : 2 ^ pl - 1 < 2 ^ pl := by have := Nat.two_pow_pos pl; omega
  refine zk30 (zv30_0 _ _ _ ?_)
  rw [e8]
  unfold zharm
  refine ⟨⟨by omega, by omega⟩, fun h0 => ?_, fun h0 => ?_⟩
  · have hq := qc22 (d := d) (M := M) (S := 2 ^ pl - 1) (s := s) (g := znew cp ch me ro hw r s) hF hJ hL h92 hs hS hg (D := []) (R := L) rfl
    refine ⟨_, hq, ?_⟩
    rintro w M1 ⟨rfl, rfl⟩
    rw [if_neg (by omega)]
    have hz := zix_find (P := ztch pl (2 ^ pl - 1) (zcn cp ch me ro hw) (znew cp ch me ro hw r s) s) (L := L) (i := ([] : List Nat).length)
    cases ho : zix (ztch pl (2 ^ pl - 1) (zcn cp ch me ro hw) (znew cp ch me ro hw r s) s) ([] : List Nat).length L with
    | none =>
      refine ⟨fun _ => ⟨Or.inl rfl, _, rfl, Or.inr ⟨rfl, ?_⟩, rfl⟩, fun h => absurd (by simp [zfi]) h⟩
      rintro ⟨t, ht, hh⟩
      exact List.find?_eq_none.mp (hz.1.mp ho) t ht hh
    | some j =>
      obtain ⟨b1, b2, b3⟩ := hz.2 j ho
      refine ⟨fun h => by simp only [zfi] at h; omega, fun _ => ⟨Or.inr rfl, _, rfl, Or.inl ⟨rfl, ?_⟩, rfl⟩⟩
      simp only [List.length_nil, Nat.zero_add, Nat.sub_zero] at b2 b3
      obtain ⟨t, ht⟩ : ∃ t, L[j]? = some t := ⟨_, List.getElem?_eq_getElem b2⟩
      rw [ht] at b3
      exact ⟨t, List.mem_of_getElem? ht, List.find?_some b3⟩
  · refine ⟨_, qc20 (S := 2 ^ pl - 1) (g := znew cp ch me ro hw r s) hF hJ hs hg, ?_⟩
    rintro w M1 ⟨rfl, rfl⟩
    rw [if_pos (by omega)]
    cases ho : zfd (zfrm pl (2 ^ pl - 1) ro (znew cp ch me ro hw r s) s) cp 0 with
    | none =>
      refine ⟨fun _ => ⟨Or.inl rfl, _, rfl, Or.inr ⟨rfl, ?_⟩, rfl⟩, fun h => absurd (by simp [zfi]) h⟩
      rintro ⟨c, hc, hh⟩
      rw [zfd_none.mp ho c (by omega) (by omega)] at hh
      cases hh
    | some c =>
      have hx := zfd_some ho
      exact ⟨fun h => by simp only [zfi] at h; omega, fun _ => ⟨Or.inr rfl, _, rfl, Or.inl ⟨rfl, c, by omega, hx.1⟩, rfl⟩⟩
theorem zbits_eq {pl : Nat} {r r' : Nat → Nat} (h6 : pl ≤ 6) (hr : ∀ p, p < pl → r p < 4) (hr' : ∀ p, p < pl → r' p < 4) : zbits pl r = zbits pl r' ↔ ∀ p, p < pl → r p = r' p := by
  rw [zbits_ro hr, zbits_ro hr']
  constructor
  · intro h p hp
    have h1 := zW_inj (zdgs_lt (by decide) (fun i hi => zb_p2 (b := 5) (by have := hr i hi; omega))) (zdgs_lt (by decide) (fun i hi => zb_p2 (b := 5) (by have := hr' i hi; omega))) h p (by omega)
    simp only [zdgs, if_pos hp] at h1
    have h9 : ∀ x, x < 4 → ∀ y, y < 4 → 2 ^ x = 2 ^ y → x = y := by decide
    exact h9 _ (hr p hp) _ (hr' p hp) h1
  · intro h
    refine zW_congr (fun i _ => ?_)
    unfold zdgs
    split
    · show 2 ^ r i = 2 ^ r' i
      rw [h i (by assumption)]
    · rfl
theorem qc28 {d : Nat} {M : zMem} {pl cp ms hw l : Nat} {ch : Nat → Nat} {me : Nat → Int} {ro : Nat → Nat → Nat} {r : Nat → Nat} {L : List Nat} (hF : zWF pl cp ch me ro) (hJ : zJn M pl cp ch me ro ms hw) (hL : zLs M pl cp ch me ro hw L) (h92 : L.length ≤ 92) (h256 : ∀ s, s ∈ L → s < 256) (hr : ∀ p, p < pl → r p < ch p) :
    zCi (d + 3) 28 [.inr (.inr 36), .inl (l : Int), .inl (zbits pl r : Int)] M (fun w M' => (w = 1 ∧ zadm pl cp ch me ro ms hw L l r ∨ w = 0 ∧ ¬ zadm pl cp ch me ro ms hw L l r) ∧ M' = M) := by
  have hr4 : ∀ p, p < pl → r p < 4 := fun p hp => by have := hr p hp; have := (hF.2.2.1 p hp).2.1; omega
  have hcp := hF.2.1
  have no : ∀ {M1 : zMem}, M1 = M → ¬ zadm pl cp ch me ro ms hw L l r → ∃ w : Int, zI 0 = some (.inl w) ∧ (w = 1 ∧ zadm pl cp ch me ro ms hw L l r ∨ w = 0 ∧ ¬ zadm pl cp ch me ro ms hw L l r) ∧ M1 = M := fun e hn => ⟨_, rfl, Or.inr ⟨rfl, hn⟩, e⟩
  have last : (¬ ∃ c, c < cp ∧ ∀ p, p < pl → ro c p = r p) → (l = 0 → ¬ ∃ s, s ∈ L ∧ zfts pl (2 ^ pl - 1) (zcn cp ch me ro hw s) r = true) → ¬ zharm pl cp ch me ro hw L l r 0 → zBg (d + 3) 28 69 [zR 36, zI (l : Int), zI (zbits pl r : Int), zI 0, none] [] M (fun q M' => ∃ w : Int, q = some (.inl w) ∧ (w = 1 ∧ zadm pl cp ch me ro ms hw L l r ∨ w = 0 ∧ ¬ zadm pl cp ch me ro ms hw L l r) ∧ M' = M) := by
    intro A1 A2 A3
    have key : ∀ (R D : List Nat), D ++ R = L → (∀ s, s ∈ D → zpop s < ms → ¬ zharm pl cp ch me ro hw L l r s) → zBg (d + 3) 28 69 [zR 36, zI (l : Int), zI (zbits pl r : Int), zI (D.length : Int), none] [] M (fun q M' => ∃ w : Int, q = some (.inl w) ∧ (w = 1 ∧ zadm pl cp ch me ro ms hw L l r ∨ w = 0 ∧ ¬ zadm pl cp ch me ro ms hw L l r) ∧ M' = M) := by
      intro R
      induction R with
      | nil =>
        intro D h1 h2
        rw [List.append_nil] at h1
        subst h1
        exact zv28_69 _ _ _ ⟨fun _ => ⟨Or.inr rfl, _, rfl, Or.inl ⟨rfl, A1, A2, A3, h2⟩, rfl⟩, fun h => absurd (by rw [hL.1]; omega) h⟩
      | cons s R ih =>
        intro D h1 h2
        have hlen : D.length < L.length := by rw [← h1]; simp
        have hs : L[D.length]? = some s := by rw [← h1]; simp
        have hsm : s ∈ L := by rw [← h1]; simp
        have hs2 := h256 s hsm
        obtain ⟨a1, a2, a3⟩ := hL.2 _ _ hs
        have ih1 := ih (D ++ [s])
        simp only [List.append_assoc, List.singleton_append, List.length_append, List.length_cons, List.length_nil] at ih1
        have hnext : (zpop s < ms → ¬ zharm pl cp ch me ro hw L l r s) → zBg (d + 3) 28 69 [zR 36, zI (l : Int), zI (zbits pl r : Int), zI ((D.length : Int) + 1), none] [] M (fun q M' => ∃ w : Int, q = some (.inl w) ∧ (w = 1 ∧ zadm pl cp ch me ro ms hw L l r ∨ w = 0 ∧ ¬ zadm pl cp ch me ro ms hw L l r) ∧ M' = M) := by
          intro hn
          refine ih1 h1 (fun t ht hp => ?_)
          rcases List.mem_append.mp ht with ht | ht
          · exact h2 t ht hp
          · simp at ht; subst ht; exact hn hp
        refine zv28_69 _ _ _ ⟨fun h => by rw [hL.1] at h; omega, fun _ => ⟨by omega, by omega, ?_⟩⟩
        rw [Int.toNat_natCast, a1]
        refine ⟨_, qc180 hs2, ?_⟩
        rintro w1 M1 ⟨rfl, rfl⟩
        rw [hJ.2.1, a1, a2]
        refine ⟨fun hge => ⟨fun _ => ⟨⟨by omega, by omega⟩, hnext (fun h => by omega)⟩, fun h => absurd rfl h⟩, fun hge => ⟨fun h => absurd h (by decide), fun _ => ⟨by omega, by omega, by omega, by omega, ?_⟩⟩⟩
        have hu : zior (zuw pl cp ro s : Int) (zbits pl r : Int) = ((zW 6 (zdgs pl (fun p => zU ro s p cp ||| 2 ^ r p)) : Nat) : Int) := by
          have hl1 : zuw pl cp ro s < 2 ^ 30 := zdgs_30 (fun i hi => by have := (zU_ok hF (s := s) hi (n := cp) (Nat.le_refl _)).2; omega)
          have hl2 : zbits pl r < 2 ^ 30 := zbits_lt (fun p hp => by have := hr4 p hp; omega)
          rw [zb_or (by omega) (by omega), zbits_ro hr4]
          unfold zuw
          rw [zW_or (zdgs_lt (by decide) (fun i hi => by have := (zU_ok hF (s := s) hi (n := cp) (Nat.le_refl _)).2; omega)) (zdgs_lt (by decide) (fun i hi => zb_p2 (b := 5) (by have := hr4 i hi; omega)))]
          congr 1
          refine zW_congr (fun i _ => ?_)
          unfold zdgs
          split <;> rfl
        rw [hu]
        refine ⟨_, qc13 hF hJ (fun p hp => ⟨?_, ?_⟩), ?_⟩
        · have h9 : (zU ro s p cp ||| 2 ^ r p).testBit (r p) = true := by rw [Nat.testBit_or, Nat.testBit_two_pow_self]; simp
          rcases Nat.eq_zero_or_pos (zU ro s p cp ||| 2 ^ r p) with h0 | h0
          · rw [h0, Nat.zero_testBit] at h9; cases h9
          · exact h0
        · exact Nat.or_lt_two_pow (zU_ok hF hp (Nat.le_refl _)).1 (zb_p2 (hr p hp))
        · rintro w2 M2 ⟨rfl, rfl⟩
          refine ⟨_, qc30 (l := l) (s := s) (r := r) hF hJ hL h92 hs2 hr, ?_⟩
          rintro w3 M3 ⟨hw3, rfl⟩
          refine ⟨fun h0 => ⟨⟨by omega, by omega⟩, hnext (fun _ => ?_)⟩, fun h0 => ⟨Or.inl rfl, no rfl (fun hadm => ?_)⟩⟩
          · rcases hw3 with ⟨h9, _⟩ | ⟨_, h9⟩
            · omega
            · exact h9
          · rcases hw3 with ⟨_, h9⟩ | ⟨h9, _⟩
            · exact hadm.2.2.2 s hsm (by omega) h9
            · exact absurd h9 h0
    exact key L [] rfl (fun s hs => by cases hs)
  have mid : (¬ ∃ c, c < cp ∧ ∀ p, p < pl → ro c p = r p) → (l = 0 → ¬ ∃ s, s ∈ L ∧ zfts pl (2 ^ pl - 1) (zcn cp ch me ro hw s) r = true) → ∃ Q1, zCi (d + 2) 13 [.inr (.inr 42), .inl (zbits pl r : Int)] M Q1 ∧ ∀ v1 M1, Q1 v1 M1 →
      ∃ Q2, zCi (d + 2) 30 [.inr (.inr 36), .inl (l : Int), .inl 0, .inl v1] M1 Q2 ∧ ∀ v2 M2, Q2 v2 M2 →
      ((v2 : Int) = 0 → zBg (d + 3) 28 69 [zR 36, zI (l : Int), zI (zbits pl r : Int), zI 0, none] [] M2 (fun q M' => ∃ w : Int, q = some (.inl w) ∧ (w = 1 ∧ zadm pl cp ch me ro ms hw L l r ∨ w = 0 ∧ ¬ zadm pl cp ch me ro ms hw L l r) ∧ M' = M)) ∧
      (¬ (v2 : Int) = 0 → ((0 : Int) = 0 ∨ (0 : Int) = 1) ∧ ∃ w : Int, zI 0 = some (.inl w) ∧ (w = 1 ∧ zadm pl cp ch me ro ms hw L l r ∨ w = 0 ∧ ¬ zadm pl cp ch me ro ms hw L l r) ∧ M2 = M) := by
    intro A1 A2
    rw [zbits_ro hr4]
    have z0 : ∀ p, zU ro 0 p cp = 0 := by
      intro p
      apply Nat.eq_of_testBit_eq
      intro i
      rw [Nat.zero_testBit]
      cases hb : (zU ro 0 p cp).testBit i with
      | false => rfl
      | true =>
        obtain ⟨c, _, hc2, _⟩ := zU_bit.mp hb
        rw [Nat.zero_testBit] at hc2
        cases hc2
    refine ⟨_, qc13 hF hJ (fun p hp => ⟨Nat.two_pow_pos _, zb_p2 (hr p hp)⟩), ?_⟩
    rintro w2 M2 ⟨rfl, rfl⟩
    have e : (fun p => zcan hw (ch p) (me p) (2 ^ r p)) = znew cp ch me ro hw r 0 := by
      funext p
      unfold znew
      rw [z0, Nat.zero_or]
    rw [e]
    have hq := qc30 (d := d) (M := M2) (l := l) (s := 0) (r := r) hF hJ hL h92 (by decide) hr
    refine ⟨_, hq, ?_⟩
    rintro w3 M3 ⟨hw3, rfl⟩
    rw [← zbits_ro hr4]
    refine ⟨fun h0 => last A1 A2 ?_, fun h0 => ⟨Or.inl rfl, no rfl (fun hadm => ?_)⟩⟩
    · rcases hw3 with ⟨h9, _⟩ | ⟨_, h9⟩
      · omega
      · exact h9
    · rcases hw3 with ⟨_, h9⟩ | ⟨h9, _⟩
      · exact hadm.2.2.1 h9
      · exact absurd h9 h0
  refine zk28 (zv28_0 _ _ ?_)
  have key1 : ∀ (m c : Nat), c + m = cp → (∀ e, e < c → ¬ ∀ p, p < pl → ro e p = r p) → zBg (d + 3) 28 2 [zR 36, zI (l : Int), zI (zbits pl r : Int), zI (c : Int), none] [] M (fun q M' => ∃ w : Int, q = some (.inl w) ∧ (w = 1 ∧ zadm pl cp ch me ro ms hw L l r ∨ w = 0 ∧ ¬ zadm pl cp ch me ro ms hw L l r) ∧ M' = M) := by
    intro m
    induction m with
    | zero =>
      intro c hc h
      have : c = cp := by omega
      subst this
      have A1 : ¬ ∃ e, e < c ∧ ∀ p, p < pl → ro e p = r p := fun ⟨e, he, hh⟩ => h e he hh
      refine zv28_2 _ _ _ ⟨fun _ => ⟨fun hl => mid A1 (fun e => by omega), fun hl => ⟨_, qc29 (ms := ms) hF hL h92 hr, ?_⟩⟩, fun h => absurd (by rw [hJ.1]; omega) h⟩
      rintro w1 M1 ⟨hw1, rfl⟩
      refine ⟨fun h0 => mid A1 (fun _ => ?_), fun h0 => ⟨Or.inl rfl, no rfl (fun hadm => ?_)⟩⟩
      · rcases hw1 with ⟨h9, _⟩ | ⟨_, h9⟩
        · omega
        · exact h9
      · rcases hw1 with ⟨_, h9⟩ | ⟨h9, _⟩
        · exact hadm.2.1 (by omega) h9
        · exact absurd h9 h0
    | succ m ih =>
      intro c hc h
      have hrc : ∀ p, p < pl → ro c p < 4 := fun p hp => by have := hF.2.2.2 c (by omega) p hp; have := (hF.2.2.1 p hp).2.1; omega
      refine zv28_2 _ _ _ ⟨fun h => by rw [hJ.1] at h; omega, fun _ => ⟨by omega, by omega, ?_⟩⟩
      rw [Int.toNat_natCast, hJ.2.2.2.2.2.2 c (by omega)]
      have hiff : ((zbits pl (ro c) : Int) = (zbits pl r : Int)) ↔ ∀ p, p < pl → ro c p = r p := by
        rw [Int.ofNat_inj, zbits_eq hF.1 hrc hr4]
      rw [Ne, hiff]
      refine ⟨fun hn => ⟨⟨by omega, by omega⟩, ih (c + 1) (by omega) (fun e he => ?_)⟩, fun hn => ⟨Or.inl rfl, no rfl (fun hadm => hadm.1 ⟨c, by omega, Decidable.not_not.mp hn⟩)⟩⟩
      by_cases hec : e = c
      · subst hec; exact hn
      · exact h e (by omega)
  exact key1 cp 0 (by omega) (fun e he => by omega)
