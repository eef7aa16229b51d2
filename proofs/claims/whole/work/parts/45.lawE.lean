/-! NAMED: the reference's begins, goesOnBy, areNamed -/
theorem qc137 {d : Nat} {M : zMem} : zCv d 137 [.inr (.inr 55)] M (fun M' => (∀ k, k ≠ 70 → M' k = M k) ∧ ∀ q, q < 6 → M' 70 q = 0) := by
  refine zk137 (zv137_0 ?_)
  have key : ∀ (m p : Nat) (M1 : zMem), p + m = 6 → (∀ k, k ≠ 70 → M1 k = M k) → (∀ q, q < p → M1 70 q = 0) → zBg d 137 2 [zR 55, zI (p : Int)] [] M1 (fun r M' => r = none ∧ (∀ k, k ≠ 70 → M' k = M k) ∧ ∀ q, q < 6 → M' 70 q = 0) := by
    intro m
    induction m with
    | zero =>
      intro p M1 hp h1 h2
      exact zv137_2 _ ⟨fun _ => ⟨rfl, h1, fun q hq => h2 q (by omega)⟩, fun h => absurd (by omega) h⟩
    | succ m ih =>
      intro p M1 hp h1 h2
      refine zv137_2 _ ⟨fun h => by omega, fun _ => ⟨by omega, by omega, ⟨by omega, by omega⟩, ?_⟩⟩
      rw [Int.toNat_natCast]
      refine ih (p + 1) _ (by omega) (fun k hk => by rw [zb_uk hk]; exact h1 k hk) (fun q hq => ?_)
      by_cases hqp : q = p
      · subst hqp; exact zb_us
      · rw [zb_ui hqp]; exact h2 q (by omega)
  exact key 6 0 M (by omega) (fun _ _ => rfl) (fun q hq => by omega)
theorem zdt_dv {n : Nat → Nat} {P k q : Nat} (hn : ∀ q, 0 < n q) (hq : q < P) (hd : zwq n P q ∣ k) : zdt n P k q = 0 := by
  unfold zdt
  obtain ⟨Y, hY⟩ := hd
  have hpos := zwq_pos' (n := n) (P := P) (q := q + 1) hn
  rw [hY, zwq_s hq, show n q * zwq n P (q + 1) * Y = (n q * Y) * zwq n P (q + 1) by ac_rfl, Nat.mul_div_cancel _ hpos, Nat.mul_mod_right]
theorem zwq_one {n : Nat → Nat} {P : Nat} : ∀ {m p : Nat}, P - p = m → (∀ q, p ≤ q → q < P → n q = 1) → zwq n P p = 1 := by
  intro m
  induction m with
  | zero => intro p h _; exact zwq_e (by omega)
  | succ m ih =>
    intro p h h1
    rw [zwq_s (by omega), h1 p (Nat.le_refl _) (by omega), ih (by omega) (fun q a b => h1 q (by omega) b)]
/-- the next row, or there is none -/
def znx (n : Nat → Nat) (val : Nat → Nat → Nat) (P pl k : Nat) (r : Int) (row : Nat → Int) : Prop := (r = 1 ∧ k + 1 < zwq n P 0 ∧ ∀ q, q < pl → row q = val q (zdt n P (k + 1) q)) ∨ (r = 0 ∧ k + 1 = zwq n P 0)
theorem znx_up {n : Nat → Nat} {P k p : Nat} (hn : ∀ q, 0 < n q) (hp : p < P) (hk : k < zwq n P 0) (hd : zwq n P (p + 1) ∣ k + 1) (hlt : zdt n P k p + 1 < n p) : k + 1 < zwq n P 0 := by
  rcases Nat.lt_or_ge (k + 1) (zwq n P 0) with h | h
  · exact h
  · exfalso
    have hT : k + 1 = zwq n P 0 := by omega
    obtain ⟨X, hX⟩ := zwq_mul (n := n) (P := P) (q := 0) (p := p) rfl (by omega) (by omega)
    have h1 := zdt_dv (k := k + 1) hn hp ⟨X, by rw [hT, hX, Nat.mul_comm]⟩
    have h2 := (zod_up hn hp hd hlt).1
    omega
theorem znx_end {n : Nat → Nat} {P k : Nat} (hk : k < zwq n P 0) (hd : zwq n P 0 ∣ k + 1) : k + 1 = zwq n P 0 := by
  have := Nat.le_of_dvd (by omega) hd
  omega
theorem qc149 {d : Nat} {M : zMem} {pl S k : Nat} (hpl : M 55 4 = pl) (h6 : pl ≤ 6) (hS : S < 64) (hk : k < zwq (zn5 pl S) 6 0) (hrow : ∀ q, q < pl → M 70 q = zdt (zn5 pl S) 6 k q) :
    zCi d 149 [.inr (.inr 55), .inl (S : Int)] M (fun r M' => znx (zn5 pl S) (fun _ v => v) 6 pl k r (M' 70) ∧ ∀ k, k ≠ 70 → M' k = M k) := by
  have hpos : ∀ q, 0 < zn5 pl S q := zn5_pos
  refine zk149 (zv149_0 _ ⟨⟨by omega, by omega⟩, ?_⟩)
  rw [hpl]
  have key : ∀ (j : Nat) (M1 : zMem), j ≤ pl → (∀ k, k ≠ 70 → M1 k = M k) → zwq (zn5 pl S) 6 j ∣ k + 1 → (∀ q, q < j → M1 70 q = zdt (zn5 pl S) 6 k q) → (∀ q, j ≤ q → q < pl → M1 70 q = 0) →
      zBg d 149 7 [zR 55, zI (S : Int), zI ((j : Int) - 1)] [] M1 (fun r M' => ∃ z : Int, r = some (.inl z) ∧ znx (zn5 pl S) (fun _ v => v) 6 pl k z (M' 70) ∧ ∀ k, k ≠ 70 → M' k = M k) := by
    intro j
    induction j with
    | zero =>
      intro M1 hj h1 h2 h3 h4
      refine zv149_7 _ _ ⟨fun _ => ⟨fun h => by omega, fun _ => ⟨Or.inl rfl, _, rfl, Or.inr ⟨rfl, znx_end hk h2⟩, h1⟩⟩, fun h => absurd (by omega) h⟩
    | succ j ih =>
      intro M1 hj h1 h2 h3 h4
      rw [show ((j + 1 : Nat) : Int) - 1 = (j : Int) by omega]
      have hdig := zdt_lt (n := zn5 pl S) (P := 6) (k := k) (q := j) hpos
      have hrest : zwq (zn5 pl S) 6 j ∣ k + 1 → zBg d 149 7 [zR 55, zI (S : Int), zI ((j : Int) + (-1))] [] (zup M1 70 j 0) (fun r M' => ∃ z : Int, r = some (.inl z) ∧ znx (zn5 pl S) (fun _ v => v) 6 pl k z (M' 70) ∧ ∀ k, k ≠ 70 → M' k = M k) := by
        intro hd
        have := ih (zup M1 70 j 0) (by omega) (fun k hk => by rw [zb_uk hk]; exact h1 k hk) hd (fun q hq => by rw [zb_ui (by omega)]; exact h3 q (by omega)) (fun q hq hq2 => by
          by_cases hqj : q = j
          · subst hqj; exact zb_us
          · rw [zb_ui hqj]; exact h4 q (by omega) hq2)
        exact this
      refine zv149_7 _ _ ⟨fun h => by omega, fun _ => ?_⟩
      rw [Int.toNat_natCast, zb_bit0 (by omega) (by omega)]
      refine ⟨fun hb => ⟨by omega, by omega, ⟨by omega, by omega⟩, hrest ?_⟩, fun hb => ?_⟩
      · have hn1 : zn5 pl S j = 1 := by unfold zn5; rw [if_neg (by rw [hb]; simp)]
        exact zod_carry hpos (by omega) h2 (by omega)
      · have hSj : S.testBit j = true := by simpa using hb
        have hn5 : zn5 pl S j = 5 := by unfold zn5; rw [if_pos ⟨by omega, hSj⟩]
        rw [h3 j (by omega)]
        refine ⟨by omega, by omega, fun hne => ⟨fun _ => ⟨by omega, by omega, ⟨by omega, by omega⟩, by omega, by omega, Or.inr rfl, _, rfl, Or.inl ⟨rfl, ?_, fun q hq => ?_⟩, fun k hk => by rw [zb_uk hk]; exact h1 k hk⟩, fun h => absurd (by omega) h⟩, fun he => ⟨by omega, by omega, ⟨by omega, by omega⟩, hrest (zod_carry hpos (by omega) h2 (by omega))⟩⟩
        · exact znx_up hpos (by omega) hk h2 (by omega)
        · obtain ⟨u1, u2⟩ := zod_up hpos (by omega) h2 (by omega : zdt (zn5 pl S) 6 k j + 1 < zn5 pl S j)
          rcases Nat.lt_trichotomy q j with hqj | hqj | hqj
          · rw [zb_ui (by omega), h3 q (by omega), u2 q hqj]
          · subst hqj; rw [zb_us, u1]; rfl
          · rw [zb_ui (by omega), h4 q (by omega) hq, zod_zero hpos h2 hqj (by omega)]
            rfl
  refine key pl M (Nat.le_refl _) (fun _ _ => rfl) ?_ hrow (fun q h1 h2 => by omega)
  rw [zwq_one rfl (fun q h1 h2 => by unfold zn5; rw [if_neg (by omega)])]
  exact Nat.one_dvd _
def zfN (M M' : zMem) : Prop := (∀ k, k ≠ 55 → k ≠ 70 → M' k = M k) ∧ ∀ j, j ≠ 26 → M' 55 j = M 55 j
theorem zfN.rf {M : zMem} : zfN M M := ⟨fun _ _ _ => rfl, fun _ _ => rfl⟩
theorem zfN.tr {M M1 M2 : zMem} (h : zfN M M1) (h2 : zfN M1 M2) : zfN M M2 := ⟨fun k a b => by rw [h2.1 k a b, h.1 k a b], fun j a => by rw [h2.2 j a, h.2 j a]⟩
theorem zRK.frN {M M' : zMem} {pl : Nat} {c : Nat → Nat → Nat} {L : List Nat} (h : zfN M M') (hK : zRK M pl c L) : zRK M' pl c L := by
  refine ⟨⟨by rw [h.2 21 (by decide)]; exact hK.1.1, fun i s hs => by rw [h.1 69 (by decide) (by decide)]; exact hK.1.2 i s hs⟩, fun i s hs p hp => by rw [h.1 71 (by decide) (by decide)]; exact hK.2 i s hs p hp⟩
def zanM (pl S : Nat) (o : Option Nat) (r : Int) (row : Nat → Int) : Prop := match o with
  | none => r = 1
  | some k => r = 0 ∧ ∀ q, q < pl → row q = zdt (zn5 pl S) 6 k q
theorem qc148 {d : Nat} {M : zMem} {pl cp hw S : Nat} {ch : Nat → Nat} {me : Nat → Int} {ro : Nat → Nat → Nat} {L : List Nat} (hF : zWF pl cp ch me ro) (hplM : M 55 4 = pl) (hK : zRK M pl (zcn cp ch me ro hw) L) (h92 : L.length ≤ 92) (h256 : ∀ s, s ∈ L → s < 256) (hS : S < 64) :
    zCi (d + 1) 148 [.inr (.inr 55), .inl (S : Int)] M (fun r M' => zanM pl S (zfd (zG pl S (zcn cp ch me ro hw) L) (zwq (zn5 pl S) 6 0) 0) r (M' 70) ∧ zfN M M') := by
  have h6 := hF.1
  have hpos : ∀ q, 0 < zn5 pl S q := zn5_pos
  refine zk148 (zv148_0 _ ⟨_, qc137, ?_⟩)
  rintro M1 ⟨a1, a2⟩
  have f1 : zfN M M1 := ⟨fun k _ hk => a1 k hk, fun j _ => by rw [a1 55 (by decide)]⟩
  generalize hGd : zG pl S (zcn cp ch me ro hw) L = G
  generalize hT : zwq (zn5 pl S) 6 0 = T
  have inner : ∀ (Q : Option zV → zMem → Prop) (k : Nat) (M2 : zMem), zfN M M2 → (∀ q, q < pl → M2 70 q = zdt (zn5 pl S) 6 k q) → (G k = true → ∀ M3, zfN M M3 → (∀ q, q < pl → M3 70 q = zdt (zn5 pl S) 6 k q) → Q (zI 0) M3) → (G k = false → ∀ M3, zfN M M3 → (∀ q, q < pl → M3 70 q = zdt (zn5 pl S) 6 k q) → ∃ Q1, zCi d 149 [.inr (.inr 55), .inl (S : Int)] M3 Q1 ∧ ∀ v1 M', Q1 v1 M' → zBg (d + 1) 148 6 [zR 55, zI (S : Int), zI v1, none, none, none, none] [] M' Q) → zBg (d + 1) 148 6 [zR 55, zI (S : Int), zI 1, none, none, none, none] [] M2 Q := by
    intro Q k M2 f2 hrow hyes hno
    refine zv148_6 _ _ ⟨fun h => by omega, fun _ => ?_⟩
    have key2 : ∀ (R D : List Nat) (M3 : zMem), D ++ R = L → zfN M M3 → (∀ q, q < pl → M3 70 q = zdt (zn5 pl S) 6 k q) → M3 55 26 = ((D.filter (zsu pl S (zcn cp ch me ro hw) 6 k)).length : Int) →
        zBg (d + 1) 148 22 [zR 55, zI (S : Int), none, zI (zall (D.filter (zsu pl S (zcn cp ch me ro hw) 6 k)) : Int), zI (D.length : Int), none, none] [] M3 Q := by
      intro R
      induction R with
      | nil =>
        intro D M3 h1 f3 hr3 h26
        rw [List.append_nil] at h1
        subst h1
        have hK3 := hK.frN f3
        have hGk : G k = (!(D.filter (zsu pl S (zcn cp ch me ro hw) 6 k)).isEmpty && zall (D.filter (zsu pl S (zcn cp ch me ro hw) 6 k)) == 0) := by rw [← hGd]; rfl
        refine zv148_22 _ _ _ ⟨fun _ => ?_, fun h => absurd (by rw [hK3.1.1]; omega) h⟩
        rw [h26]
        refine ⟨fun h => hno ?_ M3 f3 hr3, fun h => ⟨fun h2 => hno ?_ M3 f3 hr3, fun h2 => ⟨Or.inl rfl, hyes ?_ M3 f3 hr3⟩⟩⟩
        · rw [hGk, List.length_eq_zero_iff.mp (by omega : (D.filter (zsu pl S (zcn cp ch me ro hw) 6 k)).length = 0)]
          rfl
        · rw [hGk]
          have : ¬ zall (D.filter (zsu pl S (zcn cp ch me ro hw) 6 k)) = 0 := by omega
          simp [this]
        · rw [hGk]
          have h3 : zall (D.filter (zsu pl S (zcn cp ch me ro hw) 6 k)) = 0 := by omega
          rw [h3]
          cases hF2 : D.filter (zsu pl S (zcn cp ch me ro hw) 6 k) with
          | nil => rw [hF2] at h; exact absurd (by decide) h
          | cons x y => rfl
      | cons s R ih =>
        intro D M3 h1 f3 hr3 h26
        have hK3 := hK.frN f3
        have hlen : D.length < L.length := by rw [← h1]; simp
        have hs : L[D.length]? = some s := by rw [← h1]; simp
        have hs2 : s < 256 := h256 s (by rw [← h1]; simp)
        have m69 := hK3.1.2 _ _ hs
        have m71 := hK3.2 _ _ hs
        have p3 : M3 55 4 = pl := by rw [f3.2 4 (by decide)]; exact hplM
        have ih1 := ih (D ++ [s])
        simp only [List.append_assoc, List.singleton_append, List.length_append, List.length_cons, List.length_nil] at ih1
        have hzl := zall_lt (F := D.filter (zsu pl S (zcn cp ch me ro hw) 6 k))
        have hfl : (D.filter (zsu pl S (zcn cp ch me ro hw) 6 k)).length ≤ 92 := Nat.le_trans (List.length_filter_le _ _) (by omega)
        have hup : ∀ x : Int, zfN M (zup M3 55 26 x) := fun x => ⟨fun k hk hk2 => by rw [zb_uk hk]; exact f3.1 k hk hk2, fun j hj => by rw [zb_ui hj]; exact f3.2 j hj⟩
        have hr4 : ∀ x : Int, ∀ q, q < pl → zup M3 55 26 x 70 q = zdt (zn5 pl S) 6 k q := fun x q hq => by rw [zb_uk (by decide)]; exact hr3 q hq
        have hno2 : zsu pl S (zcn cp ch me ro hw) 6 k s = false → zBg (d + 1) 148 22 [zR 55, zI (S : Int), none, zI (ziand (zall (D.filter (zsu pl S (zcn cp ch me ro hw) 6 k)) : Int) 255), zI ((D.length : Int) + 1), none, none] [] (zup M3 55 26 ((M3 55 26) + 0)) Q := by
          intro hn
          have ih2 := ih1 (zup M3 55 26 ((M3 55 26) + 0)) h1 (hup _) (hr4 _)
          rw [List.filter_append, List.filter_cons_of_neg (by rw [hn]; decide), List.filter_nil, List.append_nil] at ih2
          rw [zand255 (by omega), Nat.mod_eq_of_lt hzl]
          exact ih2 (by rw [zb_us, h26, Int.add_zero])
        have hyes2 : zsu pl S (zcn cp ch me ro hw) 6 k s = true → zBg (d + 1) 148 22 [zR 55, zI (S : Int), none, zI (ziand (zall (D.filter (zsu pl S (zcn cp ch me ro hw) 6 k)) : Int) (s : Int)), zI ((D.length : Int) + 1), none, none] [] (zup M3 55 26 ((M3 55 26) + 1)) Q := by
          intro hn
          have ih2 := ih1 (zup M3 55 26 ((M3 55 26) + 1)) h1 (hup _) (hr4 _)
          rw [List.filter_append, List.filter_cons_of_pos hn, List.filter_nil] at ih2
          have e1 : zall (D.filter (zsu pl S (zcn cp ch me ro hw) 6 k) ++ [s]) = zall (D.filter (zsu pl S (zcn cp ch me ro hw) 6 k)) &&& s := by
            unfold zall
            rw [List.foldl_append]
            rfl
          rw [e1, List.length_append] at ih2
          rw [zb_and (by omega)]
          exact ih2 (by rw [zb_us, h26]; rfl)
        refine zv148_22 _ _ _ ⟨fun h => by rw [hK3.1.1] at h; omega, fun _ => ?_⟩
        have hzero : ∀ p : Nat, zsu pl S (zcn cp ch me ro hw) 6 k s = false → zBg (d + 1) 148 37 [zR 55, zI (S : Int), none, zI (zall (D.filter (zsu pl S (zcn cp ch me ro hw) 6 k)) : Int), zI (D.length : Int), zI 0, zI (p : Int)] [] M3 Q := by
          intro p hn
          have hb : zR32 ((M3 55 26) + 0) := ⟨by omega, by omega⟩
          exact zv148_37 _ _ _ _ _ ⟨fun _ => ⟨fun _ => ⟨fun _ => ⟨hb, ⟨by omega, by omega⟩, hno2 hn⟩, fun h => absurd rfl h⟩, fun h => absurd rfl h⟩, fun _ => ⟨fun _ => ⟨fun _ => ⟨fun _ => ⟨hb, ⟨by omega, by omega⟩, hno2 hn⟩, fun h => absurd rfl h⟩, fun h => absurd rfl h⟩, fun h => absurd rfl h⟩⟩
        have key3 : ∀ (n p : Nat), p + n = pl → (∀ q, q < p → S.testBit q = true → (zcn cp ch me ro hw s q).testBit (zdt (zn5 pl S) 6 k q) = true) → zBg (d + 1) 148 37 [zR 55, zI (S : Int), none, zI (zall (D.filter (zsu pl S (zcn cp ch me ro hw) 6 k)) : Int), zI (D.length : Int), zI 1, zI (p : Int)] [] M3 Q := by
          intro n
          induction n with
          | zero =>
            intro p hp hq
            have : p = pl := by omega
            subst this
            have hsu : zsu p S (zcn cp ch me ro hw) 6 k s = true := zsu_iff.mpr (fun q _ h2 h3 => hq q h2 h3)
            refine zv148_37 _ _ _ _ _ ⟨fun _ => ⟨fun h => by omega, fun _ => ⟨by omega, by omega, fun h => by omega, fun _ => ⟨⟨by omega, by omega⟩, ⟨by omega, by omega⟩, ?_⟩⟩⟩, fun h => absurd (by rw [p3]; omega) h⟩
            rw [Int.toNat_natCast, m69]
            exact hyes2 hsu
          | succ n ih3 =>
            intro p hp hq
            have hcn := zcn_lt (hw := hw) (s := s) hF (p := p) (by omega)
            have hdig := zdt_lt (n := zn5 pl S) (P := 6) (k := k) (q := p) hpos
            have hdig5 : zn5 pl S p ≤ 5 := by unfold zn5; split <;> omega
            refine zv148_37 _ _ _ _ _ ⟨fun h => by rw [p3] at h; omega, fun _ => ⟨fun h => by omega, fun _ => ?_⟩⟩
            rw [zb_bit0 (by omega) (by omega), show (6 * (D.length : Int) + (p : Int)).toNat = 6 * D.length + p by omega, Int.toNat_natCast, m71 p (by omega), hr3 p (by omega), Ne, zb_bit1 (by omega) (by omega)]
            refine ⟨fun h => ⟨⟨by omega, by omega⟩, ih3 (p + 1) (by omega) (fun q hq2 hS2 => ?_)⟩, fun h => ⟨⟨by omega, by omega⟩, ⟨by omega, by omega⟩, by omega, by omega, by omega, by omega, fun h9 => ⟨⟨by omega, by omega⟩, ?_⟩, fun h9 => ⟨⟨by omega, by omega⟩, ?_⟩⟩⟩
            · by_cases hqp : q = p
              · subst hqp; rw [h] at hS2; cases hS2
              · exact hq q (by omega) hS2
            · refine hzero (p + 1) ?_
              cases hsu : zsu pl S (zcn cp ch me ro hw) 6 k s with
              | false => rfl
              | true => exact absurd (zsu_iff.mp hsu p (by omega) (by omega) (by simpa using h)) h9
            · rw [Decidable.not_not] at h9
              refine ih3 (p + 1) (by omega) (fun q hq2 hS2 => ?_)
              by_cases hqp : q = p
              · subst hqp; exact h9
              · exact hq q (by omega) hS2
        exact key3 pl 0 (by omega) (fun q hq => by omega)
    exact key2 L [] (zup M2 55 26 0) rfl ⟨fun k hk hk2 => by rw [zb_uk hk]; exact f2.1 k hk hk2, fun j hj => by rw [zb_ui hj]; exact f2.2 j hj⟩ (fun q hq => by rw [zb_uk (by decide)]; exact hrow q hq) (by rw [zb_us]; rfl)
  have key : ∀ (m k : Nat) (M2 : zMem), k + (m + 1) = T → zfN M M2 → (∀ q, q < pl → M2 70 q = zdt (zn5 pl S) 6 k q) → zfd G (m + 1) k = zfd G T 0 →
      zBg (d + 1) 148 6 [zR 55, zI (S : Int), zI 1, none, none, none, none] [] M2 (fun r M' => ∃ z : Int, r = some (.inl z) ∧ zanM pl S (zfd G T 0) z (M' 70) ∧ zfN M M') := by
    intro m
    induction m with
    | zero =>
      intro k M2 hk f2 hrow hfd
      refine inner _ k M2 f2 hrow (fun hg M3 f3 hr3 => ⟨_, rfl, ?_, f3⟩) (fun hg M3 f3 hr3 => ?_)
      · rw [← hfd]
        simp only [zfd]
        rw [if_pos hg]
        exact ⟨rfl, hr3⟩
      · refine ⟨_, qc149 (k := k) (by rw [f3.2 4 (by decide)]; exact hplM) h6 hS (by omega) hr3, ?_⟩
        rintro v M4 ⟨hv, f4⟩
        have f5 : zfN M M4 := f3.tr ⟨fun k _ hk => f4 k hk, fun j _ => by rw [f4 55 (by decide)]⟩
        rcases hv with ⟨_, h2, _⟩ | ⟨rfl, _⟩
        · omega
        · refine zv148_6 _ _ ⟨fun _ => ⟨Or.inr rfl, _, rfl, ?_, f5⟩, fun h => absurd rfl h⟩
          rw [← hfd]
          simp only [zfd]
          rw [if_neg (by rw [hg]; decide)]
          rfl
    | succ m ih =>
      intro k M2 hk f2 hrow hfd
      refine inner _ k M2 f2 hrow (fun hg M3 f3 hr3 => ⟨_, rfl, ?_, f3⟩) (fun hg M3 f3 hr3 => ?_)
      · rw [← hfd]
        simp only [zfd]
        rw [if_pos hg]
        exact ⟨rfl, hr3⟩
      · refine ⟨_, qc149 (k := k) (by rw [f3.2 4 (by decide)]; exact hplM) h6 hS (by omega) hr3, ?_⟩
        rintro v M4 ⟨hv, f4⟩
        have f5 : zfN M M4 := f3.tr ⟨fun k _ hk => f4 k hk, fun j _ => by rw [f4 55 (by decide)]⟩
        rcases hv with ⟨rfl, h2, h3⟩ | ⟨_, h2⟩
        · refine ih (k + 1) M4 (by omega) f5 h3 ?_
          rw [← hfd]
          have : zfd G (m + 1 + 1) k = if G k then some k else zfd G (m + 1) (k + 1) := rfl
          rw [this, if_neg (by rw [hg]; decide)]
        · omega
  have hTp : 0 < T := by rw [← hT]; exact zwq_pos' hpos
  refine key (T - 1) 0 M1 (by omega) f1 (fun q hq => by rw [a2 q (by omega), zdt_0]; rfl) ?_
  rw [show T - 1 + 1 = T by omega]
