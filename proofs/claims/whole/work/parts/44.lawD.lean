/-! NAMED: the class's walk; the reference's rows one by one -/
def zn5 (pl S q : Nat) : Nat := if q < pl ∧ S.testBit q = true then 5 else 1
theorem zn5_pos {pl S : Nat} : ∀ q, 0 < zn5 pl S q := by
  intro q
  unfold zn5
  split <;> decide
/-- at the first p places a set makes the row k -/
def zsu (pl S : Nat) (c : Nat → Nat → Nat) (p k s : Nat) : Bool := (List.range p).all (fun q => !(decide (q < pl) && S.testBit q) || (c s q).testBit (zdt (zn5 pl S) 6 k q))
theorem zsu_iff {pl S : Nat} {c : Nat → Nat → Nat} {p k s : Nat} : zsu pl S c p k s = true ↔ ∀ q, q < p → q < pl → S.testBit q = true → (c s q).testBit (zdt (zn5 pl S) 6 k q) = true := by
  unfold zsu
  simp only [List.all_eq_true, List.mem_range, Bool.or_eq_true, Bool.not_eq_true', Bool.and_eq_false_iff, decide_eq_false_iff_not]
  constructor
  · intro h q hq h1 h2
    rcases h q hq with (h3 | h3) | h3
    · exact absurd h1 h3
    · rw [h2] at h3; cases h3
    · exact h3
  · intro h q hq
    by_cases h1 : q < pl
    · cases h2 : S.testBit q
      · exact Or.inl (Or.inr rfl)
      · exact Or.inr (h q hq h1 h2)
    · exact Or.inl (Or.inl h1)
/-- some set makes the row k, and no copy is in all that do -/
def zG (pl S : Nat) (c : Nat → Nat → Nat) (L : List Nat) (k : Nat) : Bool := !(L.filter (zsu pl S c 6 k)).isEmpty && zall (L.filter (zsu pl S c 6 k)) == 0
theorem zall_bit {F : List Nat} {c : Nat} : (zall F).testBit c = true ↔ c < 8 ∧ ∀ s, s ∈ F → s.testBit c = true := by
  unfold zall
  have : ∀ (F : List Nat) (a : Nat), (F.foldl (fun a s => a &&& s) a).testBit c = true ↔ a.testBit c = true ∧ ∀ s, s ∈ F → s.testBit c = true := by
    intro F
    induction F with
    | nil => intro a; simp
    | cons s F ih =>
      intro a
      rw [List.foldl_cons, ih, Nat.testBit_and, Bool.and_eq_true]
      constructor
      · rintro ⟨⟨h1, h2⟩, h3⟩
        refine ⟨h1, fun t ht => ?_⟩
        rcases List.mem_cons.mp ht with rfl | ht
        · exact h2
        · exact h3 t ht
      · rintro ⟨h1, h2⟩
        exact ⟨⟨h1, h2 s List.mem_cons_self⟩, fun t ht => h2 t (List.mem_cons_of_mem _ ht)⟩
  rw [this]
  have h255 : Nat.testBit 255 c = decide (c < 8) := Nat.testBit_two_pow_sub_one 8 c
  rw [h255, decide_eq_true_eq]
theorem zG_false {pl S : Nat} {c : Nat → Nat → Nat} {L : List Nat} {p k k0 : Nat} (hp : p ≤ 6) (hk : k / zwq (zn5 pl S) 6 p = k0 / zwq (zn5 pl S) 6 p) (h : (∀ s, s ∈ L → zsu pl S c p k0 s = false) ∨ ∃ e, e < 8 ∧ ∀ s, s ∈ L → zsu pl S c p k0 s = true → s.testBit e = true) : zG pl S c L k = false := by
  have hsub : ∀ s, zsu pl S c 6 k s = true → zsu pl S c p k0 s = true := by
    intro s hs
    rw [zsu_iff] at hs ⊢
    intro q h1 h2 h3
    have := hs q (by omega) h2 h3
    rw [zdt_pre hp h1 hk] at this
    exact this
  unfold zG
  rcases h with h | ⟨e, he, h⟩
  · have : L.filter (zsu pl S c 6 k) = [] := by
      rw [List.filter_eq_nil_iff]
      intro s hs h1
      have := hsub s h1
      rw [h s hs] at this
      cases this
    rw [this]
    rfl
  · have : (zall (L.filter (zsu pl S c 6 k))).testBit e = true := by
      rw [zall_bit]
      refine ⟨he, fun s hs => ?_⟩
      obtain ⟨h1, h2⟩ := List.mem_filter.mp hs
      exact h s h1 (hsub s h2)
    have hne : zall (L.filter (zsu pl S c 6 k)) ≠ 0 := by
      intro h0
      rw [h0, Nat.zero_testBit] at this
      cases this
    simp [hne]
theorem zG_true {pl S cp : Nat} {c : Nat → Nat → Nat} {L : List Nat} {k : Nat} (hcp : cp ≤ 8) (hL : ∀ s, s ∈ L → s < 2 ^ cp) (h1 : ¬ ∀ s, s ∈ L → zsu pl S c 6 k s = false) (h2 : ¬ ∃ e, e < cp ∧ ∀ s, s ∈ L → zsu pl S c 6 k s = true → s.testBit e = true) : zG pl S c L k = true := by
  unfold zG
  have hne : L.filter (zsu pl S c 6 k) ≠ [] := by
    intro h
    rw [List.filter_eq_nil_iff] at h
    exact h1 (fun s hs => by simpa using h s hs)
  have hz : zall (L.filter (zsu pl S c 6 k)) = 0 := by
    rcases Nat.eq_zero_or_pos (zall (L.filter (zsu pl S c 6 k))) with h0 | h0
    · exact h0
    · exfalso
      obtain ⟨e, he⟩ := Nat.exists_testBit_of_ne_zero (x := zall (L.filter (zsu pl S c 6 k))) (by omega)
      obtain ⟨he8, hall⟩ := zall_bit.mp he
      obtain ⟨s, hs⟩ := List.exists_mem_of_ne_nil _ hne
      have hsl := hL s (List.mem_filter.mp hs).1
      have hec : e < cp := by
        rcases Nat.lt_or_ge e cp with h5 | h5
        · exact h5
        · have := hall s hs
          rw [Nat.testBit_lt_two_pow (Nat.lt_of_lt_of_le hsl (zb_p2le h5))] at this
          cases this
      exact h2 ⟨e, hec, fun t ht ht2 => hall t (List.mem_filter.mpr ⟨ht, ht2⟩)⟩
  rw [hz]
  cases hF : L.filter (zsu pl S c 6 k) with
  | nil => exact absurd hF hne
  | cons a b => rfl
def zanN (pl S p : Nat) (o : Option Nat) (r : Int) (row : Nat → Int) : Prop := match o with
  | none => r = 0
  | some k => r = 1 ∧ ∀ q, p ≤ q → q < pl → S.testBit q = true → row q = zdt (zn5 pl S) 6 k q
theorem zfd_none_of {P : Nat → Bool} {m c : Nat} (h : ∀ x, c ≤ x → x < c + m → P x = false) : zfd P m c = none := zfd_none.mpr h
theorem qc26 {d : Nat} {pl cp hw S : Nat} {ch : Nat → Nat} {me : Nat → Int} {ro : Nat → Nat → Nat} {L : List Nat} (hF : zWF pl cp ch me ro) (h92 : L.length ≤ 92) (hLs : ∀ s, s ∈ L → s < 2 ^ cp) (hS : S < 2 ^ pl) : ∀ (m p k0 : Nat) (lo hi : Int) (M : zMem), p + m = 6 → M 42 5 = cp → zMk M (zcw pl cp ch me ro hw) L → zwq (zn5 pl S) 6 p ∣ k0 → zwr L (zsu pl S (zcn cp ch me ro hw) p k0) 0 lo → zwr L (zsu pl S (zcn cp ch me ro hw) p k0) 64 hi →
    zCi (d + 1 + m) 26 [.inr (.inr 36), .inl (p : Int), .inl (S : Int), .inr (.inl lo), .inr (.inl hi)] M (fun r M' => zanN pl S p (zfd (zG pl S (zcn cp ch me ro hw) L) (zwq (zn5 pl S) 6 p) k0) r (M' 37) ∧ (∀ k, k ≠ 37 → M' k = M k) ∧ ∀ q, q < p → M' 37 q = M 37 q) := by
  have h6 := hF.1
  have h64 : S < 64 := Nat.lt_of_lt_of_le hS (zb_p2le (b := 6) h6)
  have hpos : ∀ q, 0 < zn5 pl S q := zn5_pos
  have hint : ∀ (p k0 x : Nat), zwq (zn5 pl S) 6 p ∣ k0 → k0 ≤ x → x < k0 + zwq (zn5 pl S) 6 p → x / zwq (zn5 pl S) 6 p = k0 / zwq (zn5 pl S) 6 p := by
    intro p k0 x hd h1 h2
    obtain ⟨Y, hY⟩ := hd
    have hw0 := zwq_pos' (n := zn5 pl S) (P := 6) (q := p) hpos
    rw [hY, Nat.mul_div_cancel_left _ hw0]
    rw [hY] at h1 h2
    obtain ⟨r, rfl⟩ : ∃ r, x = zwq (zn5 pl S) 6 p * Y + r := ⟨x - zwq (zn5 pl S) 6 p * Y, by omega⟩
    rw [Nat.mul_add_div hw0, Nat.div_eq_of_lt (by omega), Nat.add_zero]
  intro m
  induction m with
  | zero =>
    intro p k0 lo hi M hp hcp hK hd hlo hhi
    have : p = 6 := by omega
    subst this
    have w1 : zwq (zn5 pl S) 6 6 = 1 := zwq_e (Nat.le_refl _)
    refine zk26 (zv26_0 _ _ _ _ ?_)
    rw [zwr_none hlo hhi (by omega), w1]
    have hfd : zfd (zG pl S (zcn cp ch me ro hw) L) 1 k0 = if zG pl S (zcn cp ch me ro hw) L k0 then some k0 else none := rfl
    rw [hfd]
    refine ⟨fun h => ⟨Or.inl rfl, _, rfl, ⟨?_, fun _ _ => rfl, fun _ _ => rfl⟩⟩, fun h => ⟨_, qc27 hcp hF.2.1 hK hlo hhi h92, ?_⟩⟩
    · rw [zG_false (Nat.le_refl 6) rfl (Or.inl h)]
      rfl
    · rintro v M1 ⟨hv, rfl⟩
      refine ⟨fun hv0 => ⟨fun h => by omega, fun _ => ⟨Or.inr rfl, _, rfl, ⟨?_, fun _ _ => rfl, fun _ _ => rfl⟩⟩⟩, fun hv1 => ⟨Or.inl rfl, _, rfl, ⟨?_, fun _ _ => rfl, fun _ _ => rfl⟩⟩⟩
      · have hno : ¬ ∃ c, c < cp ∧ ∀ s, s ∈ L → zsu pl S (zcn cp ch me ro hw) 6 k0 s = true → s.testBit c = true := by
          rcases hv with ⟨h1, _⟩ | ⟨_, h2⟩
          · omega
          · exact h2
        rw [zG_true hF.2.1 hLs h hno]
        exact ⟨rfl, fun q h1 h2 => by omega⟩
      · obtain ⟨e, he, hall⟩ : ∃ c, c < cp ∧ ∀ s, s ∈ L → zsu pl S (zcn cp ch me ro hw) 6 k0 s = true → s.testBit c = true := by
          rcases hv with ⟨_, h2⟩ | ⟨h1, _⟩
          · exact h2
          · exact absurd h1 hv1
        rw [zG_false (Nat.le_refl 6) rfl (Or.inr ⟨e, by have := hF.2.1; omega, hall⟩)]
        rfl
  | succ m ih =>
    intro p k0 lo hi M hp hcp hK hd hlo hhi
    have hws := zwq_s (n := zn5 pl S) (P := 6) (q := p) (by omega)
    have hprune : ((∀ s, s ∈ L → zsu pl S (zcn cp ch me ro hw) p k0 s = false) ∨ ∃ e, e < 8 ∧ ∀ s, s ∈ L → zsu pl S (zcn cp ch me ro hw) p k0 s = true → s.testBit e = true) → zfd (zG pl S (zcn cp ch me ro hw) L) (zwq (zn5 pl S) 6 p) k0 = none := by
      intro h
      refine zfd_none_of (fun x h1 h2 => zG_false (p := p) (by omega) (hint p k0 x hd h1 h2) h)
    refine zk26 (zv26_0 _ _ _ _ ?_)
    rw [zwr_none hlo hhi (by omega)]
    refine ⟨fun h => ⟨Or.inl rfl, _, rfl, ⟨?_, fun _ _ => rfl, fun _ _ => rfl⟩⟩, fun h => ⟨_, qc27 hcp hF.2.1 hK hlo hhi h92, ?_⟩⟩
    · rw [hprune (Or.inl h)]
      rfl
    · rintro v M1 ⟨hv, rfl⟩
      refine ⟨fun hv0 => ⟨fun _ => ?_, fun h => by omega⟩, fun hv1 => ⟨Or.inl rfl, _, rfl, ⟨?_, fun _ _ => rfl, fun _ _ => rfl⟩⟩⟩
      · rw [Ne, zb_bit0 (by omega) (by omega)]
        refine ⟨fun hb => ?_, fun hb => ?_⟩
        · -- the place counts: its values one by one
          have hSp : S.testBit p = true := by simpa using hb
          have hpl : p < pl := by
            rcases Nat.lt_or_ge p pl with h1 | h1
            · exact h1
            · rw [Nat.testBit_lt_two_pow (Nat.lt_of_lt_of_le hS (zb_p2le h1))] at hSp; cases hSp
          have hn5 : zn5 pl S p = 5 := by unfold zn5; rw [if_pos ⟨hpl, hSp⟩]
          rw [hn5] at hws
          have loop : ∀ (j u : Nat) (M2 : zMem), u + j = 5 → (∀ k, k ≠ 37 → M2 k = M1 k) → (∀ q, q < p → M2 37 q = M1 37 q) → zfd (zG pl S (zcn cp ch me ro hw) L) (j * zwq (zn5 pl S) 6 (p + 1)) (k0 + u * zwq (zn5 pl S) 6 (p + 1)) = zfd (zG pl S (zcn cp ch me ro hw) L) (zwq (zn5 pl S) 6 p) k0 →
              zBg (d + 1 + m + 1) 26 52 [zR 36, zI (p : Int), zI (S : Int), zL lo, none, zL hi, none, zI (u : Int), none] [] M2 (fun r M' => ∃ z : Int, r = some (.inl z) ∧ zanN pl S p (zfd (zG pl S (zcn cp ch me ro hw) L) (zwq (zn5 pl S) 6 p) k0) z (M' 37) ∧ (∀ k, k ≠ 37 → M' k = M1 k) ∧ ∀ q, q < p → M' 37 q = M1 37 q) := by
            intro j
            induction j with
            | zero =>
              intro u M2 hu k1 k2 k3
              refine zv26_52 _ _ _ _ _ ⟨fun _ => ⟨Or.inl rfl, _, rfl, ⟨?_, k1, k2⟩⟩, fun h => absurd (by omega) h⟩
              rw [← k3]
              rw [Nat.zero_mul]
              rfl
            | succ j ihj =>
              intro u M2 hu k1 k2 k3
              obtain ⟨d1, d2, d3⟩ := zdt_at (n := zn5 pl S) (P := 6) (k := k0) (p := p) (v := u) hpos (by omega) hd (by rw [hn5]; omega)
              have hslot : ∀ s, (zcw pl cp ch me ro hw s).testBit (5 * p + u) = (zcn cp ch me ro hw s p).testBit u := by
                intro s
                rw [zcw_cn, zW_at (zdgs_lt (by decide) (fun q hq => zcn_lt hF hq)) (by omega) (by omega)]
                unfold zdgs
                rw [if_pos hpl]
              have hsu : ∀ s, s ∈ L → (zsu pl S (zcn cp ch me ro hw) p k0 s && (zcw pl cp ch me ro hw s).testBit (5 * p + u)) = zsu pl S (zcn cp ch me ro hw) (p + 1) (k0 + u * zwq (zn5 pl S) 6 (p + 1)) s := by
                intro s _
                rw [Bool.eq_iff_iff, Bool.and_eq_true, zsu_iff, zsu_iff, hslot]
                constructor
                · rintro ⟨x1, x2⟩ q hq hq2 hq3
                  by_cases hqp : q = p
                  · subst hqp; rw [d1]; exact x2
                  · rw [d2 q (by omega)]; exact x1 q (by omega) hq2 hq3
                · intro x
                  refine ⟨fun q hq hq2 hq3 => ?_, ?_⟩
                  · have := x q (by omega) hq2 hq3
                    rw [d2 q hq] at this
                    exact this
                  · have := x p (by omega) hpl hSp
                    rw [d1] at this
                    exact this
              obtain ⟨s0, s1⟩ := hK.1 (5 * p + u) (by omega)
              have l0 := zwr_congr (zwr_and hlo s0) hsu
              have l1 := zwr_congr (zwr_and hhi s1) hsu
              have hrec := ih (p + 1) (k0 + u * zwq (zn5 pl S) 6 (p + 1)) _ _ (zup M2 37 p u) (by omega) (by rw [zb_uk (by decide), k1 42 (by decide)]; exact hcp) (by
                refine ⟨fun b hb => ?_, fun c hc => ?_⟩
                · rw [zb_uk (by decide), zb_uk (by decide), k1 38 (by decide), k1 39 (by decide)]; exact hK.1 b hb
                · rw [zb_uk (by decide), zb_uk (by decide), k1 40 (by decide), k1 41 (by decide)]; exact hK.2 c hc) d3 l0 l1
              refine zv26_52 _ _ _ _ _ ⟨fun h => by omega, fun _ => ?_⟩
              rw [show ((p : Int) * 5 + (u : Int)).toNat = 5 * p + u by omega, Int.toNat_natCast, k1 38 (by decide), k1 39 (by decide)]
              refine ⟨⟨by omega, by omega⟩, ⟨by omega, by omega⟩, by omega, by omega, ⟨by omega, by omega⟩, by omega, by omega, by omega, by omega, _, hrec, ?_⟩
              rintro z M3 ⟨b1, b2, b3⟩
              have hsplit := zfd_add (P := zG pl S (zcn cp ch me ro hw) L) (a := zwq (zn5 pl S) 6 (p + 1)) (b := j * zwq (zn5 pl S) 6 (p + 1)) (c := k0 + u * zwq (zn5 pl S) 6 (p + 1))
              rw [show zwq (zn5 pl S) 6 (p + 1) + j * zwq (zn5 pl S) 6 (p + 1) = (j + 1) * zwq (zn5 pl S) 6 (p + 1) by rw [Nat.add_mul, Nat.one_mul, Nat.add_comm], k3, show k0 + u * zwq (zn5 pl S) 6 (p + 1) + zwq (zn5 pl S) 6 (p + 1) = k0 + (u + 1) * zwq (zn5 pl S) 6 (p + 1) by rw [Nat.add_mul, Nat.one_mul, Nat.add_assoc]] at hsplit
              cases ho : zfd (zG pl S (zcn cp ch me ro hw) L) (zwq (zn5 pl S) 6 (p + 1)) (k0 + u * zwq (zn5 pl S) 6 (p + 1)) with
              | none =>
                rw [ho] at b1 hsplit
                have hz0 : z = 0 := b1
                refine ⟨fun _ => ⟨⟨by omega, by omega⟩, ?_⟩, fun h => absurd hz0 h⟩
                refine ihj (u + 1) M3 (by omega) (fun k hk => by rw [b2 k hk, zb_uk hk]; exact k1 k hk) (fun q hq => by rw [b3 q (by omega), zb_ui (by omega)]; exact k2 q hq) hsplit.symm
              | some k =>
                rw [ho] at b1 hsplit
                obtain ⟨hz1, hrow⟩ := b1
                refine ⟨fun h => by omega, fun _ => ⟨Or.inr rfl, _, rfl, ⟨?_, fun k hk => by rw [b2 k hk, zb_uk hk]; exact k1 k hk, fun q hq => by rw [b3 q (by omega), zb_ui (by omega)]; exact k2 q hq⟩⟩⟩
                rw [hsplit]
                refine ⟨rfl, fun q h1 h2 h3 => ?_⟩
                by_cases hqp : q = p
                · subst hqp
                  rw [b3 q (by omega), zb_us]
                  have hx := zfd_some ho
                  have hpre := zdt_pre (n := zn5 pl S) (P := 6) (p := q + 1) (q := q) (by omega) (by omega) (hint (q + 1) _ k d3 hx.2.1 hx.2.2)
                  rw [hpre, d1]
                · exact hrow q (by omega) h2 h3
          have := loop 5 0 M1 (by omega) (fun _ _ => rfl) (fun _ _ => rfl) (by rw [hws, Nat.zero_mul]; rfl)
          exact this
        · -- the place does not count
          have hSp : S.testBit p = false := by simpa using hb
          have hn1 : zn5 pl S p = 1 := by unfold zn5; rw [if_neg (by rw [hSp]; simp)]
          rw [hn1, Nat.one_mul] at hws
          have hsu : ∀ s, s ∈ L → zsu pl S (zcn cp ch me ro hw) p k0 s = zsu pl S (zcn cp ch me ro hw) (p + 1) k0 s := by
            intro s _
            rw [Bool.eq_iff_iff, zsu_iff, zsu_iff]
            constructor
            · intro x q hq hq2 hq3
              by_cases hqp : q = p
              · subst hqp; rw [hSp] at hq3; cases hq3
              · exact x q (by omega) hq2 hq3
            · intro x q hq hq2 hq3
              exact x q (by omega) hq2 hq3
          have hrec := ih (p + 1) k0 lo hi M1 (by omega) hcp hK (by rw [← hws]; exact hd) (zwr_congr hlo hsu) (zwr_congr hhi hsu)
          refine ⟨⟨by omega, by omega⟩, _, hrec, ?_⟩
          rintro z M2 ⟨b1, b2, b3⟩
          rw [← hws] at b1
          refine ⟨?_, _, rfl, ⟨?_, b2, fun q hq => b3 q (by omega)⟩⟩
          · cases ho : zfd (zG pl S (zcn cp ch me ro hw) L) (zwq (zn5 pl S) 6 p) k0 with
            | none => rw [ho] at b1; exact Or.inl b1
            | some k => rw [ho] at b1; exact Or.inr b1.1
          · cases ho : zfd (zG pl S (zcn cp ch me ro hw) L) (zwq (zn5 pl S) 6 p) k0 with
            | none => rw [ho] at b1; exact b1
            | some k =>
              rw [ho] at b1
              refine ⟨b1.1, fun q h1 h2 h3 => ?_⟩
              by_cases hqp : q = p
              · subst hqp; rw [hSp] at h3; cases h3
              · exact b1.2 q (by omega) h2 h3
      · obtain ⟨e, he, hall⟩ : ∃ c, c < cp ∧ ∀ s, s ∈ L → zsu pl S (zcn cp ch me ro hw) p k0 s = true → s.testBit c = true := by
          rcases hv with ⟨_, h2⟩ | ⟨h1, _⟩
          · exact h2
          · exact absurd h1 hv1
        rw [hprune (Or.inr ⟨e, by have := hF.2.1; omega, hall⟩)]
        rfl
