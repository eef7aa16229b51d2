/-! hiding: the reference -/
theorem qc156 {d : Nat} {M : zMem} {pl c a n : Nat} {r v : Nat → Nat} (hpl : M 55 4 = pl) (h6 : pl ≤ 6) (hc : c < 8) (ha : zSHL[a]? = some (.inl (0, n))) (hn : 6 ≤ n) (hr : ∀ p, p < pl → M 65 (6 * c + p) = r p) (hv : ∀ p, p < pl → M a p = v p) :
    zCi d 156 [.inr (.inr 55), .inl (c : Int), .inr (.inr a)] M (fun w M' => w = (zcnt (fun q => r q == v q) pl : Int) ∧ M' = M) := by
  refine zk156 (zv156_0 _ _ ?_)
  have key : ∀ (m p : Nat), p + m = pl → zBg d 156 5 [zR 55, zI (c : Int), zR a, zI (zcnt (fun q => r q == v q) p : Int), zI (p : Int)] [] M (fun q M' => ∃ w : Int, q = some (.inl w) ∧ w = (zcnt (fun q => r q == v q) pl : Int) ∧ M' = M) := by
    intro m
    induction m with
    | zero =>
      intro p hp
      have : p = pl := by omega
      subst this
      exact zv156_5 _ _ _ _ ⟨fun _ => ⟨_, rfl, rfl, rfl⟩, fun h => absurd (by omega) h⟩
    | succ m ih =>
      intro p hp
      have ih1 := ih (p + 1) (by omega)
      have hl := zcnt_le (P := fun q => r q == v q) p
      simp only [zcnt] at ih1
      refine zv156_5 _ _ _ _ ⟨fun h => by omega, fun _ => ⟨⟨by omega, by omega⟩, ⟨by omega, by omega⟩, by omega, by omega, ?_⟩⟩
      rw [zb_ar ha, show (6 * (c : Int) + (p : Int)).toNat = 6 * c + p by omega, Int.toNat_natCast, hr p (by omega), hv p (by omega)]
      refine ⟨by omega, by omega, fun h => ⟨⟨by omega, by omega⟩, ⟨by omega, by omega⟩, ?_⟩, fun h => ⟨⟨by omega, by omega⟩, ⟨by omega, by omega⟩, ?_⟩⟩
      · rw [if_neg (by simp; omega)] at ih1
        simpa using ih1
      · rw [if_pos (by simp; omega)] at ih1
        simpa using ih1
  exact key pl 0 (by omega)
theorem zmx_8 {g : Nat → Nat} {n : Nat} (hn : n ≤ 8) (h : ∀ c, n ≤ c → g c = 0) : zmx g 8 = zmx g n := by
  have : ∀ m, n + m ≤ 8 → zmx g (n + m) = zmx g n := by
    intro m
    induction m with
    | zero => intro _; rfl
    | succ m ih =>
      intro hm
      rw [← Nat.add_assoc]
      simp only [zmx]
      rw [ih (by omega), h (n + m) (by omega)]
      omega
  have h1 := this (8 - n) (by omega)
  rw [show n + (8 - n) = 8 by omega] at h1
  exact h1
theorem qc165 {d : Nat} {M : zMem} {pl cp ms hw : Nat} {ch : Nat → Nat} {me : Nat → Int} {ro : Nat → Nat → Nat} {v : Nat → Nat} {x y : Int} (hC : zCR M pl cp ch me ro ms hw v) :
    zCi (d + 4) 165 [.inr (.inr 55), .inl x, .inl y] M (fun r M' => zsHidden pl cp ch me ro hw x y r ∧ zfR M M') := by
  obtain ⟨h1, h2, h3, h4, h5, h6, h7⟩ := id hC
  have h61 := h1.1
  have hcp := h1.2.1
  refine zk165 (zv165_0 _ _ ⟨_, qc139 h2.2.1 hcp, ?_⟩)
  rintro v1 M1 ⟨hv1, rfl⟩
  refine ⟨fun hz => ⟨_, rfl, Or.inl ⟨fun hk => ?_, rfl⟩, zfR.rf⟩, fun hz => ?_⟩
  · rcases hv1 with ⟨a, _⟩ | ⟨_, a⟩
    · omega
    · exact a hk.1
  have hx : zisS cp x := by
    rcases hv1 with ⟨_, a⟩ | ⟨a, _⟩
    · exact a
    · exact absurd a hz
  rw [h2.1]
  refine ⟨⟨by omega, by omega⟩, _, qc110, ?_⟩
  rintro v2 M2 ⟨hv2, rfl⟩
  refine ⟨fun hz2 => ⟨_, qc137, ?_⟩, fun hz2 => ⟨_, rfl, Or.inl ⟨fun hk => by
    have := hk.2
    unfold zisC at this
    omega, rfl⟩, zfR.rf⟩⟩
  rintro M3 ⟨a1, a2⟩
  have hk : zkh pl cp x y := ⟨hx, by unfold zisC; omega⟩
  have f3 : zfR M2 M3 := ⟨fun k x1 x2 => a1 k (by omega), fun j _ _ _ _ => by rw [a1 55 (by decide)]⟩
  obtain ⟨s, rfl⟩ : ∃ s : Nat, x = (s : Int) := ⟨x.toNat, by have := hx.1; omega⟩
  have hs0 : 0 < s := by have := hx.1; omega
  have hs1 : s < 2 ^ cp := by have := hx.2; omega
  have h256 : s < 256 := Nat.lt_of_lt_of_le hs1 (zb_p2le (b := 8) hcp)
  have hch2 : ∀ q, q < pl → 2 ≤ ch q ∧ ch q ≤ 4 := fun q hq => ⟨(h1.2.2.1 q hq).1, (h1.2.2.1 q hq).2.1⟩
  have hvl5 : ∀ k q, q < pl → zvl pl ch k q ≤ 4 := by
    intro k q hq
    have := hch2 q hq
    unfold zvl zv6
    split <;> omega
  have hmkz : ∀ k, zmk pl cp ch me ro hw (zvl pl ch k) s = zmkk pl ch (zcn cp ch me ro hw s) pl k := by
    intro k
    rw [Bool.eq_iff_iff, zmk_iff, zmkk_iff]
    constructor
    · intro h q hq
      rcases h q hq with h9 | h9
      · have := hvl5 k q hq; omega
      · exact h9
    · intro h q hq
      exact Or.inr (h q hq)
  generalize hf : zhf pl cp ch me ro hw s = f
  generalize hT : zwq (zn6 pl ch 1) 6 0 = T
  obtain ⟨z1, b0, z2⟩ := zhs_start (f := zhf pl cp ch me ro hw s) (zhf_7 h61) (m := zwq (zn6 pl ch 1) 6 0) (k := 0) (zhf_some h1 hs0 hs1)
  rw [hf, hT] at z2
  -- the state of the reference's search
  have fin : ∀ (st : Nat × Option Nat) (M4 : zMem), st = zhs f T 0 (100, none) → zfR M2 M4 → (∀ b, st.2 = some b → ∀ q, q < pl → M4 74 q = zvl pl ch b q) → ((y : Int) ≥ 0 → (0 : Int) ≤ y ∧ (y : Int) < 6 ∧ ∃ w : Int, zI (M4 74 y.toNat) = some (.inl w) ∧ zsHidden pl cp ch me ro hw (s : Int) y w ∧ zfR M2 M4) ∧ (¬ (y : Int) ≥ 0 → ∃ w : Int, zI (st.1 : Int) = some (.inl w) ∧ zsHidden pl cp ch me ro hw (s : Int) y w ∧ zfR M2 M4) := by
    intro st M4 hst f4 hb
    rw [← hst] at z2
    refine ⟨fun hy => ?_, fun hy => ⟨_, rfl, Or.inr ⟨hk, ?_⟩, f4⟩⟩
    · have hyc : zisC pl y := by
        rcases hk.2 with h | h
        · omega
        · exact h
      have y1 := hyc.1
      have y2 := hyc.2
      refine ⟨by omega, by omega, _, rfl, Or.inr ⟨hk, ?_⟩, f4⟩
      unfold zhv
      rw [if_neg (by omega), Int.toNat_natCast, hf, hT, ← hst, z2, hb b0 z2 y.toNat (by omega)]
    · have hy1 : y = -1 := by
        rcases hk.2 with h | h
        · exact h
        · have := h.1; omega
      unfold zhv
      rw [if_pos hy1, Int.toNat_natCast, hf, hT, ← hst]
  -- one row
  have body : ∀ (Q : Option zV → zMem → Prop) (k : Nat) (st : Nat × Option Nat) (M4 : zMem), zfR M2 M4 → (∀ q, q < pl → M4 70 q = zvl pl ch k q) → k < T → (∀ b, st.2 = some b → ∀ q, q < pl → M4 74 q = zvl pl ch b q) → st.1 ≤ 100 →
      (∀ (M5 : zMem) (w : Int), zfR M2 M5 → (∀ b, (if f k < st.1 then (f k, some k) else st).2 = some b → ∀ q, q < pl → M5 74 q = zvl pl ch b q) → znx (zn6 pl ch 1) (zv6 ch) 6 pl k w (M5 70) → zBg (d + 4) 165 38 [zR 55, zI (s : Int), zI y, zI (((if f k < st.1 then (f k, some k) else st).1 : Nat) : Int), zI w, none, none, none] [] M5 Q) →
      zBg (d + 4) 165 38 [zR 55, zI (s : Int), zI y, zI (st.1 : Int), zI 1, none, none, none] [] M4 Q := by
    intro Q k st M4 f4 hr4 hkT hb4 hst100 cont
    have hC4 := hC.fr f4
    have hR4 := h2.fr f4
    refine zv165_38 _ _ _ _ ⟨fun h => by omega, fun _ => ?_⟩
    rw [show M4 55 15 = (hw : Int) by rw [f4.2 15 (by decide) (by decide) (by decide) (by decide)]; exact h4]
    refine ⟨_, qc131 (b := 0) (n := 6) (v := zvl pl ch k) h1 hR4 h256 rfl (by omega) (by decide) (fun p hp => ⟨by rw [Nat.zero_add]; exact hr4 p hp, by have := hvl5 k p hp; omega⟩), ?_⟩
    rintro w1 M5 ⟨rfl, rfl⟩
    rw [hmkz]
    -- the last part: lay the best, go on
    have tail : ∀ (t : Nat), t = f k → zBg (d + 4) 165 138 [zR 55, zI (s : Int), zI y, zI (st.1 : Int), none, zI (t : Int), zI 0, none] [] M5 Q := by
      intro t ht
      have nxt : ∀ M6, zfR M2 M6 → (∀ q, q < pl → M6 70 q = zvl pl ch k q) → (∀ b, (if f k < st.1 then (f k, some k) else st).2 = some b → ∀ q, q < pl → M6 74 q = zvl pl ch b q) → ∃ Q1, zCi (d + 3) 136 [.inr (.inr 55), .inl 1] M6 Q1 ∧ ∀ v1 M7, Q1 v1 M7 → zBg (d + 4) 165 38 [zR 55, zI (s : Int), zI y, zI (((if f k < st.1 then (f k, some k) else st).1 : Nat) : Int), zI v1, none, none, none] [] M7 Q := by
        intro M6 f6 hr6 hb6
        have hR6 := h2.fr f6
        have hq := qc136 (d := d + 3) (M := M6) (pl := pl) (lf := 1) (k := k) (ch := ch) hR6.1 h61 (fun q hq => ⟨hR6.2.2.1 q hq, hch2 q hq⟩) (by decide) (by rw [hT]; exact hkT) hr6
        refine ⟨_, hq, ?_⟩
        rintro v1 M7 ⟨hn, f7⟩
        exact cont M7 v1 (f6.tr ⟨fun k x1 x2 => f7 k (by omega), fun j _ _ _ _ => by rw [f7 55 (by decide)]⟩) (fun b hb q hq => by rw [f7 74 (by decide)]; exact hb6 b hb q hq) hn
      have p5 : M5 55 4 = pl := hR4.1
      by_cases hlt : f k < st.1
      · have lay : ∀ (m p : Nat) (M6 : zMem), p + m = pl → zfR M2 M6 → (∀ q, q < pl → M6 70 q = zvl pl ch k q) → (∀ q, q < p → M6 74 q = zvl pl ch k q) → zBg (d + 4) 165 138 [zR 55, zI (s : Int), zI y, zI (st.1 : Int), none, zI (t : Int), zI (p : Int), none] [] M6 Q := by
          intro m
          induction m with
          | zero =>
            intro p M6 hp f6 hr6 hl6
            have : p = pl := by omega
            subst this
            have p6 : M6 55 4 = p := (h2.fr f6).1
            refine zv165_138 _ _ _ _ _ ⟨fun _ => ⟨fun h => by omega, fun _ => ?_⟩, fun h => absurd (by rw [p6]; omega) h⟩
            have := nxt M6 f6 hr6 (fun b hb q hq => by rw [if_pos hlt] at hb; cases hb; exact hl6 q hq)
            rw [if_pos hlt] at this
            rw [ht]
            exact this
          | succ m ih =>
            intro p M6 hp f6 hr6 hl6
            have p6 : M6 55 4 = pl := (h2.fr f6).1
            refine zv165_138 _ _ _ _ _ ⟨fun h => by rw [p6] at h; omega, fun _ => ⟨fun h => by omega, fun _ => ?_⟩⟩
            rw [Int.toNat_natCast]
            refine ⟨by omega, by omega, by omega, by omega, ⟨by omega, by omega⟩, ?_⟩
            refine ih (p + 1) _ (by omega) ⟨fun k x1 x2 => by rw [zb_uk (by omega)]; exact f6.1 k x1 x2, fun j x1 x2 x3 x4 => by rw [zb_uk (by decide)]; exact f6.2 j x1 x2 x3 x4⟩ (fun q hq => by rw [zb_uk (by decide)]; exact hr6 q hq) (fun q hq => ?_)
            by_cases hqp : q = p
            · subst hqp; rw [zb_us]; exact hr6 q (by omega)
            · rw [zb_ui hqp]; exact hl6 q (by omega)
        exact lay pl 0 M5 (by omega) f4 hr4 (fun q hq => by omega)
      · have := nxt M5 f4 hr4 (fun b hb q hq => by rw [if_neg hlt] at hb; exact hb4 b hb q hq)
        rw [if_neg hlt] at this
        exact zv165_138 _ _ _ _ _ ⟨fun _ => ⟨fun _ => this, fun h => absurd (by omega) h⟩, fun _ => ⟨fun _ => ⟨fun _ => this, fun h => absurd (by omega) h⟩, fun h => absurd (by omega) h⟩⟩
    refine ⟨fun hw0 => ?_, fun hw0 => ?_⟩
    · -- not made: 100
      have hno : zmkk pl ch (zcn cp ch me ro hw s) pl k = false := by
        cases e : zmkk pl ch (zcn cp ch me ro hw s) pl k with
        | false => rfl
        | true => rw [e] at hw0; exact absurd hw0 (by decide)
      have hfk : f k = 100 := by
        rw [← hf]
        unfold zhf
        rw [if_neg (by rw [hno]; decide)]
      have := tail 100 hfk.symm
      exact zv165_71 _ _ _ _ _ ⟨fun _ => this, fun _ => ⟨fun _ => this, fun h => absurd (by omega) h⟩⟩
    · have hyes : zmkk pl ch (zcn cp ch me ro hw s) pl k = true := by
        cases e : zmkk pl ch (zcn cp ch me ro hw s) pl k with
        | true => rfl
        | false => rw [e] at hw0; exact absurd rfl hw0
      have hfk : f k = zmx (zsc pl cp ch ro s pl k) 8 := by
        rw [← hf]
        unfold zhf
        rw [if_pos hyes]
      have hz8 := zmx_8 (g := zsc pl cp ch ro s pl k) hcp (fun c hc => by unfold zsc; rw [if_neg (fun h => by omega)])
      have loop : ∀ (m c : Nat), c + m = cp → zBg (d + 4) 165 71 [zR 55, zI (s : Int), zI y, zI (st.1 : Int), none, zI (zmx (zsc pl cp ch ro s pl k) c : Int), zI (c : Int), none] [] M5 Q := by
        intro m
        induction m with
        | zero =>
          intro c hc
          have : c = cp := by omega
          subst this
          have := tail (zmx (zsc pl c ch ro s pl k) c) (by rw [hfk, hz8])
          exact zv165_71 _ _ _ _ _ ⟨fun _ => this, fun h => absurd (by rw [hR4.2.1]; omega) h⟩
        | succ m ih =>
          intro c hc
          have ih1 := ih (c + 1) (by omega)
          simp only [zmx] at ih1
          have hle := zmx_le (g := zsc pl cp ch ro s pl k) (b := 6) (n := c) (fun i _ => Nat.le_trans zsc_le h61)
          refine zv165_71 _ _ _ _ _ ⟨fun h => by rw [hR4.2.1] at h; omega, fun _ => ⟨fun h => by omega, fun _ => ?_⟩⟩
          rw [Ne, zb_bit1 (by omega) (by omega)]
          refine ⟨fun hb => ⟨fun _ => ⟨⟨by omega, by omega⟩, ?_⟩, fun h => absurd (by omega) h⟩, fun hb => ⟨_, qc156 (r := ro c) (v := zvl pl ch k) (n := 6) hR4.1 h61 (by omega) rfl (by decide) (fun p hp => hR4.2.2.2.2 c (by omega) p hp) hr4, ?_⟩⟩
          · have e : zsc pl cp ch ro s pl k c = 0 := by unfold zsc; rw [if_neg (fun h => hb h.2)]
            rw [e, show max (zmx (zsc pl cp ch ro s pl k) c) 0 = zmx (zsc pl cp ch ro s pl k) c by omega] at ih1
            exact ih1
          · rintro w6 M6 ⟨rfl, rfl⟩
            rw [Decidable.not_not] at hb
            have e : zsc pl cp ch ro s pl k c = zcnt (fun q => ro c q == zvl pl ch k q) pl := by unfold zsc; rw [if_pos ⟨by omega, hb⟩]
            rw [e] at ih1
            refine ⟨fun hle2 => ⟨⟨by omega, by omega⟩, ?_⟩, fun hle2 => ⟨⟨by omega, by omega⟩, ?_⟩⟩
            · rw [show max (zmx (zsc pl cp ch ro s pl k) c) (zcnt (fun q => ro c q == zvl pl ch k q) pl) = zmx (zsc pl cp ch ro s pl k) c by omega] at ih1
              exact ih1
            · rw [show max (zmx (zsc pl cp ch ro s pl k) c) (zcnt (fun q => ro c q == zvl pl ch k q) pl) = zcnt (fun q => ro c q == zvl pl ch k q) pl by omega] at ih1
              exact ih1
      exact loop cp 0 (by omega)
  have key : ∀ (m k : Nat) (st : Nat × Option Nat) (M4 : zMem), k + (m + 1) = T → zfR M2 M4 → (∀ q, q < pl → M4 70 q = zvl pl ch k q) → (∀ b, st.2 = some b → ∀ q, q < pl → M4 74 q = zvl pl ch b q) → st.1 ≤ 100 → zhs f (m + 1) k st = zhs f T 0 (100, none) →
      zBg (d + 4) 165 38 [zR 55, zI (s : Int), zI y, zI (st.1 : Int), zI 1, none, none, none] [] M4 (fun q M' => ∃ w : Int, q = some (.inl w) ∧ zsHidden pl cp ch me ro hw (s : Int) y w ∧ zfR M2 M') := by
    intro m
    induction m with
    | zero =>
      intro k st M4 hkm f4 hr4 hb4 h100 hz
      refine body _ k st M4 f4 hr4 (by omega) hb4 h100 (fun M5 w f5 hb5 hn => ?_)
      rcases hn with ⟨_, h9, _⟩ | ⟨rfl, _⟩
      · rw [hT] at h9; omega
      · exact zv165_38 _ _ _ _ ⟨fun _ => fin _ M5 hz f5 hb5, fun h => absurd rfl h⟩
    | succ m ih =>
      intro k st M4 hkm f4 hr4 hb4 h100 hz
      refine body _ k st M4 f4 hr4 (by omega) hb4 h100 (fun M5 w f5 hb5 hn => ?_)
      rcases hn with ⟨rfl, h9, h10⟩ | ⟨_, h9⟩
      · refine ih (k + 1) _ M5 (by omega) f5 h10 hb5 ?_ hz
        split
        · simp only []; omega
        · exact h100
      · rw [hT] at h9; omega
  have hTp : 0 < T := by rw [← hT]; exact zwq_pos' zn6_pos
  refine key (T - 1) 0 (100, none) M3 (by omega) f3 (fun q hq => ?_) (fun b hb => by cases hb) (Nat.le_refl _) (by rw [show T - 1 + 1 = T by omega])
  rw [a2 q (by omega)]
  have := hch2 q hq
  unfold zvl zv6
  rw [zdt_0, if_pos (by omega)]
  rfl
