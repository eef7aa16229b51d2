/-! the class's calls could, maker, blamed, unjust, count, past -/
def zCC (M : zMem) (pl cp : Nat) (ch : Nat → Nat) (me : Nat → Int) (ro : Nat → Nat → Nat) (ms hw : Nat) (v : Nat → Nat) : Prop := zWF pl cp ch me ro ∧ zRC M pl cp ch me ro ∧ M 4 11 = ms ∧ M 4 12 = hw ∧ 1 ≤ ms ∧ ms ≤ 3 ∧ ∀ p, p < pl → M 8 p = v p ∧ v p ≤ 5
def zfC (M M' : zMem) : Prop := ∀ k, k ≠ 1 → k ≠ 12 → (k < 36 ∨ 54 < k) → M' k = M k
theorem zfC.rf {M : zMem} : zfC M M := fun _ _ _ _ => rfl
theorem zfC.tr {M M1 M2 : zMem} (h : zfC M M1) (h2 : zfC M1 M2) : zfC M M2 := fun k a b c => by rw [h2 k a b c, h k a b c]
theorem zRC.fr {M M' : zMem} {pl cp : Nat} {ch : Nat → Nat} {me : Nat → Int} {ro : Nat → Nat → Nat} (h : zfC M M') (hr : zRC M pl cp ch me ro) : zRC M' pl cp ch me ro := by
  unfold zRC
  rw [h 13 (by decide) (by decide) (by decide), h 4 (by decide) (by decide) (by decide), h 15 (by decide) (by decide) (by decide), h 6 (by decide) (by decide) (by decide), h 7 (by decide) (by decide) (by decide)]
  exact hr
theorem zCC.fr {M M' : zMem} {pl cp ms hw : Nat} {ch : Nat → Nat} {me : Nat → Int} {ro : Nat → Nat → Nat} {v : Nat → Nat} (h : zfC M M') (hr : zCC M pl cp ch me ro ms hw v) : zCC M' pl cp ch me ro ms hw v := by
  obtain ⟨h1, h2, h3, h4, h5, h6, h7⟩ := hr
  refine ⟨h1, h2.fr h, ?_, ?_, h5, h6, ?_⟩
  · rw [h 4 (by decide) (by decide) (by decide)]; exact h3
  · rw [h 4 (by decide) (by decide) (by decide)]; exact h4
  · rw [h 8 (by decide) (by decide) (by decide)]; exact h7
def zisS (cp : Nat) (x : Int) : Prop := 0 < x ∧ x < ((2 ^ cp : Nat) : Int)
def zisC (cp : Nat) (x : Int) : Prop := 0 ≤ x ∧ x < (cp : Int)
theorem qc57 {d : Nat} {M : zMem} {cp : Nat} {x : Int} (h : M 4 9 = cp) (h8 : cp ≤ 8) : zCi d 57 [.inr (.inr 4), .inl x] M (fun r M' => (r = 1 ∧ zisS cp x ∨ r = 0 ∧ ¬ zisS cp x) ∧ M' = M) := by
  refine zk57 (zv57_0 _ ?_)
  rw [h, zb_shl1 (by omega)]
  unfold zisS
  refine ⟨fun h => ⟨Or.inl rfl, _, rfl, Or.inr ⟨rfl, by omega⟩, rfl⟩, fun h => ⟨fun h2 => ⟨Or.inl rfl, _, rfl, Or.inr ⟨rfl, by omega⟩, rfl⟩, fun h2 => ⟨Or.inr rfl, _, rfl, Or.inl ⟨rfl, by omega, by omega⟩, rfl⟩⟩⟩
theorem qc56 {d : Nat} {M : zMem} {cp : Nat} {x : Int} (h : M 4 9 = cp) : zCi d 56 [.inr (.inr 4), .inl x] M (fun r M' => (r = 1 ∧ zisC cp x ∨ r = 0 ∧ ¬ zisC cp x) ∧ M' = M) := by
  refine zk56 (zv56_0 _ ?_)
  rw [h]
  unfold zisC
  refine ⟨fun h => ⟨Or.inl rfl, _, rfl, Or.inr ⟨rfl, by omega⟩, rfl⟩, fun h => ⟨fun h2 => ⟨Or.inl rfl, _, rfl, Or.inr ⟨rfl, by omega⟩, rfl⟩, fun h2 => ⟨Or.inr rfl, _, rfl, Or.inl ⟨rfl, by omega, by omega⟩, rfl⟩⟩⟩
theorem qc107 {d : Nat} {M : zMem} {pl cp ms hw : Nat} {ch : Nat → Nat} {me : Nat → Int} {ro : Nat → Nat → Nat} {v : Nat → Nat} (hC : zCC M pl cp ch me ro ms hw v) :
    zCr (d + 2) 107 [.inr (.inr 0)] M (fun M' => zJn M' pl cp ch me ro ms hw ∧ zfC M M') := by
  obtain ⟨h1, h2, h3, h4, h5, h6, h7⟩ := hC
  refine zk107 (zv107_0 ?_)
  rw [h3, h4]
  refine ⟨_, qc9 h1 h2, ?_⟩
  rintro M1 ⟨a1, a2⟩
  exact ⟨rfl, a1, fun k _ _ h => a2 k (by omega) (by omega)⟩
theorem qc108 {d : Nat} {M : zMem} {pl cp ms hw : Nat} {ch : Nat → Nat} {me : Nat → Int} {ro : Nat → Nat → Nat} {v : Nat → Nat} (hC : zCC M pl cp ch me ro ms hw v) :
    zCr (d + 3) 108 [.inr (.inr 0)] M (fun M' => (M' 42 13 = ((zF pl cp ch me ro ms hw v).length : Int) ∧ M' 42 11 = (zsur (zF pl cp ch me ro ms hw v) : Int) ∧ M' 42 12 = (zsome (zF pl cp ch me ro ms hw v) : Int)) ∧ zfC M M') := by
  refine zk108 (zv108_0 ⟨_, qc107 hC, ?_⟩)
  rintro M1 ⟨a1, a2⟩
  have hC1 := hC.fr a2
  obtain ⟨h1, h2, h3, h4, h5, h6, h7⟩ := hC
  refine ⟨_, qc10 h1 a1 h6, ?_⟩
  rintro M2 ⟨b1, b2, b3⟩
  have f2 : zfC M M2 := a2.tr (fun k _ _ h => b3 k (by omega))
  refine ⟨_, qc60 (b := 0) (n := 6) (v := v) (h2.fr f2).1 h1.1 rfl (by have := h1.1; omega) (by decide) (fun p hp => by rw [f2 8 (by decide) (by decide) (by decide), Nat.zero_add]; exact h7 p hp), ?_⟩
  rintro w M3 ⟨rfl, rfl⟩
  refine ⟨_, qc15 h1 (fun p hp => (h7 p hp).2) b2 h6, ?_⟩
  rintro M4 ⟨c1, c2⟩
  exact ⟨rfl, c1, f2.tr (fun k _ _ h => c2 k (by omega))⟩
def zsCould (pl cp : Nat) (ch : Nat → Nat) (me : Nat → Int) (ro : Nat → Nat → Nat) (hw : Nat) (v : Nat → Nat) (x : Int) (r : Int) : Prop := (zisS cp x ∧ r = if zmk pl cp ch me ro hw v x.toNat then 1 else 0) ∨ (¬ zisS cp x ∧ r = -1)
theorem qc85 {d : Nat} {M : zMem} {pl cp ms hw : Nat} {ch : Nat → Nat} {me : Nat → Int} {ro : Nat → Nat → Nat} {v : Nat → Nat} {x : Int} (hC : zCC M pl cp ch me ro ms hw v) :
    zCi (d + 3) 85 [.inr (.inr 0), .inl x] M (fun r M' => zsCould pl cp ch me ro hw v x r ∧ zfC M M') := by
  have hC0 := hC
  obtain ⟨h1, h2, h3, h4, h5, h6, h7⟩ := hC
  refine zk85 (zv85_0 _ ⟨_, qc57 h2.2.1 h1.2.1, ?_⟩)
  rintro v1 M1 ⟨hv1, rfl⟩
  refine ⟨fun hz => ?_, fun hz => ?_⟩
  · have hx : zisS cp x := by rcases hv1 with ⟨_, h⟩ | ⟨h, _⟩ <;> first | exact h | exact absurd h hz
    obtain ⟨s, hs⟩ : ∃ s : Nat, x = (s : Int) := ⟨x.toNat, by have := hx.1; omega⟩
    subst hs
    unfold zisS at hx
    refine ⟨_, qc60 (b := 0) (n := 6) (v := v) h2.1 h1.1 rfl (by have := h1.1; omega) (by decide) (fun p hp => by rw [Nat.zero_add]; exact h7 p hp), ?_⟩
    rintro w M3 ⟨rfl, rfl⟩
    refine ⟨_, qc107 hC0, ?_⟩
    rintro M4 ⟨a1, a2⟩
    refine ⟨_, qc12 h1 a1 (by omega) (by omega), ?_⟩
    rintro w2 M5 ⟨rfl, rfl⟩
    rw [Ne, zmk_word h1 (fun p hp => (h7 p hp).2)]
    refine ⟨fun h => ⟨_, rfl, Or.inl ⟨hx, ?_⟩, a2⟩, fun h => ⟨_, rfl, Or.inl ⟨hx, ?_⟩, a2⟩⟩
    · rw [Int.toNat_natCast, if_neg h]
    · rw [Decidable.not_not] at h
      rw [Int.toNat_natCast, if_pos h]
  · have hx : ¬ zisS cp x := by rcases hv1 with ⟨h, _⟩ | ⟨_, h⟩ <;> first | exact h | exact absurd (by omega) hz
    exact ⟨_, rfl, Or.inr ⟨hx, rfl⟩, zfC.rf⟩
def zsMaker (F : List Nat) (x : Int) (r : Int) : Prop := r = if x < 0 then -1 else zith F x.toNat
theorem qc86 {d : Nat} {M : zMem} {pl cp ms hw : Nat} {ch : Nat → Nat} {me : Nat → Int} {ro : Nat → Nat → Nat} {v : Nat → Nat} {x : Int} (hC : zCC M pl cp ch me ro ms hw v) (hx : zR32 x) :
    zCi (d + 3) 86 [.inr (.inr 0), .inl x] M (fun r M' => zsMaker (zF pl cp ch me ro ms hw v) x r ∧ zfC M M') := by
  refine zk86 (zv86_0 _ ⟨fun h => ⟨_, qc107 hC, ?_⟩, fun h => ⟨_, rfl, ?_, zfC.rf⟩⟩)
  · rintro M1 ⟨a1, a2⟩
    obtain ⟨h1, h2, h3, h4, h5, h6, h7⟩ := hC
    refine ⟨_, qc10 h1 a1 h6, ?_⟩
    rintro M2 ⟨b1, b2, b3⟩
    have f2 : zfC M M2 := a2.tr (fun k _ _ h => b3 k (by omega))
    refine ⟨_, qc60 (b := 0) (n := 6) (v := v) (h2.fr f2).1 h1.1 rfl (by have := h1.1; omega) (by decide) (fun p hp => by rw [f2 8 (by decide) (by decide) (by decide), Nat.zero_add]; exact h7 p hp), ?_⟩
    rintro w M3 ⟨rfl, rfl⟩
    obtain ⟨i, hi⟩ : ∃ i : Nat, x = (i : Int) := ⟨x.toNat, by omega⟩
    subst hi
    have hx2 := hx.2
    refine ⟨_, qc14 h1 (fun p hp => (h7 p hp).2) b2 (zSs_92 cp (by have := h1.2.1; omega) ms (by omega)) (by omega), ?_⟩
    rintro w2 M5 ⟨rfl, rfl⟩
    refine ⟨_, rfl, ?_, f2⟩
    unfold zsMaker
    rw [if_neg (by omega), Int.toNat_natCast]
    rfl
  · unfold zsMaker
    rw [if_pos (by omega)]
def zsBlamed (F : List Nat) (x : Int) (r : Int) : Prop := r = if x = 0 then (zsur F : Int) else if x = 1 then (zsome F : Int) else -1
theorem qc87 {d : Nat} {M : zMem} {pl cp ms hw : Nat} {ch : Nat → Nat} {me : Nat → Int} {ro : Nat → Nat → Nat} {v : Nat → Nat} {x : Int} (hC : zCC M pl cp ch me ro ms hw v) :
    zCi (d + 4) 87 [.inr (.inr 0), .inl x] M (fun r M' => zsBlamed (zF pl cp ch me ro ms hw v) x r ∧ zfC M M') := by
  refine zk87 (zv87_0 _ ⟨fun h => ⟨_, qc108 hC, ?_⟩, fun h => ⟨fun h1 => ⟨_, qc108 hC, ?_⟩, fun h1 => ⟨_, rfl, ?_, zfC.rf⟩⟩⟩)
  · rintro M1 ⟨⟨a1, a2, a3⟩, a4⟩
    refine ⟨fun h2 => absurd h h2, fun _ => ⟨_, rfl, ?_, a4⟩⟩
    unfold zsBlamed
    rw [if_pos h, a2]
  · rintro M1 ⟨⟨a1, a2, a3⟩, a4⟩
    refine ⟨fun _ => ⟨_, rfl, ?_, a4⟩, fun h2 => absurd h h2⟩
    unfold zsBlamed
    rw [if_neg h, if_pos h1, a3]
  · unfold zsBlamed
    rw [if_neg h, if_neg h1]
def zsUnjust (cp : Nat) (F : List Nat) (x : Int) (r : Int) : Prop := (¬ zisS cp x ∧ r = -1) ∨ (zisS cp x ∧ r = if F = [] then -2 else if x.toNat &&& (zsur F ^^^ 4294967295) = 0 then -4 else (zlow (x.toNat &&& (zsur F ^^^ 4294967295)) : Int))
theorem qc88 {d : Nat} {M : zMem} {pl cp ms hw : Nat} {ch : Nat → Nat} {me : Nat → Int} {ro : Nat → Nat → Nat} {v : Nat → Nat} {x : Int} (hC : zCC M pl cp ch me ro ms hw v) :
    zCi (d + 4) 88 [.inr (.inr 0), .inl x] M (fun r M' => zsUnjust cp (zF pl cp ch me ro ms hw v) x r ∧ zfC M M') := by
  have hC0 := hC
  obtain ⟨h1, h2, h3, h4, h5, h6, h7⟩ := hC
  refine zk88 (zv88_0 _ ⟨_, qc57 h2.2.1 h1.2.1, ?_⟩)
  rintro v1 M1 ⟨hv1, rfl⟩
  refine ⟨fun hz => ?_, fun hz => ?_⟩
  · have hx : zisS cp x := by rcases hv1 with ⟨_, h⟩ | ⟨h, _⟩ <;> first | exact h | exact absurd h hz
    obtain ⟨s, hs⟩ : ∃ s : Nat, x = (s : Int) := ⟨x.toNat, by have := hx.1; omega⟩
    subst hs
    have h256 : 2 ^ cp ≤ 2 ^ 8 := zb_p2le h1.2.1
    have hs256 : s < 256 := by have := hx.2; omega
    refine ⟨_, qc108 hC0, ?_⟩
    rintro M2 ⟨⟨a1, a2, a3⟩, a4⟩
    rw [a1, a2, zb_andn (by omega)]
    refine ⟨fun hn => ⟨fun hw0 => ?_, fun hw0 => ⟨_, rfl, Or.inr ⟨hx, ?_⟩, a4⟩⟩, fun hn => ⟨_, rfl, Or.inr ⟨hx, ?_⟩, a4⟩⟩
    · have hlt : s &&& (zsur (zF pl cp ch me ro ms hw v) ^^^ 4294967295) < 256 := Nat.lt_of_le_of_lt Nat.and_le_left hs256
      refine ⟨_, qc179 (by omega) hlt, ?_⟩
      rintro w M3 ⟨rfl, rfl⟩
      refine ⟨_, rfl, Or.inr ⟨hx, ?_⟩, a4⟩
      rw [if_neg (by intro e; rw [e] at hn; exact hn rfl), Int.toNat_natCast, if_neg (by omega)]
    · rw [if_neg (by intro e; rw [e] at hn; exact hn rfl), Int.toNat_natCast, if_pos (by omega)]
    · rw [if_pos (List.length_eq_zero_iff.mp (by omega))]
  · have hx : ¬ zisS cp x := by rcases hv1 with ⟨h, _⟩ | ⟨_, h⟩ <;> first | exact h | exact absurd (by omega) hz
    exact ⟨_, rfl, Or.inl ⟨hx, rfl⟩, zfC.rf⟩
/-- how many of the first n values are 5 -/
def zlost (v : Nat → Nat) : Nat → Nat
  | 0 => 0
  | n + 1 => zlost v n + (if v n = 5 then 1 else 0)
theorem zlost_le {v : Nat → Nat} : ∀ n, zlost v n ≤ n := by
  intro n
  induction n with
  | zero => exact Nat.le_refl _
  | succ n ih => simp only [zlost]; split <;> omega
theorem qc61 {d : Nat} {M : zMem} {pl : Nat} {v : Nat → Nat} (hpl : M 13 6 = pl) (h6 : pl ≤ 6) (hv : ∀ p, p < pl → M 8 p = v p) : zCi d 61 [.inr (.inr 4)] M (fun r M' => r = (zlost v pl : Int) ∧ M' = M) := by
  refine zk61 (zv61_0 ?_)
  have key : ∀ (m p : Nat), p + m = pl → zBg d 61 4 [zR 4, zI (zlost v p : Int), zI (p : Int)] [] M (fun r M' => ∃ w : Int, r = some (.inl w) ∧ w = (zlost v pl : Int) ∧ M' = M) := by
    intro m
    induction m with
    | zero =>
      intro p hp
      have : p = pl := by omega
      subst this
      exact zv61_4 _ _ ⟨fun _ => ⟨_, rfl, rfl, rfl⟩, fun h => absurd (by omega) h⟩
    | succ m ih =>
      intro p hp
      have ih1 := ih (p + 1) (by omega)
      have hl := zlost_le (v := v) p
      simp only [zlost] at ih1
      refine zv61_4 _ _ ⟨fun h => by omega, fun _ => ?_⟩
      rw [Int.toNat_natCast, hv p (by omega)]
      refine ⟨by omega, by omega, fun h => ⟨⟨by omega, by omega⟩, ⟨by omega, by omega⟩, ?_⟩, fun h => ⟨⟨by omega, by omega⟩, ⟨by omega, by omega⟩, ?_⟩⟩
      · rw [if_neg (by omega)] at ih1
        simpa using ih1
      · rw [if_pos (by omega)] at ih1
        simpa using ih1
  exact key pl 0 (by omega)
def zsCount (pl cp pn sz : Nat) (F : List Nat) (v : Nat → Nat) (x : Int) (r : Int) : Prop := r = if x = 0 then (pl : Int) else if x = 1 then (cp : Int) else if x = 2 then (pn : Int) else if x = 3 then (sz : Int) else if x = 4 then (F.length : Int) else if x = 5 then (zlost v pl : Int) else -1
theorem qc82 {d : Nat} {M : zMem} {pl cp ms hw pn sz : Nat} {ch : Nat → Nat} {me : Nat → Int} {ro : Nat → Nat → Nat} {v : Nat → Nat} {x : Int} (hC : zCC M pl cp ch me ro ms hw v) (hpn : M 4 10 = pn) (hsz : M 13 5 = sz) :
    zCi (d + 4) 82 [.inr (.inr 0), .inl x] M (fun r M' => zsCount pl cp pn sz (zF pl cp ch me ro ms hw v) v x r ∧ zfC M M') := by
  have hC0 := hC
  obtain ⟨h1, h2, h3, h4, h5, h6, h7⟩ := hC
  unfold zsCount
  refine zk82 (zv82_0 _ ⟨⟨fun h => ⟨_, rfl, ?_, zfC.rf⟩, fun h => ⟨_, rfl, ?_, zfC.rf⟩, fun h => ⟨_, rfl, ?_, zfC.rf⟩, fun h => ⟨_, rfl, ?_, zfC.rf⟩, fun h => ⟨_, qc108 hC0, ?_⟩, fun h => ⟨_, qc61 (v := v) h2.1 h1.1 (fun p hp => (h7 p hp).1), ?_⟩, trivial⟩, fun h => ⟨_, rfl, ?_, zfC.rf⟩⟩)
  · rw [if_pos h, h2.1]
  · rw [if_neg (by omega), if_pos h, h2.2.1]
  · rw [if_neg (by omega), if_neg (by omega), if_pos h, hpn]
  · rw [if_neg (by omega), if_neg (by omega), if_neg (by omega), if_pos h, hsz]
  · rintro M1 ⟨⟨a1, a2, a3⟩, a4⟩
    refine ⟨_, rfl, ?_, a4⟩
    rw [if_neg (by omega), if_neg (by omega), if_neg (by omega), if_neg (by omega), if_pos h, a1]
  · rintro w M1 ⟨rfl, rfl⟩
    refine ⟨_, rfl, ?_, zfC.rf⟩
    rw [if_neg (by omega), if_neg (by omega), if_neg (by omega), if_neg (by omega), if_neg (by omega), if_pos h]
  · rw [if_neg (by omega), if_neg (by omega), if_neg (by omega), if_neg (by omega), if_neg (by omega), if_neg (by omega)]
/-- in how many of the first n pasts the copy c is sure, may be -/
def zpst (pl cp : Nat) (ch : Nat → Nat) (me : Nat → Int) (ro : Nat → Nat → Nat) (pp : Nat → Nat → Nat) (pm ph : Nat → Nat) (c what : Nat) : Nat → Nat
  | 0 => 0
  | n + 1 => zpst pl cp ch me ro pp pm ph c what n + (if (if what = 0 then zsur (zF pl cp ch me ro (pm n) (ph n) (pp n)) else zsome (zF pl cp ch me ro (pm n) (ph n) (pp n))).testBit c then 1 else 0)
theorem zpst_le {pl cp : Nat} {ch : Nat → Nat} {me : Nat → Int} {ro : Nat → Nat → Nat} {pp : Nat → Nat → Nat} {pm ph : Nat → Nat} {c what : Nat} : ∀ n, zpst pl cp ch me ro pp pm ph c what n ≤ n := by
  intro n
  induction n with
  | zero => exact Nat.le_refl _
  | succ n ih => simp only [zpst]; split <;> split <;> omega
def zsPast (pl cp : Nat) (ch : Nat → Nat) (me : Nat → Int) (ro : Nat → Nat → Nat) (pn : Nat) (pp : Nat → Nat → Nat) (pm ph : Nat → Nat) (x y : Int) (r : Int) : Prop := (¬ (zisC cp x ∧ (y = 0 ∨ y = 1)) ∧ r = -1) ∨ ((zisC cp x ∧ (y = 0 ∨ y = 1)) ∧ r = (zpst pl cp ch me ro pp pm ph x.toNat y.toNat pn : Int))
theorem qc100 {d : Nat} {M : zMem} {pl cp ms hw pn : Nat} {ch : Nat → Nat} {me : Nat → Int} {ro : Nat → Nat → Nat} {v : Nat → Nat} {pp : Nat → Nat → Nat} {pm ph : Nat → Nat} {x y : Int} (hC : zCC M pl cp ch me ro ms hw v) (hpn : M 4 10 = pn) (hp6 : pn ≤ 6) (hpp : ∀ k, k < pn → M 10 k = pm k ∧ M 11 k = ph k ∧ pm k ≤ 3 ∧ ∀ p, p < pl → M 9 (6 * k + p) = pp k p ∧ pp k p ≤ 5) :
    zCi (d + 3) 100 [.inr (.inr 0), .inl x, .inl y] M (fun r M' => zsPast pl cp ch me ro pn pp pm ph x y r ∧ zfC M M') := by
  have hC0 := hC
  obtain ⟨h1, h2, h3, h4, h5, h6, h7⟩ := hC
  have hcp := h1.2.1
  have key : ∀ (c w : Nat), c < cp → w < 2 → ∀ (m k : Nat) (M1 : zMem), k + m = pn → zfC M M1 → zBg (d + 3) 100 27 [zR 0, zI (c : Int), zI (w : Int), zI (zpst pl cp ch me ro pp pm ph c w k : Int), zI (k : Int), none] [] M1 (fun r M' => ∃ z : Int, r = some (.inl z) ∧ z = (zpst pl cp ch me ro pp pm ph c w pn : Int) ∧ zfC M M') := by
    intro c w hc hw2 m
    induction m with
    | zero =>
      intro k M1 hk f1
      have : k = pn := by omega
      subst this
      refine zv100_27 _ _ _ _ ⟨fun _ => ⟨_, rfl, rfl, f1⟩, fun h => absurd ?_ h⟩
      rw [f1 4 (by decide) (by decide) (by decide), hpn]
      omega
    | succ m ih =>
      intro k M1 hk f1
      obtain ⟨p1, p2, p3, p4⟩ := hpp k (by omega)
      have hle := zpst_le (pl := pl) (cp := cp) (ch := ch) (me := me) (ro := ro) (pp := pp) (pm := pm) (ph := ph) (c := c) (what := w) k
      refine zv100_27 _ _ _ _ ⟨fun h => ?_, fun _ => ?_⟩
      · rw [f1 4 (by decide) (by decide) (by decide), hpn] at h
        omega
      · rw [Int.toNat_natCast, f1 10 (by decide) (by decide) (by decide), f1 11 (by decide) (by decide) (by decide), p1, p2]
        refine ⟨by omega, by omega, by omega, by omega, _, qc9 h1 (h2.fr f1), ?_⟩
        rintro M2 ⟨a1, a2⟩
        refine ⟨_, qc10 h1 a1 p3, ?_⟩
        rintro M3 ⟨b1, b2, b3⟩
        have f3 : zfC M M3 := (f1.tr (fun k _ _ h => a2 k (by omega) (by omega))).tr (fun k _ _ h => b3 k (by omega))
        rw [show (k : Int) * 6 = ((6 * k : Nat) : Int) by omega]
        refine ⟨⟨by omega, by omega⟩, _, qc60 (n := 36) (v := pp k) (h2.fr f3).1 h1.1 rfl (by have := h1.1; omega) (by decide) (fun p hp => by rw [f3 9 (by decide) (by decide) (by decide)]; exact p4 p hp), ?_⟩
        rintro u M4 ⟨rfl, rfl⟩
        refine ⟨_, qc15 h1 (fun p hp => (p4 p hp).2) b2 p3, ?_⟩
        rintro M5 ⟨⟨c1, c2, c3⟩, c4⟩
        have f5 : zfC M M5 := f3.tr (fun k _ _ h => c4 k (by omega))
        have ih1 := ih (k + 1) M5 (by omega) f5
        simp only [zpst] at ih1
        rw [c2, c3]
        have s1 := zsur_lt (F := zF pl cp ch me ro (pm k) (ph k) (pp k))
        have s2 := zsome_lt (F := zF pl cp ch me ro (pm k) (ph k) (pp k)) (zF_256 hcp)
        rw [zb_bit (by omega) (by omega), zb_bit (by omega) (by omega)]
        refine ⟨fun h => ?_, fun h => ?_⟩
        · have hw0 : w ≠ 0 := by omega
          simp only [if_neg hw0] at ih1
          refine ⟨by split <;> exact ⟨by omega, by omega⟩, ⟨by omega, by omega⟩, ?_⟩
          split
          · rename_i hb; rw [if_pos hb] at ih1; simpa using ih1
          · rename_i hb; rw [if_neg hb] at ih1; simpa using ih1
        · have hw0 : w = 0 := by omega
          simp only [if_pos hw0] at ih1
          refine ⟨by split <;> exact ⟨by omega, by omega⟩, ⟨by omega, by omega⟩, ?_⟩
          split
          · rename_i hb; rw [if_pos hb] at ih1; simpa using ih1
          · rename_i hb; rw [if_neg hb] at ih1; simpa using ih1
  refine zk100 (zv100_0 _ _ ⟨_, qc56 h2.2.1, ?_⟩)
  rintro v1 M1 ⟨hv1, rfl⟩
  refine ⟨fun hz => ?_, fun hz => ?_⟩
  · have hx : ¬ zisC cp x := by rcases hv1 with ⟨h, _⟩ | ⟨_, h⟩ <;> first | exact h | omega
    exact ⟨_, rfl, Or.inl ⟨fun h => hx h.1, rfl⟩, zfC.rf⟩
  · have hx : zisC cp x := by rcases hv1 with ⟨_, h⟩ | ⟨h, _⟩ <;> first | exact h | exact absurd h hz
    have go : (y = 0 ∨ y = 1) → zBg (d + 3) 100 27 [zR 0, zI x, zI y, zI 0, zI 0, none] [] M1 (fun r M' => ∃ z : Int, r = some (.inl z) ∧ zsPast pl cp ch me ro pn pp pm ph x y z ∧ zfC M1 M') := by
      intro hy
      obtain ⟨c, hc⟩ : ∃ c : Nat, x = (c : Int) := ⟨x.toNat, by have := hx.1; omega⟩
      obtain ⟨w, hw2⟩ : ∃ w : Nat, y = (w : Int) := ⟨y.toNat, by omega⟩
      subst hc hw2
      refine zBg.mono (key c w (by have := hx.2; omega) (by omega) pn 0 M1 (by omega) zfC.rf) ?_
      rintro r M' ⟨z, e1, e2, e3⟩
      exact ⟨z, e1, Or.inr ⟨⟨hx, hy⟩, by simpa using e2⟩, e3⟩
    refine ⟨fun h => go (Or.inl h), fun h => ⟨fun h2 => go (Or.inr h2), fun h2 => ⟨_, rfl, Or.inl ⟨fun h3 => ?_, rfl⟩, zfC.rf⟩⟩⟩
    rcases h3.2 with h3 | h3 <;> contradiction
