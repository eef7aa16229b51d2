/-! isChoice, costs, put and putAll of both sides -/
def zisH (pl : Nat) (ch : Nat → Nat) (x y : Int) : Prop := zisC pl x ∧ 0 ≤ y ∧ y < ch x.toNat
theorem qc35 {d : Nat} {M : zMem} {pl : Nat} {ch : Nat → Nat} {x y : Int} (hpl : M 13 6 = pl) (h6 : pl ≤ 6) (hch : ∀ q, q < pl → M 15 q = ch q) : zCi (d + 1) 35 [.inr (.inr 13), .inl x, .inl y] M (fun r M' => (r = 1 ∧ zisH pl ch x y ∨ r = 0 ∧ ¬ zisH pl ch x y) ∧ M' = M) := by
  refine zk35 (zv35_0 _ _ ⟨_, qc34 hpl, ?_⟩)
  rintro v M1 ⟨hv, rfl⟩
  refine ⟨fun h => ⟨Or.inl rfl, _, rfl, Or.inr ⟨rfl, fun hh => ?_⟩, rfl⟩, fun h => ?_⟩
  · rcases hv with ⟨a, _⟩ | ⟨_, a⟩
    · omega
    · exact a hh.1
  · have hx : zisC pl x := by
      rcases hv with ⟨_, a⟩ | ⟨a, _⟩
      · exact a
      · exact absurd a h
    have x1 := hx.1
    have x2 := hx.2
    rw [hch x.toNat (by omega)]
    refine ⟨fun h2 => ⟨Or.inl rfl, _, rfl, Or.inr ⟨rfl, fun hh => by have := hh.2.1; omega⟩, rfl⟩, fun h2 => ⟨by omega, by omega, fun h3 => ⟨Or.inl rfl, _, rfl, Or.inr ⟨rfl, fun hh => by have := hh.2.2; omega⟩, rfl⟩, fun h3 => ⟨Or.inr rfl, _, rfl, Or.inl ⟨rfl, hx, by omega, by omega⟩, rfl⟩⟩⟩
theorem qc116 {d : Nat} {M : zMem} {pl : Nat} {ch : Nat → Nat} {x y : Int} (hpl : M 55 4 = pl) (h6 : pl ≤ 6) (hch : ∀ q, q < pl → M 60 q = ch q ∧ ch q ≤ 4) : zCi (d + 2) 116 [.inr (.inr 55), .inl x, .inl y] M (fun r M' => (r = 1 ∧ zisH pl ch x y ∨ r = 0 ∧ ¬ zisH pl ch x y) ∧ M' = M) := by
  refine zk116 (zv116_0 _ _ ⟨_, qc115 hpl h6, ?_⟩)
  rintro v M1 ⟨hv, rfl⟩
  refine ⟨fun h => ⟨Or.inl rfl, _, rfl, Or.inr ⟨rfl, fun hh => ?_⟩, rfl⟩, fun h => ?_⟩
  · rcases hv with ⟨a, _⟩ | ⟨_, a⟩
    · omega
    · exact a hh.1
  · have hx : zisC pl x := by
      rcases hv with ⟨_, a⟩ | ⟨a, _⟩
      · exact a
      · exact absurd a h
    have x1 := hx.1
    have x2 := hx.2
    obtain ⟨c1, c2⟩ := hch x.toNat (by omega)
    rw [c1]
    refine ⟨by omega, by omega, ⟨by omega, by omega⟩, _, qc110, ?_⟩
    rintro v2 M2 ⟨hv2, rfl⟩
    refine ⟨fun h2 => ⟨Or.inl rfl, _, rfl, Or.inr ⟨rfl, fun hh => ?_⟩, rfl⟩, fun h2 => ⟨Or.inr rfl, _, rfl, Or.inl ⟨rfl, hx, by omega, by omega⟩, rfl⟩⟩
    have a1 := hh.2.1
    have a2 := hh.2.2
    omega
def zcs (co r : Nat → Nat) : Nat → Nat
  | 0 => 0
  | p + 1 => zcs co r p + co (4 * p + r p)
theorem zcs_le {co r : Nat → Nat} : ∀ {p : Nat}, (∀ q, q < p → co (4 * q + r q) ≤ 9) → zcs co r p ≤ 9 * p := by
  intro p
  induction p with
  | zero => intro _; exact Nat.zero_le _
  | succ p ih =>
    intro h
    have h1 := ih (fun q hq => h q (by omega))
    have h2 := h p (by omega)
    simp only [zcs]
    omega
theorem zcs_congr {co r r' : Nat → Nat} : ∀ {p : Nat}, (∀ q, q < p → r q = r' q) → zcs co r p = zcs co r' p := by
  intro p
  induction p with
  | zero => intro _; rfl
  | succ p ih =>
    intro h
    simp only [zcs]
    rw [ih (fun q hq => h q (by omega)), h p (by omega)]
theorem qc63 {d : Nat} {M : zMem} {pl c : Nat} {co r : Nat → Nat} (hpl : M 13 6 = pl) (h6 : pl ≤ 6) (hc : c < 8) (hr : ∀ p, p < pl → M 7 (6 * c + p) = r p ∧ r p < 4) (hco : ∀ i, i < 24 → M 5 i = co i ∧ co i ≤ 9) :
    zCi d 63 [.inr (.inr 4), .inl (c : Int)] M (fun w M' => w = (zcs co r pl : Int) ∧ M' = M) := by
  refine zk63 (zv63_0 _ ?_)
  have key : ∀ (m p : Nat), p + m = pl → zBg d 63 4 [zR 4, zI (c : Int), zI (zcs co r p : Int), zI (p : Int)] [] M (fun q M' => ∃ w : Int, q = some (.inl w) ∧ w = (zcs co r pl : Int) ∧ M' = M) := by
    intro m
    induction m with
    | zero =>
      intro p hp
      have : p = pl := by omega
      subst this
      exact zv63_4 _ _ _ ⟨fun _ => ⟨_, rfl, rfl, rfl⟩, fun h => absurd (by omega) h⟩
    | succ m ih =>
      intro p hp
      have ih1 := ih (p + 1) (by omega)
      simp only [zcs] at ih1
      obtain ⟨r1, r2⟩ := hr p (by omega)
      obtain ⟨k1, k2⟩ := hco (4 * p + r p) (by omega)
      have hl := zcs_le (co := co) (r := r) (p := p) (fun q hq => (hco (4 * q + r q) (by have := (hr q (by omega)).2; omega)).2)
      refine zv63_4 _ _ _ ⟨fun h => by omega, fun _ => ?_⟩
      rw [show ((c : Int) * 6 + (p : Int)).toNat = 6 * c + p by omega, r1, show ((p : Int) * 4 + (r p : Int)).toNat = 4 * p + r p by omega, k1]
      exact ⟨⟨by omega, by omega⟩, ⟨by omega, by omega⟩, ⟨by omega, by omega⟩, by omega, by omega, ⟨by omega, by omega⟩, by omega, by omega, ⟨by omega, by omega⟩, ⟨by omega, by omega⟩, ih1⟩
  exact key pl 0 (by omega)
theorem qc126 {d : Nat} {M : zMem} {pl c : Nat} {co r : Nat → Nat} (hpl : M 55 4 = pl) (h6 : pl ≤ 6) (hc : c < 8) (hr : ∀ p, p < pl → M 65 (6 * c + p) = r p ∧ r p < 4) (hco : ∀ i, i < 24 → M 63 i = co i ∧ co i ≤ 9) :
    zCi d 126 [.inr (.inr 55), .inl (c : Int)] M (fun w M' => w = (zcs co r pl : Int) ∧ M' = M) := by
  refine zk126 (zv126_0 _ ?_)
  have key : ∀ (m p : Nat), p + m = pl → zBg d 126 4 [zR 55, zI (c : Int), zI (zcs co r p : Int), zI (p : Int)] [] M (fun q M' => ∃ w : Int, q = some (.inl w) ∧ w = (zcs co r pl : Int) ∧ M' = M) := by
    intro m
    induction m with
    | zero =>
      intro p hp
      have : p = pl := by omega
      subst this
      exact zv126_4 _ _ _ ⟨fun _ => ⟨_, rfl, rfl, rfl⟩, fun h => absurd (by omega) h⟩
    | succ m ih =>
      intro p hp
      have ih1 := ih (p + 1) (by omega)
      simp only [zcs] at ih1
      obtain ⟨r1, r2⟩ := hr p (by omega)
      obtain ⟨k1, k2⟩ := hco (4 * p + r p) (by omega)
      have hl := zcs_le (co := co) (r := r) (p := p) (fun q hq => (hco (4 * q + r q) (by have := (hr q (by omega)).2; omega)).2)
      refine zv126_4 _ _ _ ⟨fun h => by omega, fun _ => ?_⟩
      rw [show (6 * (c : Int) + (p : Int)).toNat = 6 * c + p by omega, r1, show (4 * (p : Int) + (r p : Int)).toNat = 4 * p + r p by omega, k1]
      exact ⟨⟨by omega, by omega⟩, ⟨by omega, by omega⟩, ⟨by omega, by omega⟩, by omega, by omega, ⟨by omega, by omega⟩, by omega, by omega, ⟨by omega, by omega⟩, ⟨by omega, by omega⟩, ih1⟩
  exact key pl 0 (by omega)
def zsCostOf (pl cp : Nat) (co : Nat → Nat) (ro : Nat → Nat → Nat) (x r : Int) : Prop := (¬ zisC cp x ∧ r = -1) ∨ (zisC cp x ∧ r = (zcs co (ro x.toNat) pl : Int))
theorem zWF_4 {pl cp : Nat} {ch : Nat → Nat} {me : Nat → Int} {ro : Nat → Nat → Nat} (hF : zWF pl cp ch me ro) {c p : Nat} (hc : c < cp) (hp : p < pl) : ro c p < 4 := by
  have := hF.2.2.2 c hc p hp
  have := (hF.2.2.1 p hp).2.1
  omega
theorem qc80 {d : Nat} {M : zMem} {pl cp : Nat} {ch co : Nat → Nat} {me : Nat → Int} {ro : Nat → Nat → Nat} {x : Int} (hF : zWF pl cp ch me ro) (hR : zRC M pl cp ch me ro) (hco : ∀ i, i < 24 → M 5 i = co i ∧ co i ≤ 9) :
    zCi (d + 1) 80 [.inr (.inr 0), .inl x] M (fun r M' => zsCostOf pl cp co ro x r ∧ M' = M) := by
  refine zk80 (zv80_0 _ ⟨_, qc56 hR.2.1, ?_⟩)
  rintro v M1 ⟨hv, rfl⟩
  refine ⟨fun h => ⟨_, rfl, Or.inl ⟨?_, rfl⟩, rfl⟩, fun h => ?_⟩
  · rcases hv with ⟨a, _⟩ | ⟨_, a⟩
    · omega
    · exact a
  · have hx : zisC cp x := by
      rcases hv with ⟨_, a⟩ | ⟨a, _⟩
      · exact a
      · exact absurd a h
    have x1 := hx.1
    have x2 := hx.2
    have hcp := hF.2.1
    obtain ⟨c, rfl⟩ : ∃ c : Nat, x = (c : Int) := ⟨x.toNat, by omega⟩
    refine ⟨_, qc63 (r := ro c) hR.1 hF.1 (by omega) (fun p hp => ⟨hR.2.2.2.2 c (by omega) p hp, zWF_4 hF (by omega) hp⟩) hco, ?_⟩
    rintro v2 M2 ⟨rfl, rfl⟩
    exact ⟨_, rfl, Or.inr ⟨hx, by rw [Int.toNat_natCast]⟩, rfl⟩
theorem qc127 {d : Nat} {M : zMem} {pl cp : Nat} {ch co : Nat → Nat} {me : Nat → Int} {ro : Nat → Nat → Nat} {x : Int} (hF : zWF pl cp ch me ro) (hR : zRR M pl cp ch me ro) (hco : ∀ i, i < 24 → M 63 i = co i ∧ co i ≤ 9) :
    zCi (d + 2) 127 [.inr (.inr 55), .inl x] M (fun r M' => zsCostOf pl cp co ro x r ∧ M' = M) := by
  refine zk127 (zv127_0 _ ⟨_, qc121 hR.2.1 hF.2.1, ?_⟩)
  rintro v M1 ⟨hv, rfl⟩
  refine ⟨fun h => ⟨_, rfl, Or.inl ⟨?_, rfl⟩, rfl⟩, fun h => ?_⟩
  · rcases hv with ⟨a, _⟩ | ⟨_, a⟩
    · omega
    · exact a
  · have hx : zisC cp x := by
      rcases hv with ⟨_, a⟩ | ⟨a, _⟩
      · exact a
      · exact absurd a h
    have x1 := hx.1
    have x2 := hx.2
    have hcp := hF.2.1
    obtain ⟨c, rfl⟩ : ∃ c : Nat, x = (c : Int) := ⟨x.toNat, by omega⟩
    refine ⟨_, qc126 (r := ro c) hR.1 hF.1 (by omega) (fun p hp => ⟨hR.2.2.2.2 c (by omega) p hp, zWF_4 hF (by omega) hp⟩) hco, ?_⟩
    rintro v2 M2 ⟨rfl, rfl⟩
    exact ⟨_, rfl, Or.inr ⟨hx, by rw [Int.toNat_natCast]⟩, rfl⟩
def zsPut (pl cp : Nat) (ch co : Nat → Nat) (ro : Nat → Nat → Nat) (x y r : Int) : Prop := (¬ zisH pl ch x y ∧ r = -1) ∨ (zisH pl ch x y ∧ r = (zsq (zbc co ro cp x.toNat (ch x.toNat)) y.toNat : Int))
theorem qc96 {d : Nat} {M : zMem} {pl cp : Nat} {ch co : Nat → Nat} {me : Nat → Int} {ro : Nat → Nat → Nat} {x y : Int} (hF : zWF pl cp ch me ro) (hR : zRC M pl cp ch me ro) (hco : ∀ i, i < 24 → M 5 i = co i ∧ co i ≤ 9) :
    zCi (d + 4) 96 [.inr (.inr 0), .inl x, .inl y] M (fun r M' => zsPut pl cp ch co ro x y r ∧ zfC M M') := by
  refine zk96 (zv96_0 _ _ ⟨_, qc35 hR.1 hF.1 hR.2.2.1, ?_⟩)
  rintro v M1 ⟨hv, rfl⟩
  refine ⟨fun h => ?_, fun h => ⟨_, rfl, Or.inl ⟨?_, rfl⟩, zfC.rf⟩⟩
  · have hh : zisH pl ch x y := by
      rcases hv with ⟨_, a⟩ | ⟨a, _⟩
      · exact a
      · exact absurd a h
    obtain ⟨⟨x1, x2⟩, y1, y2⟩ := id hh
    obtain ⟨p, rfl⟩ : ∃ p : Nat, x = (p : Int) := ⟨x.toNat, by omega⟩
    obtain ⟨k, rfl⟩ : ∃ k : Nat, y = (k : Int) := ⟨y.toNat, by omega⟩
    rw [Int.toNat_natCast] at y2
    have hpp : p < pl := by omega
    obtain ⟨c1, c2, c3, c4⟩ := hF.2.2.1 p hpp
    refine ⟨_, qc64 hF.1 hpp hR.2.1 hF.2.1 ⟨hR.2.2.1 p hpp, c1, c2⟩ (fun c hc => ⟨hR.2.2.2.2 c hc p hpp, hF.2.2.2 c hc p hpp⟩) hco, ?_⟩
    rintro v2 M2 ⟨⟨b, e1, e2, rfl⟩, f2⟩
    obtain ⟨b1, b2⟩ := List.mem_filter.mp e2
    obtain ⟨t1, t2⟩ := zsq_tl (ch p) (by omega) c1 b (List.mem_range.mp b1) b2
    refine ⟨_, qc67 t1 (by omega), ?_⟩
    rintro v3 M3 ⟨rfl, rfl⟩
    refine ⟨_, rfl, Or.inr ⟨hh, ?_⟩, fun k _ hk _ => f2 k hk⟩
    rw [(t2 k (by omega)).1, Int.toNat_natCast, Int.toNat_natCast]
    unfold zbc
    rw [e1]
    rfl
  · rcases hv with ⟨a, _⟩ | ⟨_, a⟩
    · omega
    · exact a
theorem qc163 {d : Nat} {M : zMem} {pl cp : Nat} {ch co : Nat → Nat} {me : Nat → Int} {ro : Nat → Nat → Nat} {x y : Int} (hF : zWF pl cp ch me ro) (hR : zRR M pl cp ch me ro) (hco : ∀ i, i < 24 → M 63 i = co i ∧ co i ≤ 9) :
    zCi (d + 3) 163 [.inr (.inr 55), .inl x, .inl y] M (fun r M' => zsPut pl cp ch co ro x y r ∧ zfR M M') := by
  refine zk163 (zv163_0 _ _ ⟨_, qc116 hR.1 hF.1 (fun q hq => ⟨hR.2.2.1 q hq, (hF.2.2.1 q hq).2.1⟩), ?_⟩)
  rintro v M1 ⟨hv, rfl⟩
  refine ⟨fun h => ?_, fun h => ⟨_, rfl, Or.inl ⟨?_, rfl⟩, zfR.rf⟩⟩
  · have hh : zisH pl ch x y := by
      rcases hv with ⟨_, a⟩ | ⟨a, _⟩
      · exact a
      · exact absurd a h
    obtain ⟨⟨x1, x2⟩, y1, y2⟩ := id hh
    obtain ⟨p, rfl⟩ : ∃ p : Nat, x = (p : Int) := ⟨x.toNat, by omega⟩
    obtain ⟨k, rfl⟩ : ∃ k : Nat, y = (k : Int) := ⟨y.toNat, by omega⟩
    rw [Int.toNat_natCast] at y2
    have hpp : p < pl := by omega
    obtain ⟨c1, c2, c3, c4⟩ := hF.2.2.1 p hpp
    refine ⟨_, qc162 hF.1 hpp hR.2.1 hF.2.1 ⟨hR.2.2.1 p hpp, c1, c2⟩ (fun c hc => ⟨hR.2.2.2.2 c hc p hpp, hF.2.2.2 c hc p hpp⟩) hco, ?_⟩
    rintro M2 ⟨⟨b, e1, e2, e3⟩, f2⟩
    refine ⟨by omega, by omega, _, rfl, Or.inr ⟨hh, ?_⟩, ⟨fun k x1 x2 => f2 k (by omega), fun j _ _ _ _ => by rw [f2 55 (by decide)]⟩⟩
    rw [Int.toNat_natCast, Int.toNat_natCast, e3 k (by omega)]
    unfold zbc
    rw [e1]
    rfl
  · rcases hv with ⟨a, _⟩ | ⟨_, a⟩
    · omega
    · exact a
/-- the rows behind putAll -/
def zrn (cp : Nat) (ch co : Nat → Nat) (ro : Nat → Nat → Nat) (c p : Nat) : Nat := zsq (zbc co ro cp p (ch p)) (ro c p)
theorem zfc_cong {co : Nat → Nat} {ro ro' : Nat → Nat → Nat} {p o : Nat} : ∀ {cp : Nat}, (∀ c, c < cp → ro c p = ro' c p) → zfc co ro cp p o = zfc co ro' cp p o := by
  intro cp h
  unfold zfc
  have : ∀ n, n ≤ cp → zps (fun x => co (4 * p + zsq o x)) (fun c => ro c p) n = zps (fun x => co (4 * p + zsq o x)) (fun c => ro' c p) n := by
    intro n
    induction n with
    | zero => intro _; rfl
    | succ n ih =>
      intro hn
      simp only [zps]
      rw [ih (by omega), h n (by omega)]
  exact this cp (Nat.le_refl _)
theorem zbc_cong {co : Nat → Nat} {ro ro' : Nat → Nat → Nat} {cp p n : Nat} (h : ∀ c, c < cp → ro c p = ro' c p) : zbcO co ro cp p n = zbcO co ro' cp p n := by
  unfold zbcO
  rw [show zfc co ro cp p = zfc co ro' cp p from funext (fun o => zfc_cong h)]
theorem zbc_lt {co : Nat → Nat} {ro : Nat → Nat → Nat} {cp p n b k : Nat} (h5 : n < 5) (h2 : 2 ≤ n) (hb : b ∈ zLr n) (hk : k < n) : zsq b k < n := by
  obtain ⟨b1, b2⟩ := List.mem_filter.mp hb
  exact ((zsq_tl n h5 h2 b (List.mem_range.mp b1) b2).2 k hk).2
def zsm (f : Nat → Nat) : Nat → Nat
  | 0 => 0
  | n + 1 => zsm f n + f n
theorem zsm_le {f : Nat → Nat} {b : Nat} : ∀ {n : Nat}, (∀ i, i < n → f i ≤ b) → zsm f n ≤ b * n := by
  intro n
  induction n with
  | zero => intro _; exact Nat.zero_le _
  | succ n ih =>
    intro h
    have h1 := ih (fun i hi => h i (by omega))
    have h2 := h n (by omega)
    simp only [zsm, Nat.mul_succ]
    omega
def zsPutAll (pl cp sz : Nat) (ch co : Nat → Nat) (ro : Nat → Nat → Nat) (r : Int) : Prop := r = if sz = 0 then -2 else (zsm (fun c => zcs co (zrn cp ch co ro c) pl) cp : Int)
theorem qc66 {d : Nat} {M : zMem} {pl cp p o : Nat} {ro : Nat → Nat → Nat} (hp : p < pl) (h6 : pl ≤ 6) (hcpM : M 4 9 = cp) (hcp : cp ≤ 8) (ho : o < 256) (hro : ∀ c, c < cp → M 7 (6 * c + p) = ro c p ∧ ro c p < 4) :
    zCv (d + 1) 66 [.inr (.inr 4), .inl (p : Int), .inl (o : Int)] M (fun M' => (∀ c, c < cp → M' 7 (6 * c + p) = zsq o (ro c p)) ∧ (∀ i, (∀ c, i ≠ 6 * c + p) → M' 7 i = M 7 i) ∧ ∀ k, k ≠ 7 → M' k = M k) := by
  refine zk66 (zv66_0 _ _ ?_)
  have key : ∀ (m c : Nat) (M1 : zMem), c + m = cp → (∀ e, e < c → M1 7 (6 * e + p) = zsq o (ro e p)) → (∀ e, c ≤ e → M1 7 (6 * e + p) = M 7 (6 * e + p)) → (∀ i, (∀ c, i ≠ 6 * c + p) → M1 7 i = M 7 i) → (∀ k, k ≠ 7 → M1 k = M k) →
      zBg (d + 1) 66 2 [zR 4, zI (p : Int), zI (o : Int), zI (c : Int), none] [] M1 (fun r M' => r = none ∧ (∀ c, c < cp → M' 7 (6 * c + p) = zsq o (ro c p)) ∧ (∀ i, (∀ c, i ≠ 6 * c + p) → M' 7 i = M 7 i) ∧ ∀ k, k ≠ 7 → M' k = M k) := by
    intro m
    induction m with
    | zero =>
      intro c M1 hc g1 g2 g3 f1
      exact zv66_2 _ _ _ ⟨fun _ => ⟨rfl, fun e he => g1 e (by omega), g3, f1⟩, fun h => absurd (by rw [f1 4 (by decide), hcpM]; omega) h⟩
    | succ m ih =>
      intro c M1 hc g1 g2 g3 f1
      obtain ⟨r1, r2⟩ := hro c (by omega)
      refine zv66_2 _ _ _ ⟨fun h => by rw [f1 4 (by decide), hcpM] at h; omega, fun _ => ?_⟩
      rw [show ((c : Int) * 6 + (p : Int)).toNat = 6 * c + p by omega, g2 c (Nat.le_refl _), r1]
      refine ⟨⟨by omega, by omega⟩, ⟨by omega, by omega⟩, by omega, by omega, _, qc67 ho r2, ?_⟩
      rintro v M2 ⟨rfl, rfl⟩
      refine ⟨by omega, by omega, ⟨by omega, by omega⟩, ih (c + 1) _ (by omega) (fun e he => ?_) (fun e he => by rw [zb_ui (by omega)]; exact g2 e (by omega)) (fun i hi => by rw [zb_ui (hi c)]; exact g3 i hi) (fun k hk => by rw [zb_uk hk]; exact f1 k hk)⟩
      by_cases hec : e = c
      · subst hec; exact zb_us
      · rw [zb_ui (by omega)]; exact g1 e (by omega)
  exact key cp 0 M (by omega) (fun e he => by omega) (fun _ _ => rfl) (fun _ _ => rfl) (fun _ _ => rfl)
theorem qc97 {d : Nat} {M : zMem} {pl cp sz : Nat} {ch co : Nat → Nat} {me : Nat → Int} {ro : Nat → Nat → Nat} (hF : zWF pl cp ch me ro) (hR : zRC M pl cp ch me ro) (hco : ∀ i, i < 24 → M 5 i = co i ∧ co i ≤ 9) (hsz : M 13 4 = if sz = 0 then 0 else 1) :
    zCi (d + 4) 97 [.inr (.inr 0)] M (fun r M' => zsPutAll pl cp sz ch co ro r ∧ (sz = 0 → M' = M) ∧ (sz ≠ 0 → ∀ c, c < cp → ∀ p, p < pl → M' 7 (6 * c + p) = zrn cp ch co ro c p) ∧ ∀ k, k ≠ 7 → k ≠ 12 → M' k = M k) := by
  have h6 := hF.1
  have hcp := hF.2.1
  refine zk97 (zv97_0 ⟨fun hne => ?_, fun hne => ⟨_, rfl, ?_, fun _ => rfl, fun e => ?_, fun _ _ _ => rfl⟩⟩)
  · have hs : sz ≠ 0 := by intro e; rw [hsz, if_pos e] at hne; exact hne rfl
    have sum : ∀ (M1 : zMem), (∀ k, k ≠ 7 → k ≠ 12 → M1 k = M k) → (∀ c, c < cp → ∀ p, p < pl → M1 7 (6 * c + p) = zrn cp ch co ro c p) → (∀ c, c < cp → ∀ p, p < pl → zrn cp ch co ro c p < 4) → ∀ (m c : Nat), c + m = cp → zBg (d + 4) 97 58 [zR 0, zI (zsm (fun c => zcs co (zrn cp ch co ro c) pl) c : Int), zI (c : Int)] [] M1 (fun q M' => ∃ w : Int, q = some (.inl w) ∧ zsPutAll pl cp sz ch co ro w ∧ (sz = 0 → M' = M) ∧ (sz ≠ 0 → ∀ c, c < cp → ∀ p, p < pl → M' 7 (6 * c + p) = zrn cp ch co ro c p) ∧ ∀ k, k ≠ 7 → k ≠ 12 → M' k = M k) := by
      intro M1 f1 g1 h4 m
      have hb : ∀ c, c < cp → zcs co (zrn cp ch co ro c) pl ≤ 54 := by
        intro c hc
        have := zcs_le (co := co) (r := zrn cp ch co ro c) (p := pl) (fun q hq => (hco _ (by have := h4 c hc q hq; omega)).2)
        omega
      induction m with
      | zero =>
        intro c hc
        have : c = cp := by omega
        subst this
        refine zv97_58 _ _ ⟨fun _ => ⟨_, rfl, ?_, fun e => absurd e hs, fun _ => g1, f1⟩, fun h => absurd (by rw [f1 4 (by decide) (by decide), hR.2.1]; omega) h⟩
        unfold zsPutAll
        rw [if_neg hs]
      | succ m ih =>
        intro c hc
        have ih1 := ih (c + 1) (by omega)
        simp only [zsm] at ih1
        have hl := zsm_le (f := fun c => zcs co (zrn cp ch co ro c) pl) (b := 54) (n := c) (fun i hi => hb i (by omega))
        have hbc := hb c (by omega)
        refine zv97_58 _ _ ⟨fun h => by rw [f1 4 (by decide) (by decide), hR.2.1] at h; omega, fun _ => ⟨_, qc63 (r := zrn cp ch co ro c) (co := co) (by rw [f1 13 (by decide) (by decide)]; exact hR.1) h6 (by omega) (fun p hp => ⟨g1 c (by omega) p hp, h4 c (by omega) p hp⟩) (fun i hi => by rw [f1 5 (by decide) (by decide)]; exact hco i hi), ?_⟩⟩
        rintro v M2 ⟨rfl, rfl⟩
        exact ⟨⟨by omega, by omega⟩, ⟨by omega, by omega⟩, ih1⟩
    have key : ∀ (m p : Nat) (M1 : zMem), p + m = pl → (∀ k, k ≠ 7 → k ≠ 12 → M1 k = M k) → (∀ c, c < cp → ∀ q, q < pl → M1 7 (6 * c + q) = if q < p then zrn cp ch co ro c q else ro c q) → (∀ c, c < cp → ∀ q, q < p → zrn cp ch co ro c q < 4) →
        zBg (d + 4) 97 18 [zR 0, zI (p : Int), none] [] M1 (fun q M' => ∃ w : Int, q = some (.inl w) ∧ zsPutAll pl cp sz ch co ro w ∧ (sz = 0 → M' = M) ∧ (sz ≠ 0 → ∀ c, c < cp → ∀ p, p < pl → M' 7 (6 * c + p) = zrn cp ch co ro c p) ∧ ∀ k, k ≠ 7 → k ≠ 12 → M' k = M k) := by
      intro m
      induction m with
      | zero =>
        intro p M1 hp f1 g1 h4
        have : p = pl := by omega
        subst this
        refine zv97_18 _ ⟨fun _ => sum M1 f1 (fun c hc q hq => by rw [g1 c hc q hq, if_pos hq]) h4 cp 0 (by omega), fun h => absurd (by rw [f1 13 (by decide) (by decide), hR.1]; omega) h⟩
      | succ m ih =>
        intro p M1 hp f1 g1 h4
        have hpp : p < pl := by omega
        obtain ⟨c1, c2, c3, c4⟩ := hF.2.2.1 p hpp
        have hrp : ∀ c, c < cp → M1 7 (6 * c + p) = ro c p ∧ ro c p < ch p := fun c hc => ⟨by rw [g1 c hc p hpp, if_neg (by omega)], hF.2.2.2 c hc p hpp⟩
        refine zv97_18 _ ⟨fun h => by rw [f1 13 (by decide) (by decide), hR.1] at h; omega, fun _ => ⟨_, qc64 (pl := pl) (ch := ch) (ro := ro) h6 hpp (by rw [f1 4 (by decide) (by decide)]; exact hR.2.1) hcp ⟨by rw [f1 15 (by decide) (by decide)]; exact hR.2.2.1 p hpp, c1, c2⟩ hrp (fun i hi => by rw [f1 5 (by decide) (by decide)]; exact hco i hi), ?_⟩⟩
        rintro v2 M2 ⟨⟨b, e1, e2, rfl⟩, f2⟩
        obtain ⟨b1, b2⟩ := List.mem_filter.mp e2
        obtain ⟨t1, t2⟩ := zsq_tl (ch p) (by omega) c1 b (List.mem_range.mp b1) b2
        refine ⟨_, qc66 (ro := ro) (pl := pl) hpp h6 (by rw [f2 4 (by decide), f1 4 (by decide) (by decide)]; exact hR.2.1) hcp t1 (fun c hc => ⟨by rw [f2 7 (by decide)]; exact (hrp c hc).1, by have := (hrp c hc).2; omega⟩), ?_⟩
        rintro M3 ⟨u1, u2, u3⟩
        have hzr : ∀ c, c < cp → zsq (b + ztl (ch p)) (ro c p) = zrn cp ch co ro c p := by
          intro c hc
          rw [(t2 (ro c p) (hrp c hc).2).1]
          unfold zrn zbc
          rw [e1]
          rfl
        refine ⟨⟨by omega, by omega⟩, ih (p + 1) M3 (by omega) (fun k x1 x2 => by rw [u3 k x1, f2 k x2]; exact f1 k x1 x2) (fun c hc q hq => ?_) (fun c hc q hq => ?_)⟩
        · by_cases hqp : q = p
          · subst hqp
            rw [u1 c hc, if_pos (by omega), hzr c hc]
          · rw [u2 _ (fun e => by omega), f2 7 (by decide), g1 c hc q hq]
            simp only [show q < p + 1 ↔ q < p from ⟨fun h => by omega, fun h => by omega⟩]
        · by_cases hqp : q = p
          · subst hqp
            rw [← hzr c hc]
            exact zsq_lt
          · exact h4 c hc q (by omega)
    exact key pl 0 M (by omega) (fun _ _ _ => rfl) (fun c hc q hq => by rw [if_neg (by omega)]; exact hR.2.2.2.2 c hc q hq) (fun c hc q hq => by omega)
  · unfold zsPutAll
    rw [if_pos]
    rcases Nat.eq_zero_or_pos sz with e | e
    · exact e
    · rw [hsz, if_neg (by omega)] at hne; exact absurd (by decide) hne
  · rw [hsz, if_neg e] at hne
    exact absurd (by decide) hne
theorem qc164 {d : Nat} {M : zMem} {pl cp sz : Nat} {ch co : Nat → Nat} {me : Nat → Int} {ro : Nat → Nat → Nat} (hF : zWF pl cp ch me ro) (hR : zRR M pl cp ch me ro) (hco : ∀ i, i < 24 → M 63 i = co i ∧ co i ≤ 9) (hsz : M 55 2 = sz) :
    zCi (d + 1) 164 [.inr (.inr 55)] M (fun r M' => zsPutAll pl cp sz ch co ro r ∧ (sz = 0 → M' = M) ∧ (sz ≠ 0 → ∀ c, c < cp → ∀ p, p < pl → M' 65 (6 * c + p) = zrn cp ch co ro c p) ∧ ∀ k, k ≠ 65 → k ≠ 73 → M' k = M k) := by
  have h6 := hF.1
  have hcp := hF.2.1
  refine zk164 (zv164_0 ?_)
  rw [hsz]
  refine ⟨fun hne => ?_, fun hne => ⟨_, rfl, ?_, fun _ => rfl, fun e => absurd (by omega) hne, fun _ _ _ => rfl⟩⟩
  · have hs : sz ≠ 0 := by omega
    have sum : ∀ (M1 : zMem), (∀ k, k ≠ 65 → k ≠ 73 → M1 k = M k) → (∀ c, c < cp → ∀ p, p < pl → M1 65 (6 * c + p) = zrn cp ch co ro c p) → (∀ c, c < cp → ∀ p, p < pl → zrn cp ch co ro c p < 4) → ∀ (m c : Nat), c + m = cp → zBg (d + 1) 164 78 [zR 55, zI (zsm (fun c => zcs co (zrn cp ch co ro c) pl) c : Int), zI (c : Int)] [] M1 (fun q M' => ∃ w : Int, q = some (.inl w) ∧ zsPutAll pl cp sz ch co ro w ∧ (sz = 0 → M' = M) ∧ (sz ≠ 0 → ∀ c, c < cp → ∀ p, p < pl → M' 65 (6 * c + p) = zrn cp ch co ro c p) ∧ ∀ k, k ≠ 65 → k ≠ 73 → M' k = M k) := by
      intro M1 f1 g1 h4 m
      have hb : ∀ c, c < cp → zcs co (zrn cp ch co ro c) pl ≤ 54 := by
        intro c hc
        have := zcs_le (co := co) (r := zrn cp ch co ro c) (p := pl) (fun q hq => (hco _ (by have := h4 c hc q hq; omega)).2)
        omega
      induction m with
      | zero =>
        intro c hc
        have : c = cp := by omega
        subst this
        refine zv164_78 _ _ ⟨fun _ => ⟨_, rfl, ?_, fun e => absurd e hs, fun _ => g1, f1⟩, fun h => absurd (by rw [f1 55 (by decide) (by decide), hR.2.1]; omega) h⟩
        unfold zsPutAll
        rw [if_neg hs]
      | succ m ih =>
        intro c hc
        have ih1 := ih (c + 1) (by omega)
        simp only [zsm] at ih1
        have hl := zsm_le (f := fun c => zcs co (zrn cp ch co ro c) pl) (b := 54) (n := c) (fun i hi => hb i (by omega))
        have hbc := hb c (by omega)
        refine zv164_78 _ _ ⟨fun h => by rw [f1 55 (by decide) (by decide), hR.2.1] at h; omega, fun _ => ⟨_, qc126 (r := zrn cp ch co ro c) (co := co) (by rw [f1 55 (by decide) (by decide)]; exact hR.1) h6 (by omega) (fun p hp => ⟨g1 c (by omega) p hp, h4 c (by omega) p hp⟩) (fun i hi => by rw [f1 63 (by decide) (by decide)]; exact hco i hi), ?_⟩⟩
        rintro v M2 ⟨rfl, rfl⟩
        exact ⟨⟨by omega, by omega⟩, ⟨by omega, by omega⟩, ih1⟩
    have key : ∀ (m p : Nat) (M1 : zMem), p + m = pl → (∀ k, k ≠ 65 → k ≠ 73 → M1 k = M k) → (∀ c, c < cp → ∀ q, q < pl → M1 65 (6 * c + q) = if q < p then zrn cp ch co ro c q else ro c q) → (∀ c, c < cp → ∀ q, q < p → zrn cp ch co ro c q < 4) →
        zBg (d + 1) 164 12 [zR 55, zI (p : Int), none] [] M1 (fun q M' => ∃ w : Int, q = some (.inl w) ∧ zsPutAll pl cp sz ch co ro w ∧ (sz = 0 → M' = M) ∧ (sz ≠ 0 → ∀ c, c < cp → ∀ p, p < pl → M' 65 (6 * c + p) = zrn cp ch co ro c p) ∧ ∀ k, k ≠ 65 → k ≠ 73 → M' k = M k) := by
      intro m
      induction m with
      | zero =>
        intro p M1 hp f1 g1 h4
        have : p = pl := by omega
        subst this
        refine zv164_12 _ ⟨fun _ => sum M1 f1 (fun c hc q hq => by rw [g1 c hc q hq, if_pos hq]) h4 cp 0 (by omega), fun h => absurd (by rw [f1 55 (by decide) (by decide), hR.1]; omega) h⟩
      | succ m ih =>
        intro p M1 hp f1 g1 h4
        have hpp : p < pl := by omega
        obtain ⟨c1, c2, c3, c4⟩ := hF.2.2.1 p hpp
        have hrp : ∀ c, c < cp → M1 65 (6 * c + p) = ro c p ∧ ro c p < ch p := fun c hc => ⟨by rw [g1 c hc p hpp, if_neg (by omega)], hF.2.2.2 c hc p hpp⟩
        refine zv164_12 _ ⟨fun h => by rw [f1 55 (by decide) (by decide), hR.1] at h; omega, fun _ => ⟨_, qc162 (pl := pl) (ch := ch) (ro := ro) h6 hpp (by rw [f1 55 (by decide) (by decide)]; exact hR.2.1) hcp ⟨by rw [f1 60 (by decide) (by decide)]; exact hR.2.2.1 p hpp, c1, c2⟩ hrp (fun i hi => by rw [f1 63 (by decide) (by decide)]; exact hco i hi), ?_⟩⟩
        rintro M2 ⟨⟨b, e1, e2, e3⟩, f2⟩
        obtain ⟨b1, b2⟩ := List.mem_filter.mp e2
        have hzr : ∀ c, zsq b (ro c p) = zrn cp ch co ro c p := by
          intro c
          unfold zrn zbc
          rw [e1]
          rfl
        have loop : ∀ (n c : Nat) (M3 : zMem), c + n = cp → (∀ k, k ≠ 65 → k ≠ 73 → M3 k = M k) → M3 73 = M2 73 → (∀ e, e < cp → ∀ q, q < pl → M3 65 (6 * e + q) = if q < p ∨ (q = p ∧ e < c) then zrn cp ch co ro e q else ro e q) →
            zBg (d + 1) 164 27 [zR 55, zI (p : Int), zI (c : Int)] [] M3 (fun q M' => ∃ w : Int, q = some (.inl w) ∧ zsPutAll pl cp sz ch co ro w ∧ (sz = 0 → M' = M) ∧ (sz ≠ 0 → ∀ c, c < cp → ∀ p, p < pl → M' 65 (6 * c + p) = zrn cp ch co ro c p) ∧ ∀ k, k ≠ 65 → k ≠ 73 → M' k = M k) := by
          intro n
          induction n with
          | zero =>
            intro c M3 hc f3 s3 g3
            have : c = cp := by omega
            subst this
            refine zv164_27 _ _ ⟨fun _ => ⟨⟨by omega, by omega⟩, ih (p + 1) M3 (by omega) f3 (fun e he q hq => ?_) (fun e he q hq => ?_)⟩, fun h => absurd (by rw [f3 55 (by decide) (by decide), hR.2.1]; omega) h⟩
            · rw [g3 e he q hq]
              simp only [show (q < p ∨ q = p ∧ e < c) ↔ q < p + 1 from ⟨fun h => by omega, fun h => by omega⟩]
            · by_cases hqp : q = p
              · subst hqp
                rw [← hzr e]
                exact zsq_lt
              · exact h4 e he q (by omega)
          | succ n ih2 =>
            intro c M3 hc f3 s3 g3
            have e65 : M3 65 (6 * c + p) = ro c p := by rw [g3 c (by omega) p hpp, if_neg (by omega)]
            have hrc := (hrp c (by omega)).2
            refine zv164_27 _ _ ⟨fun h => by rw [f3 55 (by decide) (by decide), hR.2.1] at h; omega, fun _ => ?_⟩
            rw [show (6 * (c : Int) + (p : Int)).toNat = 6 * c + p by omega, e65, Int.toNat_natCast, s3, e3 (ro c p) (by omega), hzr c]
            refine ⟨⟨by omega, by omega⟩, ⟨by omega, by omega⟩, ⟨by omega, by omega⟩, ⟨by omega, by omega⟩, by omega, by omega, by omega, by omega, by omega, by omega, ⟨by omega, by omega⟩, ?_⟩
            refine ih2 (c + 1) _ (by omega) (fun k x1 x2 => by rw [zb_uk x1]; exact f3 k x1 x2) (by rw [zb_uk (by decide)]; exact s3) (fun e he q hq => ?_)
            by_cases hh : q = p ∧ e = c
            · obtain ⟨rfl, rfl⟩ := hh
              rw [zb_us, if_pos (by omega)]
            · rw [zb_ui (by omega), g3 e he q hq]
              simp only [show (q < p ∨ q = p ∧ e < c + 1) ↔ (q < p ∨ q = p ∧ e < c) from ⟨fun h => by omega, fun h => by omega⟩]
        exact loop cp 0 M2 (by omega) (fun k x1 x2 => by rw [f2 k x2]; exact f1 k x1 x2) rfl (fun e he q hq => by rw [f2 65 (by decide), g1 e he q hq]; simp only [show (q < p ∨ q = p ∧ e < 0) ↔ q < p from ⟨fun h => by omega, fun h => by omega⟩])
    exact key pl 0 M (by omega) (fun _ _ _ => rfl) (fun c hc q hq => by rw [if_neg (by omega)]; exact hR.2.2.2.2 c hc q hq) (fun c hc q hq => by omega)
  · unfold zsPutAll
    rw [if_pos (by omega)]
