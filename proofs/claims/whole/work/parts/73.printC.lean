/-! printed: the class -/
theorem qc44 {d : Nat} {M : zMem} {t : Nat → Nat} {n pl p v : Nat} {ch st en : Nat → Nat} (hW : zWL t n pl ch st en) (hC : zlC M t n pl ch st en) (hp : p < pl) (hv : v < ch p ∨ v = 4) : zCi d 44 [.inr (.inr 13), .inl (p : Int), .inl (v : Int)] M (fun r M' => r = (zwdt st en p v : Int) ∧ M' = M) := by
  have h6 := hW.2.2.1
  have h120 := hW.2.1
  unfold zwdt
  refine zk44 (zv44_0 _ _ ⟨fun g => ?_, fun g => ⟨_, rfl, ?_, rfl⟩⟩)
  · have hv2 : v < ch p := by omega
    obtain ⟨w1, w2, w3, w4, w5⟩ := hW.2.2.2.1 p hp
    obtain ⟨y1, y2, y3⟩ := w4 v hv2
    obtain ⟨s1, s2⟩ := hC.2.2.2.2 p hp v hv2
    rw [show ((p : Int) * 4 + (v : Int)).toNat = 4 * p + v by omega, s1, s2, if_neg (by omega)]
    exact ⟨⟨by omega, by omega⟩, ⟨by omega, by omega⟩, by omega, by omega, by omega, by omega, ⟨by omega, by omega⟩, _, rfl, by omega, rfl⟩
  · rw [if_pos (by omega)]; rfl
theorem qc45 {d : Nat} {M : zMem} {t w : Nat → Nat} {n nt a b at0 : Nat} (ht : ∀ i, i < n → M 14 i = t i) (hw : ∀ i, i < nt → M 3 i = w i) (hab : a ≤ b) (hbn : b ≤ n) (hn : n ≤ 120) (hnt : nt ≤ 120) (hat : at0 ≤ nt) : zCi d 45 [.inr (.inr 13), .inl (a : Int), .inl (b : Int), .inr (.inr 3), .inl (nt : Int), .inl (at0 : Int)] M (fun r M' => (r = 1 ∧ zstd t w nt a (b - a) at0 ∨ r = 0 ∧ ¬ zstd t w nt a (b - a) at0) ∧ M' = M) := by
  refine zk45 (zv45_0 _ _ _ _ ⟨⟨by omega, by omega⟩, ⟨by omega, by omega⟩, fun g => ?_, fun g => ⟨Or.inl rfl, _, rfl, Or.inr ⟨rfl, fun hk => by have := hk.1; omega⟩, rfl⟩⟩)
  have key : ∀ (m x : Nat), x + m = b - a → (∀ i, i < x → t (a + i) = w (at0 + i)) → zBg d 45 16 [zR 13, zI (a : Int), zI (b : Int), zR 3, none, zI (at0 : Int), zI ((a + x : Nat) : Int)] [] M (fun q M' => ∃ r : Int, q = some (.inl r) ∧ (r = 1 ∧ zstd t w nt a (b - a) at0 ∨ r = 0 ∧ ¬ zstd t w nt a (b - a) at0) ∧ M' = M) := by
    intro m
    induction m with
    | zero =>
      intro x hx he
      have : x = b - a := by omega
      subst this
      exact zv45_16 _ _ _ _ ⟨fun _ => ⟨Or.inr rfl, _, rfl, Or.inl ⟨rfl, by omega, he⟩, rfl⟩, fun g => absurd (by omega) g⟩
    | succ m ih =>
      intro x hx he
      refine zv45_16 _ _ _ _ ?_
      rw [Int.toNat_natCast, show ((at0 : Int) + ((a + x : Nat) : Int) - (a : Int)).toNat = at0 + x by omega, ht (a + x) (by omega), hw (at0 + x) (by omega)]
      refine ⟨fun g => by omega, fun _ => ⟨by omega, by omega, ⟨by omega, by omega⟩, ⟨by omega, by omega⟩, by omega, by omega, fun g => ⟨⟨by omega, by omega⟩, ih (x + 1) (by omega) (fun i hi => ?_)⟩, fun g => ⟨Or.inl rfl, _, rfl, Or.inr ⟨rfl, fun hk => g ?_⟩, rfl⟩⟩⟩
      · by_cases hix : i = x
        · subst hix; omega
        · exact he i (by omega)
      · have := hk.2 x (by omega)
        omega
  exact key (b - a) 0 (by omega) (fun i hi => by omega)
theorem qc43 {d : Nat} {M : zMem} {t w : Nat → Nat} {n pl nt p m at0 : Nat} {ch st en : Nat → Nat} (hW : zWL t n pl ch st en) (hC : zlC M t n pl ch st en) (hw : ∀ i, i < nt → M 3 i = w i) (hnt : nt ≤ 120) (hp : p + m = pl) (hat : at0 ≤ nt) (hT : ∀ m', m = m' + 1 → ∀ a, a ≤ nt → zpv t w n pl nt ch st en m' (p + 1) a (M 48 (121 * (p + 1) + a))) : zCi (d + 1) 43 [.inr (.inr 47), .inr (.inr 13), .inl (p : Int), .inr (.inr 3), .inl (nt : Int), .inl (at0 : Int)] M (fun r M' => zpv t w n pl nt ch st en m p at0 r ∧ M' = M) := by
  have h6 := hW.2.2.1
  have h120 := hW.2.1
  obtain ⟨q1, q2, _, q4⟩ := zWL_pl hW (p := p) (by omega)
  refine zk43 (zv43_0 _ _ _ ⟨_, qc37 hW hC (by omega), ?_⟩)
  rintro r1 M1 ⟨rfl, rfl⟩
  refine ⟨_, qc38 hW hC (by omega), ?_⟩
  rintro r2 M2 ⟨rfl, rfl⟩
  refine ⟨_, qc45 hC.2.2.1 hw q1 q2 h120 hnt hat, ?_⟩
  rintro r3 M3 ⟨h3, rfl⟩
  rw [hC.2.1]
  have hZ0 : 0 < zwq (zn6 pl ch 1) 6 p := zwq_pos' zn6_pos
  cases m with
  | zero =>
    have : p = pl := by omega
    subst this
    have hG : ∀ j, zGm t w n p nt ch st en 0 p at0 j ↔ zstd t w nt (zqs ch en p) (zqe n p st p - zqs ch en p) at0 ∧ nt = at0 + (zqe n p st p - zqs ch en p) := by
      intro j
      have e := zsg_app (t := t) (w := w) (nt := nt) (zqe n p st p - zqs ch en p) (zqs ch en p) at0 [] hat
      rw [List.append_nil] at e
      unfold zGm
      rw [show zrd t n p ch st en (zvl p ch j) 0 p = zsg t (zqe n p st p - zqs ch en p) (zqs ch en p) from rfl, e]
      constructor
      · rintro ⟨h1, h2⟩
        refine ⟨h1, ?_⟩
        have h3 := congrArg List.length h2
        rw [zsg_len] at h3
        simp at h3
        have := h1.1
        omega
      · rintro ⟨h1, h2⟩
        refine ⟨h1, ?_⟩
        rw [show nt - (at0 + (zqe n p st p - zqs ch en p)) = 0 by omega]
        rfl
    refine ⟨fun g => ?_, fun g => ⟨_, rfl, Or.inl ⟨rfl, fun j _ hj => zor0 h3 (by omega) ((hG j).mp hj).1⟩, rfl⟩⟩
    have hs := zor1 h3 g
    have hs1 := hs.1
    refine ⟨⟨by omega, by omega⟩, ⟨by omega, by omega⟩, fun g2 => absurd rfl g2, fun _ => ⟨fun g3 => ⟨_, rfl, Or.inl ⟨rfl, fun j _ hj => by have := ((hG j).mp hj).2; omega⟩, rfl⟩, fun g3 => ⟨_, rfl, Or.inr ⟨0, hZ0, (hG 0).mpr ⟨hs, by omega⟩, fun j' hj' => by omega, by rw [if_neg (by omega)]⟩, rfl⟩⟩⟩
  | succ m =>
    obtain ⟨b1, b2, b3, b4, b5⟩ := q4 (by omega)
    obtain ⟨w1, w2, w3, w4, w5⟩ := hW.2.2.2.1 p (by omega)
    have hT1 := hT m rfl
    generalize hS : zqe n pl st p - zqs ch en p = S at h3
    have hGs := fun j hj => zGm_s (t := t) (w := w) (n := n) (nt := nt) (ch := ch) (st := st) (en := en) (j := j) h6 hp hat hj
    rw [hS] at hGs
    refine ⟨fun g => ?_, fun g => ⟨_, rfl, Or.inl ⟨rfl, fun j hj hg => zor0 h3 (by omega) ((hGs j hj).mp hg).1⟩, rfl⟩⟩
    have hs := zor1 h3 g
    have hs1 := hs.1
    refine ⟨⟨by omega, by omega⟩, ⟨by omega, by omega⟩, fun _ => ?_, fun g2 => absurd (by omega) g2⟩
    rw [show (at0 : Int) + (zqe n pl st p : Int) - (zqs ch en p : Int) = ((at0 + S : Nat) : Int) by omega]
    generalize hZ : zwq (zn6 pl ch 1) 6 (p + 1) = Z at hGs
    have hZp : 0 < Z := by rw [← hZ]; exact zwq_pos' zn6_pos
    have hn : zwq (zn6 pl ch 1) 6 p = (ch p + 1) * Z := by
      rw [zwq_s (by omega), hZ]
      unfold zn6
      rw [if_pos (by omega), Nat.max_eq_right (by omega)]
    have hdm := fun j (hj : j < zwq (zn6 pl ch 1) 6 p) => zvl_dm (j := j) (ch := ch) h6 (p := p) (by omega) hj
    rw [hZ] at hdm
    -- found by the value of rank c
    have found : ∀ (c : Nat), c < ch p + 1 → (∀ j, j < c * Z → ¬ zGm t w n pl nt ch st en (m + 1) p at0 j) → zstd t w nt (st (4 * p + zv6 ch p c)) (zwdt st en p (zv6 ch p c)) (at0 + S) → ∀ r : Int, zpv t w n pl nt ch st en m (p + 1) (at0 + S + zwdt st en p (zv6 ch p c)) r → ¬ r < 0 → zpv t w n pl nt ch st en (m + 1) p at0 (zv6 ch p c : Int) := by
      intro c hc hno hst r hr hr0
      rcases hr with ⟨h1, _⟩ | ⟨j1, hj1, hg1, hm1, _⟩
      · omega
      rw [hZ] at hj1
      have hlt : c * Z + j1 < zwq (zn6 pl ch 1) 6 p := by
        rw [hn]
        have : (c + 1) * Z ≤ (ch p + 1) * Z := Nat.mul_le_mul_right _ (by omega)
        rw [Nat.add_mul, Nat.one_mul] at this
        omega
      have hdiv : (c * Z + j1) / Z = c := by
        rw [Nat.mul_comm, Nat.mul_add_div hZp, Nat.div_eq_of_lt hj1, Nat.add_zero]
      have hmod : (c * Z + j1) % Z = j1 := by
        rw [Nat.mul_comm, Nat.mul_add_mod, Nat.mod_eq_of_lt hj1]
      obtain ⟨_, hvl, _, _⟩ := hdm _ hlt
      rw [hdiv] at hvl
      refine Or.inr ⟨c * Z + j1, hlt, (hGs _ hlt).mpr ?_, fun j' hj' hg' => ?_, by rw [if_pos (by omega), hvl]⟩
      · rw [hvl, hmod]
        exact ⟨hs, hst, hg1⟩
      · rcases Nat.lt_or_ge j' (c * Z) with g | g
        · exact hno j' g hg'
        · have hl' : j' < zwq (zn6 pl ch 1) 6 p := by omega
          have hdiv' : j' / Z = c := by
            apply Nat.div_eq_of_lt_le
            · exact g
            · rw [Nat.add_mul, Nat.one_mul]
              omega
          have hmod' : j' % Z = j' - c * Z := by
            have := Nat.mod_add_div j' Z
            rw [hdiv', Nat.mul_comm] at this
            omega
          obtain ⟨_, hvl', _, _⟩ := hdm _ hl'
          rw [hdiv'] at hvl'
          have := ((hGs _ hl').mp hg').2.2
          rw [hvl', hmod'] at this
          exact hm1 (j' - c * Z) (by omega) this
    -- nothing by it
    have none1 : ∀ (c : Nat), c < ch p + 1 → (∀ j, j < c * Z → ¬ zGm t w n pl nt ch st en (m + 1) p at0 j) → (¬ zstd t w nt (st (4 * p + zv6 ch p c)) (zwdt st en p (zv6 ch p c)) (at0 + S) ∨ ∃ r : Int, zpv t w n pl nt ch st en m (p + 1) (at0 + S + zwdt st en p (zv6 ch p c)) r ∧ r < 0) → ∀ j, j < (c + 1) * Z → ¬ zGm t w n pl nt ch st en (m + 1) p at0 j := by
      intro c hc hno hor j hj hg
      rcases Nat.lt_or_ge j (c * Z) with g | g
      · exact hno j g hg
      have hlt : j < zwq (zn6 pl ch 1) 6 p := by
        rw [hn]
        have : (c + 1) * Z ≤ (ch p + 1) * Z := Nat.mul_le_mul_right _ (by omega)
        omega
      have hdiv : j / Z = c := Nat.div_eq_of_lt_le g hj
      obtain ⟨_, hvl, hlm, _⟩ := hdm _ hlt
      rw [hdiv] at hvl
      have h := (hGs _ hlt).mp hg
      rw [hvl] at h
      rcases hor with g1 | ⟨r, g1, g2⟩
      · exact g1 h.2.1
      · rcases g1 with ⟨_, g3⟩ | ⟨j1, _, _, _, g3⟩
        · exact g3 _ (by rw [hZ]; exact hlm) h.2.2
        · split at g3 <;> omega
    have key : ∀ (s c : Nat), c + s = ch p → (∀ j, j < c * Z → ¬ zGm t w n pl nt ch st en (m + 1) p at0 j) → zBg (d + 1) 43 66 [zR 47, zR 13, zI (p : Int), zR 3, zI (nt : Int), none, none, none, zI ((at0 + S : Nat) : Int), zI (c : Int), none] [] M3 (fun q M' => ∃ r : Int, q = some (.inl r) ∧ zpv t w n pl nt ch st en (m + 1) p at0 r ∧ M' = M3) := by
      intro s
      induction s with
      | zero =>
        intro c hc hno
        have : c = ch p := by omega
        subst this
        have e4 : zv6 ch p (ch p) = 4 := by unfold zv6; rw [if_neg (by omega)]
        have ew : zwdt st en p 4 = 0 := by unfold zwdt; rw [if_pos rfl]
        have f := found (ch p) (by omega) hno
        have f1 := none1 (ch p) (by omega) hno
        rw [e4, ew, Nat.add_zero] at f f1
        have hTa := hT1 (at0 + S) hs1
        refine zv43_66 _ _ _ _ ?_
        rw [Int.toNat_natCast, hC.2.2.2.1 p (by omega), show (((p : Int) + 1) * 121 + ((at0 + S : Nat) : Int)).toNat = 121 * (p + 1) + (at0 + S) by omega]
        refine ⟨by omega, by omega, fun _ => ⟨⟨by omega, by omega⟩, ⟨by omega, by omega⟩, ⟨by omega, by omega⟩, by omega, by omega, fun g => ⟨_, rfl, Or.inl ⟨rfl, fun j hj => f1 (Or.inr ⟨_, hTa, g⟩) j (by rw [← hn]; exact hj)⟩, rfl⟩, fun g => ⟨_, rfl, f ⟨by omega, fun i hi => by omega⟩ _ hTa g, rfl⟩⟩, fun g => absurd (by omega) g⟩
      | succ s ih =>
        intro c hc hno
        have ec : zv6 ch p c = c := by unfold zv6; rw [if_pos (by omega)]
        obtain ⟨y1, y2, y3⟩ := w4 c (by omega)
        obtain ⟨s1, s2⟩ := hC.2.2.2.2 p (by omega) c (by omega)
        have ew : zwdt st en p c = en (4 * p + c) - st (4 * p + c) := by unfold zwdt; rw [if_neg (by omega)]
        have f := found c (by omega) hno
        have f1 := none1 c (by omega) hno
        rw [ec] at f f1
        refine zv43_66 _ _ _ _ ?_
        rw [Int.toNat_natCast, hC.2.2.2.1 p (by omega), show ((p : Int) * 4 + (c : Int)).toNat = 4 * p + c by omega, s1, s2]
        refine ⟨by omega, by omega, fun g => by omega, fun _ => ⟨⟨by omega, by omega⟩, ⟨by omega, by omega⟩, by omega, by omega, by omega, by omega, _, qc45 hC.2.2.1 hw y1 (by omega) h120 hnt hs1, ?_⟩⟩
        rintro r4 M4 ⟨h4, rfl⟩
        rw [← ew] at h4
        refine ⟨fun g => ⟨⟨by omega, by omega⟩, ih (c + 1) (by omega) (f1 (Or.inl (zor0 h4 g)))⟩, fun g => ?_⟩
        have hst := zor1 h4 g
        have hst1 := hst.1
        refine ⟨⟨by omega, by omega⟩, ⟨by omega, by omega⟩, ⟨by omega, by omega⟩, _, qc44 hW hC (by omega) (Or.inl (by omega)), ?_⟩
        rintro r5 M5 ⟨rfl, rfl⟩
        rw [show (((p : Int) + 1) * 121 + ((at0 + S : Nat) : Int) + (zwdt st en p c : Int)).toNat = 121 * (p + 1) + (at0 + S + zwdt st en p c) by omega]
        have hTa := hT1 (at0 + S + zwdt st en p c) hst1
        exact ⟨⟨by omega, by omega⟩, by omega, by omega, fun g2 => ⟨⟨by omega, by omega⟩, ih (c + 1) (by omega) (f1 (Or.inr ⟨_, hTa, g2⟩))⟩, fun g2 => ⟨_, rfl, f hst _ hTa g2, rfl⟩⟩
    exact key (ch p) 0 (by omega) (fun j hj => by omega)
