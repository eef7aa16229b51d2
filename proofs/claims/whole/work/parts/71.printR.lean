/-! printed: the reference -/
theorem zsg_ext {w : Nat → Nat} : ∀ (m a : Nat) (T : List Nat), T.length = m → (∀ j, j < m → T.getD j 0 = w (a + j)) → T = zsg w m a := by
  intro m
  induction m with
  | zero =>
    intro a T h _
    exact List.eq_nil_of_length_eq_zero h
  | succ m ih =>
    intro a T h hj
    cases T with
    | nil => simp at h
    | cons b T =>
      have e0 := hj 0 (by omega)
      simp at e0
      have e1 := ih (a + 1) T (by simpa using h) (fun j hj2 => by
        have := hj (j + 1) (by omega)
        simp only [List.getD_cons_succ] at this
        rw [this]
        congr 1
        omega)
      rw [e0, e1]
      rfl
/-- the first row as which the text reads, or none -/
def zsPr (pl K : Nat) (ch : Nat → Nat) (T : Nat → List Nat) (W : List Nat) (P P' : Nat → Int) (r : Int) : Prop := ((∀ k, k < K → T k ≠ W) ∧ r = -4 ∧ P' = P) ∨ ∃ k, k < K ∧ T k = W ∧ (∀ k', k' < k → T k' ≠ W) ∧ r = 1 ∧ (∀ p, p < pl → P' p = (zvl pl ch k p : Int)) ∧ ∀ p, pl ≤ p → P' p = P p
theorem qc138 {d : Nat} {M : zMem} {t w : Nat → Nat} {n pl nt : Nat} {ch st en : Nat → Nat} (hn : M 55 2 = n) (htn : M 55 1 = nt) (h120 : nt ≤ 120) (hw : ∀ i, i < nt → M 56 i = w i) (hW : n ≠ 0 → zWL t n pl ch st en ∧ zlR M t n pl ch st en) : zCi (d + 1) 138 [.inr (.inr 55)] M (fun r M' => ((n = 0 ∧ r = -2 ∧ M' 66 = M 66) ∨ (n ≠ 0 ∧ zsPr pl (zwq (zn6 pl ch 1) 6 0) ch (fun k => zrd t n pl ch st en (zvl pl ch k) pl 0) (zsg w nt 0) (M 66) (M' 66) r)) ∧ M' 55 1 = 0 ∧ (∀ j, j ≠ 1 → M' 55 j = M 55 j) ∧ ∀ k, k ≠ 55 → k ≠ 66 → k ≠ 68 → k ≠ 70 → M' k = M k) := by
  refine zk138 (zv138_0 ?_)
  rw [hn, htn]
  refine ⟨fun g => ?_, fun g => ⟨_, rfl, Or.inl ⟨by omega, rfl, by rw [zb_uk (by decide)]⟩, zb_us, fun j hj => by rw [zb_ui hj], fun k hk _ _ _ => by rw [zb_uk hk]⟩⟩
  obtain ⟨W1, W2⟩ := hW (by omega)
  have h6 := W1.2.2.1
  have hch : ∀ p, p < pl → 2 ≤ ch p ∧ ch p ≤ 4 := fun p hp => ⟨(W1.2.2.2.1 p hp).1, (W1.2.2.2.1 p hp).2.1⟩
  generalize hK : zwq (zn6 pl ch 1) 6 0 = K
  have hF1 : ∀ (M2 : zMem), (∀ k, k ≠ 55 → k ≠ 66 → k ≠ 68 → k ≠ 70 → M2 k = M k) → (∀ j, j ≠ 1 → M2 55 j = M 55 j) → zlR M2 t n pl ch st en := by
    intro M2 h1 h2
    refine ⟨by rw [h2 2 (by decide)]; exact W2.1, by rw [h2 4 (by decide)]; exact W2.2.1, ?_, ?_, ?_⟩
    · rw [h1 57 (by decide) (by decide) (by decide) (by decide)]; exact W2.2.2.1
    · rw [h1 60 (by decide) (by decide) (by decide) (by decide), h1 59 (by decide) (by decide) (by decide) (by decide)]; exact W2.2.2.2.1
    · rw [h1 61 (by decide) (by decide) (by decide) (by decide), h1 62 (by decide) (by decide) (by decide) (by decide)]; exact W2.2.2.2.2
  -- the row is written down
  have wr : ∀ (m p k : Nat) (M2 : zMem), p + m = pl → k < K → zrd t n pl ch st en (zvl pl ch k) pl 0 = zsg w nt 0 → (∀ k', k' < k → zrd t n pl ch st en (zvl pl ch k') pl 0 ≠ zsg w nt 0) → (∀ q, q < pl → M2 70 q = (zvl pl ch k q : Int)) → (∀ q, q < p → M2 66 q = (zvl pl ch k q : Int)) → (∀ q, p ≤ q → M2 66 q = M 66 q) → M2 55 1 = 0 → (∀ j, j ≠ 1 → M2 55 j = M 55 j) → (∀ k, k ≠ 55 → k ≠ 66 → k ≠ 68 → k ≠ 70 → M2 k = M k) →
      zBg (d + 1) 138 98 [zR 55, none, none, none, zI (p : Int)] [] M2 (fun q M' => ∃ r : Int, q = some (.inl r) ∧ ((n = 0 ∧ r = -2 ∧ M' 66 = M 66) ∨ (n ≠ 0 ∧ zsPr pl K ch (fun k => zrd t n pl ch st en (zvl pl ch k) pl 0) (zsg w nt 0) (M 66) (M' 66) r)) ∧ M' 55 1 = 0 ∧ (∀ j, j ≠ 1 → M' 55 j = M 55 j) ∧ ∀ k, k ≠ 55 → k ≠ 66 → k ≠ 68 → k ≠ 70 → M' k = M k) := by
    intro m
    induction m with
    | zero =>
      intro p k M2 hp hk e1 e2 e3 e4 e5 e6 e7 e8
      have : p = pl := by omega
      subst this
      refine zv138_98 _ ?_
      rw [e7 4 (by decide), W2.2.1]
      exact ⟨fun _ => ⟨_, rfl, Or.inr ⟨by omega, Or.inr ⟨k, hk, e1, e2, rfl, e4, e5⟩⟩, e6, e7, e8⟩, fun g => absurd (by omega) g⟩
    | succ m ih =>
      intro p k M2 hp hk e1 e2 e3 e4 e5 e6 e7 e8
      refine zv138_98 _ ?_
      rw [e7 4 (by decide), W2.2.1, Int.toNat_natCast, e3 p (by omega)]
      refine ⟨fun g => by omega, fun _ => ⟨by omega, by omega, by omega, by omega, ⟨by omega, by omega⟩, ?_⟩⟩
      refine ih (p + 1) k _ (by omega) hk e1 e2 ?_ ?_ ?_ ?_ ?_ ?_
      · rw [zb_uk (by decide)]; exact e3
      · intro q hq
        by_cases hqp : q = p
        · subst hqp; exact zb_us
        · rw [zb_ui hqp]; exact e4 q (by omega)
      · intro q hq
        rw [zb_ui (by omega)]; exact e5 q (by omega)
      · rw [zb_uk (by decide)]; exact e6
      · rw [zb_uk (by decide)]; exact e7
      · intro q g1 g2 g3 g4
        rw [zb_uk g2]; exact e8 q g1 g2 g3 g4
  have one : ∀ (k : Nat) (M2 : zMem), k < K → (∀ k', k' < k → zrd t n pl ch st en (zvl pl ch k') pl 0 ≠ zsg w nt 0) → (∀ q, q < pl → M2 70 q = (zvl pl ch k q : Int)) → M2 66 = M 66 → M2 55 1 = 0 → (∀ j, j ≠ 1 → M2 55 j = M 55 j) → (∀ k, k ≠ 55 → k ≠ 66 → k ≠ 68 → k ≠ 70 → M2 k = M k) →
      (k + 1 < K → ∀ M3 : zMem, (∀ k', k' < (k + 1) → zrd t n pl ch st en (zvl pl ch k') pl 0 ≠ zsg w nt 0) → (∀ q, q < pl → M3 70 q = (zvl pl ch (k + 1) q : Int)) → M3 66 = M 66 → M3 55 1 = 0 → (∀ j, j ≠ 1 → M3 55 j = M 55 j) → (∀ k, k ≠ 55 → k ≠ 66 → k ≠ 68 → k ≠ 70 → M3 k = M k) → zBg (d + 1) 138 26 [zR 55, zI (nt : Int), zI 1, none, none] [] M3 (fun q M' => ∃ r : Int, q = some (.inl r) ∧ ((n = 0 ∧ r = -2 ∧ M' 66 = M 66) ∨ (n ≠ 0 ∧ zsPr pl K ch (fun k => zrd t n pl ch st en (zvl pl ch k) pl 0) (zsg w nt 0) (M 66) (M' 66) r)) ∧ M' 55 1 = 0 ∧ (∀ j, j ≠ 1 → M' 55 j = M 55 j) ∧ ∀ k, k ≠ 55 → k ≠ 66 → k ≠ 68 → k ≠ 70 → M' k = M k)) →
      zBg (d + 1) 138 26 [zR 55, zI (nt : Int), zI 1, none, none] [] M2 (fun q M' => ∃ r : Int, q = some (.inl r) ∧ ((n = 0 ∧ r = -2 ∧ M' 66 = M 66) ∨ (n ≠ 0 ∧ zsPr pl K ch (fun k => zrd t n pl ch st en (zvl pl ch k) pl 0) (zsg w nt 0) (M 66) (M' 66) r)) ∧ M' 55 1 = 0 ∧ (∀ j, j ≠ 1 → M' 55 j = M 55 j) ∧ ∀ k, k ≠ 55 → k ≠ 66 → k ≠ 68 → k ≠ 70 → M' k = M k) := by
    intro k M2 hk e2 e3 e5 e6 e7 e8 cont
    refine zv138_26 _ _ ⟨fun g => absurd g (by decide), fun _ => ⟨_, qc124 (a := 70) (n1 := 6) (b0 := 0) (v := zvl pl ch k) W1 (hF1 M2 e8 e7) rfl (by decide) (by omega) (by decide) (fun p hp => ⟨by rw [Nat.zero_add]; exact e3 p hp, ?_⟩), ?_⟩⟩
    · unfold zvl zv6
      split
      · left; assumption
      · right; rfl
    rintro v1 M3 ⟨rfl, _, f1, f2⟩
    generalize hT : zrd t n pl ch st en (zvl pl ch k) pl 0 = T at f1
    have c70 : ∀ q, q < pl → M3 70 q = (zvl pl ch k q : Int) := by rw [f2 70 (by decide)]; exact e3
    have c66 : M3 66 = M 66 := by rw [f2 66 (by decide)]; exact e5
    have c1 : M3 55 1 = 0 := by rw [f2 55 (by decide)]; exact e6
    have c55 : ∀ j, j ≠ 1 → M3 55 j = M 55 j := by rw [f2 55 (by decide)]; exact e7
    have cF : ∀ k, k ≠ 55 → k ≠ 66 → k ≠ 68 → k ≠ 70 → M3 k = M k := fun q g1 g2 g3 g4 => by rw [f2 q g3]; exact e8 q g1 g2 g3 g4
    have cL := hF1 M3 cF c55
    have no : T ≠ zsg w nt 0 → ∃ Q1, zCi d 136 [.inr (.inr 55), .inl 1] M3 Q1 ∧ ∀ v1 M1, Q1 v1 M1 → zBg (d + 1) 138 26 [zR 55, zI (nt : Int), zI v1, none, none] [] M1 (fun q M' => ∃ r : Int, q = some (.inl r) ∧ ((n = 0 ∧ r = -2 ∧ M' 66 = M 66) ∨ (n ≠ 0 ∧ zsPr pl K ch (fun k => zrd t n pl ch st en (zvl pl ch k) pl 0) (zsg w nt 0) (M 66) (M' 66) r)) ∧ M' 55 1 = 0 ∧ (∀ j, j ≠ 1 → M' 55 j = M 55 j) ∧ ∀ k, k ≠ 55 → k ≠ 66 → k ≠ 68 → k ≠ 70 → M' k = M k) := by
      intro hne
      refine ⟨_, qc136 (lf := 1) (k := k) (ch := ch) cL.2.1 h6 (fun p hp => ⟨(cL.2.2.2.1 p hp).1, hch p hp⟩) (by decide) (by rw [hK]; exact hk) c70, ?_⟩
      rintro v M4 ⟨hx, hF⟩
      rw [← hT] at hne
      have all : ∀ k', k' < k + 1 → zrd t n pl ch st en (zvl pl ch k') pl 0 ≠ zsg w nt 0 := by
        intro k' hk'
        by_cases e : k' = k
        · subst e; exact hne
        · exact e2 k' (by omega)
      unfold znx at hx
      rw [hK] at hx
      rcases hx with ⟨rfl, hk1, hrow⟩ | ⟨rfl, hk1⟩
      · exact cont hk1 M4 all hrow (by rw [hF 66 (by decide)]; exact c66) (by rw [hF 55 (by decide)]; exact c1) (by rw [hF 55 (by decide)]; exact c55) (fun q g1 g2 g3 g4 => by rw [hF q g4]; exact cF q g1 g2 g3 g4)
      · refine zv138_26 _ _ ⟨fun _ => ⟨_, rfl, Or.inr ⟨by omega, Or.inl ⟨fun k' hk' => all k' (by omega), rfl, ?_⟩⟩, ?_, ?_, ?_⟩, fun g => absurd rfl g⟩
        · rw [hF 66 (by decide)]; exact c66
        · rw [hF 55 (by decide)]; exact c1
        · rw [hF 55 (by decide)]; exact c55
        · intro q g1 g2 g3 g4
          rw [hF q g4]; exact cF q g1 g2 g3 g4
    have z0 : T ≠ zsg w nt 0 → ∀ x4 : Int, zBg (d + 1) 138 52 [zR 55, zI (nt : Int), none, zI 0, zI x4] [] M3 (fun q M' => ∃ r : Int, q = some (.inl r) ∧ ((n = 0 ∧ r = -2 ∧ M' 66 = M 66) ∨ (n ≠ 0 ∧ zsPr pl K ch (fun k => zrd t n pl ch st en (zvl pl ch k) pl 0) (zsg w nt 0) (M 66) (M' 66) r)) ∧ M' 55 1 = 0 ∧ (∀ j, j ≠ 1 → M' 55 j = M 55 j) ∧ ∀ k, k ≠ 55 → k ≠ 66 → k ≠ 68 → k ≠ 70 → M' k = M k) := by
      intro hne x4
      exact zv138_52 _ _ _ ⟨fun _ => ⟨fun _ => no hne, fun g => absurd rfl g⟩, fun _ => ⟨fun _ => ⟨fun _ => no hne, fun g => absurd rfl g⟩, fun g => absurd rfl g⟩⟩
    have lop : ∀ (s j : Nat), j + s = nt → T.length = nt → (∀ i, i < j → T.getD i 0 = w i) → zBg (d + 1) 138 52 [zR 55, zI (nt : Int), none, zI 1, zI (j : Int)] [] M3 (fun q M' => ∃ r : Int, q = some (.inl r) ∧ ((n = 0 ∧ r = -2 ∧ M' 66 = M 66) ∨ (n ≠ 0 ∧ zsPr pl K ch (fun k => zrd t n pl ch st en (zvl pl ch k) pl 0) (zsg w nt 0) (M 66) (M' 66) r)) ∧ M' 55 1 = 0 ∧ (∀ j, j ≠ 1 → M' 55 j = M 55 j) ∧ ∀ k, k ≠ 55 → k ≠ 66 → k ≠ 68 → k ≠ 70 → M' k = M k) := by
      intro s
      induction s with
      | zero =>
        intro j hj hl he
        have : j = nt := by omega
        subst this
        refine zv138_52 _ _ _ ⟨fun _ => ⟨fun g => absurd g (by decide), fun _ => ?_⟩, fun g => absurd (by omega) g⟩
        have hTW : T = zsg w j 0 := zsg_ext j 0 T hl (fun i hi => by rw [Nat.zero_add]; exact he i hi)
        exact wr pl 0 k M3 (by omega) hk (by rw [hT]; exact hTW) e2 c70 (fun q hq => by omega) (fun q _ => by rw [c66]) c1 c55 cF
      | succ s ih =>
        intro j hj hl he
        refine zv138_52 _ _ _ ?_
        rw [Int.toNat_natCast, f1 j (by omega), cF 56 (by decide) (by decide) (by decide) (by decide), hw j (by omega)]
        refine ⟨fun g => by omega, fun _ => ⟨fun g => absurd g (by decide), fun _ => ⟨by omega, by omega, by omega, by omega, fun g => ⟨⟨by omega, by omega⟩, z0 ?_ _⟩, fun g => ⟨⟨by omega, by omega⟩, ih (j + 1) (by omega) hl ?_⟩⟩⟩⟩
        · intro hTW
          rw [hTW, zsg_get _ _ _ (by omega), Nat.zero_add] at g
          exact g rfl
        · intro i hi
          by_cases hij : i = j
          · subst hij; omega
          · exact he i (by omega)
    rw [← hT] at *
    refine ⟨fun g => z0 ?_ _, fun g => ?_⟩
    · intro hTW
      rw [hTW, zsg_len] at g
      exact g rfl
    · exact lop nt 0 (by omega) (by omega) (fun i hi => by omega)
  have key : ∀ (m k : Nat) (M2 : zMem), k + m + 1 = K → (∀ k', k' < k → zrd t n pl ch st en (zvl pl ch k') pl 0 ≠ zsg w nt 0) → (∀ q, q < pl → M2 70 q = (zvl pl ch k q : Int)) → M2 66 = M 66 → M2 55 1 = 0 → (∀ j, j ≠ 1 → M2 55 j = M 55 j) → (∀ k, k ≠ 55 → k ≠ 66 → k ≠ 68 → k ≠ 70 → M2 k = M k) →
      zBg (d + 1) 138 26 [zR 55, zI (nt : Int), zI 1, none, none] [] M2 (fun q M' => ∃ r : Int, q = some (.inl r) ∧ ((n = 0 ∧ r = -2 ∧ M' 66 = M 66) ∨ (n ≠ 0 ∧ zsPr pl K ch (fun k => zrd t n pl ch st en (zvl pl ch k) pl 0) (zsg w nt 0) (M 66) (M' 66) r)) ∧ M' 55 1 = 0 ∧ (∀ j, j ≠ 1 → M' 55 j = M 55 j) ∧ ∀ k, k ≠ 55 → k ≠ 66 → k ≠ 68 → k ≠ 70 → M' k = M k) := by
    intro m
    induction m with
    | zero =>
      intro k M2 hk e2 e3 e5 e6 e7 e8
      exact one k M2 (by omega) e2 e3 e5 e6 e7 e8 (fun g => by omega)
    | succ m ih =>
      intro k M2 hk e2 e3 e5 e6 e7 e8
      exact one k M2 (by omega) e2 e3 e5 e6 e7 e8 (fun g M3 => ih (k + 1) M3 (by omega))
  have beg : ∀ (m k : Nat) (M2 : zMem), k + m = 6 → (∀ i, i < k → M2 70 i = 0) → (∀ q, q ≠ 70 → M2 q = zup M 55 1 0 q) → zBg d 137 2 [zR 55, zI (k : Int)] [] M2 (fun q M' => q = none ∧ (∀ i, i < 6 → M' 70 i = 0) ∧ ∀ q, q ≠ 70 → M' q = zup M 55 1 0 q) := by
    intro m
    induction m with
    | zero =>
      intro k M2 hk e1 e2
      have : k = 6 := by omega
      subst this
      exact zv137_2 _ ⟨fun _ => ⟨rfl, e1, e2⟩, fun g => absurd (by omega) g⟩
    | succ m ih =>
      intro k M2 hk e1 e2
      refine zv137_2 _ ⟨fun g => by omega, fun _ => ⟨by omega, by omega, ⟨by omega, by omega⟩, ?_⟩⟩
      rw [Int.toNat_natCast]
      refine ih (k + 1) _ (by omega) (fun i hi => ?_) (fun q hq => by rw [zb_uk hq]; exact e2 q hq)
      by_cases hik : i = k
      · subst hik; exact zb_us
      · rw [zb_ui hik]; exact e1 i (by omega)
  have hK0 : 0 < K := by rw [← hK]; exact zwq_pos' zn6_pos
  refine ⟨_, zk137 (zv137_0 (beg 6 0 _ rfl (fun i hi => by omega) (fun _ _ => rfl))), ?_⟩
  rintro M2 ⟨e1, e2⟩
  refine key (K - 1) 0 M2 (by omega) (fun k' hk' => by omega) (fun q hq => ?_) ?_ ?_ ?_ ?_
  · rw [e1 q (by omega)]
    unfold zvl zv6
    rw [zdt_0, if_pos (by have := hch q hq; omega)]
    rfl
  · rw [e2 66 (by decide), zb_uk (by decide)]
  · rw [e2 55 (by decide), zb_us]
  · intro j hj
    rw [e2 55 (by decide), zb_ui hj]
  · intro q g1 g2 g3 g4
    rw [e2 q g4, zb_uk g1]
