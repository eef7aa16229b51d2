/-! reads of both sides -/
def zlC (M : zMem) (t : Nat → Nat) (n pl : Nat) (ch st en : Nat → Nat) : Prop := M 13 5 = n ∧ M 13 6 = pl ∧ (∀ i, i < n → M 14 i = t i) ∧ (∀ p, p < pl → M 15 p = ch p) ∧ ∀ p, p < pl → ∀ c, c < ch p → M 16 (4 * p + c) = st (4 * p + c) ∧ M 17 (4 * p + c) = en (4 * p + c)
def zlR (M : zMem) (t : Nat → Nat) (n pl : Nat) (ch st en : Nat → Nat) : Prop := M 55 2 = n ∧ M 55 4 = pl ∧ (∀ i, i < n → M 57 i = t i) ∧ (∀ p, p < pl → M 60 p = ch p ∧ M 59 p = en (4 * p + (ch p - 1))) ∧ ∀ p, p < pl → ∀ c, c < ch p → M 61 (4 * p + c) = st (4 * p + c) ∧ M 62 (4 * p + c) = en (4 * p + c)
theorem qc37 {d : Nat} {M : zMem} {t : Nat → Nat} {n pl p : Nat} {ch st en : Nat → Nat} (hW : zWL t n pl ch st en) (hC : zlC M t n pl ch st en) (hp : p ≤ pl) : zCi d 37 [.inr (.inr 13), .inl (p : Int)] M (fun r M' => r = (zqs ch en p : Int) ∧ M' = M) := by
  obtain ⟨_, h120, h6, hP, _⟩ := hW
  obtain ⟨c1, c2, c3, c4, c5⟩ := hC
  refine zk37 (zv37_0 _ ⟨fun g => ?_, fun g => ⟨_, rfl, ?_, rfl⟩⟩)
  · obtain ⟨q, rfl⟩ : ∃ q, p = q + 1 := ⟨p - 1, by omega⟩
    obtain ⟨w1, w2, w3, w4, w5⟩ := hP q (by omega)
    obtain ⟨y1, y2, y3⟩ := w4 (ch q - 1) (by omega)
    rw [show (((q + 1 : Nat) : Int) - 1) = (q : Int) by omega, Int.toNat_natCast, c4 q (by omega), show ((q : Int) * 4 + (ch q : Int) - 1).toNat = 4 * q + (ch q - 1) by omega, (c5 q (by omega) (ch q - 1) (by omega)).2]
    refine ⟨⟨by omega, by omega⟩, ⟨by omega, by omega⟩, ⟨by omega, by omega⟩, by omega, by omega, ⟨by omega, by omega⟩, ⟨by omega, by omega⟩, by omega, by omega, ⟨by omega, by omega⟩, _, rfl, ?_, rfl⟩
    unfold zqs
    rw [if_neg (by omega), Nat.add_sub_cancel]
    omega
  · unfold zqs
    rw [if_pos (by omega)]
    rfl
theorem qc38 {d : Nat} {M : zMem} {t : Nat → Nat} {n pl p : Nat} {ch st en : Nat → Nat} (hW : zWL t n pl ch st en) (hC : zlC M t n pl ch st en) (hp : p ≤ pl) : zCi d 38 [.inr (.inr 13), .inl (p : Int)] M (fun r M' => r = (zqe n pl st p : Int) ∧ M' = M) := by
  obtain ⟨_, h120, h6, hP, _⟩ := hW
  obtain ⟨c1, c2, c3, c4, c5⟩ := hC
  refine zk38 (zv38_0 _ ?_)
  rw [c2, c1]
  refine ⟨fun g => ⟨_, rfl, ?_, rfl⟩, fun g => ?_⟩
  · unfold zqe
    rw [if_neg (by omega)]
  · obtain ⟨w1, w2, w3, w4, w5⟩ := hP p (by omega)
    obtain ⟨y1, y2, _⟩ := w3
    have := (c5 p (by omega) 0 (by omega)).1
    rw [Nat.add_zero] at this
    rw [show ((p : Int) * 4).toNat = 4 * p by omega, this]
    refine ⟨⟨by omega, by omega⟩, by omega, by omega, ⟨by omega, by omega⟩, _, rfl, ?_, rfl⟩
    unfold zqe
    rw [if_pos (by omega)]
    omega
/-- plain parts stand in order -/
theorem zWL_pl {t : Nat → Nat} {n pl : Nat} {ch st en : Nat → Nat} (hW : zWL t n pl ch st en) {p : Nat} (hp : p ≤ pl) : zqs ch en p ≤ zqe n pl st p ∧ zqe n pl st p ≤ n ∧ (∀ j, zqs ch en p ≤ j → j < zqe n pl st p → t j ≠ 91) ∧ (p < pl → zqe n pl st p < n ∧ t (zqe n pl st p) = 91 ∧ zqe n pl st p < zqs ch en (p + 1) ∧ zqs ch en (p + 1) = en (4 * p + (ch p - 1)) + 1 ∧ zqs ch en (p + 1) ≤ n) := by
  obtain ⟨_, h120, h6, hP, hz, hj⟩ := hW
  by_cases hpl : p < pl
  · obtain ⟨w1, w2, ⟨v1, v2, v3, v4, v5⟩, w4, w5⟩ := hP p hpl
    obtain ⟨y1, y2, y3⟩ := w4 (ch p - 1) (by omega)
    have e1 : zqe n pl st p = st (4 * p) - 1 := by unfold zqe; rw [if_pos hpl]
    have e2 : zqs ch en (p + 1) = en (4 * p + (ch p - 1)) + 1 := by
      unfold zqs
      rw [if_neg (by omega), Nat.add_sub_cancel]
    rw [e1, e2]
    exact ⟨v4, by omega, v5, fun _ => ⟨by omega, v3, by omega, rfl, by omega⟩⟩
  · have : p = pl := by omega
    subst this
    have e1 : zqe n p st p = n := by unfold zqe; rw [if_neg (by omega)]
    rw [e1]
    exact ⟨hz, Nat.le_refl _, hj, fun h => absurd h hpl⟩
def zval (T : List Nat) (x : Nat) : Int := if x < T.length then ((T.getD x 0 : Nat) : Int) else -4
theorem qc39 {d : Nat} {M : zMem} {t : Nat → Nat} {n pl c x : Nat} {ch st en v : Nat → Nat} (hW : zWL t n pl ch st en) (hC : zlC M t n pl ch st en) (hc : c < 8) (hx : zR32 (x : Int)) (hv : ∀ p, p < pl → M 7 (6 * c + p) = v p ∧ v p < ch p) : zCi (d + 1) 39 [.inr (.inr 13), .inr (.inr 7), .inl (((6 * c : Nat)) : Int), .inl (x : Int)] M (fun r M' => r = zval (zrd t n pl ch st en v pl 0) x ∧ M' = M) := by
  have h6 := hW.2.2.1
  have h120 := hW.2.1
  have hx2 := hx.2
  refine zk39 (zv39_0 _ _ ?_)
  have key : ∀ (m p y : Nat), p + m = pl → y ≤ x → zBg (d + 1) 39 6 [zR 13, zR 7, zI (((6 * c : Nat)) : Int), none, zI (y : Int), zI (p : Int), none, none, none] [] M (fun q M' => ∃ w : Int, q = some (.inl w) ∧ w = zval (zrd t n pl ch st en v m p) y ∧ M' = M) := by
    intro m
    induction m with
    | zero =>
      intro p y hp hy
      have : p = pl := by omega
      subst this
      obtain ⟨a1, a2, _, _⟩ := zWL_pl hW (Nat.le_refl p)
      refine zv39_6 _ _ _ ?_
      rw [hC.2.1]
      refine ⟨fun g => absurd g (by omega), fun _ => ⟨_, qc37 hW hC (Nat.le_refl _), ?_⟩⟩
      rintro r1 M1 ⟨rfl, rfl⟩
      refine ⟨_, qc38 hW hC (Nat.le_refl _), ?_⟩
      rintro r2 M2 ⟨rfl, rfl⟩
      rw [hC.2.1]
      unfold zval zrd
      rw [zsg_len]
      refine ⟨⟨by omega, by omega⟩, fun g => ⟨⟨by omega, by omega⟩, fun g2 => ⟨⟨by omega, by omega⟩, zv39_6 _ _ _ ?_⟩, fun g2 => absurd (by omega) g2⟩, fun g => ⟨⟨by omega, by omega⟩, by omega, by omega, _, rfl, ?_, rfl⟩⟩
      · rw [hC.2.1]
        refine ⟨fun _ => ⟨_, rfl, ?_, rfl⟩, fun g => absurd (by omega) g⟩
        rw [if_neg (by omega)]
      · rw [if_pos (by omega), zsg_get _ _ _ (by omega), show ((zqs ch en p : Int) + (y : Int)).toNat = zqs ch en p + y by omega]
        exact hC.2.2.1 _ (by omega)
    | succ m ih =>
      intro p y hp hy
      obtain ⟨a1, a2, _, a4⟩ := zWL_pl hW (p := p) (by omega)
      obtain ⟨b1, b2, b3, b4, b5⟩ := a4 (by omega)
      obtain ⟨w1, w2, w3, w4, w5⟩ := hW.2.2.2.1 p (by omega)
      obtain ⟨v1, v2⟩ := hv p (by omega)
      obtain ⟨y1, y2, y3⟩ := w4 (v p) v2
      obtain ⟨s1, s2⟩ := hC.2.2.2.2 p (by omega) (v p) v2
      have hlen : (zcg t st en p (v p)).length = en (4 * p + v p) - st (4 * p + v p) := by
        unfold zcg
        rw [if_neg (by omega), zsg_len]
      refine zv39_6 _ _ _ ?_
      rw [hC.2.1]
      refine ⟨fun g => absurd g (by omega), fun _ => ⟨_, qc37 hW hC (by omega), ?_⟩⟩
      rintro r1 M1 ⟨rfl, rfl⟩
      refine ⟨_, qc38 hW hC (by omega), ?_⟩
      rintro r2 M2 ⟨rfl, rfl⟩
      rw [hC.2.1, show (((6 * c : Nat) : Int) + (p : Int)).toNat = 6 * c + p by omega, v1, show ((p : Int) * 4 + (v p : Int)).toNat = 4 * p + v p by omega, s1, s2]
      refine ⟨⟨by omega, by omega⟩, fun g => ⟨⟨by omega, by omega⟩, fun g2 => by omega, fun g2 => ⟨⟨by omega, by omega⟩, ⟨by omega, by omega⟩, by omega, by omega, ⟨by omega, by omega⟩, by omega, by omega, by omega, by omega, ⟨by omega, by omega⟩, fun g3 => ⟨⟨by omega, by omega⟩, ⟨by omega, by omega⟩, ?_⟩, fun g3 => ⟨by omega, by omega, ⟨by omega, by omega⟩, by omega, by omega, _, rfl, ?_, rfl⟩⟩⟩, fun g => ⟨⟨by omega, by omega⟩, by omega, by omega, _, rfl, ?_, rfl⟩⟩
      · have := ih (p + 1) (y - (zqe n pl st p - zqs ch en p) - (en (4 * p + v p) - st (4 * p + v p))) (by omega) (by omega)
        rw [show ((y - (zqe n pl st p - zqs ch en p) - (en (4 * p + v p) - st (4 * p + v p)) : Nat) : Int) = (y : Int) - ((zqe n pl st p : Int) - (zqs ch en p : Int)) - ((en (4 * p + v p) : Int) - (st (4 * p + v p) : Int)) by omega] at this
        have e : zval (zrd t n pl ch st en v (m + 1) p) y = zval (zrd t n pl ch st en v m (p + 1)) (y - (zqe n pl st p - zqs ch en p) - (en (4 * p + v p) - st (4 * p + v p))) := by
          unfold zval
          rw [show zrd t n pl ch st en v (m + 1) p = zsg t (zqe n pl st p - zqs ch en p) (zqs ch en p) ++ (zcg t st en p (v p) ++ zrd t n pl ch st en v m (p + 1)) from rfl, zgetD_app, zgetD_app, List.length_append, List.length_append, zsg_len, hlen]
          by_cases hh : y < zqe n pl st p - zqs ch en p + (en (4 * p + v p) - st (4 * p + v p) + (zrd t n pl ch st en v m (p + 1)).length)
          · rw [if_pos hh, if_neg (by omega), if_neg (by omega), if_pos (by omega)]
          · rw [if_neg hh, if_neg (by omega)]
        rw [e]
        exact this
      · unfold zval
        rw [show zrd t n pl ch st en v (m + 1) p = zsg t (zqe n pl st p - zqs ch en p) (zqs ch en p) ++ (zcg t st en p (v p) ++ zrd t n pl ch st en v m (p + 1)) from rfl, zgetD_app, zgetD_app, List.length_append, List.length_append, zsg_len, hlen, if_pos (by omega), if_neg (by omega), if_pos (by omega)]
        rw [show zcg t st en p (v p) = zsg t (en (4 * p + v p) - st (4 * p + v p)) (st (4 * p + v p)) by unfold zcg; rw [if_neg (by omega)], zsg_get _ _ _ (by omega), show ((st (4 * p + v p) : Int) + ((y : Int) - ((zqe n pl st p : Int) - (zqs ch en p : Int)))).toNat = st (4 * p + v p) + (y - (zqe n pl st p - zqs ch en p)) by omega]
        exact hC.2.2.1 _ (by omega)
      · unfold zval
        rw [show zrd t n pl ch st en v (m + 1) p = zsg t (zqe n pl st p - zqs ch en p) (zqs ch en p) ++ (zcg t st en p (v p) ++ zrd t n pl ch st en v m (p + 1)) from rfl, zgetD_app, List.length_append, zsg_len, if_pos (by omega), if_pos (by omega), zsg_get _ _ _ (by omega), show ((zqs ch en p : Int) + (y : Int)).toNat = zqs ch en p + y by omega]
        exact hC.2.2.1 _ (by omega)
  exact key pl 0 x (by omega) (Nat.le_refl _)
def zsReads (cp : Nat) (T : Nat → List Nat) (x y r : Int) : Prop := (¬ (zisC cp x ∧ 0 ≤ y) ∧ r = -1) ∨ ((zisC cp x ∧ 0 ≤ y) ∧ r = zval (T x.toNat) y.toNat)
theorem qc79 {d : Nat} {M : zMem} {t : Nat → Nat} {n pl cp : Nat} {ch st en : Nat → Nat} {ro : Nat → Nat → Nat} {x y : Int} (hcp : M 4 9 = cp) (h8 : cp ≤ 8) (hy : zR32 y) (hW : 0 < cp → zWL t n pl ch st en ∧ zlC M t n pl ch st en) (hr : ∀ c, c < cp → ∀ p, p < pl → M 7 (6 * c + p) = ro c p ∧ ro c p < ch p) : zCi (d + 2) 79 [.inr (.inr 0), .inl x, .inl y] M (fun r M' => zsReads cp (fun c => zrd t n pl ch st en (ro c) pl 0) x y r ∧ M' = M) := by
  refine zk79 (zv79_0 _ _ ⟨_, qc56 hcp, ?_⟩)
  rintro w M1 ⟨hw, rfl⟩
  refine ⟨fun h => ⟨_, rfl, Or.inl ⟨fun hk => zor0 hw h hk.1, rfl⟩, rfl⟩, fun h => ⟨fun g => ?_, fun g => ⟨_, rfl, Or.inl ⟨fun hk => g hk.2, rfl⟩, rfl⟩⟩⟩
  have hx := zor1 hw h
  have x1 := hx.1
  have x2 := hx.2
  obtain ⟨c, rfl⟩ : ∃ c : Nat, x = (c : Int) := ⟨x.toNat, by omega⟩
  obtain ⟨z, rfl⟩ : ∃ z : Nat, y = (z : Int) := ⟨y.toNat, by omega⟩
  obtain ⟨W1, W2⟩ := hW (by omega)
  rw [show (c : Int) * 6 = ((6 * c : Nat) : Int) by omega]
  refine ⟨⟨by omega, by omega⟩, _, qc39 W1 W2 (by omega) hy (hr c (by omega)), ?_⟩
  rintro r M2 ⟨rfl, rfl⟩
  exact ⟨_, rfl, Or.inr ⟨⟨hx, g⟩, by rw [Int.toNat_natCast, Int.toNat_natCast]⟩, rfl⟩
theorem zdrop1 {T r : List Nat} {k b : Nat} (h : T.drop k = b :: r) : k < T.length ∧ T.getD k 0 = b ∧ T.drop (k + 1) = r := by
  have hk : k < T.length := by
    rcases Nat.lt_or_ge k T.length with g | g
    · exact g
    · rw [List.drop_eq_nil_of_le g] at h; cases h
  have e := List.drop_eq_getElem_cons hk
  rw [h] at e
  injection e with e1 e2
  exact ⟨hk, by simp [List.getD_eq_getElem?_getD, hk, e1], e2.symm⟩
/-- the reference reads a row into its line -/
theorem qc124 {d : Nat} {M : zMem} {t : Nat → Nat} {n pl a n1 b0 : Nat} {ch st en v : Nat → Nat} (hW : zWL t n pl ch st en) (hC : zlR M t n pl ch st en) (ha : zSHL[a]? = some (.inl (0, n1))) (ha68 : a ≠ 68) (hb0 : b0 + pl ≤ n1) (hn1 : n1 ≤ 1000) (hv : ∀ p, p < pl → M a (b0 + p) = v p ∧ (v p < ch p ∨ v p = 4)) : zCi d 124 [.inr (.inr 55), .inr (.inr a), .inl (b0 : Int)] M (fun r M' => r = ((zrd t n pl ch st en v pl 0).length : Int) ∧ (zrd t n pl ch st en v pl 0).length ≤ 168 ∧ (∀ j, j < (zrd t n pl ch st en v pl 0).length → M' 68 j = (((zrd t n pl ch st en v pl 0).getD j 0 : Nat) : Int)) ∧ ∀ k, k ≠ 68 → M' k = M k) := by
  have h6 := hW.2.2.1
  have h120 := hW.2.1
  generalize hT : zrd t n pl ch st en v pl 0 = T
  refine zk124 (zv124_0 _ _ ?_)
  have put : ∀ (x : Nat) (M2 : zMem) (b : Nat) (r : List Nat), T.drop x = b :: r → (∀ j, j < x → M2 68 j = ((T.getD j 0 : Nat) : Int)) → ∀ j, j < x + 1 → zup M2 68 x (b : Int) 68 j = ((T.getD j 0 : Nat) : Int) := by
    intro x M2 b r hd h j hj
    by_cases e : j = x
    · subst e
      rw [zb_us, (zdrop1 hd).2.1]
    · rw [zb_ui e]; exact h j (by omega)
  have key : ∀ (m p : Nat), p + m = pl → ∀ (s x a0 : Nat) (M2 : zMem), zqs ch en p ≤ a0 → a0 + s = zqe n pl st p → T.drop x = zsg t s a0 ++ (if m = 0 then [] else zcg t st en p (v p) ++ zrd t n pl ch st en v (m - 1) (p + 1)) → x ≤ T.length → x ≤ a0 + 8 * p → (∀ j, j < x → M2 68 j = ((T.getD j 0 : Nat) : Int)) → (∀ k, k ≠ 68 → M2 k = M k) →
      zBg d 124 8 [zR 55, zR a, zI (b0 : Int), zI (x : Int), zI (p : Int), zI (a0 : Int), none, none] [] M2 (fun q M' => ∃ w : Int, q = some (.inl w) ∧ w = (T.length : Int) ∧ T.length ≤ 168 ∧ (∀ j, j < T.length → M' 68 j = ((T.getD j 0 : Nat) : Int)) ∧ ∀ k, k ≠ 68 → M' k = M k) := by
    intro m
    induction m with
    | zero =>
      intro p hp
      have : p = pl := by omega
      subst this
      obtain ⟨q1, q2, q3, _⟩ := zWL_pl hW (Nat.le_refl p)
      have q4 : zqe n p st p = n := by unfold zqe; rw [if_neg (by omega)]
      intro s
      induction s with
      | zero =>
        intro x a0 M2 h1 h2 hd hx hb hj hF
        refine zv124_8 _ _ _ _ _ ?_
        rw [hF 55 (by decide), hC.1]
        refine ⟨fun _ => ?_, fun g => absurd (by omega) g⟩
        simp only [zsg, if_true, List.append_nil] at hd
        have hl : T.length ≤ x := List.drop_eq_nil_iff.mp hd
        have : x = T.length := by omega
        subst this
        exact ⟨_, rfl, rfl, by omega, hj, hF⟩
      | succ s ih =>
        intro x a0 M2 h1 h2 hd hx hb hj hF
        have ht := hC.2.2.1 a0 (by omega)
        have h91 := q3 a0 h1 (by omega)
        refine zv124_8 _ _ _ _ _ ?_
        rw [hF 55 (by decide), hC.1, hF 57 (by decide), Int.toNat_natCast, ht]
        refine ⟨fun g => by omega, fun _ => ⟨by omega, by omega, fun _ => ⟨by omega, by omega, by omega, by omega, ⟨by omega, by omega⟩, ⟨by omega, by omega⟩, ?_⟩, fun g => absurd (by omega) g⟩⟩
        rw [show zsg t (s + 1) a0 = t a0 :: zsg t s (a0 + 1) from rfl, List.cons_append] at hd
        have hd1 := zdrop1 hd
        rw [Int.toNat_natCast]
        exact ih (x + 1) (a0 + 1) _ (by omega) (by omega) hd1.2.2 (by omega) (by omega) (put x M2 _ _ hd hj) (fun k hk => by rw [zb_uk hk]; exact hF k hk)
    | succ m ihm =>
      intro p hp
      obtain ⟨q1, q2, q3, q4⟩ := zWL_pl hW (p := p) (by omega)
      obtain ⟨b1, b2, b3, b4, b5⟩ := q4 (by omega)
      obtain ⟨w1, w2, w3, w4, w5⟩ := hW.2.2.2.1 p (by omega)
      obtain ⟨v1, v2⟩ := hv p (by omega)
      obtain ⟨c60, c59⟩ := hC.2.2.2.1 p (by omega)
      have next : ∀ (x : Nat) (M2 : zMem), T.drop x = zrd t n pl ch st en v m (p + 1) → x ≤ T.length → x ≤ zqe n pl st p + 8 * p + 8 → (∀ j, j < x → M2 68 j = ((T.getD j 0 : Nat) : Int)) → (∀ k, k ≠ 68 → M2 k = M k) →
          zBg d 124 8 [zR 55, zR a, zI (b0 : Int), zI (x : Int), zI ((p : Int) + 1), zI ((M2 59 p) + 1), none, none] [] M2 (fun q M' => ∃ w : Int, q = some (.inl w) ∧ w = (T.length : Int) ∧ T.length ≤ 168 ∧ (∀ j, j < T.length → M' 68 j = ((T.getD j 0 : Nat) : Int)) ∧ ∀ k, k ≠ 68 → M' k = M k) := by
        intro x M2 hd hx hb hj hF
        rw [hF 59 (by decide), c59, show ((en (4 * p + (ch p - 1)) : Int) + 1) = ((zqs ch en (p + 1) : Nat) : Int) by omega]
        obtain ⟨r1, r2, _, _⟩ := zWL_pl hW (p := p + 1) (by omega)
        refine ihm (p + 1) (by omega) (zqe n pl st (p + 1) - zqs ch en (p + 1)) x (zqs ch en (p + 1)) M2 (Nat.le_refl _) (by omega) ?_ hx (by omega) hj hF
        rw [hd]
        cases m with
        | zero => simp [zrd]
        | succ m => simp [zrd]
      intro s
      induction s with
      | zero =>
        intro x a0 M2 h1 h2 hd hx hb hj hF
        have ha0 : a0 = zqe n pl st p := by omega
        have ht := hC.2.2.1 a0 (by omega)
        rw [ha0, b2] at ht
        refine zv124_8 _ _ _ _ _ ?_
        rw [hF 55 (by decide), hC.1, hF 57 (by decide), Int.toNat_natCast, ha0, ht, zb_ar ha, show ((b0 : Int) + (p : Int)).toNat = b0 + p by omega, hF a ha68, v1]
        simp only [zsg, List.nil_append] at hd
        rw [if_neg (by omega), Nat.add_sub_cancel] at hd
        refine ⟨fun g => by omega, fun _ => ⟨by omega, by omega, fun g => absurd rfl g, fun _ => ⟨⟨by omega, by omega⟩, by omega, by omega, fun g4 => ?_, fun g4 => ?_⟩⟩⟩
        · have v3 : v p < ch p := by omega
          obtain ⟨y1, y2, y3⟩ := w4 (v p) v3
          obtain ⟨s1, s2⟩ := hC.2.2.2.2 p (by omega) (v p) v3
          rw [show (4 * (p : Int) + (v p : Int)).toNat = 4 * p + v p by omega, hF 61 (by decide), s1]
          refine ⟨⟨by omega, by omega⟩, ⟨by omega, by omega⟩, by omega, by omega, ?_⟩
          rw [show zcg t st en p (v p) = zsg t (en (4 * p + v p) - st (4 * p + v p)) (st (4 * p + v p)) by unfold zcg; rw [if_neg (by omega)]] at hd
          have lop : ∀ (s x a1 : Nat) (M2 : zMem), st (4 * p + v p) ≤ a1 → a1 + s = en (4 * p + v p) → T.drop x = zsg t s a1 ++ zrd t n pl ch st en v m (p + 1) → x ≤ T.length → x ≤ zqe n pl st p + 8 * p + (a1 - st (4 * p + v p)) → (∀ j, j < x → M2 68 j = ((T.getD j 0 : Nat) : Int)) → (∀ k, k ≠ 68 → M2 k = M k) →
              zBg d 124 61 [zR 55, zR a, zI (b0 : Int), zI (x : Int), zI (p : Int), none, zI (v p : Int), zI (a1 : Int)] [] M2 (fun q M' => ∃ w : Int, q = some (.inl w) ∧ w = (T.length : Int) ∧ T.length ≤ 168 ∧ (∀ j, j < T.length → M' 68 j = ((T.getD j 0 : Nat) : Int)) ∧ ∀ k, k ≠ 68 → M' k = M k) := by
            intro s
            induction s with
            | zero =>
              intro x a1 M2 h1 h2 hd hx hb hj hF
              refine zv124_61 _ _ _ _ _ _ ?_
              rw [show (4 * (p : Int) + (v p : Int)).toNat = 4 * p + v p by omega, hF 62 (by decide), s2, Int.toNat_natCast]
              have c := hF 59 (by decide)
              have c' : M2 59 p = en (4 * p + (ch p - 1)) := by rw [c]; exact c59
              refine ⟨fun g => by omega, fun _ => ⟨⟨by omega, by omega⟩, ⟨by omega, by omega⟩, by omega, by omega, fun _ => ⟨by omega, by omega, ⟨by omega, by omega⟩, ⟨by omega, by omega⟩, ?_⟩, fun g => absurd (by omega) g⟩⟩
              simp only [zsg, List.nil_append] at hd
              exact next x M2 hd hx (by omega) hj hF
            | succ s ih2 =>
              intro x a1 M2 h1 h2 hd hx hb hj hF
              have ht2 := hC.2.2.1 a1 (by omega)
              refine zv124_61 _ _ _ _ _ _ ?_
              rw [show (4 * (p : Int) + (v p : Int)).toNat = 4 * p + v p by omega, hF 62 (by decide), s2, hF 57 (by decide), Int.toNat_natCast (n := a1), ht2, Int.toNat_natCast (n := x)]
              refine ⟨fun g => by omega, fun _ => ⟨⟨by omega, by omega⟩, ⟨by omega, by omega⟩, by omega, by omega, fun g => by omega, fun _ => ⟨by omega, by omega, by omega, by omega, ⟨by omega, by omega⟩, ⟨by omega, by omega⟩, ?_⟩⟩⟩
              rw [show zsg t (s + 1) a1 = t a1 :: zsg t s (a1 + 1) from rfl, List.cons_append] at hd
              have hd1 := zdrop1 hd
              exact ih2 (x + 1) (a1 + 1) _ (by omega) (by omega) hd1.2.2 (by omega) (by omega) (put x M2 _ _ hd hj) (fun k hk => by rw [zb_uk hk]; exact hF k hk)
          exact lop _ x _ M2 (Nat.le_refl _) (by omega) hd hx (by omega) hj hF
        · have v4 : v p = 4 := by omega
          have c := hF 59 (by decide)
          have c' : M2 59 p = en (4 * p + (ch p - 1)) := by rw [c]; exact c59
          rw [show zcg t st en p (v p) = [] by unfold zcg; rw [if_pos v4], List.nil_append] at hd
          refine zv124_61 _ _ _ _ _ _ ⟨fun _ => ?_, fun g => absurd (by omega) g⟩
          rw [Int.toNat_natCast]
          exact ⟨by omega, by omega, ⟨by omega, by omega⟩, ⟨by omega, by omega⟩, next x M2 hd hx (by omega) hj hF⟩
      | succ s ih =>
        intro x a0 M2 h1 h2 hd hx hb hj hF
        have ht := hC.2.2.1 a0 (by omega)
        have h91 := q3 a0 h1 (by omega)
        refine zv124_8 _ _ _ _ _ ?_
        rw [hF 55 (by decide), hC.1, hF 57 (by decide), Int.toNat_natCast, ht]
        refine ⟨fun g => by omega, fun _ => ⟨by omega, by omega, fun _ => ⟨by omega, by omega, by omega, by omega, ⟨by omega, by omega⟩, ⟨by omega, by omega⟩, ?_⟩, fun g => absurd (by omega) g⟩⟩
        rw [show zsg t (s + 1) a0 = t a0 :: zsg t s (a0 + 1) from rfl, List.cons_append] at hd
        have hd1 := zdrop1 hd
        rw [Int.toNat_natCast]
        exact ih (x + 1) (a0 + 1) _ (by omega) (by omega) hd1.2.2 (by omega) (by omega) (put x M2 _ _ hd hj) (fun k hk => by rw [zb_uk hk]; exact hF k hk)
  obtain ⟨q1, q2, _, _⟩ := zWL_pl hW (p := 0) (by omega)
  have q0 : zqs ch en 0 = 0 := by unfold zqs; rw [if_pos rfl]
  refine key pl 0 (by omega) (zqe n pl st 0) 0 0 M (by omega) (by omega) ?_ (by omega) (by omega) (fun j hj => by omega) (fun _ _ => rfl)
  rw [List.drop_zero, ← hT]
  cases pl with
  | zero => simp [zrd, q0]
  | succ m => simp [zrd, q0]
theorem qc125 {d : Nat} {M : zMem} {t : Nat → Nat} {n pl cp : Nat} {ch st en : Nat → Nat} {ro : Nat → Nat → Nat} {x y : Int} (hcp : M 55 12 = cp) (h8 : cp ≤ 8) (hW : 0 < cp → zWL t n pl ch st en ∧ zlR M t n pl ch st en) (hr : ∀ c, c < cp → ∀ p, p < pl → M 65 (6 * c + p) = ro c p ∧ ro c p < ch p) : zCi (d + 2) 125 [.inr (.inr 55), .inl x, .inl y] M (fun r M' => zsReads cp (fun c => zrd t n pl ch st en (ro c) pl 0) x y r ∧ ∀ k, k ≠ 68 → M' k = M k) := by
  refine zk125 (zv125_0 _ _ ⟨_, qc121 hcp h8, ?_⟩)
  rintro w M1 ⟨hw, rfl⟩
  refine ⟨fun h => ⟨_, rfl, Or.inl ⟨fun hk => zor0 hw h hk.1, rfl⟩, fun _ _ => rfl⟩, fun h => ⟨fun g => ?_, fun g => ⟨_, rfl, Or.inl ⟨fun hk => g hk.2, rfl⟩, fun _ _ => rfl⟩⟩⟩
  have hx := zor1 hw h
  have x1 := hx.1
  have x2 := hx.2
  obtain ⟨c, rfl⟩ : ∃ c : Nat, x = (c : Int) := ⟨x.toNat, by omega⟩
  obtain ⟨z, rfl⟩ : ∃ z : Nat, y = (z : Int) := ⟨y.toNat, by omega⟩
  obtain ⟨W1, W2⟩ := hW (by omega)
  have h6 := W1.2.2.1
  rw [show 6 * (c : Int) = ((6 * c : Nat) : Int) by omega]
  refine ⟨⟨by omega, by omega⟩, _, qc124 (n1 := 48) (v := ro c) W1 W2 rfl (by decide) (by omega) (by decide) (fun p hp => ⟨(hr c (by omega) p hp).1, Or.inl (hr c (by omega) p hp).2⟩), ?_⟩
  rintro r M2 ⟨rfl, e0, e1, e2⟩
  refine ⟨fun g2 => ⟨_, rfl, Or.inr ⟨⟨hx, g⟩, ?_⟩, e2⟩, fun g2 => ⟨g, ?_, _, rfl, Or.inr ⟨⟨hx, g⟩, ?_⟩, e2⟩⟩
  · unfold zval
    simp only [Int.toNat_natCast]
    rw [if_neg (by omega)]
  · omega
  · unfold zval
    simp only [Int.toNat_natCast]
    rw [if_pos (by omega)]
    exact e1 z (by omega)
