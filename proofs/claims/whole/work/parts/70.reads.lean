/-! reads of both sides -/
def zlC (M : zMem) (t : Nat → Nat) (n pl : Nat) (ch st en : Nat → Nat) : Prop := M 13 5 = n ∧ M 13 6 = pl ∧ (∀ i, i < n → M 14 i = t i) ∧ (∀ p, p < pl → M 15 p = ch p) ∧ ∀ p, p < pl → ∀ c, c < ch p → M 16 (4 * p + c) = st (4 * p + c) ∧ M 17 (4 * p + c) = en (4 * p + c)
def zlR (M : zMem) (t : Nat → Nat) (n pl : Nat) (ch st en : Nat → Nat) : Prop := M 55 2 = n ∧ M 55 4 = pl ∧ (∀ i, i < n → M 57 i = t i) ∧ (∀ p, p < pl → M 60 p = ch p ∧ M 59 p = en (4 * p + (ch p - 1))) ∧ ∀ p, p < pl → ∀ c, c < ch p → M 61 (4 * p + c) = st (4 * p + c) ∧ M 62 (4 * p + c) = en (4 * p + c)
theorem qc37 {d : Nat} {M : zMem} {t : Nat → Nat} {n pl p : Nat} {ch st en : Nat → Nat} (hW : zWL t n pl ch st en) (hC : zlC M t n pl ch st en) (hp : p ≤ pl) : zCi d 37 [.inr (.inr 13), .inl (p : Int)] M (fun r M' => r = (zqs ch en p : Int) ∧ M' = M) := by
  obtain ⟨_, h120, h6, hP, _⟩ := hW
  obtain ⟨c1, c2, c3, c4, c5⟩ := hC
  refine zk37 (zv37_0 _ ⟨fun g => ?_, fun g => ⟨_, rfl, ?_, rfl⟩⟩)
  · obtain ⟨q, rfl⟩ : ∃ q, p = q + 1 := ⟨p - 1, by omega⟩
    obtain ⟨w1, w2, w3, w4, w5⟩ := hP q (by omega)
    obtain ⟨y1, y2, y3⟩ := w4 (ch q - 1) (by omega)
    rw [show (((q + 1 : Nat) : Int) - 1) = (q : Int) by omega, Int.toNat_natCast, c4 q (by omega), show ((q : Int) * 4 + (ch q : Int) - 1).toNat = 4 * q + (ch q - 1) by omega, (c5 q (by omega) (ch q - 1) (by omega)).2]
    refine ⟨⟨by omega, by omega⟩, ⟨by omega, by omega⟩, ⟨by omega, by omega⟩, by omega, by omega, ⟨by omega, by omega⟩, ⟨by omega, by omega⟩, by omega, by omega, ⟨by omega, by omega⟩, _, rfl, ?_, rfl⟩
    unfold zqs
    rw [if_neg (by omega), Nat.add_sub_cancel]
    omega
  · unfold zqs
    rw [if_pos (by omega)]
    rfl
theorem qc38 {d : Nat} {M : zMem} {t : Nat → Nat} {n pl p : Nat} {ch st en : Nat → Nat} (hW : zWL t n pl ch st en) (hC : zlC M t n pl ch st en) (hp : p ≤ pl) : zCi d 38 [.inr (.inr 13), .inl (p : Int)] M (fun r M' => r = (zqe n pl st p : Int) ∧ M' = M) := by
  obtain ⟨_, h120, h6, hP, _⟩ := hW
  obtain ⟨c1, c2, c3, c4, c5⟩ := hC
  refine zk38 (zv38_0 _ ?_)
  rw [c2, c1]
  refine ⟨fun g => ⟨_, rfl, ?_, rfl⟩, fun g => ?_⟩
  · unfold zqe
    rw [if_neg (by omega)]
  · obtain ⟨w1, w2, w3, w4, w5⟩ := hP p (by omega)
    obtain ⟨y1, y2, _⟩ := w3
    have := (c5 p (by omega) 0 (by omega)).1
    rw [Nat.add_zero] at this
    rw [show ((p : Int) * 4).toNat = 4 * p by omega, this]
    refine ⟨⟨by omega, by omega⟩, by omega, by omega, ⟨by omega, by omega⟩, _, rfl, ?_, rfl⟩
    unfold zqe
    rw [if_pos (by omega)]
    omega
/-- plain parts stand in order -/
theorem zWL_pl {t : Nat → Nat} {n pl : Nat} {ch st en : Nat → Nat} (hW : zWL t n pl ch st en) {p : Nat} (hp : p ≤ pl) : zqs ch en p ≤ zqe n pl st p ∧ zqe n pl st p ≤ n ∧ (∀ j, zqs ch en p ≤ j → j < zqe n pl st p → t j ≠ 91) ∧ (p < pl → zqe n pl st p < n ∧ t (zqe n pl st p) = 91 ∧ zqe n pl st p < zqs ch en (p + 1) ∧ zqs ch en (p + 1) = en (4 * p + (ch p - 1)) + 1 ∧ zqs ch en (p + 1) ≤ n) := by
  obtain ⟨_, h120, h6, hP, hz, hj⟩ := hW
  by_cases hpl : p < pl
  · obtain ⟨w1, w2, ⟨v1, v2, v3, v4, v5⟩, w4, w5⟩ := hP p hpl
    obtain ⟨y1, y2, y3⟩ := w4 (ch p - 1) (by omega)
    have e1 : zqe n pl st p = st (4 * p) - 1 := by unfold zqe; rw [if_pos hpl]
    have e2 : zqs ch en (p + 1) = en (4 * p + (ch p - 1)) + 1 := by
      unfold zqs
      rw [if_neg (by omega), Nat.add_sub_cancel]
    rw [e1, e2]
    exact ⟨v4, by omega, v5, fun _ => ⟨by omega, v3, by omega, rfl, by omega⟩⟩
  · have : p = pl := by omega
    subst this
    have e1 : zqe n p st p = n := by unfold zqe; rw [if_neg (by omega)]
    rw [e1]
    exact ⟨hz, Nat.le_refl _, hj, fun h => absurd h hpl⟩
def zval (T : List Nat) (x : Nat) : Int := if x < T.length then ((T.getD x 0 : Nat) : Int) else -4
theorem qc39 {d : Nat} {M : zMem} {t : Nat → Nat} {n pl c x : Nat} {ch st en v : Nat → Nat} (hW : zWL t n pl ch st en) (hC : zlC M t n pl ch st en) (hc : c < 8) (hx : zR32 (x : Int)) (hv : ∀ p, p < pl → M 7 (6 * c + p) = v p ∧ v p < ch p) : zCi (d + 1) 39 [.inr (.inr 13), .inr (.inr 7), .inl (((6 * c : Nat)) : Int), .inl (x : Int)] M (fun r M' => r = zval (zrd t n pl ch st en v pl 0) x ∧ M' = M) := by
  have h6 := hW.2.2.1
  have h120 := hW.2.1
  have hx2 := hx.2
  refine zk39 (zv39_0 _ _ ?_)
  have key : ∀ (m p y : Nat), p + m = pl → y ≤ x → zBg (d + 1) 39 6 [zR 13, zR 7, zI (((6 * c : Nat)) : Int), none, zI (y : Int), zI (p : Int), none, none, none] [] M (fun q M' => ∃ w : Int, q = some (.inl w) ∧ w = zval (zrd t n pl ch st en v m p) y ∧ M' = M) := by
    intro m
    induction m with
    | zero =>
      intro p y hp hy
      have : p = pl := by omega
      subst this
      obtain ⟨a1, a2, _, _⟩ := zWL_pl hW (Nat.le_refl p)
      refine zv39_6 _ _ _ ?_
      rw [hC.2.1]
      refine ⟨fun g => absurd g (by omega), fun _ => ⟨_, qc37 hW hC (Nat.le_refl _), ?_⟩⟩
      rintro r1 M1 ⟨rfl, rfl⟩
      refine ⟨_, qc38 hW hC (Nat.le_refl _), ?_⟩
      rintro r2 M2 ⟨rfl, rfl⟩
      rw [hC.2.1]
      unfold zval zrd
      rw [zsg_len]
      refine ⟨⟨by omega, by omega⟩, fun g => ⟨⟨by omega, by omega⟩, fun g2 => ⟨⟨by omega, by omega⟩, zv39_6 _ _ _ ?_⟩, fun g2 => absurd (by omega) g2⟩, fun g => ⟨⟨by omega, by omega⟩, by omega, by omega, _, rfl, ?_, rfl⟩⟩
      · rw [hC.2.1]
        refine ⟨fun _ => ⟨_, rfl, ?_, rfl⟩, fun g => absurd (by omega) g⟩
        rw [if_neg (by omega)]
      · rw [if_pos (by omega), zsg_get _ _ _ (by omega), show ((zqs ch en p : Int) + (y : Int)).toNat = zqs ch en p + y by omega]
        exact hC.2.2.1 _ (by omega)
    | succ m ih =>
      intro p y hp hy
      obtain ⟨a1, a2, _, a4⟩ := zWL_pl hW (p := p) (by omega)
      obtain ⟨b1, b2, b3, b4, b5⟩ := a4 (by omega)
      obtain ⟨w1, w2, w3, w4, w5⟩ := hW.2.2.2.1 p (by omega)
      obtain ⟨v1, v2⟩ := hv p (by omega)
      obtain ⟨y1, y2, y3⟩ := w4 (v p) v2
      obtain ⟨s1, s2⟩ := hC.2.2.2.2 p (by omega) (v p) v2
      have hlen : (zcg t st en p (v p)).length = en (4 * p + v p) - st (4 * p + v p) := by
        unfold zcg
        rw [if_neg (by omega), zsg_len]
      refine zv39_6 _ _ _ ?_
      rw [hC.2.1]
      refine ⟨fun g => absurd g (by omega), fun _ => ⟨_, qc37 hW hC (by omega), ?_⟩⟩
      rintro r1 M1 ⟨rfl, rfl⟩
      refine ⟨_, qc38 hW hC (by omega), ?_⟩
      rintro r2 M2 ⟨rfl, rfl⟩
      rw [hC.2.1, show (((6 * c : Nat) : Int) + (p : Int)).toNat = 6 * c + p by omega, v1, show ((p : Int) * 4 + (v p : Int)).toNat = 4 * p + v p by omega, s1, s2]
      refine ⟨⟨by omega, by omega⟩, fun g => ⟨⟨by omega, by omega⟩, fun g2 => by omega, fun g2 => ⟨⟨by omega, by omega⟩, ⟨by omega, by omega⟩, by omega, by omega, ⟨by omega, by omega⟩, by omega, by omega, by omega, by omega, ⟨by omega, by omega⟩, fun g3 => ⟨⟨by omega, by omega⟩, ⟨by omega, by omega⟩, ?_⟩, fun g3 => ⟨by omega, by omega, ⟨by omega, by omega⟩, by omega, by omega, _, rfl, ?_, rfl⟩⟩⟩, fun g => ⟨⟨by omega, by omega⟩, by omega, by omega, _, rfl, ?_, rfl⟩⟩
      · have := ih (p + 1) (y - (zqe n pl st p - zqs ch en p) - (en (4 * p + v p) - st (4 * p + v p))) (by omega) (by omega)
        rw [show ((y - (zqe n pl st p - zqs ch en p) - (en (4 * p + v p) - st (4 * p + v p)) : Nat) : Int) = (y : Int) - ((zqe n pl st p : Int) - (zqs ch en p : Int)) - ((en (4 * p + v p) : Int) - (st (4 * p + v p) : Int)) by omega] at this
        have e : zval (zrd t n pl ch st en v (m + 1) p) y = zval (zrd t n pl ch st en v m (p + 1)) (y - (zqe n pl st p - zqs ch en p) - (en (4 * p + v p) - st (4 * p + v p))) := by
          unfold zval
          rw [show zrd t n pl ch st en v (m + 1) p = zsg t (zqe n pl st p - zqs ch en p) (zqs ch en p) ++ (zcg t st en p (v p) ++ zrd t n pl ch st en v m (p + 1)) from rfl, zgetD_app, zgetD_app, List.length_append, List.length_append, zsg_len, hlen, if_neg (by omega), if_neg (by omega)]
          by_cases hh : y < zqe n pl st p - zqs ch en p + (en (4 * p + v p) - st (4 * p + v p) + (zrd t n pl ch st en v m (p + 1)).length)
          · rw [if_pos hh, if_pos (by omega)]
          · rw [if_neg hh, if_neg (by omega)]
        rw [e]
        exact this
      · unfold zval
        rw [show zrd t n pl ch st en v (m + 1) p = zsg t (zqe n pl st p - zqs ch en p) (zqs ch en p) ++ (zcg t st en p (v p) ++ zrd t n pl ch st en v m (p + 1)) from rfl, zgetD_app, zgetD_app, List.length_append, List.length_append, zsg_len, hlen, if_pos (by omega), if_neg (by omega), if_pos (by omega)]
        rw [show zcg t st en p (v p) = zsg t (en (4 * p + v p) - st (4 * p + v p)) (st (4 * p + v p)) by unfold zcg; rw [if_neg (by omega)], zsg_get _ _ _ (by omega), show ((st (4 * p + v p) : Int) + ((y : Int) - ((zqe n pl st p : Int) - (zqs ch en p : Int)))).toNat = st (4 * p + v p) + (y - (zqe n pl st p - zqs ch en p)) by omega]
        exact hC.2.2.1 _ (by omega)
      · unfold zval
        rw [show zrd t n pl ch st en v (m + 1) p = zsg t (zqe n pl st p - zqs ch en p) (zqs ch en p) ++ (zcg t st en p (v p) ++ zrd t n pl ch st en v m (p + 1)) from rfl, zgetD_app, List.length_append, zsg_len, if_pos (by omega), if_pos (by omega), zsg_get _ _ _ (by omega), show ((zqs ch en p : Int) + (y : Int)).toNat = zqs ch en p + y by omega]
        exact hC.2.2.1 _ (by omega)
  exact key pl 0 x (by omega) (Nat.le_refl _)
