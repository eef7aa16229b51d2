/-! a copy more: the reference -/
theorem qc154 {d : Nat} {M : zMem} {pl cp : Nat} {ro : Nat → Nat → Nat} {r : Nat → Nat} (hpl : M 55 4 = pl) (h6 : pl ≤ 6) (hcp : M 55 12 = (cp : Int) + 1) (h8 : cp < 8) (hro : ∀ c, c < cp → ∀ p, p < pl → M 65 (6 * c + p) = ro c p) (hrow : ∀ p, p < pl → M 70 p = r p) :
    zCi d 154 [.inr (.inr 55)] M (fun w M' => w = (if zthere pl cp ro r then 1 else 0) ∧ M' = M) := by
  refine zk154 (zv154_0 ?_)
  have key : ∀ (m c : Nat) (f : Int), c + m = cp → (f = 1 ∧ (∃ e, e < c ∧ ∀ p, p < pl → ro e p = r p) ∨ f = 0 ∧ ¬ ∃ e, e < c ∧ ∀ p, p < pl → ro e p = r p) → zBg d 154 4 [zR 55, zI f, zI (c : Int), none, none] [] M (fun q M' => ∃ w : Int, q = some (.inl w) ∧ w = (if zthere pl cp ro r then 1 else 0) ∧ M' = M) := by
    intro m
    induction m with
    | zero =>
      intro c f hc hf
      have : c = cp := by omega
      subst this
      refine zv154_4 _ _ ?_
      rw [hcp]
      refine ⟨⟨by omega, by omega⟩, fun _ => ⟨by omega, _, rfl, ?_, rfl⟩, fun h => absurd (by omega) h⟩
      rcases hf with ⟨e, h⟩ | ⟨e, h⟩
      · rw [if_pos (zthere_iff.mpr h), e]
      · rw [if_neg (fun hh => h (zthere_iff.mp hh)), e]
    | succ m ih =>
      intro c f hc hf
      refine zv154_4 _ _ ?_
      rw [hcp]
      refine ⟨⟨by omega, by omega⟩, fun h => by omega, fun _ => ?_⟩
      have key2 : ∀ (n p : Nat) (g : Int), p + n = pl → (g = 1 ∧ (∀ q, q < p → ro c q = r q) ∨ g = 0 ∧ ¬ ∀ q, q < p → ro c q = r q) → zBg d 154 19 [zR 55, zI f, zI (c : Int), zI g, zI (p : Int)] [] M (fun q M' => ∃ w : Int, q = some (.inl w) ∧ w = (if zthere pl cp ro r then 1 else 0) ∧ M' = M) := by
        intro n
        induction n with
        | zero =>
          intro p g hp hg
          have : p = pl := by omega
          subst this
          refine zv154_19 _ _ _ _ ⟨fun _ => ⟨fun hf1 => ⟨⟨by omega, by omega⟩, ?_⟩, fun hf1 => ⟨fun hg0 => ⟨⟨by omega, by omega⟩, ?_⟩, fun hg0 => ⟨⟨by omega, by omega⟩, ?_⟩⟩⟩, fun h => absurd (by omega) h⟩
          · refine ih (c + 1) 1 (by omega) (Or.inl ⟨rfl, ?_⟩)
            rcases hf with ⟨_, e, he, h⟩ | ⟨e, _⟩
            · exact ⟨e, by omega, h⟩
            · exact absurd e hf1
          · refine ih (c + 1) 0 (by omega) (Or.inr ⟨rfl, ?_⟩)
            rintro ⟨e, he, h⟩
            by_cases hec : e = c
            · subst hec
              rcases hg with ⟨h9, _⟩ | ⟨_, h9⟩
              · omega
              · exact h9 h
            · rcases hf with ⟨h9, _⟩ | ⟨_, h9⟩
              · omega
              · exact h9 ⟨e, by omega, h⟩
          · refine ih (c + 1) 1 (by omega) (Or.inl ⟨rfl, c, by omega, ?_⟩)
            rcases hg with ⟨_, h9⟩ | ⟨h9, _⟩
            · exact h9
            · exact absurd h9 hg0
        | succ n ih2 =>
          intro p g hp hg
          refine zv154_19 _ _ _ _ ⟨fun h => by omega, fun _ => ⟨fun hg0 => ⟨⟨by omega, by omega⟩, ih2 (p + 1) 0 (by omega) (Or.inr ⟨rfl, fun h => ?_⟩)⟩, fun hg0 => ?_⟩⟩
          · rcases hg with ⟨h9, _⟩ | ⟨_, h9⟩
            · omega
            · exact h9 (fun q hq => h q (by omega))
          · have hall : ∀ q, q < p → ro c q = r q := by
              rcases hg with ⟨_, h9⟩ | ⟨h9, _⟩
              · exact h9
              · exact absurd h9 hg0
            rw [show (6 * (c : Int) + (p : Int)).toNat = 6 * c + p by omega, Int.toNat_natCast, hro c (by omega) p (by omega), hrow p (by omega)]
            refine ⟨⟨by omega, by omega⟩, ⟨by omega, by omega⟩, by omega, by omega, by omega, by omega, fun hne => ⟨⟨by omega, by omega⟩, ih2 (p + 1) 0 (by omega) (Or.inr ⟨rfl, fun h => hne ?_⟩)⟩, fun he => ⟨⟨by omega, by omega⟩, ih2 (p + 1) 1 (by omega) (Or.inl ⟨rfl, fun q hq => ?_⟩)⟩⟩
            · rw [h p (by omega)]
            · by_cases hqp : q = p
              · subst hqp; omega
              · exact hall q (by omega)
      exact key2 pl 0 1 (by omega) (Or.inl ⟨rfl, fun q hq => by omega⟩)
  exact key cp 0 0 (by omega) (Or.inr ⟨rfl, fun ⟨e, he, _⟩ => by omega⟩)
/-- what the reference's more may change -/
def zfM (cp : Nat) (M M' : zMem) : Prop := (∀ k, k ≠ 55 → k ≠ 65 → (k < 68 ∨ (74 < k ∧ k ≠ 79)) → M' k = M k) ∧ (∀ j, j ≠ 12 → j ≠ 21 → j ≠ 24 → j ≠ 25 → j ≠ 26 → M' 55 j = M 55 j) ∧ ∀ i, i < 6 * cp → M' 65 i = M 65 i
theorem zfM.tr {cp : Nat} {M M1 M2 : zMem} (h : zfM cp M M1) (h2 : zfR M1 M2) : zfM cp M M2 :=
  ⟨fun k a b c => by rw [h2.1 k a c, h.1 k a b c], fun j a b c d e => by rw [h2.2 j b c d e, h.2.1 j a b c d e], fun i hi => by rw [h2.1 65 (by decide) (by decide)]; exact h.2.2 i hi⟩
theorem qc150b {d : Nat} {M : zMem} {pl cp ms hw l S : Nat} {ch : Nat → Nat} {me : Nat → Int} {ro : Nat → Nat → Nat} {v : Nat → Nat} (hC : zCR M pl cp ch me ro ms hw v) (hl : l ≤ 1) (hS : S < 64) :
    zCi (d + 3) 150 [.inr (.inr 55), .inl (l : Int), .inl (S : Int)] M (fun r M' => zpR pl cp ch me ro hw (zSs cp ms) l S r M' ∧ zfR M M' ∧ M' 70 = M 70) := by
  obtain ⟨h1, h2, h3, h4, h5, h6, h7⟩ := id hC
  obtain ⟨h92, h256, h256p, hcp⟩ := zSs_ok h1.2.1 h6
  refine zk150 (zv150_0 _ _ ⟨_, qc145 hC, ?_⟩)
  rintro M1 ⟨a1, a2⟩
  have hR1 := h2.fr a2.fR
  refine ⟨fun h0 => ⟨fun h9 => by omega, fun h9 => ⟨_, qc147 h1 hR1 a1 h92 h256p hS, ?_⟩⟩, fun h0 => ⟨_, qc146 h1 hR1 a1 h92 h256 hS, ?_⟩⟩
  · rintro v2 M2 ⟨b1, b2⟩
    have hp : zpR pl cp ch me ro hw (zSs cp ms) l S v2 M2 := ⟨fun e => by omega, fun _ => b1, fun e => by omega⟩
    have hr := zpR_r (by omega) hp
    exact ⟨by rw [hr]; split <;> simp, _, rfl, hp, a2.fR.tr ⟨fun k x y => b2.1 k x, fun j _ x y _ => b2.2 j x y⟩, by rw [b2.1 70 (by decide), a2.1 70 (by decide) (by decide) (by decide)]⟩
  · rintro v2 M2 ⟨b1, b2⟩
    have hp : zpR pl cp ch me ro hw (zSs cp ms) l S v2 M2 := ⟨fun _ => b1, fun e => by omega, fun e => by omega⟩
    have hr := zpR_r (by omega) hp
    exact ⟨by rw [hr]; split <;> simp, _, rfl, hp, a2.fR.tr ⟨fun k x y => b2.1 k x, fun j _ x y _ => b2.2 j x y⟩, by rw [b2.1 70 (by decide), a2.1 70 (by decide) (by decide) (by decide)]⟩
theorem qc155 {d : Nat} {M : zMem} {pl cp ms hw : Nat} {ch : Nat → Nat} {me : Nat → Int} {ro : Nat → Nat → Nat} {v : Nat → Nat} {x y : Int} (hC : zCR M pl cp ch me ro ms hw v) :
    zCi (d + 4) 155 [.inr (.inr 55), .inl x, .inl y] M (fun r M' => zsMore pl cp ch me ro ms hw x y r ∧ zfM cp M M' ∧ M' 55 12 = M 55 12) := by
  obtain ⟨h1, h2, h3, h4, h5, h6, h7⟩ := id hC
  have h61 := h1.1
  have hcp := h1.2.1
  have hT : zwq (zn6 pl ch 0) 6 0 ≤ 4 ^ 6 := zwq_le (zn6_le (fun p hp => (h1.2.2.1 p hp).2.1) (by decide)) rfl
  have h46 : (4 : Nat) ^ 6 = 4096 := by decide
  have rf : zfM cp M M := ⟨fun _ _ _ _ => rfl, fun _ _ _ _ _ _ => rfl, fun _ _ => rfl⟩
  refine zk155 (zv155_0 _ _ ⟨_, qc110, ?_⟩)
  rintro v1 M1 ⟨hv1, rfl⟩
  refine ⟨fun h => ⟨_, rfl, Or.inl ⟨fun hk => ?_, rfl⟩, rf, rfl⟩, fun h => ⟨_, qc115 h2.1 h61, ?_⟩⟩
  · have := hk.1; omega
  rintro v2 M2 ⟨hv2, rfl⟩
  rw [h2.2.1]
  refine ⟨fun hz => ?_, fun hz => ⟨_, rfl, Or.inl ⟨fun hk => by
    rcases hv2 with ⟨a, _⟩ | ⟨_, a⟩
    · omega
    · exact a hk.2, rfl⟩, rf, h2.2.1⟩⟩
  have hy : zisC pl y := by
    rcases hv2 with ⟨_, a⟩ | ⟨a, _⟩
    · exact a
    · exact absurd a hz
  have hy1 := hy.1
  have hy2 := hy.2
  have hk : zkm pl x y := ⟨by omega, hy⟩
  refine ⟨fun h8 => ?_, fun h8 => ⟨_, rfl, Or.inr ⟨hk, by rw [if_pos (by omega)]⟩, rf, h2.2.1⟩⟩
  have h8' : cp < 8 := by omega
  obtain ⟨l, hl, rfl⟩ : ∃ l : Nat, l ≤ 1 ∧ x = (l : Int) := ⟨x.toNat, by have := hk.1; omega, by have := hk.1; omega⟩
  refine ⟨⟨by omega, by omega⟩, _, qc137, ?_⟩
  rintro M3 ⟨a1, a2⟩
  have f3 : zfM cp M2 M3 := ⟨fun k x1 _ x3 => by rw [a1 k (by omega), zb_uk x1], fun j x1 _ _ _ _ => by rw [a1 55 (by decide), zb_ui x1], fun i _ => by rw [a1 65 (by decide), zb_uk (by decide)]⟩
  have c3 : M3 55 12 = (cp : Int) + 1 := by rw [a1 55 (by decide), zb_us]
  generalize hacc : zacc pl cp ch me ro ms hw l = acc
  have fin : ∀ (w : Int) (M4 : zMem), zfM cp M2 M4 → M4 55 12 = (cp : Int) + 1 → w = zmv pl ch (zfd acc (zwq (zn6 pl ch 0) 6 0) 0) y.toNat → zR32 ((M4 55 12) - 1) ∧ ∃ z : Int, zI w = some (.inl z) ∧ zsMore pl cp ch me ro ms hw (l : Int) y z ∧ zfM cp M2 (zup M4 55 12 ((M4 55 12) - 1)) ∧ zup M4 55 12 ((M4 55 12) - 1) 55 12 = (cp : Int) := by
    intro w M4 f4 c4 hw1
    rw [c4]
    refine ⟨⟨by omega, by omega⟩, _, rfl, Or.inr ⟨hk, ?_⟩, ⟨fun k x1 x2 x3 => by rw [zb_uk x1]; exact f4.1 k x1 x2 x3, fun j x1 x2 x3 x4 x5 => by rw [zb_ui x1]; exact f4.2.1 j x1 x2 x3 x4 x5, fun i hi => by rw [zb_uk (by decide)]; exact f4.2.2 i hi⟩, by rw [zb_us]; omega⟩
    rw [if_neg (by omega), Int.toNat_natCast, hacc]
    exact hw1
  -- one row: laid as a copy, tried, the next
  have body : ∀ (k : Nat) (M4 : zMem), k < zwq (zn6 pl ch 0) 6 0 → zfM cp M2 M4 → M4 55 12 = (cp : Int) + 1 → (∀ q, q < pl → M4 70 q = zrow pl ch k q) →
      (∀ M5 (w : Int), zfM cp M2 M5 → M5 55 12 = (cp : Int) + 1 → (w = 1 ∧ k + 1 < zwq (zn6 pl ch 0) 6 0 ∧ (∀ q, q < pl → M5 70 q = zrow pl ch (k + 1) q) ∨ w = 0 ∧ k + 1 = zwq (zn6 pl ch 0) 6 0) → (acc k = false → zBg (d + 4) 155 52 [zR 55, zI (l : Int), zI y, zI (-4), zI w, none] [] M5 (fun q M' => ∃ z : Int, q = some (.inl z) ∧ zsMore pl cp ch me ro ms hw (l : Int) y z ∧ zfM cp M2 M' ∧ M' 55 12 = (cp : Int))) ∧ (acc k = true → zBg (d + 4) 155 52 [zR 55, zI (l : Int), zI y, zI (zrow pl ch k y.toNat : Int), zI w, none] [] M5 (fun q M' => ∃ z : Int, q = some (.inl z) ∧ zsMore pl cp ch me ro ms hw (l : Int) y z ∧ zfM cp M2 M' ∧ M' 55 12 = (cp : Int)))) →
      zBg (d + 4) 155 64 [zR 55, zI (l : Int), zI y, none, none, zI 0] [] M4 (fun q M' => ∃ z : Int, q = some (.inl z) ∧ zsMore pl cp ch me ro ms hw (l : Int) y z ∧ zfM cp M2 M' ∧ M' 55 12 = (cp : Int)) := by
    intro k M4 hk2 f4 c4 hr4 cont
    have hrl : ∀ p, p < pl → zrow pl ch k p < ch p := fun p hp => zrow_lt hp (h1.2.2.1 p hp).1
    have lay : ∀ (m p : Nat) (M5 : zMem), p + m = pl → zfM cp M2 M5 → M5 55 12 = (cp : Int) + 1 → (∀ q, q < pl → M5 70 q = zrow pl ch k q) → (∀ q, q < p → M5 65 (6 * cp + q) = zrow pl ch k q) →
        zBg (d + 4) 155 64 [zR 55, zI (l : Int), zI y, none, none, zI (p : Int)] [] M5 (fun q M' => ∃ z : Int, q = some (.inl z) ∧ zsMore pl cp ch me ro ms hw (l : Int) y z ∧ zfM cp M2 M' ∧ M' 55 12 = (cp : Int)) := by
      intro m
      induction m with
      | zero =>
        intro p M5 hp f5 c5 hr5 hl5
        have : p = pl := by omega
        subst this
        have p5 : M5 55 4 = p := by rw [f5.2.1 4 (by decide) (by decide) (by decide) (by decide) (by decide)]; exact h2.1
        have ro5 : ∀ c, c < cp → ∀ q, q < p → M5 65 (6 * c + q) = ro c q := fun c hc q hq => by rw [f5.2.2 _ (by omega)]; exact h2.2.2.2.2 c hc q hq
        have hWF : zWF p (cp + 1) ch me (zrp cp ro (zrow p ch k)) := by
          refine ⟨h61, by omega, h1.2.2.1, fun c hc q hq => ?_⟩
          unfold zrp
          by_cases hcc : c = cp
          · rw [if_pos hcc]; exact hrl q hq
          · rw [if_neg hcc]; exact h1.2.2.2 c (by omega) q hq
        have hCR5 : zCR M5 p (cp + 1) ch me (zrp cp ro (zrow p ch k)) ms hw v := by
          refine ⟨hWF, ⟨p5, by rw [c5]; rfl, fun q hq => ?_, fun q hq => ?_, fun c hc q hq => ?_⟩, ?_, ?_, h5, h6, fun q hq => ?_⟩
          · rw [f5.1 60 (by decide) (by decide) (by decide)]; exact h2.2.2.1 q hq
          · rw [f5.1 64 (by decide) (by decide) (by decide)]; exact h2.2.2.2.1 q hq
          · unfold zrp
            by_cases hcc : c = cp
            · subst hcc; rw [if_pos rfl]; exact hl5 q hq
            · rw [if_neg hcc]; exact ro5 c (by omega) q hq
          · rw [f5.2.1 14 (by decide) (by decide) (by decide) (by decide) (by decide)]; exact h3
          · rw [f5.2.1 15 (by decide) (by decide) (by decide) (by decide) (by decide)]; exact h4
          · rw [f5.1 66 (by decide) (by decide) (by decide)]; exact h7 q hq
        -- the next row from a memory M6 that differs in scratch alone
        have nxt : ∀ M6, zfR M5 M6 → (∀ q, q < p → M6 70 q = zrow p ch k q) → ∀ u : Int, (acc k = false ∧ u = -4 ∨ acc k = true ∧ u = zrow p ch k y.toNat) → ∃ Q2, zCi (d + 3) 136 [.inr (.inr 55), .inl 0] M6 Q2 ∧ ∀ v2 M7, Q2 v2 M7 →
            zBg (d + 4) 155 52 [zR 55, zI (l : Int), zI y, zI u, zI v2, none] [] M7 (fun q M' => ∃ z : Int, q = some (.inl z) ∧ zsMore p cp ch me ro ms hw (l : Int) y z ∧ zfM cp M2 M' ∧ M' 55 12 = (cp : Int)) := by
          intro M6 f6 hr6 u hu
          have hq := qc136 (d := d + 3) (M := M6) (pl := p) (lf := 0) (k := k) (ch := ch) (by rw [f6.2 4 (by decide) (by decide) (by decide) (by decide)]; exact p5) h61 (fun q hq => ⟨by rw [f6.1 60 (by decide) (by decide), f5.1 60 (by decide) (by decide) (by decide)]; exact h2.2.2.1 q hq, (h1.2.2.1 q hq).1, (h1.2.2.1 q hq).2.1⟩) (by decide) hk2 (fun q hq => by
            rw [hr6 q hq]
            have h9 : zdt (zn6 p ch 0) 6 k q < ch q := hrl q hq
            unfold zv6 zrow
            rw [if_pos h9])
          refine ⟨_, hq, ?_⟩
          rintro v2 M7 ⟨hn, f7⟩
          have f7' : zfM cp M2 M7 := (f5.tr f6).tr ⟨fun k x1 x2 => f7 k (by omega), fun j _ _ _ _ => by rw [f7 55 (by decide)]⟩
          have c7 : M7 55 12 = (cp : Int) + 1 := by rw [f7 55 (by decide), f6.2 12 (by decide) (by decide) (by decide) (by decide)]; exact c5
          have hw7 : (v2 = 1 ∧ k + 1 < zwq (zn6 p ch 0) 6 0 ∧ (∀ q, q < p → M7 70 q = zrow p ch (k + 1) q) ∨ v2 = 0 ∧ k + 1 = zwq (zn6 p ch 0) 6 0) := by
            rcases hn with ⟨e1, e2, e3⟩ | e
            · refine Or.inl ⟨e1, e2, fun q hq => ?_⟩
              rw [e3 q hq]
              have h9 : zdt (zn6 p ch 0) 6 (k + 1) q < ch q := zrow_lt hq (h1.2.2.1 q hq).1
              unfold zv6 zrow
              rw [if_pos h9]
            · exact Or.inr e
          obtain ⟨k1, k2⟩ := cont M7 v2 f7' c7 hw7
          rcases hu with ⟨e1, e2⟩ | ⟨e1, e2⟩
          · rw [e2]; exact k1 e1
          · rw [e2]; exact k2 e1
        have hak : acc k = (!zthere p cp ro (zrow p ch k) && !zbk p (cp + 1) ch me (zrp cp ro (zrow p ch k)) hw (zSs (cp + 1) ms) l (2 ^ p - 1)) := by rw [← hacc]; rfl
        refine zv155_64 _ _ _ ⟨fun _ => ⟨_, qc154 (ro := ro) (r := zrow p ch k) p5 h61 c5 h8' ro5 hr5, ?_⟩, fun h => absurd (by rw [p5]; omega) h⟩
        rintro w5 M6 ⟨rfl, rfl⟩
        refine ⟨fun ht => nxt M6 zfR.rf hr5 (-4) (Or.inl ⟨?_, rfl⟩), fun ht => ⟨_, qc150b (l := l) (S := 63) hCR5 hl (by decide), ?_⟩⟩
        · have : zthere p cp ro (zrow p ch k) = true := by
            cases e : zthere p cp ro (zrow p ch k) with
            | true => rfl
            | false => rw [e] at ht; exact absurd rfl ht
          rw [hak, this]
          rfl
        · have hnt : zthere p cp ro (zrow p ch k) = false := by
            cases e : zthere p cp ro (zrow p ch k) with
            | false => rfl
            | true => rw [e] at ht; exact absurd (by decide) ht
          rintro w6 M7 ⟨hp6, f7, e70⟩
          have hr6 := zpR_r (by omega) hp6
          rw [zbk_63 h61] at hr6
          have hrow7 : ∀ q, q < p → M7 70 q = zrow p ch k q := fun q hq => by rw [e70]; exact hr5 q hq
          refine ⟨fun h0 => nxt M7 f7 hrow7 (-4) (Or.inl ⟨?_, rfl⟩), fun h0 => ⟨by omega, by omega, ?_⟩⟩
          · have : zbk p (cp + 1) ch me (zrp cp ro (zrow p ch k)) hw (zSs (cp + 1) ms) l (2 ^ p - 1) = true := by
              cases e : zbk p (cp + 1) ch me (zrp cp ro (zrow p ch k)) hw (zSs (cp + 1) ms) l (2 ^ p - 1) with
              | true => rfl
              | false => rw [e] at hr6; simp at hr6; omega
            rw [hak, this]
            simp
          · rw [hrow7 y.toNat (by omega)]
            refine nxt M7 f7 hrow7 _ (Or.inr ⟨?_, rfl⟩)
            have : zbk p (cp + 1) ch me (zrp cp ro (zrow p ch k)) hw (zSs (cp + 1) ms) l (2 ^ p - 1) = false := by
              cases e : zbk p (cp + 1) ch me (zrp cp ro (zrow p ch k)) hw (zSs (cp + 1) ms) l (2 ^ p - 1) with
              | false => rfl
              | true => rw [e] at hr6; exact absurd hr6 h0
            rw [hak, this, hnt]
            rfl
      | succ m ih =>
        intro p M5 hp f5 c5 hr5 hl5
        have p5 : M5 55 4 = pl := by rw [f5.2.1 4 (by decide) (by decide) (by decide) (by decide) (by decide)]; exact h2.1
        refine zv155_64 _ _ _ ⟨fun h => by rw [p5] at h; omega, fun _ => ?_⟩
        rw [c5, show ((6 * ((cp : Int) + 1) - 6) + (p : Int)).toNat = 6 * cp + p by omega, Int.toNat_natCast]
        refine ⟨⟨by omega, by omega⟩, ⟨by omega, by omega⟩, ⟨by omega, by omega⟩, by omega, by omega, by omega, by omega, ⟨by omega, by omega⟩, ?_⟩
        refine ih (p + 1) _ (by omega) ⟨fun k x1 x2 x3 => by rw [zb_uk x2]; exact f5.1 k x1 x2 x3, fun j x1 x2 x3 x4 x5 => by rw [zb_uk (by decide)]; exact f5.2.1 j x1 x2 x3 x4 x5, fun i hi => by rw [zb_ui (by omega)]; exact f5.2.2 i hi⟩ (by rw [zb_uk (by decide)]; exact c5) (fun q hq => by rw [zb_uk (by decide)]; exact hr5 q hq) (fun q hq => ?_)
        by_cases hqp : q = p
        · subst hqp; rw [zb_us]; exact hr5 q (by omega)
        · rw [zb_ui (by omega)]; exact hl5 q (by omega)
    exact lay pl 0 M4 (by omega) f4 c4 hr4 (fun q hq => by omega)
  have key : ∀ (m k : Nat) (M4 : zMem), k + (m + 1) = zwq (zn6 pl ch 0) 6 0 → zfM cp M2 M4 → M4 55 12 = (cp : Int) + 1 → (∀ q, q < pl → M4 70 q = zrow pl ch k q) → zfd acc (m + 1) k = zfd acc (zwq (zn6 pl ch 0) 6 0) 0 →
      zBg (d + 4) 155 52 [zR 55, zI (l : Int), zI y, zI (-4), zI 1, none] [] M4 (fun q M' => ∃ z : Int, q = some (.inl z) ∧ zsMore pl cp ch me ro ms hw (l : Int) y z ∧ zfM cp M2 M' ∧ M' 55 12 = (cp : Int)) := by
    intro m
    induction m with
    | zero =>
      intro k M4 hk2 f4 c4 hr4 hfd
      refine zv155_52 _ _ _ _ ⟨fun h => by omega, fun _ => ⟨fun h => by omega, fun _ => body k M4 (by omega) f4 c4 hr4 (fun M5 w f5 c5 hw5 => ⟨fun ha => ?_, fun ha => ?_⟩)⟩⟩
      · have hw0 : w = 0 := by omega
        subst hw0
        refine zv155_52 _ _ _ _ ⟨fun _ => fin _ M5 f5 c5 ?_, fun h => absurd rfl h⟩
        rw [← hfd]
        simp only [zfd]
        rw [if_neg (by rw [ha]; decide)]
        rfl
      · have hv : (zrow pl ch k y.toNat : Int) = zmv pl ch (zfd acc (zwq (zn6 pl ch 0) 6 0) 0) y.toNat := by
          rw [← hfd]
          simp only [zfd]
          rw [if_pos ha]
          rfl
        exact zv155_52 _ _ _ _ ⟨fun _ => fin _ M5 f5 c5 hv, fun _ => ⟨fun _ => fin _ M5 f5 c5 hv, fun h => absurd (by omega) h⟩⟩
    | succ m ih =>
      intro k M4 hk2 f4 c4 hr4 hfd
      have hfd2 : zfd acc (m + 1 + 1) k = if acc k then some k else zfd acc (m + 1) (k + 1) := rfl
      rw [hfd2] at hfd
      refine zv155_52 _ _ _ _ ⟨fun h => by omega, fun _ => ⟨fun h => by omega, fun _ => body k M4 (by omega) f4 c4 hr4 (fun M5 w f5 c5 hw5 => ⟨fun ha => ?_, fun ha => ?_⟩)⟩⟩
      · rw [if_neg (by rw [ha]; decide)] at hfd
        rcases hw5 with ⟨rfl, e2, e3⟩ | ⟨_, e2⟩
        · exact ih (k + 1) M5 (by omega) f5 c5 e3 hfd
        · omega
      · have hv : (zrow pl ch k y.toNat : Int) = zmv pl ch (zfd acc (zwq (zn6 pl ch 0) 6 0) 0) y.toNat := by
          rw [← hfd, if_pos ha]
          rfl
        exact zv155_52 _ _ _ _ ⟨fun _ => fin _ M5 f5 c5 hv, fun _ => ⟨fun _ => fin _ M5 f5 c5 hv, fun h => absurd (by omega) h⟩⟩
  have hTp : 0 < zwq (zn6 pl ch 0) 6 0 := zwq_pos' zn6_pos
  refine key (zwq (zn6 pl ch 0) 6 0 - 1) 0 M3 (by omega) f3 c3 (fun q hq => ?_) (by rw [show zwq (zn6 pl ch 0) 6 0 - 1 + 1 = zwq (zn6 pl ch 0) 6 0 by omega])
  rw [a2 q (by omega)]
  unfold zrow
  rw [zdt_0]
  rfl
