/-! laws FRAMED and APART: the reference -/
def zRK (M : zMem) (pl : Nat) (c : Nat → Nat → Nat) (L : List Nat) : Prop := zRL M L ∧ ∀ i s : Nat, L[i]? = some s → ∀ p, p < pl → M 71 (6 * i + p) = c s p
def zfK (M M' : zMem) : Prop := (∀ k, k ≠ 55 → k ≠ 69 → k ≠ 71 → M' k = M k) ∧ ∀ j, j ≠ 21 → M' 55 j = M 55 j
theorem zfK.fR {M M' : zMem} (h : zfK M M') : zfR M M' := ⟨fun k a b => h.1 k a (by omega) (by omega), fun j a _ _ _ => h.2 j a⟩
theorem qc145 {d : Nat} {M : zMem} {pl cp ms hw : Nat} {ch : Nat → Nat} {me : Nat → Int} {ro : Nat → Nat → Nat} {v : Nat → Nat} (hC : zCR M pl cp ch me ro ms hw v) :
    zCv (d + 2) 145 [.inr (.inr 55)] M (fun M' => zRK M' pl (zcn cp ch me ro hw) (zSs cp ms) ∧ zfK M M') := by
  have hC0 := hC
  obtain ⟨h1, h2, h3, h4, h5, h6, h7⟩ := hC
  have h61 := h1.1
  refine zk145 (zv145_0 ?_)
  rw [h3]
  refine ⟨_, qc132 h2.2.1 h1.2.1 h6, ?_⟩
  rintro M1 ⟨a1, a2, a3⟩
  have h92 := zSs_92 cp (by have := h1.2.1; omega) ms (by omega)
  have h256 : ∀ s, s ∈ zSs cp ms → s < 256 := fun s hs => Nat.lt_of_lt_of_le (zSs_mem hs).2.1 (zb_p2le (b := 8) h1.2.1)
  have fr1 : zfK M M1 := ⟨fun k x y _ => a2 k x y, a3⟩
  generalize zSs cp ms = L at *
  have key : ∀ (R D : List Nat) (M2 : zMem), D ++ R = L → zfK M M2 → zRL M2 L → (∀ i s : Nat, D[i]? = some s → ∀ p, p < pl → M2 71 (6 * i + p) = zcn cp ch me ro hw s p) →
      zBg (d + 2) 145 10 [zR 55, zI (D.length : Int), none] [] M2 (fun r M' => r = none ∧ zRK M' pl (zcn cp ch me ro hw) L ∧ zfK M M') := by
    intro R
    induction R with
    | nil =>
      intro D M2 k1 k2 k3 k4
      rw [List.append_nil] at k1
      subst k1
      exact zv145_10 _ ⟨fun _ => ⟨rfl, ⟨k3, k4⟩, k2⟩, fun h => absurd (by rw [k3.1]; omega) h⟩
    | cons s R ih =>
      intro D M2 k1 k2 k3 k4
      have hlen : D.length < L.length := by rw [← k1]; simp
      have hs : L[D.length]? = some s := by rw [← k1]; simp
      have hs2 : s < 256 := h256 s (by rw [← k1]; simp)
      refine zv145_10 _ ⟨fun h => by rw [k3.1] at h; omega, fun _ => ?_⟩
      have key2 : ∀ (m p : Nat) (M3 : zMem), p + m = pl → zfK M M3 → zRL M3 L → (∀ i s : Nat, D[i]? = some s → ∀ p, p < pl → M3 71 (6 * i + p) = zcn cp ch me ro hw s p) → (∀ q, q < p → M3 71 (6 * D.length + q) = zcn cp ch me ro hw s q) →
          zBg (d + 2) 145 20 [zR 55, zI (D.length : Int), zI (p : Int)] [] M3 (fun r M' => r = none ∧ zRK M' pl (zcn cp ch me ro hw) L ∧ zfK M M') := by
        intro m
        induction m with
        | zero =>
          intro p M3 hp b1 b2 b3 b4
          have : p = pl := by omega
          subst this
          refine zv145_20 _ _ ⟨fun _ => ⟨⟨by omega, by omega⟩, ?_⟩, fun h => absurd (by rw [b1.2 4 (by decide), h2.1]; omega) h⟩
          have ih1 := ih (D ++ [s])
          simp only [List.append_assoc, List.singleton_append, List.length_append, List.length_cons, List.length_nil] at ih1
          refine ih1 M3 k1 b1 b2 (fun i t ht q hq => ?_)
          rw [List.getElem?_append] at ht
          split at ht
          · exact b3 i t ht q hq
          · have h9 : i - D.length = 0 := by
              have := (List.getElem?_eq_some_iff.mp ht).1
              simp at this
              omega
            rw [h9] at ht
            cases ht
            rw [show i = D.length by omega]
            exact b4 q hq
        | succ m ih2 =>
          intro p M3 hp b1 b2 b3 b4
          refine zv145_20 _ _ ⟨fun h => by rw [b1.2 4 (by decide), h2.1] at h; omega, fun _ => ⟨⟨by omega, by omega⟩, ⟨by omega, by omega⟩, by omega, by omega, ?_⟩⟩
          have hR3 := h2.fr b1.fR
          rw [Int.toNat_natCast, b2.2 _ _ hs, b1.2 15 (by decide), h4]
          refine ⟨_, qc130 h1 hR3 hs2 (by omega), ?_⟩
          rintro w M4 ⟨rfl, rfl⟩
          rw [show (6 * (D.length : Int) + (p : Int)).toNat = 6 * D.length + p by omega]
          refine ⟨by omega, by omega, ⟨by omega, by omega⟩, ?_⟩
          refine ih2 (p + 1) _ (by omega) ⟨fun k x y z => by rw [zb_uk z]; exact b1.1 k x y z, fun j hj => by rw [zb_uk (by decide)]; exact b1.2 j hj⟩ ⟨by rw [zb_uk (by decide)]; exact b2.1, fun i t ht => by rw [zb_uk (by decide)]; exact b2.2 i t ht⟩ (fun i t ht q hq => ?_) (fun q hq => ?_)
          · have hi : i < D.length := (List.getElem?_eq_some_iff.mp ht).1
            rw [zb_ui (by omega)]
            exact b3 i t ht q hq
          · by_cases hqp : q = p
            · subst hqp; exact zb_us
            · rw [zb_ui (by omega)]; exact b4 q (by omega)
      exact key2 pl 0 M2 (by omega) k2 k3 k4 (fun q hq => by omega)
  exact key L [] M1 rfl fr1 a1 (fun i s h => by simp at h)
def zansR (o : Option (Nat × Nat)) (r : Int) (a b : Int) : Prop := match o with
  | none => r = 1
  | some (s, t) => r = 0 ∧ a = s ∧ b = t
def zfB (M M' : zMem) : Prop := (∀ k, k ≠ 55 → M' k = M k) ∧ ∀ j, j ≠ 24 → j ≠ 25 → M' 55 j = M 55 j
theorem qc146 {d : Nat} {M : zMem} {pl cp hw S : Nat} {ch : Nat → Nat} {me : Nat → Int} {ro : Nat → Nat → Nat} {L : List Nat} (hF : zWF pl cp ch me ro) (hR : zRR M pl cp ch me ro) (hK : zRK M pl (zcn cp ch me ro hw) L) (h92 : L.length ≤ 92) (h256 : ∀ s, s ∈ L → s < 256) (hS : S < 64) :
    zCi d 146 [.inr (.inr 55), .inl (S : Int)] M (fun r M' => zansR (zbr0 (fun s => zfrm pl S ro (zcn cp ch me ro hw s) s) cp L) r (M' 55 24) (M' 55 25) ∧ zfB M M') := by
  have hF0 := hF
  obtain ⟨f1, f2, f3, f4⟩ := hF
  obtain ⟨r1, r2, r3, r4, r5⟩ := hR
  refine zk146 (zv146_0 _ ?_)
  have key : ∀ (R D : List Nat), D ++ R = L → zbr0 (fun s => zfrm pl S ro (zcn cp ch me ro hw s) s) cp R = zbr0 (fun s => zfrm pl S ro (zcn cp ch me ro hw s) s) cp L → zBg d 146 2 [zR 55, zI (S : Int), zI (D.length : Int), none, none, none] [] M (fun r M' => ∃ w : Int, r = some (.inl w) ∧ zansR (zbr0 (fun s => zfrm pl S ro (zcn cp ch me ro hw s) s) cp L) w (M' 55 24) (M' 55 25) ∧ zfB M M') := by
    intro R
    induction R with
    | nil =>
      intro D h1 h2
      rw [List.append_nil] at h1
      refine zv146_2 _ _ ⟨fun _ => ⟨Or.inr rfl, _, rfl, ?_, fun _ _ => rfl, fun _ _ _ => rfl⟩, fun h => absurd (by rw [hK.1.1, h1]; omega) h⟩
      rw [← h2]
      rfl
    | cons s R ih =>
      intro D h1 h2
      have hlen : D.length < L.length := by rw [← h1]; simp
      have hs : L[D.length]? = some s := by rw [← h1]; simp
      have hs2 : s < 256 := h256 s (by rw [← h1]; simp)
      have m69 := hK.1.2 _ _ hs
      have m71 := hK.2 _ _ hs
      simp only [zbr0] at h2
      have ih1 := ih (D ++ [s])
      simp only [List.append_assoc, List.singleton_append, List.length_append, List.length_cons, List.length_nil] at ih1
      refine zv146_2 _ _ ⟨fun h => by rw [hK.1.1] at h; omega, fun _ => ?_⟩
      have key2 : ∀ (m c : Nat), c + m = cp → zfd (zfrm pl S ro (zcn cp ch me ro hw s) s) m c = zfd (zfrm pl S ro (zcn cp ch me ro hw s) s) cp 0 → zBg d 146 12 [zR 55, zI (S : Int), zI (D.length : Int), zI (c : Int), none, none] [] M (fun r M' => ∃ w : Int, r = some (.inl w) ∧ zansR (zbr0 (fun s => zfrm pl S ro (zcn cp ch me ro hw s) s) cp L) w (M' 55 24) (M' 55 25) ∧ zfB M M') := by
        intro m
        induction m with
        | zero =>
          intro c hc h3
          have : c = cp := by omega
          subst this
          refine zv146_12 _ _ _ ⟨fun _ => ⟨⟨by omega, by omega⟩, ?_⟩, fun h => absurd (by omega) h⟩
          rw [← h3] at h2
          exact ih1 h1 h2
        | succ m ih2 =>
          intro c hc h3
          simp only [zfd] at h3
          have hnext : ¬ zfrm pl S ro (zcn cp ch me ro hw s) s c = true → zBg d 146 12 [zR 55, zI (S : Int), zI (D.length : Int), zI ((c : Int) + 1), none, none] [] M (fun r M' => ∃ w : Int, r = some (.inl w) ∧ zansR (zbr0 (fun s => zfrm pl S ro (zcn cp ch me ro hw s) s) cp L) w (M' 55 24) (M' 55 25) ∧ zfB M M') := by
            intro hn
            rw [if_neg hn] at h3
            exact ih2 (c + 1) (by omega) h3
          have hfr : zfrm pl S ro (zcn cp ch me ro hw s) s c = true ↔ (s.testBit c = false ∧ zfts pl S (zcn cp ch me ro hw s) (ro c) = true) := by
            unfold zfrm
            simp
          have hzero : ∀ p : Nat, ¬ zfrm pl S ro (zcn cp ch me ro hw s) s c = true → zBg d 146 43 [zR 55, zI (S : Int), zI (D.length : Int), zI (c : Int), zI 0, zI (p : Int)] [] M (fun r M' => ∃ w : Int, r = some (.inl w) ∧ zansR (zbr0 (fun s => zfrm pl S ro (zcn cp ch me ro hw s) s) cp L) w (M' 55 24) (M' 55 25) ∧ zfB M M') := by
            intro p hn
            exact zv146_43 _ _ _ _ _ ⟨fun _ => ⟨fun _ => ⟨⟨by omega, by omega⟩, hnext hn⟩, fun h => absurd rfl h⟩, fun _ => ⟨fun _ => ⟨fun _ => ⟨⟨by omega, by omega⟩, hnext hn⟩, fun h => absurd rfl h⟩, fun h => absurd rfl h⟩⟩
          have key3 : ∀ (n p : Nat), p + n = pl → s.testBit c = false → (∀ q, q < p → S.testBit q = true → (zcn cp ch me ro hw s q).testBit (ro c q) = true) → zBg d 146 43 [zR 55, zI (S : Int), zI (D.length : Int), zI (c : Int), zI 1, zI (p : Int)] [] M (fun r M' => ∃ w : Int, r = some (.inl w) ∧ zansR (zbr0 (fun s => zfrm pl S ro (zcn cp ch me ro hw s) s) cp L) w (M' 55 24) (M' 55 25) ∧ zfB M M') := by
            intro n
            induction n with
            | zero =>
              intro p hp hb hq
              have : p = pl := by omega
              subst this
              refine zv146_43 _ _ _ _ _ ⟨fun _ => ⟨fun h => by omega, fun _ => ⟨by omega, by omega, Or.inl rfl, _, rfl, ?_, fun k hk => by rw [zb_uk hk, zb_uk hk], fun j hj hj2 => by rw [zb_ui hj2, zb_ui hj]⟩⟩, fun h => absurd (by omega) h⟩
              rw [if_pos (hfr.mpr ⟨hb, zfts_iff.mpr hq⟩)] at h3
              rw [← h3] at h2
              rw [← h2, Int.toNat_natCast, m69]
              exact ⟨rfl, by rw [zb_ui (by decide), zb_us], by rw [zb_us]⟩
            | succ n ih3 =>
              intro p hp hb hq
              have hcn := zcn_lt (hw := hw) (s := s) hF0 (p := p) (by omega)
              have hro := f4 c (by omega) p (by omega)
              have hch := (f3 p (by omega)).2.1
              refine zv146_43 _ _ _ _ _ ⟨fun h => by omega, fun _ => ⟨fun h => by omega, fun _ => ?_⟩⟩
              rw [zb_bit0 (by omega) (by omega), show (6 * (D.length : Int) + (p : Int)).toNat = 6 * D.length + p by omega, show (6 * (c : Int) + (p : Int)).toNat = 6 * c + p by omega, m71 p (by omega), r5 c (by omega) p (by omega), Ne, zb_bit1 (by omega) (by omega)]
              refine ⟨fun h => ⟨⟨by omega, by omega⟩, ih3 (p + 1) (by omega) hb (fun q hq2 hS2 => ?_)⟩, fun h => ⟨⟨by omega, by omega⟩, ⟨by omega, by omega⟩, by omega, by omega, ⟨by omega, by omega⟩, ⟨by omega, by omega⟩, by omega, by omega, fun h9 => ⟨⟨by omega, by omega⟩, ?_⟩, fun h9 => ⟨⟨by omega, by omega⟩, ?_⟩⟩⟩
              · by_cases hqp : q = p
                · subst hqp; rw [h] at hS2; cases hS2
                · exact hq q (by omega) hS2
              · refine hzero (p + 1) (fun h10 => h9 ?_)
                have hS2 : S.testBit p = true := by simpa using h
                exact zfts_iff.mp (hfr.mp h10).2 p (by omega) hS2
              · rw [Decidable.not_not] at h9
                refine ih3 (p + 1) (by omega) hb (fun q hq2 hS2 => ?_)
                by_cases hqp : q = p
                · subst hqp; exact h9
                · exact hq q (by omega) hS2
          refine zv146_12 _ _ _ ⟨fun h => by omega, fun _ => ⟨by omega, by omega, ?_⟩⟩
          rw [Int.toNat_natCast, m69, Ne, zb_bit0 (by omega) (by omega)]
          refine ⟨fun h => hzero 0 (fun h10 => h (hfr.mp h10).1), fun h => ?_⟩
          rw [Decidable.not_not] at h
          exact key3 pl 0 (by omega) h (fun q hq => by omega)
      exact key2 cp 0 (by omega) rfl
  exact key L [] rfl rfl
theorem zand_comm0 {s t : Nat} : (s &&& t == 0) = (t &&& s == 0) := by rw [Nat.and_comm]
theorem ztch_sym {pl S : Nat} {c : Nat → Nat → Nat} {s t : Nat} : ztch pl S c (c s) s t = ztch pl S c (c t) t s := by
  unfold ztch
  rw [zand_comm0]
  congr 2
  funext p
  exact Nat.and_comm _ _
theorem ztch_self {pl S : Nat} {c : Nat → Nat → Nat} {s : Nat} (h : 0 < s) : ztch pl S c (c s) s s = false := by
  unfold ztch
  rw [Nat.and_self]
  simp [show ¬ s = 0 by omega]
theorem qc147 {d : Nat} {M : zMem} {pl cp hw S : Nat} {ch : Nat → Nat} {me : Nat → Int} {ro : Nat → Nat → Nat} {L : List Nat} (hF : zWF pl cp ch me ro) (hR : zRR M pl cp ch me ro) (hK : zRK M pl (zcn cp ch me ro hw) L) (h92 : L.length ≤ 92) (h256 : ∀ s, s ∈ L → 0 < s ∧ s < 256) (hS : S < 64) :
    zCi d 147 [.inr (.inr 55), .inl (S : Int)] M (fun r M' => zansR (zbr1 (fun s => ztch pl S (zcn cp ch me ro hw) (zcn cp ch me ro hw s) s) L) r (M' 55 24) (M' 55 25) ∧ zfB M M') := by
  have hF0 := hF
  obtain ⟨f1, f2, f3, f4⟩ := hF
  obtain ⟨r1, r2, r3, r4, r5⟩ := hR
  refine zk147 (zv147_0 _ ?_)
  generalize hT : (fun s => ztch pl S (zcn cp ch me ro hw) (zcn cp ch me ro hw s) s) = T
  have hTT : ∀ s t, T s t = ztch pl S (zcn cp ch me ro hw) (zcn cp ch me ro hw s) s t := fun s t => by rw [← hT]
  have key : ∀ (R D : List Nat), D ++ R = L → zbr1 T R = zbr1 T L → (∀ s, s ∈ D → ∀ t, t ∈ L → T s t = false) → zBg d 147 2 [zR 55, zI (S : Int), zI (D.length : Int), none, none, none] [] M (fun r M' => ∃ w : Int, r = some (.inl w) ∧ zansR (zbr1 T L) w (M' 55 24) (M' 55 25) ∧ zfB M M') := by
    intro R
    induction R with
    | nil =>
      intro D h1 h2 h3
      rw [List.append_nil] at h1
      refine zv147_2 _ _ ⟨fun _ => ⟨Or.inr rfl, _, rfl, ?_, fun _ _ => rfl, fun _ _ _ => rfl⟩, fun h => absurd (by rw [hK.1.1, h1]; omega) h⟩
      rw [← h2]
      rfl
    | cons s R ih =>
      intro D h1 h2 h3
      have hlen : D.length < L.length := by rw [← h1]; simp
      have hs : L[D.length]? = some s := by rw [← h1]; simp
      have hsm : s ∈ L := by rw [← h1]; simp
      have hs2 := h256 s hsm
      have m69 := hK.1.2 _ _ hs
      have m71 := hK.2 _ _ hs
      simp only [zbr1] at h2
      have ih1 := ih (D ++ [s])
      simp only [List.append_assoc, List.singleton_append, List.length_append, List.length_cons, List.length_nil] at ih1
      have hfind : L.find? (T s) = R.find? (T s) := by
        rw [← h1, List.find?_append]
        have hD : D.find? (T s) = none := by
          rw [List.find?_eq_none]
          intro x hx
          have := h3 x hx s hsm
          rw [hTT, ztch_sym, ← hTT] at this
          rw [this]
          decide
        rw [hD, List.find?_cons_of_neg (by rw [hTT, ztch_self hs2.1]; decide)]
        rfl
      refine zv147_2 _ _ ⟨fun h => by rw [hK.1.1] at h; omega, fun _ => ?_⟩
      have key2 : ∀ (R2 D2 : List Nat), D2 ++ R2 = L → R2.find? (T s) = L.find? (T s) → (∀ t, t ∈ D2 → T s t = false) → zBg d 147 12 [zR 55, zI (S : Int), zI (D.length : Int), zI (D2.length : Int), none, none] [] M (fun r M' => ∃ w : Int, r = some (.inl w) ∧ zansR (zbr1 T L) w (M' 55 24) (M' 55 25) ∧ zfB M M') := by
        intro R2
        induction R2 with
        | nil =>
          intro D2 k1 k2 k3
          rw [List.append_nil] at k1
          subst k1
          refine zv147_12 _ _ _ ⟨fun _ => ⟨⟨by omega, by omega⟩, ?_⟩, fun h => absurd (by rw [hK.1.1]; omega) h⟩
          rw [← hfind, ← k2] at h2
          refine ih1 h1 h2 (fun x hx t ht => ?_)
          rcases List.mem_append.mp hx with hx | hx
          · exact h3 x hx t ht
          · simp at hx
            subst hx
            exact k3 t ht
        | cons t R2 ih2 =>
          intro D2 k1 k2 k3
          have hlen2 : D2.length < L.length := by rw [← k1]; simp
          have ht : L[D2.length]? = some t := by rw [← k1]; simp
          have ht2 := h256 t (by rw [← k1]; simp)
          have n69 := hK.1.2 _ _ ht
          have n71 := hK.2 _ _ ht
          have ih3 := ih2 (D2 ++ [t])
          simp only [List.append_assoc, List.singleton_append, List.length_append, List.length_cons, List.length_nil] at ih3
          have hnext : ¬ T s t = true → zBg d 147 12 [zR 55, zI (S : Int), zI (D.length : Int), zI ((D2.length : Int) + 1), none, none] [] M (fun r M' => ∃ w : Int, r = some (.inl w) ∧ zansR (zbr1 T L) w (M' 55 24) (M' 55 25) ∧ zfB M M') := by
            intro hn
            rw [List.find?_cons_of_neg hn] at k2
            refine ih3 k1 k2 (fun x hx => ?_)
            rcases List.mem_append.mp hx with hx | hx
            · exact k3 x hx
            · simp at hx
              subst hx
              simpa using hn
          have hzero : ∀ p : Nat, ¬ T s t = true → zBg d 147 46 [zR 55, zI (S : Int), zI (D.length : Int), zI (D2.length : Int), zI 0, zI (p : Int)] [] M (fun r M' => ∃ w : Int, r = some (.inl w) ∧ zansR (zbr1 T L) w (M' 55 24) (M' 55 25) ∧ zfB M M') := by
            intro p hn
            exact zv147_46 _ _ _ _ _ ⟨fun _ => ⟨fun _ => ⟨⟨by omega, by omega⟩, hnext hn⟩, fun h => absurd rfl h⟩, fun _ => ⟨fun _ => ⟨fun _ => ⟨⟨by omega, by omega⟩, hnext hn⟩, fun h => absurd rfl h⟩, fun h => absurd rfl h⟩⟩
          have hTi : T s t = true ↔ s &&& t = 0 ∧ ∀ p, p < pl → S.testBit p = true → zcn cp ch me ro hw s p &&& zcn cp ch me ro hw t p ≠ 0 := by
            rw [hTT]
            unfold ztch
            rw [Bool.and_eq_true, beq_iff_eq, zme2_iff]
          have key3 : ∀ (n p : Nat), p + n = pl → s &&& t = 0 → (∀ q, q < p → S.testBit q = true → zcn cp ch me ro hw s q &&& zcn cp ch me ro hw t q ≠ 0) → zBg d 147 46 [zR 55, zI (S : Int), zI (D.length : Int), zI (D2.length : Int), zI 1, zI (p : Int)] [] M (fun r M' => ∃ w : Int, r = some (.inl w) ∧ zansR (zbr1 T L) w (M' 55 24) (M' 55 25) ∧ zfB M M') := by
            intro n
            induction n with
            | zero =>
              intro p hp hb hq
              have : p = pl := by omega
              subst this
              refine zv147_46 _ _ _ _ _ ⟨fun _ => ⟨fun h => by omega, fun _ => ⟨by omega, by omega, by omega, by omega, Or.inl rfl, _, rfl, ?_, fun k hk => by rw [zb_uk hk, zb_uk hk], fun j hj hj2 => by rw [zb_ui hj2, zb_ui hj]⟩⟩, fun h => absurd (by omega) h⟩
              rw [List.find?_cons_of_pos (hTi.mpr ⟨hb, hq⟩)] at k2
              rw [← hfind, ← k2] at h2
              rw [← h2, Int.toNat_natCast, Int.toNat_natCast, m69, n69]
              exact ⟨rfl, by rw [zb_ui (by decide), zb_us], by rw [zb_us]⟩
            | succ n ih4 =>
              intro p hp hb hq
              have hcn := zcn_lt (hw := hw) (s := s) hF0 (p := p) (by omega)
              refine zv147_46 _ _ _ _ _ ⟨fun h => by omega, fun _ => ⟨fun h => by omega, fun _ => ?_⟩⟩
              rw [zb_bit0 (by omega) (by omega), show (6 * (D.length : Int) + (p : Int)).toNat = 6 * D.length + p by omega, show (6 * (D2.length : Int) + (p : Int)).toNat = 6 * D2.length + p by omega, m71 p (by omega), n71 p (by omega), zb_and (by omega)]
              refine ⟨fun h => ⟨⟨by omega, by omega⟩, ih4 (p + 1) (by omega) hb (fun q hq2 hS2 => ?_)⟩, fun h => ⟨⟨by omega, by omega⟩, ⟨by omega, by omega⟩, by omega, by omega, ⟨by omega, by omega⟩, ⟨by omega, by omega⟩, by omega, by omega, fun h9 => ⟨⟨by omega, by omega⟩, ?_⟩, fun h9 => ⟨⟨by omega, by omega⟩, ?_⟩⟩⟩
              · by_cases hqp : q = p
                · subst hqp; rw [h] at hS2; cases hS2
                · exact hq q (by omega) hS2
              · refine hzero (p + 1) (fun h10 => ?_)
                have hS2 : S.testBit p = true := by simpa using h
                exact (hTi.mp h10).2 p (by omega) hS2 (by omega)
              · refine ih4 (p + 1) (by omega) hb (fun q hq2 hS2 => ?_)
                by_cases hqp : q = p
                · subst hqp; omega
                · exact hq q (by omega) hS2
          refine zv147_12 _ _ _ ⟨fun h => by rw [hK.1.1] at h; omega, fun _ => ⟨by omega, by omega, by omega, by omega, ?_⟩⟩
          rw [Int.toNat_natCast, Int.toNat_natCast, m69, n69, zb_and (by omega)]
          refine ⟨fun h => hzero 0 (fun h10 => ?_), fun h => ?_⟩
          · rw [(hTi.mp h10).1] at h
            exact h rfl
          · exact key3 pl 0 (by omega) (by omega) (fun q hq => by omega)
      exact key2 L [] rfl rfl (fun t ht => by cases ht)
  exact key L [] rfl rfl (fun s hs => by cases hs)
