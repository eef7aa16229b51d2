/-! the reference's madeBy, and its calls could, maker, blamed, unjust, count, past -/
def zCR (M : zMem) (pl cp : Nat) (ch : Nat → Nat) (me : Nat → Int) (ro : Nat → Nat → Nat) (ms hw : Nat) (v : Nat → Nat) : Prop := zWF pl cp ch me ro ∧ zRR M pl cp ch me ro ∧ M 55 14 = ms ∧ M 55 15 = hw ∧ 1 ≤ ms ∧ ms ≤ 3 ∧ ∀ p, p < pl → M 66 p = v p ∧ v p ≤ 5
theorem zCR.fr {M M' : zMem} {pl cp ms hw : Nat} {ch : Nat → Nat} {me : Nat → Int} {ro : Nat → Nat → Nat} {v : Nat → Nat} (h : zfR M M') (hr : zCR M pl cp ch me ro ms hw v) : zCR M' pl cp ch me ro ms hw v := by
  obtain ⟨h1, h2, h3, h4, h5, h6, h7⟩ := hr
  refine ⟨h1, h2.fr h, ?_, ?_, h5, h6, ?_⟩
  · rw [h.2 14 (by decide) (by decide) (by decide) (by decide)]; exact h3
  · rw [h.2 15 (by decide) (by decide) (by decide) (by decide)]; exact h4
  · rw [h.1 66 (by decide) (by decide)]; exact h7
theorem zfR_sets {M M' : zMem} (h1 : ∀ k, k ≠ 55 → k ≠ 69 → M' k = M k) (h2 : ∀ j, j ≠ 21 → M' 55 j = M 55 j) : zfR M M' :=
  ⟨fun k a b => h1 k a (by omega), fun j a _ _ _ => h2 j a⟩
/-- all, some, many in one number -/
def zpk (F : List Nat) : Nat := if F = [] then 0 else 65536 * F.length + 256 * zsome F + zall F
theorem zpk_ok {F : List Nat} (h92 : F.length ≤ 92) (h : ∀ s, s ∈ F → s < 256) : zpk F < 2 ^ 24 ∧ zpk F % 256 = zsur F ∧ zpk F / 256 % 256 = zsome F ∧ zpk F / 65536 = F.length ∧ (zpk F = 0 ↔ F = []) := by
  have h1 := zsome_lt h
  have h2 := zall_lt (F := F)
  unfold zpk zsur
  by_cases he : F = []
  · rw [if_pos he, if_pos he]
    subst he
    refine ⟨by decide, by decide, by decide, by decide, by simp⟩
  · rw [if_neg he, if_neg he]
    have h3 : 0 < F.length := List.length_pos_iff.mpr he
    refine ⟨by omega, by omega, by omega, by omega, ?_⟩
    constructor
    · intro; omega
    · intro hh; exact absurd hh he
theorem zand255 {a : Nat} (ha : a < 2 ^ 31) : ziand (a : Int) 255 = ((a % 256 : Nat) : Int) := by
  have h := zb_and (a := a) (b := 255) ha
  refine h.trans ?_
  rw [show 255 = 2 ^ 8 - 1 by decide, Nat.and_two_pow_sub_one_eq_mod]
theorem qc133 {d : Nat} {M : zMem} {pl cp ms hw a b n : Nat} {ch : Nat → Nat} {me : Nat → Int} {ro : Nat → Nat → Nat} {v : Nat → Nat} (hF : zWF pl cp ch me ro) (hR : zRR M pl cp ch me ro) (hms : ms ≤ 3) (ha : zSHL[a]? = some (.inl (0, n))) (hb : b + pl ≤ n) (hn : n < 1000) (ha1 : a ≠ 55 ∧ a ≠ 69) (hv : ∀ p, p < pl → M a (b + p) = v p ∧ v p ≤ 5) :
    zCi (d + 3) 133 [.inr (.inr 55), .inr (.inr a), .inl (b : Int), .inl (ms : Int), .inl (hw : Int)] M (fun r M' => r = (zpk (zF pl cp ch me ro ms hw v) : Int) ∧ zfR M M') := by
  have hF0 := hF
  obtain ⟨f1, f2, f3, f4⟩ := hF
  refine zk133 (zv133_0 _ _ _ _ ⟨_, qc132 hR.2.1 f2 hms, ?_⟩)
  rintro M1 ⟨a1, a2, a3⟩
  have fr := zfR_sets a2 a3
  have hR1 := hR.fr fr
  have hv1 : ∀ p, p < pl → M1 a (b + p) = v p ∧ v p ≤ 5 := fun p hp => by rw [a2 a ha1.1 ha1.2]; exact hv p hp
  have h92 := zSs_92 cp (by omega) ms (by omega)
  have h256 : ∀ s, s ∈ zSs cp ms → s < 256 := fun s hs => Nat.lt_of_lt_of_le (zSs_mem hs).2.1 (zb_p2le (b := 8) f2)
  unfold zF
  generalize zSs cp ms = L at *
  generalize hmk : zmk pl cp ch me ro hw v = mk
  have key : ∀ (R D : List Nat), D ++ R = L → zBg (d + 3) 133 19 [zR 55, zR a, zI (b : Int), none, zI (hw : Int), zI (zall (D.filter mk) : Int), zI (zsome (D.filter mk) : Int), zI ((D.filter mk).length : Int), zI (D.length : Int)] [] M1 (fun r M' => ∃ w : Int, r = some (.inl w) ∧ w = (zpk (L.filter mk) : Int) ∧ zfR M M') := by
    intro R
    induction R with
    | nil =>
      intro D h1
      rw [List.append_nil] at h1
      subst h1
      have hfl : (D.filter mk).length ≤ 92 := Nat.le_trans (List.length_filter_le _ _) (by omega)
      have hz := zsome_lt (F := D.filter mk) (fun x hx => h256 x (List.mem_filter.mp hx).1)
      have hz2 := zall_lt (F := D.filter mk)
      refine zv133_19 _ _ _ _ _ _ _ ⟨fun _ => ⟨fun hne => ⟨⟨by omega, by omega⟩, ⟨by omega, by omega⟩, ⟨by omega, by omega⟩, ⟨by omega, by omega⟩, _, rfl, ?_, fr⟩, fun he => ⟨_, rfl, ?_, fr⟩⟩, fun h => absurd (by rw [a1.1]; omega) h⟩
      · unfold zpk
        rw [if_neg (by intro e; rw [e] at hne; exact hne rfl)]
        omega
      · unfold zpk
        rw [if_pos (List.length_eq_zero_iff.mp (by omega))]
        rfl
    | cons s R ih =>
      intro D h1
      have hlen : D.length < L.length := by rw [← h1]; simp
      have hs : L[D.length]? = some s := by rw [← h1]; simp
      have hs1 := a1.2 _ _ hs
      have hs2 : s < 256 := h256 s (by rw [← h1]; simp)
      refine zv133_19 _ _ _ _ _ _ _ ⟨fun h => by rw [a1.1] at h; omega, fun _ => ⟨by omega, by omega, ?_⟩⟩
      rw [Int.toNat_natCast, hs1]
      refine ⟨_, qc131 hF0 hR1 hs2 ha hb hn hv1, ?_⟩
      rintro w M2 ⟨rfl, rfl⟩
      rw [hmk, hs1]
      have ih1 := ih (D ++ [s])
      simp only [List.append_assoc, List.singleton_append, List.length_append, List.length_cons, List.length_nil] at ih1
      have hfl : (D.filter mk).length ≤ 92 := Nat.le_trans (List.length_filter_le _ _) (by omega)
      refine ⟨fun h => ⟨⟨by omega, by omega⟩, ?_⟩, fun h => ?_⟩
      · have hno : ¬ mk s = true := by intro e; rw [if_pos e] at h; omega
        have ih2 := ih1 h1
        rw [List.filter_append, List.filter_cons_of_neg hno, List.filter_nil, List.append_nil] at ih2
        exact ih2
      · have hyes : mk s = true := by
          cases e : mk s
          · rw [e] at h; exact absurd rfl h
          · rfl
        have ih2 := ih1 h1
        rw [List.filter_append, List.filter_cons_of_pos hyes, List.filter_nil] at ih2
        have hz := zsome_lt (F := D.filter mk) (fun x hx => h256 x (by rw [← h1]; exact List.mem_append_left _ (List.mem_filter.mp hx).1))
        have hz2 := zall_lt (F := D.filter mk)
        have e1 : zall (D.filter mk ++ [s]) = zall (D.filter mk) &&& s := by
          unfold zall
          rw [List.foldl_append]
          rfl
        have e2 : zsome (D.filter mk ++ [s]) = zsome (D.filter mk) ||| s := by
          unfold zsome
          rw [List.foldl_append]
          rfl
        rw [e1, e2, List.length_append] at ih2
        rw [zb_and (by omega), zb_or (by omega) (by omega)]
        exact ⟨by omega, by omega, by omega, by omega, ⟨by omega, by omega⟩, ⟨by omega, by omega⟩, ih2⟩
  exact key L [] rfl
theorem zF_92 {pl cp ms hw : Nat} {ch : Nat → Nat} {me : Nat → Int} {ro : Nat → Nat → Nat} {v : Nat → Nat} (hcp : cp ≤ 8) (hms : ms ≤ 3) : (zF pl cp ch me ro ms hw v).length ≤ 92 :=
  Nat.le_trans (List.length_filter_le _ _) (zSs_92 cp (by omega) ms (by omega))
theorem qc140 {d : Nat} {M : zMem} {pl cp ms hw : Nat} {ch : Nat → Nat} {me : Nat → Int} {ro : Nat → Nat → Nat} {v : Nat → Nat} {x : Int} (hC : zCR M pl cp ch me ro ms hw v) :
    zCi (d + 3) 140 [.inr (.inr 55), .inl x] M (fun r M' => zsCould pl cp ch me ro hw v x r ∧ zfR M M') := by
  obtain ⟨h1, h2, h3, h4, h5, h6, h7⟩ := hC
  refine zk140 (zv140_0 _ ⟨_, qc139 h2.2.1 h1.2.1, ?_⟩)
  rintro v1 M1 ⟨hv1, rfl⟩
  refine ⟨fun hz => ?_, fun hz => ?_⟩
  · have hx : ¬ zisS cp x := by rcases hv1 with ⟨h, _⟩ | ⟨_, h⟩ <;> first | exact h | omega
    exact ⟨_, rfl, Or.inr ⟨hx, rfl⟩, zfR.rf⟩
  · have hx : zisS cp x := by rcases hv1 with ⟨_, h⟩ | ⟨h, _⟩ <;> first | exact h | exact absurd h hz
    obtain ⟨s, hs⟩ : ∃ s : Nat, x = (s : Int) := ⟨x.toNat, by have := hx.1; omega⟩
    subst hs
    have h256 : 2 ^ cp ≤ 2 ^ 8 := zb_p2le h1.2.1
    rw [h4]
    refine ⟨_, qc131 (b := 0) (n := 6) (v := v) h1 h2 (by have := hx.2; omega) rfl (by have := h1.1; omega) (by decide) (fun p hp => by rw [Nat.zero_add]; exact h7 p hp), ?_⟩
    rintro w M2 ⟨rfl, rfl⟩
    refine ⟨fun h => ⟨_, rfl, Or.inl ⟨hx, ?_⟩, zfR.rf⟩, fun h => ⟨_, rfl, Or.inl ⟨hx, ?_⟩, zfR.rf⟩⟩
    · rw [Int.toNat_natCast, h]
    · rw [Int.toNat_natCast]
      split
      · rfl
      · rename_i h8; rw [if_neg h8] at h; exact absurd rfl h
theorem qc141 {d : Nat} {M : zMem} {pl cp ms hw : Nat} {ch : Nat → Nat} {me : Nat → Int} {ro : Nat → Nat → Nat} {v : Nat → Nat} {x : Int} (hC : zCR M pl cp ch me ro ms hw v) (hx : zR32 x) :
    zCi (d + 3) 141 [.inr (.inr 55), .inl x] M (fun r M' => zsMaker (zF pl cp ch me ro ms hw v) x r ∧ zfR M M') := by
  obtain ⟨h1, h2, h3, h4, h5, h6, h7⟩ := hC
  refine zk141 (zv141_0 _ ⟨fun h => ?_, fun h => ⟨_, rfl, ?_, zfR.rf⟩⟩)
  · rw [h3]
    refine ⟨_, qc132 h2.2.1 h1.2.1 h6, ?_⟩
    rintro M1 ⟨a1, a2, a3⟩
    have fr := zfR_sets a2 a3
    have hR1 := h2.fr fr
    have hv1 : ∀ p, p < pl → M1 66 (0 + p) = v p ∧ v p ≤ 5 := fun p hp => by rw [a2 66 (by decide) (by decide), Nat.zero_add]; exact h7 p hp
    have h92 := zSs_92 cp (by have := h1.2.1; omega) ms (by omega)
    have h256 : ∀ s, s ∈ zSs cp ms → s < 256 := fun s hs => Nat.lt_of_lt_of_le (zSs_mem hs).2.1 (zb_p2le (b := 8) h1.2.1)
    have hh : M1 55 15 = hw := by rw [a3 15 (by decide)]; exact h4
    obtain ⟨i, hi⟩ : ∃ i : Nat, x = (i : Int) := ⟨x.toNat, by omega⟩
    subst hi
    have hx2 := hx.2
    unfold zsMaker
    rw [if_neg (by omega), Int.toNat_natCast]
    unfold zF
    generalize zSs cp ms = L at *
    generalize hmk : zmk pl cp ch me ro hw v = mk
    have key : ∀ (R D : List Nat), D ++ R = L → (D.filter mk).length ≤ i → zBg (d + 3) 141 18 [zR 55, zI (i : Int), zI ((D.filter mk).length : Int), zI (D.length : Int)] [] M1 (fun r M' => ∃ w : Int, r = some (.inl w) ∧ w = zith (L.filter mk) i ∧ zfR M M') := by
      intro R
      induction R with
      | nil =>
        intro D k1 k2
        rw [List.append_nil] at k1
        subst k1
        refine zv141_18 _ _ _ ⟨fun _ => ⟨_, rfl, ?_, fr⟩, fun h => absurd (by rw [a1.1]; omega) h⟩
        unfold zith
        rw [List.getElem?_eq_none (by omega)]
      | cons s R ih =>
        intro D k1 k2
        have hlen : D.length < L.length := by rw [← k1]; simp
        have hs : L[D.length]? = some s := by rw [← k1]; simp
        have hs1 := a1.2 _ _ hs
        have hs2 : s < 256 := h256 s (by rw [← k1]; simp)
        refine zv141_18 _ _ _ ⟨fun h => by rw [a1.1] at h; omega, fun _ => ⟨by omega, by omega, ?_⟩⟩
        rw [Int.toNat_natCast, hs1, hh]
        refine ⟨_, qc131 (b := 0) (n := 6) (v := v) h1 hR1 hs2 rfl (by have := h1.1; omega) (by decide) hv1, ?_⟩
        rintro w M2 ⟨rfl, rfl⟩
        rw [hmk, hs1]
        have ih1 := ih (D ++ [s])
        simp only [List.append_assoc, List.singleton_append, List.length_append, List.length_cons, List.length_nil] at ih1
        have ih2 := ih1 k1
        refine ⟨fun h => ⟨⟨by omega, by omega⟩, ?_⟩, fun h => ?_⟩
        · have hno : ¬ mk s = true := by intro e; rw [if_pos e] at h; omega
          rw [List.filter_append, List.filter_cons_of_neg hno, List.filter_nil, List.append_nil] at ih2
          exact ih2 k2
        · have hyes : mk s = true := by
            cases e : mk s
            · rw [e] at h; exact absurd rfl h
            · rfl
          rw [List.filter_append, List.filter_cons_of_pos hyes, List.filter_nil] at ih2
          refine ⟨fun hne => ⟨⟨by omega, by omega⟩, ⟨by omega, by omega⟩, ?_⟩, fun he => ⟨by omega, by omega, _, rfl, ?_, fr⟩⟩
          · rw [List.length_append] at ih2
            exact ih2 (by simp; omega)
          · unfold zith
            rw [← k1, List.filter_append, List.filter_cons_of_pos hyes, List.getElem?_append_right (by omega)]
            rw [show i - (D.filter mk).length = 0 by omega]
            rfl
    exact key L [] rfl (by simp)
  · unfold zsMaker
    rw [if_pos (by omega)]
theorem qc142 {d : Nat} {M : zMem} {pl cp ms hw : Nat} {ch : Nat → Nat} {me : Nat → Int} {ro : Nat → Nat → Nat} {v : Nat → Nat} {x : Int} (hC : zCR M pl cp ch me ro ms hw v) :
    zCi (d + 4) 142 [.inr (.inr 55), .inl x] M (fun r M' => zsBlamed (zF pl cp ch me ro ms hw v) x r ∧ zfR M M') := by
  obtain ⟨h1, h2, h3, h4, h5, h6, h7⟩ := hC
  refine zk142 (zv142_0 _ ⟨_, qc110, ?_⟩)
  rintro v1 M1 ⟨hv1, rfl⟩
  unfold zsBlamed
  refine ⟨fun hz => ?_, fun hz => ⟨_, rfl, ?_, zfR.rf⟩⟩
  · rw [h3, h4]
    refine ⟨_, qc133 (b := 0) (n := 6) (v := v) h1 h2 h6 rfl (by have := h1.1; omega) (by decide) (by decide) (fun p hp => by rw [Nat.zero_add]; exact h7 p hp), ?_⟩
    rintro w M2 ⟨rfl, fr⟩
    obtain ⟨p1, p2, p3, p4, p5⟩ := zpk_ok (zF_92 (pl := pl) (ch := ch) (me := me) (ro := ro) (hw := hw) (v := v) h1.2.1 h6) (zF_256 h1.2.1)
    refine ⟨fun h => ⟨_, rfl, ?_, fr⟩, fun h => ⟨_, rfl, ?_, fr⟩⟩
    · rw [if_neg h, if_pos (by omega)]
      have e := zb_shr (a := zpk (zF pl cp ch me ro ms hw v)) (k := 8) (by omega) (by decide)
      have e' : zishr (zpk (zF pl cp ch me ro ms hw v) : Int) 8 = ((zpk (zF pl cp ch me ro ms hw v) / 2 ^ 8 : Nat) : Int) := e
      rw [e', zand255 (by omega)]
      omega
    · rw [if_pos (by omega), zand255 (by omega), p2]
  · rw [if_neg (by omega), if_neg (by omega)]
theorem qc144 {d : Nat} {M : zMem} {pl cp ms hw : Nat} {ch : Nat → Nat} {me : Nat → Int} {ro : Nat → Nat → Nat} {v : Nat → Nat} {x : Int} (hC : zCR M pl cp ch me ro ms hw v) :
    zCi (d + 4) 144 [.inr (.inr 55), .inl x] M (fun r M' => zsUnjust cp (zF pl cp ch me ro ms hw v) x r ∧ zfR M M') := by
  obtain ⟨h1, h2, h3, h4, h5, h6, h7⟩ := hC
  refine zk144 (zv144_0 _ ⟨_, qc139 h2.2.1 h1.2.1, ?_⟩)
  rintro v1 M1 ⟨hv1, rfl⟩
  refine ⟨fun hz => ?_, fun hz => ?_⟩
  · have hx : zisS cp x := by rcases hv1 with ⟨_, h⟩ | ⟨h, _⟩ <;> first | exact h | exact absurd h hz
    obtain ⟨s, hs⟩ : ∃ s : Nat, x = (s : Int) := ⟨x.toNat, by have := hx.1; omega⟩
    subst hs
    have h256 : 2 ^ cp ≤ 2 ^ 8 := zb_p2le h1.2.1
    have hs256 : s < 256 := by have := hx.2; omega
    rw [h3, h4]
    refine ⟨_, qc133 (b := 0) (n := 6) (v := v) h1 h2 h6 rfl (by have := h1.1; omega) (by decide) (by decide) (fun p hp => by rw [Nat.zero_add]; exact h7 p hp), ?_⟩
    rintro w M2 ⟨rfl, fr⟩
    obtain ⟨p1, p2, p3, p4, p5⟩ := zpk_ok (zF_92 (pl := pl) (ch := ch) (me := me) (ro := ro) (hw := hw) (v := v) h1.2.1 h6) (zF_256 h1.2.1)
    rw [zand255 (by omega), p2, zb_andn (by omega)]
    refine ⟨fun hn => ⟨fun hw0 => ?_, fun hw0 => ⟨_, rfl, Or.inr ⟨hx, ?_⟩, fr⟩⟩, fun hn => ⟨_, rfl, Or.inr ⟨hx, ?_⟩, fr⟩⟩
    · have hlt : s &&& (zsur (zF pl cp ch me ro ms hw v) ^^^ 4294967295) < 256 := Nat.lt_of_le_of_lt Nat.and_le_left hs256
      refine ⟨_, qc143 (by omega), ?_⟩
      rintro w M3 ⟨rfl, rfl⟩
      refine ⟨_, rfl, Or.inr ⟨hx, ?_⟩, fr⟩
      rw [if_neg (fun e => by rw [p5.mpr e] at hn; exact hn rfl), Int.toNat_natCast, if_neg (by omega)]
    · rw [if_neg (fun e => by rw [p5.mpr e] at hn; exact hn rfl), Int.toNat_natCast, if_pos (by omega)]
    · rw [if_pos (p5.mp (by omega))]
  · have hx : ¬ zisS cp x := by rcases hv1 with ⟨h, _⟩ | ⟨_, h⟩ <;> first | exact h | exact absurd (by omega) hz
    exact ⟨_, rfl, Or.inl ⟨hx, rfl⟩, zfR.rf⟩
theorem qc134 {d : Nat} {M : zMem} {pl cp ms hw pn sz : Nat} {ch : Nat → Nat} {me : Nat → Int} {ro : Nat → Nat → Nat} {v : Nat → Nat} {x : Int} (hC : zCR M pl cp ch me ro ms hw v) (hpn : M 55 17 = pn) (hsz : M 55 2 = sz) :
    zCi (d + 4) 134 [.inr (.inr 55), .inl x] M (fun r M' => zsCount pl cp pn sz (zF pl cp ch me ro ms hw v) v x r ∧ zfR M M') := by
  obtain ⟨h1, h2, h3, h4, h5, h6, h7⟩ := hC
  have h61 := h1.1
  refine zk134 (zv134_0 _ ?_)
  have key : ∀ (m p : Nat), p + m = pl → zBg (d + 4) 134 4 [zR 55, zI x, zI (zlost v p : Int), zI (p : Int)] [] M (fun r M' => ∃ w : Int, r = some (.inl w) ∧ zsCount pl cp pn sz (zF pl cp ch me ro ms hw v) v x w ∧ zfR M M') := by
    intro m
    induction m with
    | zero =>
      intro p hp
      have : p = pl := by omega
      subst this
      refine zv134_4 _ _ _ ⟨fun _ => ?_, fun h => absurd (by rw [h2.1]; omega) h⟩
      rw [h3, h4]
      unfold zsCount
      refine ⟨⟨fun h => ⟨_, rfl, ?_, zfR.rf⟩, fun h => ⟨_, rfl, ?_, zfR.rf⟩, fun h => ⟨_, rfl, ?_, zfR.rf⟩, fun h => ⟨_, rfl, ?_, zfR.rf⟩, fun h => ⟨_, qc133 (b := 0) (n := 6) (v := v) h1 h2 h6 rfl (by omega) (by decide) (by decide) (fun p hp => by rw [Nat.zero_add]; exact h7 p hp), ?_⟩, fun h => ⟨_, rfl, ?_, zfR.rf⟩, trivial⟩, fun h => ⟨_, rfl, ?_, zfR.rf⟩⟩
      · rw [if_pos h, h2.1]
      · rw [if_neg (by omega), if_pos h, h2.2.1]
      · rw [if_neg (by omega), if_neg (by omega), if_pos h, hpn]
      · rw [if_neg (by omega), if_neg (by omega), if_neg (by omega), if_pos h, hsz]
      · rintro w M2 ⟨rfl, fr⟩
        obtain ⟨p1, p2, p3, p4, p5⟩ := zpk_ok (zF_92 (pl := p) (ch := ch) (me := me) (ro := ro) (hw := hw) (v := v) h1.2.1 h6) (zF_256 h1.2.1)
        refine ⟨by decide, _, rfl, ?_, fr⟩
        have e := zb_div (a := zpk (zF p cp ch me ro ms hw v)) (b := 65536) (by omega) (by decide) (by decide)
        have e' : zidiv (zpk (zF p cp ch me ro ms hw v) : Int) 65536 = ((zpk (zF p cp ch me ro ms hw v) / 65536 : Nat) : Int) := e
        rw [if_neg (by omega), if_neg (by omega), if_neg (by omega), if_neg (by omega), if_pos h, e', p4]
      · rw [if_neg (by omega), if_neg (by omega), if_neg (by omega), if_neg (by omega), if_neg (by omega), if_pos h]
      · rw [if_neg (by omega), if_neg (by omega), if_neg (by omega), if_neg (by omega), if_neg (by omega), if_neg (by omega)]
    | succ m ih =>
      intro p hp
      have ih1 := ih (p + 1) (by omega)
      have hl := zlost_le (v := v) p
      simp only [zlost] at ih1
      refine zv134_4 _ _ _ ⟨fun h => by rw [h2.1] at h; omega, fun _ => ?_⟩
      rw [Int.toNat_natCast, (h7 p (by omega)).1]
      refine ⟨by omega, by omega, fun h => ⟨⟨by omega, by omega⟩, ⟨by omega, by omega⟩, ?_⟩, fun h => ⟨⟨by omega, by omega⟩, ⟨by omega, by omega⟩, ?_⟩⟩
      · rw [if_neg (by omega)] at ih1
        simpa using ih1
      · rw [if_pos (by omega)] at ih1
        simpa using ih1
  exact key pl 0 (by omega)
theorem qc167 {d : Nat} {M : zMem} {pl cp ms hw pn : Nat} {ch : Nat → Nat} {me : Nat → Int} {ro : Nat → Nat → Nat} {v : Nat → Nat} {pp : Nat → Nat → Nat} {pm ph : Nat → Nat} {x y : Int} (hC : zCR M pl cp ch me ro ms hw v) (hpn : M 55 17 = pn) (hp6 : pn ≤ 6) (hpp : ∀ k, k < pn → M 67 (8 * k + 6) = pm k ∧ M 67 (8 * k + 7) = ph k ∧ pm k ≤ 3 ∧ ∀ p, p < pl → M 67 (8 * k + p) = pp k p ∧ pp k p ≤ 5) :
    zCi (d + 4) 167 [.inr (.inr 55), .inl x, .inl y] M (fun r M' => zsPast pl cp ch me ro pn pp pm ph x y r ∧ zfR M M') := by
  obtain ⟨h1, h2, h3, h4, h5, h6, h7⟩ := hC
  have hcp := h1.2.1
  have h61 := h1.1
  have key : ∀ (c w : Nat), c < cp → w < 2 → ∀ (m k : Nat) (M1 : zMem), k + m = pn → zfR M M1 → zBg (d + 4) 167 25 [zR 55, zI (c : Int), zI (w : Int), zI (zpst pl cp ch me ro pp pm ph c w k : Int), zI (k : Int), none] [] M1 (fun r M' => ∃ z : Int, r = some (.inl z) ∧ z = (zpst pl cp ch me ro pp pm ph c w pn : Int) ∧ zfR M M') := by
    intro c w hc hw2 m
    induction m with
    | zero =>
      intro k M1 hk f1
      have : k = pn := by omega
      subst this
      refine zv167_25 _ _ _ _ ⟨fun _ => ⟨_, rfl, rfl, f1⟩, fun h => absurd ?_ h⟩
      rw [f1.2 17 (by decide) (by decide) (by decide) (by decide), hpn]
      omega
    | succ m ih =>
      intro k M1 hk f1
      obtain ⟨p1, p2, p3, p4⟩ := hpp k (by omega)
      have hle := zpst_le (pl := pl) (cp := cp) (ch := ch) (me := me) (ro := ro) (pp := pp) (pm := pm) (ph := ph) (c := c) (what := w) k
      refine zv167_25 _ _ _ _ ⟨fun h => ?_, fun _ => ?_⟩
      · rw [f1.2 17 (by decide) (by decide) (by decide) (by decide), hpn] at h
        omega
      · rw [show (8 * (k : Int) + 6).toNat = 8 * k + 6 by omega, show (8 * (k : Int) + 7).toNat = 8 * k + 7 by omega, f1.1 67 (by decide) (by decide), p1, p2, show 8 * (k : Int) = ((8 * k : Nat) : Int) by omega]
        refine ⟨⟨by omega, by omega⟩, ⟨by omega, by omega⟩, ⟨by omega, by omega⟩, by omega, by omega, ⟨by omega, by omega⟩, ⟨by omega, by omega⟩, by omega, by omega, _, qc133 (n := 48) (v := pp k) h1 (h2.fr f1) p3 rfl (by omega) (by decide) (by decide) (fun p hp => by rw [f1.1 67 (by decide) (by decide)]; exact p4 p hp), ?_⟩
        rintro u M2 ⟨rfl, fr⟩
        have f2 := f1.tr fr
        have ih1 := ih (k + 1) M2 (by omega) f2
        simp only [zpst] at ih1
        obtain ⟨q1, q2, q3, q4, q5⟩ := zpk_ok (zF_92 (pl := pl) (ch := ch) (me := me) (ro := ro) (hw := ph k) (v := pp k) hcp p3) (zF_256 hcp)
        have hbit : (if w = 0 then zsur (zF pl cp ch me ro (pm k) (ph k) (pp k)) else zsome (zF pl cp ch me ro (pm k) (ph k) (pp k))).testBit c = (zpk (zF pl cp ch me ro (pm k) (ph k) (pp k))).testBit (c + 8 * w) := by
          by_cases hw0 : w = 0
          · rw [if_pos hw0, hw0, ← q2, show 256 = 2 ^ 8 by decide, Nat.testBit_mod_two_pow]
            simp [show c < 8 by omega]
          · rw [if_neg hw0, show w = 1 by omega, ← q3, show 256 = 2 ^ 8 by decide, Nat.testBit_mod_two_pow, Nat.testBit_div_two_pow]
            simp [show c < 8 by omega]
        rw [hbit] at ih1
        rw [show (c : Int) + 8 * (w : Int) = ((c + 8 * w : Nat) : Int) by omega, zb_bit (by omega) (by omega)]
        refine ⟨⟨by omega, by omega⟩, ⟨by omega, by omega⟩, by split <;> exact ⟨by omega, by omega⟩, ⟨by omega, by omega⟩, ?_⟩
        split
        · rename_i hb; rw [if_pos hb] at ih1; simpa using ih1
        · rename_i hb; rw [if_neg hb] at ih1; simpa using ih1
  refine zk167 (zv167_0 _ _ ⟨_, qc121 h2.2.1 hcp, ?_⟩)
  rintro v1 M1 ⟨hv1, rfl⟩
  refine ⟨fun hz => ?_, fun hz => ⟨_, qc110, ?_⟩⟩
  · have hx : ¬ zisC cp x := by rcases hv1 with ⟨h, _⟩ | ⟨_, h⟩ <;> first | exact h | omega
    exact ⟨_, rfl, Or.inl ⟨fun h => hx h.1, rfl⟩, zfR.rf⟩
  · have hx : zisC cp x := by rcases hv1 with ⟨_, h⟩ | ⟨h, _⟩ <;> first | exact h | exact absurd h hz
    rintro v2 M2 ⟨hv2, rfl⟩
    refine ⟨fun h => ?_, fun h => ⟨_, rfl, Or.inl ⟨fun h3 => ?_, rfl⟩, zfR.rf⟩⟩
    · have hy : y = 0 ∨ y = 1 := by omega
      obtain ⟨c, hc⟩ : ∃ c : Nat, x = (c : Int) := ⟨x.toNat, by have := hx.1; omega⟩
      obtain ⟨w, hw2⟩ : ∃ w : Nat, y = (w : Int) := ⟨y.toNat, by omega⟩
      subst hc hw2
      refine zBg.mono (key c w (by have := hx.2; omega) (by omega) pn 0 M2 (by omega) zfR.rf) ?_
      rintro r M' ⟨z, e1, e2, e3⟩
      exact ⟨z, e1, Or.inr ⟨⟨hx, hy⟩, by simpa using e2⟩, e3⟩
    · omega
