/-! a law broken or not: both sides' checks, holds, breach -/
def zbk (pl cp : Nat) (ch : Nat → Nat) (me : Nat → Int) (ro : Nat → Nat → Nat) (hw : Nat) (L : List Nat) (l : Nat) (S : Nat) : Bool := if l = 0 then (zbr0 (fun s => zfrm pl S ro (zcn cp ch me ro hw s) s) cp L).isSome else if l = 1 then (zbr1 (fun s => ztch pl S (zcn cp ch me ro hw) (zcn cp ch me ro hw s) s) L).isSome else (zfd (zG pl S (zcn cp ch me ro hw) L) (zwq (zn5 pl S) 6 0) 0).isSome
def zpC (pl cp : Nat) (ch : Nat → Nat) (me : Nat → Int) (ro : Nat → Nat → Nat) (hw : Nat) (L : List Nat) (l S : Nat) (r : Int) (M' : zMem) : Prop := (l = 0 → zans (zbr0 (fun s => zfrm pl S ro (zcn cp ch me ro hw s) s) cp L) r (M' 36 6) (M' 36 7)) ∧ (l = 1 → zans (zbr1 (fun s => ztch pl S (zcn cp ch me ro hw) (zcn cp ch me ro hw s) s) L) r (M' 36 6) (M' 36 7)) ∧ (l = 2 → zanN pl S 0 (zfd (zG pl S (zcn cp ch me ro hw) L) (zwq (zn5 pl S) 6 0) 0) r (M' 37))
theorem zpC_r {pl cp hw l S : Nat} {ch : Nat → Nat} {me : Nat → Int} {ro : Nat → Nat → Nat} {L : List Nat} {r : Int} {M' : zMem} (hl : l ≤ 2) (h : zpC pl cp ch me ro hw L l S r M') : r = if zbk pl cp ch me ro hw L l S then 1 else 0 := by
  obtain ⟨h0, h1, h2⟩ := h
  unfold zbk
  by_cases e0 : l = 0
  · rw [if_pos e0]
    have := h0 e0
    cases ho : zbr0 (fun s => zfrm pl S ro (zcn cp ch me ro hw s) s) cp L with
    | none => rw [ho] at this; exact this
    | some x => rw [ho] at this; exact this.1
  · rw [if_neg e0]
    by_cases e1 : l = 1
    · rw [if_pos e1]
      have := h1 e1
      cases ho : zbr1 (fun s => ztch pl S (zcn cp ch me ro hw) (zcn cp ch me ro hw s) s) L with
      | none => rw [ho] at this; exact this
      | some x => rw [ho] at this; exact this.1
    · rw [if_neg e1]
      have := h2 (by omega)
      cases ho : zfd (zG pl S (zcn cp ch me ro hw) L) (zwq (zn5 pl S) 6 0) 0 with
      | none => rw [ho] at this; exact this
      | some x => rw [ho] at this; exact this.1
/-- joins and marks as breaks leaves them -/
def zSt (M : zMem) (pl cp : Nat) (ch : Nat → Nat) (me : Nat → Int) (ro : Nat → Nat → Nat) (ms hw : Nat) (l : Nat) : Prop := zJn M pl cp ch me ro ms hw ∧ zLs M pl cp ch me ro hw (zSs cp ms) ∧ (l = 2 → zMk M (zcw pl cp ch me ro hw) (zSs cp ms))
theorem zSt.fr {M M' : zMem} {pl cp ms hw l : Nat} {ch : Nat → Nat} {me : Nat → Int} {ro : Nat → Nat → Nat} (h : zSt M pl cp ch me ro ms hw l) (hf : ∀ k, k ≠ 36 → k ≠ 37 → M' k = M k) : zSt M' pl cp ch me ro ms hw l := by
  obtain ⟨a, b, c⟩ := h
  refine ⟨zJn_of a (fun j _ _ => by rw [hf 42 (by decide) (by decide)]) (hf 43 (by decide) (by decide)), ?_, fun hl => ?_⟩
  · unfold zLs
    rw [hf 42 (by decide) (by decide), hf 44 (by decide) (by decide), hf 45 (by decide) (by decide), hf 46 (by decide) (by decide)]
    exact b
  · unfold zMk
    rw [hf 38 (by decide) (by decide), hf 39 (by decide) (by decide), hf 40 (by decide) (by decide), hf 41 (by decide) (by decide)]
    exact c hl
theorem zSs_ok {cp ms : Nat} (hcp : cp ≤ 8) (hms : ms ≤ 3) : (zSs cp ms).length ≤ 92 ∧ (∀ s, s ∈ zSs cp ms → s < 256) ∧ (∀ s, s ∈ zSs cp ms → 0 < s ∧ s < 256) ∧ ∀ s, s ∈ zSs cp ms → s < 2 ^ cp := by
  have h1 : ∀ s, s ∈ zSs cp ms → s < 256 := fun s hs => Nat.lt_of_lt_of_le (zSs_mem hs).2.1 (zb_p2le (b := 8) hcp)
  exact ⟨zSs_92 cp (by omega) ms (by omega), h1, fun s hs => ⟨(zSs_mem hs).1, h1 s hs⟩, fun s hs => (zSs_mem hs).2.1⟩
theorem qc16 {d : Nat} {M : zMem} {pl cp ms hw l S : Nat} {ch : Nat → Nat} {me : Nat → Int} {ro : Nat → Nat → Nat} (hF : zWF pl cp ch me ro) (hms : ms ≤ 3) (hl : l ≤ 2) (hS : S < 2 ^ pl) (hM : zSt M pl cp ch me ro ms hw l) :
    zCi (d + 8) 16 [.inr (.inr 36), .inl (l : Int), .inl (S : Int)] M (fun r M' => zpC pl cp ch me ro hw (zSs cp ms) l S r M' ∧ ∀ k, k ≠ 36 → k ≠ 37 → M' k = M k) := by
  obtain ⟨hJ, hL, hK⟩ := hM
  obtain ⟨h92, h256, h256p, hcp⟩ := zSs_ok hF.2.1 hms
  have h64 : S < 64 := Nat.lt_of_lt_of_le hS (zb_p2le (b := 6) hF.1)
  refine zk16 (zv16_0 _ _ ⟨fun h0 => ⟨fun h1 => ?_, fun h1 => ⟨_, qc17 h64, ?_⟩⟩, fun h0 => ⟨_, qc17 h64, ?_⟩⟩)
  · have hl2 : l = 2 := by omega
    rw [hL.1]
    refine ⟨_, qc18, ?_⟩
    rintro v1 M1 ⟨rfl, rfl⟩
    rw [hL.1]
    refine ⟨⟨by omega, by omega⟩, _, qc18, ?_⟩
    rintro v2 M2 ⟨rfl, rfl⟩
    have e1 : (((zSs cp ms).length : Int)).toNat = (zSs cp ms).length - 0 := by omega
    have e2 : (((zSs cp ms).length : Int) - 64).toNat = (zSs cp ms).length - 64 := by omega
    rw [e1, e2]
    have ht : ∀ s, s ∈ zSs cp ms → (fun _ : Nat => true) s = zsu pl S (zcn cp ch me ro hw) 0 0 s := by
      intro s _
      have : zsu pl S (zcn cp ch me ro hw) 0 0 s = true := zsu_iff.mpr (fun q hq => by omega)
      rw [this]
    have hq := qc26 (d := d) (hw := hw) hF h92 hcp hS 6 0 0 _ _ M2 rfl hJ.1 (hK hl2) (Nat.dvd_zero _) (zwr_congr (zwr_full (L := zSs cp ms) (off := 0)) ht) (zwr_congr (zwr_full (L := zSs cp ms) (off := 64)) ht)
    refine ⟨_, hq, ?_⟩
    rintro v3 M3 ⟨b1, b2, b3⟩
    refine ⟨?_, _, rfl, ⟨⟨fun e => by omega, fun e => by omega, fun _ => b1⟩, fun k _ hk => b2 k hk⟩⟩
    cases ho : zfd (zG pl S (zcn cp ch me ro hw) (zSs cp ms)) (zwq (zn5 pl S) 6 0) 0 with
    | none => rw [ho] at b1; exact Or.inl b1
    | some k => rw [ho] at b1; exact Or.inr b1.1
  · rintro v4 M4 ⟨rfl, rfl⟩
    refine ⟨_, qc21 hF hJ hL h92 h256 hS, ?_⟩
    rintro v5 M5 ⟨b1, b2⟩
    refine ⟨?_, _, rfl, ⟨⟨fun e => by omega, fun _ => b1, fun e => by omega⟩, fun k hk _ => b2 k hk⟩⟩
    cases ho : zbr1 (fun s => ztch pl S (zcn cp ch me ro hw) (zcn cp ch me ro hw s) s) (zSs cp ms) with
    | none => rw [ho] at b1; exact Or.inl b1
    | some k => rw [ho] at b1; exact Or.inr b1.1
  · rintro v4 M4 ⟨rfl, rfl⟩
    refine ⟨_, qc19 hF hJ hL h92 h256, ?_⟩
    rintro v5 M5 ⟨b1, b2⟩
    refine ⟨?_, _, rfl, ⟨⟨fun _ => b1, fun e => by omega, fun e => by omega⟩, fun k hk _ => b2 k hk⟩⟩
    cases ho : zbr0 (fun s => zfrm pl S ro (zcn cp ch me ro hw s) s) cp (zSs cp ms) with
    | none => rw [ho] at b1; exact Or.inl b1
    | some k => rw [ho] at b1; exact Or.inr b1.1
theorem qc36 {d : Nat} {M : zMem} {pl : Nat} (h : M 13 6 = pl) (h6 : pl ≤ 6) : zCi d 36 [.inr (.inr 13)] M (fun r M' => r = ((2 ^ pl - 1 : Nat) : Int) ∧ M' = M) := by
  refine zk36 (zv36_0 ?_)
  have h1 := zb_p2le (a := pl) (b := 6) h6
  have h2 := Nat.two_pow_pos pl
  rw [h, zb_shl1 (by omega)]
  exact ⟨⟨by omega, by omega⟩, _, rfl, by omega, rfl⟩
theorem qc109 {d : Nat} {M : zMem} {pl cp ms hw l : Nat} {ch : Nat → Nat} {me : Nat → Int} {ro : Nat → Nat → Nat} {v : Nat → Nat} (hC : zCC M pl cp ch me ro ms hw v) (hl : l ≤ 2) :
    zCi (d + 9) 109 [.inr (.inr 0), .inl (l : Int)] M (fun r M' => zpC pl cp ch me ro hw (zSs cp ms) l (2 ^ pl - 1) r M' ∧ zSt M' pl cp ch me ro ms hw l ∧ zfC M M') := by
  obtain ⟨h1, h2, h3, h4, h5, h6, h7⟩ := id hC
  obtain ⟨h92, h256, h256p, hcp⟩ := zSs_ok h1.2.1 h6
  have hS : 2 ^ pl - 1 < 2 ^ pl := by have := Nat.two_pow_pos pl; omega
  refine zk109 (zv109_0 _ ⟨_, qc107 hC, ?_⟩)
  rintro M1 ⟨a1, a2⟩
  refine ⟨_, qc10 h1 a1 h6, ?_⟩
  rintro M2 ⟨b1, b2, b3⟩
  have f2 : zfC M M2 := a2.tr (fun k _ _ h => b3 k (by omega))
  refine ⟨fun hn => ⟨_, qc36 (h2.fr f2).1 h1.1, ?_⟩, fun hn => ⟨_, qc24 (ms := ms) h1 b2 h92 h256, ?_⟩⟩
  · rintro v3 M3 ⟨rfl, rfl⟩
    have hst : zSt M3 pl cp ch me ro ms hw l := ⟨b1, b2, fun e => by omega⟩
    refine ⟨_, qc16 h1 h6 hl hS hst, ?_⟩
    rintro v4 M4 ⟨c1, c2⟩
    have hr := zpC_r hl c1
    exact ⟨by rw [hr]; split <;> simp, _, rfl, c1, hst.fr c2, f2.tr (fun k _ _ h => c2 k (by omega) (by omega))⟩
  · rintro M5 ⟨e1, e2⟩
    have f5 : zfC M M5 := f2.tr (fun k _ _ h => e2 k (by omega))
    refine ⟨_, qc36 (h2.fr f5).1 h1.1, ?_⟩
    rintro v6 M6 ⟨rfl, rfl⟩
    have hst : zSt M6 pl cp ch me ro ms hw l := by
      refine ⟨zJn_of b1 (fun j _ _ => by rw [e2 42 (by decide)]) (e2 43 (by decide)), ?_, fun _ => e1⟩
      unfold zLs
      rw [e2 42 (by decide), e2 44 (by decide), e2 45 (by decide), e2 46 (by decide)]
      exact b2
    refine ⟨_, qc16 h1 h6 hl hS hst, ?_⟩
    rintro v7 M7 ⟨c1, c2⟩
    have hr := zpC_r hl c1
    exact ⟨by rw [hr]; split <;> simp, _, rfl, c1, hst.fr c2, f5.tr (fun k _ _ h => c2 k (by omega) (by omega))⟩
/-! the reference -/
def zpR (pl cp : Nat) (ch : Nat → Nat) (me : Nat → Int) (ro : Nat → Nat → Nat) (hw : Nat) (L : List Nat) (l S : Nat) (r : Int) (M' : zMem) : Prop := (l = 0 → zansR (zbr0 (fun s => zfrm pl S ro (zcn cp ch me ro hw s) s) cp L) r (M' 55 24) (M' 55 25)) ∧ (l = 1 → zansR (zbr1 (fun s => ztch pl S (zcn cp ch me ro hw) (zcn cp ch me ro hw s) s) L) r (M' 55 24) (M' 55 25)) ∧ (l = 2 → zanM pl S (zfd (zG pl S (zcn cp ch me ro hw) L) (zwq (zn5 pl S) 6 0) 0) r (M' 70))
theorem zpR_r {pl cp hw l S : Nat} {ch : Nat → Nat} {me : Nat → Int} {ro : Nat → Nat → Nat} {L : List Nat} {r : Int} {M' : zMem} (hl : l ≤ 2) (h : zpR pl cp ch me ro hw L l S r M') : r = if zbk pl cp ch me ro hw L l S then 0 else 1 := by
  obtain ⟨h0, h1, h2⟩ := h
  unfold zbk
  by_cases e0 : l = 0
  · rw [if_pos e0]
    have := h0 e0
    cases ho : zbr0 (fun s => zfrm pl S ro (zcn cp ch me ro hw s) s) cp L with
    | none => rw [ho] at this; exact this
    | some x => rw [ho] at this; exact this.1
  · rw [if_neg e0]
    by_cases e1 : l = 1
    · rw [if_pos e1]
      have := h1 e1
      cases ho : zbr1 (fun s => ztch pl S (zcn cp ch me ro hw) (zcn cp ch me ro hw s) s) L with
      | none => rw [ho] at this; exact this
      | some x => rw [ho] at this; exact this.1
    · rw [if_neg e1]
      have := h2 (by omega)
      cases ho : zfd (zG pl S (zcn cp ch me ro hw) L) (zwq (zn5 pl S) 6 0) 0 with
      | none => rw [ho] at this; exact this
      | some x => rw [ho] at this; exact this.1
theorem qc150 {d : Nat} {M : zMem} {pl cp ms hw l S : Nat} {ch : Nat → Nat} {me : Nat → Int} {ro : Nat → Nat → Nat} {v : Nat → Nat} (hC : zCR M pl cp ch me ro ms hw v) (hl : l ≤ 2) (hS : S < 64) :
    zCi (d + 3) 150 [.inr (.inr 55), .inl (l : Int), .inl (S : Int)] M (fun r M' => zpR pl cp ch me ro hw (zSs cp ms) l S r M' ∧ zfR M M') := by
  obtain ⟨h1, h2, h3, h4, h5, h6, h7⟩ := id hC
  obtain ⟨h92, h256, h256p, hcp⟩ := zSs_ok h1.2.1 h6
  refine zk150 (zv150_0 _ _ ⟨_, qc145 hC, ?_⟩)
  rintro M1 ⟨a1, a2⟩
  have hR1 := h2.fr a2.fR
  refine ⟨fun h0 => ⟨fun h9 => ⟨_, qc148 h1 hR1.1 a1 h92 h256 hS, ?_⟩, fun h9 => ⟨_, qc147 h1 hR1 a1 h92 h256p hS, ?_⟩⟩, fun h0 => ⟨_, qc146 h1 hR1 a1 h92 h256 hS, ?_⟩⟩
  · rintro v2 M2 ⟨b1, b2⟩
    have hp : zpR pl cp ch me ro hw (zSs cp ms) l S v2 M2 := ⟨fun e => by omega, fun e => by omega, fun _ => b1⟩
    have hr := zpR_r hl hp
    exact ⟨by rw [hr]; split <;> simp, _, rfl, hp, a2.fR.tr ⟨fun k x y => b2.1 k x (by omega), fun j _ _ _ x => b2.2 j x⟩⟩
  · rintro v2 M2 ⟨b1, b2⟩
    have hp : zpR pl cp ch me ro hw (zSs cp ms) l S v2 M2 := ⟨fun e => by omega, fun _ => b1, fun e => by omega⟩
    have hr := zpR_r hl hp
    exact ⟨by rw [hr]; split <;> simp, _, rfl, hp, a2.fR.tr ⟨fun k x y => b2.1 k x, fun j _ x y _ => b2.2 j x y⟩⟩
  · rintro v2 M2 ⟨b1, b2⟩
    have hp : zpR pl cp ch me ro hw (zSs cp ms) l S v2 M2 := ⟨fun _ => b1, fun e => by omega, fun e => by omega⟩
    have hr := zpR_r hl hp
    exact ⟨by rw [hr]; split <;> simp, _, rfl, hp, a2.fR.tr ⟨fun k x y => b2.1 k x, fun j _ x y _ => b2.2 j x y⟩⟩
/-! 63 stands for all places -/
theorem z63 {pl q : Nat} (h6 : pl ≤ 6) (hq : q < pl) : Nat.testBit 63 q = true ∧ (2 ^ pl - 1).testBit q = true := by
  have h : Nat.testBit 63 q = decide (q < 6) := Nat.testBit_two_pow_sub_one 6 q
  rw [h, Nat.testBit_two_pow_sub_one]
  exact ⟨decide_eq_true (by omega), decide_eq_true hq⟩
theorem zS_cg {pl S S' cp hw : Nat} {ch : Nat → Nat} {me : Nat → Int} {ro : Nat → Nat → Nat} {L : List Nat} (h : ∀ q, q < pl → S.testBit q = S'.testBit q) : (fun s => zfrm pl S ro (zcn cp ch me ro hw s) s) = (fun s => zfrm pl S' ro (zcn cp ch me ro hw s) s) ∧ (fun s => ztch pl S (zcn cp ch me ro hw) (zcn cp ch me ro hw s) s) = (fun s => ztch pl S' (zcn cp ch me ro hw) (zcn cp ch me ro hw s) s) ∧ zn5 pl S = zn5 pl S' ∧ zG pl S (zcn cp ch me ro hw) L = zG pl S' (zcn cp ch me ro hw) L := by
  have h1 : ∀ g r, zfts pl S g r = zfts pl S' g r := by
    intro g r
    rw [Bool.eq_iff_iff, zfts_iff, zfts_iff]
    exact ⟨fun a p hp hs => a p hp (by rw [h p hp]; exact hs), fun a p hp hs => a p hp (by rw [← h p hp]; exact hs)⟩
  have h2 : ∀ g, zme2 pl S g = zme2 pl S' g := by
    intro g
    rw [Bool.eq_iff_iff, zme2_iff, zme2_iff]
    exact ⟨fun a p hp hs => a p hp (by rw [h p hp]; exact hs), fun a p hp hs => a p hp (by rw [← h p hp]; exact hs)⟩
  have h3 : zn5 pl S = zn5 pl S' := by
    funext q
    unfold zn5
    by_cases hq : q < pl
    · rw [h q hq]
    · rw [if_neg (fun e => hq e.1), if_neg (fun e => hq e.1)]
  refine ⟨?_, ?_, h3, ?_⟩
  · funext s c
    unfold zfrm
    rw [h1]
  · funext s t
    unfold ztch
    rw [h2]
  · funext k
    unfold zG
    have : zsu pl S (zcn cp ch me ro hw) 6 k = zsu pl S' (zcn cp ch me ro hw) 6 k := by
      funext s
      rw [Bool.eq_iff_iff, zsu_iff, zsu_iff, h3]
      exact ⟨fun a q hq hp hs => a q hq hp (by rw [h q hp]; exact hs), fun a q hq hp hs => a q hq hp (by rw [← h q hp]; exact hs)⟩
    rw [this]
theorem zbk_63 {pl cp hw l : Nat} {ch : Nat → Nat} {me : Nat → Int} {ro : Nat → Nat → Nat} {L : List Nat} (h6 : pl ≤ 6) : zbk pl cp ch me ro hw L l 63 = zbk pl cp ch me ro hw L l (2 ^ pl - 1) := by
  obtain ⟨a, b, c, e⟩ := zS_cg (cp := cp) (hw := hw) (ch := ch) (me := me) (ro := ro) (L := L) (S := 63) (S' := 2 ^ pl - 1) (pl := pl) (fun q hq => by rw [(z63 h6 hq).1, (z63 h6 hq).2])
  unfold zbk
  rw [a, b, c, e]
def zsHolds (pl cp : Nat) (ch : Nat → Nat) (me : Nat → Int) (ro : Nat → Nat → Nat) (ms hw : Nat) (x r : Int) : Prop := r = if 0 ≤ x ∧ x ≤ 2 then (if zbk pl cp ch me ro hw (zSs cp ms) x.toNat (2 ^ pl - 1) then 0 else 1) else -1
theorem qc89 {d : Nat} {M : zMem} {pl cp ms hw : Nat} {ch : Nat → Nat} {me : Nat → Int} {ro : Nat → Nat → Nat} {v : Nat → Nat} {x : Int} (hC : zCC M pl cp ch me ro ms hw v) :
    zCi (d + 10) 89 [.inr (.inr 0), .inl x] M (fun r M' => zsHolds pl cp ch me ro ms hw x r ∧ zfC M M') := by
  unfold zsHolds
  refine zk89 (zv89_0 _ ⟨fun h => ⟨_, rfl, by rw [if_neg (by omega)], zfC.rf⟩, fun h => ⟨fun h2 => ?_, fun h2 => ⟨_, rfl, by rw [if_neg (by omega)], zfC.rf⟩⟩⟩)
  obtain ⟨l, rfl⟩ : ∃ l : Nat, x = (l : Int) := ⟨x.toNat, by omega⟩
  refine ⟨_, qc109 (l := l) hC (by omega), ?_⟩
  rintro w M1 ⟨a1, a2, a3⟩
  have hr := zpC_r (by omega) a1
  rw [if_pos (by omega), Int.toNat_natCast]
  refine ⟨fun hw0 => ⟨_, rfl, ?_, a3⟩, fun hw0 => ⟨_, rfl, ?_, a3⟩⟩
  · rw [if_neg (by intro e; rw [if_pos e] at hr; omega)]
  · rw [if_pos (by cases e : zbk pl cp ch me ro hw (zSs cp ms) l (2 ^ pl - 1) with
      | true => rfl
      | false => rw [e] at hr; exact absurd hr hw0)]
theorem qc151 {d : Nat} {M : zMem} {pl cp ms hw : Nat} {ch : Nat → Nat} {me : Nat → Int} {ro : Nat → Nat → Nat} {v : Nat → Nat} {x : Int} (hC : zCR M pl cp ch me ro ms hw v) :
    zCi (d + 4) 151 [.inr (.inr 55), .inl x] M (fun r M' => zsHolds pl cp ch me ro ms hw x r ∧ zfR M M') := by
  unfold zsHolds
  refine zk151 (zv151_0 _ ⟨_, qc110, ?_⟩)
  rintro w M1 ⟨hw1, rfl⟩
  refine ⟨fun h => ⟨_, rfl, by rw [if_neg (by omega)], zfR.rf⟩, fun h => ?_⟩
  obtain ⟨l, rfl⟩ : ∃ l : Nat, x = (l : Int) := ⟨x.toNat, by omega⟩
  refine ⟨_, qc150 (l := l) (S := 63) hC (by omega) (by decide), ?_⟩
  rintro w2 M2 ⟨a1, a2⟩
  have hr := zpR_r (by omega) a1
  rw [zbk_63 hC.1.1] at hr
  rw [if_pos (by omega), Int.toNat_natCast]
  refine ⟨fun hw0 => ⟨_, rfl, ?_, a2⟩, fun hw0 => ⟨_, rfl, ?_, a2⟩⟩
  · rw [if_pos (by cases e : zbk pl cp ch me ro hw (zSs cp ms) l (2 ^ pl - 1) with
      | true => rfl
      | false => rw [e] at hr; simp at hr; omega)]
  · rw [if_neg (by intro e; rw [if_pos e] at hr; omega)]
