/-! the coupling of both memories -/
def zOK (sz pl cp ms hw pn : Nat) (t ch st en co v pm ph : Nat → Nat) (ro pp : Nat → Nat → Nat) (me : Nat → Int) : Prop := zWF pl cp ch me ro ∧ 1 ≤ ms ∧ ms ≤ 3 ∧ hw ≤ 2 ∧ pn ≤ 6 ∧ (∀ i, i < 24 → co i ≤ 9) ∧ (∀ p, p < pl → v p ≤ 5) ∧ (∀ k, k < pn → pm k ≤ 3 ∧ ∀ p, p < pl → pp k p ≤ 5) ∧ (sz ≠ 0 → zWL t sz pl ch st en) ∧ (sz = 0 → pl = 0 ∧ cp = 0 ∧ pn = 0)
/-- the class's cells say so (C reads them) -/
def zQC (C : Nat → Nat → Int) (sz pl cp ms hw pn : Nat) (t ch st en co v pm ph : Nat → Nat) (ro pp : Nat → Nat → Nat) (me : Nat → Int) : Prop := C 13 4 = (if sz = 0 then 0 else 1) ∧ zlC C t sz pl ch st en ∧ zRC C pl cp ch me ro ∧ C 4 10 = pn ∧ C 4 11 = ms ∧ C 4 12 = hw ∧ (∀ i, i < 24 → C 5 i = co i) ∧ (∀ p, p < pl → C 8 p = v p) ∧ ∀ k, k < pn → C 10 k = pm k ∧ C 11 k = ph k ∧ ∀ p, p < pl → C 9 (6 * k + p) = pp k p
/-- the reference's cells say so (R reads them) -/
def zQR (R : Nat → Nat → Int) (sz pl cp ms hw pn : Nat) (t ch st en co v pm ph : Nat → Nat) (ro pp : Nat → Nat → Nat) (me : Nat → Int) : Prop := zlR R t sz pl ch st en ∧ zRR R pl cp ch me ro ∧ R 55 17 = pn ∧ R 55 14 = ms ∧ R 55 15 = hw ∧ (∀ i, i < 24 → R 63 i = co i) ∧ (∀ p, p < pl → R 66 p = v p) ∧ ∀ k, k < pn → R 67 (8 * k + 6) = pm k ∧ R 67 (8 * k + 7) = ph k ∧ ∀ p, p < pl → R 67 (8 * k + p) = pp k p
/-- where an entry lies in the reference's image -/
def zimo (k i : Nat) : Nat := if k = 55 then (if i = 2 then 318 else if i = 4 then 319 else if i = 12 then 320 else if i = 14 then 321 else if i = 15 then 322 else 323) else if k = 57 then i else if k = 58 then 120 + i else if k = 59 then 126 + i else if k = 60 then 132 + i else if k = 61 then 138 + i else if k = 62 then 162 + i else if k = 63 then 186 + i else if k = 64 then 210 + i else if k = 65 then 216 + i else if k = 66 then 264 + i else 270 + i
def zCur (M : zMem) : Prop := ∃ sz pl cp ms hw pn t ch st en co v pm ph ro pp me, zOK sz pl cp ms hw pn t ch st en co v pm ph ro pp me ∧ zQC M sz pl cp ms hw pn t ch st en co v pm ph ro pp me ∧ zQR M sz pl cp ms hw pn t ch st en co v pm ph ro pp me
def zKep (M : zMem) : Prop := M 0 10 = M 55 31 ∧ (M 27 4 = 0 ∨ M 27 4 = 1) ∧ (M 0 10 ≠ 0 → ∃ sz pl cp ms hw pn t ch st en co v pm ph ro pp me, zOK sz pl cp ms hw pn t ch st en co v pm ph ro pp me ∧ zQC (fun k i => M (k + 14) i) sz pl cp ms hw pn t ch st en co v pm ph ro pp me ∧ zQR (fun k i => M 75 (zimo k i)) sz pl cp ms hw pn t ch st en co v pm ph ro pp me)
def zTap (M : zMem) : Prop := ∃ (tn : Nat) (w : Nat → Nat), tn ≤ 120 ∧ M 2 1 = tn ∧ M 55 1 = tn ∧ ∀ i, i < tn → M 3 i = w i ∧ M 56 i = w i
def zShs (M : zMem) : Prop := zShOk (M 33) (M 34) ∧ (∀ s, s < 4 → M 76 s = M 33 s ∧ M 77 s = M 34 s) ∧ ∀ i, i < 48 → M 78 i = M 35 i
def zInv (M : zMem) : Prop := zCur M ∧ zKep M ∧ zTap M ∧ zShs M
theorem zQC_C {M : zMem} {sz pl cp ms hw pn : Nat} {t ch st en co v pm ph : Nat → Nat} {ro pp : Nat → Nat → Nat} {me : Nat → Int} (hO : zOK sz pl cp ms hw pn t ch st en co v pm ph ro pp me) (hC : zQC M sz pl cp ms hw pn t ch st en co v pm ph ro pp me) : zCC M pl cp ch me ro ms hw v := ⟨hO.1, hC.2.2.1, hC.2.2.2.2.1, hC.2.2.2.2.2.1, hO.2.1, hO.2.2.1, fun p hp => ⟨hC.2.2.2.2.2.2.2.1 p hp, hO.2.2.2.2.2.2.1 p hp⟩⟩
theorem zQR_C {M : zMem} {sz pl cp ms hw pn : Nat} {t ch st en co v pm ph : Nat → Nat} {ro pp : Nat → Nat → Nat} {me : Nat → Int} (hO : zOK sz pl cp ms hw pn t ch st en co v pm ph ro pp me) (hR : zQR M sz pl cp ms hw pn t ch st en co v pm ph ro pp me) : zCR M pl cp ch me ro ms hw v := ⟨hO.1, hR.2.1, hR.2.2.2.1, hR.2.2.2.2.1, hO.2.1, hO.2.2.1, fun p hp => ⟨hR.2.2.2.2.2.2.1 p hp, hO.2.2.2.2.2.2.1 p hp⟩⟩
theorem zQC_fr {C C' : Nat → Nat → Int} {sz pl cp ms hw pn : Nat} {t ch st en co v pm ph : Nat → Nat} {ro pp : Nat → Nat → Nat} {me : Nat → Int} (h : zQC C sz pl cp ms hw pn t ch st en co v pm ph ro pp me) (hf : ∀ k, 4 ≤ k → k ≤ 17 → k ≠ 12 → C' k = C k) : zQC C' sz pl cp ms hw pn t ch st en co v pm ph ro pp me := by
  unfold zQC zlC zRC at *
  rw [hf 4 (by decide) (by decide) (by decide), hf 5 (by decide) (by decide) (by decide), hf 6 (by decide) (by decide) (by decide), hf 7 (by decide) (by decide) (by decide), hf 8 (by decide) (by decide) (by decide), hf 9 (by decide) (by decide) (by decide), hf 10 (by decide) (by decide) (by decide), hf 11 (by decide) (by decide) (by decide), hf 13 (by decide) (by decide) (by decide), hf 14 (by decide) (by decide) (by decide), hf 15 (by decide) (by decide) (by decide), hf 16 (by decide) (by decide) (by decide), hf 17 (by decide) (by decide) (by decide)]
  exact h
theorem zQR_fr {R R' : Nat → Nat → Int} {sz pl cp ms hw pn : Nat} {t ch st en co v pm ph : Nat → Nat} {ro pp : Nat → Nat → Nat} {me : Nat → Int} (h : zQR R sz pl cp ms hw pn t ch st en co v pm ph ro pp me) (h55 : ∀ j, j = 2 ∨ j = 4 ∨ j = 12 ∨ j = 14 ∨ j = 15 ∨ j = 17 → R' 55 j = R 55 j) (hf : ∀ k, 57 ≤ k → k ≤ 67 → R' k = R k) : zQR R' sz pl cp ms hw pn t ch st en co v pm ph ro pp me := by
  unfold zQR zlR zRR at *
  rw [hf 57 (by decide) (by decide), hf 59 (by decide) (by decide), hf 60 (by decide) (by decide), hf 61 (by decide) (by decide), hf 62 (by decide) (by decide), hf 63 (by decide) (by decide), hf 64 (by decide) (by decide), hf 65 (by decide) (by decide), hf 66 (by decide) (by decide), hf 67 (by decide) (by decide), h55 2 (by decide), h55 4 (by decide), h55 12 (by decide), h55 14 (by decide), h55 15 (by decide), h55 17 (by decide)]
  exact h
theorem zKep_fr {M M' : zMem} (h : zKep M) (h0 : M' 0 10 = M 0 10) (h31 : M' 55 31 = M 55 31) (hf : ∀ k, 18 ≤ k → k ≤ 31 → k ≠ 26 → M' k = M k) (h75 : M' 75 = M 75) : zKep M' := by
  obtain ⟨a, b, c⟩ := h
  unfold zKep
  rw [h0, h31, hf 27 (by decide) (by decide) (by decide), h75]
  refine ⟨a, b, fun g => ?_⟩
  obtain ⟨sz, pl, cp, ms, hw, pn, t, ch, st, en, co, v, pm, ph, ro, pp, me, c1, c2, c3⟩ := c g
  exact ⟨sz, pl, cp, ms, hw, pn, t, ch, st, en, co, v, pm, ph, ro, pp, me, c1, zQC_fr c2 (fun k k1 k2 k3 => by funext i; rw [hf (k + 14) (by omega) (by omega) (by omega)]), c3⟩
theorem zTap_fr {M M' : zMem} (h : zTap M) (h2 : M' 2 1 = M 2 1) (h3 : M' 3 = M 3) (h55 : M' 55 1 = M 55 1) (h56 : M' 56 = M 56) : zTap M' := by
  unfold zTap
  rw [h2, h3, h55, h56]
  exact h
theorem zShs_fr {M M' : zMem} (h : zShs M) (hf : ∀ k, (33 ≤ k ∧ k ≤ 35) ∨ (76 ≤ k ∧ k ≤ 78) → M' k = M k) : zShs M' := by
  unfold zShs
  rw [hf 33 (by decide), hf 34 (by decide), hf 35 (by decide), hf 76 (by decide), hf 77 (by decide), hf 78 (by decide)]
  exact h
theorem zCur_fr {M M' : zMem} (h : zCur M) (hc : ∀ k, 4 ≤ k → k ≤ 17 → k ≠ 12 → M' k = M k) (h55 : ∀ j, j = 2 ∨ j = 4 ∨ j = 12 ∨ j = 14 ∨ j = 15 ∨ j = 17 → M' 55 j = M 55 j) (hr : ∀ k, 57 ≤ k → k ≤ 67 → M' k = M k) : zCur M' := by
  obtain ⟨sz, pl, cp, ms, hw, pn, t, ch, st, en, co, v, pm, ph, ro, pp, me, c1, c2, c3⟩ := h
  exact ⟨sz, pl, cp, ms, hw, pn, t, ch, st, en, co, v, pm, ph, ro, pp, me, c1, zQC_fr c2 hc, zQR_fr c3 h55 hr⟩
theorem zInv_fC {M M' : zMem} (h : zInv M) (hf : zfC M M') : zInv M' :=
  ⟨zCur_fr h.1 (fun k k1 k2 k3 => hf k (by omega) k3 (by omega)) (fun j _ => by rw [hf 55 (by decide) (by decide) (by decide)]) (fun k k1 k2 => hf k (by omega) (by omega) (by omega)),
   zKep_fr h.2.1 (by rw [hf 0 (by decide) (by decide) (by decide)]) (by rw [hf 55 (by decide) (by decide) (by decide)]) (fun k k1 k2 _ => hf k (by omega) (by omega) (by omega)) (hf 75 (by decide) (by decide) (by decide)),
   zTap_fr h.2.2.1 (by rw [hf 2 (by decide) (by decide) (by decide)]) (hf 3 (by decide) (by decide) (by decide)) (by rw [hf 55 (by decide) (by decide) (by decide)]) (hf 56 (by decide) (by decide) (by decide)),
   zShs_fr h.2.2.2 (fun k hk => hf k (by omega) (by omega) (by omega))⟩
theorem zInv_fR {M M' : zMem} (h : zInv M) (hf : zfR M M') : zInv M' :=
  ⟨zCur_fr h.1 (fun k k1 k2 k3 => hf.1 k (by omega) (by omega)) (fun j hj => hf.2 j (by omega) (by omega) (by omega) (by omega)) (fun k k1 k2 => hf.1 k (by omega) (by omega)),
   zKep_fr h.2.1 (by rw [hf.1 0 (by decide) (by decide)]) (hf.2 31 (by decide) (by decide) (by decide) (by decide)) (fun k k1 k2 _ => hf.1 k (by omega) (by omega)) (hf.1 75 (by decide) (by decide)),
   zTap_fr h.2.2.1 (by rw [hf.1 2 (by decide) (by decide)]) (hf.1 3 (by decide) (by decide)) (hf.2 1 (by decide) (by decide) (by decide) (by decide)) (hf.1 56 (by decide) (by decide)),
   zShs_fr h.2.2.2 (fun k hk => hf.1 k (by omega) (by omega))⟩
