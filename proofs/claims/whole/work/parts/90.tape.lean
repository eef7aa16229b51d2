/-! steps: type -/
theorem zcse_tp {mc mm : Nat} {av : List zV} (h : ∀ M, (∀ v ∈ av, zrg v) → zTap M → ∃ P : Int → zMem → Prop, zCi 20 mc (.inr (.inr 0) :: av) M P ∧ ∀ r M1, P r M1 → (∀ k, k ≠ 2 → k ≠ 3 → M1 k = M k) ∧ zCi 20 mm (.inr (.inr 55) :: av) M1 (fun r' M2 => r' = r ∧ (∀ k, k ≠ 55 → k ≠ 56 → M2 k = M1 k) ∧ (∀ j, j ≠ 1 → M2 55 j = M1 55 j) ∧ zTap M2)) : zcse zInv mc mm av := by
  intro M hM hav hI
  obtain ⟨P, h1, h2⟩ := h M hav hI.2.2.1
  refine zCt.mono h1 ?_
  rintro q M1 ⟨r, rfl, hp⟩
  obtain ⟨hg, h3⟩ := h2 r M1 hp
  refine ⟨r, rfl, fun _ => zCt.mono h3 ?_⟩
  rintro q M2 ⟨r', rfl, hr, hf, hj, hT⟩
  have e : ∀ k, k ≠ 2 → k ≠ 3 → k ≠ 55 → k ≠ 56 → M2 k = M k := fun k k1 k2 k3 k4 => by rw [hf k k3 k4, hg k k1 k2]
  have e55 : ∀ j, j ≠ 1 → M2 55 j = M 55 j := fun j h => by rw [hj j h, hg 55 (by decide) (by decide)]
  exact ⟨r', rfl, hr, zCur_fr hI.1 (fun k k1 k2 _ => e k (by omega) (by omega) (by omega) (by omega)) (fun j hj => e55 j (by omega)) (fun k k1 k2 => e k (by omega) (by omega) (by omega) (by omega)), zKep_fr hI.2.1 (by rw [e 0 (by decide) (by decide) (by decide) (by decide)]) (e55 31 (by decide)) (fun k k1 k2 _ => e k (by omega) (by omega) (by omega) (by omega)) (e 75 (by decide) (by decide) (by decide) (by decide)), hT, zShs_fr hI.2.2.2 (fun k hk => e k (by omega) (by omega) (by omega) (by omega))⟩
theorem zt71 {x y : Int} : zcse zInv 71 111 [.inr (.inl x), .inl y] := zcse_tp (fun M hav hT => by
  obtain ⟨tn, w, t1, t2, t3, t4⟩ := id hT
  refine ⟨_, qc71 t2 t1, ?_⟩
  have hx : zR64 x := hav (.inr (.inl x)) List.mem_cons_self
  rintro r M1 hs
  have fr : ∀ k, k ≠ 2 → k ≠ 3 → M1 k = M k := by
    intro k k1 k2
    rcases hs with ⟨_, _, rfl⟩ | ⟨_, _, _, rfl⟩ | ⟨_, _, _, _, _, _, _, e⟩
    · rfl
    · rfl
    · exact e k k1 k2
  refine ⟨fr, zCt.mono (qc111 hx (tn := tn) (by rw [fr 55 (by decide) (by decide)]; exact t3) t1) ?_⟩
  rintro q M2 ⟨r', rfl, hs'⟩
  rcases hs with ⟨g, rfl, rfl⟩ | ⟨g, g2, rfl, rfl⟩ | ⟨g, g2, rfl, e1, e2, e3, e4, e5⟩
  · rcases hs' with ⟨_, rfl, rfl⟩ | ⟨g', _⟩ | ⟨g', _⟩
    · exact ⟨_, rfl, rfl, fun _ _ _ => rfl, fun _ _ => rfl, hT⟩
    · exact absurd g' g
    · exact absurd g' g
  · rcases hs' with ⟨g', _⟩ | ⟨_, _, rfl, rfl⟩ | ⟨_, g3, _⟩
    · exact absurd g g'
    · exact ⟨_, rfl, rfl, fun _ _ _ => rfl, fun _ _ => rfl, hT⟩
    · omega
  · rcases hs' with ⟨g', _⟩ | ⟨_, g3, _⟩ | ⟨_, _, rfl, f1, f2, f3, f4, f5⟩
    · exact absurd g g'
    · omega
    · refine ⟨_, rfl, rfl, f5, f4, tn + y.toNat, fun i => if i < tn then w i else zby x (y.toNat - 1 - (i - tn)), ?_, ?_, ?_, fun i hi => ?_⟩
      · omega
      · rw [f5 2 (by decide) (by decide), e3]; have := g.1; omega
      · rw [f3]; have := g.1; omega
      · rw [f5 3 (by decide) (by decide)]
        by_cases c : i < tn
        · simp only [if_pos c]
          rw [e1 i c, f1 i c, fr 56 (by decide) (by decide)]
          exact t4 i c
        · simp only [if_neg c]
          obtain ⟨j, rfl⟩ : ∃ j, i = tn + j := ⟨i - tn, by omega⟩
          rw [e2 j (by omega), f2 j (by omega), show tn + j - tn = j by omega]
          exact ⟨rfl, rfl⟩)
/-! steps: printed -/
theorem zsPr_u {pl K : Nat} {ch : Nat → Nat} {T : Nat → List Nat} {W : List Nat} {P P' Q Q' : Nat → Int} {r r' : Int} {v : Nat → Nat} (h : zsPr pl K ch T W P P' r) (h' : zsPr pl K ch T W Q Q' r') (hP : ∀ p, p < pl → P p = v p) (hQ : ∀ p, p < pl → Q p = v p) (hv : ∀ p, p < pl → v p ≤ 5) (hch : ∀ p, p < pl → ch p ≤ 4) : r' = r ∧ ∃ v' : Nat → Nat, (∀ p, p < pl → P' p = v' p) ∧ (∀ p, p < pl → Q' p = v' p) ∧ ∀ p, p < pl → v' p ≤ 5 := by
  rcases h with ⟨g, rfl, rfl⟩ | ⟨k, g1, g2, g3, rfl, g4, _⟩
  · rcases h' with ⟨_, rfl, rfl⟩ | ⟨k', f1, f2, _⟩
    · exact ⟨rfl, v, hP, hQ, hv⟩
    · exact absurd f2 (g k' f1)
  · rcases h' with ⟨f, _⟩ | ⟨k', f1, f2, f3, rfl, f4, _⟩
    · exact absurd g2 (f k g1)
    · have e : k' = k := by
        rcases Nat.lt_trichotomy k' k with h | h | h
        · exact absurd f2 (g3 k' h)
        · exact h
        · exact absurd g2 (f3 k h)
      subst e
      refine ⟨rfl, zvl pl ch k', g4, f4, fun p hp => ?_⟩
      have := hch p hp
      rcases zvl_ok (pl := pl) (ch := ch) (k := k') (p := p) with h | h <;> omega
theorem zt84 : zcse zInv 84 138 [] := by
  intro M hM hav hI
  obtain ⟨sz, pl, cp, ms, hw, pn, t, ch, st, en, co, v, pm, ph, ro, pp, me, hO, hC, hR⟩ := hI.1
  obtain ⟨tn, w, t1, t2, t3, t4⟩ := hI.2.2.1
  have hwl : sz ≠ 0 → zWL t sz pl ch st en := hO.2.2.2.2.2.2.2.2.1
  refine zCt.mono (qc84 (t := t) (w := w) (n := sz) (pl := pl) (ch := ch) (st := st) (en := en) hC.1 t2 t1 (fun i hi => (t4 i hi).1) (fun h => ⟨hwl h, hC.2.1⟩)) ?_
  rintro q M1 ⟨r, rfl, hs, e1, e2, e3⟩
  have hR1 : zQR M1 sz pl cp ms hw pn t ch st en co v pm ph ro pp me := zQR_fr hR (fun j _ => by rw [e3 55 (by decide) (by decide) (by decide)]) (fun k k1 k2 => e3 k (by omega) (by omega) (by omega))
  refine ⟨r, rfl, fun _ => zCt.mono (qc138 (t := t) (w := w) (n := sz) (pl := pl) (ch := ch) (st := st) (en := en) hR1.1.1 (by rw [e3 55 (by decide) (by decide) (by decide)]; exact t3) t1 (fun i hi => by rw [e3 56 (by decide) (by decide) (by decide)]; exact (t4 i hi).2) (fun h => ⟨hwl h, hR1.1⟩)) ?_⟩
  rintro q M2 ⟨r', rfl, hs', f1, f2, f3⟩
  have key : r' = r ∧ ∃ v' : Nat → Nat, (∀ p, p < pl → M1 8 p = v' p) ∧ (∀ p, p < pl → M2 66 p = v' p) ∧ ∀ p, p < pl → v' p ≤ 5 := by
    rcases hs with ⟨a, rfl, b⟩ | ⟨a, b⟩
    · rcases hs' with ⟨_, rfl, c⟩ | ⟨c, _⟩
      · refine ⟨rfl, v, ?_, ?_, hO.2.2.2.2.2.2.1⟩
        · rw [b]; exact hC.2.2.2.2.2.2.2.1
        · rw [c]; exact hR1.2.2.2.2.2.2.1
      · exact absurd a c
    · rcases hs' with ⟨c, _⟩ | ⟨_, c⟩
      · exact absurd c a
      · exact zsPr_u b c hC.2.2.2.2.2.2.2.1 hR1.2.2.2.2.2.2.1 hO.2.2.2.2.2.2.1 (fun p hp => (hO.1.2.2.1 p hp).2.1)
  obtain ⟨hr, v', k1, k2, k3⟩ := key
  have e : ∀ k, k ≠ 2 → k ≠ 8 → k ≠ 48 → k ≠ 55 → k ≠ 66 → k ≠ 68 → k ≠ 70 → M2 k = M k := fun k a1 a2 a3 a4 a5 a6 a7 => by rw [f3 k a4 a5 a6 a7, e3 k a1 a2 a3]
  refine ⟨r', rfl, hr, ⟨sz, pl, cp, ms, hw, pn, t, ch, st, en, co, v', pm, ph, ro, pp, me, ?_, ?_, ?_⟩, ?_, ?_, ?_⟩
  · obtain ⟨a1, a2, a3, a4, a5, a6, a7, a8⟩ := hO
    exact ⟨a1, a2, a3, a4, a5, a6, k3, a8⟩
  · exact zQC_v hC (fun k b1 b2 b3 b4 => e k (by omega) b4 (by omega) (by omega) (by omega) (by omega) (by omega)) (fun p hp => by rw [f3 8 (by decide) (by decide) (by decide) (by decide)]; exact k1 p hp)
  · exact zQR_v hR1 (fun j hj => f2 j (by omega)) (fun k b1 b2 b3 => f3 k (by omega) b3 (by omega) (by omega)) k2
  · exact zKep_fr hI.2.1 (by rw [e 0 (by decide) (by decide) (by decide) (by decide) (by decide) (by decide) (by decide)]) (by rw [f2 31 (by decide), e3 55 (by decide) (by decide) (by decide)]) (fun k b1 b2 _ => e k (by omega) (by omega) (by omega) (by omega) (by omega) (by omega) (by omega)) (e 75 (by decide) (by decide) (by decide) (by decide) (by decide) (by decide) (by decide))
  · exact ⟨0, w, by omega, by rw [f3 2 (by decide) (by decide) (by decide) (by decide)]; exact e1, f1, fun i hi => absurd hi (by omega)⟩
  · exact zShs_fr hI.2.2.2 (fun k hk => e k (by omega) (by omega) (by omega) (by omega) (by omega) (by omega) (by omega))
/-! steps: letter -/
theorem zt72 : zcse zInv 72 114 [] := by
  intro M hM hav hI
  obtain ⟨sz, pl, cp, ms, hw, pn, t, ch, st, en, co, v, pm, ph, ro, pp, me, hO, hC, hR⟩ := hI.1
  obtain ⟨tn, w, t1, t2, t3, t4⟩ := hI.2.2.1
  by_cases hf : 0 ≤ zfl w tn tn 0 0 0 0
  · have hf2 := zfl_le (t := w) (n := tn) tn 0 0 0 0 (by omega)
    refine zCt.mono (qc72a t2 t1 (fun i hi => (t4 i hi).1) hf hf2) ?_
    rintro q M1 ⟨r, rfl, rfl, rfl⟩
    refine ⟨_, rfl, fun _ => zCt.mono (qc114a (t := w) (n := tn) (by rw [zb_uk (by decide)]; exact t3) t1 (fun i hi => by rw [zb_uk (by decide)]; exact (t4 i hi).2) hf hf2) ?_⟩
    rintro q M2 ⟨r', rfl, rfl, rfl⟩
    have e : ∀ k, k ≠ 2 → k ≠ 55 → zup (zup M 2 1 0) 55 1 0 k = M k := fun k k1 k2 => by rw [zb_uk k2, zb_uk k1]
    have e55 : ∀ j, j ≠ 1 → zup (zup M 2 1 0) 55 1 0 55 j = M 55 j := fun j h => by rw [zb_ui h, zb_uk (by decide)]
    exact ⟨_, rfl, rfl, zCur_fr hI.1 (fun k k1 k2 _ => e k (by omega) (by omega)) (fun j hj => e55 j (by omega)) (fun k k1 k2 => e k (by omega) (by omega)), zKep_fr hI.2.1 (by rw [e 0 (by decide) (by decide)]) (e55 31 (by decide)) (fun k k1 k2 _ => e k (by omega) (by omega)) (e 75 (by decide) (by decide)), ⟨0, w, by omega, by rw [zb_uk (by decide), zb_us]; rfl, by rw [zb_us]; rfl, fun i hi => absurd hi (by omega)⟩, zShs_fr hI.2.2.2 (fun k hk => e k (by omega) (by omega))⟩
  · have hf' : zfl w tn tn 0 0 0 0 < 0 := by omega
    obtain ⟨pl', ch', st', en', hL, -⟩ := zlay_ex (t := w) (n := tn) tn 0 0 0 0 (fun _ => 0) (fun _ => 0) (fun _ => 0) hf' (by omega) (by omega) (by omega) (by omega)
    have hWL := zlay_WL t1 hL
    refine zCt.mono (qc72b t2 t1 (fun i hi => (t4 i hi).1) hf' hL) ?_
    rintro q M1 ⟨r, rfl, rfl, c1, c2, c3, c4, c5, c6, c7, c8, c9, c10, c11, c12, c13, c14, c15⟩
    refine ⟨_, rfl, fun _ => zCt.mono (qc114b (t := w) (n := tn) (by rw [c15 55 (by decide) (by decide) (by decide) (by decide) (by decide) (by decide)]; exact t3) t1 (fun i hi => by rw [c15 56 (by decide) (by decide) (by decide) (by decide) (by decide) (by decide)]; exact (t4 i hi).2) hf' hL) ?_⟩
    rintro q M2 ⟨r', rfl, rfl, d1, d2, d3, d4, d5, d6, d7, d8, d9, d10, d11, d12, d13⟩
    have n0 := hWL.1
    have p6 := hWL.2.2.1
    have hpl := hWL.2.2.2.1
    have g : ∀ k, k ≤ 54 → M2 k = M1 k := fun k hk => d13 k (by omega) (by omega) (by omega)
    have e : ∀ k, 18 ≤ k → k ≠ 55 → ¬ (57 ≤ k ∧ k ≤ 64) → k ≠ 66 → M2 k = M k := fun k k1 k2 k3 k4 => by rw [d13 k k2 k3 k4, c15 k (by omega) (by omega) (by omega) (by omega) (by omega) (by omega)]
    refine ⟨_, rfl, rfl, ⟨tn, pl', 0, ms, hw, 0, w, ch', st', en', fun _ => 0, fun _ => 5, pm, ph, ro, pp, fun _ => -1, ?_, ?_, ?_⟩, ?_, ?_, ?_⟩
    · obtain ⟨a1, a2, a3, a4, a5, a6, a7, a8⟩ := hO
      refine ⟨⟨p6, by omega, fun p hp => ?_, fun c hc => absurd hc (by omega)⟩, a2, a3, a4, by omega, fun i _ => by simp, fun p _ => by simp, fun k hk => absurd hk (by omega), fun _ => hWL, fun h => absurd h n0⟩
      have := (hpl p hp).1
      have := (hpl p hp).2.1
      refine ⟨by omega, by omega, Int.le_refl _, ?_⟩
      show (-1 : Int) < (ch' p : Int)
      omega
    · have x1 := hC.2.2.2.2.1
      have x2 := hC.2.2.2.2.2.1
      unfold zQC zlC zRC
      rw [g 4 (by decide), g 5 (by decide), g 6 (by decide), g 7 (by decide), g 8 (by decide), g 9 (by decide), g 10 (by decide), g 11 (by decide), g 13 (by decide), g 14 (by decide), g 15 (by decide), g 16 (by decide), g 17 (by decide)]
      refine ⟨by rw [c1, if_neg n0], ⟨c2, c3, c4, c5, fun p hp c hc => c6.1 p (fun _ => hp) (fun h => absurd rfl h) c hc (by have := (hpl p hp).2.1; omega)⟩, ⟨c3, by rw [c10]; rfl, c5, fun p hp => c8 p (by omega), fun c hc => absurd hc (by omega)⟩, by rw [c11]; rfl, by rw [c12 11 (by decide) (by decide)]; exact x1, by rw [c12 12 (by decide) (by decide)]; exact x2, fun i hi => by rw [c7 i hi]; rfl, fun p hp => by rw [c9 p (by omega)]; rfl, fun k hk => absurd hk (by omega)⟩
    · have x1 := hR.2.2.2.1
      have x2 := hR.2.2.2.2.1
      have z : ∀ j, j ≠ 1 → j ≠ 2 → j ≠ 4 → j ≠ 12 → j ≠ 17 → M2 55 j = M 55 j := fun j j1 j2 j3 j4 j5 => by rw [d12 j j1 j2 j3 j4 j5, c15 55 (by decide) (by decide) (by decide) (by decide) (by decide) (by decide)]
      refine ⟨⟨d1, d2, d3, d4, fun p hp c hc => d5.1 p (fun _ => hp) (fun h => absurd rfl h) c hc (by have := (hpl p hp).2.1; omega)⟩, ⟨d2, by rw [d9]; rfl, fun p hp => (d4 p hp).1, fun p hp => d7 p (by omega), fun c hc => absurd hc (by omega)⟩, by rw [d10]; rfl, by rw [z 14 (by decide) (by decide) (by decide) (by decide) (by decide)]; exact x1, by rw [z 15 (by decide) (by decide) (by decide) (by decide) (by decide)]; exact x2, fun i hi => by rw [d6 i hi]; rfl, fun p hp => by rw [d8 p (by omega)]; rfl, fun k hk => absurd hk (by omega)⟩
    · exact zKep_fr hI.2.1 (by rw [g 0 (by decide), c15 0 (by decide) (by decide) (by decide) (by decide) (by decide) (by decide)]) (by rw [d12 31 (by decide) (by decide) (by decide) (by decide) (by decide), c15 55 (by decide) (by decide) (by decide) (by decide) (by decide) (by decide)]) (fun k k1 k2 _ => e k (by omega) (by omega) (by omega) (by omega)) (e 75 (by decide) (by decide) (by decide) (by decide))
    · exact ⟨0, w, by omega, by rw [g 2 (by decide), c13]; rfl, by rw [d11]; rfl, fun i hi => absurd hi (by omega)⟩
    · exact zShs_fr hI.2.2.2 (fun k hk => e k (by omega) (by omega) (by omega) (by omega))
