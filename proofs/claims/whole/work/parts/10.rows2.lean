theorem zrgM_up {M : zMem} {k i : Nat} {v : Int} (h : zrgM M) (hv : zrgc k v) : zrgM (zup M k i v) := by
  intro k' i'
  unfold zup
  split
  · rename_i hk
    subst hk
    split
    · exact hv
    · exact h _ _
  · exact h _ _
theorem zup_ne {M : zMem} {k i : Nat} {v : Int} : ∀ k', k' ≠ k → ∀ j, zup M k i v k' j = M k' j := fun k' hk j => by simp [zup, hk]
theorem zrg_of0 {k n : Nat} {x : Int} (h : zSHL[k]? = some (.inl (0, n))) : zrgc k x ↔ zR32 x := by unfold zrgc; rw [h]; exact Iff.rfl
theorem zrg_of1 {k n : Nat} {x : Int} (h : zSHL[k]? = some (.inl (1, n))) : zrgc k x ↔ (-128 ≤ x ∧ x < 128) := by unfold zrgc; rw [h]; exact Iff.rfl
theorem zrg_of2 {k n : Nat} {x : Int} (h : zSHL[k]? = some (.inl (2, n))) : zrgc k x ↔ zR64 x := by unfold zrgc; rw [h]; exact Iff.rfl
theorem zrg_ofo {k c : Nat} {fs : List (Option Nat)} {x : Int} (h : zSHL[k]? = some (.inr (c, fs))) : zrgc k x ↔ zR32 x := by unfold zrgc; rw [h]
theorem zi2b_b (x : Int) : -128 ≤ zi2b x ∧ zi2b x < 128 := by unfold zi2b; have := @Int.le_bmod x 256 (by decide); have := @Int.bmod_lt x 256 (by decide); omega
set_option maxRecDepth 100000 in
theorem zClO (ci : Nat) (h : ci < 11) : ∃ (C : String) (T : u_T) (N : Nat) (ty : Nat → FieldType), vwCl[ci]? = some (C, T, N) ∧ (∀ w ∈ u_ws C T N, w ∈ zGW) ∧ (∀ k, k < N → parseFieldDescriptor (T k).2.2.1 = some (ty k)) ∧ (∀ a, a < N → ∀ b, b < N → a ≠ b → (T a).2.1 ≠ (T b).2.1) := by
  have key : ∀ (C : String) (T : u_T) (N : Nat), (u_ws C T N).all (fun w => decide (w ∈ lw_tbl) && goodWord w) = true → ∀ w ∈ u_ws C T N, w ∈ zGW := by
    intro C T N h w hw
    have h1 := List.all_eq_true.mp h w hw
    simp only [Bool.and_eq_true, decide_eq_true_eq] at h1
    exact List.mem_filter.mpr ⟨h1.1, h1.2⟩
  rcases (show ci = 0 ∨ ci = 1 ∨ ci = 2 ∨ ci = 3 ∨ ci = 4 ∨ ci = 5 ∨ ci = 6 ∨ ci = 7 ∨ ci = 8 ∨ ci = 9 ∨ ci = 10 by omega) with rfl | rfl | rfl | rfl | rfl | rfl | rfl | rfl | rfl | rfl | rfl
  · exact ⟨RX0, TX0, 1, tyX0, rfl, key _ _ _ (by decide +kernel), tyX0_ok, nmX0⟩
  · exact ⟨RX1, TX1, 4, tyX1, rfl, key _ _ _ (by decide +kernel), tyX1_ok, nmX1⟩
  · exact ⟨RX2, TX2, 14, tyX2, rfl, key _ _ _ (by decide +kernel), tyX2_ok, nmX2⟩
  · exact ⟨RX3, TX3, 8, tyX3, rfl, key _ _ _ (by decide +kernel), tyX3_ok, nmX3⟩
  · exact ⟨RX4, TX4, 7, tyX4, rfl, key _ _ _ (by decide +kernel), tyX4_ok, nmX4⟩
  · exact ⟨RX5, TX5, 1, tyX5, rfl, key _ _ _ (by decide +kernel), tyX5_ok, nmX5⟩
  · exact ⟨RX6, TX6, 3, tyX6, rfl, key _ _ _ (by decide +kernel), tyX6_ok, nmX6⟩
  · exact ⟨RX7, TX7, 13, tyX7, rfl, key _ _ _ (by decide +kernel), tyX7_ok, nmX7⟩
  · exact ⟨RX8, TX8, 2, tyX8, rfl, key _ _ _ (by decide +kernel), tyX8_ok, nmX8⟩
  · exact ⟨RX9, TX9, 11, tyX9, rfl, key _ _ _ (by decide +kernel), tyX9_ok, nmX9⟩
  · exact ⟨RX10, TX10, 36, tyX10, rfl, key _ _ _ (by decide +kernel), tyX10_ok, nmX10⟩
theorem zft {f : Nat × Nat × Nat × Nat × Bool × Nat × Nat} {pl : Nat} (h : zFT[pl]? = some f) : zlkF f = true := List.all_eq_true.mp zFT_ok f (List.mem_of_getElem? h)
theorem zct {f : Nat × Nat × Nat × Bool × Nat} {pl : Nat} (h : zCT[pl]? = some f) : zlkC f = true := List.all_eq_true.mp zCT_ok f (List.mem_of_getElem? h)
abbrev zfv (ad : Nat → Nat) (M : zMem) (k : Nat) (j : Nat) (o : Option Nat) : Value := match o with
    | none => Value.int (Int32.ofInt (M k j))
    | some q => .ref (ad q)
theorem zcell_o {cA : Nat → ClassId} {ad : Nat → Nat} {M : zMem} {k ci : Nat} {fs : List (Option Nat)} : zcell cA ad M k (.inr (ci, fs)) = .inr (ci, fs.mapIdx (zfv ad M k)) := rfl
theorem zfs_get {ad : Nat → Nat} {M : zMem} {k j : Nat} {fs : List (Option Nat)} {o : Option Nat} (h : fs[j]? = some o) : (fs.mapIdx (zfv ad M k))[j]? = some (zfv ad M k j o) := by simp [List.getElem?_mapIdx, h]
theorem zfs_set {ad : Nat → Nat} {M : zMem} {o xc : Nat} {v : Int} {fs : List (Option Nat)} (hfj : fs[xc]? = some none) : (fs.mapIdx (zfv ad M o)).set xc (.int (Int32.ofInt v)) = fs.mapIdx (zfv ad (zup M o xc v) o) := by
  apply List.ext_getElem?
  intro j
  rw [List.getElem?_set, List.getElem?_mapIdx, List.getElem?_mapIdx]
  by_cases hje : xc = j
  · subst hje
    have hjl : xc < (fs.mapIdx (zfv ad M o)).length := by rw [List.length_mapIdx]; exact (List.getElem?_eq_some_iff.mp hfj).1
    rw [if_pos rfl, if_pos hjl, hfj]
    simp [zfv, zup]
  · rw [if_neg hje]
    cases fs[j]? with
    | none => rfl
    | some w =>
      have hje2 : ¬ j = xc := fun q => hje q.symm
      cases w <;> simp [zfv, zup, hje2]
theorem zRN_own {mi : Nat} {I : zMI} (h : zMT[mi]? = some I) : zRN[I.2.2.2.2.2.1]? = some I.1.cls := by
  have h1 := List.all_eq_true.mp zMT_ok I (List.mem_of_getElem? h)
  simp only [zokM, Bool.and_eq_true, decide_eq_true_eq] at h1
  exact h1.1.1.1.1.2
/-- the link of a field: of the class itself, or of a nest mate -/
theorem zlink {mi : Nat} {I : zMI} {pl ix ci j : Nat} (hI : zMT[mi]? = some I) (h : (zFT[pl]?).map (fun f => (f.1, f.2.1, f.2.2.1, f.2.2.2.1)) = some (I.2.2.2.2.2.1, ix, ci, j)) :
    ∃ (C : String) (T : u_T) (N : Nat), vwCl[ci]? = some (C, T, N) ∧ j < N ∧ (T j).1 = C ∧ ((Cond.fieldLink I.1.cls ix C (T j).2.1 (T j).2.2.1) ∈ zGW ∨ (Cond.fieldLinkNest I.1.cls ix C (T j).2.1 (T j).2.2.1 "CommaCopies") ∈ lw_tbl) := by
  cases hf : zFT[pl]? with
  | none => rw [hf] at h; cases h
  | some f =>
    rw [hf] at h
    have h2 : (f.1, f.2.1, f.2.2.1, f.2.2.2.1) = (I.2.2.2.2.2.1, ix, ci, j) := Option.some.inj h
    obtain ⟨f1, f2, f3, f4, f5, f6, f7⟩ := f
    simp only [Prod.mk.injEq] at h2
    obtain ⟨rfl, rfl, rfl, rfl⟩ := h2
    have h1 := zft hf
    unfold zlkF at h1
    have hown := zRN_own hI
    simp only at h1
    rw [hown] at h1
    split at h1
    · rename_i C T N own hc ho
      cases ho
      simp only [Bool.and_eq_true, decide_eq_true_eq] at h1
      refine ⟨C, T, N, hc, h1.1.1.1, h1.1.1.2, ?_⟩
      cases f5 with
      | true =>
        have h3 := h1.1.2
        simp only [cond_true, decide_eq_true_eq] at h3
        exact Or.inr (List.mem_of_getElem? h3)
      | false =>
        have h3 := h1.1.2
        simp only [cond_false, decide_eq_true_eq] at h3
        exact Or.inl (zGW_in h3 rfl)
    · cases h1
theorem zlinkP {mi : Nat} {I : zMI} {pl ix ci j : Nat} {kd : Int} (hI : zMT[mi]? = some I) (h : (zFT[pl]?).map (fun f => (f.1, f.2.1, f.2.2.1, f.2.2.2.1, (f.2.2.2.2.2.2 : Int))) = some (I.2.2.2.2.2.1, ix, ci, j, kd)) (hk : kd ≠ 0) {C : String} {T : u_T} {N : Nat} (hcl : vwCl[ci]? = some (C, T, N)) :
    (T j).2.2.2 = false ∧ ((kd = 1 ∧ (T j).2.2.1 = "I") ∨ (kd ≠ 1 ∧ (T j).2.2.1 = "Z")) := by
  cases hf : zFT[pl]? with
  | none => rw [hf] at h; cases h
  | some f =>
    rw [hf] at h
    have h2 := Option.some.inj h
    obtain ⟨f1, f2, f3, f4, f5, f6, f7⟩ := f
    simp only [Prod.mk.injEq] at h2
    obtain ⟨rfl, rfl, rfl, rfl, rfl⟩ := h2
    have h1 := zft hf
    unfold zlkF at h1
    have hown := zRN_own hI
    simp only at h1
    rw [hown, hcl] at h1
    simp only [Bool.and_eq_true, decide_eq_true_eq] at h1
    have h3 := h1.2
    split at h3
    · rename_i h9; exact absurd (by simp) hk
    · simp only [Bool.and_eq_true, decide_eq_true_eq] at h3
      exact ⟨h3.1, Or.inl ⟨by simp, h3.2⟩⟩
    · rename_i h8 h9
      simp only [Bool.and_eq_true, decide_eq_true_eq] at h3
      exact ⟨h3.1, Or.inr ⟨fun q => h9 (by omega), h3.2⟩⟩
def zSHLb : zSh → Bool
  | .inl (t, n) => Nat.blt t 3 && Nat.blt n 2147483648
  | _ => true
theorem zSHLb_ok : zSHL.all zSHLb = true := by decide +kernel
theorem zSHL_b {k t N : Nat} (h : zSHL[k]? = some (.inl (t, N))) : t < 3 ∧ N < 2147483648 := by
  have h1 := List.all_eq_true.mp zSHLb_ok _ (List.mem_of_getElem? h)
  simp only [zSHLb, Bool.and_eq_true] at h1
  exact ⟨Nat.le_of_ble_eq_true h1.1, Nat.le_of_ble_eq_true h1.2⟩
section zRows2
variable {d mi pc : Nat} {I : zMI} {ls : List (Option zV)} {st : List zV} {M : zMem} {Q : Option zV → zMem → Prop} {K : Nat → List (Option zV) → List zV → zMem → Prop} {n : Nat} {xa : Int} {xb xc xe : Nat}
theorem zs_getfield {k : Nat} (hA : zAt mi I pc (.getfield k, n, xa, xb, xc, xe)) (hK : zKp d mi Q K) (h : zst d I Q pc ls st M (.getfield k, n, xa, xb, xc, xe) K) : zBg d mi pc ls st M Q := by
  obtain ⟨hdg, hok, hn⟩ := hA.ok
  have hn : n = 3 := Nat.eq_of_beq_eq_true hn
  subst hn
  obtain ⟨o, r, rfl, h⟩ := zr1_ex h
  obtain ⟨fs, hsh, h⟩ := zob_ex h
  have hlk0 := zlink hA.1 (of_decide_eq_true hok)
  intro hM hs hl I' hI' hlen l D cA ad p e s m args below meth c H locs cls hinj hC hmK hP hS hL
  have hII := Option.some.inj (hA.1.symm.trans hI')
  subst hII
  have hC0 := hC
  obtain ⟨hx, hb, hml, hown, hts, hnw, hr, hlk⟩ := hC0
  obtain ⟨C, T, N, hcl, hj, hCT, hlink⟩ := hlk0
  have hb11 : xb < 11 := (List.getElem?_eq_some_iff.mp hcl).1
  obtain ⟨C2, T2, N2, ty, hcl2, hin, hty, hnm⟩ := zClO xb hb11
  cases hcl.symm.trans hcl2
  have hw0 := zwd_get (cA := cA) (ad := ad) (M := M) hsh
  have hv : ∃ v : zV, zrg v ∧ (fs.mapIdx (zfv ad M o))[xc]? = some (zcv ad v) ∧ K (pc + 3) ls (v :: r) M := by
    cases hfj : fs[xc]? with
    | none => rw [hfj] at h; exact h.elim
    | some w =>
      rw [hfj] at h
      cases w with
      | none => exact ⟨.inl (M o xc), (zrg_ofo hsh).mp (hM o xc), zfs_get hfj, h⟩
      | some q => exact ⟨.inr (.inr q), trivial, zfs_get hfj, h⟩
  obtain ⟨v, hvr, hvg, h⟩ := hv
  rcases hlink with hw | hw
  · refine va_get (D := D) hx hb hts hin hown hmK hP o hw0 hcl xc hj (hts _ hw) (fun _ q => by rw [hCT] at q; exact q) hvg hdg ?_
    exact hK _ _ _ _ h hM (zrgs hvr (zrgt hs)) hl I hI' hlen l D cA ad p e s m args below meth c H locs cls hinj hC hmK hP hS hL
  · refine va_getN (D := D) hx hb hts hin hown hmK hP o hw0 hcl xc hj (va_Nw.use rfl (hnw _ hw rfl)) (fun _ q => by rw [hCT] at q; exact q) hvg hdg ?_
    exact hK _ _ _ _ h hM (zrgs hvr (zrgt hs)) hl I hI' hlen l D cA ad p e s m args below meth c H locs cls hinj hC hmK hP hS hL
theorem zs_putfield {k : Nat} (hA : zAt mi I pc (.putfield k, n, xa, xb, xc, xe)) (hK : zKp d mi Q K) (h : zst d I Q pc ls st M (.putfield k, n, xa, xb, xc, xe) K) : zBg d mi pc ls st M Q := by
  obtain ⟨hdg, hok, hn⟩ := hA.ok
  have hn : n = 3 := Nat.eq_of_beq_eq_true hn
  subst hn
  have h2 : ∃ (v : Int) (o : Nat) (r : List zV), st = .inl v :: .inr (.inr o) :: r ∧ zob o xb fun fs => fs[xc]? = some none ∧ (xa = 1 ∨ v = 0 ∨ v = 1) ∧ K (pc + 3) ls r (zup M o xc v) := by
    simp only [zst] at h
    split at h
    · rename_i v o r
      refine ⟨_, _, _, rfl, ?_⟩
      unfold zob at h ⊢
      split at h
      · rename_i c1 fs hk
        cases hb : Nat.beq c1 xb with
        | false => rw [hb] at h; exact (show False from h).elim
        | true =>
          rw [hb] at h
          simp only [cond_true] at h ⊢
          split at h
          · rename_i hfs
            refine ⟨hfs, ?_⟩
            cases hb2 : Nat.beq xa.toNat 1 with
            | true =>
              rw [hb2] at h
              have h5 := Nat.eq_of_beq_eq_true hb2
              exact ⟨Or.inl (by omega), h⟩
            | false =>
              rw [hb2] at h
              exact ⟨Or.inr (show _ ∧ _ from h).1, (show _ ∧ _ from h).2⟩
          · exact h.elim
      · exact h.elim
    · exact h.elim
  obtain ⟨v, o, r, rfl, h6⟩ := h2
  obtain ⟨fs, hsh, hfj, hkd, h⟩ := zob_ex h6
  have hok3 := Bool.and_eq_true_iff.mp hok
  have hok4 := of_decide_eq_true hok3.1
  have hok5 : xa ≠ 0 := of_decide_eq_true hok3.2
  have hlk0 := zlink hA.1 (pl := xe) (ix := k) (ci := xb) (j := xc) (by cases hf : zFT[xe]? with
    | none => rw [show zFT[(Instr.putfield k, 3, xa, xb, xc, xe).2.2.2.2.2]? = none from hf] at hok4; cases hok4
    | some f => rw [show zFT[(Instr.putfield k, 3, xa, xb, xc, xe).2.2.2.2.2]? = some f from hf] at hok4; have h9 := Option.some.inj hok4; simp only [Prod.mk.injEq] at h9; simp only [Option.map_some, Option.some.injEq, Prod.mk.injEq]; exact ⟨h9.1, h9.2.1, h9.2.2.1, h9.2.2.2.1⟩)
  intro hM hs hl I' hI' hlen l D cA ad p e s m args below meth c H locs cls hinj hC hmK hP hS hL
  have hII := Option.some.inj (hA.1.symm.trans hI')
  subst hII
  have hC0 := hC
  obtain ⟨hx, hb, hml, hown, hts, hnw, hr, hlk⟩ := hC0
  obtain ⟨C, T, N, hcl, hj, hCT, hlink⟩ := hlk0
  have hb11 : xb < 11 := (List.getElem?_eq_some_iff.mp hcl).1
  obtain ⟨C2, T2, N2, ty, hcl2, hin, hty, hnm⟩ := zClO xb hb11
  cases hcl.symm.trans hcl2
  have hw0 := zwd_get (cA := cA) (ad := ad) (M := M) hsh
  obtain ⟨hfin, hdesc⟩ := zlinkP hA.1 hok4 hok5 hcl
  have hv32 : zR32 v := zrgh hs
  have hjl : xc < (fs.mapIdx (zfv ad M o)).length := by rw [List.length_mapIdx]; exact (List.getElem?_eq_some_iff.mp hfj).1
  have hset : (zwd cA ad M).set o (ad o, .inr (xb, (fs.mapIdx (zfv ad M o)).set xc (.int (Int32.ofInt v)))) = zwd cA ad (zup M o xc v) := zwd_set hsh (by rw [zcell_o, zfs_set hfj]) zup_ne
  have hty2 : ∃ ty2, parseFieldDescriptor (T xc).2.2.1 = some ty2 ∧ narrow ty2 (.int (Int32.ofInt v)) = .int (Int32.ofInt v) ∧ fits ty2 (.int (Int32.ofInt v)) = true := by
    rcases hdesc with ⟨h1, h2⟩ | ⟨h1, h2⟩
    · exact ⟨.int, by rw [h2]; decide +kernel, rfl, rfl⟩
    · refine ⟨.boolean, by rw [h2]; decide +kernel, ?_⟩
      rcases hkd with h3 | rfl | rfl
      · exact absurd h3 h1
      · exact ⟨by decide, by decide⟩
      · exact ⟨by decide, by decide⟩
  obtain ⟨ty2, hd2, hn2, hf2⟩ := hty2
  rcases hlink with hw | hw
  · refine va_put (D := D) hx hb hts hin ty hty hnm hown hmK hP (zwd_D M hinj) hS o hw0 hcl xc hj (hts _ hw) (fun _ q => by rw [hCT] at q; exact q) hfin hd2 hn2 hf2 hjl hdg (fun H locs hP _ hS => ?_)
    have hP : va_P D vwCl ((zwd cA ad M).set o (ad o, .inr (xb, (fs.mapIdx (zfv ad M o)).set xc (.int (Int32.ofInt v))))) H := hP
    rw [hset] at hP
    exact hK _ _ _ _ h (zrgM_up hM ((zrg_ofo hsh).mpr hv32)) (zrgt (zrgt hs)) hl I hI' hlen l D cA ad p e s m args below meth c H locs cls hinj hC hmK hP hS hL
  · refine va_putN (D := D) hx hb hts hin ty hty hnm hown hmK hP (zwd_D M hinj) hS o hw0 hcl xc hj (va_Nw.use rfl (hnw _ hw rfl)) (fun _ q => by rw [hCT] at q; exact q) hfin hd2 hn2 hf2 hjl hdg (fun H locs hP _ hS => ?_)
    have hP : va_P D vwCl ((zwd cA ad M).set o (ad o, .inr (xb, (fs.mapIdx (zfv ad M o)).set xc (.int (Int32.ofInt v))))) H := hP
    rw [hset] at hP
    exact hK _ _ _ _ h (zrgM_up hM ((zrg_ofo hsh).mpr hv32)) (zrgt (zrgt hs)) hl I hI' hlen l D cA ad p e s m args below meth c H locs cls hinj hC hmK hP hS hL
theorem zs_iaload  (hA : zAt mi I pc (.iaload, n, xa, xb, xc, xe)) (hK : zKp d mi Q K) (h : zst d I Q pc ls st M (.iaload, n, xa, xb, xc, xe) K) : zBg d mi pc ls st M Q := by
  obtain ⟨hdg, hok, hn⟩ := hA.ok
  have hn : n = 1 := Nat.eq_of_beq_eq_true hn
  subst hn
  obtain ⟨k, i, r, rfl, h⟩ := zri_ex h
  obtain ⟨N, hsh, h1, h2, h⟩ := zar_ex h
  intro hM hs hl I' hI' hlen l D cA ad p e s m args below meth c H locs cls hinj hC hmK hP hS hL
  have hII := Option.some.inj (hA.1.symm.trans hI')
  subst hII
  have hC0 := hC
  obtain ⟨hx, hb, hml, hown, hts, hnw, hr, hlk⟩ := hC0
  have hi32 : zR32 i := zrgh hs
  have hw0 := zwd_get (cA := cA) (ad := ad) (M := M) hsh
  refine va_iald (f := fun i => Int32.ofInt (M k i)) hx hb hmK hP k 0 hw0 rfl (zin32 hi32 h1 h2) hdg ?_
  rw [zcl32 hi32]
  exact hK _ _ _ _ h hM (zrgs ((zrg_of0 hsh).mp (hM k _)) (zrgt (zrgt hs))) hl I hI' hlen l D cA ad p e s m args below meth c H locs cls hinj hC hmK hP hS hL
theorem zs_baload  (hA : zAt mi I pc (.baload, n, xa, xb, xc, xe)) (hK : zKp d mi Q K) (h : zst d I Q pc ls st M (.baload, n, xa, xb, xc, xe) K) : zBg d mi pc ls st M Q := by
  obtain ⟨hdg, hok, hn⟩ := hA.ok
  have hn : n = 1 := Nat.eq_of_beq_eq_true hn
  subst hn
  obtain ⟨k, i, r, rfl, h⟩ := zri_ex h
  obtain ⟨N, hsh, h1, h2, h⟩ := zar_ex h
  intro hM hs hl I' hI' hlen l D cA ad p e s m args below meth c H locs cls hinj hC hmK hP hS hL
  have hII := Option.some.inj (hA.1.symm.trans hI')
  subst hII
  have hC0 := hC
  obtain ⟨hx, hb, hml, hown, hts, hnw, hr, hlk⟩ := hC0
  have hi32 : zR32 i := zrgh hs
  have hw0 := zwd_get (cA := cA) (ad := ad) (M := M) hsh
  refine va_bald (f := fun i => Int32.ofInt (M k i)) hx hb hmK hP k 1 hw0 rfl (zin32 hi32 h1 h2) hdg ?_
  rw [zcl32 hi32]
  exact hK _ _ _ _ h hM (zrgs (show zR32 (M k i.toNat) by have := (zrg_of1 hsh).mp (hM k i.toNat); omega) (zrgt (zrgt hs))) hl I hI' hlen l D cA ad p e s m args below meth c H locs cls hinj hC hmK hP hS hL
theorem zs_laload  (hA : zAt mi I pc (.laload, n, xa, xb, xc, xe)) (hK : zKp d mi Q K) (h : zst d I Q pc ls st M (.laload, n, xa, xb, xc, xe) K) : zBg d mi pc ls st M Q := by
  obtain ⟨hdg, hok, hn⟩ := hA.ok
  have hn : n = 1 := Nat.eq_of_beq_eq_true hn
  subst hn
  obtain ⟨k, i, r, rfl, h⟩ := zri_ex h
  obtain ⟨N, hsh, h1, h2, h⟩ := zar_ex h
  intro hM hs hl I' hI' hlen l D cA ad p e s m args below meth c H locs cls hinj hC hmK hP hS hL
  have hII := Option.some.inj (hA.1.symm.trans hI')
  subst hII
  have hC0 := hC
  obtain ⟨hx, hb, hml, hown, hts, hnw, hr, hlk⟩ := hC0
  have hi32 : zR32 i := zrgh hs
  have hw0 := zwd_get (cA := cA) (ad := ad) (M := M) hsh
  refine va_lald (f := fun i => Int64.ofInt (M k i)) hx hb hmK hP k 2 hw0 rfl (zin32 hi32 h1 h2) hdg ?_
  rw [zcl32 hi32]
  exact hK _ _ _ _ h hM (zrgs ((zrg_of2 hsh).mp (hM k _)) (zrgt (zrgt hs))) hl I hI' hlen l D cA ad p e s m args below meth c H locs cls hinj hC hmK hP hS hL
theorem zup_upd {M : zMem} {k i : Nat} {v : Int} {f : Nat → Int32} {x : Int32} (hf : f = fun i => Int32.ofInt (M k i)) (hx : x = Int32.ofInt v) : upd f i x = fun j => Int32.ofInt (zup M k i v k j) := by
  subst hf; subst hx
  funext j
  unfold upd zup
  by_cases h : j = i
  · subst h; simp
  · simp [h]
theorem zs_iastore  (hA : zAt mi I pc (.iastore, n, xa, xb, xc, xe)) (hK : zKp d mi Q K) (h : zst d I Q pc ls st M (.iastore, n, xa, xb, xc, xe) K) : zBg d mi pc ls st M Q := by
  obtain ⟨hdg, hok, hn⟩ := hA.ok
  have hn : n = 1 := Nat.eq_of_beq_eq_true hn
  subst hn
  obtain ⟨k, i, v, r, rfl, h⟩ := zrii_ex h
  obtain ⟨N, hsh, h1, h2, h⟩ := zar_ex h
  intro hM hs hl I' hI' hlen l D cA ad p e s m args below meth c H locs cls hinj hC hmK hP hS hL
  have hII := Option.some.inj (hA.1.symm.trans hI')
  subst hII
  have hC0 := hC
  obtain ⟨hx, hb, hml, hown, hts, hnw, hr, hlk⟩ := hC0
  have hv32 : zR32 v := zrgh hs
  have hi32 : zR32 i := zrgh (zrgt hs)
  have hw0 := zwd_get (cA := cA) (ad := ad) (M := M) hsh
  refine va_iast (f := fun i => Int32.ofInt (M k i)) hx hb hmK hP (zwd_D M hinj) hS k 0 hw0 rfl (zin32 hi32 h1 h2) hdg (fun H locs hP _ hS => ?_)
  have hset : (zwd cA ad M).set k (ad k, .inl (cA 0, N, .inl (fun j => Int32.ofInt (zup M k i.toNat v k j)))) = zwd cA ad (zup M k i.toNat v) := zwd_set hsh rfl zup_ne
  rw [zcl32 hi32, zup_upd (v := v) rfl rfl, hset] at hP
  exact hK _ _ _ _ h (zrgM_up hM ((zrg_of0 hsh).mpr hv32)) (zrgt (zrgt (zrgt hs))) hl I hI' hlen l D cA ad p e s m args below meth c H locs cls hinj hC hmK hP hS hL
theorem zs_bastore  (hA : zAt mi I pc (.bastore, n, xa, xb, xc, xe)) (hK : zKp d mi Q K) (h : zst d I Q pc ls st M (.bastore, n, xa, xb, xc, xe) K) : zBg d mi pc ls st M Q := by
  obtain ⟨hdg, hok, hn⟩ := hA.ok
  have hn : n = 1 := Nat.eq_of_beq_eq_true hn
  subst hn
  obtain ⟨k, i, v, r, rfl, h⟩ := zrii_ex h
  obtain ⟨N, hsh, h1, h2, h⟩ := zar_ex h
  intro hM hs hl I' hI' hlen l D cA ad p e s m args below meth c H locs cls hinj hC hmK hP hS hL
  have hII := Option.some.inj (hA.1.symm.trans hI')
  subst hII
  have hC0 := hC
  obtain ⟨hx, hb, hml, hown, hts, hnw, hr, hlk⟩ := hC0
  have hv32 : zR32 v := zrgh hs
  have hi32 : zR32 i := zrgh (zrgt hs)
  have hw0 := zwd_get (cA := cA) (ad := ad) (M := M) hsh
  have hnar : vp_nar .byte (Int32.ofInt v) = Int32.ofInt (zi2b v) := by
    show (Int32.ofInt v).toInt8.toInt32 = _
    apply Int32.toInt_inj.mp
    rw [Int8.toInt_toInt32, Int32.toInt_toInt8, z32 hv32, z32 (zi2b_r v)]
    rfl
  refine va_bast (f := fun i => Int32.ofInt (M k i)) hx hb hmK hP (zwd_D M hinj) hS k 1 hw0 rfl (zin32 hi32 h1 h2) hdg (fun H locs hP _ hS => ?_)
  have hset : (zwd cA ad M).set k (ad k, .inl (cA 1, N, .inl (fun j => Int32.ofInt (zup M k i.toNat (zi2b v) k j)))) = zwd cA ad (zup M k i.toNat (zi2b v)) := zwd_set hsh rfl zup_ne
  rw [zcl32 hi32, zup_upd (v := (zi2b v)) rfl hnar, hset] at hP
  exact hK _ _ _ _ h (zrgM_up hM ((zrg_of1 hsh).mpr (zi2b_b v))) (zrgt (zrgt (zrgt hs))) hl I hI' hlen l D cA ad p e s m args below meth c H locs cls hinj hC hmK hP hS hL
theorem zs_lastore  (hA : zAt mi I pc (.lastore, n, xa, xb, xc, xe)) (hK : zKp d mi Q K) (h : zst d I Q pc ls st M (.lastore, n, xa, xb, xc, xe) K) : zBg d mi pc ls st M Q := by
  obtain ⟨hdg, hok, hn⟩ := hA.ok
  have hn : n = 1 := Nat.eq_of_beq_eq_true hn
  subst hn
  obtain ⟨k, i, v, r, rfl, h⟩ := zril_ex h
  obtain ⟨N, hsh, h1, h2, h⟩ := zar_ex h
  intro hM hs hl I' hI' hlen l D cA ad p e s m args below meth c H locs cls hinj hC hmK hP hS hL
  have hII := Option.some.inj (hA.1.symm.trans hI')
  subst hII
  have hC0 := hC
  obtain ⟨hx, hb, hml, hown, hts, hnw, hr, hlk⟩ := hC0
  have hv64 : zR64 v := zrgh hs
  have hi32 : zR32 i := zrgh (zrgt hs)
  have hw0 := zwd_get (cA := cA) (ad := ad) (M := M) hsh
  refine va_last (f := fun i => Int64.ofInt (M k i)) hx hb hmK hP (zwd_D M hinj) hS k 2 hw0 rfl (zin32 hi32 h1 h2) hdg (fun H locs hP _ hS => ?_)
  have hfun : ∀ g : Nat → Int64, g = (fun j => Int64.ofInt (zup M k i.toNat v k j)) → (zwd cA ad M).set k (ad k, .inl (cA 2, N, .inr (.inl g))) = zwd cA ad (zup M k i.toNat v) := fun g hg => by rw [hg]; exact zwd_set hsh rfl zup_ne
  rw [zcl32 hi32, hfun _ (by funext j; unfold zup; by_cases hj : j = i.toNat <;> simp [vp_updL, hj])] at hP
  exact hK _ _ _ _ h (zrgM_up hM ((zrg_of2 hsh).mpr hv64)) (zrgt (zrgt (zrgt hs))) hl I hI' hlen l D cA ad p e s m args below meth c H locs cls hinj hC hmK hP hS hL
theorem zs_arraylength (hA : zAt mi I pc (.arraylength, n, xa, xb, xc, xe)) (hK : zKp d mi Q K) (h : zst d I Q pc ls st M (.arraylength, n, xa, xb, xc, xe) K) : zBg d mi pc ls st M Q := by
  obtain ⟨hdg, hok, hn⟩ := hA.ok
  have hn : n = 1 := Nat.eq_of_beq_eq_true hn
  subst hn
  obtain ⟨k, r, rfl, h'⟩ := zr1_ex h
  clear h
  have h := h'
  have h2 : ∃ t N, zSHL[k]? = some (.inl (t, N)) ∧ K (pc + 1) ls (.inl (N : Int) :: r) M := by
    unfold zln at h
    split at h
    · rename_i t N hk; exact ⟨t, N, hk, h⟩
    · exact h.elim
  obtain ⟨t, N, hsh, h⟩ := h2
  have hb3 : t < 3 ∧ N < 2147483648 := zSHL_b hsh
  intro hM hs hl I' hI' hlen l D cA ad p e s m args below meth c H locs cls hinj hC hmK hP hS hL
  have hII := Option.some.inj (hA.1.symm.trans hI')
  subst hII
  have hC0 := hC
  obtain ⟨hx, hb, hml, hown, hts, hnw, hr, hlk⟩ := hC0
  have hw0 := zwd_get (cA := cA) (ad := ad) (M := M) hsh
  have hex : ∃ z, zcell cA ad M k (.inl (t, N)) = .inl (cA t, N, z) := by
    rcases (show t = 0 ∨ t = 1 ∨ t = 2 by omega) with rfl | rfl | rfl <;> exact ⟨_, rfl⟩
  obtain ⟨z, hz⟩ := hex
  rw [hz] at hw0
  have hty : ∃ ty, (ztys cA)[t]? = some (cA t, ty) := by
    rcases (show t = 0 ∨ t = 1 ∨ t = 2 by omega) with rfl | rfl | rfl <;> exact ⟨_, rfl⟩
  obtain ⟨ty, hty⟩ := hty
  refine va_alen (x := (N, z)) (v := Int32.ofInt (N : Int)) hx hb hmK hP k t hw0 hty (by rw [Int32.ofInt_eq_ofNat]) hdg ?_
  exact hK _ _ _ _ h hM (zrgs (show zR32 (N : Int) by omega) (zrgt hs)) hl I hI' hlen l D cA ad p e s m args below meth c H locs cls hinj hC hmK hP hS hL
end zRows2
