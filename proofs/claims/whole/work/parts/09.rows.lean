/-! the rows: each instruction of the pure machine is the real one's -/
theorem z1_ex {st : List zV} {f : Int → List zV → Prop} (h : z1 st f) : ∃ a r, st = .inl a :: r ∧ f a r := by
  unfold z1 at h
  split at h
  · exact ⟨_, _, rfl, h⟩
  · exact h.elim
theorem z2_ex {st : List zV} {f : Int → Int → List zV → Prop} (h : z2 st f) : ∃ a b r, st = .inl b :: .inl a :: r ∧ f a b r := by
  unfold z2 at h
  split at h
  · exact ⟨_, _, _, rfl, h⟩
  · exact h.elim
theorem zl1_ex {st : List zV} {f : Int → List zV → Prop} (h : zl1 st f) : ∃ a r, st = .inr (.inl a) :: r ∧ f a r := by
  unfold zl1 at h
  split at h
  · exact ⟨_, _, rfl, h⟩
  · exact h.elim
theorem zl2_ex {st : List zV} {f : Int → Int → List zV → Prop} (h : zl2 st f) : ∃ a b r, st = .inr (.inl b) :: .inr (.inl a) :: r ∧ f a b r := by
  unfold zl2 at h
  split at h
  · exact ⟨_, _, _, rfl, h⟩
  · exact h.elim
theorem zli_ex {st : List zV} {f : Int → Int → List zV → Prop} (h : zli st f) : ∃ a b r, st = .inl b :: .inr (.inl a) :: r ∧ f a b r := by
  unfold zli at h
  split at h
  · exact ⟨_, _, _, rfl, h⟩
  · exact h.elim
theorem zr1_ex {st : List zV} {f : Nat → List zV → Prop} (h : zr1 st f) : ∃ a r, st = .inr (.inr a) :: r ∧ f a r := by
  unfold zr1 at h
  split at h
  · exact ⟨_, _, rfl, h⟩
  · exact h.elim
theorem zri_ex {st : List zV} {f : Nat → Int → List zV → Prop} (h : zri st f) : ∃ k i r, st = .inl i :: .inr (.inr k) :: r ∧ f k i r := by
  unfold zri at h
  split at h
  · exact ⟨_, _, _, rfl, h⟩
  · exact h.elim
theorem zrii_ex {st : List zV} {f : Nat → Int → Int → List zV → Prop} (h : zrii st f) : ∃ k i v r, st = .inl v :: .inl i :: .inr (.inr k) :: r ∧ f k i v r := by
  unfold zrii at h
  split at h
  · exact ⟨_, _, _, _, rfl, h⟩
  · exact h.elim
theorem zril_ex {st : List zV} {f : Nat → Int → Int → List zV → Prop} (h : zril st f) : ∃ k i v r, st = .inr (.inl v) :: .inl i :: .inr (.inr k) :: r ∧ f k i v r := by
  unfold zril at h
  split at h
  · exact ⟨_, _, _, _, rfl, h⟩
  · exact h.elim
theorem zgI_ex {o : Option (Option zV)} {f : Int → Prop} (h : zgI o f) : ∃ x, o = some (some (.inl x)) ∧ f x := by
  unfold zgI at h
  split at h
  · exact ⟨_, rfl, h⟩
  · exact h.elim
theorem zgL_ex {o : Option (Option zV)} {f : Int → Prop} (h : zgL o f) : ∃ x, o = some (some (.inr (.inl x))) ∧ f x := by
  unfold zgL at h
  split at h
  · exact ⟨_, rfl, h⟩
  · exact h.elim
theorem zgR_ex {o : Option (Option zV)} {f : Nat → Prop} (h : zgR o f) : ∃ x, o = some (some (.inr (.inr x))) ∧ f x := by
  unfold zgR at h
  split at h
  · exact ⟨_, rfl, h⟩
  · exact h.elim
theorem zar_ex {k t : Nat} {f : Nat → Prop} (h : zar k t f) : ∃ n, zSHL[k]? = some (.inl (t, n)) ∧ f n := by
  unfold zar at h
  split at h
  · rename_i t' n hk
    cases hb : Nat.beq t' t with
    | true =>
      rw [hb] at h
      have h1 := Nat.eq_of_beq_eq_true hb
      subst h1
      exact ⟨n, hk, h⟩
    | false => rw [hb] at h; exact h.elim
  · exact h.elim
theorem zob_ex {k t : Nat} {f : List (Option Nat) → Prop} (h : zob k t f) : ∃ n, zSHL[k]? = some (.inr (t, n)) ∧ f n := by
  unfold zob at h
  split at h
  · rename_i t' n hk
    cases hb : Nat.beq t' t with
    | true =>
      rw [hb] at h
      have h1 := Nat.eq_of_beq_eq_true hb
      subst h1
      exact ⟨n, hk, h⟩
    | false => rw [hb] at h; exact h.elim
  · exact h.elim
theorem zrgs {v : zV} {r : List zV} (h1 : zrg v) (h2 : ∀ v ∈ r, zrg v) : ∀ w ∈ v :: r, zrg w := List.forall_mem_cons.mpr ⟨h1, h2⟩
theorem zrgt {v : zV} {r : List zV} (h : ∀ w ∈ v :: r, zrg w) : ∀ w ∈ r, zrg w := fun w hw => h w (List.mem_cons_of_mem _ hw)
theorem zrgh {v : zV} {r : List zV} (h : ∀ w ∈ v :: r, zrg w) : zrg v := h v List.mem_cons_self
theorem zrgl {ls : List (Option zV)} {i : Nat} {v : zV} (h : ∀ v, some v ∈ ls → zrg v) (hi : ls[i]? = some (some v)) : zrg v := h v (List.mem_of_getElem? hi)
theorem zrgset {ls : List (Option zV)} {i : Nat} {o : Option zV} (h : ∀ v, some v ∈ ls → zrg v) (ho : ∀ v, o = some v → zrg v) : ∀ v, some v ∈ ls.set i o → zrg v := by
  intro v hv
  rcases List.mem_or_eq_of_mem_set hv with h1 | h1
  · exact h v h1
  · exact ho v h1.symm
theorem z32 {a : Int} (h : zR32 a) : (Int32.ofInt a).toInt = a := Int32.toInt_ofInt_of_le (by have := h.1; omega) (by have := h.2; omega)
theorem z64 {a : Int} (h : zR64 a) : (Int64.ofInt a).toInt = a := Int64.toInt_ofInt_of_le (by have := h.1; omega) (by have := h.2; omega)
theorem zr32 (x : Int32) : zR32 x.toInt := ⟨by have := x.le_toInt; omega, by have := x.toInt_lt; omega⟩
theorem zr64 (x : Int64) : zR64 x.toInt := ⟨by have := x.le_toInt; omega, by have := x.toInt_lt; omega⟩
theorem zeq32 {a b : Int} (ha : zR32 a) (hb : zR32 b) : Int32.ofInt a = Int32.ofInt b ↔ a = b := ⟨fun h => by rw [← z32 ha, ← z32 hb, h], fun h => by rw [h]⟩
theorem zlt32 {a b : Int} (ha : zR32 a) (hb : zR32 b) : Int32.ofInt a < Int32.ofInt b ↔ a < b := by rw [Int32.lt_iff_toInt_lt, z32 ha, z32 hb]
theorem zle32 {a b : Int} (ha : zR32 a) (hb : zR32 b) : Int32.ofInt a ≤ Int32.ofInt b ↔ a ≤ b := by rw [Int32.le_iff_toInt_le, z32 ha, z32 hb]
theorem zcl32 {a : Int} (h : zR32 a) : (Int32.ofInt a).toNatClampNeg = a.toNat := by rw [← Int32.toNat_toInt, z32 h]
theorem zin32 {i : Int} {n : Nat} (h : zR32 i) (h1 : 0 ≤ i) (h2 : i < n) : vp_in (Int32.ofInt i) n := by
  unfold vp_in
  rw [zcl32 h, Int32.lt_iff_toInt_lt, z32 h, Int32.toInt_zero]
  omega
theorem zlv_store {ad : Nat → Nat} {ls : List (Option zV)} {cls : Array Slot} {n i : Nat} {v : zV} {lv : List (Nat × Value)} (hv : (zcv ad v).category = 1) (hf : zfr ls i = true) (hL : lv_has cls n lv) (he : lv = (i, zcv ad v) :: (zlv ad 0 ls).filter (fun q => !(q.1 == i) && !(q.1 + 1 == i && q.2.category == 2))) : lv_has cls n (zlv ad 0 (ls.set i (some v))) := by
  refine ⟨hL.1, hL.2.1, fun q hq => ?_⟩
  obtain ⟨j, w, h1, rfl⟩ := zlv_mem.mp hq
  apply hL.2.2
  rw [he]
  rw [List.getElem?_set] at h1
  by_cases hj : i = j
  · subst hj
    split at h1
    · split at h1
      · cases h1
        exact List.mem_cons.mpr (Or.inl (by simp))
      · cases h1
    · rename_i hne
      exact absurd rfl hne
  · rw [if_neg hj] at h1
    refine List.mem_cons_of_mem _ (List.mem_filter.mpr ⟨zlv_mem.mpr ⟨j, w, h1, rfl⟩, ?_⟩)
    have hj2 : ¬ j = i := fun q => hj q.symm
    by_cases hk : j + 1 = i
    · subst hk
      have hw : zisL ls[j]? = false := by
        simp only [zfr, Bool.and_eq_true, Bool.not_eq_true'] at hf
        exact hf.2
      rw [h1] at hw
      match w, hw with
      | .inl y, _ => simp [hj2, zcv, Value.category]
      | .inr (.inr y), _ => simp [hj2, zcv, Value.category]
    · simp [hj2, hk]
theorem zfr_lt {ls : List (Option zV)} {i : Nat} (h : zfr ls i = true) : i < ls.length := by
  simp only [zfr, Bool.and_eq_true] at h
  exact Nat.le_of_ble_eq_true h.1
theorem zGW_in {w : Cond} {pl : Nat} (h : lw_tbl[pl]? = some w) (hg : goodWord w = true) : w ∈ zGW := List.mem_filter.mpr ⟨List.mem_of_getElem? h, hg⟩
abbrev zKp (d mi : Nat) (Q : Option zV → zMem → Prop) (K : Nat → List (Option zV) → List zV → zMem → Prop) : Prop := ∀ pc ls st M, K pc ls st M → zBg d mi pc ls st M Q
section zRows
variable {d mi pc : Nat} {I : zMI} {ls : List (Option zV)} {st : List zV} {M : zMem} {Q : Option zV → zMem → Prop} {K : Nat → List (Option zV) → List zV → zMem → Prop} {n : Nat} {xa : Int} {xb xc xe : Nat}
theorem zi2b_r (x : Int) : zR32 (zi2b x) := by unfold zi2b zR32; have := @Int.le_bmod x 256 (by decide); have := @Int.bmod_lt x 256 (by decide); omega
theorem zi2s_r (x : Int) : zR32 (zi2s x) := by unfold zi2s zR32; have := @Int.le_bmod x 65536 (by decide); have := @Int.bmod_lt x 65536 (by decide); omega
theorem zlcmp_r (x y : Int) : zR32 (zlcmp x y) := by
  unfold zlcmp
  split
  · decide
  · split <;> decide
theorem zs_iconst {k : Int} (hA : zAt mi I pc (.iconst k, n, xa, xb, xc, xe)) (hK : zKp d mi Q K) (h : zst d I Q pc ls st M (.iconst k, n, xa, xb, xc, xe) K) : zBg d mi pc ls st M Q := by
  obtain ⟨hdg, hok, hn⟩ := hA.ok
  have hn : n = 1 := Nat.eq_of_beq_eq_true hn
  subst hn
  intro hM hs hl I' hI' hlen l D cA ad p e s m args below meth c H locs cls hinj hC hmK hP hS hL
  have hII := Option.some.inj (hA.1.symm.trans hI')
  subst hII
  have hC0 := hC
  obtain ⟨hx, hb, hml, hown, hts, hnw, hr, hlk⟩ := hC0
  refine lv_iconst hx hb hdg rfl ?_
  exact hK _ _ _ _ h hM (zrgs (show zR32 k from of_decide_eq_true hok) hs) hl I hI' hlen l D cA ad p e s m args below meth c H locs cls hinj hC hmK hP hS hL
theorem zs_bipush {k : Int} (hA : zAt mi I pc (.bipush k, n, xa, xb, xc, xe)) (hK : zKp d mi Q K) (h : zst d I Q pc ls st M (.bipush k, n, xa, xb, xc, xe) K) : zBg d mi pc ls st M Q := by
  obtain ⟨hdg, hok, hn⟩ := hA.ok
  have hn : n = 2 := Nat.eq_of_beq_eq_true hn
  subst hn
  have hok2 : (Int8.ofInt k).toInt32 = Int32.ofInt k ∧ zR32 k := of_decide_eq_true hok
  intro hM hs hl I' hI' hlen l D cA ad p e s m args below meth c H locs cls hinj hC hmK hP hS hL
  have hII := Option.some.inj (hA.1.symm.trans hI')
  subst hII
  have hC0 := hC
  obtain ⟨hx, hb, hml, hown, hts, hnw, hr, hlk⟩ := hC0
  refine lv_bipush hx hb hdg hok2.1 ?_
  exact hK _ _ _ _ h hM (zrgs hok2.2 hs) hl I hI' hlen l D cA ad p e s m args below meth c H locs cls hinj hC hmK hP hS hL
theorem zs_sipush {k : Int} (hA : zAt mi I pc (.sipush k, n, xa, xb, xc, xe)) (hK : zKp d mi Q K) (h : zst d I Q pc ls st M (.sipush k, n, xa, xb, xc, xe) K) : zBg d mi pc ls st M Q := by
  obtain ⟨hdg, hok, hn⟩ := hA.ok
  have hn : n = 3 := Nat.eq_of_beq_eq_true hn
  subst hn
  have hok2 : (Int16.ofInt k).toInt32 = Int32.ofInt k ∧ zR32 k := of_decide_eq_true hok
  intro hM hs hl I' hI' hlen l D cA ad p e s m args below meth c H locs cls hinj hC hmK hP hS hL
  have hII := Option.some.inj (hA.1.symm.trans hI')
  subst hII
  have hC0 := hC
  obtain ⟨hx, hb, hml, hown, hts, hnw, hr, hlk⟩ := hC0
  refine lv_sipush hx hb hdg hok2.1 ?_
  exact hK _ _ _ _ h hM (zrgs hok2.2 hs) hl I hI' hlen l D cA ad p e s m args below meth c H locs cls hinj hC hmK hP hS hL
theorem zs_ldc {k : Nat} (hA : zAt mi I pc (.ldc k, n, xa, xb, xc, xe)) (hK : zKp d mi Q K) (h : zst d I Q pc ls st M (.ldc k, n, xa, xb, xc, xe) K) : zBg d mi pc ls st M Q := by
  obtain ⟨hdg, hok, hn⟩ := hA.ok
  have hn : n = 2 := Nat.eq_of_beq_eq_true hn
  subst hn
  have hok2 : zR32 xa ∧ lw_tbl[xe]? = some (.constant I.1.cls k (Int32.ofInt xa)) := by
    have h1 := Bool.and_eq_true_iff.mp hok
    exact ⟨of_decide_eq_true h1.1, of_decide_eq_true h1.2⟩
  intro hM hs hl I' hI' hlen l D cA ad p e s m args below meth c H locs cls hinj hC hmK hP hS hL
  have hII := Option.some.inj (hA.1.symm.trans hI')
  subst hII
  have hC0 := hC
  obtain ⟨hx, hb, hml, hown, hts, hnw, hr, hlk⟩ := hC0
  refine lv_ldc hx hb hown (hts _ (zGW_in hok2.2 rfl)) hdg ?_
  exact hK _ _ _ _ h hM (zrgs hok2.1 hs) hl I hI' hlen l D cA ad p e s m args below meth c H locs cls hinj hC hmK hP hS hL
theorem zs_ldc_w {k : Nat} (hA : zAt mi I pc (.ldc_w k, n, xa, xb, xc, xe)) (hK : zKp d mi Q K) (h : zst d I Q pc ls st M (.ldc_w k, n, xa, xb, xc, xe) K) : zBg d mi pc ls st M Q := by
  obtain ⟨hdg, hok, hn⟩ := hA.ok
  have hn : n = 3 := Nat.eq_of_beq_eq_true hn
  subst hn
  have hok2 : zR32 xa ∧ lw_tbl[xe]? = some (.constant I.1.cls k (Int32.ofInt xa)) := by
    have h1 := Bool.and_eq_true_iff.mp hok
    exact ⟨of_decide_eq_true h1.1, of_decide_eq_true h1.2⟩
  intro hM hs hl I' hI' hlen l D cA ad p e s m args below meth c H locs cls hinj hC hmK hP hS hL
  have hII := Option.some.inj (hA.1.symm.trans hI')
  subst hII
  have hC0 := hC
  obtain ⟨hx, hb, hml, hown, hts, hnw, hr, hlk⟩ := hC0
  refine lv_ldcw hx hb hown (hts _ (zGW_in hok2.2 rfl)) hdg ?_
  exact hK _ _ _ _ h hM (zrgs hok2.1 hs) hl I hI' hlen l D cA ad p e s m args below meth c H locs cls hinj hC hmK hP hS hL
theorem zs_ldc2_w {k : Nat} (hA : zAt mi I pc (.ldc2_w k, n, xa, xb, xc, xe)) (hK : zKp d mi Q K) (h : zst d I Q pc ls st M (.ldc2_w k, n, xa, xb, xc, xe) K) : zBg d mi pc ls st M Q := by
  obtain ⟨hdg, hok, hn⟩ := hA.ok
  have hn : n = 3 := Nat.eq_of_beq_eq_true hn
  subst hn
  have hok2 : zR64 xa ∧ lw_tbl[xe]? = some (.constantLong I.1.cls k (Int64.ofInt xa)) := by
    have h1 := Bool.and_eq_true_iff.mp hok
    exact ⟨of_decide_eq_true h1.1, of_decide_eq_true h1.2⟩
  intro hM hs hl I' hI' hlen l D cA ad p e s m args below meth c H locs cls hinj hC hmK hP hS hL
  have hII := Option.some.inj (hA.1.symm.trans hI')
  subst hII
  have hC0 := hC
  obtain ⟨hx, hb, hml, hown, hts, hnw, hr, hlk⟩ := hC0
  refine lv_ldc2 hx hb hown (hts _ (zGW_in hok2.2 rfl)) hdg ?_
  exact hK _ _ _ _ h hM (zrgs hok2.1 hs) hl I hI' hlen l D cA ad p e s m args below meth c H locs cls hinj hC hmK hP hS hL
theorem zs_lconst {k : Fin 2} (hA : zAt mi I pc (.lconst k, n, xa, xb, xc, xe)) (hK : zKp d mi Q K) (h : zst d I Q pc ls st M (.lconst k, n, xa, xb, xc, xe) K) : zBg d mi pc ls st M Q := by
  obtain ⟨hdg, hok, hn⟩ := hA.ok
  have hn : n = 1 := Nat.eq_of_beq_eq_true hn
  subst hn
  intro hM hs hl I' hI' hlen l D cA ad p e s m args below meth c H locs cls hinj hC hmK hP hS hL
  have hII := Option.some.inj (hA.1.symm.trans hI')
  subst hII
  have hC0 := hC
  obtain ⟨hx, hb, hml, hown, hts, hnw, hr, hlk⟩ := hC0
  refine lv_lconst (v := Int64.ofInt ((k : Nat) : Int)) hx hb hdg (by rw [Int64.ofInt_eq_ofNat]) ?_
  exact hK _ _ _ _ h hM (zrgs (show zR64 ((k : Nat) : Int) by have := k.2; omega) hs) hl I hI' hlen l D cA ad p e s m args below meth c H locs cls hinj hC hmK hP hS hL
theorem zs_iload {k : Nat} (hA : zAt mi I pc (.iload k, n, xa, xb, xc, xe)) (hK : zKp d mi Q K) (h : zst d I Q pc ls st M (.iload k, n, xa, xb, xc, xe) K) : zBg d mi pc ls st M Q := by
  obtain ⟨hdg, hok, hn⟩ := hA.ok
  have hn : n = 2 := Nat.eq_of_beq_eq_true hn
  subst hn
  obtain ⟨v, hv, h⟩ := zgI_ex h
  intro hM hs hl I' hI' hlen l D cA ad p e s m args below meth c H locs cls hinj hC hmK hP hS hL
  have hII := Option.some.inj (hA.1.symm.trans hI')
  subst hII
  have hC0 := hC
  obtain ⟨hx, hb, hml, hown, hts, hnw, hr, hlk⟩ := hC0
  refine lv_iload hx hb hdg (zlv_at hL hv) ?_
  exact hK _ _ _ _ h hM (zrgs (zrgl hl hv) hs) hl I hI' hlen l D cA ad p e s m args below meth c H locs cls hinj hC hmK hP hS hL
theorem zs_iload_n {k : Fin 4} (hA : zAt mi I pc (.iload_n k, n, xa, xb, xc, xe)) (hK : zKp d mi Q K) (h : zst d I Q pc ls st M (.iload_n k, n, xa, xb, xc, xe) K) : zBg d mi pc ls st M Q := by
  obtain ⟨hdg, hok, hn⟩ := hA.ok
  have hn : n = 1 := Nat.eq_of_beq_eq_true hn
  subst hn
  obtain ⟨v, hv, h⟩ := zgI_ex h
  intro hM hs hl I' hI' hlen l D cA ad p e s m args below meth c H locs cls hinj hC hmK hP hS hL
  have hII := Option.some.inj (hA.1.symm.trans hI')
  subst hII
  have hC0 := hC
  obtain ⟨hx, hb, hml, hown, hts, hnw, hr, hlk⟩ := hC0
  refine lv_iload_n hx hb hdg rfl (zlv_at hL hv) ?_
  exact hK _ _ _ _ h hM (zrgs (zrgl hl hv) hs) hl I hI' hlen l D cA ad p e s m args below meth c H locs cls hinj hC hmK hP hS hL
theorem zs_lload {k : Nat} (hA : zAt mi I pc (.lload k, n, xa, xb, xc, xe)) (hK : zKp d mi Q K) (h : zst d I Q pc ls st M (.lload k, n, xa, xb, xc, xe) K) : zBg d mi pc ls st M Q := by
  obtain ⟨hdg, hok, hn⟩ := hA.ok
  have hn : n = 2 := Nat.eq_of_beq_eq_true hn
  subst hn
  obtain ⟨v, hv, h⟩ := zgL_ex h
  intro hM hs hl I' hI' hlen l D cA ad p e s m args below meth c H locs cls hinj hC hmK hP hS hL
  have hII := Option.some.inj (hA.1.symm.trans hI')
  subst hII
  have hC0 := hC
  obtain ⟨hx, hb, hml, hown, hts, hnw, hr, hlk⟩ := hC0
  refine lv_lload hx hb hdg (zlv_at hL hv) ?_
  exact hK _ _ _ _ h hM (zrgs (zrgl hl hv) hs) hl I hI' hlen l D cA ad p e s m args below meth c H locs cls hinj hC hmK hP hS hL
theorem zs_lload_n {k : Fin 4} (hA : zAt mi I pc (.lload_n k, n, xa, xb, xc, xe)) (hK : zKp d mi Q K) (h : zst d I Q pc ls st M (.lload_n k, n, xa, xb, xc, xe) K) : zBg d mi pc ls st M Q := by
  obtain ⟨hdg, hok, hn⟩ := hA.ok
  have hn : n = 1 := Nat.eq_of_beq_eq_true hn
  subst hn
  obtain ⟨v, hv, h⟩ := zgL_ex h
  intro hM hs hl I' hI' hlen l D cA ad p e s m args below meth c H locs cls hinj hC hmK hP hS hL
  have hII := Option.some.inj (hA.1.symm.trans hI')
  subst hII
  have hC0 := hC
  obtain ⟨hx, hb, hml, hown, hts, hnw, hr, hlk⟩ := hC0
  refine lv_lload_n hx hb hdg rfl (zlv_at hL hv) ?_
  exact hK _ _ _ _ h hM (zrgs (zrgl hl hv) hs) hl I hI' hlen l D cA ad p e s m args below meth c H locs cls hinj hC hmK hP hS hL
theorem zs_aload {k : Nat} (hA : zAt mi I pc (.aload k, n, xa, xb, xc, xe)) (hK : zKp d mi Q K) (h : zst d I Q pc ls st M (.aload k, n, xa, xb, xc, xe) K) : zBg d mi pc ls st M Q := by
  obtain ⟨hdg, hok, hn⟩ := hA.ok
  have hn : n = 2 := Nat.eq_of_beq_eq_true hn
  subst hn
  obtain ⟨v, hv, h⟩ := zgR_ex h
  intro hM hs hl I' hI' hlen l D cA ad p e s m args below meth c H locs cls hinj hC hmK hP hS hL
  have hII := Option.some.inj (hA.1.symm.trans hI')
  subst hII
  have hC0 := hC
  obtain ⟨hx, hb, hml, hown, hts, hnw, hr, hlk⟩ := hC0
  refine lv_aload hx hb hdg (zlv_at hL hv) ?_
  exact hK _ _ _ _ h hM (zrgs (zrgl hl hv) hs) hl I hI' hlen l D cA ad p e s m args below meth c H locs cls hinj hC hmK hP hS hL
theorem zs_aload_n {k : Fin 4} (hA : zAt mi I pc (.aload_n k, n, xa, xb, xc, xe)) (hK : zKp d mi Q K) (h : zst d I Q pc ls st M (.aload_n k, n, xa, xb, xc, xe) K) : zBg d mi pc ls st M Q := by
  obtain ⟨hdg, hok, hn⟩ := hA.ok
  have hn : n = 1 := Nat.eq_of_beq_eq_true hn
  subst hn
  obtain ⟨v, hv, h⟩ := zgR_ex h
  intro hM hs hl I' hI' hlen l D cA ad p e s m args below meth c H locs cls hinj hC hmK hP hS hL
  have hII := Option.some.inj (hA.1.symm.trans hI')
  subst hII
  have hC0 := hC
  obtain ⟨hx, hb, hml, hown, hts, hnw, hr, hlk⟩ := hC0
  refine lv_aload_n hx hb hdg rfl (zlv_at hL hv) ?_
  exact hK _ _ _ _ h hM (zrgs (zrgl hl hv) hs) hl I hI' hlen l D cA ad p e s m args below meth c H locs cls hinj hC hmK hP hS hL
theorem zs_istore {k : Nat} (hA : zAt mi I pc (.istore k, n, xa, xb, xc, xe)) (hK : zKp d mi Q K) (h : zst d I Q pc ls st M (.istore k, n, xa, xb, xc, xe) K) : zBg d mi pc ls st M Q := by
  obtain ⟨hdg, hok, hn⟩ := hA.ok
  have hn : n = 2 := Nat.eq_of_beq_eq_true hn
  subst hn
  obtain ⟨v, r, rfl, h7⟩ := z1_ex h
  obtain ⟨hf, h⟩ := zif h7
  intro hM hs hl I' hI' hlen l D cA ad p e s m args below meth c H locs cls hinj hC hmK hP hS hL
  have hII := Option.some.inj (hA.1.symm.trans hI')
  subst hII
  have hC0 := hC
  obtain ⟨hx, hb, hml, hown, hts, hnw, hr, hlk⟩ := hC0
  refine lv_istore hx hb hdg hL (Nat.lt_of_lt_of_le (zfr_lt hf) hlen) rfl (fun cls hL => ?_)
  exact hK _ _ _ _ h hM (zrgt hs) (zrgset hl (fun w hw => by cases hw; exact zrgh hs)) I hI' (by rw [List.length_set]; exact hlen) l D cA ad p e s m args below meth c H locs cls hinj hC hmK hP hS (zlv_store rfl hf hL rfl)
theorem zs_istore_n {k : Fin 4} (hA : zAt mi I pc (.istore_n k, n, xa, xb, xc, xe)) (hK : zKp d mi Q K) (h : zst d I Q pc ls st M (.istore_n k, n, xa, xb, xc, xe) K) : zBg d mi pc ls st M Q := by
  obtain ⟨hdg, hok, hn⟩ := hA.ok
  have hn : n = 1 := Nat.eq_of_beq_eq_true hn
  subst hn
  obtain ⟨v, r, rfl, h7⟩ := z1_ex h
  obtain ⟨hf, h⟩ := zif h7
  intro hM hs hl I' hI' hlen l D cA ad p e s m args below meth c H locs cls hinj hC hmK hP hS hL
  have hII := Option.some.inj (hA.1.symm.trans hI')
  subst hII
  have hC0 := hC
  obtain ⟨hx, hb, hml, hown, hts, hnw, hr, hlk⟩ := hC0
  refine lv_istore_n hx hb hdg rfl hL (Nat.lt_of_lt_of_le (zfr_lt hf) hlen) rfl (fun cls hL => ?_)
  exact hK _ _ _ _ h hM (zrgt hs) (zrgset hl (fun w hw => by cases hw; exact zrgh hs)) I hI' (by rw [List.length_set]; exact hlen) l D cA ad p e s m args below meth c H locs cls hinj hC hmK hP hS (zlv_store rfl hf hL rfl)
theorem zs_astore {k : Nat} (hA : zAt mi I pc (.astore k, n, xa, xb, xc, xe)) (hK : zKp d mi Q K) (h : zst d I Q pc ls st M (.astore k, n, xa, xb, xc, xe) K) : zBg d mi pc ls st M Q := by
  obtain ⟨hdg, hok, hn⟩ := hA.ok
  have hn : n = 2 := Nat.eq_of_beq_eq_true hn
  subst hn
  obtain ⟨v, r, rfl, h7⟩ := zr1_ex h
  obtain ⟨hf, h⟩ := zif h7
  intro hM hs hl I' hI' hlen l D cA ad p e s m args below meth c H locs cls hinj hC hmK hP hS hL
  have hII := Option.some.inj (hA.1.symm.trans hI')
  subst hII
  have hC0 := hC
  obtain ⟨hx, hb, hml, hown, hts, hnw, hr, hlk⟩ := hC0
  refine lv_astore hx hb hdg hL (Nat.lt_of_lt_of_le (zfr_lt hf) hlen) rfl (fun cls hL => ?_)
  exact hK _ _ _ _ h hM (zrgt hs) (zrgset hl (fun w hw => by cases hw; exact zrgh hs)) I hI' (by rw [List.length_set]; exact hlen) l D cA ad p e s m args below meth c H locs cls hinj hC hmK hP hS (zlv_store rfl hf hL rfl)
theorem zs_astore_n {k : Fin 4} (hA : zAt mi I pc (.astore_n k, n, xa, xb, xc, xe)) (hK : zKp d mi Q K) (h : zst d I Q pc ls st M (.astore_n k, n, xa, xb, xc, xe) K) : zBg d mi pc ls st M Q := by
  obtain ⟨hdg, hok, hn⟩ := hA.ok
  have hn : n = 1 := Nat.eq_of_beq_eq_true hn
  subst hn
  obtain ⟨v, r, rfl, h7⟩ := zr1_ex h
  obtain ⟨hf, h⟩ := zif h7
  intro hM hs hl I' hI' hlen l D cA ad p e s m args below meth c H locs cls hinj hC hmK hP hS hL
  have hII := Option.some.inj (hA.1.symm.trans hI')
  subst hII
  have hC0 := hC
  obtain ⟨hx, hb, hml, hown, hts, hnw, hr, hlk⟩ := hC0
  refine lv_astore_n hx hb hdg rfl hL (Nat.lt_of_lt_of_le (zfr_lt hf) hlen) rfl (fun cls hL => ?_)
  exact hK _ _ _ _ h hM (zrgt hs) (zrgset hl (fun w hw => by cases hw; exact zrgh hs)) I hI' (by rw [List.length_set]; exact hlen) l D cA ad p e s m args below meth c H locs cls hinj hC hmK hP hS (zlv_store rfl hf hL rfl)
theorem zlv_store2 {ad : Nat → Nat} {ls : List (Option zV)} {cls : Array Slot} {n i : Nat} {v : Int} {lv : List (Nat × Value)} (hf : (zfr ls i && zfr (ls.set i none) (i + 1)) = true) (hL : lv_has cls n lv) (he : lv = (i, Value.long (Int64.ofInt v)) :: (zlv ad 0 ls).filter (fun q => !(q.1 == i) && (!(q.1 == i + 1) && !(q.1 + 1 == i && q.2.category == 2)))) : lv_has cls n (zlv ad 0 ((ls.set i (zL v)).set (i + 1) none)) := by
  refine ⟨hL.1, hL.2.1, fun q hq => ?_⟩
  obtain ⟨j, w, h1, rfl⟩ := zlv_mem.mp hq
  apply hL.2.2
  rw [he]
  simp only [Bool.and_eq_true] at hf
  rw [List.getElem?_set] at h1
  by_cases hj : i + 1 = j
  · rw [if_pos hj] at h1
    split at h1 <;> cases h1
  · rw [if_neg hj, List.getElem?_set] at h1
    by_cases hj1 : i = j
    · subst hj1
      rw [if_pos rfl] at h1
      split at h1
      · cases h1
        exact List.mem_cons.mpr (Or.inl (by simp [zcv]))
      · cases h1
    · rw [if_neg hj1] at h1
      refine List.mem_cons_of_mem _ (List.mem_filter.mpr ⟨zlv_mem.mpr ⟨j, w, h1, rfl⟩, ?_⟩)
      have hj2 : ¬ j = i := fun q => hj1 q.symm
      have hj3 : ¬ j = i + 1 := fun q => hj q.symm
      by_cases hk : j + 1 = i
      · subst hk
        have hw : zisL ls[j]? = false := by
          have h2 := hf.1
          simp only [zfr, Bool.and_eq_true, Bool.not_eq_true'] at h2
          exact h2.2
        rw [h1] at hw
        match w, hw with
        | .inl y, _ => simp [hj2, hj3, zcv, Value.category]
        | .inr (.inr y), _ => simp [hj2, hj3, zcv, Value.category]
      · simp [hj2, hj3, hk]
theorem zs_lstore {k : Nat} (hA : zAt mi I pc (.lstore k, n, xa, xb, xc, xe)) (hK : zKp d mi Q K) (h : zst d I Q pc ls st M (.lstore k, n, xa, xb, xc, xe) K) : zBg d mi pc ls st M Q := by
  obtain ⟨hdg, hok, hn⟩ := hA.ok
  have hn : n = 2 := Nat.eq_of_beq_eq_true hn
  subst hn
  obtain ⟨v, r, rfl, h7⟩ := zl1_ex h
  obtain ⟨hf, h⟩ := zif h7
  have hf2 := Bool.and_eq_true_iff.mp hf
  intro hM hs hl I' hI' hlen l D cA ad p e s m args below meth c H locs cls hinj hC hmK hP hS hL
  have hII := Option.some.inj (hA.1.symm.trans hI')
  subst hII
  have hC0 := hC
  obtain ⟨hx, hb, hml, hown, hts, hnw, hr, hlk⟩ := hC0
  refine lv_lstore hx hb hdg hL (by have h9 := zfr_lt hf2.2; rw [List.length_set] at h9; exact Nat.lt_of_lt_of_le h9 hlen) rfl (fun cls hL => ?_)
  exact hK _ _ _ _ h hM (zrgt hs) (zrgset (zrgset hl (fun w hw => by cases hw; exact zrgh hs)) (fun w hw => by cases hw)) I hI' (by rw [List.length_set, List.length_set]; exact hlen) l D cA ad p e s m args below meth c H locs cls hinj hC hmK hP hS (zlv_store2 hf hL rfl)
theorem zs_lstore_n {k : Fin 4} (hA : zAt mi I pc (.lstore_n k, n, xa, xb, xc, xe)) (hK : zKp d mi Q K) (h : zst d I Q pc ls st M (.lstore_n k, n, xa, xb, xc, xe) K) : zBg d mi pc ls st M Q := by
  obtain ⟨hdg, hok, hn⟩ := hA.ok
  have hn : n = 1 := Nat.eq_of_beq_eq_true hn
  subst hn
  obtain ⟨v, r, rfl, h7⟩ := zl1_ex h
  obtain ⟨hf, h⟩ := zif h7
  have hf2 := Bool.and_eq_true_iff.mp hf
  intro hM hs hl I' hI' hlen l D cA ad p e s m args below meth c H locs cls hinj hC hmK hP hS hL
  have hII := Option.some.inj (hA.1.symm.trans hI')
  subst hII
  have hC0 := hC
  obtain ⟨hx, hb, hml, hown, hts, hnw, hr, hlk⟩ := hC0
  refine lv_lstore_n hx hb hdg rfl hL (by have h9 := zfr_lt hf2.2; rw [List.length_set] at h9; exact Nat.lt_of_lt_of_le h9 hlen) rfl (fun cls hL => ?_)
  exact hK _ _ _ _ h hM (zrgt hs) (zrgset (zrgset hl (fun w hw => by cases hw; exact zrgh hs)) (fun w hw => by cases hw)) I hI' (by rw [List.length_set, List.length_set]; exact hlen) l D cA ad p e s m args below meth c H locs cls hinj hC hmK hP hS (zlv_store2 hf hL rfl)
theorem zlv_idx {ad : Nat → Nat} {ls : List (Option zV)} {i : Nat} {v : zV} (h : ls[i]? = some (some v)) : ∃ k : Nat, (zlv ad 0 ls)[k]? = some (i, zcv ad v) := by
  have h1 : (i, zcv ad v) ∈ zlv ad 0 ls := zlv_mem.mpr ⟨i, v, h, by simp⟩
  exact List.getElem?_of_mem h1
theorem zs_iinc {k : Nat} {j : Int} (hA : zAt mi I pc (.iinc k j, n, xa, xb, xc, xe)) (hK : zKp d mi Q K) (h : zst d I Q pc ls st M (.iinc k j, n, xa, xb, xc, xe) K) : zBg d mi pc ls st M Q := by
  obtain ⟨hdg, hok, hn⟩ := hA.ok
  have hn : n = 3 := Nat.eq_of_beq_eq_true hn
  subst hn
  obtain ⟨v, hv, h7⟩ := zgI_ex h
  obtain ⟨hf, hrr, h⟩ := zif h7
  intro hM hs hl I' hI' hlen l D cA ad p e s m args below meth c H locs cls hinj hC hmK hP hS hL
  have hII := Option.some.inj (hA.1.symm.trans hI')
  subst hII
  have hC0 := hC
  obtain ⟨hx, hb, hml, hown, hts, hnw, hr, hlk⟩ := hC0
  obtain ⟨q, hq⟩ := zlv_idx (ad := ad) hv
  refine lv_iinc (v := Int32.ofInt (v + j)) hx hb hdg hL hq (by rw [Int32.ofInt_add]) (Nat.lt_of_lt_of_le (zfr_lt hf) hlen) rfl (fun cls hL => ?_)
  exact hK _ _ _ _ h hM hs (zrgset hl (fun w hw => by cases hw; exact hrr)) I hI' (by rw [List.length_set]; exact hlen) l D cA ad p e s m args below meth c H locs cls hinj hC hmK hP hS (zlv_store (v := .inl (v + j)) rfl hf hL rfl)
theorem zs_iadd  (hA : zAt mi I pc (.iadd, n, xa, xb, xc, xe)) (hK : zKp d mi Q K) (h : zst d I Q pc ls st M (.iadd, n, xa, xb, xc, xe) K) : zBg d mi pc ls st M Q := by
  obtain ⟨hdg, hok, hn⟩ := hA.ok
  have hn : n = 1 := Nat.eq_of_beq_eq_true hn
  subst hn
  obtain ⟨x, y, r, rfl, hrr, h⟩ := z2_ex h
  intro hM hs hl I' hI' hlen l D cA ad p e s m args below meth c H locs cls hinj hC hmK hP hS hL
  have hII := Option.some.inj (hA.1.symm.trans hI')
  subst hII
  have hC0 := hC
  obtain ⟨hx, hb, hml, hown, hts, hnw, hr, hlk⟩ := hC0
  refine lv_iadd hx hb hdg ?_
  rw [← Int32.ofInt_add]
  exact hK _ _ _ _ h hM (zrgs hrr (zrgt (zrgt hs))) hl I hI' hlen l D cA ad p e s m args below meth c H locs cls hinj hC hmK hP hS hL
theorem zs_isub  (hA : zAt mi I pc (.isub, n, xa, xb, xc, xe)) (hK : zKp d mi Q K) (h : zst d I Q pc ls st M (.isub, n, xa, xb, xc, xe) K) : zBg d mi pc ls st M Q := by
  obtain ⟨hdg, hok, hn⟩ := hA.ok
  have hn : n = 1 := Nat.eq_of_beq_eq_true hn
  subst hn
  obtain ⟨x, y, r, rfl, hrr, h⟩ := z2_ex h
  intro hM hs hl I' hI' hlen l D cA ad p e s m args below meth c H locs cls hinj hC hmK hP hS hL
  have hII := Option.some.inj (hA.1.symm.trans hI')
  subst hII
  have hC0 := hC
  obtain ⟨hx, hb, hml, hown, hts, hnw, hr, hlk⟩ := hC0
  refine lv_isub hx hb hdg ?_
  rw [← Int32.ofInt_sub]
  exact hK _ _ _ _ h hM (zrgs hrr (zrgt (zrgt hs))) hl I hI' hlen l D cA ad p e s m args below meth c H locs cls hinj hC hmK hP hS hL
theorem zs_imul  (hA : zAt mi I pc (.imul, n, xa, xb, xc, xe)) (hK : zKp d mi Q K) (h : zst d I Q pc ls st M (.imul, n, xa, xb, xc, xe) K) : zBg d mi pc ls st M Q := by
  obtain ⟨hdg, hok, hn⟩ := hA.ok
  have hn : n = 1 := Nat.eq_of_beq_eq_true hn
  subst hn
  obtain ⟨x, y, r, rfl, hrr, h⟩ := z2_ex h
  intro hM hs hl I' hI' hlen l D cA ad p e s m args below meth c H locs cls hinj hC hmK hP hS hL
  have hII := Option.some.inj (hA.1.symm.trans hI')
  subst hII
  have hC0 := hC
  obtain ⟨hx, hb, hml, hown, hts, hnw, hr, hlk⟩ := hC0
  refine lv_imul hx hb hdg ?_
  rw [← Int32.ofInt_mul]
  exact hK _ _ _ _ h hM (zrgs hrr (zrgt (zrgt hs))) hl I hI' hlen l D cA ad p e s m args below meth c H locs cls hinj hC hmK hP hS hL
theorem zs_iand  (hA : zAt mi I pc (.iand, n, xa, xb, xc, xe)) (hK : zKp d mi Q K) (h : zst d I Q pc ls st M (.iand, n, xa, xb, xc, xe) K) : zBg d mi pc ls st M Q := by
  obtain ⟨hdg, hok, hn⟩ := hA.ok
  have hn : n = 1 := Nat.eq_of_beq_eq_true hn
  subst hn
  obtain ⟨x, y, r, rfl, h⟩ := z2_ex h
  intro hM hs hl I' hI' hlen l D cA ad p e s m args below meth c H locs cls hinj hC hmK hP hS hL
  have hII := Option.some.inj (hA.1.symm.trans hI')
  subst hII
  have hC0 := hC
  obtain ⟨hx, hb, hml, hown, hts, hnw, hr, hlk⟩ := hC0
  refine lv_iand hx hb hdg ?_
  refine W.eq (g2 := F0 m (pc + 1) cls ((.inl (ziand x y) :: r).map (zcv ad))) (by simp only [List.map_cons, zcv, ziand, Int32.ofInt_toInt, Int64.ofInt_toInt]) ?_
  exact hK _ _ _ _ h hM (zrgs (zr32 _) (zrgt (zrgt hs))) hl I hI' hlen l D cA ad p e s m args below meth c H locs cls hinj hC hmK hP hS hL
theorem zs_ior  (hA : zAt mi I pc (.ior, n, xa, xb, xc, xe)) (hK : zKp d mi Q K) (h : zst d I Q pc ls st M (.ior, n, xa, xb, xc, xe) K) : zBg d mi pc ls st M Q := by
  obtain ⟨hdg, hok, hn⟩ := hA.ok
  have hn : n = 1 := Nat.eq_of_beq_eq_true hn
  subst hn
  obtain ⟨x, y, r, rfl, h⟩ := z2_ex h
  intro hM hs hl I' hI' hlen l D cA ad p e s m args below meth c H locs cls hinj hC hmK hP hS hL
  have hII := Option.some.inj (hA.1.symm.trans hI')
  subst hII
  have hC0 := hC
  obtain ⟨hx, hb, hml, hown, hts, hnw, hr, hlk⟩ := hC0
  refine lv_ior hx hb hdg ?_
  refine W.eq (g2 := F0 m (pc + 1) cls ((.inl (zior x y) :: r).map (zcv ad))) (by simp only [List.map_cons, zcv, zior, Int32.ofInt_toInt, Int64.ofInt_toInt]) ?_
  exact hK _ _ _ _ h hM (zrgs (zr32 _) (zrgt (zrgt hs))) hl I hI' hlen l D cA ad p e s m args below meth c H locs cls hinj hC hmK hP hS hL
theorem zs_ixor  (hA : zAt mi I pc (.ixor, n, xa, xb, xc, xe)) (hK : zKp d mi Q K) (h : zst d I Q pc ls st M (.ixor, n, xa, xb, xc, xe) K) : zBg d mi pc ls st M Q := by
  obtain ⟨hdg, hok, hn⟩ := hA.ok
  have hn : n = 1 := Nat.eq_of_beq_eq_true hn
  subst hn
  obtain ⟨x, y, r, rfl, h⟩ := z2_ex h
  intro hM hs hl I' hI' hlen l D cA ad p e s m args below meth c H locs cls hinj hC hmK hP hS hL
  have hII := Option.some.inj (hA.1.symm.trans hI')
  subst hII
  have hC0 := hC
  obtain ⟨hx, hb, hml, hown, hts, hnw, hr, hlk⟩ := hC0
  refine lv_ixor hx hb hdg ?_
  refine W.eq (g2 := F0 m (pc + 1) cls ((.inl (zixor x y) :: r).map (zcv ad))) (by simp only [List.map_cons, zcv, zixor, Int32.ofInt_toInt, Int64.ofInt_toInt]) ?_
  exact hK _ _ _ _ h hM (zrgs (zr32 _) (zrgt (zrgt hs))) hl I hI' hlen l D cA ad p e s m args below meth c H locs cls hinj hC hmK hP hS hL
theorem zs_ishl  (hA : zAt mi I pc (.ishl, n, xa, xb, xc, xe)) (hK : zKp d mi Q K) (h : zst d I Q pc ls st M (.ishl, n, xa, xb, xc, xe) K) : zBg d mi pc ls st M Q := by
  obtain ⟨hdg, hok, hn⟩ := hA.ok
  have hn : n = 1 := Nat.eq_of_beq_eq_true hn
  subst hn
  obtain ⟨x, y, r, rfl, h⟩ := z2_ex h
  intro hM hs hl I' hI' hlen l D cA ad p e s m args below meth c H locs cls hinj hC hmK hP hS hL
  have hII := Option.some.inj (hA.1.symm.trans hI')
  subst hII
  have hC0 := hC
  obtain ⟨hx, hb, hml, hown, hts, hnw, hr, hlk⟩ := hC0
  refine lv_ishl hx hb hdg ?_
  refine W.eq (g2 := F0 m (pc + 1) cls ((.inl (zishl x y) :: r).map (zcv ad))) (by simp only [List.map_cons, zcv, zishl, Int32.ofInt_toInt, Int64.ofInt_toInt]) ?_
  exact hK _ _ _ _ h hM (zrgs (zr32 _) (zrgt (zrgt hs))) hl I hI' hlen l D cA ad p e s m args below meth c H locs cls hinj hC hmK hP hS hL
theorem zs_ishr  (hA : zAt mi I pc (.ishr, n, xa, xb, xc, xe)) (hK : zKp d mi Q K) (h : zst d I Q pc ls st M (.ishr, n, xa, xb, xc, xe) K) : zBg d mi pc ls st M Q := by
  obtain ⟨hdg, hok, hn⟩ := hA.ok
  have hn : n = 1 := Nat.eq_of_beq_eq_true hn
  subst hn
  obtain ⟨x, y, r, rfl, h⟩ := z2_ex h
  intro hM hs hl I' hI' hlen l D cA ad p e s m args below meth c H locs cls hinj hC hmK hP hS hL
  have hII := Option.some.inj (hA.1.symm.trans hI')
  subst hII
  have hC0 := hC
  obtain ⟨hx, hb, hml, hown, hts, hnw, hr, hlk⟩ := hC0
  refine lv_ishr hx hb hdg ?_
  refine W.eq (g2 := F0 m (pc + 1) cls ((.inl (zishr x y) :: r).map (zcv ad))) (by simp only [List.map_cons, zcv, zishr, Int32.ofInt_toInt, Int64.ofInt_toInt]) ?_
  exact hK _ _ _ _ h hM (zrgs (zr32 _) (zrgt (zrgt hs))) hl I hI' hlen l D cA ad p e s m args below meth c H locs cls hinj hC hmK hP hS hL
theorem zs_iushr  (hA : zAt mi I pc (.iushr, n, xa, xb, xc, xe)) (hK : zKp d mi Q K) (h : zst d I Q pc ls st M (.iushr, n, xa, xb, xc, xe) K) : zBg d mi pc ls st M Q := by
  obtain ⟨hdg, hok, hn⟩ := hA.ok
  have hn : n = 1 := Nat.eq_of_beq_eq_true hn
  subst hn
  obtain ⟨x, y, r, rfl, h⟩ := z2_ex h
  intro hM hs hl I' hI' hlen l D cA ad p e s m args below meth c H locs cls hinj hC hmK hP hS hL
  have hII := Option.some.inj (hA.1.symm.trans hI')
  subst hII
  have hC0 := hC
  obtain ⟨hx, hb, hml, hown, hts, hnw, hr, hlk⟩ := hC0
  refine lv_iushr hx hb hdg rfl ?_
  refine W.eq (g2 := F0 m (pc + 1) cls ((.inl (ziushr x y) :: r).map (zcv ad))) (by simp only [List.map_cons, zcv, ziushr, Int32.ofInt_toInt]) ?_
  exact hK _ _ _ _ h hM (zrgs (zr32 _) (zrgt (zrgt hs))) hl I hI' hlen l D cA ad p e s m args below meth c H locs cls hinj hC hmK hP hS hL
theorem zs_idiv  (hA : zAt mi I pc (.idiv, n, xa, xb, xc, xe)) (hK : zKp d mi Q K) (h : zst d I Q pc ls st M (.idiv, n, xa, xb, xc, xe) K) : zBg d mi pc ls st M Q := by
  obtain ⟨hdg, hok, hn⟩ := hA.ok
  have hn : n = 1 := Nat.eq_of_beq_eq_true hn
  subst hn
  obtain ⟨x, y, r, rfl, hne, h⟩ := z2_ex h
  intro hM hs hl I' hI' hlen l D cA ad p e s m args below meth c H locs cls hinj hC hmK hP hS hL
  have hII := Option.some.inj (hA.1.symm.trans hI')
  subst hII
  have hC0 := hC
  obtain ⟨hx, hb, hml, hown, hts, hnw, hr, hlk⟩ := hC0
  refine lv_idiv hx hb hdg (fun q => hne ((zeq32 (zrgh hs) (by decide)).mp (q.trans (by decide : (0 : Int32) = Int32.ofInt 0)))) ?_
  refine W.eq (g2 := F0 m (pc + 1) cls ((.inl (zidiv x y) :: r).map (zcv ad))) (by simp only [List.map_cons, zcv, zidiv, Int32.ofInt_toInt, Int64.ofInt_toInt]) ?_
  exact hK _ _ _ _ h hM (zrgs (zr32 _) (zrgt (zrgt hs))) hl I hI' hlen l D cA ad p e s m args below meth c H locs cls hinj hC hmK hP hS hL
theorem zs_irem  (hA : zAt mi I pc (.irem, n, xa, xb, xc, xe)) (hK : zKp d mi Q K) (h : zst d I Q pc ls st M (.irem, n, xa, xb, xc, xe) K) : zBg d mi pc ls st M Q := by
  obtain ⟨hdg, hok, hn⟩ := hA.ok
  have hn : n = 1 := Nat.eq_of_beq_eq_true hn
  subst hn
  obtain ⟨x, y, r, rfl, hne, h⟩ := z2_ex h
  intro hM hs hl I' hI' hlen l D cA ad p e s m args below meth c H locs cls hinj hC hmK hP hS hL
  have hII := Option.some.inj (hA.1.symm.trans hI')
  subst hII
  have hC0 := hC
  obtain ⟨hx, hb, hml, hown, hts, hnw, hr, hlk⟩ := hC0
  refine lv_irem hx hb hdg (fun q => hne ((zeq32 (zrgh hs) (by decide)).mp (q.trans (by decide : (0 : Int32) = Int32.ofInt 0)))) ?_
  refine W.eq (g2 := F0 m (pc + 1) cls ((.inl (zirem x y) :: r).map (zcv ad))) (by simp only [List.map_cons, zcv, zirem, Int32.ofInt_toInt, Int64.ofInt_toInt]) ?_
  exact hK _ _ _ _ h hM (zrgs (zr32 _) (zrgt (zrgt hs))) hl I hI' hlen l D cA ad p e s m args below meth c H locs cls hinj hC hmK hP hS hL
theorem zs_i2b  (hA : zAt mi I pc (.i2b, n, xa, xb, xc, xe)) (hK : zKp d mi Q K) (h : zst d I Q pc ls st M (.i2b, n, xa, xb, xc, xe) K) : zBg d mi pc ls st M Q := by
  obtain ⟨hdg, hok, hn⟩ := hA.ok
  have hn : n = 1 := Nat.eq_of_beq_eq_true hn
  subst hn
  obtain ⟨x, r, rfl, h⟩ := z1_ex h
  intro hM hs hl I' hI' hlen l D cA ad p e s m args below meth c H locs cls hinj hC hmK hP hS hL
  have hII := Option.some.inj (hA.1.symm.trans hI')
  subst hII
  have hC0 := hC
  obtain ⟨hx, hb, hml, hown, hts, hnw, hr, hlk⟩ := hC0
  refine lv_i2b (v := Int32.ofInt (zi2b x)) hx hb hdg (by apply Int32.toInt_inj.mp; rw [Int8.toInt_toInt32, Int32.toInt_toInt8, z32 (zrgh hs), z32 (zi2b_r x)]; rfl) ?_
  exact hK _ _ _ _ h hM (zrgs (zi2b_r x) (zrgt hs)) hl I hI' hlen l D cA ad p e s m args below meth c H locs cls hinj hC hmK hP hS hL
theorem zs_i2s  (hA : zAt mi I pc (.i2s, n, xa, xb, xc, xe)) (hK : zKp d mi Q K) (h : zst d I Q pc ls st M (.i2s, n, xa, xb, xc, xe) K) : zBg d mi pc ls st M Q := by
  obtain ⟨hdg, hok, hn⟩ := hA.ok
  have hn : n = 1 := Nat.eq_of_beq_eq_true hn
  subst hn
  obtain ⟨x, r, rfl, h⟩ := z1_ex h
  intro hM hs hl I' hI' hlen l D cA ad p e s m args below meth c H locs cls hinj hC hmK hP hS hL
  have hII := Option.some.inj (hA.1.symm.trans hI')
  subst hII
  have hC0 := hC
  obtain ⟨hx, hb, hml, hown, hts, hnw, hr, hlk⟩ := hC0
  refine lv_i2s (v := Int32.ofInt (zi2s x)) hx hb hdg (by apply Int32.toInt_inj.mp; rw [Int16.toInt_toInt32, Int32.toInt_toInt16, z32 (zrgh hs), z32 (zi2s_r x)]; rfl) ?_
  exact hK _ _ _ _ h hM (zrgs (zi2s_r x) (zrgt hs)) hl I hI' hlen l D cA ad p e s m args below meth c H locs cls hinj hC hmK hP hS hL
theorem zs_i2l  (hA : zAt mi I pc (.i2l, n, xa, xb, xc, xe)) (hK : zKp d mi Q K) (h : zst d I Q pc ls st M (.i2l, n, xa, xb, xc, xe) K) : zBg d mi pc ls st M Q := by
  obtain ⟨hdg, hok, hn⟩ := hA.ok
  have hn : n = 1 := Nat.eq_of_beq_eq_true hn
  subst hn
  obtain ⟨x, r, rfl, h⟩ := z1_ex h
  intro hM hs hl I' hI' hlen l D cA ad p e s m args below meth c H locs cls hinj hC hmK hP hS hL
  have hII := Option.some.inj (hA.1.symm.trans hI')
  subst hII
  have hC0 := hC
  obtain ⟨hx, hb, hml, hown, hts, hnw, hr, hlk⟩ := hC0
  have hx32 : zR32 x := zrgh hs
  have hx64 : zR64 x := by omega
  refine lv_i2l (v := Int64.ofInt x) hx hb hdg (by apply Int64.toInt_inj.mp; rw [Int32.toInt_toInt64, z32 hx32, z64 hx64]) ?_
  exact hK _ _ _ _ h hM (zrgs hx64 (zrgt hs)) hl I hI' hlen l D cA ad p e s m args below meth c H locs cls hinj hC hmK hP hS hL
theorem zs_l2i  (hA : zAt mi I pc (.l2i, n, xa, xb, xc, xe)) (hK : zKp d mi Q K) (h : zst d I Q pc ls st M (.l2i, n, xa, xb, xc, xe) K) : zBg d mi pc ls st M Q := by
  obtain ⟨hdg, hok, hn⟩ := hA.ok
  have hn : n = 1 := Nat.eq_of_beq_eq_true hn
  subst hn
  obtain ⟨x, r, rfl, h⟩ := zl1_ex h
  intro hM hs hl I' hI' hlen l D cA ad p e s m args below meth c H locs cls hinj hC hmK hP hS hL
  have hII := Option.some.inj (hA.1.symm.trans hI')
  subst hII
  have hC0 := hC
  obtain ⟨hx, hb, hml, hown, hts, hnw, hr, hlk⟩ := hC0
  have hx32 : zR32 (zl2i x) := by unfold zl2i zR32; have := @Int.le_bmod x 4294967296 (by decide); have := @Int.bmod_lt x 4294967296 (by decide); omega
  refine lv_l2i (v := Int32.ofInt (zl2i x)) hx hb hdg (by apply Int32.toInt_inj.mp; rw [Int64.toInt_toInt32, z32 hx32, z64 (zrgh hs)]; rfl) ?_
  exact hK _ _ _ _ h hM (zrgs hx32 (zrgt hs)) hl I hI' hlen l D cA ad p e s m args below meth c H locs cls hinj hC hmK hP hS hL
theorem zs_ladd  (hA : zAt mi I pc (.ladd, n, xa, xb, xc, xe)) (hK : zKp d mi Q K) (h : zst d I Q pc ls st M (.ladd, n, xa, xb, xc, xe) K) : zBg d mi pc ls st M Q := by
  obtain ⟨hdg, hok, hn⟩ := hA.ok
  have hn : n = 1 := Nat.eq_of_beq_eq_true hn
  subst hn
  obtain ⟨x, y, r, rfl, h⟩ := zl2_ex h
  intro hM hs hl I' hI' hlen l D cA ad p e s m args below meth c H locs cls hinj hC hmK hP hS hL
  have hII := Option.some.inj (hA.1.symm.trans hI')
  subst hII
  have hC0 := hC
  obtain ⟨hx, hb, hml, hown, hts, hnw, hr, hlk⟩ := hC0
  refine lv_ladd hx hb hdg ?_
  refine W.eq (g2 := F0 m (pc + 1) cls ((.inr (.inl (zladd x y)) :: r).map (zcv ad))) (by simp only [List.map_cons, zcv, zladd, Int32.ofInt_toInt, Int64.ofInt_toInt]) ?_
  exact hK _ _ _ _ h hM (zrgs (zr64 _) (zrgt (zrgt hs))) hl I hI' hlen l D cA ad p e s m args below meth c H locs cls hinj hC hmK hP hS hL
theorem zs_lsub  (hA : zAt mi I pc (.lsub, n, xa, xb, xc, xe)) (hK : zKp d mi Q K) (h : zst d I Q pc ls st M (.lsub, n, xa, xb, xc, xe) K) : zBg d mi pc ls st M Q := by
  obtain ⟨hdg, hok, hn⟩ := hA.ok
  have hn : n = 1 := Nat.eq_of_beq_eq_true hn
  subst hn
  obtain ⟨x, y, r, rfl, h⟩ := zl2_ex h
  intro hM hs hl I' hI' hlen l D cA ad p e s m args below meth c H locs cls hinj hC hmK hP hS hL
  have hII := Option.some.inj (hA.1.symm.trans hI')
  subst hII
  have hC0 := hC
  obtain ⟨hx, hb, hml, hown, hts, hnw, hr, hlk⟩ := hC0
  refine lv_lsub hx hb hdg ?_
  refine W.eq (g2 := F0 m (pc + 1) cls ((.inr (.inl (zlsub x y)) :: r).map (zcv ad))) (by simp only [List.map_cons, zcv, zlsub, Int32.ofInt_toInt, Int64.ofInt_toInt]) ?_
  exact hK _ _ _ _ h hM (zrgs (zr64 _) (zrgt (zrgt hs))) hl I hI' hlen l D cA ad p e s m args below meth c H locs cls hinj hC hmK hP hS hL
theorem zs_lmul  (hA : zAt mi I pc (.lmul, n, xa, xb, xc, xe)) (hK : zKp d mi Q K) (h : zst d I Q pc ls st M (.lmul, n, xa, xb, xc, xe) K) : zBg d mi pc ls st M Q := by
  obtain ⟨hdg, hok, hn⟩ := hA.ok
  have hn : n = 1 := Nat.eq_of_beq_eq_true hn
  subst hn
  obtain ⟨x, y, r, rfl, h⟩ := zl2_ex h
  intro hM hs hl I' hI' hlen l D cA ad p e s m args below meth c H locs cls hinj hC hmK hP hS hL
  have hII := Option.some.inj (hA.1.symm.trans hI')
  subst hII
  have hC0 := hC
  obtain ⟨hx, hb, hml, hown, hts, hnw, hr, hlk⟩ := hC0
  refine lv_lmul hx hb hdg ?_
  refine W.eq (g2 := F0 m (pc + 1) cls ((.inr (.inl (zlmul x y)) :: r).map (zcv ad))) (by simp only [List.map_cons, zcv, zlmul, Int32.ofInt_toInt, Int64.ofInt_toInt]) ?_
  exact hK _ _ _ _ h hM (zrgs (zr64 _) (zrgt (zrgt hs))) hl I hI' hlen l D cA ad p e s m args below meth c H locs cls hinj hC hmK hP hS hL
theorem zs_land  (hA : zAt mi I pc (.land, n, xa, xb, xc, xe)) (hK : zKp d mi Q K) (h : zst d I Q pc ls st M (.land, n, xa, xb, xc, xe) K) : zBg d mi pc ls st M Q := by
  obtain ⟨hdg, hok, hn⟩ := hA.ok
  have hn : n = 1 := Nat.eq_of_beq_eq_true hn
  subst hn
  obtain ⟨x, y, r, rfl, h⟩ := zl2_ex h
  intro hM hs hl I' hI' hlen l D cA ad p e s m args below meth c H locs cls hinj hC hmK hP hS hL
  have hII := Option.some.inj (hA.1.symm.trans hI')
  subst hII
  have hC0 := hC
  obtain ⟨hx, hb, hml, hown, hts, hnw, hr, hlk⟩ := hC0
  refine lv_land hx hb hdg ?_
  refine W.eq (g2 := F0 m (pc + 1) cls ((.inr (.inl (zland x y)) :: r).map (zcv ad))) (by simp only [List.map_cons, zcv, zland, Int32.ofInt_toInt, Int64.ofInt_toInt]) ?_
  exact hK _ _ _ _ h hM (zrgs (zr64 _) (zrgt (zrgt hs))) hl I hI' hlen l D cA ad p e s m args below meth c H locs cls hinj hC hmK hP hS hL
theorem zs_lor  (hA : zAt mi I pc (.lor, n, xa, xb, xc, xe)) (hK : zKp d mi Q K) (h : zst d I Q pc ls st M (.lor, n, xa, xb, xc, xe) K) : zBg d mi pc ls st M Q := by
  obtain ⟨hdg, hok, hn⟩ := hA.ok
  have hn : n = 1 := Nat.eq_of_beq_eq_true hn
  subst hn
  obtain ⟨x, y, r, rfl, h⟩ := zl2_ex h
  intro hM hs hl I' hI' hlen l D cA ad p e s m args below meth c H locs cls hinj hC hmK hP hS hL
  have hII := Option.some.inj (hA.1.symm.trans hI')
  subst hII
  have hC0 := hC
  obtain ⟨hx, hb, hml, hown, hts, hnw, hr, hlk⟩ := hC0
  refine lv_lor hx hb hdg ?_
  refine W.eq (g2 := F0 m (pc + 1) cls ((.inr (.inl (zlor x y)) :: r).map (zcv ad))) (by simp only [List.map_cons, zcv, zlor, Int32.ofInt_toInt, Int64.ofInt_toInt]) ?_
  exact hK _ _ _ _ h hM (zrgs (zr64 _) (zrgt (zrgt hs))) hl I hI' hlen l D cA ad p e s m args below meth c H locs cls hinj hC hmK hP hS hL
theorem zs_lxor  (hA : zAt mi I pc (.lxor, n, xa, xb, xc, xe)) (hK : zKp d mi Q K) (h : zst d I Q pc ls st M (.lxor, n, xa, xb, xc, xe) K) : zBg d mi pc ls st M Q := by
  obtain ⟨hdg, hok, hn⟩ := hA.ok
  have hn : n = 1 := Nat.eq_of_beq_eq_true hn
  subst hn
  obtain ⟨x, y, r, rfl, h⟩ := zl2_ex h
  intro hM hs hl I' hI' hlen l D cA ad p e s m args below meth c H locs cls hinj hC hmK hP hS hL
  have hII := Option.some.inj (hA.1.symm.trans hI')
  subst hII
  have hC0 := hC
  obtain ⟨hx, hb, hml, hown, hts, hnw, hr, hlk⟩ := hC0
  refine lv_lxor hx hb hdg ?_
  refine W.eq (g2 := F0 m (pc + 1) cls ((.inr (.inl (zlxor x y)) :: r).map (zcv ad))) (by simp only [List.map_cons, zcv, zlxor, Int32.ofInt_toInt, Int64.ofInt_toInt]) ?_
  exact hK _ _ _ _ h hM (zrgs (zr64 _) (zrgt (zrgt hs))) hl I hI' hlen l D cA ad p e s m args below meth c H locs cls hinj hC hmK hP hS hL
theorem zs_lshl  (hA : zAt mi I pc (.lshl, n, xa, xb, xc, xe)) (hK : zKp d mi Q K) (h : zst d I Q pc ls st M (.lshl, n, xa, xb, xc, xe) K) : zBg d mi pc ls st M Q := by
  obtain ⟨hdg, hok, hn⟩ := hA.ok
  have hn : n = 1 := Nat.eq_of_beq_eq_true hn
  subst hn
  obtain ⟨x, y, r, rfl, h⟩ := zli_ex h
  intro hM hs hl I' hI' hlen l D cA ad p e s m args below meth c H locs cls hinj hC hmK hP hS hL
  have hII := Option.some.inj (hA.1.symm.trans hI')
  subst hII
  have hC0 := hC
  obtain ⟨hx, hb, hml, hown, hts, hnw, hr, hlk⟩ := hC0
  refine lv_lshl hx hb hdg rfl ?_
  refine W.eq (g2 := F0 m (pc + 1) cls ((.inr (.inl (zlshl x y)) :: r).map (zcv ad))) (by simp only [List.map_cons, zcv, zlshl, Int32.ofInt_toInt, Int64.ofInt_toInt]) ?_
  exact hK _ _ _ _ h hM (zrgs (zr64 _) (zrgt (zrgt hs))) hl I hI' hlen l D cA ad p e s m args below meth c H locs cls hinj hC hmK hP hS hL
theorem zs_lshr  (hA : zAt mi I pc (.lshr, n, xa, xb, xc, xe)) (hK : zKp d mi Q K) (h : zst d I Q pc ls st M (.lshr, n, xa, xb, xc, xe) K) : zBg d mi pc ls st M Q := by
  obtain ⟨hdg, hok, hn⟩ := hA.ok
  have hn : n = 1 := Nat.eq_of_beq_eq_true hn
  subst hn
  obtain ⟨x, y, r, rfl, h⟩ := zli_ex h
  intro hM hs hl I' hI' hlen l D cA ad p e s m args below meth c H locs cls hinj hC hmK hP hS hL
  have hII := Option.some.inj (hA.1.symm.trans hI')
  subst hII
  have hC0 := hC
  obtain ⟨hx, hb, hml, hown, hts, hnw, hr, hlk⟩ := hC0
  refine lv_lshr hx hb hdg rfl ?_
  refine W.eq (g2 := F0 m (pc + 1) cls ((.inr (.inl (zlshr x y)) :: r).map (zcv ad))) (by simp only [List.map_cons, zcv, zlshr, Int32.ofInt_toInt, Int64.ofInt_toInt]) ?_
  exact hK _ _ _ _ h hM (zrgs (zr64 _) (zrgt (zrgt hs))) hl I hI' hlen l D cA ad p e s m args below meth c H locs cls hinj hC hmK hP hS hL
theorem zs_lushr  (hA : zAt mi I pc (.lushr, n, xa, xb, xc, xe)) (hK : zKp d mi Q K) (h : zst d I Q pc ls st M (.lushr, n, xa, xb, xc, xe) K) : zBg d mi pc ls st M Q := by
  obtain ⟨hdg, hok, hn⟩ := hA.ok
  have hn : n = 1 := Nat.eq_of_beq_eq_true hn
  subst hn
  obtain ⟨x, y, r, rfl, h⟩ := zli_ex h
  intro hM hs hl I' hI' hlen l D cA ad p e s m args below meth c H locs cls hinj hC hmK hP hS hL
  have hII := Option.some.inj (hA.1.symm.trans hI')
  subst hII
  have hC0 := hC
  obtain ⟨hx, hb, hml, hown, hts, hnw, hr, hlk⟩ := hC0
  refine lv_lushr hx hb hdg rfl ?_
  refine W.eq (g2 := F0 m (pc + 1) cls ((.inr (.inl (zlushr x y)) :: r).map (zcv ad))) (by simp only [List.map_cons, zcv, zlushr, Int32.ofInt_toInt, Int64.ofInt_toInt]) ?_
  exact hK _ _ _ _ h hM (zrgs (zr64 _) (zrgt (zrgt hs))) hl I hI' hlen l D cA ad p e s m args below meth c H locs cls hinj hC hmK hP hS hL
theorem zs_lcmp  (hA : zAt mi I pc (.lcmp, n, xa, xb, xc, xe)) (hK : zKp d mi Q K) (h : zst d I Q pc ls st M (.lcmp, n, xa, xb, xc, xe) K) : zBg d mi pc ls st M Q := by
  obtain ⟨hdg, hok, hn⟩ := hA.ok
  have hn : n = 1 := Nat.eq_of_beq_eq_true hn
  subst hn
  obtain ⟨x, y, r, rfl, h⟩ := zl2_ex h
  intro hM hs hl I' hI' hlen l D cA ad p e s m args below meth c H locs cls hinj hC hmK hP hS hL
  have hII := Option.some.inj (hA.1.symm.trans hI')
  subst hII
  have hC0 := hC
  obtain ⟨hx, hb, hml, hown, hts, hnw, hr, hlk⟩ := hC0
  have hcmp : lg_cmp (Int64.ofInt x) (Int64.ofInt y) = Int32.ofInt (zlcmp x y) := by
    have h1 : Int64.ofInt x > Int64.ofInt y ↔ y < x := by show Int64.ofInt y < Int64.ofInt x ↔ _; rw [Int64.lt_iff_toInt_lt, z64 (zrgh hs), z64 (zrgh (zrgt hs))]
    have h2 : Int64.ofInt x = Int64.ofInt y ↔ x = y := ⟨fun q => by rw [← z64 (zrgh (zrgt hs)), ← z64 (zrgh hs), q], fun q => by rw [q]⟩
    unfold lg_cmp zlcmp
    simp only [h1, h2]
    split
    · rfl
    · split <;> rfl
  refine W.lcmp hx hb hdg ?_
  rw [hcmp]
  exact hK _ _ _ _ h hM (zrgs (zlcmp_r x y) (zrgt (zrgt hs))) hl I hI' hlen l D cA ad p e s m args below meth c H locs cls hinj hC hmK hP hS hL
theorem zs_dup (hA : zAt mi I pc (.dup, n, xa, xb, xc, xe)) (hK : zKp d mi Q K) (h : zst d I Q pc ls st M (.dup, n, xa, xb, xc, xe) K) : zBg d mi pc ls st M Q := by
  obtain ⟨hdg, hok, hn⟩ := hA.ok
  have hn : n = 1 := Nat.eq_of_beq_eq_true hn
  subst hn
  have h2 : ∃ v r, st = v :: r ∧ (∀ ad, (zcv ad v).category = 1) ∧ K (pc + 1) ls (v :: v :: r) M := by
    simp only [zst] at h
    split at h
    · exact ⟨_, _, rfl, fun _ => rfl, h⟩
    · exact ⟨_, _, rfl, fun _ => rfl, h⟩
    · exact h.elim
  obtain ⟨v, r, rfl, hc1, h⟩ := h2
  intro hM hs hl I' hI' hlen l D cA ad p e s m args below meth c H locs cls hinj hC hmK hP hS hL
  have hII := Option.some.inj (hA.1.symm.trans hI')
  subst hII
  have hC0 := hC
  obtain ⟨hx, hb, hml, hown, hts, hnw, hr, hlk⟩ := hC0
  refine lv_dup hx hb hdg (hc1 ad) ?_
  exact hK _ _ _ _ h hM (zrgs (zrgh hs) hs) hl I hI' hlen l D cA ad p e s m args below meth c H locs cls hinj hC hmK hP hS hL
theorem zs_dup2  (hA : zAt mi I pc (.dup2, n, xa, xb, xc, xe)) (hK : zKp d mi Q K) (h : zst d I Q pc ls st M (.dup2, n, xa, xb, xc, xe) K) : zBg d mi pc ls st M Q := by
  obtain ⟨hdg, hok, hn⟩ := hA.ok
  have hn : n = 1 := Nat.eq_of_beq_eq_true hn
  subst hn
  obtain ⟨k, i, r, rfl, h⟩ := zri_ex h
  intro hM hs hl I' hI' hlen l D cA ad p e s m args below meth c H locs cls hinj hC hmK hP hS hL
  have hII := Option.some.inj (hA.1.symm.trans hI')
  subst hII
  have hC0 := hC
  obtain ⟨hx, hb, hml, hown, hts, hnw, hr, hlk⟩ := hC0
  refine lv_dup2_11 (va := .int (Int32.ofInt i)) (vb := .ref (ad k)) (rest := r.map (zcv ad)) hx hb hdg rfl rfl ?_
  exact hK _ _ _ _ h hM (zrgs (zrgh hs) (zrgs (zrgh (zrgt hs)) hs)) hl I hI' hlen l D cA ad p e s m args below meth c H locs cls hinj hC hmK hP hS hL
theorem zs_ifCond {q : ClassFile.Cond} {off : Int} (hA : zAt mi I pc (.ifCond q off, n, xa, xb, xc, xe)) (hK : zKp d mi Q K) (h : zst d I Q pc ls st M (.ifCond q off, n, xa, xb, xc, xe) K) : zBg d mi pc ls st M Q := by
  obtain ⟨hdg, hok, hn⟩ := hA.ok
  have hn : n = 3 := Nat.eq_of_beq_eq_true hn
  subst hn
  have ht : (pc : Int) + off = (xb : Int) := of_decide_eq_true hok
  obtain ⟨x, r, rfl, h1, h2⟩ := z1_ex h
  intro hM hs hl I' hI' hlen l D cA ad p e s m args below meth c H locs cls hinj hC hmK hP hS hL
  have hII := Option.some.inj (hA.1.symm.trans hI')
  subst hII
  have hC0 := hC
  obtain ⟨hx, hb, hml, hown, hts, hnw, hr, hlk⟩ := hC0
  have hx32 : zR32 x := zrgh hs
  have e0 : (0 : Int32) = Int32.ofInt 0 := by decide
  have h00 : zR32 0 := by decide
  have hq0 : Int32.ofInt x = 0 ↔ x = 0 := by rw [e0]; exact zeq32 hx32 h00
  have hlt0 : Int32.ofInt x < 0 ↔ x < 0 := by rw [e0]; exact zlt32 hx32 h00
  have hgt0 : 0 < Int32.ofInt x ↔ 0 < x := by rw [e0]; exact zlt32 h00 hx32
  have hle0 : Int32.ofInt x ≤ 0 ↔ x ≤ 0 := by rw [e0]; exact zle32 hx32 h00
  have hge0 : 0 ≤ Int32.ofInt x ↔ 0 ≤ x := by rw [e0]; exact zle32 h00 hx32
  have kt : zch q x 0 → W p l e (zroom d) s m args below meth c H locs 0 0 (MQ below (zPost D cA ad Q) args s 0 0 (zA ad)) (F0 m xb cls (r.map (zcv ad))) := fun hh => by
    have h := h1 hh
    exact hK _ _ _ _ h hM (zrgt hs) hl I hI' hlen l D cA ad p e s m args below meth c H locs cls hinj hC hmK hP hS hL
  have kf : ¬ zch q x 0 → W p l e (zroom d) s m args below meth c H locs 0 0 (MQ below (zPost D cA ad Q) args s 0 0 (zA ad)) (F0 m (pc + 3) cls (r.map (zcv ad))) := fun hh => by
    have h := h2 hh
    exact hK _ _ _ _ h hM (zrgt hs) hl I hI' hlen l D cA ad p e s m args below meth c H locs cls hinj hC hmK hP hS hL
  cases q with
  | eq => exact lv_if_eq hx hb hdg ht (fun z => kt (hq0.mp z)) (fun z => kf (fun y => z (hq0.mpr y)))
  | ne => exact lv_if_ne hx hb hdg ht (fun z => kt (fun y => z (hq0.mpr y))) (fun z => kf (fun y => y (hq0.mp z)))
  | lt => exact lv_if_lt hx hb hdg ht (fun z => kt (hlt0.mp z)) (fun z => kf (fun y => z (hlt0.mpr y)))
  | ge => exact lv_if_ge hx hb hdg ht (fun z => kt (hge0.mp z)) (fun z => kf (fun y => z (hge0.mpr y)))
  | gt => exact lv_if_gt hx hb hdg ht (fun z => kt (hgt0.mp z)) (fun z => kf (fun y => z (hgt0.mpr y)))
  | le => exact lv_if_le hx hb hdg ht (fun z => kt (hle0.mp z)) (fun z => kf (fun y => z (hle0.mpr y)))
theorem zs_if_icmp {q : ClassFile.Cond} {off : Int} (hA : zAt mi I pc (.if_icmp q off, n, xa, xb, xc, xe)) (hK : zKp d mi Q K) (h : zst d I Q pc ls st M (.if_icmp q off, n, xa, xb, xc, xe) K) : zBg d mi pc ls st M Q := by
  obtain ⟨hdg, hok, hn⟩ := hA.ok
  have hn : n = 3 := Nat.eq_of_beq_eq_true hn
  subst hn
  have ht : (pc : Int) + off = (xb : Int) := of_decide_eq_true hok
  obtain ⟨x, y, r, rfl, h1, h2⟩ := z2_ex h
  intro hM hs hl I' hI' hlen l D cA ad p e s m args below meth c H locs cls hinj hC hmK hP hS hL
  have hII := Option.some.inj (hA.1.symm.trans hI')
  subst hII
  have hC0 := hC
  obtain ⟨hx, hb, hml, hown, hts, hnw, hr, hlk⟩ := hC0
  have hx32 : zR32 x := zrgh (zrgt hs)
  have hy32 : zR32 y := zrgh hs
  have hq0 : Int32.ofInt x = Int32.ofInt y ↔ x = y := zeq32 hx32 hy32
  have hlt0 : Int32.ofInt x < Int32.ofInt y ↔ x < y := zlt32 hx32 hy32
  have hgt0 : Int32.ofInt y < Int32.ofInt x ↔ y < x := zlt32 hy32 hx32
  have hle0 : Int32.ofInt x ≤ Int32.ofInt y ↔ x ≤ y := zle32 hx32 hy32
  have hge0 : Int32.ofInt y ≤ Int32.ofInt x ↔ y ≤ x := zle32 hy32 hx32
  have kt : zch q x y → W p l e (zroom d) s m args below meth c H locs 0 0 (MQ below (zPost D cA ad Q) args s 0 0 (zA ad)) (F0 m xb cls (r.map (zcv ad))) := fun hh => by
    have h := h1 hh
    exact hK _ _ _ _ h hM (zrgt (zrgt hs)) hl I hI' hlen l D cA ad p e s m args below meth c H locs cls hinj hC hmK hP hS hL
  have kf : ¬ zch q x y → W p l e (zroom d) s m args below meth c H locs 0 0 (MQ below (zPost D cA ad Q) args s 0 0 (zA ad)) (F0 m (pc + 3) cls (r.map (zcv ad))) := fun hh => by
    have h := h2 hh
    exact hK _ _ _ _ h hM (zrgt (zrgt hs)) hl I hI' hlen l D cA ad p e s m args below meth c H locs cls hinj hC hmK hP hS hL
  cases q with
  | eq => exact lv_icmp_eq hx hb hdg ht (fun z => kt (hq0.mp z)) (fun z => kf (fun y => z (hq0.mpr y)))
  | ne => exact lv_icmp_ne hx hb hdg ht (fun z => kt (fun y => z (hq0.mpr y))) (fun z => kf (fun y => y (hq0.mp z)))
  | lt => exact lv_icmp_lt hx hb hdg ht (fun z => kt (hlt0.mp z)) (fun z => kf (fun y => z (hlt0.mpr y)))
  | ge => exact lv_icmp_ge hx hb hdg ht (fun z => kt (hge0.mp z)) (fun z => kf (fun y => z (hge0.mpr y)))
  | gt => exact lv_icmp_gt hx hb hdg ht (fun z => kt (hgt0.mp z)) (fun z => kf (fun y => z (hgt0.mpr y)))
  | le => exact lv_icmp_le hx hb hdg ht (fun z => kt (hle0.mp z)) (fun z => kf (fun y => z (hle0.mpr y)))
theorem zs_goto {off : Int} (hA : zAt mi I pc (.goto off, n, xa, xb, xc, xe)) (hK : zKp d mi Q K) (h : zst d I Q pc ls st M (.goto off, n, xa, xb, xc, xe) K) : zBg d mi pc ls st M Q := by
  obtain ⟨hdg, hok, hn⟩ := hA.ok
  have hn : n = 3 := Nat.eq_of_beq_eq_true hn
  subst hn
  have ht : (pc : Int) + off = (xb : Int) := of_decide_eq_true hok
  intro hM hs hl I' hI' hlen l D cA ad p e s m args below meth c H locs cls hinj hC hmK hP hS hL
  have hII := Option.some.inj (hA.1.symm.trans hI')
  subst hII
  have hC0 := hC
  obtain ⟨hx, hb, hml, hown, hts, hnw, hr, hlk⟩ := hC0
  refine lv_goto hx hb hdg ht ?_
  exact hK _ _ _ _ h hM hs hl I hI' hlen l D cA ad p e s m args below meth c H locs cls hinj hC hmK hP hS hL
end zRows
