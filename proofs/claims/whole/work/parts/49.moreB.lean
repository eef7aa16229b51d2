/-! a copy more: what admits says is what the law says of all copies -/
theorem zSs_iff {cp s : Nat} : ∀ {k : Nat}, s ∈ zSs cp k ↔ s < 2 ^ cp ∧ 1 ≤ zpop s ∧ zpop s ≤ k := by
  intro k
  induction k with
  | zero => simp only [zSs, List.not_mem_nil, false_iff]; omega
  | succ k ih =>
    simp only [zSs, List.mem_append, ih, zSk, List.mem_filter, List.mem_range, beq_iff_eq]
    omega
theorem zU_cong {ro ro' : Nat → Nat → Nat} {s s' p : Nat} : ∀ {n : Nat}, (∀ c, c < n → ro c p = ro' c p) → (∀ c, c < n → s.testBit c = s'.testBit c) → zU ro s p n = zU ro' s' p n := by
  intro n
  induction n with
  | zero => intro _ _; rfl
  | succ n ih =>
    intro h1 h2
    simp only [zU]
    rw [ih (fun c hc => h1 c (by omega)) (fun c hc => h2 c (by omega)), h1 n (by omega), h2 n (by omega)]
def zrp (cp : Nat) (ro : Nat → Nat → Nat) (r : Nat → Nat) : Nat → Nat → Nat := fun c p => if c = cp then r p else ro c p
theorem zU_old {cp s p : Nat} {ro : Nat → Nat → Nat} {r : Nat → Nat} (hs : s < 2 ^ cp) : zU (zrp cp ro r) s p (cp + 1) = zU ro s p cp := by
  simp only [zU]
  rw [if_neg (by rw [Nat.testBit_lt_two_pow hs]; decide), Nat.or_zero]
  exact zU_cong (fun c hc => by unfold zrp; rw [if_neg (by omega)]) (fun _ _ => rfl)
theorem zU_nw {cp s p : Nat} {ro : Nat → Nat → Nat} {r : Nat → Nat} (hs : s < 2 ^ cp) : zU (zrp cp ro r) (2 ^ cp + s) p (cp + 1) = zU ro s p cp ||| 2 ^ r p := by
  simp only [zU]
  rw [if_pos (by rw [Nat.testBit_two_pow_add_eq, Nat.testBit_lt_two_pow hs]; rfl)]
  congr 1
  · exact zU_cong (fun c hc => by unfold zrp; rw [if_neg (by omega)]) (fun c hc => Nat.testBit_two_pow_add_gt hc s)
  · unfold zrp; rw [if_pos rfl]
theorem zcn_old {cp s hw : Nat} {ch : Nat → Nat} {me : Nat → Int} {ro : Nat → Nat → Nat} {r : Nat → Nat} (hs : s < 2 ^ cp) : zcn (cp + 1) ch me (zrp cp ro r) hw s = zcn cp ch me ro hw s := by
  funext p
  unfold zcn
  rw [zU_old hs]
theorem zcn_nw {cp s hw : Nat} {ch : Nat → Nat} {me : Nat → Int} {ro : Nat → Nat → Nat} {r : Nat → Nat} (hs : s < 2 ^ cp) : zcn (cp + 1) ch me (zrp cp ro r) hw (2 ^ cp + s) = znew cp ch me ro hw r s := by
  funext p
  unfold zcn znew
  rw [zU_nw hs]
set_option maxRecDepth 20000 in
theorem zpop_nw : ∀ cp, cp < 8 → ∀ s, s < 2 ^ cp → zpop (2 ^ cp + s) = zpop s + 1 := by decide +kernel
theorem zbr1_some {T : Nat → Nat → Bool} (hsym : ∀ s t, T s t = T t s) : ∀ {L : List Nat}, (∀ s, s ∈ L → T s s = false) → ((zbr1 T L).isSome = true ↔ ∃ s, s ∈ L ∧ ∃ t, t ∈ L ∧ T s t = true) := by
  intro L
  induction L with
  | nil => intro _; simp [zbr1]
  | cons a r ih =>
    intro hirr
    simp only [zbr1]
    cases ho : r.find? (T a) with
    | some t =>
      simp only [Option.isSome_some, true_iff]
      exact ⟨a, List.mem_cons_self, t, List.mem_cons_of_mem _ (List.mem_of_find?_eq_some ho), List.find?_some ho⟩
    | none =>
      rw [ih (fun s hs => hirr s (List.mem_cons_of_mem _ hs))]
      constructor
      · rintro ⟨s, hs, t, ht, h⟩; exact ⟨s, List.mem_cons_of_mem _ hs, t, List.mem_cons_of_mem _ ht, h⟩
      · rintro ⟨s, hs, t, ht, h⟩
        rcases List.mem_cons.mp hs with e1 | hs1
        · rcases List.mem_cons.mp ht with e2 | ht1
          · rw [e1, e2, hirr _ List.mem_cons_self] at h; cases h
          · rw [e1] at h; exact absurd h (List.find?_eq_none.mp ho t ht1)
        · rcases List.mem_cons.mp ht with e2 | ht1
          · rw [e2, hsym] at h; exact absurd h (List.find?_eq_none.mp ho s hs1)
          · exact ⟨s, hs1, t, ht1, h⟩
theorem zfrm_cong {pl S s c : Nat} {ro ro' : Nat → Nat → Nat} {g : Nat → Nat} (h : ∀ p, ro c p = ro' c p) : zfrm pl S ro g s c = zfrm pl S ro' g s c := by
  unfold zfrm
  rw [show ro c = ro' c from funext h]
theorem zL_split {cp ms s' : Nat} (h8 : cp < 8) (h : s' ∈ zSs (cp + 1) ms) : s' ∈ zSs cp ms ∨ ∃ s, s < 2 ^ cp ∧ s' = 2 ^ cp + s ∧ zpop s + 1 ≤ ms := by
  obtain ⟨h1, h2, h3⟩ := zSs_iff.mp h
  rw [Nat.pow_succ] at h1
  rcases Nat.lt_or_ge s' (2 ^ cp) with hs | hs
  · exact Or.inl (zSs_iff.mpr ⟨hs, h2, h3⟩)
  · refine Or.inr ⟨s' - 2 ^ cp, by omega, by omega, ?_⟩
    have := zpop_nw cp h8 (s' - 2 ^ cp) (by omega)
    rw [show 2 ^ cp + (s' - 2 ^ cp) = s' by omega] at this
    omega
theorem zL_old {cp ms s : Nat} (h : s ∈ zSs cp ms) : s ∈ zSs (cp + 1) ms ∧ s < 2 ^ cp := by
  obtain ⟨h1, h2, h3⟩ := zSs_iff.mp h
  exact ⟨zSs_iff.mpr ⟨by rw [Nat.pow_succ]; omega, h2, h3⟩, h1⟩
theorem zL_new {cp ms s : Nat} (h8 : cp < 8) (hs : s < 2 ^ cp) (hp : zpop s + 1 ≤ ms) : 2 ^ cp + s ∈ zSs (cp + 1) ms := by
  have := zpop_nw cp h8 s hs
  exact zSs_iff.mpr ⟨by rw [Nat.pow_succ]; omega, by omega, by omega⟩
/-- the law, with a copy more whose row is r, is broken just where it was, or where admits says no (but for a row that is there) -/
theorem zbk_more {pl cp ms hw l : Nat} {ch : Nat → Nat} {me : Nat → Int} {ro : Nat → Nat → Nat} {r : Nat → Nat} (h8 : cp < 8) (hms : 1 ≤ ms) (hl : l ≤ 1) : zbk pl (cp + 1) ch me (zrp cp ro r) hw (zSs (cp + 1) ms) l (2 ^ pl - 1) = true ↔ zbk pl cp ch me ro hw (zSs cp ms) l (2 ^ pl - 1) = true ∨ (l = 0 ∧ ∃ s, s ∈ zSs cp ms ∧ zfts pl (2 ^ pl - 1) (zcn cp ch me ro hw s) r = true) ∨ zharm pl cp ch me ro hw (zSs cp ms) l r 0 ∨ ∃ s, s ∈ zSs cp ms ∧ zpop s < ms ∧ zharm pl cp ch me ro hw (zSs cp ms) l r s := by
  have hpp := Nat.two_pow_pos cp
  -- the sets with the new copy: nothing, or a set of the list with room for one
  have hnew : ∀ (X : Nat → Prop), (∃ s, s < 2 ^ cp ∧ zpop s + 1 ≤ ms ∧ X s) ↔ X 0 ∨ ∃ s, s ∈ zSs cp ms ∧ zpop s < ms ∧ X s := by
    intro X
    constructor
    · rintro ⟨s, h1, h2, h3⟩
      rcases Nat.eq_zero_or_pos (zpop s) with h0 | h0
      · have : s = 0 := by
          rcases Nat.eq_zero_or_pos s with h | h
          · exact h
          · have h256 : s < 256 := Nat.lt_of_lt_of_le h1 (zb_p2le (b := 8) (by omega))
            have := zpop_s s h256 h
            omega
        subst this
        exact Or.inl h3
      · exact Or.inr ⟨s, zSs_iff.mpr ⟨h1, by omega, by omega⟩, by omega, h3⟩
    · rintro (h | ⟨s, h1, h2, h3⟩)
      · exact ⟨0, hpp, by rw [zpop_0]; omega, h⟩
      · exact ⟨s, (zSs_iff.mp h1).1, by omega, h3⟩
  unfold zbk
  by_cases e0 : l = 0
  · rw [if_pos e0, if_pos e0, zbr0_some, zbr0_some]
    have hh : ∀ s, zharm pl cp ch me ro hw (zSs cp ms) l r s ↔ ∃ c, c < cp ∧ zfrm pl (2 ^ pl - 1) ro (znew cp ch me ro hw r s) s c = true := by
      intro s; unfold zharm; rw [if_pos e0]
    simp only [hh]
    have := hnew (fun s => ∃ c, c < cp ∧ zfrm pl (2 ^ pl - 1) ro (znew cp ch me ro hw r s) s c = true)
    rw [← this]
    have hcb : ∀ s c, s < 2 ^ cp → c < cp → (2 ^ cp + s).testBit c = s.testBit c := fun s c _ hc => Nat.testBit_two_pow_add_gt hc s
    constructor
    · rintro ⟨s', hs', c, hc, hP⟩
      rcases zL_split h8 hs' with hs | ⟨s, hs, rfl, hp⟩
      · have hlt := (zSs_iff.mp hs).1
        rw [zcn_old hlt] at hP
        by_cases hcc : c = cp
        · subst hcc
          refine Or.inr (Or.inl ⟨e0, s', hs, ?_⟩)
          unfold zfrm at hP
          rw [Bool.and_eq_true] at hP
          have : zrp c ro r c = r := by funext p; unfold zrp; rw [if_pos rfl]
          rw [this] at hP
          exact hP.2
        · refine Or.inl ⟨s', hs, c, by omega, ?_⟩
          rw [← zfrm_cong (ro := zrp cp ro r) (ro' := ro) (fun p => by unfold zrp; rw [if_neg hcc])]
          exact hP
      · rw [zcn_nw hs] at hP
        have hcc : c ≠ cp := by
          intro e
          subst e
          unfold zfrm at hP
          rw [Nat.testBit_two_pow_add_eq, Nat.testBit_lt_two_pow hs] at hP
          simp at hP
        refine Or.inr (Or.inr ⟨s, hs, hp, c, by omega, ?_⟩)
        rw [← zfrm_cong (ro := zrp cp ro r) (ro' := ro) (fun p => by unfold zrp; rw [if_neg hcc])]
        unfold zfrm at hP ⊢
        rw [hcb s c hs (by omega)] at hP
        exact hP
    · rintro (⟨s, hs, c, hc, hP⟩ | ⟨_, s, hs, hP⟩ | ⟨s, hs, hp, c, hc, hP⟩)
      · have hlt := (zL_old hs)
        refine ⟨s, hlt.1, c, by omega, ?_⟩
        rw [zcn_old hlt.2, zfrm_cong (ro := zrp cp ro r) (ro' := ro) (fun p => by unfold zrp; rw [if_neg (by omega)])]
        exact hP
      · have hlt := (zL_old hs)
        refine ⟨s, hlt.1, cp, by omega, ?_⟩
        rw [zcn_old hlt.2]
        unfold zfrm
        have : zrp cp ro r cp = r := by funext p; unfold zrp; rw [if_pos rfl]
        rw [this, Nat.testBit_lt_two_pow hlt.2, hP]
        rfl
      · refine ⟨2 ^ cp + s, zL_new h8 hs hp, c, by omega, ?_⟩
        rw [zcn_nw hs, zfrm_cong (ro := zrp cp ro r) (ro' := ro) (fun p => by unfold zrp; rw [if_neg (by omega)])]
        unfold zfrm at hP ⊢
        rw [hcb s c hs hc]
        exact hP
  · have e1 : l = 1 := by omega
    rw [if_neg e0, if_neg e0, if_pos e1, if_pos e1]
    rw [zbr1_some (T := fun s => ztch pl (2 ^ pl - 1) (zcn (cp + 1) ch me (zrp cp ro r) hw) (zcn (cp + 1) ch me (zrp cp ro r) hw s) s) (fun s t => ztch_sym) (fun s hs => ztch_self (zSs_mem hs).1), zbr1_some (T := fun s => ztch pl (2 ^ pl - 1) (zcn cp ch me ro hw) (zcn cp ch me ro hw s) s) (fun s t => ztch_sym) (fun s hs => ztch_self (zSs_mem hs).1)]
    have hh : ∀ s, zharm pl cp ch me ro hw (zSs cp ms) l r s ↔ ∃ t, t ∈ zSs cp ms ∧ ztch pl (2 ^ pl - 1) (zcn cp ch me ro hw) (znew cp ch me ro hw r s) s t = true := by
      intro s; unfold zharm; rw [if_neg e0]
    simp only [hh]
    have := hnew (fun s => ∃ t, t ∈ zSs cp ms ∧ ztch pl (2 ^ pl - 1) (zcn cp ch me ro hw) (znew cp ch me ro hw r s) s t = true)
    rw [← this]
    have hand : ∀ s t, s < 2 ^ cp → t < 2 ^ cp → (2 ^ cp + s) &&& t = s &&& t := by
      intro s t hs ht
      apply Nat.eq_of_testBit_eq
      intro i
      rw [Nat.testBit_and, Nat.testBit_and]
      rcases Nat.lt_or_ge i cp with hi | hi
      · rw [Nat.testBit_two_pow_add_gt hi]
      · rw [Nat.testBit_lt_two_pow (Nat.lt_of_lt_of_le ht (zb_p2le hi))]
        simp
    have hoo : ∀ s t, s < 2 ^ cp → t < 2 ^ cp → ztch pl (2 ^ pl - 1) (zcn (cp + 1) ch me (zrp cp ro r) hw) (zcn (cp + 1) ch me (zrp cp ro r) hw s) s t = ztch pl (2 ^ pl - 1) (zcn cp ch me ro hw) (zcn cp ch me ro hw s) s t := by
      intro s t hs ht
      unfold ztch
      rw [zcn_old hs, zcn_old ht]
    have hno : ∀ s t, s < 2 ^ cp → t < 2 ^ cp → ztch pl (2 ^ pl - 1) (zcn (cp + 1) ch me (zrp cp ro r) hw) (zcn (cp + 1) ch me (zrp cp ro r) hw (2 ^ cp + s)) (2 ^ cp + s) t = ztch pl (2 ^ pl - 1) (zcn cp ch me ro hw) (znew cp ch me ro hw r s) s t := by
      intro s t hs ht
      unfold ztch
      rw [zcn_nw hs, zcn_old ht, hand s t hs ht]
    constructor
    · rintro ⟨s', hs', t', ht', hP⟩
      rcases zL_split h8 hs' with hs | ⟨s, hs, rfl, hp⟩
      · rcases zL_split h8 ht' with ht | ⟨t, ht, rfl, hp⟩
        · rw [hoo s' t' (zSs_iff.mp hs).1 (zSs_iff.mp ht).1] at hP
          exact Or.inl ⟨s', hs, t', ht, hP⟩
        · rw [ztch_sym, hno t s' ht (zSs_iff.mp hs).1] at hP
          exact Or.inr (Or.inr ⟨t, ht, hp, s', hs, hP⟩)
      · rcases zL_split h8 ht' with ht | ⟨t, ht, rfl, hp2⟩
        · rw [hno s t' hs (zSs_iff.mp ht).1] at hP
          exact Or.inr (Or.inr ⟨s, hs, hp, t', ht, hP⟩)
        · exfalso
          unfold ztch at hP
          rw [Bool.and_eq_true, beq_iff_eq] at hP
          have hb : ((2 ^ cp + s) &&& (2 ^ cp + t)).testBit cp = true := by
            rw [Nat.testBit_and, Nat.testBit_two_pow_add_eq, Nat.testBit_two_pow_add_eq, Nat.testBit_lt_two_pow hs, Nat.testBit_lt_two_pow ht]
            rfl
          rw [hP.1, Nat.zero_testBit] at hb
          cases hb
    · rintro (⟨s, hs, t, ht, hP⟩ | ⟨h0, _⟩ | ⟨s, hs, hp, t, ht, hP⟩)
      · exact ⟨s, (zL_old hs).1, t, (zL_old ht).1, by rw [hoo s t (zL_old hs).2 (zL_old ht).2]; exact hP⟩
      · exact absurd h0 e0
      · exact ⟨2 ^ cp + s, zL_new h8 hs hp, t, (zL_old ht).1, by rw [hno s t hs (zL_old ht).2]; exact hP⟩
def zrow (pl : Nat) (ch : Nat → Nat) (k : Nat) : Nat → Nat := zdt (zn6 pl ch 0) 6 k
def zthere (pl cp : Nat) (ro : Nat → Nat → Nat) (r : Nat → Nat) : Bool := (List.range cp).any (fun c => (List.range pl).all (fun p => ro c p == r p))
theorem zthere_iff {pl cp : Nat} {ro : Nat → Nat → Nat} {r : Nat → Nat} : zthere pl cp ro r = true ↔ ∃ c, c < cp ∧ ∀ p, p < pl → ro c p = r p := by
  unfold zthere
  simp
/-- the row k is no copy's, and the law holds with it -/
def zacc (pl cp : Nat) (ch : Nat → Nat) (me : Nat → Int) (ro : Nat → Nat → Nat) (ms hw l k : Nat) : Bool := !zthere pl cp ro (zrow pl ch k) && !zbk pl (cp + 1) ch me (zrp cp ro (zrow pl ch k)) hw (zSs (cp + 1) ms) l (2 ^ pl - 1)
theorem zacc_adm {pl cp ms hw l k : Nat} {ch : Nat → Nat} {me : Nat → Int} {ro : Nat → Nat → Nat} (h8 : cp < 8) (hms : 1 ≤ ms) (hl : l ≤ 1) (hb : zbk pl cp ch me ro hw (zSs cp ms) l (2 ^ pl - 1) = false) : zacc pl cp ch me ro ms hw l k = true ↔ zadm pl cp ch me ro ms hw (zSs cp ms) l (zrow pl ch k) := by
  unfold zacc zadm
  have hm := zbk_more (pl := pl) (ms := ms) (hw := hw) (l := l) (ch := ch) (me := me) (ro := ro) (r := zrow pl ch k) h8 hms hl
  rw [hb] at hm
  rw [Bool.and_eq_true, Bool.not_eq_true', Bool.not_eq_true', ← zthere_iff]
  have e1 : zbk pl (cp + 1) ch me (zrp cp ro (zrow pl ch k)) hw (zSs (cp + 1) ms) l (2 ^ pl - 1) = false ↔ ¬ zbk pl (cp + 1) ch me (zrp cp ro (zrow pl ch k)) hw (zSs (cp + 1) ms) l (2 ^ pl - 1) = true := by simp
  rw [e1, hm]
  constructor
  · rintro ⟨a, b⟩
    refine ⟨by rw [a]; decide, fun e h => b (Or.inr (Or.inl ⟨e, h⟩)), fun h => b (Or.inr (Or.inr (Or.inl h))), fun s hs hp h => b (Or.inr (Or.inr (Or.inr ⟨s, hs, hp, h⟩)))⟩
  · rintro ⟨a, b, c, e⟩
    refine ⟨by simpa using a, ?_⟩
    rintro (h | ⟨h1, h2⟩ | h | ⟨s, hs, hp, h⟩)
    · cases h
    · exact b h1 h2
    · exact c h
    · exact e s hs hp h
theorem zacc_no {pl cp ms hw l k : Nat} {ch : Nat → Nat} {me : Nat → Int} {ro : Nat → Nat → Nat} (h8 : cp < 8) (hms : 1 ≤ ms) (hl : l ≤ 1) (hb : zbk pl cp ch me ro hw (zSs cp ms) l (2 ^ pl - 1) = true) : zacc pl cp ch me ro ms hw l k = false := by
  have hm := (zbk_more (pl := pl) (ms := ms) (hw := hw) (l := l) (ch := ch) (me := me) (ro := ro) (r := zrow pl ch k) h8 hms hl).mpr (Or.inl hb)
  unfold zacc
  rw [hm]
  simp
def zkm (pl : Nat) (x y : Int) : Prop := (x = 0 ∨ x = 1) ∧ zisC pl y
def zmv (pl : Nat) (ch : Nat → Nat) (o : Option Nat) (q : Nat) : Int := match o with
  | none => -4
  | some k => (zrow pl ch k q : Int)
def zsMore (pl cp : Nat) (ch : Nat → Nat) (me : Nat → Int) (ro : Nat → Nat → Nat) (ms hw : Nat) (x y r : Int) : Prop := (¬ zkm pl x y ∧ r = -1) ∨ (zkm pl x y ∧ r = if 8 ≤ cp then -3 else zmv pl ch (zfd (zacc pl cp ch me ro ms hw x.toNat) (zwq (zn6 pl ch 0) 6 0) 0) y.toNat)
theorem zrow_lt {pl k p : Nat} {ch : Nat → Nat} (hp : p < pl) (hc : 2 ≤ ch p) : zrow pl ch k p < ch p := by
  have := zdt_lt (n := zn6 pl ch 0) (P := 6) (k := k) (q := p) zn6_pos
  unfold zrow
  have hn : zn6 pl ch 0 p = ch p := by unfold zn6; rw [if_pos hp]; omega
  omega
theorem qc92 {d : Nat} {M : zMem} {pl cp ms hw : Nat} {ch : Nat → Nat} {me : Nat → Int} {ro : Nat → Nat → Nat} {v : Nat → Nat} {x y : Int} (hC : zCC M pl cp ch me ro ms hw v) :
    zCi (d + 10) 92 [.inr (.inr 0), .inl x, .inl y] M (fun r M' => zsMore pl cp ch me ro ms hw x y r ∧ zfC M M') := by
  obtain ⟨h1, h2, h3, h4, h5, h6, h7⟩ := id hC
  have h61 := h1.1
  have hcp := h1.2.1
  obtain ⟨h92, h256, h256p, hcp2⟩ := zSs_ok h1.2.1 h6
  have hT : zwq (zn6 pl ch 0) 6 0 ≤ 4 ^ 6 := zwq_le (zn6_le (fun p hp => (h1.2.2.1 p hp).2.1) (by decide)) rfl
  have h46 : (4 : Nat) ^ 6 = 4096 := by decide
  have go : zkm pl x y → ∃ Q2, True ∧ True → True := fun _ => ⟨True, fun _ => trivial⟩
  have T : (x = 0 ∨ x = 1) → ∃ Q1, zCi (d + 9) 34 [.inr (.inr 13), .inl y] M Q1 ∧ ∀ v1 M1, Q1 v1 M1 →
      ((v1 : Int) ≠ 0 →
        ((M1 4 9 : Int) < 8 →
          ∃ Q2, zCi (d + 9) 109 [.inr (.inr 0), .inl x] M1 Q2 ∧ ∀ v2 M2, Q2 v2 M2 →
          ((v2 : Int) = 0 →
            ∃ Q3, zCi (d + 9) 40 [.inr (.inr 13)] M2 Q3 ∧ ∀ v3 M3, Q3 v3 M3 →
            zBg (d + 9 + 1) 92 65 [zR 0, zI x, zI y, zI v3, zI 0] [] M3 (fun q M' => ∃ w : Int, q = some (.inl w) ∧ zsMore pl cp ch me ro ms hw x y w ∧ zfC M M')) ∧
          (¬ (v2 : Int) = 0 → ∃ w : Int, zI (-4) = some (.inl w) ∧ zsMore pl cp ch me ro ms hw x y w ∧ zfC M M2)) ∧
        (¬ (M1 4 9 : Int) < 8 → ∃ w : Int, zI (-3) = some (.inl w) ∧ zsMore pl cp ch me ro ms hw x y w ∧ zfC M M1)) ∧
      (¬ (v1 : Int) ≠ 0 → ∃ w : Int, zI (-1) = some (.inl w) ∧ zsMore pl cp ch me ro ms hw x y w ∧ zfC M M1) := by
    intro hx
    refine ⟨_, qc34 h2.1, ?_⟩
    rintro v1 M1 ⟨hv1, rfl⟩
    rw [h2.2.1]
    refine ⟨fun hz => ?_, fun hz => ⟨_, rfl, Or.inl ⟨fun hk => ?_, rfl⟩, zfC.rf⟩⟩
    · have hy : zisC pl y := by
        rcases hv1 with ⟨_, a⟩ | ⟨a, _⟩
        · exact a
        · exact absurd a hz
      have hy1 := hy.1
      have hy2 := hy.2
      have hk : zkm pl x y := ⟨hx, hy⟩
      refine ⟨fun h8 => ?_, fun h8 => ⟨_, rfl, Or.inr ⟨hk, by rw [if_pos (by omega)]⟩, zfC.rf⟩⟩
      have h8' : cp < 8 := by omega
      obtain ⟨l, hl, rfl⟩ : ∃ l : Nat, l ≤ 1 ∧ x = (l : Int) := ⟨x.toNat, by omega, by omega⟩
      refine ⟨_, qc109 (l := l) hC (by omega), ?_⟩
      rintro v2 M2 ⟨a1, a2, a3⟩
      have hr := zpC_r (by omega) a1
      refine ⟨fun hv0 => ⟨_, qc40 (h2.fr a3).1 h61 (fun p hp => ⟨(h2.fr a3).2.2.1 p hp, (h1.2.2.1 p hp).1, (h1.2.2.1 p hp).2.1⟩), ?_⟩, fun hv0 => ⟨_, rfl, Or.inr ⟨hk, ?_⟩, a3⟩⟩
      · rintro v3 M3 ⟨rfl, rfl⟩
        have hb : zbk pl cp ch me ro hw (zSs cp ms) l (2 ^ pl - 1) = false := by
          cases e : zbk pl cp ch me ro hw (zSs cp ms) l (2 ^ pl - 1) with
          | false => rfl
          | true => rw [e] at hr; simp at hr; omega
        have key : ∀ (m k : Nat) (M4 : zMem), k + m = zwq (zn6 pl ch 0) 6 0 → zfC M1 M4 → zSt M4 pl cp ch me ro ms hw l → zfd (zacc pl cp ch me ro ms hw l) m k = zfd (zacc pl cp ch me ro ms hw l) (zwq (zn6 pl ch 0) 6 0) 0 →
            zBg (d + 9 + 1) 92 65 [zR 0, zI (l : Int), zI y, zI (zwq (zn6 pl ch 0) 6 0 : Int), zI (k : Int)] [] M4 (fun q M' => ∃ w : Int, q = some (.inl w) ∧ zsMore pl cp ch me ro ms hw (l : Int) y w ∧ zfC M1 M') := by
          intro m
          induction m with
          | zero =>
            intro k M4 hk2 f4 s4 hfd
            refine zv92_65 _ _ _ _ ⟨fun _ => ⟨_, rfl, Or.inr ⟨hk, ?_⟩, f4⟩, fun h => absurd (by omega) h⟩
            rw [if_neg (by omega), Int.toNat_natCast, ← hfd]
            rfl
          | succ m ih =>
            intro k M4 hk2 f4 s4 hfd
            refine zv92_65 _ _ _ _ ⟨fun h => by omega, fun _ => ⟨_, qc41 (h2.fr f4).1 h61 (fun p hp => ⟨(h2.fr f4).2.2.1 p hp, (h1.2.2.1 p hp).1, (h1.2.2.1 p hp).2.1⟩) (by omega), ?_⟩⟩
            rintro M5 ⟨b1, b2⟩
            have f5 : zfC M1 M5 := f4.tr (fun k hk _ _ => b2 k hk)
            have hrl : ∀ p, p < pl → zrow pl ch k p < ch p := fun p hp => zrow_lt hp (h1.2.2.1 p hp).1
            have hr5 : ∀ p, p < pl → zrow pl ch k p ≤ 5 := fun p hp => by have := hrl p hp; have := (h1.2.2.1 p hp).2.1; omega
            refine ⟨_, qc60 (b := 0) (n := 6) (v := zrow pl ch k) (h2.fr f5).1 h61 rfl (by omega) (by decide) (fun p hp => ⟨by rw [Nat.zero_add, b1 p hp]; rfl, hr5 p hp⟩), ?_⟩
            rintro w6 M6 ⟨rfl, rfl⟩
            have s6 : zSt M6 pl cp ch me ro ms hw l := by
              obtain ⟨x1, x2, x3⟩ := s4
              refine ⟨zJn_of x1 (fun j _ _ => by rw [b2 42 (by decide)]) (b2 43 (by decide)), ?_, fun hl2 => by omega⟩
              unfold zLs
              rw [b2 42 (by decide), b2 44 (by decide), b2 45 (by decide), b2 46 (by decide)]
              exact x2
            refine ⟨_, qc28 (l := l) (r := zrow pl ch k) h1 s6.1 s6.2.1 h92 h256 hrl, ?_⟩
            rintro w7 M7 ⟨hw7, rfl⟩
            have hacc := zacc_adm (pl := pl) (ms := ms) (hw := hw) (l := l) (k := k) (ch := ch) (me := me) (ro := ro) h8' h5 hl hb
            have hfd2 : zfd (zacc pl cp ch me ro ms hw l) (m + 1) k = if zacc pl cp ch me ro ms hw l k then some k else zfd (zacc pl cp ch me ro ms hw l) m (k + 1) := rfl
            rw [hfd2] at hfd
            refine ⟨fun h0 => ⟨⟨by omega, by omega⟩, ih (k + 1) M7 (by omega) f5 s6 ?_⟩, fun h0 => ⟨by omega, by omega, _, rfl, Or.inr ⟨hk, ?_⟩, f5⟩⟩
            · rw [if_neg (fun e => ?_)] at hfd
              · exact hfd
              · rcases hw7 with ⟨h9, _⟩ | ⟨_, h9⟩
                · omega
                · exact h9 (hacc.mp e)
            · have hyes : zacc pl cp ch me ro ms hw l k = true := by
                rcases hw7 with ⟨_, h9⟩ | ⟨h9, _⟩
                · exact hacc.mpr h9
                · exact absurd h9 h0
              rw [if_pos hyes] at hfd
              rw [if_neg (by omega), Int.toNat_natCast, ← hfd, b1 y.toNat (by omega)]
              rfl
        exact key _ 0 M3 (by omega) a3 a2 rfl
      · have hb : zbk pl cp ch me ro hw (zSs cp ms) l (2 ^ pl - 1) = true := by
          cases e : zbk pl cp ch me ro hw (zSs cp ms) l (2 ^ pl - 1) with
          | true => rfl
          | false => rw [e] at hr; exact absurd hr hv0
        rw [if_neg (by omega), Int.toNat_natCast, zfd_none_of (fun k _ _ => zacc_no h8' h5 hl hb)]
        rfl
    · rcases hv1 with ⟨a, _⟩ | ⟨_, a⟩
      · omega
      · exact a hk.2
  refine zk92 (zv92_0 _ _ ⟨fun h0 => T (Or.inl h0), fun h0 => ⟨fun h1' => ⟨_, rfl, Or.inl ⟨fun hk => ?_, rfl⟩, zfC.rf⟩, fun h1' => T (Or.inr (by omega))⟩⟩)
  rcases hk.1 with h | h
  · exact h0 h
  · exact h1' h
