/-! put: orders as two bits a choice; the class -/
def zsq (o k : Nat) : Nat := o / 4 ^ (3 - k) % 4
theorem zsq_lt {o k : Nat} : zsq o k < 4 := Nat.mod_lt _ (by decide)
theorem zsq_z : ∀ o : Nat, o < 256 → ∀ k : Nat, k < 4 → ziand (zishr (o : Int) (2 * (3 - (k : Int)))) 3 = (zsq o k : Int) := by
  intro o ho k hk
  rw [show 2 * (3 - (k : Int)) = ((2 * (3 - k) : Nat) : Int) by omega, zb_shr (by omega) (by omega)]
  have h1 : o / 2 ^ (2 * (3 - k)) < 2 ^ 31 := Nat.lt_of_le_of_lt (Nat.div_le_self _ _) (by omega)
  have h2 := zb_and (a := o / 2 ^ (2 * (3 - k))) (b := 3) h1
  refine h2.trans ?_
  rw [show 3 = 2 ^ 2 - 1 by decide, Nat.and_two_pow_sub_one_eq_mod, Nat.pow_mul]
  rfl
/-- the class: each of the first n once, those behind stay -/
def zio (o n : Nat) : Nat → Nat → Nat → Bool
  | 0, _, seen => seen == 15
  | m + 1, k, seen => if n ≤ k ∧ zsq o k ≠ k then false else zio o n m (k + 1) (seen ||| 2 ^ zsq o k)
def zioK (n o : Nat) : Bool := zio o n 4 0 0
/-- the reference: each of the first n once, those behind 0 -/
def zrv (o n : Nat) : Nat → Nat → Nat → Bool → Bool
  | 0, _, _, b => b
  | m + 1, c, met, b => zrv o n m (c + 1) (if c < n then met ||| 2 ^ zsq o c else met) (b && (if c < n then decide (zsq o c < n) && !met.testBit (zsq o c) else zsq o c == 0))
def zrvK (n o : Nat) : Bool := zrv o n 4 0 0 true
def zLc (n : Nat) : List Nat := (List.range 256).filter (zioK n)
def zLr (n : Nat) : List Nat := (List.range 256).filter (zrvK n)
def ztl (n : Nat) : Nat := if n = 2 then 11 else if n = 3 then 3 else 0
set_option maxRecDepth 20000 in
theorem zL_map : ∀ n, n < 5 → 2 ≤ n → zLc n = (zLr n).map (fun c => c + ztl n) ∧ zLr n ≠ [] := by decide +kernel
def zchk (n : Nat) : Bool := (List.range 256).all (fun c => !zrvK n c || (decide (c + ztl n < 256) && (List.range n).all (fun k => zsq (c + ztl n) k == zsq c k && decide (zsq c k < n))))
set_option maxRecDepth 20000 in
theorem zchk_ok : zchk 2 = true ∧ zchk 3 = true ∧ zchk 4 = true := by decide +kernel
theorem zsq_tl (n : Nat) (h5 : n < 5) (h2 : 2 ≤ n) (c : Nat) (hc : c < 256) (hv : zrvK n c = true) : c + ztl n < 256 ∧ ∀ k, k < n → zsq (c + ztl n) k = zsq c k ∧ zsq c k < n := by
  have hk : zchk n = true := by
    have : n = 2 ∨ n = 3 ∨ n = 4 := by omega
    rcases this with rfl | rfl | rfl
    · exact zchk_ok.1
    · exact zchk_ok.2.1
    · exact zchk_ok.2.2
  unfold zchk at hk
  have h1 := List.all_eq_true.mp hk c (List.mem_range.mpr hc)
  rw [hv] at h1
  simp only [Bool.not_true, Bool.false_or, Bool.and_eq_true, decide_eq_true_eq] at h1
  refine ⟨h1.1, fun k hkn => ?_⟩
  have h3 := List.all_eq_true.mp h1.2 k (List.mem_range.mpr hkn)
  simp only [Bool.and_eq_true, decide_eq_true_eq, beq_iff_eq] at h3
  exact h3
/-- the first of the list with the least f -/
def zhl (f : Nat → Nat) : List Nat → Nat × Option Nat → Nat × Option Nat
  | [], st => st
  | c :: r, st => zhl f r (if f c < st.1 then (f c, some c) else st)
theorem zhl_map {f f' : Nat → Nat} {t : Nat} : ∀ {L : List Nat} {l : Nat} {o : Option Nat}, (∀ c, c ∈ L → f' (c + t) = f c) → zhl f' (L.map (fun c => c + t)) (l, o.map (fun c => c + t)) = ((zhl f L (l, o)).1, (zhl f L (l, o)).2.map (fun c => c + t)) := by
  intro L
  induction L with
  | nil => intro l o _; rfl
  | cons c r ih =>
    intro l o h
    simp only [zhl, List.map_cons]
    rw [h c List.mem_cons_self]
    by_cases hc : f c < l
    · rw [if_pos hc, if_pos hc]
      exact ih (o := some c) (fun x hx => h x (List.mem_cons_of_mem _ hx))
    · rw [if_neg hc, if_neg hc]
      exact ih (fun x hx => h x (List.mem_cons_of_mem _ hx))
theorem zhl_start {f : Nat → Nat} {L : List Nat} {a b : Nat} (h : ∀ c, c ∈ L → f c < a ∧ f c < b) (hne : L ≠ []) : zhl f L (a, none) = zhl f L (b, none) ∧ ∃ c, c ∈ L ∧ (zhl f L (a, none)).2 = some c := by
  have hkeep : ∀ (L : List Nat) (st : Nat × Option Nat) (x : Nat), st.2 = some x → ∃ c, (c ∈ L ∨ c = x) ∧ (zhl f L st).2 = some c := by
    intro L
    induction L with
    | nil => intro st x h; exact ⟨x, Or.inr rfl, h⟩
    | cons c r ih =>
      intro st x h
      simp only [zhl]
      split
      · obtain ⟨y, h1, h2⟩ := ih (f c, some c) c rfl
        refine ⟨y, Or.inl ?_, h2⟩
        rcases h1 with h1 | h1
        · exact List.mem_cons_of_mem _ h1
        · rw [h1]; exact List.mem_cons_self
      · obtain ⟨y, h1, h2⟩ := ih st x h
        refine ⟨y, ?_, h2⟩
        rcases h1 with h1 | h1
        · exact Or.inl (List.mem_cons_of_mem _ h1)
        · exact Or.inr h1
  cases L with
  | nil => exact absurd rfl hne
  | cons c r =>
    simp only [zhl]
    have := h c List.mem_cons_self
    rw [if_pos this.1, if_pos this.2]
    refine ⟨rfl, ?_⟩
    obtain ⟨y, h1, h2⟩ := hkeep r (f c, some c) c rfl
    refine ⟨y, ?_, h2⟩
    rcases h1 with h1 | h1
    · exact List.mem_cons_of_mem _ h1
    · rw [h1]; exact List.mem_cons_self
/-- g (r 0) + g (r 1) + .. -/
def zps (g : Nat → Nat) (r : Nat → Nat) : Nat → Nat
  | 0 => 0
  | n + 1 => zps g r n + g (r n)
theorem zps_le {g r : Nat → Nat} {b : Nat} (h : ∀ x, g x ≤ b) : ∀ n, zps g r n ≤ b * n := by
  intro n
  induction n with
  | zero => exact Nat.zero_le _
  | succ n ih =>
    simp only [zps, Nat.mul_succ]
    have := h (r n)
    omega
def ztly (r : Nat → Nat) (k : Nat) : Nat → Nat
  | 0 => 0
  | n + 1 => ztly r k n + (if r n = k then 1 else 0)
theorem ztly_le {r : Nat → Nat} {k : Nat} : ∀ n, ztly r k n ≤ n := by
  intro n
  induction n with
  | zero => exact Nat.le_refl _
  | succ n ih => simp only [ztly]; split <;> omega
theorem zps_tally {g r : Nat → Nat} : ∀ {n : Nat}, (∀ c, c < n → r c < 4) → zps g r n = ztly r 0 n * g 0 + ztly r 1 n * g 1 + ztly r 2 n * g 2 + ztly r 3 n * g 3 := by
  intro n
  induction n with
  | zero => intro _; simp [zps, ztly]
  | succ n ih =>
    intro h
    have hn := h n (by omega)
    simp only [zps, ztly]
    rw [ih (fun c hc => h c (by omega))]
    have : r n = 0 ∨ r n = 1 ∨ r n = 2 ∨ r n = 3 := by omega
    rcases this with e | e | e | e <;> rw [e] <;> simp [Nat.add_mul] <;> omega
/-- the costs of place p by the order o -/
def zfc (co : Nat → Nat) (ro : Nat → Nat → Nat) (cp p o : Nat) : Nat := zps (fun x => co (4 * p + zsq o x)) (fun c => ro c p) cp
/-- the best order of place p, as the reference writes it -/
def zbcO (co : Nat → Nat) (ro : Nat → Nat → Nat) (cp p n : Nat) : Option Nat := (zhl (zfc co ro cp p) (zLr n) (1000000, none)).2
def zbc (co : Nat → Nat) (ro : Nat → Nat → Nat) (cp p n : Nat) : Nat := (zbcO co ro cp p n).getD 0
theorem qc67 {d : Nat} {M : zMem} {o k : Nat} (ho : o < 256) (hk : k < 4) : zCi d 67 [.inl (o : Int), .inl (k : Int)] M (fun r M' => r = (zsq o k : Int) ∧ M' = M) := by
  refine zk67 (zv67_0 _ _ ?_)
  rw [zsq_z o ho k hk]
  exact ⟨⟨by omega, by omega⟩, ⟨by omega, by omega⟩, _, rfl, rfl, rfl⟩
theorem qc68 {d : Nat} {M : zMem} {o n : Nat} (ho : o < 256) (hn : n ≤ 4) : zCi (d + 1) 68 [.inl (o : Int), .inl (n : Int)] M (fun r M' => r = (if zioK n o then 1 else 0) ∧ M' = M) := by
  refine zk68 (zv68_0 _ _ ?_)
  have key : ∀ (m k seen : Nat), k + m = 4 → seen < 16 → zio o n m k seen = zioK n o → zBg (d + 1) 68 4 [zI (o : Int), zI (n : Int), zI (seen : Int), zI (k : Int), none] [] M (fun r M' => ∃ w : Int, r = some (.inl w) ∧ w = (if zioK n o then 1 else 0) ∧ M' = M) := by
    intro m
    induction m with
    | zero =>
      intro k seen hk hs hz
      simp only [zio] at hz
      refine zv68_4 _ _ _ _ ⟨fun _ => ⟨fun h => ⟨Or.inl rfl, _, rfl, ?_, rfl⟩, fun h => ⟨Or.inr rfl, _, rfl, ?_, rfl⟩⟩, fun h => absurd (by omega) h⟩
      · rw [← hz, if_neg (by simp; omega)]
      · rw [← hz, if_pos (by simp; omega)]
    | succ m ih =>
      intro k seen hk hs hz
      simp only [zio] at hz
      have hq := zsq_lt (o := o) (k := k)
      have hb : 2 ^ zsq o k < 2 ^ 4 := zb_p2 hq
      have hor : seen ||| 2 ^ zsq o k < 2 ^ 4 := Nat.or_lt_two_pow (by omega) hb
      refine zv68_4 _ _ _ _ ⟨fun h => by omega, fun _ => ⟨_, qc67 ho (by omega), ?_⟩⟩
      rintro v M1 ⟨rfl, rfl⟩
      rw [zb_shl1 (by omega), zb_or (by omega) (by omega)]
      refine ⟨fun hlt => ⟨⟨by omega, by omega⟩, ?_⟩, fun hlt => ⟨fun he => ⟨⟨by omega, by omega⟩, ?_⟩, fun hne => ⟨Or.inl rfl, _, rfl, ?_, rfl⟩⟩⟩
      · rw [if_neg (by omega)] at hz
        exact ih (k + 1) _ (by omega) (by omega) hz
      · rw [if_neg (by omega)] at hz
        exact ih (k + 1) _ (by omega) (by omega) hz
      · rw [if_pos (by omega)] at hz
        rw [← hz]
        rfl
  exact key 4 0 0 rfl (by decide) rfl
theorem qc65 {d : Nat} {M : zMem} {o p cp : Nat} {co : Nat → Nat} {ro : Nat → Nat → Nat} (ho : o < 256) (hp : p < 6) (hcp : cp ≤ 8) (hr : ∀ c, c < cp → ro c p < 4) (ht : ∀ k, k < 4 → M 12 k = ztly (fun c => ro c p) k cp) (hco : ∀ i, i < 24 → M 5 i = co i ∧ co i ≤ 9) :
    zCi (d + 1) 65 [.inr (.inr 4), .inl (o : Int), .inl (p : Int)] M (fun r M' => r = (zfc co ro cp p o : Int) ∧ M' = M) := by
  refine zk65 (zv65_0 _ _ ?_)
  have hfin : zfc co ro cp p o = ztly (fun c => ro c p) 0 cp * co (4 * p + zsq o 0) + ztly (fun c => ro c p) 1 cp * co (4 * p + zsq o 1) + ztly (fun c => ro c p) 2 cp * co (4 * p + zsq o 2) + ztly (fun c => ro c p) 3 cp * co (4 * p + zsq o 3) := zps_tally hr
  have step : ∀ (k x : Nat), k < 4 → x ≤ 1000 → zBg (d + 1) 65 5 [zR 4, zI (o : Int), zI (p : Int), zI ((x + ztly (fun c => ro c p) k cp * co (4 * p + zsq o k) : Nat) : Int), zI ((k : Int) + 1)] [] M (fun r M' => ∃ w : Int, r = some (.inl w) ∧ w = (zfc co ro cp p o : Int) ∧ M' = M) → zBg (d + 1) 65 5 [zR 4, zI (o : Int), zI (p : Int), zI (x : Int), zI (k : Int)] [] M (fun r M' => ∃ w : Int, r = some (.inl w) ∧ w = (zfc co ro cp p o : Int) ∧ M' = M) := by
    intro k x hk hx h
    have hq := zsq_lt (o := o) (k := k)
    obtain ⟨c1, c2⟩ := hco (4 * p + zsq o k) (by omega)
    have htl := ztly_le (r := fun c => ro c p) (k := k) cp
    have hm : ztly (fun c => ro c p) k cp * co (4 * p + zsq o k) ≤ 8 * 9 := Nat.mul_le_mul (by omega) c2
    refine zv65_5 _ _ _ _ ⟨fun h => by omega, fun _ => ⟨by omega, by omega, ⟨by omega, by omega⟩, _, qc67 ho hk, ?_⟩⟩
    rintro v M1 ⟨rfl, rfl⟩
    rw [show ((p : Int) * 4 + (zsq o k : Int)).toNat = 4 * p + zsq o k by omega, Int.toNat_natCast, ht k hk, c1, ← Int.natCast_mul, ← Int.natCast_add]
    exact ⟨⟨by omega, by omega⟩, by omega, by omega, ⟨by omega, by omega⟩, ⟨by omega, by omega⟩, ⟨by omega, by omega⟩, h⟩
  have hb : ∀ k, k < 4 → ztly (fun c => ro c p) k cp * co (4 * p + zsq o k) ≤ 72 := by
    intro k hk
    have hq := zsq_lt (o := o) (k := k)
    have h9 : ztly (fun c => ro c p) k cp * co (4 * p + zsq o k) ≤ 8 * 9 := Nat.mul_le_mul (by have := ztly_le (r := fun c => ro c p) (k := k) cp; omega) (hco (4 * p + zsq o k) (by omega)).2
    omega
  have b0 := hb 0 (by decide)
  have b1 := hb 1 (by decide)
  have b2 := hb 2 (by decide)
  refine step 0 0 (by decide) (by decide) (step 1 _ (by decide) (by omega) (step 2 _ (by decide) (by omega) (step 3 _ (by decide) (by omega) (zv65_5 _ _ _ _ ⟨fun _ => ⟨_, rfl, ?_, rfl⟩, fun h => absurd (by decide) h⟩))))
  rw [hfin, Nat.zero_add]
theorem qc64 {d : Nat} {M : zMem} {pl cp p : Nat} {ch co : Nat → Nat} {ro : Nat → Nat → Nat} (hpl : pl ≤ 6) (hp : p < pl) (hcpM : M 4 9 = cp) (hcp : cp ≤ 8) (hch : M 15 p = ch p ∧ 2 ≤ ch p ∧ ch p ≤ 4) (hro : ∀ c, c < cp → M 7 (6 * c + p) = ro c p ∧ ro c p < ch p) (hco : ∀ i, i < 24 → M 5 i = co i ∧ co i ≤ 9) :
    zCi (d + 3) 64 [.inr (.inr 4), .inl (p : Int)] M (fun r M' => (∃ b, zbcO co ro cp p (ch p) = some b ∧ b ∈ zLr (ch p) ∧ r = ((b + ztl (ch p) : Nat) : Int)) ∧ ∀ k, k ≠ 12 → M' k = M k) := by
  obtain ⟨c1, c2, c3⟩ := hch
  have hr4 : ∀ c, c < cp → ro c p < 4 := fun c hc => by have := (hro c hc).2; omega
  refine zk64 (zv64_0 _ ⟨_, qc182 (n := 4) rfl (by decide), ?_⟩)
  rintro M1 ⟨a1, a2⟩
  obtain ⟨m1, m2⟩ := zL_map (ch p) (by omega) c2
  have hfle : ∀ o, zfc co ro cp p o ≤ 72 := by
    intro o
    refine Nat.le_trans (zps_le (b := 9) (fun x => ?_) cp) (by omega)
    have := zsq_lt (o := o) (k := x)
    exact (hco (4 * p + zsq o x) (by omega)).2
  have hfc : ∀ c, c ∈ zLr (ch p) → zfc co ro cp p (c + ztl (ch p)) = zfc co ro cp p c := by
    intro c hc
    obtain ⟨h1, h2⟩ := List.mem_filter.mp hc
    have := (zsq_tl (ch p) (by omega) c2 c (List.mem_range.mp h1) h2).2
    unfold zfc
    have : ∀ n, n ≤ cp → zps (fun x => co (4 * p + zsq (c + ztl (ch p)) x)) (fun c => ro c p) n = zps (fun x => co (4 * p + zsq c x)) (fun c => ro c p) n := by
      intro n
      induction n with
      | zero => intro _; rfl
      | succ n ih =>
        intro hn
        simp only [zps]
        rw [ih (by omega), (this (ro n p) (hro n (by omega)).2).1]
    exact this cp (Nat.le_refl _)
  -- the search
  have search : ∀ (M2 : zMem), (∀ k, k ≠ 12 → M2 k = M k) → (∀ k, k < 4 → M2 12 k = ztly (fun c => ro c p) k cp) → ∀ (m o : Nat) (st : Nat × Option Nat) (x2 : Int), o + m = 256 → (x2 = match st.2 with | some b => (b : Int) | none => 0) → st.1 ≤ 73 → zhl (zfc co ro cp p) ((List.range' o m).filter (zioK (ch p))) st = zhl (zfc co ro cp p) (zLc (ch p)) (73, none) →
      zBg (d + 3) 64 52 [zR 4, zI (p : Int), zI x2, zI (st.1 : Int), zI (o : Int), none] [] M2 (fun r M' => ∃ w : Int, r = some (.inl w) ∧ (∃ b, zbcO co ro cp p (ch p) = some b ∧ b ∈ zLr (ch p) ∧ w = ((b + ztl (ch p) : Nat) : Int)) ∧ ∀ k, k ≠ 12 → M' k = M k) := by
    intro M2 f2 t2 m
    induction m with
    | zero =>
      intro o st x2 ho hx hle hz
      simp only [List.range'_zero, List.filter_nil, zhl] at hz
      refine zv64_52 _ _ _ _ ⟨fun _ => ⟨_, rfl, ?_, f2⟩, fun h => absurd (by omega) h⟩
      have hmap := zhl_map (f := zfc co ro cp p) (f' := zfc co ro cp p) (t := ztl (ch p)) (L := zLr (ch p)) (l := 73) (o := none) hfc
      obtain ⟨s1, b, s2, s3⟩ := zhl_start (f := zfc co ro cp p) (L := zLr (ch p)) (a := 73) (b := 1000000) (fun c _ => by have := hfle c; omega) m2
      rw [m1] at hz
      have hz2 : st.2 = some (b + ztl (ch p)) := by
        rw [hz]
        have := congrArg Prod.snd hmap
        simp only [Option.map_none] at this
        rw [this, s3]
        rfl
      rw [hz2] at hx
      refine ⟨b, ?_, s2, hx⟩
      unfold zbcO
      rw [← s1]
      exact s3
    | succ m ih =>
      intro o st x2 ho hx hle hz
      rw [List.range'_succ] at hz
      refine zv64_52 _ _ _ _ ⟨fun h => by omega, fun _ => ⟨by omega, by omega, ?_⟩⟩
      rw [Int.toNat_natCast, f2 15 (by decide), c1]
      refine ⟨_, qc68 (by omega) c3, ?_⟩
      rintro v M3 ⟨rfl, rfl⟩
      refine ⟨fun hno => ⟨⟨by omega, by omega⟩, ?_⟩, fun hyes => ⟨_, qc65 (by omega) (by omega) hcp hr4 t2 (fun i hi => by rw [f2 5 (by decide)]; exact hco i hi), ?_⟩⟩
      · have hn : ¬ zioK (ch p) o = true := by intro e; rw [if_pos e] at hno; omega
        rw [List.filter_cons_of_neg hn] at hz
        exact ih (o + 1) st x2 (by omega) hx hle hz
      · have hy : zioK (ch p) o = true := by
          cases e : zioK (ch p) o with
          | true => rfl
          | false => rw [e] at hyes; exact absurd rfl hyes
        rw [List.filter_cons_of_pos hy] at hz
        simp only [zhl] at hz
        rintro v M4 ⟨rfl, rfl⟩
        refine ⟨fun hge => ⟨⟨by omega, by omega⟩, ?_⟩, fun hlt => ⟨⟨by omega, by omega⟩, ?_⟩⟩
        · rw [if_neg (by omega)] at hz
          exact ih (o + 1) st x2 (by omega) hx hle hz
        · rw [if_pos (by omega)] at hz
          exact ih (o + 1) (zfc co ro cp p o, some o) (o : Int) (by omega) rfl (by have := hfle o; simp only []; omega) hz
  have tally : ∀ (m c : Nat) (M2 : zMem), c + m = cp → (∀ k, k ≠ 12 → M2 k = M k) → (∀ k, k < 4 → M2 12 k = ztly (fun c => ro c p) k c) → zBg (d + 3) 64 10 [zR 4, zI (p : Int), zI (c : Int), none, none, none] [] M2 (fun r M' => ∃ w : Int, r = some (.inl w) ∧ (∃ b, zbcO co ro cp p (ch p) = some b ∧ b ∈ zLr (ch p) ∧ w = ((b + ztl (ch p) : Nat) : Int)) ∧ ∀ k, k ≠ 12 → M' k = M k) := by
    intro m
    induction m with
    | zero =>
      intro c M2 hc f2 t2
      have : c = cp := by omega
      subst this
      refine zv64_10 _ _ ⟨fun _ => search M2 f2 t2 256 0 (73, none) 0 rfl rfl (Nat.le_refl _) ?_, fun h => absurd (by rw [f2 4 (by decide), hcpM]; omega) h⟩
      unfold zLc
      rw [List.range_eq_range']
    | succ m ih =>
      intro c M2 hc f2 t2
      obtain ⟨r1, r2⟩ := hro c (by omega)
      have e7 : M2 7 (6 * c + p) = ro c p := by rw [f2 7 (by decide)]; exact r1
      have htl := ztly_le (r := fun c => ro c p) (k := ro c p) c
      refine zv64_10 _ _ ⟨fun h => by rw [f2 4 (by decide), hcpM] at h; omega, fun _ => ?_⟩
      rw [show ((c : Int) * 6 + (p : Int)).toNat = 6 * c + p by omega, e7, Int.toNat_natCast, t2 (ro c p) (by omega)]
      refine ⟨⟨by omega, by omega⟩, ⟨by omega, by omega⟩, by omega, by omega, by omega, by omega, ⟨by omega, by omega⟩, by omega, by omega, ⟨by omega, by omega⟩, ?_⟩
      refine ih (c + 1) _ (by omega) (fun k hk => by rw [zb_uk hk]; exact f2 k hk) (fun k hk => ?_)
      simp only [ztly]
      by_cases hkr : k = ro c p
      · subst hkr
        rw [zb_us, if_pos rfl]
        rfl
      · rw [zb_ui hkr, t2 k hk, if_neg (fun e => hkr e.symm), Nat.add_zero]
  exact tally cp 0 M1 (by omega) a1 (fun k hk => by rw [a2 k hk]; rfl)
