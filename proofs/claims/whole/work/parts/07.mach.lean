/-! THE PURE MACHINE: a frame's values are integers and places of cells, the memory is a function; 'zBg' says that the real machine, from a frame that looks so, comes to an end with Q; each instruction has one row -/
abbrev zV : Type := Int ⊕ (Int ⊕ Nat)
abbrev zMem : Type := Nat → Nat → Int
abbrev zI (x : Int) : Option zV := some (.inl x)
abbrev zL (x : Int) : Option zV := some (.inr (.inl x))
abbrev zR (k : Nat) : Option zV := some (.inr (.inr k))
def zcv (ad : Nat → Nat) : zV → Value
  | .inl x => .int (Int32.ofInt x)
  | .inr (.inl x) => .long (Int64.ofInt x)
  | .inr (.inr k) => .ref (ad k)
def zrg : zV → Prop
  | .inl x => zR32 x
  | .inr (.inl x) => zR64 x
  | .inr (.inr _) => True
def zrgc (k : Nat) (x : Int) : Prop := match zSHL[k]? with
  | some (.inl (1, _)) => -128 ≤ x ∧ x < 128
  | some (.inl (2, _)) => zR64 x
  | _ => zR32 x
def zrgM (M : zMem) : Prop := ∀ k i, zrgc k (M k i)
def zcell (cA : Nat → ClassId) (ad : Nat → Nat) (M : zMem) (k : Nat) : zSh → va_E
  | .inl (2, n) => .inl (cA 2, n, .inr (.inl (fun i => Int64.ofInt (M k i))))
  | .inl (t, n) => .inl (cA t, n, .inl (fun i => Int32.ofInt (M k i)))
  | .inr (ci, fs) => .inr (ci, fs.mapIdx (fun j o => match o with
    | none => .int (Int32.ofInt (M k j))
    | some q => .ref (ad q)))
def zwd (cA : Nat → ClassId) (ad : Nat → Nat) (M : zMem) : va_W := zSHL.mapIdx (fun k s => (ad k, zcell cA ad M k s))
abbrev ztys (cA : Nat → ClassId) : List (ClassId × FieldType) := [(cA 0, .int), (cA 1, .byte), (cA 2, .long)]
def zA (ad : Nat → Nat) : Nat → Prop := fun q => ∃ k, k < zSHL.length ∧ q = ad k
def zinj (ad : Nat → Nat) : Prop := ∀ i j, i < zSHL.length → j < zSHL.length → ad i = ad j → i = j
def zup (M : zMem) (k i : Nat) (v : Int) : zMem := fun k' i' => if k' = k then (if i' = i then v else M k' i') else M k' i'
def zcpy (M : zMem) (a p b q n : Nat) : zMem := fun k i => if k = b then (if q ≤ i ∧ i < q + n then M a (p + (i - q)) else M k i) else M k i
theorem zwd_get {cA : Nat → ClassId} {ad : Nat → Nat} {M : zMem} {k : Nat} {sh : zSh} (h : zSHL[k]? = some sh) : (zwd cA ad M)[k]? = some (ad k, zcell cA ad M k sh) := by
  simp [zwd, List.getElem?_mapIdx, h]
theorem zwd_len {cA : Nat → ClassId} {ad : Nat → Nat} {M : zMem} : (zwd cA ad M).length = zSHL.length := by simp [zwd]
theorem zwd_at {cA : Nat → ClassId} {ad : Nat → Nat} {M : zMem} {k : Nat} {q : Nat × va_E} (h : (zwd cA ad M)[k]? = some q) : k < zSHL.length ∧ q.1 = ad k := by
  have h1 : k < zSHL.length := by rw [← zwd_len (cA := cA) (ad := ad) (M := M)]; exact (List.getElem?_eq_some_iff.mp h).1
  obtain ⟨sh, hs⟩ : ∃ sh, zSHL[k]? = some sh := ⟨_, List.getElem?_eq_getElem h1⟩
  rw [zwd_get hs] at h
  cases h
  exact ⟨h1, rfl⟩
theorem zwd_D {cA : Nat → ClassId} {ad : Nat → Nat} (M : zMem) (h : zinj ad) : va_D (zA ad) (zwd cA ad M) := by
  refine ⟨fun i j p q hp hq e => ?_, fun k q hq => ?_⟩
  · obtain ⟨h1, h2⟩ := zwd_at hp
    obtain ⟨h3, h4⟩ := zwd_at hq
    exact h i j h1 h3 (by rw [← h2, ← h4]; exact e)
  · obtain ⟨h1, h2⟩ := zwd_at hq
    exact ⟨k, h1, h2⟩
theorem zcell_eq {cA : Nat → ClassId} {ad : Nat → Nat} {M M' : zMem} {k : Nat} {sh : zSh} (h : ∀ i, M' k i = M k i) : zcell cA ad M' k sh = zcell cA ad M k sh := by
  unfold zcell
  split <;> simp [h]
theorem zwd_set {cA : Nat → ClassId} {ad : Nat → Nat} {M M' : zMem} {k : Nat} {sh : zSh} {e : va_E} (h : zSHL[k]? = some sh) (he : e = zcell cA ad M' k sh) (hne : ∀ k', k' ≠ k → ∀ i, M' k' i = M k' i) : (zwd cA ad M).set k (ad k, e) = zwd cA ad M' := by
  apply List.ext_getElem?
  intro j
  rw [List.getElem?_set]
  by_cases hj : k = j
  · subst hj
    rw [if_pos rfl, zwd_get h, he, if_pos (by rw [zwd_len]; exact (List.getElem?_eq_some_iff.mp h).1)]
  · rw [if_neg hj]
    simp only [zwd, List.getElem?_mapIdx]
    cases zSHL[j]? with
    | none => rfl
    | some s => simp [zcell_eq (sh := s) (cA := cA) (ad := ad) (hne j (fun q => hj q.symm))]
def zroom (d : Nat) : Room := { frames := d + 1, cells := 0, slots := 0, locals := 60 * (d + 1) }
def zGW : List Cond := lw_tbl.filter goodWord
def zws (I : zMI) : List Cond := .code I.1 I.2.1 I.2.2.1 I.2.2.2.1 :: zGW
def zNest : Cond → Bool
  | .fieldLinkNest .. => true
  | .methodLinkNest .. => true
  | _ => false
def zNW (U : State) : Prop := ∀ w ∈ lw_tbl, zNest w = true → va_Nw w U
theorem zNW.warm {s U : State} (hW : s.WarmedH U.vm) (h : zNW s) : zNW U := by
  intro w hw hn
  have h1 := h w hw hn
  cases w <;> first | exact va_Nw.warmF hW h1 | exact va_Nw.warmM hW h1 | exact absurd hn (by simp [zNest])
theorem zNW.same {s U : State} (hv : s.vm = U.vm) (h : zNW s) : zNW U := by
  intro w hw hn
  have h1 := h w hw hn
  exact va_Nw.same (by cases w <;> first | rfl | exact absurd hn (by simp [zNest])) hv h1
def zPre (D : va_G) (cA : Nat → ClassId) (ad : Nat → Nat) (av : List zV) (M : zMem) : Array Value → State → Prop := va_Pc (av.map (zcv ad)) (fun U => zNW U ∧ va_P D vwCl (zwd cA ad M) U.heap ∧ va_K D vwCl (ztys cA) U)
def zPost (D : va_G) (cA : Nat → ClassId) (ad : Nat → Nat) (Q : Option zV → zMem → Prop) : Array Value → State → Outcome → State → Prop := fun _ st oc t => (∃ (r : Option zV) (M' : zMem), oc = .returned (r.map (zcv ad)) ∧ Q r M' ∧ (∀ v, r = some v → zrg v) ∧ zrgM M' ∧ va_P D vwCl (zwd cA ad M') t.heap ∧ va_K D vwCl (ztys cA) t) ∧ va_F (zA ad) st t
/-- the contract of method mi: called with the values av over the memory M it returns, and Q of its answer and of the memory then -/
def zCt (d mi : Nat) (av : List zV) (M : zMem) (Q : Option zV → zMem → Prop) : Prop := ∀ I, zMT[mi]? = some I → zrgM M → (∀ v ∈ av, zrg v) → ∀ (l : Launch) (D : va_G) (cA : Nat → ClassId) (ad : Nat → Nat), zinj ad → Met l I.1 (zws I) (zroom d) (zPre D cA ad av M) (zPost D cA ad Q) 0 0 (zA ad)
def zCx (I : zMI) (p : Program) (s : State) (m : MethodId) (args : Array Value) (meth : Method) (c : Code) : Prop :=
  p.tables.exec = Jvm.exec ∧ c.code = I.2.1 ∧ c.maxLocals = I.2.2.1 ∧ s.vm.findClass I.1.cls = some m.cls ∧ (∀ w ∈ zGW, w.before args s = true) ∧ zNW s ∧ meth.sig.returnType = I.2.2.2.1 ∧ meth.locks = false
def zlv (ad : Nat → Nat) : Nat → List (Option zV) → List (Nat × Value)
  | _, [] => []
  | i, none :: r => zlv ad (i + 1) r
  | i, some v :: r => (i, zcv ad v) :: zlv ad (i + 1) r
theorem zlv_mem {ad : Nat → Nat} {ls : List (Option zV)} : ∀ {i : Nat} {q : Nat × Value}, q ∈ zlv ad i ls ↔ ∃ (j : Nat) (v : zV), ls[j]? = some (some v) ∧ q = (i + j, zcv ad v) := by
  induction ls with
  | nil => intro i q; simp [zlv]
  | cons o r ih =>
    intro i q
    have key : (∃ (j : Nat) (v : zV), r[j]? = some (some v) ∧ q = (i + 1 + j, zcv ad v)) ↔ ∃ (j : Nat) (v : zV), (o :: r)[j + 1]? = some (some v) ∧ q = (i + (j + 1), zcv ad v) := by
      constructor
      · rintro ⟨j, v, h1, h2⟩; exact ⟨j, v, by simpa using h1, by rw [h2]; congr 1; omega⟩
      · rintro ⟨j, v, h1, h2⟩; exact ⟨j, v, by simpa using h1, by rw [h2]; congr 1; omega⟩
    cases o with
    | none =>
      simp only [zlv]
      rw [ih, key]
      constructor
      · rintro ⟨j, v, h1, h2⟩; exact ⟨j + 1, v, h1, h2⟩
      · rintro ⟨j, v, h1, h2⟩
        cases j with
        | zero => simp at h1
        | succ j => exact ⟨j, v, h1, h2⟩
    | some w =>
      simp only [zlv, List.mem_cons]
      rw [ih, key]
      constructor
      · rintro (h | ⟨j, v, h1, h2⟩)
        · exact ⟨0, w, by simp, by simpa using h⟩
        · exact ⟨j + 1, v, h1, h2⟩
      · rintro ⟨j, v, h1, h2⟩
        cases j with
        | zero =>
          simp at h1
          subst h1
          exact Or.inl (by simpa using h2)
        | succ j => exact Or.inr ⟨j, v, h1, h2⟩
/-- the frame of method mi at pc, with locals ls, stack st, memory M: the machine comes to its end, with Q -/
def zBg (d mi pc : Nat) (ls : List (Option zV)) (st : List zV) (M : zMem) (Q : Option zV → zMem → Prop) : Prop :=
  zrgM M → (∀ v ∈ st, zrg v) → (∀ v, some v ∈ ls → zrg v) → ∀ I, zMT[mi]? = some I → ls.length ≤ I.2.2.1 →
  ∀ (l : Launch) (D : va_G) (cA : Nat → ClassId) (ad : Nat → Nat) (p : Program) (e : Env) (s : State) (m : MethodId) (args : Array Value) (below : List Frame) (meth : Method) (c : Code) (H : Heap) (locs : List Loc) (cls : Array Slot),
    zinj ad → zCx I p s m args meth c → va_K D vwCl (ztys cA) s → va_P D vwCl (zwd cA ad M) H → va_S (zA ad) s.heap H locs → lv_has cls I.2.2.1 (zlv ad 0 ls) →
    W p l e (zroom d) s m args below meth c H locs 0 0 (MQ below (zPost D cA ad Q) args s 0 0 (zA ad)) (F0 m pc cls (st.map (zcv ad)))
theorem zlv_at {ad : Nat → Nat} {ls : List (Option zV)} {cls : Array Slot} {n i : Nat} {v : zV} (h : lv_has cls n (zlv ad 0 ls)) (hi : ls[i]? = some (some v)) : cls[i]? = some (.val (zcv ad v)) :=
  h.2.2 (i, zcv ad v) (zlv_mem.mpr ⟨i, v, hi, by simp⟩)
theorem zlv_sub {ad : Nat → Nat} {ls ls' : List (Option zV)} {cls : Array Slot} {n : Nat} (h : lv_has cls n (zlv ad 0 ls)) (hs : ∀ (j : Nat) (v : zV), ls'[j]? = some (some v) → ls[j]? = some (some v)) : lv_has cls n (zlv ad 0 ls') := by
  refine ⟨h.1, h.2.1, fun q hq => ?_⟩
  obtain ⟨j, v, h1, rfl⟩ := zlv_mem.mp hq
  exact h.2.2 _ (zlv_mem.mpr ⟨j, v, hs j v h1, rfl⟩)
theorem zBg.weak {d mi pc : Nat} {ls ls' : List (Option zV)} {st : List zV} {M : zMem} {Q : Option zV → zMem → Prop} (hlen : ls'.length = ls.length) (hs : ∀ (j : Nat) (v : zV), ls'[j]? = some (some v) → ls[j]? = some (some v)) (h : zBg d mi pc ls' st M Q) : zBg d mi pc ls st M Q := by
  intro h1 h2 h3 I h4 h5 l D cA ad p e s m args below meth c H locs cls k1 k2 k3 k4 k5 k6
  refine h h1 h2 (fun v hv => ?_) I h4 (by rw [hlen]; exact h5) l D cA ad p e s m args below meth c H locs cls k1 k2 k3 k4 k5 (zlv_sub k6 hs)
  obtain ⟨j, hj⟩ := List.getElem?_of_mem hv
  exact h3 v (List.mem_of_getElem? (hs j v hj))
