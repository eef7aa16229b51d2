section zLaw
variable {p : Program} {l : Launch} {e : Env} {s : State} {m : MethodId} {below : List Frame} {meth : Method} {c : Code} {H : Heap} {locs : List Loc} {cells slots : Nat} {QQ : State → Prop} {ls : Array Slot} {rest : List Value} {D : va_G} {cA : Nat → ClassId} {ad : Nat → Nat} {b L i : Nat} {xs : Nat → Int32}
theorem zl_call {pc ix mi k : Nat} {J : zMI} {av : List zV} {M : zMem} {fs : List (Option Nat)} {Q' : Int → zMem → Prop}
    (hx : p.tables.exec = Jvm.exec) (hb : c.code = code) (hml : c.maxLocals = 4) (hls : ls.size = 4) (hown : s.vm.findClass R_law = some m.cls) (hts : ∀ w ∈ zGW, w.before #[Value.ref b] s = true) (hnw : zNW s)
    (hJ : zMT[mi]? = some J) (hst : J.2.2.2.2.1 = false) (hlk : Cond.methodLink R_law ix J.1 ∈ zGW) (hpar : (parseMethodDescriptor J.1.desc).map (fun d => d.parameters.length) = some av.length) (hsh : zSHL[k]? = some (.inr (J.2.2.2.2.2.1, fs)))
    (hct : zCi 20 mi (.inr (.inr k) :: av) M Q') (hM : zrgM M) (hav : ∀ v ∈ av, zrg v) (hinj : zinj ad) (hK : va_K D vwCl (ztys cA) s) (hP : va_P D vwCl (zwd cA ad M) H) (hS : va_S (fun q => s.heap.size ≤ q) s.heap H locs) (hA : ∀ q, zA ad q → s.heap.size ≤ q)
    (hcs : cells ≤ 600000 ∧ slots ≤ 7302250) (hrest : (rest.map fun v => v.category).sum ≤ 8) (hdg : decode code pc = .ok (.invokevirtual ix, 3))
    (kk : ∀ (v : Int) (M' : zMem) (H1 : Heap) (locs1 : List Loc), Q' v M' → zR32 v → zrgM M' → va_P D vwCl (zwd cA ad M') H1 → va_S (fun q => s.heap.size ≤ q) s.heap H1 locs1 → W p l e room_1 s m #[Value.ref b] below meth c H1 locs1 cells slots QQ (F0 m (pc + 3) ls (.int (Int32.ofInt v) :: rest))) :
    W p l e room_1 s m #[Value.ref b] below meth c H locs cells slots QQ (F0 m pc ls ((av.map (zcv ad)).reverse ++ .ref (ad k) :: rest)) := by
  obtain ⟨j1, j2, j3, j4, j5, j6, j7⟩ := zJ hJ
  rw [hst] at j2
  obtain ⟨j2, j2s⟩ := (show _ ∧ _ from j2)
  obtain ⟨T, N, hcl⟩ := zvw hJ hsh
  have hMet := hct J hJ hM (zrgs (v := .inr (.inr k)) trivial hav) l D cA ad hinj
  have hpre : ∀ U : State, U.heap = H → s.WarmedH U.vm → zPre D cA ad (.inr (.inr k) :: av) M (Value.ref (ad k) :: av.map (zcv ad)).toArray U := fun U hU hW => ⟨rfl, zNW.warm hW hnw, by rw [hU]; exact hP, va_K.moved hW.alike hK⟩
  have hrecv := va_recv hK hP hcl (zwd_get (cA := cA) (ad := ad) (M := M) hsh)
  have run := va_runV (l := l) (e := e) (R := room_1) (cells := cells) (slots := slots) (locs := locs) (rest := rest) (g := F0 m pc ls ((av.map (zcv ad)).reverse ++ .ref (ad k) :: rest)) (H := H) (below := below) (meth := meth) ⟨hx, hb, hml, hown, hts⟩ hMet ⟨callB_of av.length hts (zGood j1) rfl rfl rfl (hts _ j3) (hts _ hlk) ⟨j5, j6, hpar⟩ ⟨by show 21 + 1 ≤ 2048; omega, by show 8 + (_ + 11) + 60 * 21 ≤ 84000; omega⟩, hts _ j2, hts _ j2s⟩ ⟨zblind, hrecv, hpre⟩ rfl (by simp) hls rfl (by show 2 * 0 + _ ≤ _; omega) hdg ⟨hcs.1, hcs.2⟩
  refine zrun run hS hA (fun r M' H1 locs1 hq hrg hM hP hS => ?_)
  obtain ⟨v, rfl, hq⟩ := hq
  exact kk v M' H1 locs1 hq (hrg _ rfl) hM hP hS
def zlk5 (pc k : Nat) : Bool := (match zlook pc zcL, zlook (pc + 1) zcL, zlook (pc + 2) zcL, zlook (pc + 3) zcL, zlook (pc + 4) zcL with
  | some x0, some x1, some x2, some x3, some x4 => decide (x0.1 = .aload_n 0 ∧ x0.2.1 = 1 ∧ x1.1 = .iload_n 3 ∧ x1.2.1 = 1 ∧ x2.1 = .iconst (k : Int) ∧ x2.2.1 = 1 ∧ x3.1 = .iadd ∧ x3.2.1 = 1 ∧ x4.1 = .iaload ∧ x4.2.1 = 1)
  | _, _, _, _, _ => false)
theorem zlk5_ex {pc k : Nat} (h : zlk5 pc k = true) : decode code pc = .ok (.aload_n 0, 1) ∧ decode code (pc + 1) = .ok (.iload_n 3, 1) ∧ decode code (pc + 2) = .ok (.iconst (k : Int), 1) ∧ decode code (pc + 3) = .ok (.iadd, 1) ∧ decode code (pc + 4) = .ok (.iaload, 1) := by
  unfold zlk5 at h
  split at h
  · rename_i x0 x1 x2 x3 x4 h0 h1 h2 h3 h4
    have h5 := of_decide_eq_true h
    obtain ⟨a0, b0, a1, b1, a2, b2, a3, b3, a4, b4⟩ := h5
    refine ⟨?_, ?_, ?_, ?_, ?_⟩
    · rw [zLd h0, a0, b0]
    · rw [zLd h1, a1, b1]
    · rw [zLd h2, a2, b2]
    · rw [zLd h3, a3, b3]
    · rw [zLd h4, a4, b4]
  · cases h
abbrev zlh (ls : Array Slot) (b a0 a55 i : Nat) : Prop := lv_has ls 4 [(0, .ref b), (1, .ref a0), (2, .ref a55), (3, .int (nI i))]
theorem zl_arg {pc k : Nat} {st : List Value} (hx : p.tables.exec = Jvm.exec) (hb : c.code = code) (hX : va_X b L xs s s.heap) (hbl : b < s.heap.size) (hL : L ≤ 3072) (hS : va_S (fun q => s.heap.size ≤ q) s.heap H locs) (hl : zlh ls b (ad 0) (ad 55) i) (hi : i + 6 ≤ L) (hk : k < 6) (hok : zlk5 pc k = true)
    (kk : W p l e room_1 s m #[Value.ref b] below meth c H locs cells slots QQ (F0 m (pc + 5) ls (.int (xs (i + k)) :: st))) : W p l e room_1 s m #[Value.ref b] below meth c H locs cells slots QQ (F0 m pc ls st) := by
  obtain ⟨d0, d1, d2, d3, d4⟩ := zlk5_ex hok
  have hbA : ¬ (fun q : Nat => s.heap.size ≤ q) b := Nat.not_le.mpr hbl
  refine lv_aload_n hx hb d0 rfl (lv_at hl 0 rfl) ?_
  refine lv_iload_n hx hb d1 rfl (lv_at hl 3 rfl) ?_
  refine lv_iconst (v := nI k) hx hb d2 (Int32.ofInt_eq_ofNat) ?_
  refine lv_iadd hx hb d3 ?_
  rw [nI_add]
  refine va_sld hx hb hX hbl hbA hS (vp_in_nI (by omega) (by omega)) d4 ?_
  rw [nI_clamp (by omega)]
  exact kk
abbrev zav (xs : Nat → Int32) (i n : Nat) : List zV := (List.range n).map (fun j => .inl (xs (i + (j + 1))).toInt)
theorem zav_cv : ∀ n, ((zav xs i n).map (zcv ad)) = (List.range n).map (fun j => Value.int (xs (i + (j + 1)))) := by
  intro n
  rw [List.map_map]
  apply List.map_congr_left
  intro j _
  simp [zcv]
theorem zl_args {pc : Nat} {st : List Value} (hx : p.tables.exec = Jvm.exec) (hb : c.code = code) (hX : va_X b L xs s s.heap) (hbl : b < s.heap.size) (hL : L ≤ 3072) (hS : va_S (fun q => s.heap.size ≤ q) s.heap H locs) (hl : zlh ls b (ad 0) (ad 55) i) (hi : i + 6 ≤ L) :
    ∀ n, n < 6 → (List.range n).all (fun j => zlk5 (pc + 5 * j) (j + 1)) = true → W p l e room_1 s m #[Value.ref b] below meth c H locs cells slots QQ (F0 m (pc + 5 * n) ls (((zav xs i n).map (zcv ad)).reverse ++ st)) → W p l e room_1 s m #[Value.ref b] below meth c H locs cells slots QQ (F0 m pc ls st) := by
  intro n
  induction n with
  | zero => intro _ _ k; exact k
  | succ n ih =>
    intro hn hok k
    rw [List.range_succ, List.all_append, Bool.and_eq_true] at hok
    refine ih (by omega) hok.1 ?_
    have h1 : zlk5 (pc + 5 * n) (n + 1) = true := by simpa using hok.2
    refine zl_arg (pc := pc + 5 * n) hx hb hX hbl hL hS hl hi (by omega) h1 ?_
    rw [zav_cv] at k ⊢
    rw [List.range_succ, List.map_append, List.reverse_append] at k
    exact k
def zshp (n pc ixc ixm : Nat) : Bool := (match zlook pc zcL, zlook (pc + 1 + 5 * n) zcL, zlook (pc + 4 + 5 * n) zcL, zlook (pc + 5 + 10 * n) zcL, zlook (pc + 8 + 10 * n) zcL with
  | some x0, some x1, some x2, some x3, some x4 => decide (x0.1 = .aload_n 1 ∧ x0.2.1 = 1 ∧ x1.1 = .invokevirtual ixc ∧ x1.2.1 = 3 ∧ x2.1 = .aload_n 2 ∧ x2.2.1 = 1 ∧ x3.1 = .invokevirtual ixm ∧ x3.2.1 = 3 ∧ x4.1 = .if_icmp .eq (1240 - ((pc + 8 + 10 * n : Nat) : Int)) ∧ x4.2.1 = 3)
  | _, _, _, _, _ => false) && (List.range n).all (fun j => zlk5 (pc + 1 + 5 * j) (j + 1)) && (List.range n).all (fun j => zlk5 (pc + 5 + 5 * n + 5 * j) (j + 1))
theorem zshp_ex {n pc ixc ixm : Nat} (h : zshp n pc ixc ixm = true) : decode code pc = .ok (.aload_n 1, 1) ∧ decode code (pc + 1 + 5 * n) = .ok (.invokevirtual ixc, 3) ∧ decode code (pc + 4 + 5 * n) = .ok (.aload_n 2, 1) ∧ decode code (pc + 5 + 10 * n) = .ok (.invokevirtual ixm, 3) ∧ decode code (pc + 8 + 10 * n) = .ok (.if_icmp .eq (1240 - ((pc + 8 + 10 * n : Nat) : Int)), 3) ∧ (List.range n).all (fun j => zlk5 (pc + 1 + 5 * j) (j + 1)) = true ∧ (List.range n).all (fun j => zlk5 (pc + 5 + 5 * n + 5 * j) (j + 1)) = true := by
  unfold zshp at h
  rw [Bool.and_eq_true, Bool.and_eq_true] at h
  obtain ⟨⟨h, g1⟩, g2⟩ := h
  split at h
  · rename_i x0 x1 x2 x3 x4 h0 h1 h2 h3 h4
    have h5 := of_decide_eq_true h
    obtain ⟨a0, b0, a1, b1, a2, b2, a3, b3, a4, b4⟩ := h5
    refine ⟨?_, ?_, ?_, ?_, ?_, g1, g2⟩
    · rw [zLd h0, a0, b0]
    · rw [zLd h1, a1, b1]
    · rw [zLd h2, a2, b2]
    · rw [zLd h3, a3, b3]
    · rw [zLd h4, a4, b4]
  · cases h
/-- what stands at the loop's turn -/
abbrev zlK (Inv : zMem → Prop) (p : Program) (l : Launch) (e : Env) (s : State) (m : MethodId) (b : Nat) (below : List Frame) (meth : Method) (c : Code) (cells slots : Nat) (QQ : State → Prop) (D : va_G) (cA : Nat → ClassId) (ad : Nat → Nat) (i pc : Nat) : Prop :=
  ∀ (M : zMem) (H : Heap) (locs : List Loc) (ls : Array Slot), Inv M → zrgM M → va_P D vwCl (zwd cA ad M) H → va_S (fun q => s.heap.size ≤ q) s.heap H locs → zlh ls b (ad 0) (ad 55) i → W p l e room_1 s m #[Value.ref b] below meth c H locs cells slots QQ (F0 m pc ls [])
/-- what holds throughout the law -/
abbrev zlCx (p : Program) (s : State) (m : MethodId) (meth : Method) (c : Code) (b L : Nat) (xs : Nat → Int32) (cells slots : Nat) (D : va_G) (cA : Nat → ClassId) (ad : Nat → Nat) : Prop :=
  (p.tables.exec = Jvm.exec ∧ c.code = code ∧ c.maxLocals = 4 ∧ s.vm.findClass R_law = some m.cls) ∧ (∀ w ∈ zGW, w.before #[Value.ref b] s = true) ∧ zNW s ∧ va_X b L xs s s.heap ∧ b < s.heap.size ∧ L ≤ 3072 ∧ zinj ad ∧ va_K D vwCl (ztys cA) s ∧ (∀ q, zA ad q → s.heap.size ≤ q) ∧ (cells ≤ 600000 ∧ slots ≤ 7302250)
theorem zl_two {Inv : zMem → Prop} {pc mc mm ixm : Nat} {Jm : zMI} {fm : List (Option Nat)} {av : List zV} {v : Int} {M1 : zMem} (C0 : zlCx p s m meth c b L xs cells slots D cA ad) (hJ : zMT[mm]? = some Jm) (hst : Jm.2.2.2.2.1 = false) (hlk : Cond.methodLink R_law ixm Jm.1 ∈ zGW) (hpar : (parseMethodDescriptor Jm.1.desc).map (fun d => d.parameters.length) = some av.length) (hsh : zSHL[55]? = some (.inr (Jm.2.2.2.2.2.1, fm)))
    (hct : zCi 20 mm (.inr (.inr 55) :: av) M1 (fun v' M2 => v' = v ∧ Inv M2)) (hM : zrgM M1) (hav : ∀ v ∈ av, zrg v) (hv : zR32 v) (hP : va_P D vwCl (zwd cA ad M1) H) (hS : va_S (fun q => s.heap.size ≤ q) s.heap H locs) (hl : zlh ls b (ad 0) (ad 55) i)
    (h1 : decode code pc = .ok (.invokevirtual ixm, 3)) (h2 : decode code (pc + 3) = .ok (.if_icmp .eq (1240 - ((pc + 3 : Nat) : Int)), 3)) (kk : zlK Inv p l e s m b below meth c cells slots QQ D cA ad i 1240) :
    W p l e room_1 s m #[Value.ref b] below meth c H locs cells slots QQ (F0 m pc ls ((av.map (zcv ad)).reverse ++ [.ref (ad 55), .int (Int32.ofInt v)])) := by
  obtain ⟨⟨hx, hb, hml, hown⟩, hts, hnw, hX, hbl, hL, hinj, hK, hA, hcs⟩ := C0
  refine zl_call (k := 55) (rest := [.int (Int32.ofInt v)]) hx hb hml hl.1 hown hts hnw hJ hst hlk hpar hsh hct hM hav hinj hK hP hS hA hcs (Nat.le_of_ble_eq_true rfl) h1 (fun v' M2 H2 locs2 hq hr2 hM2 hP2 hS2 => ?_)
  obtain ⟨rfl, hI⟩ := hq
  refine lv_icmp_eq (tgt := 1240) hx hb h2 (by omega) (fun _ => ?_) (fun h => absurd rfl h)
  exact kk M2 H2 locs2 ls hI hM2 hP2 hS2 hl
theorem zl_case {Inv : zMem → Prop} {n pc mc mm ixc ixm : Nat} {Jc Jm : zMI} {fc fm : List (Option Nat)} {M : zMem} (C0 : zlCx p s m meth c b L xs cells slots D cA ad) (hsp : zshp n pc ixc ixm = true) (hn : n < 6)
    (hJc : zMT[mc]? = some Jc) (hstc : Jc.2.2.2.2.1 = false) (hlkc : Cond.methodLink R_law ixc Jc.1 ∈ zGW) (hparc : (parseMethodDescriptor Jc.1.desc).map (fun d => d.parameters.length) = some n) (hshc : zSHL[0]? = some (.inr (Jc.2.2.2.2.2.1, fc)))
    (hJm : zMT[mm]? = some Jm) (hstm : Jm.2.2.2.2.1 = false) (hlkm : Cond.methodLink R_law ixm Jm.1 ∈ zGW) (hparm : (parseMethodDescriptor Jm.1.desc).map (fun d => d.parameters.length) = some n) (hshm : zSHL[55]? = some (.inr (Jm.2.2.2.2.2.1, fm)))
    (hcase : zcse Inv mc mm (zav xs i n)) (hI : Inv M) (hM : zrgM M) (hP : va_P D vwCl (zwd cA ad M) H) (hS : va_S (fun q => s.heap.size ≤ q) s.heap H locs) (hl : zlh ls b (ad 0) (ad 55) i) (hi : i + 6 ≤ L) (kk : zlK Inv p l e s m b below meth c cells slots QQ D cA ad i 1240) :
    W p l e room_1 s m #[Value.ref b] below meth c H locs cells slots QQ (F0 m pc ls []) := by
  obtain ⟨d0, d1, d2, d3, d4, g1, g2⟩ := zshp_ex hsp
  have C1 := C0
  obtain ⟨⟨hx, hb, hml, hown⟩, hts, hnw, hX, hbl, hL, hinj, hK, hA, hcs⟩ := C0
  have hav : ∀ v ∈ zav xs i n, zrg v := by
    intro v hv
    obtain ⟨j, -, rfl⟩ := List.mem_map.mp hv
    exact zr32 _
  have hlen : (zav xs i n).length = n := by simp
  refine lv_aload_n hx hb d0 rfl (lv_at hl 1 rfl) ?_
  refine zl_args (pc := pc + 1) hx hb hX hbl hL hS hl hi n hn g1 ?_
  refine zl_call (k := 0) (rest := []) (av := zav xs i n) hx hb hml hl.1 hown hts hnw hJc hstc hlkc (by rw [hlen]; exact hparc) hshc (hcase M hM hav hI) hM hav hinj hK hP hS hA hcs (Nat.le_of_ble_eq_true rfl) d1 (fun v M1 H1 locs1 hq hr1 hM1 hP1 hS1 => ?_)
  refine W.eq (g2 := F0 m (pc + 4 + 5 * n) ls [.int (Int32.ofInt v)]) (by show F0 m (pc + 1 + 5 * n + 3) ls _ = _; rw [show pc + 1 + 5 * n + 3 = pc + 4 + 5 * n by omega]) ?_
  refine lv_aload_n hx hb d2 rfl (lv_at hl 2 rfl) ?_
  refine W.eq (g2 := F0 m (pc + 5 + 5 * n) ls [.ref (ad 55), .int (Int32.ofInt v)]) (by rw [show pc + 4 + 5 * n + 1 = pc + 5 + 5 * n by omega]) ?_
  refine zl_args (pc := pc + 5 + 5 * n) hx hb hX hbl hL hS1 hl hi n hn g2 ?_
  refine W.eq (g2 := F0 m (pc + 5 + 10 * n) ls (((zav xs i n).map (zcv ad)).reverse ++ [.ref (ad 55), .int (Int32.ofInt v)])) (by rw [show pc + 5 + 5 * n + 5 * n = pc + 5 + 10 * n by omega]) ?_
  exact zl_two (mc := mc) C1 hJm hstm hlkm (by rw [hlen]; exact hparm) hshm (hq hM1) hM1 hav hr1 hP1 hS1 hl d3 (by rw [show pc + 5 + 10 * n + 3 = pc + 8 + 10 * n by omega]; exact d4) kk
theorem zl_wide {pc : Nat} {st : List Value} (hx : p.tables.exec = Jvm.exec) (hb : c.code = code) (hown : s.vm.findClass R_law = some m.cls) (hts : ∀ w ∈ zGW, w.before #[Value.ref b] s = true) (hX : va_X b L xs s s.heap) (hbl : b < s.heap.size) (hL : L ≤ 3072) (hS : va_S (fun q => s.heap.size ≤ q) s.heap H locs) (hl : zlh ls b (ad 0) (ad 55) i) (hi : i + 6 ≤ L) (h1 : zlk5 pc 1 = true) (h2 : zlk5 (pc + 9) 2 = true) (h3 : zlk5 (pc + 20) 3 = true)
    (d1 : decode code (pc + 5) = .ok (.i2l, 1)) (d2 : decode code (pc + 6) = .ok (.bipush 32, 2)) (d3 : decode code (pc + 8) = .ok (.lshl, 1)) (d4 : decode code (pc + 14) = .ok (.i2l, 1)) (d5 : decode code (pc + 15) = .ok (.ldc2_w 13, 3)) (d6 : decode code (pc + 18) = .ok (.land, 1)) (d7 : decode code (pc + 19) = .ok (.lor, 1)) {y : Int64} (hy : ((xs (i + 1)).toInt64 <<< ((32 : Int32).toInt64 &&& 63)) ||| ((xs (i + 2)).toInt64 &&& 4294967295) = y)
    (kk : W p l e room_1 s m #[Value.ref b] below meth c H locs cells slots QQ (F0 m (pc + 25) ls (.int (xs (i + 3)) :: .long y :: st))) : W p l e room_1 s m #[Value.ref b] below meth c H locs cells slots QQ (F0 m pc ls st) := by
  refine zl_arg hx hb hX hbl hL hS hl hi (by decide) h1 ?_
  refine lv_i2l hx hb d1 rfl ?_
  refine lv_bipush (v := 32) hx hb d2 (by decide) ?_
  refine lv_lshl hx hb d3 rfl ?_
  refine zl_arg (pc := pc + 9) hx hb hX hbl hL hS hl hi (by decide) h2 ?_
  refine lv_i2l hx hb d4 rfl ?_
  refine lv_ldc2 (v := 4294967295) hx hb hown (hts _ (zGW_in (pl := 1291) (by decide +kernel) rfl)) d5 ?_
  refine lv_land hx hb d6 ?_
  refine lv_lor hx hb d7 ?_
  rw [hy]
  exact zl_arg (pc := pc + 20) hx hb hX hbl hL hS hl hi (by decide) h3 kk
theorem zl_type {Inv : zMem → Prop} {M : zMem} (C0 : zlCx p s m meth c b L xs cells slots D cA ad) (hcase : ∀ (w k : Int), zcse Inv 71 111 [.inr (.inl w), .inl k]) (hI : Inv M) (hM : zrgM M) (hP : va_P D vwCl (zwd cA ad M) H) (hS : va_S (fun q => s.heap.size ≤ q) s.heap H locs) (hl : zlh ls b (ad 0) (ad 55) i) (hi : i + 6 ≤ L) (kk : zlK Inv p l e s m b below meth c cells slots QQ D cA ad i 1240) :
    W p l e room_1 s m #[Value.ref b] below meth c H locs cells slots QQ (F0 m 192 ls []) := by
  have C1 := C0
  obtain ⟨⟨hx, hb, hml, hown⟩, hts, hnw, hX, hbl, hL, hinj, hK, hA, hcs⟩ := C0
  have key : ∀ y : Int64, ∀ z : Int32, ((([.inr (.inl y.toInt), .inl z.toInt] : List zV).map (zcv ad)).reverse) = [.int z, .long y] := fun y z => by simp [zcv]
  have hav : ∀ (y : Int64) (z : Int32), ∀ v ∈ ([.inr (.inl y.toInt), .inl z.toInt] : List zV), zrg v := fun y z => zrgs (zr64 y) (zrgs (zr32 z) (fun _ h => by cases h))
  obtain ⟨y, hy⟩ : ∃ y, ((xs (i + 1)).toInt64 <<< ((32 : Int32).toInt64 &&& 63)) ||| ((xs (i + 2)).toInt64 &&& 4294967295) = y := ⟨_, rfl⟩
  refine lv_aload_n hx hb (zLd (x := (.aload_n 1, 1, 0, 0, 0, 0)) rfl) rfl (lv_at hl 1 rfl) ?_
  refine zl_wide (pc := 193) hx hb hown hts hX hbl hL hS hl hi (by decide +kernel) (by decide +kernel) (by decide +kernel) (zLd (x := (.i2l, 1, 0, 0, 0, 0)) rfl) (zLd (x := (.bipush 32, 2, 0, 0, 0, 0)) rfl) (zLd (x := (.lshl, 1, 0, 0, 0, 0)) rfl) (zLd (x := (.i2l, 1, 0, 0, 0, 0)) rfl) (zLd (x := (.ldc2_w 13, 3, 0, 0, 0, 0)) rfl) (zLd (x := (.land, 1, 0, 0, 0, 0)) rfl) (zLd (x := (.lor, 1, 0, 0, 0, 0)) rfl) hy ?_
  have hgo : W p l e room_1 s m #[Value.ref b] below meth c H locs cells slots QQ (F0 m 218 ls ((([.inr (.inl y.toInt), .inl (xs (i + 3)).toInt] : List zV).map (zcv ad)).reverse ++ .ref (ad 0) :: [])) := by
    refine zl_call (k := 0) (ix := 15) (J := zm71) hx hb hml hl.1 hown hts hnw rfl rfl (zGW_in (pl := 426) (by decide +kernel) rfl) (by show _ = some 2; decide +kernel) rfl (hcase y.toInt (xs (i + 3)).toInt M hM (hav _ _) hI) hM (hav _ _) hinj hK hP hS hA hcs (Nat.le_of_ble_eq_true rfl) (zLd (x := (.invokevirtual 15, 3, 0, 0, 0, 0)) rfl) (fun v M1 H1 locs1 hq hr1 hM1 hP1 hS1 => ?_)
    refine lv_aload_n hx hb (zLd (x := (.aload_n 2, 1, 0, 0, 0, 0)) rfl) rfl (lv_at hl 2 rfl) ?_
    refine zl_wide (pc := 222) hx hb hown hts hX hbl hL hS1 hl hi (by decide +kernel) (by decide +kernel) (by decide +kernel) (zLd (x := (.i2l, 1, 0, 0, 0, 0)) rfl) (zLd (x := (.bipush 32, 2, 0, 0, 0, 0)) rfl) (zLd (x := (.lshl, 1, 0, 0, 0, 0)) rfl) (zLd (x := (.i2l, 1, 0, 0, 0, 0)) rfl) (zLd (x := (.ldc2_w 13, 3, 0, 0, 0, 0)) rfl) (zLd (x := (.land, 1, 0, 0, 0, 0)) rfl) (zLd (x := (.lor, 1, 0, 0, 0, 0)) rfl) hy ?_
    have h2 := zl_two (pc := 247) (mc := 71) (mm := 111) (ixm := 19) (Jm := zm111) (l := l) (e := e) (below := below) (QQ := QQ) C1 rfl rfl (zGW_in (pl := 1009) (by decide +kernel) rfl) (by show _ = some 2; decide +kernel) rfl (hq hM1) hM1 (hav y (xs (i + 3))) hr1 hP1 hS1 hl (zLd (x := (.invokevirtual 19, 3, 0, 0, 0, 0)) rfl) (zLd (x := (.if_icmp .eq 990, 3, 0, 0, 0, 0)) rfl) kk
    rw [key] at h2
    exact h2
  rw [key] at hgo
  exact hgo
end zLaw
