/-! constructors: walked with the kit's rows; a world is the object's own cell, then what was made -/
set_option maxRecDepth 100000 in
theorem zinX0 : ∀ w ∈ u_ws RX0 TX0 1, w ∈ zGW := by
  intro w hw
  have h1 := List.all_eq_true.mp (show (u_ws RX0 TX0 1).all (fun w => decide (w ∈ lw_tbl) && goodWord w) = true by decide +kernel) w hw
  simp only [Bool.and_eq_true, decide_eq_true_eq] at h1
  exact List.mem_filter.mpr ⟨h1.1, h1.2⟩
set_option maxRecDepth 100000 in
theorem zinX1 : ∀ w ∈ u_ws RX1 TX1 4, w ∈ zGW := by
  intro w hw
  have h1 := List.all_eq_true.mp (show (u_ws RX1 TX1 4).all (fun w => decide (w ∈ lw_tbl) && goodWord w) = true by decide +kernel) w hw
  simp only [Bool.and_eq_true, decide_eq_true_eq] at h1
  exact List.mem_filter.mpr ⟨h1.1, h1.2⟩
set_option maxRecDepth 100000 in
theorem zinX2 : ∀ w ∈ u_ws RX2 TX2 14, w ∈ zGW := by
  intro w hw
  have h1 := List.all_eq_true.mp (show (u_ws RX2 TX2 14).all (fun w => decide (w ∈ lw_tbl) && goodWord w) = true by decide +kernel) w hw
  simp only [Bool.and_eq_true, decide_eq_true_eq] at h1
  exact List.mem_filter.mpr ⟨h1.1, h1.2⟩
set_option maxRecDepth 100000 in
theorem zinX3 : ∀ w ∈ u_ws RX3 TX3 8, w ∈ zGW := by
  intro w hw
  have h1 := List.all_eq_true.mp (show (u_ws RX3 TX3 8).all (fun w => decide (w ∈ lw_tbl) && goodWord w) = true by decide +kernel) w hw
  simp only [Bool.and_eq_true, decide_eq_true_eq] at h1
  exact List.mem_filter.mpr ⟨h1.1, h1.2⟩
set_option maxRecDepth 100000 in
theorem zinX4 : ∀ w ∈ u_ws RX4 TX4 7, w ∈ zGW := by
  intro w hw
  have h1 := List.all_eq_true.mp (show (u_ws RX4 TX4 7).all (fun w => decide (w ∈ lw_tbl) && goodWord w) = true by decide +kernel) w hw
  simp only [Bool.and_eq_true, decide_eq_true_eq] at h1
  exact List.mem_filter.mpr ⟨h1.1, h1.2⟩
set_option maxRecDepth 100000 in
theorem zinX5 : ∀ w ∈ u_ws RX5 TX5 1, w ∈ zGW := by
  intro w hw
  have h1 := List.all_eq_true.mp (show (u_ws RX5 TX5 1).all (fun w => decide (w ∈ lw_tbl) && goodWord w) = true by decide +kernel) w hw
  simp only [Bool.and_eq_true, decide_eq_true_eq] at h1
  exact List.mem_filter.mpr ⟨h1.1, h1.2⟩
set_option maxRecDepth 100000 in
theorem zinX6 : ∀ w ∈ u_ws RX6 TX6 3, w ∈ zGW := by
  intro w hw
  have h1 := List.all_eq_true.mp (show (u_ws RX6 TX6 3).all (fun w => decide (w ∈ lw_tbl) && goodWord w) = true by decide +kernel) w hw
  simp only [Bool.and_eq_true, decide_eq_true_eq] at h1
  exact List.mem_filter.mpr ⟨h1.1, h1.2⟩
set_option maxRecDepth 100000 in
theorem zinX7 : ∀ w ∈ u_ws RX7 TX7 13, w ∈ zGW := by
  intro w hw
  have h1 := List.all_eq_true.mp (show (u_ws RX7 TX7 13).all (fun w => decide (w ∈ lw_tbl) && goodWord w) = true by decide +kernel) w hw
  simp only [Bool.and_eq_true, decide_eq_true_eq] at h1
  exact List.mem_filter.mpr ⟨h1.1, h1.2⟩
set_option maxRecDepth 100000 in
theorem zinX8 : ∀ w ∈ u_ws RX8 TX8 2, w ∈ zGW := by
  intro w hw
  have h1 := List.all_eq_true.mp (show (u_ws RX8 TX8 2).all (fun w => decide (w ∈ lw_tbl) && goodWord w) = true by decide +kernel) w hw
  simp only [Bool.and_eq_true, decide_eq_true_eq] at h1
  exact List.mem_filter.mpr ⟨h1.1, h1.2⟩
set_option maxRecDepth 100000 in
theorem zinX9 : ∀ w ∈ u_ws RX9 TX9 11, w ∈ zGW := by
  intro w hw
  have h1 := List.all_eq_true.mp (show (u_ws RX9 TX9 11).all (fun w => decide (w ∈ lw_tbl) && goodWord w) = true by decide +kernel) w hw
  simp only [Bool.and_eq_true, decide_eq_true_eq] at h1
  exact List.mem_filter.mpr ⟨h1.1, h1.2⟩
set_option maxRecDepth 100000 in
theorem zinX10 : ∀ w ∈ u_ws RX10 TX10 36, w ∈ zGW := by
  intro w hw
  have h1 := List.all_eq_true.mp (show (u_ws RX10 TX10 36).all (fun w => decide (w ∈ lw_tbl) && goodWord w) = true by decide +kernel) w hw
  simp only [Bool.and_eq_true, decide_eq_true_eq] at h1
  exact List.mem_filter.mpr ⟨h1.1, h1.2⟩
theorem zD1 {q : Nat} {e : va_E} : va_D (fun _ => True) [(q, e)] := by
  refine ⟨fun i j p r hp hr _ => ?_, fun _ _ _ => trivial⟩
  have h1 : i < 1 := (List.getElem?_eq_some_iff.mp hp).1
  have h2 : j < 1 := (List.getElem?_eq_some_iff.mp hr).1
  omega
abbrev zCc (ci : Nat) (fs0 : List Value) (w1 : Nat → (Nat → Nat) → va_W) (y : MethodName) (bytes : ByteArray) (maxL : Nat) (rm : Room) (D : va_G) (cA : Nat → ClassId) : Prop :=
  ∀ (l : Launch) (h0 sz : Nat), Met l y (.code y bytes maxL none :: zGW) rm (va_Pc [.ref h0] (fun U => U.heap.size = sz ∧ zNW U ∧ va_P D vwCl [(h0, .inr (ci, fs0))] U.heap ∧ va_K D vwCl (ztys cA) U)) (va_Qv (fun _ : Nat → Nat => True) (fun u t => va_P D vwCl (w1 h0 u) t.heap ∧ va_D (va_A [(h0, .inr (ci, fs0))] sz) (w1 h0 u)) (va_A [(h0, .inr (ci, fs0))] sz)) rm.cells rm.slots (va_A [(h0, .inr (ci, fs0))] sz)
abbrev zNC (p : Program) (s : State) (m : MethodId) (args : Array Value) (meth : Method) (c : Code) (R : Room) (A : Nat → Prop) (D : va_G) (cA : Nat → ClassId) (own : String) (bytes : ByteArray) (maxL fr lo mc ms : Nat) : Prop :=
  p.tables.exec = Jvm.exec ∧ c.code = bytes ∧ c.maxLocals = maxL ∧ s.vm.findClass own = some m.cls ∧ (∀ w ∈ zGW, w.before args s = true) ∧ zNW s ∧ va_K D vwCl (ztys cA) s ∧ (∀ q : Nat, s.heap.size ≤ q → A q) ∧ meth.name = "<init>" ∧ fr ≤ R.frames ∧ lo ≤ R.locals ∧ mc ≤ R.cells ∧ ms ≤ R.slots
section zNw
variable {p : Program} {l : Launch} {e : Env} {R : Room} {s : State} {m : MethodId} {args : Array Value} {below : List Frame} {meth : Method} {c : Code} {H : Heap} {locs : List Loc} {cells slots : Nat} {Q : State → Prop} {cc : ByteArray} {pc : Nat} {ls : Array Slot} {rest : List Value} {D : va_G} {AA : Nat → Prop} {ws : va_W} {H0 : Heap} {cA : Nat → ClassId}
theorem zn_newa (hexec : p.tables.exec = Jvm.exec) (hb : c.code = cc) {atype : ArrayType} (t : Nat) {ty : FieldType} (harr : (Cond.arrayClass (newarray.typeOf atype)).before args s = true) (hty : newarray.typeOf atype = ty) (htt : (ztys cA)[t]? = some (cA t, ty)) (hnm : ∀ x : ClassId, va_RA s x ty ↔ s.vm.findClass ("[" ++ ty.toString) = some x) (hK : va_K D vwCl (ztys cA) s) (hP : va_P D vwCl ws H) (hD : va_D AA ws) (hS : va_S AA H0 H locs) (hA : ∀ q, H0.size ≤ q → AA q)
    {n : Int32} {N' : Nat} {a0 : vp_A} (ha : ∀ cA : ClassId, vp_cell cA a0 = arrV cA N' (fun _ => defaultValue ty)) (hn : ¬ n < 0) (hN : n.toNatClampNeg = N') (hbytes : N' * componentBytes ty ≤ 536870912) (hcells : cells + 1 ≤ R.cells) (hslots : slots + N' ≤ R.slots) (hdg : decode cc pc = .ok (.newarray atype, 2))
    (kk : ∀ (q : Nat) (H1 : Heap), va_P D vwCl (ws ++ [(q, .inl (cA t, a0))]) H1 → va_D AA (ws ++ [(q, .inl (cA t, a0))]) → va_S AA H0 H1 locs →
      W p l e R s m args below meth c H1 locs (cells + 1) (slots + N') Q (F0 m (pc + 2) ls (.ref q :: rest))) : W p l e R s m args below meth c H locs cells slots Q (F0 m pc ls (.int n :: rest)) := by
  refine va_newa hexec hb harr hty hK hP hD hS hA ha hn hN hbytes hcells hslots hdg (fun q cA' H1 hK' hP' hD' hS' => ?_)
  have h1 := (hnm _).mp (hK'.2 3 (cA', ty) rfl).2
  have h2 := (hnm _).mp (hK.2 t (cA t, ty) htt).2
  have h3 : cA' = cA t := Option.some.inj (h1.symm.trans h2)
  subst h3
  exact kk q H1 hP' hD' hS'
theorem zn_call {ci : Nat} {fs0 : List Value} {w1 : Nat → (Nat → Nat) → va_W} {y : MethodName} {bytes : ByteArray} {maxL : Nat} {rm : Room} {own : String} {index nL q : Nat} (hexec : p.tables.exec = Jvm.exec) (hb : c.code = cc) (hml : c.maxLocals = nL) (hls : ls.size = nL) (hown : s.vm.findClass own = some m.cls) (hts : ∀ w ∈ zGW, w.before args s = true) (hnw : zNW s) (hcon : zCc ci fs0 w1 y bytes maxL rm D cA)
    (hcw : Cond.code y bytes maxL none ∈ zGW) (hini : Cond.initialized y.cls ∈ zGW) (hinst : Cond.instanceMethod y ∈ zGW) (hlink : Cond.methodLink own index y ∈ zGW ∨ Cond.methodLinkNest own index y "CommaCopies" ∈ lw_tbl) (hy : y.name = "<init>" ∧ y.cls ≠ "java/lang/invoke/MethodHandle" ∧ y.cls ≠ "java/lang/invoke/VarHandle" ∧ (parseMethodDescriptor y.desc).map (fun d => d.parameters.length) = some 0)
    (hroom : rm.frames + 1 ≤ R.frames ∧ 8 + (maxL + 11) + rm.locals ≤ R.locals) (hcs : cells + rm.cells ≤ R.cells ∧ slots + rm.slots ≤ R.slots) (hrest : (rest.map fun v => v.category).sum ≤ 8)
    (hK : va_K D vwCl (ztys cA) s) (hP : va_P D vwCl (ws ++ [(q, .inr (ci, fs0))]) H) (hD : va_D AA (ws ++ [(q, .inr (ci, fs0))])) (hS : va_S AA H0 H locs) (hA : ∀ q, H0.size ≤ q → AA q) (hdg : decode cc pc = .ok (.invokespecial index, 3))
    (kk : ∀ (u : Nat → Nat) (H1 : Heap) (locs1 : List Loc), va_P D vwCl (ws ++ w1 q u) H1 → va_D AA (ws ++ w1 q u) → va_S AA H0 H1 locs1 → W p l e R s m args below meth c H1 locs1 (cells + rm.cells) (slots + rm.slots) Q (F0 m (pc + 3) ls rest)) :
    W p l e R s m args below meth c H locs cells slots Q (F0 m pc ls (.ref q :: rest)) := by
  have hin : (ws ++ [(q, .inr (ci, fs0))])[ws.length]? = some (q, .inr (ci, fs0)) := by simp
  have hPq : va_P D vwCl [(q, .inr (ci, fs0))] H := fun k x hx => by
    have h1 : k < 1 := (List.getElem?_eq_some_iff.mp hx).1
    rw [show k = 0 by omega] at hx
    exact hP ws.length x (hin.trans hx)
  have hq : AA q := hD.2 ws.length _ hin
  have hF : ∀ x, va_A [(q, .inr (ci, fs0))] H.size x → AA x := by
    rintro x (⟨k, e1, h1⟩ | h1)
    · have h2 : k < 1 := (List.getElem?_eq_some_iff.mp h1).1
      rw [show k = 0 by omega] at h1
      cases h1
      exact hq
    · exact hA x (Nat.le_trans hS.1 h1)
  have hp : PreS s H (va_Pc [.ref q] (fun U => U.heap.size = H.size ∧ zNW U ∧ va_P D vwCl [(q, .inr (ci, fs0))] U.heap ∧ va_K D vwCl (ztys cA) U)) [.ref q] := ⟨fun a U g mk z => by
      obtain ⟨z0, z1, z2, z3, z4⟩ := z
      exact ⟨z0, z1, zNW.same (s := U) (U := U.calling g mk a) rfl z2, z3, va_K.moved (u := U) (U := U.calling g mk a) (Vm.Alike.refl U.vm) z4⟩, fun U hU hW => ⟨rfl, by rw [hU], zNW.warm hW hnw, by rw [hU]; exact hPq, va_K.moved hW.alike hK⟩⟩
  have hgood : GoodIn zGW (.code y bytes maxL none :: zGW) := by
    intro w hw
    have hm : w ∈ zGW := by
      rcases List.mem_cons.mp hw with rfl | h1
      · exact hcw
      · exact h1
    exact ⟨hm, good_of_word (List.mem_filter.mp hm).2⟩
  have run : va_Run p l e R s m args below meth c H locs cells slots rm.cells rm.slots (F0 m pc ls (.ref q :: rest)) rest (va_Qv (fun _ : Nat → Nat => True) (fun u t => va_P D vwCl (w1 q u) t.heap ∧ va_D (va_A [(q, .inr (ci, fs0))] H.size) (w1 q u)) (va_A [(q, .inr (ci, fs0))] H.size) [Value.ref q].toArray) (va_A [(q, .inr (ci, fs0))] H.size) := by
    rcases hlink with hw | hw
    · exact va_runI (As := []) (rest := rest) ⟨hexec, hb, hml, hown, hts⟩ (hcon l q H.size) ⟨callB_of 0 hts hgood rfl rfl rfl (hts _ hini) (hts _ hw) ⟨hy.2.1, hy.2.2.1, hy.2.2.2⟩ hroom, hy.1, hts _ hinst⟩ hp rfl rfl hls rfl (by show 2 * 0 + _ ≤ _; omega) hdg hcs
    · exact va_runIN (As := []) (rest := rest) ⟨hexec, hb, hml, hown, hts⟩ (hcon l q H.size) ⟨va_cnB 0 hts hgood rfl rfl rfl (hnw _ hw rfl) (hts _ hini) ⟨hy.2.1, hy.2.2.1, hy.2.2.2⟩ hroom, hy.1, hts _ hinst⟩ hp rfl rfl hls rfl (by show 2 * 0 + _ ≤ _; omega) hdg hcs
  refine va_callv run hS (fun x _ h => hF x h) hF (fun u t H1 locs1 ht hvm _ hB hz hk hS1 => ?_)
  obtain ⟨hP1, hD1⟩ := hB
  rw [ht] at hP1
  have apart : ∀ (k : Nat) (x : Nat × va_E), ws[k]? = some x → x.1 < H.size ∧ ¬ va_A [(q, .inr (ci, fs0))] H.size x.1 := by
    intro k x hx
    have hk2 : k < ws.length := (List.getElem?_eq_some_iff.mp hx).1
    have hx2 : (ws ++ [(q, .inr (ci, fs0))])[k]? = some x := by rw [List.getElem?_append_left hk2]; exact hx
    have hl := (hP k x hx2).lt
    refine ⟨hl, ?_⟩
    rintro (⟨j, e1, h1⟩ | h1)
    · have h2 : j < 1 := (List.getElem?_eq_some_iff.mp h1).1
      rw [show j = 0 by omega] at h1
      have h3 : x.1 = q := by cases h1; rfl
      have h4 := hD.1 k ws.length x _ hx2 hin h3
      omega
    · omega
  have hPw : va_P D vwCl ws H1 := fun k x hx => by
    have hk2 : k < ws.length := (List.getElem?_eq_some_iff.mp hx).1
    have hx2 : (ws ++ [(q, .inr (ci, fs0))])[k]? = some x := by rw [List.getElem?_append_left hk2]; exact hx
    obtain ⟨a1, a2⟩ := apart k x hx
    exact (hP k x hx2).kept (hk x.1 a1 a2)
  have hDw : va_D AA ws := ⟨fun i j x z hx hz e1 => hD.1 i j x z (by rw [List.getElem?_append_left (List.getElem?_eq_some_iff.mp hx).1]; exact hx) (by rw [List.getElem?_append_left (List.getElem?_eq_some_iff.mp hz).1]; exact hz) e1, fun k x hx => hD.2 k x (by rw [List.getElem?_append_left (List.getElem?_eq_some_iff.mp hx).1]; exact hx)⟩
  exact kk u H1 locs1 (hPw.app hP1) (va_D.app hDw (hD1.weaken (fun _ x _ h => hF x.1 h)) (fun i j x z hx hz e1 => (apart i x hx).2 (by rw [e1]; exact hD1.2 j z hz))) hS1
/-- what a putfield of a constructor needs of the tables: its link, its place, its type (vk: 0 an int, 1 a reference, 2 a boolean that is 0 or 1) -/
def zpc (own : String) (ix ci j : Nat) (fin : Bool) (pl vk : Nat) : Bool := match vwCl[ci]? with
  | some (C, T, N) => decide (j < N) && decide ((T j).1 = C) && decide (own = C) && decide ((T j).2.2.2 = fin) && decide (lw_tbl[pl]? = some (.fieldLink own ix C (T j).2.1 (T j).2.2.1)) && (match parseFieldDescriptor (T j).2.2.1 with
    | some .int => Nat.beq vk 0
    | some .boolean => Nat.beq vk 2
    | some (.object _) => Nat.beq vk 1
    | some (.array _) => Nat.beq vk 1
    | _ => false)
  | none => false
def zvk (vk : Nat) (v : Value) : Prop := match vk with
  | 0 => ∃ x, v = .int x
  | 1 => ∃ a, v = .ref a
  | _ => v = .int 0 ∨ v = .int 1
theorem zpc_ex {own : String} {ix ci j : Nat} {fin : Bool} {pl vk : Nat} (h : zpc own ix ci j fin pl vk = true) : ∃ (T : u_T) (N : Nat), vwCl[ci]? = some (own, T, N) ∧ j < N ∧ (T j).1 = own ∧ (T j).2.2.2 = fin ∧ Cond.fieldLink own ix own (T j).2.1 (T j).2.2.1 ∈ zGW ∧ ∀ v, zvk vk v → ∃ ty, parseFieldDescriptor (T j).2.2.1 = some ty ∧ narrow ty v = v ∧ fits ty v = true := by
  unfold zpc at h
  split at h
  · rename_i C T N hc
    simp only [Bool.and_eq_true, decide_eq_true_eq] at h
    obtain ⟨⟨⟨⟨⟨h1, h2⟩, h3⟩, h4⟩, h5⟩, h6⟩ := h
    subst h3
    refine ⟨T, N, hc, h1, h2, h4, zGW_in h5 rfl, fun v hv => ?_⟩
    split at h6
    · rename_i hd
      have := Nat.eq_of_beq_eq_true h6
      subst this
      obtain ⟨x, rfl⟩ := hv
      exact ⟨_, hd, rfl, rfl⟩
    · rename_i hd
      have := Nat.eq_of_beq_eq_true h6
      subst this
      rcases (show v = .int 0 ∨ v = .int 1 from hv) with rfl | rfl
      · exact ⟨_, hd, by decide, by decide⟩
      · exact ⟨_, hd, by decide, by decide⟩
    · rename_i hd
      have := Nat.eq_of_beq_eq_true h6
      subst this
      obtain ⟨x, rfl⟩ := hv
      exact ⟨_, hd, rfl, rfl⟩
    · rename_i hd
      have := Nat.eq_of_beq_eq_true h6
      subst this
      obtain ⟨x, rfl⟩ := hv
      exact ⟨_, hd, rfl, rfl⟩
    · cases h6
  · cases h
theorem zn_put {own : String} {ix ci j pl vk : Nat} {fin : Bool} {fs : List Value} {a : Nat} {wr : va_W} {v : Value} (hexec : p.tables.exec = Jvm.exec) (hb : c.code = cc) (hts : ∀ w ∈ zGW, w.before args s = true) (hown : s.vm.findClass own = some m.cls) (hin2 : meth.name = "<init>") (hK : va_K D vwCl (ztys cA) s) (hP : va_P D vwCl ((a, .inr (ci, fs)) :: wr) H) (hD : va_D AA ((a, .inr (ci, fs)) :: wr)) (hS : va_S AA H0 H locs) (hl : j < fs.length) (hv : zvk vk v) (hchk : zpc own ix ci j fin pl vk = true) (hdg : decode cc pc = .ok (.putfield ix, 3))
    (kk : ∀ (H1 : Heap) (locs1 : List Loc), va_P D vwCl ((a, .inr (ci, fs.set j v)) :: wr) H1 → va_D AA ((a, .inr (ci, fs.set j v)) :: wr) → va_S AA H0 H1 locs1 → W p l e R s m args below meth c H1 locs1 cells slots Q (F0 m (pc + 3) ls rest)) : W p l e R s m args below meth c H locs cells slots Q (F0 m pc ls (v :: .ref a :: rest)) := by
  obtain ⟨T, N, hcl, hj, hT, hfin, hlk, hty2⟩ := zpc_ex hchk
  obtain ⟨C2, T2, N2, ty, hcl2, hin, hty, hnm⟩ := zClO ci (List.getElem?_eq_some_iff.mp hcl).1
  cases hcl.symm.trans hcl2
  obtain ⟨ty2, hd2, hn2, hf2⟩ := hty2 v hv
  cases fin with
  | true => exact va_putF (D := D) hexec hb hts hin ty hty hnm hown hK hP hD hS 0 rfl hcl j hj (hts _ hlk) (fun _ q => by rw [hT] at q; exact q) hfin hin2 hT hd2 hn2 hf2 hl hdg (fun H1 locs1 h1 h2 h3 => kk H1 locs1 h1 h2 h3)
  | false => exact va_put (D := D) hexec hb hts hin ty hty hnm hown hK hP hD hS 0 rfl hcl j hj (hts _ hlk) (fun _ q => by rw [hT] at q; exact q) hfin hd2 hn2 hf2 hl hdg (fun H1 locs1 h1 h2 h3 => kk H1 locs1 h1 h2 h3)
theorem zn_fld {own : String} {ix ci j pl t N' : Nat} {fs : List Value} {a : Nat} {wr : va_W} {atype : ArrayType} {ty : FieldType} {n : Int32} {a0 : vp_A} (hexec : p.tables.exec = Jvm.exec) (hb : c.code = cc) (hts : ∀ w ∈ zGW, w.before args s = true) (hown : s.vm.findClass own = some m.cls) (hin2 : meth.name = "<init>") (hK : va_K D vwCl (ztys cA) s) (hP : va_P D vwCl ((a, .inr (ci, fs)) :: wr) H) (hD : va_D AA ((a, .inr (ci, fs)) :: wr)) (hS : va_S AA H0 H locs) (hA : ∀ q, H0.size ≤ q → AA q)
    (harr : Cond.arrayClass (newarray.typeOf atype) ∈ zGW) (hty : newarray.typeOf atype = ty) (htt : (ztys cA)[t]? = some (cA t, ty)) (hnm : ∀ x : ClassId, va_RA s x ty ↔ s.vm.findClass ("[" ++ ty.toString) = some x) (ha : ∀ cA : ClassId, vp_cell cA a0 = arrV cA N' (fun _ => defaultValue ty)) (hn : ¬ n < 0) (hN : n.toNatClampNeg = N') (hbytes : N' * componentBytes ty ≤ 536870912) (hcells : cells + 1 ≤ R.cells) (hslots : slots + N' ≤ R.slots)
    (hl : j < fs.length) (hchk : zpc own ix ci j true pl 1 = true) (hdg1 : decode cc pc = .ok (.newarray atype, 2)) (hdg : decode cc (pc + 2) = .ok (.putfield ix, 3))
    (kk : ∀ (q : Nat) (H1 : Heap) (locs1 : List Loc), va_P D vwCl ((a, .inr (ci, fs.set j (.ref q))) :: (wr ++ [(q, .inl (cA t, a0))])) H1 → va_D AA ((a, .inr (ci, fs.set j (.ref q))) :: (wr ++ [(q, .inl (cA t, a0))])) → va_S AA H0 H1 locs1 → W p l e R s m args below meth c H1 locs1 (cells + 1) (slots + N') Q (F0 m (pc + 5) ls rest)) : W p l e R s m args below meth c H locs cells slots Q (F0 m pc ls (.int n :: .ref a :: rest)) := by
  refine zn_newa hexec hb t (hts _ harr) hty htt hnm hK hP hD hS hA ha hn hN hbytes hcells hslots hdg1 (fun q H1 h1 h2 h3 => ?_)
  exact zn_put (vk := 1) hexec hb hts hown hin2 hK h1 h2 h3 hl ⟨_, rfl⟩ hchk hdg (fun H2 locs2 g1 g2 g3 => kk q H2 locs2 g1 g2 g3)
theorem zn_get {own : String} {ix ci j pl vk : Nat} {fin : Bool} {fs : List Value} {a : Nat} {wr : va_W} {v : Value} (hexec : p.tables.exec = Jvm.exec) (hb : c.code = cc) (hts : ∀ w ∈ zGW, w.before args s = true) (hown : s.vm.findClass own = some m.cls) (hK : va_K D vwCl (ztys cA) s) (hP : va_P D vwCl ((a, .inr (ci, fs)) :: wr) H) (hv : fs[j]? = some v) (hchk : zpc own ix ci j fin pl vk = true) (hdg : decode cc pc = .ok (.getfield ix, 3))
    (kk : W p l e R s m args below meth c H locs cells slots Q (F0 m (pc + 3) ls (v :: rest))) : W p l e R s m args below meth c H locs cells slots Q (F0 m pc ls (.ref a :: rest)) := by
  obtain ⟨T, N, hcl, hj, hT, hfin, hlk, hty2⟩ := zpc_ex hchk
  obtain ⟨C2, T2, N2, ty, hcl2, hin, hty, hnm⟩ := zClO ci (List.getElem?_eq_some_iff.mp hcl).1
  cases hcl.symm.trans hcl2
  exact va_get (D := D) hexec hb hts hin hown hK hP 0 rfl hcl j hj (hts _ hlk) (fun _ q => by rw [hT] at q; exact q) hv hdg kk
end zNw
