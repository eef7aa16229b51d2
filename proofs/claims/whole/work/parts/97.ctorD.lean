/-! the reference's constructor: its fields by a list, its loops by induction -/
abbrev zFe : Type := Nat × Nat × Instr × Nat × Nat × Nat × Nat
def zfeP : Instr → Nat → Nat → Bool
  | .bipush k, n, ln => Nat.beq ln 2 && decide ((Int8.ofInt k).toInt32 = nI n)
  | .sipush k, n, ln => Nat.beq ln 3 && decide ((Int16.ofInt k).toInt32 = nI n)
  | .iconst k, n, ln => Nat.beq ln 1 && decide (Int32.ofInt k = nI n)
  | _, _, _ => false
def zfeOk (cc : ByteArray) (own : String) (ci n0 : Nat) (e : zFe) : Bool :=
  decide (decode cc e.1 = .ok (.aload_n 0, 1)) && decide (decode cc (e.1 + 1) = .ok (e.2.2.1, e.2.2.2.1)) && zfeP e.2.2.1 e.2.1 e.2.2.2.1 && decide (decode cc (e.1 + 1 + e.2.2.2.1) = .ok (.newarray .int, 2)) && decide (decode cc (e.1 + 1 + e.2.2.2.1 + 2) = .ok (.putfield e.2.2.2.2.1, 3)) && zpc own e.2.2.2.2.1 ci e.2.2.2.2.2.1 true e.2.2.2.2.2.2 1 && Nat.ble (e.2.2.2.2.2.1 + 1) n0 && Nat.ble e.2.1 1000
def zfeE : Nat → List zFe → Option Nat
  | pc, [] => some pc
  | pc, e :: L => bif Nat.beq e.1 pc then zfeE (pc + 1 + e.2.2.2.1 + 5) L else none
def zfS (u : Nat → Nat) : Nat → List zFe → List Value → List Value
  | _, [], fs => fs
  | k, e :: L, fs => zfS u (k + 1) L (fs.set e.2.2.2.2.2.1 (.ref (u k)))
def zfW (cA : Nat → ClassId) (u : Nat → Nat) : Nat → List zFe → va_W
  | _, [] => []
  | k, e :: L => (u k, .inl (cA 0, e.2.1, .inl (fun _ => 0))) :: zfW cA u (k + 1) L
def zfeN : List zFe → Nat
  | [] => 0
  | e :: L => e.2.1 + zfeN L
theorem zfS_len {u : Nat → Nat} : ∀ (L : List zFe) (k : Nat) (fs : List Value), (zfS u k L fs).length = fs.length := by
  intro L
  induction L with
  | nil => intro k fs; rfl
  | cons e L ih => intro k fs; simp only [zfS]; rw [ih, List.length_set]
theorem zfS_c {u u' : Nat → Nat} : ∀ (L : List zFe) (k : Nat) (fs : List Value), (∀ i, k ≤ i → u i = u' i) → zfS u k L fs = zfS u' k L fs := by
  intro L
  induction L with
  | nil => intro k fs _; rfl
  | cons e L ih => intro k fs h; simp only [zfS]; rw [h k (Nat.le_refl _)]; exact ih (k + 1) _ (fun i hi => h i (by omega))
theorem zfW_c {cA : Nat → ClassId} {u u' : Nat → Nat} : ∀ (L : List zFe) (k : Nat), (∀ i, k ≤ i → u i = u' i) → zfW cA u k L = zfW cA u' k L := by
  intro L
  induction L with
  | nil => intro k _; rfl
  | cons e L ih => intro k h; simp only [zfW]; rw [h k (Nat.le_refl _), ih (k + 1) (fun i hi => h i (by omega))]
section zNx
variable {p : Program} {l : Launch} {e : Env} {R : Room} {s : State} {m : MethodId} {args : Array Value} {below : List Frame} {meth : Method} {c : Code} {H : Heap} {locs : List Loc} {cells slots : Nat} {Q : State → Prop} {cc : ByteArray} {pc : Nat} {ls : Array Slot} {rest : List Value} {D : va_G} {AA : Nat → Prop} {ws : va_W} {H0 : Heap} {cA : Nat → ClassId}
theorem zn_push {i : Instr} {n ln : Nat} (hexec : p.tables.exec = Jvm.exec) (hb : c.code = cc) (h : zfeP i n ln = true) (hdg : decode cc pc = .ok (i, ln)) (kk : W p l e R s m args below meth c H locs cells slots Q (F0 m (pc + ln) ls (.int (nI n) :: rest))) : W p l e R s m args below meth c H locs cells slots Q (F0 m pc ls rest) := by
  cases i with
  | bipush k =>
    simp only [zfeP, Bool.and_eq_true, decide_eq_true_eq] at h
    obtain ⟨h1, h2⟩ := h
    have := Nat.eq_of_beq_eq_true h1
    subst this
    exact lv_bipush hexec hb hdg h2 kk
  | sipush k =>
    simp only [zfeP, Bool.and_eq_true, decide_eq_true_eq] at h
    obtain ⟨h1, h2⟩ := h
    have := Nat.eq_of_beq_eq_true h1
    subst this
    exact lv_sipush hexec hb hdg h2 kk
  | iconst k =>
    simp only [zfeP, Bool.and_eq_true, decide_eq_true_eq] at h
    obtain ⟨h1, h2⟩ := h
    have := Nat.eq_of_beq_eq_true h1
    subst this
    exact lv_iconst hexec hb hdg h2 kk
  | _ => exact (Bool.false_ne_true h).elim
theorem zn_flds {own : String} {ci n0 nL h0 : Nat} (hexec : p.tables.exec = Jvm.exec) (hb : c.code = cc) (hts : ∀ w ∈ zGW, w.before args s = true) (hown : s.vm.findClass own = some m.cls) (hin2 : meth.name = "<init>") (hK : va_K D vwCl (ztys cA) s) (hA : ∀ q, H0.size ≤ q → AA q) (hl : lv_has ls nL [(0, .ref h0)]) :
    ∀ (L : List zFe) (k pc : Nat) (fs : List Value) (wr : va_W) (H : Heap) (locs : List Loc) (cells slots pcE : Nat), L.all (zfeOk cc own ci n0) = true → zfeE pc L = some pcE → fs.length = n0 → cells + L.length ≤ R.cells → slots + zfeN L ≤ R.slots → va_P D vwCl ((h0, .inr (ci, fs)) :: wr) H → va_D AA ((h0, .inr (ci, fs)) :: wr) → va_S AA H0 H locs →
    (∀ (u : Nat → Nat) (H1 : Heap) (locs1 : List Loc), va_P D vwCl ((h0, .inr (ci, zfS u k L fs)) :: (wr ++ zfW cA u k L)) H1 → va_D AA ((h0, .inr (ci, zfS u k L fs)) :: (wr ++ zfW cA u k L)) → va_S AA H0 H1 locs1 → W p l e R s m args below meth c H1 locs1 (cells + L.length) (slots + zfeN L) Q (F0 m pcE ls [])) → W p l e R s m args below meth c H locs cells slots Q (F0 m pc ls []) := by
  intro L
  induction L with
  | nil =>
    intro k pc fs wr H locs cells slots pcE _ hE _ _ _ hP hD hS kk
    have hE : pc = pcE := Option.some.inj hE
    subst hE
    have h1 := kk (fun _ => 0) H locs (by simp only [zfS, zfW, List.append_nil]; exact hP) (by simp only [zfS, zfW, List.append_nil]; exact hD) hS
    exact h1
  | cons x L ih =>
    intro k pc fs wr H locs cells slots pcE hok hE hn hc hs hP hD hS kk
    rw [List.all_cons, Bool.and_eq_true] at hok
    obtain ⟨h1, hok⟩ := hok
    unfold zfeE at hE
    cases hbq : Nat.beq x.1 pc with
    | false => rw [hbq] at hE; cases hE
    | true =>
      rw [hbq] at hE
      have hpc := Nat.eq_of_beq_eq_true hbq
      unfold zfeOk at h1
      simp only [Bool.and_eq_true, decide_eq_true_eq] at h1
      obtain ⟨⟨⟨⟨⟨⟨⟨d0, d1⟩, g⟩, d2⟩, d3⟩, g2⟩, g3⟩, g4⟩ := h1
      rw [hpc] at d0 d1 d2 d3
      have g3 := Nat.le_of_ble_eq_true g3
      have g4 := Nat.le_of_ble_eq_true g4
      simp only [List.length_cons, zfeN] at hc hs
      refine lv_aload_n hexec hb d0 rfl (lv_at hl 0 rfl) ?_
      refine zn_push hexec hb g d1 ?_
      refine zn_fld (t := 0) (own := own) (ci := ci) (atype := .int) (ty := .int) (a0 := (x.2.1, .inl (fun _ => 0))) (n := nI x.2.1) (N' := x.2.1) hexec hb hts hown hin2 hK hP hD hS hA (zGW_in (pl := 177) (by decide +kernel) rfl) rfl rfl (fun _ => Iff.rfl) (fun _ => rfl) (nI_pos (by omega)) (nI_clamp (by omega)) (by show x.2.1 * 4 ≤ 536870912; omega) (by omega) (by omega) (by omega) g2 d2 d3 (fun q H1 locs1 h1 h2 h3 => ?_)
      refine ih (k + 1) (pc + 1 + x.2.2.2.1 + 5) (fs.set x.2.2.2.2.2.1 (.ref q)) (wr ++ [(q, .inl (cA 0, x.2.1, .inl (fun _ => 0)))]) H1 locs1 (cells + 1) (slots + x.2.1) pcE hok hE (by rw [List.length_set]; exact hn) (by omega) (by omega) h1 h2 h3 (fun u H2 locs2 k1 k2 k3 => ?_)
      have e1 : zfS (fun i => if i = k then q else u i) k (x :: L) fs = zfS u (k + 1) L (fs.set x.2.2.2.2.2.1 (.ref q)) := by
        simp only [zfS, if_true]
        exact zfS_c L (k + 1) _ (fun i hi => if_neg (by omega))
      have e2 : wr ++ zfW cA (fun i => if i = k then q else u i) k (x :: L) = wr ++ [(q, .inl (cA 0, x.2.1, .inl (fun _ => 0)))] ++ zfW cA u (k + 1) L := by
        rw [List.append_assoc]
        simp only [zfW, if_true, List.cons_append, List.nil_append]
        rw [zfW_c L (k + 1) (fun i hi => if_neg (by omega))]
      have h9 := kk (fun i => if i = k then q else u i) H2 locs2 (by rw [e1, e2]; exact k1) (by rw [e1, e2]; exact k2) k3
      rw [show cells + (x :: L).length = cells + 1 + L.length by simp only [List.length_cons]; omega, show slots + zfeN (x :: L) = slots + x.2.1 + zfeN L by simp only [zfeN]; omega] at h9
      exact h9
theorem zn_getw {own : String} {ix ci j pl vk q0 : Nat} {fin : Bool} {fs : List Value} {a : Nat} {v : Value} (hexec : p.tables.exec = Jvm.exec) (hb : c.code = cc) (hts : ∀ w ∈ zGW, w.before args s = true) (hown : s.vm.findClass own = some m.cls) (hK : va_K D vwCl (ztys cA) s) (hP : va_P D vwCl ws H) (h00 : ws[q0]? = some (a, .inr (ci, fs))) (hv : fs[j]? = some v) (hchk : zpc own ix ci j fin pl vk = true) (hdg : decode cc pc = .ok (.getfield ix, 3))
    (kk : W p l e R s m args below meth c H locs cells slots Q (F0 m (pc + 3) ls (v :: rest))) : W p l e R s m args below meth c H locs cells slots Q (F0 m pc ls (.ref a :: rest)) := by
  obtain ⟨T, N, hcl, hj, hT, hfin, hlk, hty2⟩ := zpc_ex hchk
  obtain ⟨C2, T2, N2, ty, hcl2, hin, hty, hnm⟩ := zClO ci (List.getElem?_eq_some_iff.mp hcl).1
  cases hcl.symm.trans hcl2
  exact va_get (D := D) hexec hb hts hin hown hK hP q0 h00 hcl j hj (hts _ hlk) (fun _ q => by rw [hT] at q; exact q) hv hdg kk
theorem zn_st {own : String} {ix ci j pl pos n i q h0 nL : Nat} {fs : List Value} {f : Nat → Int32} {v : Int32} {vi : Int} (hexec : p.tables.exec = Jvm.exec) (hb : c.code = cc) (hts : ∀ w ∈ zGW, w.before args s = true) (hown : s.vm.findClass own = some m.cls) (hK : va_K D vwCl (ztys cA) s) (hP : va_P D vwCl ws H) (hD : va_D AA ws) (hS : va_S AA H0 H locs) (h00 : ws[0]? = some (h0, .inr (ci, fs))) (hj : fs[j]? = some (.ref q)) (hpos : ws[pos]? = some (q, .inl (cA 0, n, .inl f))) (hi : i < n) (hn : n ≤ 1000) (hl : lv_has ls nL [(0, .ref h0), (1, .int (nI i))]) (hchk : zpc own ix ci j true pl 1 = true) (hv : Int32.ofInt vi = v)
    (d0 : decode cc pc = .ok (.aload_n 0, 1)) (d1 : decode cc (pc + 1) = .ok (.getfield ix, 3)) (d2 : decode cc (pc + 4) = .ok (.iload_n 1, 1)) (d3 : decode cc (pc + 5) = .ok (.iconst vi, 1)) (d4 : decode cc (pc + 6) = .ok (.iastore, 1))
    (kk : ∀ (H1 : Heap) (locs1 : List Loc), va_P D vwCl (ws.set pos (q, .inl (cA 0, n, .inl (upd f i v)))) H1 → va_D AA (ws.set pos (q, .inl (cA 0, n, .inl (upd f i v)))) → va_S AA H0 H1 locs1 → W p l e R s m args below meth c H1 locs1 cells slots Q (F0 m (pc + 7) ls [])) : W p l e R s m args below meth c H locs cells slots Q (F0 m pc ls []) := by
  refine lv_aload_n hexec hb d0 rfl (lv_at hl 0 rfl) ?_
  refine zn_getw hexec hb hts hown hK hP h00 hj hchk d1 ?_
  refine lv_iload_n hexec hb d2 rfl (lv_at hl 1 rfl) ?_
  refine lv_iconst hexec hb d3 hv ?_
  refine va_iast (D := D) (f := f) (i := nI i) hexec hb hK hP hD hS pos 0 hpos rfl (vp_in_nI hi (by omega)) d4 (fun H1 locs1 h1 h2 h3 => ?_)
  rw [nI_clamp (by omega)] at h1 h2
  exact kk H1 locs1 h1 h2 h3
end zNx
def zfil (n : Nat) (v : Int) : Nat → Int32 := fun x => Int32.ofInt (if x < n then v else 0)
theorem zfil_upd {n : Nat} {v : Int} : upd (zfil n v) n (Int32.ofInt v) = zfil (n + 1) v := by
  funext x
  unfold upd zfil
  by_cases h : x = n
  · rw [if_pos h, if_pos (by omega)]
  · rw [if_neg h]
    by_cases h2 : x < n
    · rw [if_pos h2, if_pos (by omega)]
    · rw [if_neg h2, if_neg (by omega)]
theorem zset_self {ws : va_W} {k : Nat} {x : Nat × va_E} (h : ws[k]? = some x) : ws.set k x = ws := by
  apply List.ext_getElem?
  intro j
  rw [List.getElem?_set]
  by_cases hj : k = j
  · subst hj
    rw [if_pos rfl, if_pos (List.getElem?_eq_some_iff.mp h).1, h]
  · rw [if_neg hj]
theorem zset_get {ws : va_W} {k j : Nat} {x y : Nat × va_E} (h : ws[j]? = some y) (hk : k ≠ j) : (ws.set k x)[j]? = some y := by rw [List.getElem?_set_ne hk]; exact h
theorem zset_at {ws : va_W} {k : Nat} {x y : Nat × va_E} (h : ws[k]? = some y) : (ws.set k x)[k]? = some x := by rw [List.getElem?_set_self (List.getElem?_eq_some_iff.mp h).1]
def zxL1 : List zFe := [(4, 120, .bipush 120, 2, 7, 0, 900), (12, 120, .bipush 120, 2, 13, 3, 903), (20, 6, .bipush 6, 2, 16, 5, 905), (28, 6, .bipush 6, 2, 19, 6, 906), (36, 6, .bipush 6, 2, 22, 7, 907), (44, 24, .bipush 24, 2, 25, 8, 908), (52, 24, .bipush 24, 2, 28, 9, 909), (60, 24, .bipush 24, 2, 31, 10, 910), (68, 6, .bipush 6, 2, 34, 11, 911), (76, 48, .bipush 48, 2, 37, 13, 913)]
def zxL2 : List zFe := [(89, 6, .bipush 6, 2, 44, 16, 916), (97, 48, .bipush 48, 2, 47, 18, 918), (105, 240, .sipush 240, 3, 50, 19, 919), (114, 92, .bipush 92, 2, 53, 20, 920), (122, 6, .bipush 6, 2, 56, 22, 922), (130, 552, .sipush 552, 3, 59, 23, 923), (139, 8, .bipush 8, 2, 62, 27, 927), (147, 4, .iconst 4, 1, 65, 28, 928), (154, 6, .bipush 6, 2, 68, 29, 929), (162, 480, .sipush 480, 3, 71, 30, 930), (171, 4, .iconst 4, 1, 74, 32, 932), (178, 4, .iconst 4, 1, 77, 33, 933), (185, 48, .bipush 48, 2, 80, 34, 934), (193, 12, .bipush 12, 2, 83, 35, 935)]
set_option maxRecDepth 100000 in
theorem zxL1_ok : zxL1.all (zfeOk prog_12_method_3_code RX10 10 36) = true := by decide +kernel
set_option maxRecDepth 100000 in
theorem zxL2_ok : zxL2.all (zfeOk prog_12_method_3_code RX10 10 36) = true := by decide +kernel
def zwX10 (cA : Nat → ClassId) (h0 : Nat) (u : Nat → Nat) : va_W := [(h0, .inr (10, [.ref (u 0), .int 0, .int 0, .ref (u 1), .int 0, .ref (u 2), .ref (u 3), .ref (u 4), .ref (u 5), .ref (u 6), .ref (u 7), .ref (u 8), .int 0, .ref (u 9), .int 2, .int 0, .ref (u 10), .int 0, .ref (u 11), .ref (u 12), .ref (u 13), .int 0, .ref (u 14), .ref (u 15), .int 0, .int 0, .int 0, .ref (u 16), .ref (u 17), .ref (u 18), .ref (u 19), .int 0, .ref (u 20), .ref (u 21), .ref (u 22), .ref (u 23)])), (u 0, .inl (cA 0, 120, .inl (fun _ => 0))), (u 1, .inl (cA 0, 120, .inl (fun _ => 0))), (u 2, .inl (cA 0, 6, .inl (fun _ => 0))), (u 3, .inl (cA 0, 6, .inl (fun _ => 0))), (u 4, .inl (cA 0, 6, .inl (fun _ => 0))), (u 5, .inl (cA 0, 24, .inl (fun _ => 0))), (u 6, .inl (cA 0, 24, .inl (fun _ => 0))), (u 7, .inl (cA 0, 24, .inl (fun _ => 0))), (u 8, .inl (cA 0, 6, .inl (zfil 6 (-1)))), (u 9, .inl (cA 0, 48, .inl (fun _ => 0))), (u 10, .inl (cA 0, 6, .inl (zfil 6 5))), (u 11, .inl (cA 0, 48, .inl (fun _ => 0))), (u 12, .inl (cA 0, 240, .inl (fun _ => 0))), (u 13, .inl (cA 0, 92, .inl (fun _ => 0))), (u 14, .inl (cA 0, 6, .inl (fun _ => 0))), (u 15, .inl (cA 0, 552, .inl (fun _ => 0))), (u 16, .inl (cA 0, 8, .inl (fun _ => 0))), (u 17, .inl (cA 0, 4, .inl (fun _ => 0))), (u 18, .inl (cA 0, 6, .inl (fun _ => 0))), (u 19, .inl (cA 0, 480, .inl (fun _ => 0))), (u 20, .inl (cA 0, 4, .inl (zfil 4 (-1)))), (u 21, .inl (cA 0, 4, .inl (fun _ => 0))), (u 22, .inl (cA 0, 48, .inl (fun _ => 0))), (u 23, .inl (cA 0, 12, .inl (fun _ => 0)))]
def zrmX10 : Room := { frames := 1, cells := 24, slots := 1894, locals := 60 }
def zxF0 : List Value := [.null, .int 0, .int 0, .null, .int 0, .null, .null, .null, .null, .null, .null, .null, .int 0, .null, .int 0, .int 0, .null, .int 0, .null, .null, .null, .int 0, .null, .null, .int 0, .int 0, .int 0, .null, .null, .null, .null, .int 0, .null, .null, .null, .null]
set_option maxHeartbeats 4000000 in
set_option maxRecDepth 100000 in
theorem zx10_a {p : Program} {l : Launch} {e : Env} {R : Room} {s : State} {m : MethodId} {args : Array Value} {below : List Frame} {meth : Method} {c : Code} {Q : State → Prop} {A : Nat → Prop} {D : va_G} {cA : Nat → ClassId} {h0 q q2 cells slots : Nat} {fs : List Value} (C0 : zNC p s m args meth c R A D cA RX10 prog_12_method_3_code 2 1 60 24 1894) : ∀ (mm i : Nat) (ws : va_W) (H : Heap) (locs : List Loc) (ls : Array Slot), i + mm = 4 → ws[0]? = some (h0, .inr (10, fs)) → fs[32]? = some (.ref q) → ws[21]? = some (q, .inl (cA 0, 4, .inl (zfil i (-1)))) → va_P D vwCl ws H → va_D A ws → va_S A s.heap H locs → lv_has ls 2 [(0, .ref h0), (1, .int (nI i))] → (∀ (H : Heap) (locs : List Loc) (ls : Array Slot), va_P D vwCl (ws.set 21 (q, .inl (cA 0, 4, .inl (zfil 4 (-1))))) H → va_D A (ws.set 21 (q, .inl (cA 0, 4, .inl (zfil 4 (-1))))) → va_S A s.heap H locs → lv_has ls 2 [(0, .ref h0), (1, .int (nI 4))] → W p l e R s m args below meth c H locs cells slots Q (F0 m 221 ls [])) → W p l e R s m args below meth c H locs cells slots Q (F0 m 203 ls []) := by
  obtain ⟨hx, hb, hml, hown, hts, hnw, hK, hA, hin, hR1, hR2, hR3, hR4⟩ := C0
  intro mm
  induction mm with
  | zero =>
    intro i ws H locs ls hi h00 hf0 hw0 hP hD hS hl kk
    have : i = 4 := by omega
    subst this
    refine lv_iload_n hx hb (show decode prog_12_method_3_code 203 = .ok (.iload_n 1, 1) by decide +kernel) rfl (lv_at hl 1 rfl) ?_
    refine lv_iconst (v := nI 4) hx hb (show decode prog_12_method_3_code 204 = .ok (.iconst 4, 1) by decide +kernel) (by decide) ?_
    refine lv_icmp_ge (tgt := 221) hx hb (show decode prog_12_method_3_code 205 = .ok (.if_icmp .ge 16, 3) by decide +kernel) (by decide) (fun _ => ?_) (fun h9 => absurd (nI_le (Nat.le_refl _) (by decide)) h9)
    refine kk H locs ls ?_ ?_ hS hl
    · rw [zset_self hw0]; exact hP
    · rw [zset_self hw0]; exact hD
  | succ mm ih =>
    intro i ws H locs ls hi h00 hf0 hw0 hP hD hS hl kk
    refine lv_iload_n hx hb (show decode prog_12_method_3_code 203 = .ok (.iload_n 1, 1) by decide +kernel) rfl (lv_at hl 1 rfl) ?_
    refine lv_iconst (v := nI 4) hx hb (show decode prog_12_method_3_code 204 = .ok (.iconst 4, 1) by decide +kernel) (by decide) ?_
    refine lv_icmp_ge (tgt := 221) hx hb (show decode prog_12_method_3_code 205 = .ok (.if_icmp .ge 16, 3) by decide +kernel) (by decide) (fun h9 => absurd h9 (nI_ge (by omega) (by decide))) (fun _ => ?_)
    refine zn_st (own := RX10) (ix := 74) (ci := 10) (j := 32) (pl := 932) (pos := 21) (n := 4) (i := i) (q := q) (vi := (-1)) hx hb hts hown hK hP hD hS h00 hf0 hw0 (by omega) (by decide) hl (by decide +kernel) rfl (show decode prog_12_method_3_code 208 = .ok (.aload_n 0, 1) by decide +kernel) (show decode prog_12_method_3_code 209 = .ok (.getfield 74, 3) by decide +kernel) (show decode prog_12_method_3_code 212 = .ok (.iload_n 1, 1) by decide +kernel) (show decode prog_12_method_3_code 213 = .ok (.iconst (-1), 1) by decide +kernel) (show decode prog_12_method_3_code 214 = .ok (.iastore, 1) by decide +kernel) (fun H locs hP hD hS => ?_)
    rw [zfil_upd] at hP hD
    refine lv_iinc (v := nI (i + 1)) (lv' := [(1, .int (nI (i + 1))), (0, .ref h0)]) hx hb (show decode prog_12_method_3_code 215 = .ok (.iinc 1 1, 3) by decide +kernel) hl (k := 1) rfl (nI_succ i).symm (by decide) rfl (fun ls hl => ?_)
    have hl := lv_sub hl (l' := [(0, .ref h0), (1, .int (nI (i + 1)))]) [1, 0] rfl
    refine lv_goto (tgt := 203) hx hb (show decode prog_12_method_3_code 218 = .ok (.goto (-15), 3) by decide +kernel) (by decide) ?_
    refine ih (i + 1) _ H locs ls (by omega) (zset_get h00 (by decide)) hf0 (zset_at hw0) hP hD hS hl (fun H locs ls hP hD hS hl => ?_)
    rw [List.set_set] at hP hD
    exact kk H locs ls hP hD hS hl
set_option maxHeartbeats 4000000 in
set_option maxRecDepth 100000 in
theorem zx10_b {p : Program} {l : Launch} {e : Env} {R : Room} {s : State} {m : MethodId} {args : Array Value} {below : List Frame} {meth : Method} {c : Code} {Q : State → Prop} {A : Nat → Prop} {D : va_G} {cA : Nat → ClassId} {h0 q q2 cells slots : Nat} {fs : List Value} (C0 : zNC p s m args meth c R A D cA RX10 prog_12_method_3_code 2 1 60 24 1894) : ∀ (mm i : Nat) (ws : va_W) (H : Heap) (locs : List Loc) (ls : Array Slot), i + mm = 6 → ws[0]? = some (h0, .inr (10, fs)) → fs[16]? = some (.ref q) → ws[11]? = some (q, .inl (cA 0, 6, .inl (zfil i 5))) → fs[11]? = some (.ref q2) → ws[9]? = some (q2, .inl (cA 0, 6, .inl (zfil i (-1)))) → va_P D vwCl ws H → va_D A ws → va_S A s.heap H locs → lv_has ls 2 [(0, .ref h0), (1, .int (nI i))] → (∀ (H : Heap) (locs : List Loc) (ls : Array Slot), va_P D vwCl ((ws.set 11 (q, .inl (cA 0, 6, .inl (zfil 6 5)))).set 9 (q2, .inl (cA 0, 6, .inl (zfil 6 (-1))))) H → va_D A ((ws.set 11 (q, .inl (cA 0, 6, .inl (zfil 6 5)))).set 9 (q2, .inl (cA 0, 6, .inl (zfil 6 (-1))))) → va_S A s.heap H locs → lv_has ls 2 [(0, .ref h0), (1, .int (nI 6))] → W p l e R s m args below meth c H locs cells slots Q (F0 m 249 ls [])) → W p l e R s m args below meth c H locs cells slots Q (F0 m 223 ls []) := by
  obtain ⟨hx, hb, hml, hown, hts, hnw, hK, hA, hin, hR1, hR2, hR3, hR4⟩ := C0
  intro mm
  induction mm with
  | zero =>
    intro i ws H locs ls hi h00 hf0 hw0 hf1 hw1 hP hD hS hl kk
    have : i = 6 := by omega
    subst this
    refine lv_iload_n hx hb (show decode prog_12_method_3_code 223 = .ok (.iload_n 1, 1) by decide +kernel) rfl (lv_at hl 1 rfl) ?_
    refine lv_bipush (v := nI 6) hx hb (show decode prog_12_method_3_code 224 = .ok (.bipush 6, 2) by decide +kernel) (by decide) ?_
    refine lv_icmp_ge (tgt := 249) hx hb (show decode prog_12_method_3_code 226 = .ok (.if_icmp .ge 23, 3) by decide +kernel) (by decide) (fun _ => ?_) (fun h9 => absurd (nI_le (Nat.le_refl _) (by decide)) h9)
    refine kk H locs ls ?_ ?_ hS hl
    · rw [zset_self hw0, zset_self hw1]; exact hP
    · rw [zset_self hw0, zset_self hw1]; exact hD
  | succ mm ih =>
    intro i ws H locs ls hi h00 hf0 hw0 hf1 hw1 hP hD hS hl kk
    refine lv_iload_n hx hb (show decode prog_12_method_3_code 223 = .ok (.iload_n 1, 1) by decide +kernel) rfl (lv_at hl 1 rfl) ?_
    refine lv_bipush (v := nI 6) hx hb (show decode prog_12_method_3_code 224 = .ok (.bipush 6, 2) by decide +kernel) (by decide) ?_
    refine lv_icmp_ge (tgt := 249) hx hb (show decode prog_12_method_3_code 226 = .ok (.if_icmp .ge 23, 3) by decide +kernel) (by decide) (fun h9 => absurd h9 (nI_ge (by omega) (by decide))) (fun _ => ?_)
    refine zn_st (own := RX10) (ix := 44) (ci := 10) (j := 16) (pl := 916) (pos := 11) (n := 6) (i := i) (q := q) (vi := 5) hx hb hts hown hK hP hD hS h00 hf0 hw0 (by omega) (by decide) hl (by decide +kernel) rfl (show decode prog_12_method_3_code 229 = .ok (.aload_n 0, 1) by decide +kernel) (show decode prog_12_method_3_code 230 = .ok (.getfield 44, 3) by decide +kernel) (show decode prog_12_method_3_code 233 = .ok (.iload_n 1, 1) by decide +kernel) (show decode prog_12_method_3_code 234 = .ok (.iconst 5, 1) by decide +kernel) (show decode prog_12_method_3_code 235 = .ok (.iastore, 1) by decide +kernel) (fun H locs hP hD hS => ?_)
    rw [zfil_upd] at hP hD
    refine zn_st (own := RX10) (ix := 34) (ci := 10) (j := 11) (pl := 911) (pos := 9) (n := 6) (i := i) (q := q2) (vi := (-1)) hx hb hts hown hK hP hD hS (zset_get h00 (by decide)) hf1 (zset_get hw1 (by decide)) (by omega) (by decide) hl (by decide +kernel) rfl (show decode prog_12_method_3_code 236 = .ok (.aload_n 0, 1) by decide +kernel) (show decode prog_12_method_3_code 237 = .ok (.getfield 34, 3) by decide +kernel) (show decode prog_12_method_3_code 240 = .ok (.iload_n 1, 1) by decide +kernel) (show decode prog_12_method_3_code 241 = .ok (.iconst (-1), 1) by decide +kernel) (show decode prog_12_method_3_code 242 = .ok (.iastore, 1) by decide +kernel) (fun H locs hP hD hS => ?_)
    rw [zfil_upd] at hP hD
    refine lv_iinc (v := nI (i + 1)) (lv' := [(1, .int (nI (i + 1))), (0, .ref h0)]) hx hb (show decode prog_12_method_3_code 243 = .ok (.iinc 1 1, 3) by decide +kernel) hl (k := 1) rfl (nI_succ i).symm (by decide) rfl (fun ls hl => ?_)
    have hl := lv_sub hl (l' := [(0, .ref h0), (1, .int (nI (i + 1)))]) [1, 0] rfl
    refine lv_goto (tgt := 223) hx hb (show decode prog_12_method_3_code 246 = .ok (.goto (-23), 3) by decide +kernel) (by decide) ?_
    refine ih (i + 1) _ H locs ls (by omega) (zset_get (zset_get h00 (by decide)) (by decide)) hf0 (zset_get (zset_at hw0) (by decide)) hf1 (zset_at (zset_get hw1 (by decide))) hP hD hS hl (fun H locs ls hP hD hS hl => ?_)
    rw [List.set_comm (l := ws.set 11 _) _ _ (by decide : (9 : Nat) ≠ 11), List.set_set, List.set_set] at hP hD
    exact kk H locs ls hP hD hS hl
