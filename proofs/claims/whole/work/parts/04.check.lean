/-! the tables hold: each entry decodes so, each link is a word of lw_tbl -/
def zlook : Nat → List zEnt → Option (Instr × Nat × Int × Nat × Nat × Nat)
  | _, [] => none
  | pc, e :: r => bif Nat.beq e.1 pc then some e.2 else zlook pc r
theorem zlook_mem {pc : Nat} {l : List zEnt} {x : Instr × Nat × Int × Nat × Nat × Nat} (h : zlook pc l = some x) : (pc, x) ∈ l := by
  induction l with
  | nil => cases h
  | cons e r ih =>
    unfold zlook at h
    cases hb : Nat.beq e.1 pc with
    | true =>
      rw [hb] at h
      have h1 : e.1 = pc := Nat.eq_of_beq_eq_true hb
      have h2 : e.2 = x := by simpa using h
      exact List.mem_cons.mpr (Or.inl (by rw [← h1, ← h2]))
    | false =>
      rw [hb] at h
      exact List.mem_cons_of_mem _ (ih h)
def zlkF (f : Nat × Nat × Nat × Nat × Bool × Nat × Nat) : Bool := match vwCl[f.2.2.1]?, zRN[f.1]? with
  | some (C, T, N), some own => decide (f.2.2.2.1 < N) && decide ((T f.2.2.2.1).1 = C) && (bif f.2.2.2.2.1 then decide (lw_tbl[f.2.2.2.2.2.1]? = some (.fieldLinkNest own f.2.1 C (T f.2.2.2.1).2.1 (T f.2.2.2.1).2.2.1 "CommaCopies")) else decide (lw_tbl[f.2.2.2.2.2.1]? = some (.fieldLink own f.2.1 C (T f.2.2.2.1).2.1 (T f.2.2.2.1).2.2.1)))
    && (match f.2.2.2.2.2.2 with
      | 0 => true
      | 1 => decide ((T f.2.2.2.1).2.2.2 = false) && decide ((T f.2.2.2.1).2.2.1 = "I")
      | _ => decide ((T f.2.2.2.1).2.2.2 = false) && decide ((T f.2.2.2.1).2.2.1 = "Z"))
  | _, _ => false
set_option maxRecDepth 100000 in
theorem zFT_ok : zFT.all zlkF = true := by decide +kernel
def zokM (I : zMI) : Bool := (bif I.2.2.2.2.1 then decide (lw_tbl[I.2.2.2.2.2.2.1.2.1]? = some (.static I.1)) else (decide (lw_tbl[I.2.2.2.2.2.2.1.2.1]? = some (.instanceMethod I.1)) && decide (lw_tbl[I.2.2.2.2.2.2.1.2.2.1]? = some (.selects I.1.cls I.1 I.1)))) &&
  decide (lw_tbl[I.2.2.2.2.2.2.1.2.2.2]? = some (.initialized I.1.cls)) && decide (zRN[I.2.2.2.2.2.1]? = some I.1.cls) && plainName I.1.cls && decide (I.1.cls ≠ "java/lang/invoke/MethodHandle") && decide (I.1.cls ≠ "java/lang/invoke/VarHandle") && decide (I.2.2.1 ≤ 30)
set_option maxRecDepth 100000 in
theorem zMT_ok : zMT.all zokM = true := by decide +kernel
def zlkC (f : Nat × Nat × Nat × Bool × Nat) : Bool := match zRN[f.1]? with
  | some own => (bif Nat.beq f.2.2.1 9999 then decide (lw_tbl[f.2.2.2.2]? = some (.methodLink own f.2.1 arraycopyName)) else bif Nat.beq f.2.2.1 9998 then decide (lw_tbl[f.2.2.2.2]? = some (.methodLink own f.2.1 Lib.Math.max.name)) else (match zMT[f.2.2.1]? with
    | some I => bif f.2.2.2.1 then decide (lw_tbl[f.2.2.2.2]? = some (.methodLinkNest own f.2.1 I.1 "CommaCopies")) else decide (lw_tbl[f.2.2.2.2]? = some (.methodLink own f.2.1 I.1))
    | none => false))
  | none => false
set_option maxRecDepth 100000 in
theorem zCT_ok : zCT.all zlkC = true := by decide +kernel
abbrev zR32 (x : Int) : Prop := -2147483648 ≤ x ∧ x < 2147483648
abbrev zR64 (x : Int) : Prop := -9223372036854775808 ≤ x ∧ x < 9223372036854775808
/-- of an entry what its kind needs -/
def zokI (I : zMI) (pc : Nat) (x : Instr × Nat × Int × Nat × Nat × Nat) : Bool := match x.1 with
  | .getfield ix => decide ((zFT[x.2.2.2.2.2]?).map (fun f => (f.1, f.2.1, f.2.2.1, f.2.2.2.1)) = some (I.2.2.2.2.2.1, ix, x.2.2.2.1, x.2.2.2.2.1))
  | .putfield ix => decide ((zFT[x.2.2.2.2.2]?).map (fun f => (f.1, f.2.1, f.2.2.1, f.2.2.2.1, (f.2.2.2.2.2.2 : Int))) = some (I.2.2.2.2.2.1, ix, x.2.2.2.1, x.2.2.2.2.1, x.2.2.1)) && decide (x.2.2.1 ≠ 0)
  | .invokevirtual ix => decide ((zCT[x.2.2.2.2.2]?).map (fun f => (f.1, f.2.1, f.2.2.1)) = some (I.2.2.2.2.2.1, ix, x.2.2.2.1)) && (match zMT[x.2.2.2.1]? with
    | some J => !J.2.2.2.2.1 && decide ((parseMethodDescriptor J.1.desc).map (fun d => d.parameters.length + 1) = some x.2.2.2.2.1)
    | none => false)
  | .invokestatic ix => decide ((zCT[x.2.2.2.2.2]?).map (fun f => (f.1, f.2.1, f.2.2.1)) = some (I.2.2.2.2.2.1, ix, x.2.2.2.1)) && (Nat.beq x.2.2.2.1 9999 || Nat.beq x.2.2.2.1 9998 || (match zMT[x.2.2.2.1]? with
    | some J => J.2.2.2.2.1 && decide ((parseMethodDescriptor J.1.desc).map (fun d => d.parameters.length) = some x.2.2.2.2.1)
    | none => false))
  | .ldc ix => decide (zR32 x.2.2.1) && decide (lw_tbl[x.2.2.2.2.2]? = some (.constant I.1.cls ix (Int32.ofInt x.2.2.1)))
  | .ldc_w ix => decide (zR32 x.2.2.1) && decide (lw_tbl[x.2.2.2.2.2]? = some (.constant I.1.cls ix (Int32.ofInt x.2.2.1)))
  | .ldc2_w ix => decide (zR64 x.2.2.1) && decide (lw_tbl[x.2.2.2.2.2]? = some (.constantLong I.1.cls ix (Int64.ofInt x.2.2.1)))
  | .ifCond _ off => decide ((pc : Int) + off = (x.2.2.2.1 : Int))
  | .if_icmp _ off => decide ((pc : Int) + off = (x.2.2.2.1 : Int))
  | .goto off => decide ((pc : Int) + off = (x.2.2.2.1 : Int))
  | .iconst n => decide (zR32 n)
  | .bipush n => decide ((Int8.ofInt n).toInt32 = Int32.ofInt n ∧ zR32 n)
  | .sipush n => decide ((Int16.ofInt n).toInt32 = Int32.ofInt n ∧ zR32 n)
  | _ => true
def zlenok : Instr → Nat → Bool
  | .bipush _, n => Nat.beq n 2
  | .ldc _, n => Nat.beq n 2
  | .iload _, n => Nat.beq n 2
  | .lload _, n => Nat.beq n 2
  | .aload _, n => Nat.beq n 2
  | .istore _, n => Nat.beq n 2
  | .lstore _, n => Nat.beq n 2
  | .astore _, n => Nat.beq n 2
  | .sipush _, n => Nat.beq n 3
  | .ldc_w _, n => Nat.beq n 3
  | .ldc2_w _, n => Nat.beq n 3
  | .iinc _ _, n => Nat.beq n 3
  | .ifCond _ _, n => Nat.beq n 3
  | .if_icmp _ _, n => Nat.beq n 3
  | .goto _, n => Nat.beq n 3
  | .getfield _, n => Nat.beq n 3
  | .putfield _, n => Nat.beq n 3
  | .invokevirtual _, n => Nat.beq n 3
  | .invokestatic _, n => Nat.beq n 3
  | .tableswitch .., _ => true
  | _, n => Nat.beq n 1
def zokE (I : zMI) (e : zEnt) : Bool := zlenok e.2.1 e.2.2.1 && decide (decode I.2.1 e.1 = .ok (e.2.1, e.2.2.1)) && zokI I e.1 e.2
def zokC (I : zMI) : Bool := I.2.2.2.2.2.2.2.all (zokE I)
