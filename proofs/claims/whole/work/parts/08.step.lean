/-! one instruction: what must hold so that the frame comes to its end, K being what holds behind it -/
def z1 (st : List zV) (f : Int → List zV → Prop) : Prop := match st with
  | .inl a :: r => f a r
  | _ => False
def z2 (st : List zV) (f : Int → Int → List zV → Prop) : Prop := match st with
  | .inl b :: .inl a :: r => f a b r
  | _ => False
def zl1 (st : List zV) (f : Int → List zV → Prop) : Prop := match st with
  | .inr (.inl a) :: r => f a r
  | _ => False
def zl2 (st : List zV) (f : Int → Int → List zV → Prop) : Prop := match st with
  | .inr (.inl b) :: .inr (.inl a) :: r => f a b r
  | _ => False
def zli (st : List zV) (f : Int → Int → List zV → Prop) : Prop := match st with
  | .inl b :: .inr (.inl a) :: r => f a b r
  | _ => False
def zr1 (st : List zV) (f : Nat → List zV → Prop) : Prop := match st with
  | .inr (.inr k) :: r => f k r
  | _ => False
def zri (st : List zV) (f : Nat → Int → List zV → Prop) : Prop := match st with
  | .inl i :: .inr (.inr k) :: r => f k i r
  | _ => False
def zrii (st : List zV) (f : Nat → Int → Int → List zV → Prop) : Prop := match st with
  | .inl v :: .inl i :: .inr (.inr k) :: r => f k i v r
  | _ => False
def zril (st : List zV) (f : Nat → Int → Int → List zV → Prop) : Prop := match st with
  | .inr (.inl v) :: .inl i :: .inr (.inr k) :: r => f k i v r
  | _ => False
def zgI (o : Option (Option zV)) (f : Int → Prop) : Prop := match o with
  | some (some (.inl x)) => f x
  | _ => False
def zgL (o : Option (Option zV)) (f : Int → Prop) : Prop := match o with
  | some (some (.inr (.inl x))) => f x
  | _ => False
def zgR (o : Option (Option zV)) (f : Nat → Prop) : Prop := match o with
  | some (some (.inr (.inr x))) => f x
  | _ => False
def zar (k t : Nat) (f : Nat → Prop) : Prop := match zSHL[k]? with
  | some (.inl (t', n)) => bif Nat.beq t' t then f n else False
  | _ => False
def zln (k : Nat) (f : Nat → Prop) : Prop := match zSHL[k]? with
  | some (.inl (_, n)) => f n
  | _ => False
def zob (k ci : Nat) (f : List (Option Nat) → Prop) : Prop := match zSHL[k]? with
  | some (.inr (c', fs)) => bif Nat.beq c' ci then f fs else False
  | _ => False
def zisL (o : Option (Option zV)) : Bool := match o with
  | some (some (.inr (.inl _))) => true
  | _ => false
/-- a value of one word may be stored at i: there is such a local, and no long stands ahead of it -/
def zfr (ls : List (Option zV)) (i : Nat) : Bool := Nat.ble (i + 1) ls.length && (match i with
  | 0 => true
  | j + 1 => !zisL ls[j]?)
def zch (c : ClassFile.Cond) (a b : Int) : Prop := match c with
  | .eq => a = b
  | .ne => a ≠ b
  | .lt => a < b
  | .ge => a ≥ b
  | .gt => a > b
  | .le => a ≤ b
def ziand (a b : Int) : Int := (Int32.ofInt a &&& Int32.ofInt b).toInt
def zior (a b : Int) : Int := (Int32.ofInt a ||| Int32.ofInt b).toInt
def zixor (a b : Int) : Int := (Int32.ofInt a ^^^ Int32.ofInt b).toInt
def zishl (a b : Int) : Int := (Int32.ofInt a <<< (Int32.ofInt b &&& 31)).toInt
def zishr (a b : Int) : Int := (Int32.ofInt a >>> (Int32.ofInt b &&& 31)).toInt
def ziushr (a b : Int) : Int := (((Int32.ofInt a).toUInt32 >>> ((Int32.ofInt b).toUInt32 &&& Int32.toUInt32 31)).toInt32).toInt
def zidiv (a b : Int) : Int := (Int32.ofInt a / Int32.ofInt b).toInt
def zirem (a b : Int) : Int := (Int32.ofInt a - Int32.ofInt a / Int32.ofInt b * Int32.ofInt b).toInt
def zland (a b : Int) : Int := (Int64.ofInt a &&& Int64.ofInt b).toInt
def zlor (a b : Int) : Int := (Int64.ofInt a ||| Int64.ofInt b).toInt
def zlxor (a b : Int) : Int := (Int64.ofInt a ^^^ Int64.ofInt b).toInt
def zlsub (a b : Int) : Int := (Int64.ofInt a - Int64.ofInt b).toInt
def zladd (a b : Int) : Int := (Int64.ofInt a + Int64.ofInt b).toInt
def zlmul (a b : Int) : Int := (Int64.ofInt a * Int64.ofInt b).toInt
def zlshl (a b : Int) : Int := (Int64.ofInt a <<< ((Int32.ofInt b).toInt64 &&& 63)).toInt
def zlshr (a b : Int) : Int := (Int64.ofInt a >>> ((Int32.ofInt b).toInt64 &&& 63)).toInt
def zlushr (a b : Int) : Int := (((Int64.ofInt a).toUInt64 >>> ((Int32.ofInt b).toInt64.toUInt64 &&& Int64.toUInt64 63)).toInt64).toInt
def zi2b (a : Int) : Int := a.bmod 256
def zi2s (a : Int) : Int := a.bmod 65536
def zl2i (a : Int) : Int := a.bmod 4294967296
def zlcmp (a b : Int) : Int := if b < a then 1 else if a = b then 0 else -1
def ztsw (pc : Nat) (a : Int) (K : Nat → Prop) : Int → List Int → Prop
  | _, [] => True
  | v, o :: r => (a = v → K (((pc : Int) + o).toNat)) ∧ ztsw pc a K (v + 1) r
def zcls (k : Nat) : Option Nat := match zSHL[k]? with
  | some (.inr (c, _)) => some c
  | _ => none
abbrev zCv (d mi : Nat) (av : List zV) (M : zMem) (Q : zMem → Prop) : Prop := zCt d mi av M (fun r M' => r = none ∧ Q M')
abbrev zCi (d mi : Nat) (av : List zV) (M : zMem) (Q : Int → zMem → Prop) : Prop := zCt d mi av M (fun r M' => ∃ v : Int, r = some (.inl v) ∧ Q v M')
abbrev zCl (d mi : Nat) (av : List zV) (M : zMem) (Q : Int → zMem → Prop) : Prop := zCt d mi av M (fun r M' => ∃ v : Int, r = some (.inr (.inl v)) ∧ Q v M')
abbrev zCr (d mi : Nat) (av : List zV) (M : zMem) (Q : zMem → Prop) : Prop := zCt d mi av M (fun r M' => r = some (.inr (.inr 42)) ∧ Q M')
/-- the answer's kind of a method: 0 none, 1 int or boolean, 2 long, 3 a reference -/
def zkd : Option FieldType → Nat
  | none => 0
  | some .int => 1
  | some .boolean => 1
  | some .long => 2
  | some (.object _) => 3
  | _ => 9
def zcall (d mi : Nat) (av : List zV) (rest : List zV) (M : zMem) (K : List zV → zMem → Prop) : Prop := match (zMT[mi]?).map (fun I => zkd I.2.2.2.1) with
  | some 0 => ∃ Q, zCv (d - 1) mi av M Q ∧ ∀ M', Q M' → K rest M'
  | some 1 => ∃ Q, zCi (d - 1) mi av M Q ∧ ∀ v M', Q v M' → K (.inl v :: rest) M'
  | some 2 => ∃ Q, zCl (d - 1) mi av M Q ∧ ∀ v M', Q v M' → K (.inr (.inl v) :: rest) M'
  | some 3 => ∃ Q, zCr (d - 1) mi av M Q ∧ ∀ M', Q M' → K (.inr (.inr 42) :: rest) M'
  | _ => False
def zrcv (mi : Nat) (av : List zV) : Bool := match av with
  | .inr (.inr k) :: _ => decide ((zMT[mi]?).map (fun I => I.2.2.2.2.2.1) = zcls k)
  | _ => false
def zacp (st : List zV) (M : zMem) (K : List zV → zMem → Prop) : Prop := match st with
  | .inl n :: .inl q :: .inr (.inr b) :: .inl p :: .inr (.inr a) :: r => bif Nat.ble r.length 4 then (match zSHL[a]?, zSHL[b]? with
    | some (.inl (t, la)), some (.inl (t', lb)) => bif (Nat.beq t t' && Nat.ble (t + 1) 2) then (0 ≤ p ∧ 0 ≤ q ∧ 0 ≤ n ∧ p + n ≤ la ∧ q + n ≤ lb ∧ K r (zcpy M a p.toNat b q.toNat n.toNat)) else False
    | _, _ => False) else False
  | _ => False
def zst (d : Nat) (I : zMI) (Q : Option zV → zMem → Prop) (pc : Nat) (ls : List (Option zV)) (st : List zV) (M : zMem) (x : Instr × Nat × Int × Nat × Nat × Nat) (K : Nat → List (Option zV) → List zV → zMem → Prop) : Prop := match x.1 with
  | .iconst n => K (pc + 1) ls (.inl n :: st) M
  | .bipush n => K (pc + 2) ls (.inl n :: st) M
  | .sipush n => K (pc + 3) ls (.inl n :: st) M
  | .ldc _ => K (pc + 2) ls (.inl x.2.2.1 :: st) M
  | .ldc_w _ => K (pc + 3) ls (.inl x.2.2.1 :: st) M
  | .ldc2_w _ => K (pc + 3) ls (.inr (.inl x.2.2.1) :: st) M
  | .lconst n => K (pc + 1) ls (.inr (.inl ((n : Nat) : Int)) :: st) M
  | .iload i => zgI ls[i]? fun v => K (pc + 2) ls (.inl v :: st) M
  | .iload_n i => zgI ls[(i : Nat)]? fun v => K (pc + 1) ls (.inl v :: st) M
  | .lload i => zgL ls[i]? fun v => K (pc + 2) ls (.inr (.inl v) :: st) M
  | .lload_n i => zgL ls[(i : Nat)]? fun v => K (pc + 1) ls (.inr (.inl v) :: st) M
  | .aload i => zgR ls[i]? fun v => K (pc + 2) ls (.inr (.inr v) :: st) M
  | .aload_n i => zgR ls[(i : Nat)]? fun v => K (pc + 1) ls (.inr (.inr v) :: st) M
  | .istore i => z1 st fun v r => bif zfr ls i then K (pc + 2) (ls.set i (zI v)) r M else False
  | .istore_n i => z1 st fun v r => bif zfr ls i then K (pc + 1) (ls.set i (zI v)) r M else False
  | .lstore i => zl1 st fun v r => bif (zfr ls i && zfr (ls.set i none) (i + 1)) then K (pc + 2) ((ls.set i (zL v)).set (i + 1) none) r M else False
  | .lstore_n i => zl1 st fun v r => bif (zfr ls i && zfr (ls.set i none) (i + 1)) then K (pc + 1) ((ls.set i (zL v)).set (i + 1) none) r M else False
  | .astore i => zr1 st fun v r => bif zfr ls i then K (pc + 2) (ls.set i (zR v)) r M else False
  | .astore_n i => zr1 st fun v r => bif zfr ls i then K (pc + 1) (ls.set i (zR v)) r M else False
  | .iinc i n => zgI ls[i]? fun v => bif zfr ls i then (zR32 (v + n) ∧ K (pc + 3) (ls.set i (zI (v + n))) st M) else False
  | .iadd => z2 st fun a b r => zR32 (a + b) ∧ K (pc + 1) ls (.inl (a + b) :: r) M
  | .isub => z2 st fun a b r => zR32 (a - b) ∧ K (pc + 1) ls (.inl (a - b) :: r) M
  | .imul => z2 st fun a b r => zR32 (a * b) ∧ K (pc + 1) ls (.inl (a * b) :: r) M
  | .iand => z2 st fun a b r => K (pc + 1) ls (.inl (ziand a b) :: r) M
  | .ior => z2 st fun a b r => K (pc + 1) ls (.inl (zior a b) :: r) M
  | .ixor => z2 st fun a b r => K (pc + 1) ls (.inl (zixor a b) :: r) M
  | .ishl => z2 st fun a b r => K (pc + 1) ls (.inl (zishl a b) :: r) M
  | .ishr => z2 st fun a b r => K (pc + 1) ls (.inl (zishr a b) :: r) M
  | .iushr => z2 st fun a b r => K (pc + 1) ls (.inl (ziushr a b) :: r) M
  | .idiv => z2 st fun a b r => b ≠ 0 ∧ K (pc + 1) ls (.inl (zidiv a b) :: r) M
  | .irem => z2 st fun a b r => b ≠ 0 ∧ K (pc + 1) ls (.inl (zirem a b) :: r) M
  | .i2b => z1 st fun a r => K (pc + 1) ls (.inl (zi2b a) :: r) M
  | .i2s => z1 st fun a r => K (pc + 1) ls (.inl (zi2s a) :: r) M
  | .i2l => z1 st fun a r => K (pc + 1) ls (.inr (.inl a) :: r) M
  | .l2i => zl1 st fun a r => K (pc + 1) ls (.inl (zl2i a) :: r) M
  | .ladd => zl2 st fun a b r => K (pc + 1) ls (.inr (.inl (zladd a b)) :: r) M
  | .lsub => zl2 st fun a b r => K (pc + 1) ls (.inr (.inl (zlsub a b)) :: r) M
  | .lmul => zl2 st fun a b r => K (pc + 1) ls (.inr (.inl (zlmul a b)) :: r) M
  | .land => zl2 st fun a b r => K (pc + 1) ls (.inr (.inl (zland a b)) :: r) M
  | .lor => zl2 st fun a b r => K (pc + 1) ls (.inr (.inl (zlor a b)) :: r) M
  | .lxor => zl2 st fun a b r => K (pc + 1) ls (.inr (.inl (zlxor a b)) :: r) M
  | .lshl => zli st fun a b r => K (pc + 1) ls (.inr (.inl (zlshl a b)) :: r) M
  | .lshr => zli st fun a b r => K (pc + 1) ls (.inr (.inl (zlshr a b)) :: r) M
  | .lushr => zli st fun a b r => K (pc + 1) ls (.inr (.inl (zlushr a b)) :: r) M
  | .lcmp => zl2 st fun a b r => K (pc + 1) ls (.inl (zlcmp a b) :: r) M
  | .dup => match st with
    | .inl a :: r => K (pc + 1) ls (.inl a :: .inl a :: r) M
    | .inr (.inr a) :: r => K (pc + 1) ls (.inr (.inr a) :: .inr (.inr a) :: r) M
    | _ => False
  | .dup2 => zri st fun k i r => K (pc + 1) ls (.inl i :: .inr (.inr k) :: .inl i :: .inr (.inr k) :: r) M
  | .ifCond c _ => z1 st fun a r => (zch c a 0 → K x.2.2.2.1 ls r M) ∧ (¬ zch c a 0 → K (pc + 3) ls r M)
  | .if_icmp c _ => z2 st fun a b r => (zch c a b → K x.2.2.2.1 ls r M) ∧ (¬ zch c a b → K (pc + 3) ls r M)
  | .goto _ => K x.2.2.2.1 ls st M
  | .tableswitch df lo hi offs => z1 st fun a r => bif (decide (lo + offs.size = hi + 1) && offs.toList.all (fun o => decide (0 ≤ (pc : Int) + o)) && decide (0 ≤ (pc : Int) + df)) then (ztsw pc a (fun t => K t ls r M) lo offs.toList ∧ ((a < lo ∨ hi < a) → K (((pc : Int) + df).toNat) ls r M)) else False
  | .getfield _ => zr1 st fun k r => zob k x.2.2.2.1 fun fs => match fs[x.2.2.2.2.1]? with
    | some none => K (pc + 3) ls (.inl (M k x.2.2.2.2.1) :: r) M
    | some (some q) => K (pc + 3) ls (.inr (.inr q) :: r) M
    | none => False
  | .putfield _ => match st with
    | .inl v :: .inr (.inr k) :: r => zob k x.2.2.2.1 fun fs => match fs[x.2.2.2.2.1]? with
      | some none => bif Nat.beq x.2.2.1.toNat 1 then K (pc + 3) ls r (zup M k x.2.2.2.2.1 v) else ((v = 0 ∨ v = 1) ∧ K (pc + 3) ls r (zup M k x.2.2.2.2.1 v))
      | _ => False
    | _ => False
  | .iaload => zri st fun k i r => zar k 0 fun n => 0 ≤ i ∧ i < n ∧ K (pc + 1) ls (.inl (M k i.toNat) :: r) M
  | .baload => zri st fun k i r => zar k 1 fun n => 0 ≤ i ∧ i < n ∧ K (pc + 1) ls (.inl (M k i.toNat) :: r) M
  | .laload => zri st fun k i r => zar k 2 fun n => 0 ≤ i ∧ i < n ∧ K (pc + 1) ls (.inr (.inl (M k i.toNat)) :: r) M
  | .iastore => zrii st fun k i v r => zar k 0 fun n => 0 ≤ i ∧ i < n ∧ K (pc + 1) ls r (zup M k i.toNat v)
  | .bastore => zrii st fun k i v r => zar k 1 fun n => 0 ≤ i ∧ i < n ∧ K (pc + 1) ls r (zup M k i.toNat (zi2b v))
  | .lastore => zril st fun k i v r => zar k 2 fun n => 0 ≤ i ∧ i < n ∧ K (pc + 1) ls r (zup M k i.toNat v)
  | .arraylength => zr1 st fun k r => zln k fun n => K (pc + 1) ls (.inl (n : Int) :: r) M
  | .invokevirtual _ => bif (Nat.ble x.2.2.2.2.1 st.length && Nat.ble (st.drop x.2.2.2.2.1).length 4 && Nat.ble 1 d && zrcv x.2.2.2.1 (st.take x.2.2.2.2.1).reverse) then zcall d x.2.2.2.1 (st.take x.2.2.2.2.1).reverse (st.drop x.2.2.2.2.1) M (fun st' M' => K (pc + 3) ls st' M') else False
  | .invokestatic _ => bif Nat.beq x.2.2.2.1 9999 then zacp st M (fun st' M' => K (pc + 3) ls st' M') else bif Nat.beq x.2.2.2.1 9998 then (z2 st fun a b r => bif Nat.ble r.length 4 then K (pc + 3) ls (.inl (if a < b then b else a) :: r) M else False)
    else bif (Nat.ble x.2.2.2.2.1 st.length && Nat.ble (st.drop x.2.2.2.2.1).length 4 && Nat.ble 1 d) then zcall d x.2.2.2.1 (st.take x.2.2.2.2.1).reverse (st.drop x.2.2.2.2.1) M (fun st' M' => K (pc + 3) ls st' M') else False
  | .ireturn => match st with
    | [.inl v] => (match I.2.2.2.1 with
      | some .int => Q (some (.inl v)) M
      | some .boolean => (v = 0 ∨ v = 1) ∧ Q (some (.inl v)) M
      | _ => False)
    | _ => False
  | .lreturn => match st with
    | [.inr (.inl v)] => (match I.2.2.2.1 with
      | some .long => Q (some (.inr (.inl v))) M
      | _ => False)
    | _ => False
  | .areturn => match st with
    | [.inr (.inr v)] => (match I.2.2.2.1 with
      | some (.object _) => Q (some (.inr (.inr v))) M
      | _ => False)
    | _ => False
  | .return_ => match st, I.2.2.2.1 with
    | [], none => Q none M
    | _, _ => False
  | _ => False
theorem zif {b : Bool} {P : Prop} (h : bif b then P else False) : b = true ∧ P := by
  cases b with
  | true => exact ⟨rfl, h⟩
  | false => exact (show False from h).elim
/-- an entry of a method's code -/
def zAt (mi : Nat) (I : zMI) (pc : Nat) (x : Instr × Nat × Int × Nat × Nat × Nat) : Prop := zMT[mi]? = some I ∧ zlook pc I.2.2.2.2.2.2.2 = some x
theorem zAt.ok {mi pc : Nat} {I : zMI} {x : Instr × Nat × Int × Nat × Nat × Nat} (h : zAt mi I pc x) : decode I.2.1 pc = .ok (x.1, x.2.1) ∧ zokI I pc x = true ∧ zlenok x.1 x.2.1 = true := by
  have h1 := zCode_ok I (List.mem_of_getElem? h.1)
  have h2 := List.all_eq_true.mp h1 _ (zlook_mem h.2)
  simp only [zokE, Bool.and_eq_true, decide_eq_true_eq] at h2
  exact ⟨h2.1.2, h2.2, h2.1.1⟩
