/-! the rows joined: 'zst_ok'; a contract out of its body: 'zCt_of'; straight stretches at once: 'zvc' -/
theorem zst_ok {d mi pc : Nat} {I : zMI} {ls : List (Option zV)} {st : List zV} {M : zMem} {Q : Option zV → zMem → Prop} {K : Nat → List (Option zV) → List zV → zMem → Prop} {x : Instr × Nat × Int × Nat × Nat × Nat} (hA : zAt mi I pc x) (hK : zKp d mi Q K) (h : zst d I Q pc ls st M x K) : zBg d mi pc ls st M Q := by
  obtain ⟨ins, n, a, b, c, e⟩ := x
  cases ins with
  | iconst k => exact zs_iconst hA hK h
  | bipush k => exact zs_bipush hA hK h
  | sipush k => exact zs_sipush hA hK h
  | ldc k => exact zs_ldc hA hK h
  | ldc_w k => exact zs_ldc_w hA hK h
  | ldc2_w k => exact zs_ldc2_w hA hK h
  | lconst k => exact zs_lconst hA hK h
  | iload k => exact zs_iload hA hK h
  | iload_n k => exact zs_iload_n hA hK h
  | lload k => exact zs_lload hA hK h
  | lload_n k => exact zs_lload_n hA hK h
  | aload k => exact zs_aload hA hK h
  | aload_n k => exact zs_aload_n hA hK h
  | istore k => exact zs_istore hA hK h
  | istore_n k => exact zs_istore_n hA hK h
  | lstore k => exact zs_lstore hA hK h
  | lstore_n k => exact zs_lstore_n hA hK h
  | astore k => exact zs_astore hA hK h
  | astore_n k => exact zs_astore_n hA hK h
  | iinc k j => exact zs_iinc hA hK h
  | iadd => exact zs_iadd hA hK h
  | isub => exact zs_isub hA hK h
  | imul => exact zs_imul hA hK h
  | iand => exact zs_iand hA hK h
  | ior => exact zs_ior hA hK h
  | ixor => exact zs_ixor hA hK h
  | ishl => exact zs_ishl hA hK h
  | ishr => exact zs_ishr hA hK h
  | iushr => exact zs_iushr hA hK h
  | idiv => exact zs_idiv hA hK h
  | irem => exact zs_irem hA hK h
  | i2b => exact zs_i2b hA hK h
  | i2s => exact zs_i2s hA hK h
  | i2l => exact zs_i2l hA hK h
  | l2i => exact zs_l2i hA hK h
  | ladd => exact zs_ladd hA hK h
  | lsub => exact zs_lsub hA hK h
  | lmul => exact zs_lmul hA hK h
  | land => exact zs_land hA hK h
  | lor => exact zs_lor hA hK h
  | lxor => exact zs_lxor hA hK h
  | lshl => exact zs_lshl hA hK h
  | lshr => exact zs_lshr hA hK h
  | lushr => exact zs_lushr hA hK h
  | lcmp => exact zs_lcmp hA hK h
  | dup => exact zs_dup hA hK h
  | dup2 => exact zs_dup2 hA hK h
  | ifCond q off => exact zs_ifCond hA hK h
  | if_icmp q off => exact zs_if_icmp hA hK h
  | goto off => exact zs_goto hA hK h
  | tableswitch df lo hi offs => exact zs_tableswitch hA hK h
  | getfield k => exact zs_getfield hA hK h
  | putfield k => exact zs_putfield hA hK h
  | iaload => exact zs_iaload hA hK h
  | baload => exact zs_baload hA hK h
  | laload => exact zs_laload hA hK h
  | iastore => exact zs_iastore hA hK h
  | bastore => exact zs_bastore hA hK h
  | lastore => exact zs_lastore hA hK h
  | arraylength => exact zs_arraylength hA hK h
  | invokevirtual k => exact zs_invokevirtual hA hK h
  | invokestatic k => exact zs_invokestatic hA hK h
  | ireturn => exact zs_ireturn hA h
  | lreturn => exact zs_lreturn hA h
  | areturn => exact zs_areturn hA h
  | return_ => exact zs_return hA h
  | _ => exact (show False from h).elim
def zargs : List zV → List (Option zV)
  | [] => []
  | .inr (.inl x) :: r => zL x :: none :: zargs r
  | v :: r => some v :: zargs r
def zent (n : Nat) (av : List zV) : List (Option zV) := zargs av ++ List.replicate (n - (zargs av).length) none
theorem zlv_none {ad : Nat → Nat} : ∀ (k i : Nat), zlv ad i (List.replicate k none) = [] := by
  intro k
  induction k with
  | zero => intro i; rfl
  | succ k ih => intro i; rw [List.replicate_succ]; exact ih (i + 1)
theorem zargs_lv {ad : Nat → Nat} {k : Nat} : ∀ (av : List zV) (i : Nat), zlv ad i (zargs av ++ List.replicate k none) = lv_args i (av.map (zcv ad)) := by
  intro av
  induction av with
  | nil => intro i; simp [zargs, lv_args, zlv_none]
  | cons v r ih =>
    intro i
    rcases v with x | x | x
    · simp only [zargs, List.cons_append, zlv, List.map_cons, lv_args, ih]
      simp [zcv, Value.category]
    · simp only [zargs, List.cons_append, zlv, List.map_cons, lv_args, ih]
      simp [zcv, Value.category]
    · simp only [zargs, List.cons_append, zlv, List.map_cons, lv_args, ih]
      simp [zcv, Value.category]
theorem zargs_len {ad : Nat → Nat} : ∀ (av : List zV), (lg_sl (av.map (zcv ad))).length = (zargs av).length := by
  intro av
  induction av with
  | nil => rfl
  | cons v r ih =>
    unfold lg_sl at ih ⊢
    rcases v with x | x | x
    · simp only [List.map_cons, List.flatMap_cons, List.length_append, ih, zargs, List.length_cons]
      simp [zcv, Value.category]
      omega
    · simp only [List.map_cons, List.flatMap_cons, List.length_append, ih, zargs, List.length_cons]
      simp [zcv, Value.category]
      omega
    · simp only [List.map_cons, List.flatMap_cons, List.length_append, ih, zargs, List.length_cons]
      simp [zcv, Value.category]
      omega
theorem zargs_rg0 : ∀ {av : List zV}, (∀ v ∈ av, zrg v) → ∀ v, some v ∈ zargs av → zrg v := by
  intro av
  induction av with
  | nil => intro h v hv; cases hv
  | cons w r ih =>
    intro h v hv
    have h2 := zrgt h
    rcases w with x | x | x
    · simp only [zargs, List.mem_cons, Option.some.injEq] at hv
      rcases hv with rfl | hv
      · exact zrgh h
      · exact ih h2 v hv
    · simp only [zargs, List.mem_cons, Option.some.injEq] at hv
      rcases hv with rfl | hv | hv
      · exact zrgh h
      · cases hv
      · exact ih h2 v hv
    · simp only [zargs, List.mem_cons, Option.some.injEq] at hv
      rcases hv with rfl | hv
      · exact zrgh h
      · exact ih h2 v hv
theorem zargs_rg {av : List zV} {k : Nat} (h : ∀ v ∈ av, zrg v) : ∀ v, some v ∈ zargs av ++ List.replicate k none → zrg v := by
  intro v hv
  rcases List.mem_append.mp hv with h1 | h1
  · exact zargs_rg0 h v h1
  · exact absurd (List.eq_of_mem_replicate h1) (by simp)
theorem zCt_of {d mi : Nat} {I : zMI} {av : List zV} {M : zMem} {Q : Option zV → zMem → Prop} (hI : zMT[mi]? = some I) (hlen : Nat.ble (zargs av).length I.2.2.1 = true) (h : zBg d mi 0 (zent I.2.2.1 av) [] M Q) : zCt d mi av M Q := by
  intro I' hI' hM hav l D cA ad hinj
  have hII := Option.some.inj (hI.symm.trans hI')
  subst hII
  have hle : (zargs av).length ≤ I.2.2.1 := Nat.le_of_ble_eq_true hlen
  refine Met.ofW (cc := I.2.1) (maxL := I.2.2.1) (ret := I.2.2.2.1) (zJ hI).2.2.2.1 rfl ?_
  intro p e s m args below meth c s₁ B hml hv
  obtain ⟨rfl, hnw, hP, hK⟩ := hv
  have hx := B.exec
  have hb := B.bytes
  have hr := B.returns
  have hts := atoms_spec (ws := zws I) B.pre
  have hown : s.vm.findClass I.1.cls = some m.cls := findClass_of_methodNamed B.named
  have hlocks := B.notSynchronized
  rw [lg_entry_eq]
  have hl := lv_entry (av.map (zcv ad)) (n := I.2.2.1) (by rw [zargs_len]; exact hle)
  exact h hM (fun v hv => by cases hv) (zargs_rg hav) I hI (by unfold zent; simp; omega) l D cA ad p e s m _ below meth c s.heap [] _ hinj ⟨hx, hb, hml, hown, fun w hw => hts w (List.mem_cons_of_mem _ hw), hnw, hr, hlocks⟩ hK hP va_S.rf (by unfold zent; rw [zargs_lv]; exact hl)
def zmask : List Bool → List (Option zV) → List (Option zV)
  | true :: m, v :: l => v :: zmask m l
  | false :: m, _ :: l => none :: zmask m l
  | _, l => l
def zcut : Nat → List (Nat × List Bool) → Option (List Bool)
  | _, [] => none
  | pc, e :: r => bif Nat.beq e.1 pc then some e.2 else zcut pc r
theorem zmask_len : ∀ (m : List Bool) (l : List (Option zV)), (zmask m l).length = l.length := by
  intro m
  induction m with
  | nil => intro l; cases l <;> rfl
  | cons b m ih =>
    intro l
    cases l with
    | nil => cases b <;> rfl
    | cons v l => cases b <;> simp [zmask, ih]
theorem zmask_sub : ∀ (m : List Bool) (l : List (Option zV)) (j : Nat) (v : zV), (zmask m l)[j]? = some (some v) → l[j]? = some (some v) := by
  intro m
  induction m with
  | nil => intro l j v h; cases l <;> exact h
  | cons b m ih =>
    intro l j v h
    cases l with
    | nil => cases b <;> exact h
    | cons w l =>
      cases b with
      | true =>
        cases j with
        | zero => exact h
        | succ j => exact ih l j v (by simpa [zmask] using h)
      | false =>
        cases j with
        | zero => simp [zmask] at h
        | succ j => exact ih l j v (by simpa [zmask] using h)
def zvc (d mi : Nat) (I : zMI) (Q : Option zV → zMem → Prop) (cuts : List (Nat × List Bool)) : Nat → Nat → List (Option zV) → List zV → zMem → Prop
  | 0, _, _, _, _ => False
  | n + 1, pc, ls, st, M => match zlook pc I.2.2.2.2.2.2.2 with
    | none => False
    | some x => zst d I Q pc ls st M x (fun pc' ls' st' M' => match zcut pc' cuts with
      | some mask => zBg d mi pc' (zmask mask ls') st' M' Q
      | none => zvc d mi I Q cuts n pc' ls' st' M')
theorem zvc_ok {d mi : Nat} {I : zMI} {Q : Option zV → zMem → Prop} {cuts : List (Nat × List Bool)} (hI : zMT[mi]? = some I) : ∀ {n pc : Nat} {ls : List (Option zV)} {st : List zV} {M : zMem}, zvc d mi I Q cuts n pc ls st M → zBg d mi pc ls st M Q := by
  intro n
  induction n with
  | zero => intro pc ls st M h; exact (show False from h).elim
  | succ n ih =>
    intro pc ls st M h
    unfold zvc at h
    split at h
    · exact h.elim
    · rename_i x hx
      refine zst_ok ⟨hI, hx⟩ (fun pc' ls' st' M' hk => ?_) h
      split at hk
      · exact zBg.weak (zmask_len _ _) (zmask_sub _ _) hk
      · exact ih hk
