/-! calls, returns, switches -/
def zSHLc : zSh → Bool
  | .inr (c, _) => Nat.ble (c + 1) 11
  | _ => true
theorem zSHLc_ok : zSHL.all zSHLc = true := by decide +kernel
theorem zJ {mi : Nat} {J : zMI} (h : zMT[mi]? = some J) : Cond.code J.1 J.2.1 J.2.2.1 J.2.2.2.1 ∈ zGW ∧ (bif J.2.2.2.2.1 then Cond.static J.1 ∈ zGW else (Cond.instanceMethod J.1 ∈ zGW ∧ Cond.selects J.1.cls J.1 J.1 ∈ zGW)) ∧ Cond.initialized J.1.cls ∈ zGW ∧ plainName J.1.cls = true ∧ J.1.cls ≠ "java/lang/invoke/MethodHandle" ∧ J.1.cls ≠ "java/lang/invoke/VarHandle" ∧ J.2.2.1 ≤ 30 := by
  have hm := List.mem_of_getElem? h
  have h1 := List.all_eq_true.mp zMT_ok J hm
  have h0 := zCw J hm
  simp only [zokM, Bool.and_eq_true, decide_eq_true_eq] at h1
  obtain ⟨⟨⟨⟨⟨⟨a1, a2⟩, a3⟩, a4⟩, a5⟩, a6⟩, a7⟩ := h1
  refine ⟨zGW_in h0 rfl, ?_, zGW_in a2 rfl, a4, a5, a6, a7⟩
  cases hb : J.2.2.2.2.1 with
  | true =>
    rw [hb] at a1
    simp only [cond_true, decide_eq_true_eq] at a1
    exact zGW_in a1 rfl
  | false =>
    rw [hb] at a1
    simp only [cond_false, Bool.and_eq_true, decide_eq_true_eq] at a1
    exact ⟨zGW_in a1.1 rfl, zGW_in a1.2 rfl⟩
theorem zGood {J : zMI} (h : Cond.code J.1 J.2.1 J.2.2.1 J.2.2.2.1 ∈ zGW) : GoodIn zGW (zws J) := by
  intro w hw
  have hm : w ∈ zGW := by
    rcases List.mem_cons.mp hw with rfl | h1
    · exact h
    · exact h1
  exact ⟨hm, good_of_word (List.mem_filter.mp hm).2⟩
theorem zlinkM {mi : Nat} {I : zMI} {pl ix cal : Nat} {J : zMI} (hI : zMT[mi]? = some I) (hJ : zMT[cal]? = some J) (hc9 : Nat.beq cal 9999 = false) (hc8 : Nat.beq cal 9998 = false) (h : (zCT[pl]?).map (fun f => (f.1, f.2.1, f.2.2.1)) = some (I.2.2.2.2.2.1, ix, cal)) :
    (Cond.methodLink I.1.cls ix J.1) ∈ zGW ∨ (Cond.methodLinkNest I.1.cls ix J.1 "CommaCopies") ∈ lw_tbl := by
  cases hf : zCT[pl]? with
  | none => rw [hf] at h; cases h
  | some f =>
    rw [hf] at h
    have h2 := Option.some.inj h
    obtain ⟨f1, f2, f3, f4, f5⟩ := f
    simp only [Prod.mk.injEq] at h2
    obtain ⟨rfl, rfl, rfl⟩ := h2
    have h1 := zct hf
    unfold zlkC at h1
    have hown := zRN_own hI
    simp only at h1
    rw [hown] at h1
    simp only [hc9, hc8, cond_false, hJ] at h1
    cases f4 with
    | true =>
      simp only [cond_true, decide_eq_true_eq] at h1
      exact Or.inr (List.mem_of_getElem? h1)
    | false =>
      simp only [cond_false, decide_eq_true_eq] at h1
      exact Or.inl (zGW_in h1 rfl)
theorem zlinkS {mi : Nat} {I : zMI} {pl ix : Nat} (hI : zMT[mi]? = some I) (h : (zCT[pl]?).map (fun f => (f.1, f.2.1, f.2.2.1)) = some (I.2.2.2.2.2.1, ix, 9999)) : (Cond.methodLink I.1.cls ix arraycopyName) ∈ zGW := by
  cases hf : zCT[pl]? with
  | none => rw [hf] at h; cases h
  | some f =>
    rw [hf] at h
    have h2 := Option.some.inj h
    obtain ⟨f1, f2, f3, f4, f5⟩ := f
    simp only [Prod.mk.injEq] at h2
    obtain ⟨rfl, rfl, rfl⟩ := h2
    have h1 := zct hf
    unfold zlkC at h1
    have hown := zRN_own hI
    simp only at h1
    rw [hown] at h1
    have h3 : lw_tbl[f5]? = some (.methodLink I.1.cls f2 arraycopyName) := of_decide_eq_true h1
    exact zGW_in h3 rfl
theorem zlinkX {mi : Nat} {I : zMI} {pl ix : Nat} (hI : zMT[mi]? = some I) (h : (zCT[pl]?).map (fun f => (f.1, f.2.1, f.2.2.1)) = some (I.2.2.2.2.2.1, ix, 9998)) : (Cond.methodLink I.1.cls ix Lib.Math.max.name) ∈ zGW := by
  cases hf : zCT[pl]? with
  | none => rw [hf] at h; cases h
  | some f =>
    rw [hf] at h
    have h2 := Option.some.inj h
    obtain ⟨f1, f2, f3, f4, f5⟩ := f
    simp only [Prod.mk.injEq] at h2
    obtain ⟨rfl, rfl, rfl⟩ := h2
    have h1 := zct hf
    unfold zlkC at h1
    have hown := zRN_own hI
    simp only at h1
    rw [hown] at h1
    have h3 : lw_tbl[f5]? = some (.methodLink I.1.cls f2 Lib.Math.max.name) := of_decide_eq_true h1
    exact zGW_in h3 rfl
theorem zblind {D : va_G} {cA : Nat → ClassId} {ad : Nat → Nat} {av : List zV} {M : zMem} : FrameBlind (zPre D cA ad av M) := by
  intro a U g mk q
  obtain ⟨q0, q1, qP, qK⟩ := q
  exact ⟨q0, zNW.same (s := U) (U := U.calling g mk a) rfl q1, qP, va_K.moved (u := U) (U := U.calling g mk a) (Vm.Alike.refl U.vm) qK⟩
section zR3
variable {p : Program} {l : Launch} {e : Env} {R : Room} {s : State} {m : MethodId} {args : Array Value} {below : List Frame} {meth : Method} {c : Code} {H : Heap} {locs : List Loc} {QQ : State → Prop} {pc : Nat} {ls : Array Slot} {rest st0 : List Value} {a : Array Value} {D : va_G} {cA : Nat → ClassId} {ad : Nat → Nat} {Q : Option zV → zMem → Prop}
theorem zrun {A0 : Nat → Prop} {H0 : Heap} {cells slots : Nat} (hr : va_Run p l e R s m args below meth c H locs cells slots 0 0 (F0 m pc ls st0) rest (zPost D cA ad Q a) (zA ad)) (hS : va_S A0 H0 H locs) (hA : ∀ q, zA ad q → A0 q)
    (kk : ∀ (r : Option zV) (M' : zMem) (H1 : Heap) (locs1 : List Loc), Q r M' → (∀ v, r = some v → zrg v) → zrgM M' → va_P D vwCl (zwd cA ad M') H1 → va_S A0 H0 H1 locs1 → W p l e R s m args below meth c H1 locs1 cells slots QQ (F0 m (pc + 3) ls ((r.map (zcv ad)).toList ++ rest))) : W p l e R s m args below meth c H locs cells slots QQ (F0 m pc ls st0) := by
  intro T hT X
  obtain ⟨v, st₀, t, T', L, h0, X', hL, e1, e2, ⟨⟨r, M', hv, hq, hrg, hM, hP, hK⟩, hz, hk⟩, st⟩ := hr T hT X
  cases hv
  rw [h0] at hz hk
  obtain ⟨t2, a1, b1⟩ := kk r M' T'.heap (locs ++ L) hq hrg hM (by rw [e1]; exact hP)
    ⟨Nat.le_trans hS.1 (by rw [e1]; exact hz), fun q h1 h2 => by rw [e1, hk q (Nat.lt_of_lt_of_le h1 hS.1) (fun z => h2 (hA q z))]; exact hS.2.1 q h1 h2, fun q hq => by
      rcases List.mem_append.mp hq with h | h
      · exact hS.2.2 q h
      · exact hA _ (hL q h)⟩ T' rfl X'
  exact ⟨t2, st t2 a1, b1⟩
end zR3
theorem zsum4 {ad : Nat → Nat} : ∀ {r : List zV}, r.length ≤ 4 → ((r.map (zcv ad)).map fun v => v.category).sum ≤ 8 := by
  have key : ∀ r : List zV, ((r.map (zcv ad)).map fun v => v.category).sum ≤ 2 * r.length := by
    intro r
    induction r with
    | nil => simp
    | cons x r ih =>
      have hx : (zcv ad x).category ≤ 2 := by
        rcases x with x | x | x <;> simp [zcv, Value.category]
      simp only [List.map_cons, List.sum_cons, List.length_cons]
      omega
  intro r h
  have := key r
  omega
/-- what comes back from a call goes on by its kind -/
theorem zcall_ex {d cal : Nat} {J : zMI} {av rest : List zV} {M : zMem} {K : List zV → zMem → Prop} (hJ : zMT[cal]? = some J) (h : zcall d cal av rest M K) : ∃ Q, zCt (d - 1) cal av M Q ∧ ∀ r M', Q r M' → K (r.toList ++ rest) M' := by
  unfold zcall at h
  rw [hJ] at h
  split at h
  · obtain ⟨Q, h1, h2⟩ := h
    exact ⟨_, h1, fun r M' ⟨h3, h4⟩ => by subst h3; exact h2 M' h4⟩
  · obtain ⟨Q, h1, h2⟩ := h
    exact ⟨_, h1, fun r M' ⟨v, h3, h4⟩ => by subst h3; exact h2 v M' h4⟩
  · obtain ⟨Q, h1, h2⟩ := h
    exact ⟨_, h1, fun r M' ⟨v, h3, h4⟩ => by subst h3; exact h2 v M' h4⟩
  · obtain ⟨Q, h1, h2⟩ := h
    exact ⟨_, h1, fun r M' ⟨h3, h4⟩ => by subst h3; exact h2 M' h4⟩
  · exact h.elim
theorem zroom_ok {d : Nat} (hd : Nat.ble 1 d = true) {L : Nat} (hL : L ≤ 30) : (zroom (d - 1)).frames + 1 ≤ (zroom d).frames ∧ 8 + (L + 11) + (zroom (d - 1)).locals ≤ (zroom d).locals := by
  have h1 : 1 ≤ d := Nat.le_of_ble_eq_true hd
  obtain ⟨k, rfl⟩ : ∃ k, d = k + 1 := ⟨d - 1, by omega⟩
  refine ⟨Nat.le_refl _, ?_⟩
  show 8 + (L + 11) + 60 * (k + 1) ≤ 60 * (k + 1 + 1)
  omega
theorem zout {r : Option zV} {rest : List zV} {ad : Nat → Nat} : (r.map (zcv ad)).toList ++ rest.map (zcv ad) = (r.toList ++ rest).map (zcv ad) := by
  cases r <;> simp
theorem zoutr {r : Option zV} {rest : List zV} (h1 : ∀ v, r = some v → zrg v) (h2 : ∀ v ∈ rest, zrg v) : ∀ v ∈ r.toList ++ rest, zrg v := by
  intro v hv
  rcases List.mem_append.mp hv with h | h
  · cases r with
    | none => cases h
    | some w => simp at h; exact h1 v (by rw [h])
  · exact h2 v h
theorem zac1 : Cond.native arraycopyName ∈ zGW := zGW_in (pl := 454) (by decide +kernel) rfl
theorem zac2 : Cond.static arraycopyName ∈ zGW := zGW_in (pl := 453) (by decide +kernel) rfl
theorem zac3 : Cond.initialized "java/lang/System" ∈ zGW := zGW_in (pl := 97) (by decide +kernel) rfl
theorem zmx1 : Cond.static Lib.Math.max.name ∈ zGW := zGW_in (pl := 732) (by decide +kernel) rfl
theorem zmx2 : Cond.initialized "java/lang/Math" ∈ zGW := zGW_in (pl := 100) (by decide +kernel) rfl
set_option maxRecDepth 100000 in
theorem zmx3 : Cond.code Lib.Math.max.name Lib.Math.max.code 2 (some .int) ∈ zGW := zGW_in (pl := 733) (by rfl) rfl
theorem zvw {mi k : Nat} {J : zMI} {fs : List (Option Nat)} (hJ : zMT[mi]? = some J) (h : zSHL[k]? = some (.inr (J.2.2.2.2.2.1, fs))) : ∃ T N, vwCl[J.2.2.2.2.2.1]? = some (J.1.cls, T, N) := by
  have h1 := zRN_own hJ
  have h2 := List.all_eq_true.mp zSHLc_ok _ (List.mem_of_getElem? h)
  have h3 : J.2.2.2.2.2.1 < 11 := Nat.le_of_ble_eq_true h2
  rcases (show J.2.2.2.2.2.1 = 0 ∨ J.2.2.2.2.2.1 = 1 ∨ J.2.2.2.2.2.1 = 2 ∨ J.2.2.2.2.2.1 = 3 ∨ J.2.2.2.2.2.1 = 4 ∨ J.2.2.2.2.2.1 = 5 ∨ J.2.2.2.2.2.1 = 6 ∨ J.2.2.2.2.2.1 = 7 ∨ J.2.2.2.2.2.1 = 8 ∨ J.2.2.2.2.2.1 = 9 ∨ J.2.2.2.2.2.1 = 10 by omega) with h4 | h4 | h4 | h4 | h4 | h4 | h4 | h4 | h4 | h4 | h4 <;>
    (rw [h4] at h1 ⊢
     have h5 := Option.some.inj h1
     rw [← h5]
     exact ⟨_, _, rfl⟩)
section zRows3
variable {d mi pc : Nat} {I : zMI} {ls : List (Option zV)} {st : List zV} {M : zMem} {Q : Option zV → zMem → Prop} {K : Nat → List (Option zV) → List zV → zMem → Prop} {n : Nat} {xa : Int} {xb xc xe : Nat}
theorem zrcv_ex {cal : Nat} {J : zMI} {av : List zV} (hJ : zMT[cal]? = some J) (h : zrcv cal av = true) : ∃ k As fs, av = .inr (.inr k) :: As ∧ zSHL[k]? = some (.inr (J.2.2.2.2.2.1, fs)) := by
  unfold zrcv at h
  split at h
  · rename_i k As
    have h1 := of_decide_eq_true h
    rw [hJ] at h1
    unfold zcls at h1
    split at h1
    · rename_i c fs hk
      simp at h1
      subst h1
      exact ⟨k, As, fs, rfl, hk⟩
    · cases h1
  · cases h
theorem zs_invokevirtual {ix : Nat} (hA : zAt mi I pc (.invokevirtual ix, n, xa, xb, xc, xe)) (hK : zKp d mi Q K) (h : zst d I Q pc ls st M (.invokevirtual ix, n, xa, xb, xc, xe) K) : zBg d mi pc ls st M Q := by
  obtain ⟨hdg, hok, hn⟩ := hA.ok
  have hn : n = 3 := Nat.eq_of_beq_eq_true hn
  subst hn
  have hok2 := Bool.and_eq_true_iff.mp hok
  have hlk1 : (zCT[xe]?).map (fun f => (f.1, f.2.1, f.2.2.1)) = some (I.2.2.2.2.2.1, ix, xb) := of_decide_eq_true hok2.1
  have hok3 := hok2.2
  cases hJ : zMT[xb]? with
  | none => simp only [hJ] at hok3; cases hok3
  | some J =>
    simp only [hJ] at hok3
    have hok4 := Bool.and_eq_true_iff.mp hok3
    have hst : J.2.2.2.2.1 = false := by simpa using hok4.1
    have hpar : (parseMethodDescriptor J.1.desc).map (fun d => d.parameters.length + 1) = some xc := of_decide_eq_true hok4.2
    obtain ⟨hb1, hb2⟩ := zif h
    simp only [Bool.and_eq_true] at hb1
    obtain ⟨⟨⟨g1, g2⟩, g3⟩, g4⟩ := hb1
    have g1 : xc ≤ st.length := Nat.le_of_ble_eq_true g1
    have g2 : (st.drop xc).length ≤ 4 := Nat.le_of_ble_eq_true g2
    obtain ⟨k, As, fs, hav, hsh⟩ := zrcv_ex hJ g4
    obtain ⟨Q', hct, hgo⟩ := zcall_ex hJ hb2
    have hst2 : st = As.reverse ++ .inr (.inr k) :: st.drop xc := by
      have h1 : st.take xc = (As.reverse ++ [.inr (.inr k)]) := by
        have h2 := congrArg List.reverse hav
        simp only [List.reverse_reverse, List.reverse_cons] at h2
        exact h2
      conv => lhs; rw [← List.take_append_drop xc st, h1]
      simp
    have hlenA : As.length + 1 = xc := by
      have h2 := congrArg List.length hav
      simp only [List.length_reverse, List.length_take, List.length_cons] at h2
      omega
    obtain ⟨j1, j2, j3, j4, j5, j6, j7⟩ := zJ hJ
    rw [hst] at j2
    obtain ⟨j2, j2s⟩ := (show _ ∧ _ from j2)
    have hc9 : Nat.beq xb 9999 = false := by
      have := (List.getElem?_eq_some_iff.mp hJ).1
      rw [show zMT.length = 183 from rfl] at this
      cases hq : Nat.beq xb 9999 with
      | false => rfl
      | true => exact absurd (Nat.eq_of_beq_eq_true hq) (by omega)
    have hc8 : Nat.beq xb 9998 = false := by
      have := (List.getElem?_eq_some_iff.mp hJ).1
      rw [show zMT.length = 183 from rfl] at this
      cases hq : Nat.beq xb 9998 with
      | false => rfl
      | true => exact absurd (Nat.eq_of_beq_eq_true hq) (by omega)
    have hlink := zlinkM hA.1 hJ hc9 hc8 hlk1
    have hci : ∃ T N, vwCl[J.2.2.2.2.2.1]? = some (J.1.cls, T, N) := zvw hJ hsh
    obtain ⟨T, N, hcl⟩ := hci
    have hpar2 : (parseMethodDescriptor J.1.desc).map (fun d => d.parameters.length) = some As.length := by
      cases hp0 : parseMethodDescriptor J.1.desc with
      | none => rw [hp0] at hpar; cases hpar
      | some sg =>
        rw [hp0] at hpar
        have h9 : sg.parameters.length + 1 = xc := Option.some.inj hpar
        simp only [Option.map_some, Option.some.injEq]
        omega
    have hrest : ∀ v ∈ st.drop xc, zrg v → True := fun _ _ _ => trivial
    intro hM hs hl I' hI' hlen l D cA ad p e s m args below meth c H locs cls hinj hC hmK hP hS hL
    have hII := Option.some.inj (hA.1.symm.trans hI')
    subst hII
    have hC0 := hC
    obtain ⟨hx, hb, hml, hown, hts, hnw, hr, hlk⟩ := hC0
    have hsr : ∀ v ∈ st.drop xc, zrg v := fun v hv => hs v (List.mem_of_mem_drop hv)
    have hsa : ∀ v ∈ (st.take xc).reverse, zrg v := fun v hv => hs v (List.mem_of_mem_take (List.mem_reverse.mp hv))
    have hMet := hct J hJ hM hsa l D cA ad hinj
    have hW4 := zsum4 (ad := ad) g2
    have hstk : (F0 m pc cls (st.map (zcv ad))).stack = (As.map (zcv ad)).reverse ++ .ref (ad k) :: (st.drop xc).map (zcv ad) := by
      show st.map (zcv ad) = _
      conv => lhs; rw [hst2]
      simp [zcv]
    have hpre : ∀ U : State, U.heap = H → s.WarmedH U.vm → zPre D cA ad (st.take xc).reverse M (Value.ref (ad k) :: As.map (zcv ad)).toArray U := fun U hU hW => by
      refine ⟨?_, zNW.warm hW hnw, by rw [hU]; exact hP, va_K.moved hW.alike hmK⟩
      rw [hav]
      rfl
    have hrecv := va_recv hmK hP hcl (zwd_get (cA := cA) (ad := ad) (M := M) hsh)
    have goal : va_Run p l e (zroom d) s m args below meth c H locs 0 0 0 0 (F0 m pc cls (st.map (zcv ad))) ((st.drop xc).map (zcv ad)) (zPost D cA ad Q' (Value.ref (ad k) :: As.map (zcv ad)).toArray) (zA ad) := by
      rcases hlink with hw | hw
      · exact va_runV ⟨hx, hb, hml, hown, hts⟩ hMet ⟨callB_of As.length hts (zGood j1) rfl rfl rfl (hts _ j3) (hts _ hw) ⟨j5, j6, hpar2⟩ (zroom_ok g3 j7), hts _ j2, hts _ j2s⟩ ⟨zblind, hrecv, hpre⟩ rfl (by simp) hL.1 hstk (by show 2 * 0 + _ ≤ _; omega) hdg ⟨Nat.zero_le _, Nat.zero_le _⟩
      · exact va_runVN ⟨hx, hb, hml, hown, hts⟩ hMet ⟨va_cnB As.length hts (zGood j1) rfl rfl rfl (hnw _ hw rfl) (hts _ j3) ⟨j5, j6, hpar2⟩ (zroom_ok g3 j7), hts _ j2, hts _ j2s⟩ ⟨zblind, hrecv, hpre⟩ rfl (by simp) hL.1 hstk (by show 2 * 0 + _ ≤ _; omega) hdg ⟨Nat.zero_le _, Nat.zero_le _⟩
    refine zrun goal hS (fun _ h => h) (fun r M' H1 locs1 hq hrg hM hP hS => ?_)
    rw [zout]
    exact hK _ _ _ _ (hgo r M' hq) hM (zoutr hrg hsr) hl I hI' hlen l D cA ad p e s m args below meth c H1 locs1 cls hinj hC hmK hP hS hL
theorem zs_invokestatic {ix : Nat} (hA : zAt mi I pc (.invokestatic ix, n, xa, xb, xc, xe)) (hK : zKp d mi Q K) (h : zst d I Q pc ls st M (.invokestatic ix, n, xa, xb, xc, xe) K) : zBg d mi pc ls st M Q := by
  obtain ⟨hdg, hok, hn⟩ := hA.ok
  have hn : n = 3 := Nat.eq_of_beq_eq_true hn
  subst hn
  have hok2 := Bool.and_eq_true_iff.mp hok
  have hlk1 : (zCT[xe]?).map (fun f => (f.1, f.2.1, f.2.2.1)) = some (I.2.2.2.2.2.1, ix, xb) := of_decide_eq_true hok2.1
  have hok3 := hok2.2
  cases hc9 : Nat.beq xb 9999 with
  | true =>
    have h9 : xb = 9999 := Nat.eq_of_beq_eq_true hc9
    subst h9
    have h : zacp st M (fun st' M' => K (pc + 3) ls st' M') := h
    unfold zacp at h
    split at h
    · rename_i nn q b pp a r xx
      obtain ⟨hr4, h⟩ := zif h
      have hr4 : r.length ≤ 4 := Nat.le_of_ble_eq_true hr4
      split at h
      · rename_i t la t' lb ha hb'
        obtain ⟨htt, h1, h2, h3, h4, h5, h77⟩ := zif h
        clear h
        have htt2 := Bool.and_eq_true_iff.mp htt
        have ht1 : t = t' := Nat.eq_of_beq_eq_true htt2.1
        have ht2 : t < 2 := Nat.le_of_ble_eq_true htt2.2
        subst ht1
        have hlink := zlinkS hA.1 hlk1
        intro hM hs hl I' hI' hlen l D cA ad p e s m args below meth c H locs cls hinj hC hmK hP hS hL
        have hII := Option.some.inj (hA.1.symm.trans hI')
        subst hII
        have hC0 := hC
        obtain ⟨hx, hb, hml, hown, hts, hnw, hr, hlk⟩ := hC0
        have hn32 : zR32 nn := zrgh hs
        have hq32 : zR32 q := zrgh (zrgt hs)
        have hp32 : zR32 pp := zrgh (zrgt (zrgt (zrgt hs)))
        have hr9 : ∀ v ∈ r, zrg v := zrgt (zrgt (zrgt (zrgt (zrgt hs))))
        have hwa := zwd_get (cA := cA) (ad := ad) (M := M) ha
        have hwb := zwd_get (cA := cA) (ad := ad) (M := M) hb'
        have hca : zcell cA ad M a (.inl (t, la)) = .inl (cA t, la, .inl (fun i => Int32.ofInt (M a i))) := by
          rcases (show t = 0 ∨ t = 1 by omega) with rfl | rfl <;> rfl
        have hcb : ∀ M', zcell cA ad M' b (.inl (t, lb)) = .inl (cA t, lb, .inl (fun i => Int32.ofInt (M' b i))) := by
          intro M'
          rcases (show t = 0 ∨ t = 1 by omega) with rfl | rfl <;> rfl
        rw [hca] at hwa
        rw [hcb] at hwb
        have hty : ∃ ty, (ztys cA)[t]? = some (cA t, ty) ∧ refKind ty = false ∧ ∀ j, fits ty (.int (Int32.ofInt (M a j))) = true := by
          rcases (show t = 0 ∨ t = 1 by omega) with rfl | rfl
          · exact ⟨.int, rfl, rfl, fun _ => rfl⟩
          · refine ⟨.byte, rfl, rfl, fun j => ?_⟩
            have hj := (zrg_of1 ha).mp (hM a j)
            have hj32 : zR32 (M a j) := by omega
            show (decide (-128 ≤ Int32.ofInt (M a j)) && decide (Int32.ofInt (M a j) ≤ 127)) = true
            rw [Bool.and_eq_true, decide_eq_true_eq, decide_eq_true_eq, Int32.le_iff_toInt_le, Int32.le_iff_toInt_le, z32 hj32]
            exact ⟨by rw [show (-128 : Int32).toInt = -128 from rfl]; omega, by rw [show (127 : Int32).toInt = 127 from rfl]; omega⟩
        obtain ⟨ty, hty1, hty2, hty3⟩ := hty
        have nlt : ∀ z : Int, zR32 z → 0 ≤ z → ¬ Int32.ofInt z < 0 := fun z hz h0 => by
          rw [Int32.lt_iff_toInt_lt, z32 hz, Int32.toInt_zero]; omega
        refine va_copyi (f := fun i => Int32.ofInt (M a i)) (g := fun i => Int32.ofInt (M b i)) (ty := ty) (n := Int32.ofInt nn) (dp := Int32.ofInt q) (sp := Int32.ofInt pp) hx hb (by rw [hml]; exact hL.1.symm) hown (hts _ hlink) (hts _ zac1) (hts _ zac2) (hts _ zac3) hmK hP (zwd_D M hinj) hS a b t t hwa hwb hty1 hty1 hty2 (nlt _ hp32 h1) (nlt _ hq32 h2) (nlt _ hn32 h3) (by rw [zcl32 hp32, zcl32 hn32]; omega) (by rw [zcl32 hq32, zcl32 hn32]; omega) (fun i _ => hty3 _) (by show 1 ≤ d + 1; omega) (by
          have := zsum4 (ad := ad) hr4
          have e7 : nativeFrameWords "java/lang/System" "arraycopy" 5 = 7 := by decide +kernel
          rw [e7]
          show _ ≤ 60 * (d + 1)
          omega) hdg (fun H locs hP _ hS => ?_)
        have hset : (zwd cA ad M).set b (ad b, .inl (cA t, lb, .inl (va_cpy (fun i => Int32.ofInt (M a i)) (fun i => Int32.ofInt (M b i)) pp.toNat q.toNat nn.toNat))) = zwd cA ad (zcpy M a pp.toNat b q.toNat nn.toNat) := by
          have hfe : va_cpy (fun i => Int32.ofInt (M a i)) (fun i => Int32.ofInt (M b i)) pp.toNat q.toNat nn.toNat = fun i => Int32.ofInt (zcpy M a pp.toNat b q.toNat nn.toNat b i) := by
            funext i
            unfold va_cpy zcpy
            simp only [if_true]
            split <;> rfl
          exact zwd_set hb' (by rw [hcb, hfe]) (fun k' hk' i => by simp [zcpy, hk'])
        rw [zcl32 hp32, zcl32 hq32, zcl32 hn32, hset] at hP
        have hM2 : zrgM (zcpy M a pp.toNat b q.toNat nn.toNat) := by
          intro k i
          unfold zcpy
          split
          · rename_i hk
            subst hk
            split
            · have h8 := hM a (pp.toNat + (i - q.toNat))
              rcases (show t = 0 ∨ t = 1 by omega) with rfl | rfl
              · exact (zrg_of0 hb').mpr ((zrg_of0 ha).mp h8)
              · exact (zrg_of1 hb').mpr ((zrg_of1 ha).mp h8)
            · exact hM _ _
          · exact hM _ _
        exact hK _ _ _ _ h77 hM2 hr9 hl I hI' hlen l D cA ad p e s m args below meth c H locs cls hinj hC hmK hP hS hL
      · exact h.elim
    · exact h.elim
  | false =>
    cases hc8 : Nat.beq xb 9998 with
    | true =>
      have h9 : xb = 9998 := Nat.eq_of_beq_eq_true hc8
      subst h9
      have h : z2 st fun a b r => bif Nat.ble r.length 4 then K (pc + 3) ls (.inl (if a < b then b else a) :: r) M else False := h
      obtain ⟨x, y, r, rfl, h7⟩ := z2_ex h
      obtain ⟨hr4, h⟩ := zif h7
      have hr4 : r.length ≤ 4 := Nat.le_of_ble_eq_true hr4
      have hlink := zlinkX hA.1 hlk1
      intro hM hs hl I' hI' hlen l D cA ad p e s m args below meth c H locs cls hinj hC hmK hP hS hL
      have hII := Option.some.inj (hA.1.symm.trans hI')
      subst hII
      have hC0 := hC
      obtain ⟨hx, hb, hml, hown, hts, hnw, hr, hlk⟩ := hC0
      have hx32 : zR32 x := zrgh (zrgt hs)
      have hy32 : zR32 y := zrgh hs
      refine va_mmax (x := Int32.ofInt x) (y := Int32.ofInt y) hx hb (by rw [hml]; exact hL.1.symm) hown (hts _ hlink) (hts _ zmx1) (hts _ zmx2) (hts _ zmx3) (by show 1 ≤ d + 1; omega) (by
          have := zsum4 (ad := ad) hr4
          show _ ≤ 60 * (d + 1)
          omega) (Nat.zero_le _) (Nat.zero_le _) hdg ?_
      have hmx : (if Int32.ofInt x < Int32.ofInt y then Int32.ofInt y else Int32.ofInt x) = Int32.ofInt (if x < y then y else x) := by
        simp only [zlt32 hx32 hy32]
        split <;> rfl
      rw [hmx]
      exact hK _ _ _ _ h hM (zrgs (by show zR32 (if x < y then y else x); split; exact hy32; exact hx32) (zrgt (zrgt hs))) hl I hI' hlen l D cA ad p e s m args below meth c H locs cls hinj hC hmK hP hS hL
    | false =>
      have h : bif (Nat.ble xc st.length && Nat.ble (st.drop xc).length 4 && Nat.ble 1 d) then zcall d xb (st.take xc).reverse (st.drop xc) M (fun st' M' => K (pc + 3) ls st' M') else False := by
        have h0 : (bif Nat.beq xb 9999 then zacp st M (fun st' M' => K (pc + 3) ls st' M') else bif Nat.beq xb 9998 then (z2 st fun a b r => bif Nat.ble r.length 4 then K (pc + 3) ls (.inl (if a < b then b else a) :: r) M else False)
    else bif (Nat.ble xc st.length && Nat.ble (st.drop xc).length 4 && Nat.ble 1 d) then zcall d xb (st.take xc).reverse (st.drop xc) M (fun st' M' => K (pc + 3) ls st' M') else False) := h
        rw [hc9, hc8] at h0
        exact h0
      cases hJ : zMT[xb]? with
      | none => simp only [hJ, hc9, hc8, Bool.false_or, Bool.false_eq_true] at hok3
      | some J =>
        simp only [hJ, hc9, hc8, Bool.false_or] at hok3
        have hok4 := Bool.and_eq_true_iff.mp hok3
        have hst : J.2.2.2.2.1 = true := hok4.1
        have hpar : (parseMethodDescriptor J.1.desc).map (fun d => d.parameters.length) = some xc := of_decide_eq_true hok4.2
        obtain ⟨hb1, hb2⟩ := zif h
        simp only [Bool.and_eq_true] at hb1
        obtain ⟨⟨g1, g2⟩, g3⟩ := hb1
        have g1 : xc ≤ st.length := Nat.le_of_ble_eq_true g1
        have g2 : (st.drop xc).length ≤ 4 := Nat.le_of_ble_eq_true g2
        obtain ⟨Q', hct, hgo⟩ := zcall_ex hJ hb2
        obtain ⟨j1, j2, j3, j4, j5, j6, j7⟩ := zJ hJ
        rw [hst] at j2
        have j2 : Cond.static J.1 ∈ zGW := j2
        have hlink := zlinkM hA.1 hJ hc9 hc8 hlk1
        intro hM hs hl I' hI' hlen l D cA ad p e s m args below meth c H locs cls hinj hC hmK hP hS hL
        have hII := Option.some.inj (hA.1.symm.trans hI')
        subst hII
        have hC0 := hC
        obtain ⟨hx, hb, hml, hown, hts, hnw, hr, hlk⟩ := hC0
        have hsr : ∀ v ∈ st.drop xc, zrg v := fun v hv => hs v (List.mem_of_mem_drop hv)
        have hsa : ∀ v ∈ (st.take xc).reverse, zrg v := fun v hv => hs v (List.mem_of_mem_take (List.mem_reverse.mp hv))
        have hMet := hct J hJ hM hsa l D cA ad hinj
        have hW4 := zsum4 (ad := ad) g2
        have hstk : (F0 m pc cls (st.map (zcv ad))).stack = (((st.take xc).reverse).map (zcv ad)).reverse ++ (st.drop xc).map (zcv ad) := by
          show st.map (zcv ad) = _
          conv => lhs; rw [← List.take_append_drop xc st]
          simp
        have hpre : ∀ U : State, U.heap = H → s.WarmedH U.vm → zPre D cA ad (st.take xc).reverse M (((st.take xc).reverse).map (zcv ad)).toArray U := fun U hU hW => ⟨rfl, zNW.warm hW hnw, by rw [hU]; exact hP, va_K.moved hW.alike hmK⟩
        have hlen2 : (((st.take xc).reverse).map (zcv ad)).length = xc := by simp; omega
        have goal : va_Run p l e (zroom d) s m args below meth c H locs 0 0 0 0 (F0 m pc cls (st.map (zcv ad))) ((st.drop xc).map (zcv ad)) (zPost D cA ad Q' (((st.take xc).reverse).map (zcv ad)).toArray) (zA ad) := by
          rcases hlink with hw | hw
          · exact va_runS ⟨hx, hb, hml, hown, hts⟩ hMet ⟨callB_of xc hts (zGood j1) rfl rfl rfl (hts _ j3) (hts _ hw) ⟨j5, j6, hpar⟩ (zroom_ok g3 j7), hts _ j2⟩ ⟨zblind, hpre⟩ rfl hlen2 hL.1 hstk (by show 2 * 0 + _ ≤ _; omega) hdg ⟨Nat.zero_le _, Nat.zero_le _⟩
          · exact va_runSN ⟨hx, hb, hml, hown, hts⟩ hMet ⟨va_cnB xc hts (zGood j1) rfl rfl rfl (hnw _ hw rfl) (hts _ j3) ⟨j5, j6, hpar⟩ (zroom_ok g3 j7), hts _ j2, trivial⟩ ⟨zblind, hpre⟩ rfl hlen2 hL.1 hstk (by show 2 * 0 + _ ≤ _; omega) hdg ⟨Nat.zero_le _, Nat.zero_le _⟩
        refine zrun goal hS (fun _ h => h) (fun r M' H1 locs1 hq hrg hM hP hS => ?_)
        rw [zout]
        exact hK _ _ _ _ (hgo r M' hq) hM (zoutr hrg hsr) hl I hI' hlen l D cA ad p e s m args below meth c H1 locs1 cls hinj hC hmK hP hS hL
theorem zs_ireturn (hA : zAt mi I pc (.ireturn, n, xa, xb, xc, xe)) (h : zst d I Q pc ls st M (.ireturn, n, xa, xb, xc, xe) K) : zBg d mi pc ls st M Q := by
  obtain ⟨hdg, hok, hn⟩ := hA.ok
  have hn : n = 1 := Nat.eq_of_beq_eq_true hn
  subst hn
  have h2 : ∃ v : Int, st = [.inl v] ∧ Q (some (.inl v)) M ∧ (I.2.2.2.1 = some .int ∨ (I.2.2.2.1 = some .boolean ∧ (v = 0 ∨ v = 1))) := by
    simp only [zst] at h
    split at h
    · split at h
      · exact ⟨_, rfl, h, Or.inl ‹_›⟩
      · exact ⟨_, rfl, h.2, Or.inr ⟨‹_›, h.1⟩⟩
      · exact h.elim
    · exact h.elim
  obtain ⟨v, rfl, h, hty⟩ := h2
  intro hM hs hl I' hI' hlen l D cA ad p e s m args below meth c H locs cls hinj hC hmK hP hS hL
  have hII := Option.some.inj (hA.1.symm.trans hI')
  subst hII
  have hC0 := hC
  obtain ⟨hx, hb, hml, hown, hts, hnw, hr, hlk⟩ := hC0
  rcases hty with hty | ⟨hty, hv⟩
  · exact W.iret (v := Int32.ofInt v) hx hb (by rw [hr]; exact hty) (fun t ht hW => ⟨⟨some (.inl v), M, rfl, h, fun w hw => by cases hw; exact zrgh hs, hM, by rw [ht]; exact hP, va_K.moved hW.alike hmK⟩, hS.F ht⟩) hS.2.2 hdg hlk
  · exact W.zret (v := Int32.ofInt v) (ty := .boolean) hx hb (by rw [hr]; exact hty) (by rcases hv with rfl | rfl <;> decide) (fun t ht hW => ⟨⟨some (.inl v), M, rfl, h, fun w hw => by cases hw; exact zrgh hs, hM, by rw [ht]; exact hP, va_K.moved hW.alike hmK⟩, hS.F ht⟩) hS.2.2 hdg hlk
theorem zs_lreturn (hA : zAt mi I pc (.lreturn, n, xa, xb, xc, xe)) (h : zst d I Q pc ls st M (.lreturn, n, xa, xb, xc, xe) K) : zBg d mi pc ls st M Q := by
  obtain ⟨hdg, hok, hn⟩ := hA.ok
  have hn : n = 1 := Nat.eq_of_beq_eq_true hn
  subst hn
  have h2 : ∃ v : Int, st = [.inr (.inl v)] ∧ Q (some (.inr (.inl v))) M ∧ I.2.2.2.1 = some .long := by
    simp only [zst] at h
    split at h
    · split at h
      · exact ⟨_, rfl, h, ‹_›⟩
      · exact h.elim
    · exact h.elim
  obtain ⟨v, rfl, h, hty⟩ := h2
  intro hM hs hl I' hI' hlen l D cA ad p e s m args below meth c H locs cls hinj hC hmK hP hS hL
  have hII := Option.some.inj (hA.1.symm.trans hI')
  subst hII
  have hC0 := hC
  obtain ⟨hx, hb, hml, hown, hts, hnw, hr, hlk⟩ := hC0
  exact W.lret (v := Int64.ofInt v) hx hb (by rw [hr]; exact hty) (fun t ht hW => ⟨⟨some (.inr (.inl v)), M, rfl, h, fun w hw => by cases hw; exact zrgh hs, hM, by rw [ht]; exact hP, va_K.moved hW.alike hmK⟩, hS.F ht⟩) hS.2.2 hdg hlk
theorem zs_areturn (hA : zAt mi I pc (.areturn, n, xa, xb, xc, xe)) (h : zst d I Q pc ls st M (.areturn, n, xa, xb, xc, xe) K) : zBg d mi pc ls st M Q := by
  obtain ⟨hdg, hok, hn⟩ := hA.ok
  have hn : n = 1 := Nat.eq_of_beq_eq_true hn
  subst hn
  have h2 : ∃ (v : Nat) (C : String), st = [.inr (.inr v)] ∧ Q (some (.inr (.inr v))) M ∧ I.2.2.2.1 = some (.object C) := by
    simp only [zst] at h
    split at h
    · split at h
      · exact ⟨_, _, rfl, h, ‹_›⟩
      · exact h.elim
    · exact h.elim
  obtain ⟨v, C, rfl, h, hty⟩ := h2
  intro hM hs hl I' hI' hlen l D cA ad p e s m args below meth c H locs cls hinj hC hmK hP hS hL
  have hII := Option.some.inj (hA.1.symm.trans hI')
  subst hII
  have hC0 := hC
  obtain ⟨hx, hb, hml, hown, hts, hnw, hr, hlk⟩ := hC0
  exact W.aret (v := .ref (ad v)) hx hb (by rw [hr]; exact hty) (Or.inl ⟨C, rfl⟩) (Or.inr ⟨_, rfl⟩) (fun t ht hW => ⟨⟨some (.inr (.inr v)), M, rfl, h, fun w hw => by cases hw; trivial, hM, by rw [ht]; exact hP, va_K.moved hW.alike hmK⟩, hS.F ht⟩) hS.2.2 hdg hlk
theorem zs_return (hA : zAt mi I pc (.return_, n, xa, xb, xc, xe)) (h : zst d I Q pc ls st M (.return_, n, xa, xb, xc, xe) K) : zBg d mi pc ls st M Q := by
  obtain ⟨hdg, hok, hn⟩ := hA.ok
  have hn : n = 1 := Nat.eq_of_beq_eq_true hn
  subst hn
  have h2 : st = [] ∧ I.2.2.2.1 = none ∧ Q none M := by
    simp only [zst] at h
    split at h
    · exact ⟨rfl, ‹_›, h⟩
    · exact h.elim
  obtain ⟨hst0, hty, h9⟩ := h2
  clear h
  have h := h9
  subst hst0
  intro hM hs hl I' hI' hlen l D cA ad p e s m args below meth c H locs cls hinj hC hmK hP hS hL
  have hII := Option.some.inj (hA.1.symm.trans hI')
  subst hII
  have hC0 := hC
  obtain ⟨hx, hb, hml, hown, hts, hnw, hr, hlk⟩ := hC0
  exact W.vret hx hb (by rw [hr]; exact hty) (fun t ht hW => ⟨⟨(none : Option zV), M, rfl, h, fun (w : zV) (hw : (none : Option zV) = some w) => (by cases hw), hM, by rw [ht]; exact hP, va_K.moved hW.alike hmK⟩, hS.F ht⟩) hS.2.2 hdg hlk
theorem ztsw_at {pc : Nat} {a : Int} {K : Nat → Prop} : ∀ {offs : List Int} {v : Int} {j : Nat} {off : Int}, ztsw pc a K v offs → offs[j]? = some off → a = v + j → K (((pc : Int) + off).toNat) := by
  intro offs
  induction offs with
  | nil => intro v j off _ h; cases h
  | cons x r ih =>
    intro v j off h hj ha
    cases j with
    | zero =>
      simp at hj
      subst hj
      exact h.1 (by omega)
    | succ j => exact ih h.2 (by simpa using hj) (by omega)
theorem zs_tableswitch {df lo hi : Int} {offs : Array Int} (hA : zAt mi I pc (.tableswitch df lo hi offs, n, xa, xb, xc, xe)) (hK : zKp d mi Q K) (h : zst d I Q pc ls st M (.tableswitch df lo hi offs, n, xa, xb, xc, xe) K) : zBg d mi pc ls st M Q := by
  obtain ⟨hdg, hok, hn⟩ := hA.ok
  obtain ⟨x, r, rfl, h7⟩ := z1_ex h
  obtain ⟨hpos, h1, h2⟩ := zif h7
  simp only [Bool.and_eq_true, decide_eq_true_eq, List.all_eq_true] at hpos
  obtain ⟨⟨hsz, hpos1⟩, hpos2⟩ := hpos
  intro hM hs hl I' hI' hlen l D cA ad p e s m args below meth c H locs cls hinj hC hmK hP hS hL
  have hII := Option.some.inj (hA.1.symm.trans hI')
  subst hII
  have hC0 := hC
  obtain ⟨hx, hb, hml, hown, hts, hnw, hr, hlk⟩ := hC0
  have hx32 : zR32 x := zrgh hs
  by_cases hout : x < lo ∨ hi < x
  · have h := h2 hout
    refine lv_tableOut (tgt := ((pc : Int) + df).toNat) hx hb hdg (by rw [z32 hx32]; exact hout) (by omega) ?_
    exact hK _ _ _ _ h hM (zrgt hs) hl I hI' hlen l D cA ad p e s m args below meth c H locs cls hinj hC hmK hP hS hL
  · have hj : (x - lo).toNat < offs.toList.length := by rw [Array.length_toList]; omega
    have hget : offs.toList[(x - lo).toNat]? = some offs.toList[(x - lo).toNat] := List.getElem?_eq_getElem hj
    have h := ztsw_at (j := (x - lo).toNat) h1 hget (by omega)
    have hp0 := hpos1 _ (List.mem_of_getElem? hget)
    refine lv_tableIn (off := offs.toList[(x - lo).toNat]) (tgt := ((pc : Int) + offs.toList[(x - lo).toNat]).toNat) hx hb hdg (by rw [z32 hx32]; omega) (by rw [z32 hx32]; omega) (by rw [z32 hx32, ← Array.getElem?_toList]; exact hget) (by omega) ?_
    exact hK _ _ _ _ h hM (zrgt hs) hl I hI' hlen l D cA ad p e s m args below meth c H locs cls hinj hC hmK hP hS hL
end zRows3
