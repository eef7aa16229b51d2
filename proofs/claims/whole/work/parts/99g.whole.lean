/-! the law from its entry -/
theorem zst_len {k : Nat} {sh : zSh} (h : zSHL[k]? = some sh) : k < 80 := by
  have h1 := (List.getElem?_eq_some_iff.mp h).1
  have h2 : zSHL.length = 80 := by decide +kernel
  omega
theorem zst_P {D : va_G} {cA : Nat → ClassId} {h0 : Nat} {u : Nat → Nat} {h1 : Nat} {w : Nat → Nat} {H : Heap} (hP : va_P D vwCl (zWst cA h0 u h1 w) H) : va_P D vwCl (zwd cA (zad h0 u h1 w) zM0) H := by
  intro k q hq
  have hk := (zwd_at hq).1
  obtain ⟨sh, hs⟩ : ∃ sh, zSHL[k]? = some sh := ⟨_, List.getElem?_eq_getElem hk⟩
  rw [zwd_get hs] at hq
  cases hq
  obtain ⟨sh', e1, e2⟩ := zst_all (cA := cA) (h0 := h0) (u := u) (h1 := h1) (w := w) k (zst_len hs)
  cases hs.symm.trans e1
  exact hP (zposA k) _ e2
theorem zst_inj {A : Nat → Prop} {cA : Nat → ClassId} {h0 : Nat} {u : Nat → Nat} {h1 : Nat} {w : Nat → Nat} (hD : va_D A (zWst cA h0 u h1 w)) : zinj (zad h0 u h1 w) ∧ ∀ q, zA (zad h0 u h1 w) q → A q := by
  have h2 : zSHL.length = 80 := by decide +kernel
  refine ⟨fun i j hi hj e => ?_, ?_⟩
  · obtain ⟨sh, -, a2⟩ := zst_all (cA := cA) (h0 := h0) (u := u) (h1 := h1) (w := w) i (by omega)
    obtain ⟨sh', -, b2⟩ := zst_all (cA := cA) (h0 := h0) (u := u) (h1 := h1) (w := w) j (by omega)
    exact zposA_inj i (by omega) j (by omega) (hD.1 _ _ _ _ a2 b2 e)
  · rintro q ⟨k, hk, rfl⟩
    obtain ⟨sh, -, a2⟩ := zst_all (cA := cA) (h0 := h0) (u := u) (h1 := h1) (w := w) k (by omega)
    exact hD.2 _ _ a2
set_option maxRecDepth 100000 in
theorem zst_ins : vwCl.all (fun q => decide (Cond.instantiable q.1 q.2.2 ∈ lw_tbl)) = true := by decide +kernel
theorem zst_K {s : State} {args : Array Value} (hts : ∀ w ∈ lw_tbl, w.before args s = true) : ∃ (D : va_G) (cA : Nat → ClassId), va_K D vwCl (ztys cA) s := by
  have htG : ∀ w ∈ zGW, w.before args s = true := fun w h => hts w (List.mem_filter.mp h).1
  have h : ∀ k : Nat, ∃ x : ClassId × (Nat → Nat), ∀ q : vw_C, vwCl[k]? = some q → u_Kn s q.1 q.2.1 q.2.2 x.1 x.2 := by
    intro k
    by_cases hk : k < 11
    · obtain ⟨C, T, N, ty, h1, h2, -⟩ := zClO k hk
      have h3 := List.all_eq_true.mp zst_ins _ (List.mem_of_getElem? h1)
      obtain ⟨cC, iS, h4⟩ := u_known (n := N) htG h2 (hts _ (of_decide_eq_true h3))
      refine ⟨(cC, iS), fun q hq => ?_⟩
      cases h1.symm.trans hq
      exact h4
    · refine ⟨(0, fun _ => 0), fun q hq => ?_⟩
      have := (List.getElem?_eq_some_iff.mp hq).1
      exact absurd this hk
  obtain ⟨f, hf⟩ := Classical.axiomOfChoice h
  obtain ⟨c0, k0, p0, a0, b0, d0⟩ := Cond.arrayClass_spec (htG (.arrayClass .int) (zGW_in (pl := 177) (by decide +kernel) rfl))
  obtain ⟨c1, k1, p1, a1, b1, d1⟩ := Cond.arrayClass_spec (htG (.arrayClass .byte) (zGW_in (pl := 126) (by decide +kernel) rfl))
  obtain ⟨c2, k2, p2, a2, b2, d2⟩ := Cond.arrayClass_spec (htG (.arrayClass .long) (zGW_in (pl := 350) (by decide +kernel) rfl))
  refine ⟨(fun k => (f k).1, fun k => (f k).2), fun t => if t = 0 then c0 else if t = 1 then c1 else c2, fun k q hq => hf k q hq, fun k q hk => ?_⟩
  match k, hk with
  | 0, hk => cases hk; exact ⟨fun n z => ⟨fun k h => (by cases h), k0, b0, p0, d0⟩, a0⟩
  | 1, hk => cases hk; exact ⟨fun n z => ⟨fun k h => (by cases h), k1, b1, p1, d1⟩, a1⟩
  | 2, hk => cases hk; exact ⟨fun n z => ⟨fun k h => (by cases h), k2, b2, p2, d2⟩, a2⟩
  | k + 3, hk => simp at hk
set_option maxHeartbeats 1000000 in
set_option maxRecDepth 100000 in
theorem whole_start {p : Program} {e : Env} {s : State} {m : MethodId} {below : List Frame} {meth : Method} {c : Code} (l : Launch) (hflags : l.flags = flags0) {b L : Nat} {xs : Nat → Int32} (hL : L ≤ 3072) (C0 : lw_At p s m meth c b L xs) : W p l e room_1 s m #[Value.ref b] below meth c s.heap [] 0 0 (lw_Z below #[Value.ref b] s) (entryFrame m ([Value.ref b] : List Value).toArray 4) := by
  obtain ⟨hx, hb, hr, hml, hown, hts, hX, hbl, hlocks, hgv⟩ := id C0
  have htG : ∀ w ∈ zGW, w.before #[Value.ref b] s = true := fun w h => hts w (List.mem_filter.mp h).1
  have hnw : zNW s := fun w hw hn => va_Nw.of (by cases w <;> first | rfl | exact absurd hn (by simp [zNest])) (hts w hw)
  obtain ⟨D, cA, hK⟩ := zst_K hts
  have hA : ∀ q : Nat, s.heap.size ≤ q → (fun q : Nat => s.heap.size ≤ q) q := fun _ h => h
  have hS : va_S (fun q : Nat => s.heap.size ≤ q) s.heap s.heap [] := va_S.rf
  have hP : va_P D vwCl [] s.heap := fun k q h => by simp at h
  have hD : va_D (fun q : Nat => s.heap.size ≤ q) [] := ⟨fun i j p q h => by simp at h, fun k q h => by simp at h⟩
  have hl := lv_entry ([.ref b]) (n := 4) (Nat.le_of_ble_eq_true rfl)
  rw [lg_entry_eq]
  generalize (lg_sl ([.ref b]) ++ List.replicate (4 - (lg_sl ([.ref b])).length) Slot.unset).toArray = ls at hl ⊢
  have hl : lv_has ls 4 [(0, .ref b)] := hl
  refine va_new (ci := 9) (fs := zx9F0) (C := RX9) (T := TX9) (N := 11) hx hb htG zinX9 tyX9 tyX9_ok hown (htG _ (zGW_in (pl := 101) (by decide +kernel) rfl)) (htG _ (zGW_in (pl := 102) (by decide +kernel) rfl)) (htG _ (zGW_in (pl := 86) (by decide +kernel) rfl)) hK hP hD hS hA rfl (by decide +kernel) (Nat.le_of_ble_eq_true rfl) (Nat.le_of_ble_eq_true rfl) (zLd (x := (.new 7, 3, 0, 0, 0, 0)) rfl) (fun q0 H hP hD hS => ?_)
  refine lv_dup hx hb (zLd (x := (.dup, 1, 0, 0, 0, 0)) rfl) rfl ?_
  refine zn_call (ws := []) (own := R_law) (q := q0) (rest := [.ref q0]) (nL := 4) hx hb hml hl.1 hown htG hnw (zn_X9 D cA) (zGW_in (pl := 105) (by rfl) rfl) (zGW_in (pl := 86) (by decide +kernel) rfl) (zGW_in (pl := 104) (by decide +kernel) rfl) (Or.inl (zGW_in (pl := 103) (by decide +kernel) rfl)) (by decide +kernel) ⟨Nat.le_of_ble_eq_true rfl, Nat.le_of_ble_eq_true rfl⟩ ⟨Nat.le_of_ble_eq_true rfl, Nat.le_of_ble_eq_true rfl⟩ (Nat.le_of_ble_eq_true rfl) hK hP hD hS hA (zLd (x := (.invokespecial 9, 3, 0, 0, 0, 0)) rfl) (fun uq0 H locs hP hD hS => ?_)
  refine lv_astore_n (lv' := [(1, .ref q0), (0, .ref b)]) hx hb (zLd (x := (.astore_n 1, 1, 0, 0, 0, 0)) rfl) rfl hl (by decide) rfl (fun ls hl => ?_)
  refine va_new (ci := 10) (fs := zxF0) (C := RX10) (T := TX10) (N := 36) hx hb htG zinX10 tyX10 tyX10_ok hown (htG _ (zGW_in (pl := 894) (by decide +kernel) rfl)) (htG _ (zGW_in (pl := 895) (by decide +kernel) rfl)) (htG _ (zGW_in (pl := 96) (by decide +kernel) rfl)) hK hP hD hS hA rfl (by decide +kernel) (Nat.le_of_ble_eq_true rfl) (Nat.le_of_ble_eq_true rfl) (zLd (x := (.new 10, 3, 0, 0, 0, 0)) rfl) (fun q8 H hP hD hS => ?_)
  refine lv_dup hx hb (zLd (x := (.dup, 1, 0, 0, 0, 0)) rfl) rfl ?_
  refine zn_call (ws := [] ++ zwX9 cA q0 uq0) (own := R_law) (q := q8) (rest := [.ref q8]) (nL := 4) hx hb hml hl.1 hown htG hnw (zn_X10 D cA) (zGW_in (pl := 898) (by rfl) rfl) (zGW_in (pl := 96) (by decide +kernel) rfl) (zGW_in (pl := 897) (by decide +kernel) rfl) (Or.inl (zGW_in (pl := 896) (by decide +kernel) rfl)) (by decide +kernel) ⟨Nat.le_of_ble_eq_true rfl, Nat.le_of_ble_eq_true rfl⟩ ⟨Nat.le_of_ble_eq_true rfl, Nat.le_of_ble_eq_true rfl⟩ (Nat.le_of_ble_eq_true rfl) hK hP hD hS hA (zLd (x := (.invokespecial 12, 3, 0, 0, 0, 0)) rfl) (fun uq8 H locs hP hD hS => ?_)
  refine lv_astore_n (lv' := [(2, .ref q8), (1, .ref q0), (0, .ref b)]) hx hb (zLd (x := (.astore_n 2, 1, 0, 0, 0, 0)) rfl) rfl hl (by decide) rfl (fun ls hl => ?_)
  refine lv_iconst (v := nI 0) hx hb (zLd (x := (.iconst 0, 1, 0, 0, 0, 0)) rfl) (by decide) ?_
  refine lv_istore_n (lv' := [(3, .int (nI 0)), (2, .ref q8), (1, .ref q0), (0, .ref b)]) hx hb (zLd (x := (.istore_n 3, 1, 0, 0, 0, 0)) rfl) rfl hl (by decide) rfl (fun ls hl => ?_)
  rw [List.nil_append, zwX9_v] at hP hD
  have hP : va_P D vwCl (zWst cA q0 uq0 q8 uq8) H := hP
  have hD : va_D (fun q : Nat => s.heap.size ≤ q) (zWst cA q0 uq0 q8 uq8) := hD
  obtain ⟨hinj, hAd⟩ := zst_inj hD
  refine W.widen (k := 600000) (n := 7302250) (Nat.le_of_ble_eq_true rfl) (Nat.le_of_ble_eq_true rfl) ?_
  refine zl_loop (xs := xs) (L := L) (cA := cA) (D := D) (ad := zad q0 uq0 q8 uq8) ⟨⟨hx, hb, hml, hown⟩, htG, hnw, hX, hbl, hL, hinj, hK, hAd, Nat.le_refl _, Nat.le_refl _⟩ (fun H locs ls hS => ?_) L 0 (by omega) (by omega) zM0 H locs ls zM0_inv zM0_rg (zst_P hP) hS (lv_sub hl [3, 2, 1, 0] rfl)
  refine lv_iconst (v := 1) hx hb (zLd (x := (.iconst 1, 1, 0, 0, 0, 0)) rfl) (by decide) ?_
  exact va_forget hS.2.2 (lw_ret hx hb hr hlocks (zLd (x := (.ireturn, 1, 0, 0, 0, 0)) rfl))
set_option maxHeartbeats 4000000 in
theorem lw_walk (l : Launch) (hflags : l.flags = flags0) (b : Addr) (xs : List Int32) : MetFree l x (headSpec (Jvm.Cond.code x code maxLocals ret :: tables_1) room_1) (lw_P b xs) (fun _ _ _ _ _ => True) lw_Q := by
  refine MetFree.of_bodyS (code := code) (maxLocals := maxLocals) (ret := ret) (by decide) ?_ ?_
  · intro args s m h hn
    obtain ⟨meth, c, h1, h2, h3, h4, h5, h6, -, -⟩ := Cond.code_spec hn (atoms_spec (ws := Jvm.Cond.code x code maxLocals ret :: tables_1) h _ List.mem_cons_self)
    exact ⟨meth, c, h1, h2, h3, h4, h5, h6⟩
  · intro p e s m args below meth c s₁ B hml0 hP _
    obtain ⟨rfl, hx, hbd, hgv⟩ := hP
    obtain ⟨scr, harrAt, hlist, hof, hsmall⟩ := hx
    obtain ⟨hcb, hkn, -, -⟩ := State.arrayAt?_spec harrAt
    have hown : s.vm.findClass R_law = some m.cls := findClass_of_methodNamed B.named
    have hts0 : ∀ c ∈ (Jvm.Cond.code x code maxLocals ret :: tables_1), c.before #[Value.ref b] s = true := atoms_spec (ws := Jvm.Cond.code x code maxLocals ret :: tables_1) B.pre
    have hts : ∀ w ∈ lw_tbl, w.before #[Value.ref b] s = true := k2_hts_sels lw_privs (fun w hw => hts0 w (List.mem_cons_of_mem _ hw)) lw_privs_ok
    have hml : c.maxLocals = 4 := B.maxLocals_eq (hts0 _ List.mem_cons_self)
    have X₀ : Stand p l e room_1 s m #[Value.ref b] below meth c s₁ [] 0 0 := Stand.of_body B
    have hh0 : s₁.heap = s.heap := by rw [B.state]; rfl
    have hsz : scr.slots.size = xs.length := by rw [← Array.length_toList, hlist, List.length_map]
    have hval : ∀ j : Nat, j < xs.length → scr.slots[j]? = some (.int (xs.getD j 0)) := fun j hj => by
      rw [← Array.getElem?_toList, hlist]
      simp [hj]
    have hbl : b < s.heap.size := (Array.getElem?_eq_some_iff.mp hcb).1
    have hX : va_X b xs.length (fun j => xs.getD j 0) s s.heap := ⟨scr, hcb, hof, hkn, hsz, hval⟩
    have K : W p l e room_1 s m #[Value.ref b] below meth c s₁.heap [] 0 0 (lw_Z below #[Value.ref b] s) (entryFrame m ([Value.ref b] : List Value).toArray 4) := by
      rw [hh0]
      exact whole_start l hflags hbd ⟨B.exec, B.bytes, B.returns, hml, hown, hts, hX, hbl, B.notSynchronized, hgv⟩
    obtain ⟨t, a1, o, b1, b2, b3⟩ := K s₁ rfl X₀
    exact ⟨t, o, a1, b1, b2, b3⟩
theorem lw_pre_spec {args : Array Value} {s : State} (h : (Jvm.Cond.and given_1 narrow_1).before args s = true) (hr : rest_1_c.before args s = true) : ∃ (b : Addr) (xs : List Int32), lw_P b xs args s := by
  have hs := flat_of_before _ h
  have hq := flat_of_before _ hr
  have hc : (Cond.count 1).before args s = true := hs _ (by decide +kernel)
  have harr : (Cond.arrayOf (.arg 0) .int).before args s = true := hs _ (by decide +kernel)
  have hle : (Cond.le (.length (.arg 0)) (.int 3072)).before args s = true := hs _ (by decide +kernel)
  have hlen : (Cond.isInt (.length (.arg 0))).before args s = true := hq _ (by decide +kernel)
  have hall : (Cond.all (.arg 0) (.isInt (.elem (.arg 0) (.index 0)))).before args s = true := hq _ (by decide +kernel)
  obtain ⟨b, xs, hb, hx⟩ := State.ints_of_pre rfl harr hlen hall
  have hsm : xs.length < 2 ^ 31 := hx.choose_spec.2.2.2
  have hev : (Term.length (.arg 0)).eval args s none [] s = some (.int xs.length.toInt32) := hx.length_eval hb
  have hv := Cond.le_ints hev (show (Term.int 3072).eval args s none [] s = some (.int 3072) from rfl)
  have hd : xs.length.toInt32 ≤ 3072 := by
    simpa [Cond.before, Cond.holds, hv] using hle
  have hN : xs.length ≤ 3072 := (Int32.ofNat_le_ofNat hsm (by decide)).mp (show Int32.ofNat xs.length ≤ Int32.ofNat 3072 from hd)
  exact ⟨b, xs, Cond.one_arg hc (show args[0]? = some (.ref b) from hb), hx, hN, h⟩
theorem lw_comes (l : Launch) (hflags : l.flags = flags0) : Comes l x (Jvm.Cond.code x code maxLocals ret :: tables_1) room_1 (fun tb e args s => Calls_1 tb e args s ∧ rest_1 tb e args s ∧ Pre_1 tb e args s)
    (fun _ _ args s o t => lw_Q args s o t) := by
  intro p e ha hc hk s m args below hf hfit hheap happ hpre
  obtain ⟨b, xs, hP⟩ := lw_pre_spec hpre.2.2 hpre.2.1
  obtain ⟨k, o, h1, h2, h3, hQ⟩ := lw_walk l hflags b xs p e ha hc hk s m args below hf ((Spec.applies_iff_loose hf).mp happ).1 hP trivial
  exact ⟨k, o, h1, h2, h3, hQ⟩
theorem lw_frame {s t : State} {o : Outcome} {args : Array Value} (h : Framed s o t [] 600000 7302250) :
    Framed s o t (fieldLocs frame_1_writes args s ++ arrayLocs frame_1_arrays args s ++ staticLocs frame_1_statics s) 600000 7302250 := h
theorem lw_limb (L : Cond) (hL : ∀ (args : Array Value) (s t : State), L.after args s (.returned (some (.int 1))) t = true) :
    ArmFor flags0 classFile x code maxLocals ret World_1 tables_1 room_1 Calls_1 rest_1 Pre_1
      (fun tb e a s o t => postC L tb e a s o t ∧ Framed s o t (fieldLocs frame_1_writes a s ++ arrayLocs frame_1_arrays a s ++ staticLocs frame_1_statics s) 600000 7302250) := by
  intro l hflags _ _ p e ha hc hk s m args below hf hfit hheap happ hpre
  obtain ⟨k, o, h1, h2, h3, rfl, hF⟩ := lw_comes l hflags p e ha hc hk s m args below hf hfit hheap happ hpre
  exact ⟨k, _, h1, h2, h3, hL args s _, lw_frame hF⟩
theorem i_vc : Claimed_1_1 ∧ Claimed_1_2 := ⟨lw_limb limb_1_1 (fun args s t => by simp [limb_1_1, Cond.after, Cond.holds, Cond.value]), lw_limb limb_1_2 (fun args s t => Cond.after_iff.mpr (by
  first | (rw [show limb_1_2 = Cond.eq .result (.int 1) from rfl, Cond.eq_ints (x := 1) (y := 1) rfl rfl]; simp; done) | (simp [limb_1_2, Cond.value, Term.eval]; done)))⟩
