def zwX3 (cA : Nat → ClassId) (h0 : Nat) (u : Nat → Nat) : va_W := [(h0, .inr (3, [.ref (u 0), .ref (u 5), .ref (u 6), .ref (u 7), .ref (u 8), .ref (u 9), .int 0, .int 0])), (u 0, .inr (2, [.ref ((u 1)), .ref ((u 2)), .ref ((u 3)), .ref ((u 4)), .int 0, .int 0, .int 0, .int 0, .int 0, .int 0, .int 0, .int 0, .int 0, .int 0])), (u 1, .inl (cA 0, 8, .inl (fun _ => 0))), (u 2, .inl (cA 0, 92, .inl (fun _ => 0))), (u 3, .inl (cA 0, 92, .inl (fun _ => 0))), (u 4, .inl (cA 0, 92, .inl (fun _ => 0))), (u 5, .inl (cA 0, 6, .inl (fun _ => 0))), (u 6, .inl (cA 2, 30, .inr (.inl (fun _ => 0)))), (u 7, .inl (cA 2, 30, .inr (.inl (fun _ => 0)))), (u 8, .inl (cA 2, 8, .inr (.inl (fun _ => 0)))), (u 9, .inl (cA 2, 8, .inr (.inl (fun _ => 0))))]
def zrmX3 : Room := { frames := 2, cells := 10, slots := 380, locals := 120 }
set_option maxHeartbeats 4000000 in
set_option maxRecDepth 100000 in
theorem znc_X3_0 {p : Program} {l : Launch} {e : Env} {R : Room} {s : State} {m : MethodId} {args : Array Value} {below : List Frame} {meth : Method} {c : Code} {H : Heap} {locs : List Loc} {Q : State → Prop} {ls : Array Slot} {A : Nat → Prop} {D : va_G} {cA : Nat → ClassId} {h0 : Nat} (C0 : zNC p s m args meth c R A D cA RX3 prog_5_method_1_code 1 2 120 10 380) (hP : va_P D vwCl ((h0, .inr (3, [.null, .null, .null, .null, .null, .null, .int 0, .int 0])) :: ([])) H) (hD : va_D A ((h0, .inr (3, [.null, .null, .null, .null, .null, .null, .int 0, .int 0])) :: ([]))) (hS : va_S A s.heap H locs) (hl : lv_has ls 1 [(0, .ref h0)])
    (kk : ∀ (q5 : Nat) (u9 : Nat → Nat) (q18 : Nat) (q26 : Nat) (q34 : Nat) (q42 : Nat) (q50 : Nat) (H : Heap) (locs : List Loc) (ls : Array Slot), va_P D vwCl ((h0, .inr (3, [.ref q5, .ref q18, .ref q26, .ref q34, .ref q42, .ref q50, .int 0, .int 0])) :: ([] ++ zwX2 cA q5 u9 ++ [(q18, .inl (cA 0, 6, .inl (fun _ => 0)))] ++ [(q26, .inl (cA 2, 30, .inr (.inl (fun _ => 0))))] ++ [(q34, .inl (cA 2, 30, .inr (.inl (fun _ => 0))))] ++ [(q42, .inl (cA 2, 8, .inr (.inl (fun _ => 0))))] ++ [(q50, .inl (cA 2, 8, .inr (.inl (fun _ => 0))))])) H → va_D A ((h0, .inr (3, [.ref q5, .ref q18, .ref q26, .ref q34, .ref q42, .ref q50, .int 0, .int 0])) :: ([] ++ zwX2 cA q5 u9 ++ [(q18, .inl (cA 0, 6, .inl (fun _ => 0)))] ++ [(q26, .inl (cA 2, 30, .inr (.inl (fun _ => 0))))] ++ [(q34, .inl (cA 2, 30, .inr (.inl (fun _ => 0))))] ++ [(q42, .inl (cA 2, 8, .inr (.inl (fun _ => 0))))] ++ [(q50, .inl (cA 2, 8, .inr (.inl (fun _ => 0))))])) → va_S A s.heap H locs → lv_has ls 1 [(0, .ref h0)] → W p l e R s m args below meth c H locs 10 380 Q (F0 m 55 ls [])) : W p l e R s m args below meth c H locs 0 0 Q (F0 m 0 ls []) := by
  obtain ⟨hx, hb, hml, hown, hts, hnw, hK, hA, hin, hR1, hR2, hR3, hR4⟩ := C0
  refine lv_aload_n hx hb (show decode prog_5_method_1_code 0 = .ok (.aload_n 0, 1) by decide +kernel) rfl (lv_at hl 0 rfl) ?_
  refine W.objInit hx hb hown (hts _ (zGW_in (pl := 258) (by decide +kernel) rfl)) (hts _ (zGW_in (pl := 107) (by decide +kernel) rfl)) (hts _ (zGW_in (pl := 108) (by rfl) rfl)) rfl (by rw [hml]; exact hl.1) rfl (show decode prog_5_method_1_code 1 = .ok (.invokespecial 3, 3) by decide +kernel) (Nat.le_trans (Nat.le_of_ble_eq_true rfl) hR1) (Nat.le_trans (Nat.le_of_ble_eq_true rfl) hR2) ?_
  refine W.eq (g2 := F0 m 4 ls []) rfl ?_
  refine lv_aload_n hx hb (show decode prog_5_method_1_code 4 = .ok (.aload_n 0, 1) by decide +kernel) rfl (lv_at hl 0 rfl) ?_
  refine va_new (ci := 2) (fs := [.null, .null, .null, .null, .int 0, .int 0, .int 0, .int 0, .int 0, .int 0, .int 0, .int 0, .int 0, .int 0]) (C := RX2) (T := TX2) (N := 14) hx hb hts zinX2 tyX2 tyX2_ok hown (hts _ (zGW_in (pl := 259) (by decide +kernel) rfl)) (hts _ (zGW_in (pl := 260) (by decide +kernel) rfl)) (hts _ (zGW_in (pl := 92) (by decide +kernel) rfl)) hK hP hD hS hA rfl (by decide +kernel) (Nat.le_trans (Nat.le_of_ble_eq_true rfl) hR3) (Nat.le_trans (Nat.le_of_ble_eq_true rfl) hR4) (show decode prog_5_method_1_code 5 = .ok (.new 9, 3) by decide +kernel) (fun q5 H hP hD hS => ?_)
  refine lv_dup hx hb (show decode prog_5_method_1_code 8 = .ok (.dup, 1) by decide +kernel) rfl ?_
  refine zn_call (q := q5) (rest := [.ref q5, .ref h0]) hx hb hml hl.1 hown hts hnw (zn_X2 D cA) (zGW_in (pl := 263) (by rfl) rfl) (zGW_in (pl := 92) (by decide +kernel) rfl) (zGW_in (pl := 262) (by decide +kernel) rfl) (Or.inr (List.mem_of_getElem? (i := 261) (by decide +kernel))) (by decide +kernel) ⟨Nat.le_trans (Nat.le_of_ble_eq_true rfl) hR1, Nat.le_trans (Nat.le_of_ble_eq_true rfl) hR2⟩ ⟨Nat.le_trans (Nat.le_of_ble_eq_true rfl) hR3, Nat.le_trans (Nat.le_of_ble_eq_true rfl) hR4⟩ (Nat.le_of_ble_eq_true rfl) hK hP hD hS hA (show decode prog_5_method_1_code 9 = .ok (.invokespecial 11, 3) by decide +kernel) (fun u9 H locs hP hD hS => ?_)
  refine zn_put (own := RX3) (ci := 3) (j := 0) (pl := 321) (vk := 1) (fin := true) (v := .ref q5) hx hb hts hown hin hK hP hD hS (Nat.le_of_ble_eq_true rfl) (⟨_, rfl⟩) (by decide +kernel) (show decode prog_5_method_1_code 12 = .ok (.putfield 12, 3) by decide +kernel) (fun H locs hP hD hS => ?_)
  refine lv_aload_n hx hb (show decode prog_5_method_1_code 15 = .ok (.aload_n 0, 1) by decide +kernel) rfl (lv_at hl 0 rfl) ?_
  refine lv_bipush (v := 6) hx hb (show decode prog_5_method_1_code 16 = .ok (.bipush 6, 2) by decide +kernel) (by decide) ?_
  refine zn_newa (atype := .int) (ty := .int) (a0 := (6, .inl (fun _ => 0))) (n := 6) (N' := 6) hx hb 0 (hts _ (zGW_in (pl := 177) (by decide +kernel) rfl)) rfl rfl (fun _ => Iff.rfl) hK hP hD hS hA (fun _ => rfl) (by decide) (by decide) (by decide) (Nat.le_trans (Nat.le_of_ble_eq_true rfl) hR3) (Nat.le_trans (Nat.le_of_ble_eq_true rfl) hR4) (show decode prog_5_method_1_code 18 = .ok (.newarray .int, 2) by decide +kernel) (fun q18 H hP hD hS => ?_)
  refine zn_put (own := RX3) (ci := 3) (j := 1) (pl := 323) (vk := 1) (fin := true) (v := .ref q18) hx hb hts hown hin hK hP hD hS (Nat.le_of_ble_eq_true rfl) (⟨_, rfl⟩) (by decide +kernel) (show decode prog_5_method_1_code 20 = .ok (.putfield 18, 3) by decide +kernel) (fun H locs hP hD hS => ?_)
  refine lv_aload_n hx hb (show decode prog_5_method_1_code 23 = .ok (.aload_n 0, 1) by decide +kernel) rfl (lv_at hl 0 rfl) ?_
  refine lv_bipush (v := 30) hx hb (show decode prog_5_method_1_code 24 = .ok (.bipush 30, 2) by decide +kernel) (by decide) ?_
  refine zn_newa (atype := .long) (ty := .long) (a0 := (30, .inr (.inl (fun _ => 0)))) (n := 30) (N' := 30) hx hb 2 (hts _ (zGW_in (pl := 350) (by decide +kernel) rfl)) rfl rfl (fun _ => Iff.rfl) hK hP hD hS hA (fun _ => rfl) (by decide) (by decide) (by decide) (Nat.le_trans (Nat.le_of_ble_eq_true rfl) hR3) (Nat.le_trans (Nat.le_of_ble_eq_true rfl) hR4) (show decode prog_5_method_1_code 26 = .ok (.newarray .long, 2) by decide +kernel) (fun q26 H hP hD hS => ?_)
  refine zn_put (own := RX3) (ci := 3) (j := 2) (pl := 325) (vk := 1) (fin := true) (v := .ref q26) hx hb hts hown hin hK hP hD hS (Nat.le_of_ble_eq_true rfl) (⟨_, rfl⟩) (by decide +kernel) (show decode prog_5_method_1_code 28 = .ok (.putfield 22, 3) by decide +kernel) (fun H locs hP hD hS => ?_)
  refine lv_aload_n hx hb (show decode prog_5_method_1_code 31 = .ok (.aload_n 0, 1) by decide +kernel) rfl (lv_at hl 0 rfl) ?_
  refine lv_bipush (v := 30) hx hb (show decode prog_5_method_1_code 32 = .ok (.bipush 30, 2) by decide +kernel) (by decide) ?_
  refine zn_newa (atype := .long) (ty := .long) (a0 := (30, .inr (.inl (fun _ => 0)))) (n := 30) (N' := 30) hx hb 2 (hts _ (zGW_in (pl := 350) (by decide +kernel) rfl)) rfl rfl (fun _ => Iff.rfl) hK hP hD hS hA (fun _ => rfl) (by decide) (by decide) (by decide) (Nat.le_trans (Nat.le_of_ble_eq_true rfl) hR3) (Nat.le_trans (Nat.le_of_ble_eq_true rfl) hR4) (show decode prog_5_method_1_code 34 = .ok (.newarray .long, 2) by decide +kernel) (fun q34 H hP hD hS => ?_)
  refine zn_put (own := RX3) (ci := 3) (j := 3) (pl := 326) (vk := 1) (fin := true) (v := .ref q34) hx hb hts hown hin hK hP hD hS (Nat.le_of_ble_eq_true rfl) (⟨_, rfl⟩) (by decide +kernel) (show decode prog_5_method_1_code 36 = .ok (.putfield 26, 3) by decide +kernel) (fun H locs hP hD hS => ?_)
  refine lv_aload_n hx hb (show decode prog_5_method_1_code 39 = .ok (.aload_n 0, 1) by decide +kernel) rfl (lv_at hl 0 rfl) ?_
  refine lv_bipush (v := 8) hx hb (show decode prog_5_method_1_code 40 = .ok (.bipush 8, 2) by decide +kernel) (by decide) ?_
  refine zn_newa (atype := .long) (ty := .long) (a0 := (8, .inr (.inl (fun _ => 0)))) (n := 8) (N' := 8) hx hb 2 (hts _ (zGW_in (pl := 350) (by decide +kernel) rfl)) rfl rfl (fun _ => Iff.rfl) hK hP hD hS hA (fun _ => rfl) (by decide) (by decide) (by decide) (Nat.le_trans (Nat.le_of_ble_eq_true rfl) hR3) (Nat.le_trans (Nat.le_of_ble_eq_true rfl) hR4) (show decode prog_5_method_1_code 42 = .ok (.newarray .long, 2) by decide +kernel) (fun q42 H hP hD hS => ?_)
  refine zn_put (own := RX3) (ci := 3) (j := 4) (pl := 327) (vk := 1) (fin := true) (v := .ref q42) hx hb hts hown hin hK hP hD hS (Nat.le_of_ble_eq_true rfl) (⟨_, rfl⟩) (by decide +kernel) (show decode prog_5_method_1_code 44 = .ok (.putfield 29, 3) by decide +kernel) (fun H locs hP hD hS => ?_)
  refine lv_aload_n hx hb (show decode prog_5_method_1_code 47 = .ok (.aload_n 0, 1) by decide +kernel) rfl (lv_at hl 0 rfl) ?_
  refine lv_bipush (v := 8) hx hb (show decode prog_5_method_1_code 48 = .ok (.bipush 8, 2) by decide +kernel) (by decide) ?_
  refine zn_newa (atype := .long) (ty := .long) (a0 := (8, .inr (.inl (fun _ => 0)))) (n := 8) (N' := 8) hx hb 2 (hts _ (zGW_in (pl := 350) (by decide +kernel) rfl)) rfl rfl (fun _ => Iff.rfl) hK hP hD hS hA (fun _ => rfl) (by decide) (by decide) (by decide) (Nat.le_trans (Nat.le_of_ble_eq_true rfl) hR3) (Nat.le_trans (Nat.le_of_ble_eq_true rfl) hR4) (show decode prog_5_method_1_code 50 = .ok (.newarray .long, 2) by decide +kernel) (fun q50 H hP hD hS => ?_)
  refine zn_put (own := RX3) (ci := 3) (j := 5) (pl := 328) (vk := 1) (fin := true) (v := .ref q50) hx hb hts hown hin hK hP hD hS (Nat.le_of_ble_eq_true rfl) (⟨_, rfl⟩) (by decide +kernel) (show decode prog_5_method_1_code 52 = .ok (.putfield 32, 3) by decide +kernel) (fun H locs hP hD hS => ?_)
  exact kk _ _ _ _ _ _ _ _ _ _ hP hD hS hl
set_option maxHeartbeats 4000000 in
set_option maxRecDepth 100000 in
theorem zn_X3 (D : va_G) (cA : Nat → ClassId) : zCc 3 [.null, .null, .null, .null, .null, .null, .int 0, .int 0] (zwX3 cA) ⟨"CommaCopies$Laws", "<init>", "()V"⟩ prog_5_method_1_code 1 zrmX3 D cA := by
  intro l h0 sz
  refine Met.ofW (cc := prog_5_method_1_code) (maxL := 1) (ret := none) (by decide +kernel) rfl ?_
  intro p e s m args below meth c s₁ B hml hv
  obtain ⟨rfl, hsz, hnw, hP, hK⟩ := hv
  have hx := B.exec
  have hb := B.bytes
  have hr := B.returns
  have hts0 := atoms_spec (ws := .code ⟨"CommaCopies$Laws", "<init>", "()V"⟩ prog_5_method_1_code 1 none :: zGW) B.pre
  have hts : ∀ w ∈ zGW, w.before [Value.ref h0].toArray s = true := fun w h => hts0 w (List.mem_cons_of_mem _ h)
  have hown : s.vm.findClass RX3 = some m.cls := findClass_of_methodNamed B.named
  have hlocks := B.notSynchronized
  have hin : meth.name = "<init>" := (name_of_methodNamed B.named B.method).1
  subst hsz
  have hD := (zD1 (q := h0) (e := .inr (3, [.null, .null, .null, .null, .null, .null, .int 0, .int 0]))).self (sz := s.heap.size)
  generalize hAe : va_A [(h0, .inr (3, [.null, .null, .null, .null, .null, .null, .int 0, .int 0]))] s.heap.size = A at hD ⊢
  have hA : ∀ q : Nat, s.heap.size ≤ q → A q := fun q h => by rw [← hAe]; exact Or.inr h
  have hS : va_S A s.heap s.heap [] := va_S.rf
  have hl := lv_entry ([.ref h0]) (n := 1) (Nat.le_of_ble_eq_true rfl)
  rw [lg_entry_eq]
  generalize (lg_sl ([.ref h0]) ++ List.replicate (1 - (lg_sl ([.ref h0])).length) Slot.unset).toArray = ls at hl ⊢
  have hl : lv_has ls 1 [(0, .ref h0)] := hl
  have C0 : zNC p s m [Value.ref h0].toArray meth c zrmX3 A D cA RX3 prog_5_method_1_code 1 2 120 10 380 := ⟨hx, hb, hml, hown, hts, hnw, hK, hA, hin, Nat.le_refl _, Nat.le_refl _, Nat.le_refl _, Nat.le_refl _⟩
  refine znc_X3_0 C0 hP hD hS hl (fun q5 u9 q18 q26 q34 q42 q50 H locs ls hP hD hS hl => ?_)
  exact W.vret hx hb hr (fun t ht hW => ⟨⟨fun i => ([(q5), (u9 0), (u9 1), (u9 2), (u9 3), (q18), (q26), (q34), (q42), (q50)] : List Nat).getD i 0, rfl, trivial, by rw [ht]; exact hP, hD⟩, hS.F ht⟩) hS.2.2 (show decode prog_5_method_1_code 55 = .ok (.return_, 1) by decide +kernel) hlocks
