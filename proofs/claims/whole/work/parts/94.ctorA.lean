def zwX8 (cA : Nat → ClassId) (h0 : Nat) (u : Nat → Nat) : va_W := [(h0, .inr (8, [.ref (u 0), .int 0])), (u 0, .inl (cA 1, 120, .inl (fun _ => 0)))]
def zrmX8 : Room := { frames := 1, cells := 1, slots := 120, locals := 60 }
set_option maxHeartbeats 4000000 in
set_option maxRecDepth 100000 in
theorem znc_X8_0 {p : Program} {l : Launch} {e : Env} {R : Room} {s : State} {m : MethodId} {args : Array Value} {below : List Frame} {meth : Method} {c : Code} {H : Heap} {locs : List Loc} {Q : State → Prop} {ls : Array Slot} {A : Nat → Prop} {D : va_G} {cA : Nat → ClassId} {h0 : Nat} (C0 : zNC p s m args meth c R A D cA RX8 prog_10_method_1_code 1 1 60 1 120) (hP : va_P D vwCl ((h0, .inr (8, [.null, .int 0])) :: ([])) H) (hD : va_D A ((h0, .inr (8, [.null, .int 0])) :: ([]))) (hS : va_S A s.heap H locs) (hl : lv_has ls 1 [(0, .ref h0)])
    (kk : ∀ (q7 : Nat) (H : Heap) (locs : List Loc) (ls : Array Slot), va_P D vwCl ((h0, .inr (8, [.ref q7, .int 0])) :: ([] ++ [(q7, .inl (cA 1, 120, .inl (fun _ => 0)))])) H → va_D A ((h0, .inr (8, [.ref q7, .int 0])) :: ([] ++ [(q7, .inl (cA 1, 120, .inl (fun _ => 0)))])) → va_S A s.heap H locs → lv_has ls 1 [(0, .ref h0)] → W p l e R s m args below meth c H locs 1 120 Q (F0 m 12 ls [])) : W p l e R s m args below meth c H locs 0 0 Q (F0 m 0 ls []) := by
  obtain ⟨hx, hb, hml, hown, hts, hnw, hK, hA, hin, hR1, hR2, hR3, hR4⟩ := C0
  refine lv_aload_n hx hb (show decode prog_10_method_1_code 0 = .ok (.aload_n 0, 1) by decide +kernel) rfl (lv_at hl 0 rfl) ?_
  refine W.objInit hx hb hown (hts _ (zGW_in (pl := 114) (by decide +kernel) rfl)) (hts _ (zGW_in (pl := 107) (by decide +kernel) rfl)) (hts _ (zGW_in (pl := 108) (by rfl) rfl)) rfl (by rw [hml]; exact hl.1) rfl (show decode prog_10_method_1_code 1 = .ok (.invokespecial 3, 3) by decide +kernel) (Nat.le_trans (Nat.le_of_ble_eq_true rfl) hR1) (Nat.le_trans (Nat.le_of_ble_eq_true rfl) hR2) ?_
  refine W.eq (g2 := F0 m 4 ls []) rfl ?_
  refine lv_aload_n hx hb (show decode prog_10_method_1_code 4 = .ok (.aload_n 0, 1) by decide +kernel) rfl (lv_at hl 0 rfl) ?_
  refine lv_bipush (v := 120) hx hb (show decode prog_10_method_1_code 5 = .ok (.bipush 120, 2) by decide +kernel) (by decide) ?_
  refine zn_fld (own := RX8) (ci := 8) (j := 0) (pl := 115) (atype := .byte) (ty := .byte) (a0 := (120, .inl (fun _ => 0))) (n := 120) (N' := 120) (t := 1) hx hb hts hown hin hK hP hD hS hA (zGW_in (pl := 126) (by decide +kernel) rfl) rfl rfl (fun _ => Iff.rfl) (fun _ => rfl) (by decide) (by decide) (by decide) (Nat.le_trans (Nat.le_of_ble_eq_true rfl) hR3) (Nat.le_trans (Nat.le_of_ble_eq_true rfl) hR4) (Nat.le_of_ble_eq_true rfl) (by decide +kernel) (show decode prog_10_method_1_code 7 = .ok (.newarray .byte, 2) by decide +kernel) (show decode prog_10_method_1_code 9 = .ok (.putfield 9, 3) by decide +kernel) (fun q7 H locs hP hD hS => ?_)
  exact kk _ _ _ _ hP hD hS hl
set_option maxHeartbeats 4000000 in
set_option maxRecDepth 100000 in
theorem zn_X8 (D : va_G) (cA : Nat → ClassId) : zCc 8 [.null, .int 0] (zwX8 cA) ⟨"CommaCopies$Tape", "<init>", "()V"⟩ prog_10_method_1_code 1 zrmX8 D cA := by
  intro l h0 sz
  refine Met.ofW (cc := prog_10_method_1_code) (maxL := 1) (ret := none) (by decide +kernel) rfl ?_
  intro p e s m args below meth c s₁ B hml hv
  obtain ⟨rfl, hsz, hnw, hP, hK⟩ := hv
  have hx := B.exec
  have hb := B.bytes
  have hr := B.returns
  have hts0 := atoms_spec (ws := .code ⟨"CommaCopies$Tape", "<init>", "()V"⟩ prog_10_method_1_code 1 none :: zGW) B.pre
  have hts : ∀ w ∈ zGW, w.before [Value.ref h0].toArray s = true := fun w h => hts0 w (List.mem_cons_of_mem _ h)
  have hown : s.vm.findClass RX8 = some m.cls := findClass_of_methodNamed B.named
  have hlocks := B.notSynchronized
  have hin : meth.name = "<init>" := (name_of_methodNamed B.named B.method).1
  subst hsz
  have hD := (zD1 (q := h0) (e := .inr (8, [.null, .int 0]))).self (sz := s.heap.size)
  generalize hAe : va_A [(h0, .inr (8, [.null, .int 0]))] s.heap.size = A at hD ⊢
  have hA : ∀ q : Nat, s.heap.size ≤ q → A q := fun q h => by rw [← hAe]; exact Or.inr h
  have hS : va_S A s.heap s.heap [] := va_S.rf
  have hl := lv_entry ([.ref h0]) (n := 1) (Nat.le_of_ble_eq_true rfl)
  rw [lg_entry_eq]
  generalize (lg_sl ([.ref h0]) ++ List.replicate (1 - (lg_sl ([.ref h0])).length) Slot.unset).toArray = ls at hl ⊢
  have hl : lv_has ls 1 [(0, .ref h0)] := hl
  have C0 : zNC p s m [Value.ref h0].toArray meth c zrmX8 A D cA RX8 prog_10_method_1_code 1 1 60 1 120 := ⟨hx, hb, hml, hown, hts, hnw, hK, hA, hin, Nat.le_refl _, Nat.le_refl _, Nat.le_refl _, Nat.le_refl _⟩
  refine znc_X8_0 C0 hP hD hS hl (fun q7 H locs ls hP hD hS hl => ?_)
  exact W.vret hx hb hr (fun t ht hW => ⟨⟨fun i => ([(q7)] : List Nat).getD i 0, rfl, trivial, by rw [ht]; exact hP, hD⟩, hS.F ht⟩) hS.2.2 (show decode prog_10_method_1_code 12 = .ok (.return_, 1) by decide +kernel) hlocks
def zwX4 (cA : Nat → ClassId) (h0 : Nat) (u : Nat → Nat) : va_W := [(h0, .inr (4, [.ref (u 0), .ref (u 1), .ref (u 2), .ref (u 3), .int 0, .int 0, .int 0])), (u 0, .inl (cA 1, 120, .inl (fun _ => 0))), (u 1, .inl (cA 0, 6, .inl (fun _ => 0))), (u 2, .inl (cA 0, 24, .inl (fun _ => 0))), (u 3, .inl (cA 0, 24, .inl (fun _ => 0)))]
def zrmX4 : Room := { frames := 1, cells := 4, slots := 174, locals := 60 }
set_option maxHeartbeats 4000000 in
set_option maxRecDepth 100000 in
theorem znc_X4_0 {p : Program} {l : Launch} {e : Env} {R : Room} {s : State} {m : MethodId} {args : Array Value} {below : List Frame} {meth : Method} {c : Code} {H : Heap} {locs : List Loc} {Q : State → Prop} {ls : Array Slot} {A : Nat → Prop} {D : va_G} {cA : Nat → ClassId} {h0 : Nat} (C0 : zNC p s m args meth c R A D cA RX4 prog_6_method_1_code 1 1 60 4 174) (hP : va_P D vwCl ((h0, .inr (4, [.null, .null, .null, .null, .int 0, .int 0, .int 0])) :: ([])) H) (hD : va_D A ((h0, .inr (4, [.null, .null, .null, .null, .int 0, .int 0, .int 0])) :: ([]))) (hS : va_S A s.heap H locs) (hl : lv_has ls 1 [(0, .ref h0)])
    (kk : ∀ (q7 : Nat) (q15 : Nat) (q23 : Nat) (q31 : Nat) (H : Heap) (locs : List Loc) (ls : Array Slot), va_P D vwCl ((h0, .inr (4, [.ref q7, .ref q15, .ref q23, .ref q31, .int 0, .int 0, .int 0])) :: ([] ++ [(q7, .inl (cA 1, 120, .inl (fun _ => 0)))] ++ [(q15, .inl (cA 0, 6, .inl (fun _ => 0)))] ++ [(q23, .inl (cA 0, 24, .inl (fun _ => 0)))] ++ [(q31, .inl (cA 0, 24, .inl (fun _ => 0)))])) H → va_D A ((h0, .inr (4, [.ref q7, .ref q15, .ref q23, .ref q31, .int 0, .int 0, .int 0])) :: ([] ++ [(q7, .inl (cA 1, 120, .inl (fun _ => 0)))] ++ [(q15, .inl (cA 0, 6, .inl (fun _ => 0)))] ++ [(q23, .inl (cA 0, 24, .inl (fun _ => 0)))] ++ [(q31, .inl (cA 0, 24, .inl (fun _ => 0)))])) → va_S A s.heap H locs → lv_has ls 1 [(0, .ref h0)] → W p l e R s m args below meth c H locs 4 174 Q (F0 m 36 ls [])) : W p l e R s m args below meth c H locs 0 0 Q (F0 m 0 ls []) := by
  obtain ⟨hx, hb, hml, hown, hts, hnw, hK, hA, hin, hR1, hR2, hR3, hR4⟩ := C0
  refine lv_aload_n hx hb (show decode prog_6_method_1_code 0 = .ok (.aload_n 0, 1) by decide +kernel) rfl (lv_at hl 0 rfl) ?_
  refine W.objInit hx hb hown (hts _ (zGW_in (pl := 138) (by decide +kernel) rfl)) (hts _ (zGW_in (pl := 107) (by decide +kernel) rfl)) (hts _ (zGW_in (pl := 108) (by rfl) rfl)) rfl (by rw [hml]; exact hl.1) rfl (show decode prog_6_method_1_code 1 = .ok (.invokespecial 3, 3) by decide +kernel) (Nat.le_trans (Nat.le_of_ble_eq_true rfl) hR1) (Nat.le_trans (Nat.le_of_ble_eq_true rfl) hR2) ?_
  refine W.eq (g2 := F0 m 4 ls []) rfl ?_
  refine lv_aload_n hx hb (show decode prog_6_method_1_code 4 = .ok (.aload_n 0, 1) by decide +kernel) rfl (lv_at hl 0 rfl) ?_
  refine lv_bipush (v := 120) hx hb (show decode prog_6_method_1_code 5 = .ok (.bipush 120, 2) by decide +kernel) (by decide) ?_
  refine zn_fld (own := RX4) (ci := 4) (j := 0) (pl := 139) (atype := .byte) (ty := .byte) (a0 := (120, .inl (fun _ => 0))) (n := 120) (N' := 120) (t := 1) hx hb hts hown hin hK hP hD hS hA (zGW_in (pl := 126) (by decide +kernel) rfl) rfl rfl (fun _ => Iff.rfl) (fun _ => rfl) (by decide) (by decide) (by decide) (Nat.le_trans (Nat.le_of_ble_eq_true rfl) hR3) (Nat.le_trans (Nat.le_of_ble_eq_true rfl) hR4) (Nat.le_of_ble_eq_true rfl) (by decide +kernel) (show decode prog_6_method_1_code 7 = .ok (.newarray .byte, 2) by decide +kernel) (show decode prog_6_method_1_code 9 = .ok (.putfield 9, 3) by decide +kernel) (fun q7 H locs hP hD hS => ?_)
  refine lv_aload_n hx hb (show decode prog_6_method_1_code 12 = .ok (.aload_n 0, 1) by decide +kernel) rfl (lv_at hl 0 rfl) ?_
  refine lv_bipush (v := 6) hx hb (show decode prog_6_method_1_code 13 = .ok (.bipush 6, 2) by decide +kernel) (by decide) ?_
  refine zn_fld (own := RX4) (ci := 4) (j := 1) (pl := 141) (atype := .int) (ty := .int) (a0 := (6, .inl (fun _ => 0))) (n := 6) (N' := 6) (t := 0) hx hb hts hown hin hK hP hD hS hA (zGW_in (pl := 177) (by decide +kernel) rfl) rfl rfl (fun _ => Iff.rfl) (fun _ => rfl) (by decide) (by decide) (by decide) (Nat.le_trans (Nat.le_of_ble_eq_true rfl) hR3) (Nat.le_trans (Nat.le_of_ble_eq_true rfl) hR4) (Nat.le_of_ble_eq_true rfl) (by decide +kernel) (show decode prog_6_method_1_code 15 = .ok (.newarray .int, 2) by decide +kernel) (show decode prog_6_method_1_code 17 = .ok (.putfield 15, 3) by decide +kernel) (fun q15 H locs hP hD hS => ?_)
  refine lv_aload_n hx hb (show decode prog_6_method_1_code 20 = .ok (.aload_n 0, 1) by decide +kernel) rfl (lv_at hl 0 rfl) ?_
  refine lv_bipush (v := 24) hx hb (show decode prog_6_method_1_code 21 = .ok (.bipush 24, 2) by decide +kernel) (by decide) ?_
  refine zn_fld (own := RX4) (ci := 4) (j := 2) (pl := 147) (atype := .int) (ty := .int) (a0 := (24, .inl (fun _ => 0))) (n := 24) (N' := 24) (t := 0) hx hb hts hown hin hK hP hD hS hA (zGW_in (pl := 177) (by decide +kernel) rfl) rfl rfl (fun _ => Iff.rfl) (fun _ => rfl) (by decide) (by decide) (by decide) (Nat.le_trans (Nat.le_of_ble_eq_true rfl) hR3) (Nat.le_trans (Nat.le_of_ble_eq_true rfl) hR4) (Nat.le_of_ble_eq_true rfl) (by decide +kernel) (show decode prog_6_method_1_code 23 = .ok (.newarray .int, 2) by decide +kernel) (show decode prog_6_method_1_code 25 = .ok (.putfield 19, 3) by decide +kernel) (fun q23 H locs hP hD hS => ?_)
  refine lv_aload_n hx hb (show decode prog_6_method_1_code 28 = .ok (.aload_n 0, 1) by decide +kernel) rfl (lv_at hl 0 rfl) ?_
  refine lv_bipush (v := 24) hx hb (show decode prog_6_method_1_code 29 = .ok (.bipush 24, 2) by decide +kernel) (by decide) ?_
  refine zn_fld (own := RX4) (ci := 4) (j := 3) (pl := 149) (atype := .int) (ty := .int) (a0 := (24, .inl (fun _ => 0))) (n := 24) (N' := 24) (t := 0) hx hb hts hown hin hK hP hD hS hA (zGW_in (pl := 177) (by decide +kernel) rfl) rfl rfl (fun _ => Iff.rfl) (fun _ => rfl) (by decide) (by decide) (by decide) (Nat.le_trans (Nat.le_of_ble_eq_true rfl) hR3) (Nat.le_trans (Nat.le_of_ble_eq_true rfl) hR4) (Nat.le_of_ble_eq_true rfl) (by decide +kernel) (show decode prog_6_method_1_code 31 = .ok (.newarray .int, 2) by decide +kernel) (show decode prog_6_method_1_code 33 = .ok (.putfield 22, 3) by decide +kernel) (fun q31 H locs hP hD hS => ?_)
  exact kk _ _ _ _ _ _ _ hP hD hS hl
set_option maxHeartbeats 4000000 in
set_option maxRecDepth 100000 in
theorem zn_X4 (D : va_G) (cA : Nat → ClassId) : zCc 4 [.null, .null, .null, .null, .int 0, .int 0, .int 0] (zwX4 cA) ⟨"CommaCopies$Letter", "<init>", "()V"⟩ prog_6_method_1_code 1 zrmX4 D cA := by
  intro l h0 sz
  refine Met.ofW (cc := prog_6_method_1_code) (maxL := 1) (ret := none) (by decide +kernel) rfl ?_
  intro p e s m args below meth c s₁ B hml hv
  obtain ⟨rfl, hsz, hnw, hP, hK⟩ := hv
  have hx := B.exec
  have hb := B.bytes
  have hr := B.returns
  have hts0 := atoms_spec (ws := .code ⟨"CommaCopies$Letter", "<init>", "()V"⟩ prog_6_method_1_code 1 none :: zGW) B.pre
  have hts : ∀ w ∈ zGW, w.before [Value.ref h0].toArray s = true := fun w h => hts0 w (List.mem_cons_of_mem _ h)
  have hown : s.vm.findClass RX4 = some m.cls := findClass_of_methodNamed B.named
  have hlocks := B.notSynchronized
  have hin : meth.name = "<init>" := (name_of_methodNamed B.named B.method).1
  subst hsz
  have hD := (zD1 (q := h0) (e := .inr (4, [.null, .null, .null, .null, .int 0, .int 0, .int 0]))).self (sz := s.heap.size)
  generalize hAe : va_A [(h0, .inr (4, [.null, .null, .null, .null, .int 0, .int 0, .int 0]))] s.heap.size = A at hD ⊢
  have hA : ∀ q : Nat, s.heap.size ≤ q → A q := fun q h => by rw [← hAe]; exact Or.inr h
  have hS : va_S A s.heap s.heap [] := va_S.rf
  have hl := lv_entry ([.ref h0]) (n := 1) (Nat.le_of_ble_eq_true rfl)
  rw [lg_entry_eq]
  generalize (lg_sl ([.ref h0]) ++ List.replicate (1 - (lg_sl ([.ref h0])).length) Slot.unset).toArray = ls at hl ⊢
  have hl : lv_has ls 1 [(0, .ref h0)] := hl
  have C0 : zNC p s m [Value.ref h0].toArray meth c zrmX4 A D cA RX4 prog_6_method_1_code 1 1 60 4 174 := ⟨hx, hb, hml, hown, hts, hnw, hK, hA, hin, Nat.le_refl _, Nat.le_refl _, Nat.le_refl _, Nat.le_refl _⟩
  refine znc_X4_0 C0 hP hD hS hl (fun q7 q15 q23 q31 H locs ls hP hD hS hl => ?_)
  exact W.vret hx hb hr (fun t ht hW => ⟨⟨fun i => ([(q7), (q15), (q23), (q31)] : List Nat).getD i 0, rfl, trivial, by rw [ht]; exact hP, hD⟩, hS.F ht⟩) hS.2.2 (show decode prog_6_method_1_code 36 = .ok (.return_, 1) by decide +kernel) hlocks
def zwX6 (cA : Nat → ClassId) (h0 : Nat) (u : Nat → Nat) : va_W := [(h0, .inr (6, [.ref (u 0), .ref (u 1), .ref (u 2)])), (u 0, .inl (cA 0, 4, .inl (upd (upd (upd (upd (fun _ => 0) 0 (-1)) 1 (-1)) 2 (-1)) 3 (-1)))), (u 1, .inl (cA 0, 4, .inl (fun _ => 0))), (u 2, .inl (cA 0, 48, .inl (fun _ => 0)))]
def zrmX6 : Room := { frames := 1, cells := 3, slots := 56, locals := 60 }
set_option maxHeartbeats 4000000 in
set_option maxRecDepth 100000 in
theorem znc_X6_0 {p : Program} {l : Launch} {e : Env} {R : Room} {s : State} {m : MethodId} {args : Array Value} {below : List Frame} {meth : Method} {c : Code} {H : Heap} {locs : List Loc} {Q : State → Prop} {ls : Array Slot} {A : Nat → Prop} {D : va_G} {cA : Nat → ClassId} {h0 : Nat} (C0 : zNC p s m args meth c R A D cA RX6 prog_8_method_1_code 1 1 60 3 56) (hP : va_P D vwCl ((h0, .inr (6, [.null, .null, .null])) :: ([])) H) (hD : va_D A ((h0, .inr (6, [.null, .null, .null])) :: ([]))) (hS : va_S A s.heap H locs) (hl : lv_has ls 1 [(0, .ref h0)])
    (kk : ∀ (q6 : Nat) (q29 : Nat) (q37 : Nat) (H : Heap) (locs : List Loc) (ls : Array Slot), va_P D vwCl ((h0, .inr (6, [.ref q6, .ref q29, .ref q37])) :: ([] ++ [(q6, .inl (cA 0, 4, .inl (upd (upd (upd (upd (fun _ => 0) 0 (-1)) 1 (-1)) 2 (-1)) 3 (-1))))] ++ [(q29, .inl (cA 0, 4, .inl (fun _ => 0)))] ++ [(q37, .inl (cA 0, 48, .inl (fun _ => 0)))])) H → va_D A ((h0, .inr (6, [.ref q6, .ref q29, .ref q37])) :: ([] ++ [(q6, .inl (cA 0, 4, .inl (upd (upd (upd (upd (fun _ => 0) 0 (-1)) 1 (-1)) 2 (-1)) 3 (-1))))] ++ [(q29, .inl (cA 0, 4, .inl (fun _ => 0)))] ++ [(q37, .inl (cA 0, 48, .inl (fun _ => 0)))])) → va_S A s.heap H locs → lv_has ls 1 [(0, .ref h0)] → W p l e R s m args below meth c H locs 3 56 Q (F0 m 42 ls [])) : W p l e R s m args below meth c H locs 0 0 Q (F0 m 0 ls []) := by
  obtain ⟨hx, hb, hml, hown, hts, hnw, hK, hA, hin, hR1, hR2, hR3, hR4⟩ := C0
  refine lv_aload_n hx hb (show decode prog_8_method_1_code 0 = .ok (.aload_n 0, 1) by decide +kernel) rfl (lv_at hl 0 rfl) ?_
  refine W.objInit hx hb hown (hts _ (zGW_in (pl := 241) (by decide +kernel) rfl)) (hts _ (zGW_in (pl := 107) (by decide +kernel) rfl)) (hts _ (zGW_in (pl := 108) (by rfl) rfl)) rfl (by rw [hml]; exact hl.1) rfl (show decode prog_8_method_1_code 1 = .ok (.invokespecial 3, 3) by decide +kernel) (Nat.le_trans (Nat.le_of_ble_eq_true rfl) hR1) (Nat.le_trans (Nat.le_of_ble_eq_true rfl) hR2) ?_
  refine W.eq (g2 := F0 m 4 ls []) rfl ?_
  refine lv_aload_n hx hb (show decode prog_8_method_1_code 4 = .ok (.aload_n 0, 1) by decide +kernel) rfl (lv_at hl 0 rfl) ?_
  refine lv_iconst (v := 4) hx hb (show decode prog_8_method_1_code 5 = .ok (.iconst 4, 1) by decide +kernel) (by decide) ?_
  refine zn_newa (atype := .int) (ty := .int) (a0 := (4, .inl (fun _ => 0))) (n := 4) (N' := 4) hx hb 0 (hts _ (zGW_in (pl := 177) (by decide +kernel) rfl)) rfl rfl (fun _ => Iff.rfl) hK hP hD hS hA (fun _ => rfl) (by decide) (by decide) (by decide) (Nat.le_trans (Nat.le_of_ble_eq_true rfl) hR3) (Nat.le_trans (Nat.le_of_ble_eq_true rfl) hR4) (show decode prog_8_method_1_code 6 = .ok (.newarray .int, 2) by decide +kernel) (fun q6 H hP hD hS => ?_)
  refine lv_dup hx hb (show decode prog_8_method_1_code 8 = .ok (.dup, 1) by decide +kernel) rfl ?_
  refine lv_iconst (v := 0) hx hb (show decode prog_8_method_1_code 9 = .ok (.iconst 0, 1) by decide +kernel) (by decide) ?_
  refine lv_iconst (v := (-1)) hx hb (show decode prog_8_method_1_code 10 = .ok (.iconst (-1), 1) by decide +kernel) (by decide) ?_
  refine va_iast (D := D) (f := (fun _ => 0)) (i := 0) (x := (-1)) hx hb hK hP hD hS 1 0 rfl rfl (by unfold vp_in; decide) (show decode prog_8_method_1_code 11 = .ok (.iastore, 1) by decide +kernel) (fun H locs hP hD hS => ?_)
  refine lv_dup hx hb (show decode prog_8_method_1_code 12 = .ok (.dup, 1) by decide +kernel) rfl ?_
  refine lv_iconst (v := 1) hx hb (show decode prog_8_method_1_code 13 = .ok (.iconst 1, 1) by decide +kernel) (by decide) ?_
  refine lv_iconst (v := (-1)) hx hb (show decode prog_8_method_1_code 14 = .ok (.iconst (-1), 1) by decide +kernel) (by decide) ?_
  refine va_iast (D := D) (f := (upd (fun _ => 0) 0 (-1))) (i := 1) (x := (-1)) hx hb hK hP hD hS 1 0 rfl rfl (by unfold vp_in; decide) (show decode prog_8_method_1_code 15 = .ok (.iastore, 1) by decide +kernel) (fun H locs hP hD hS => ?_)
  refine lv_dup hx hb (show decode prog_8_method_1_code 16 = .ok (.dup, 1) by decide +kernel) rfl ?_
  refine lv_iconst (v := 2) hx hb (show decode prog_8_method_1_code 17 = .ok (.iconst 2, 1) by decide +kernel) (by decide) ?_
  refine lv_iconst (v := (-1)) hx hb (show decode prog_8_method_1_code 18 = .ok (.iconst (-1), 1) by decide +kernel) (by decide) ?_
  refine va_iast (D := D) (f := (upd (upd (fun _ => 0) 0 (-1)) 1 (-1))) (i := 2) (x := (-1)) hx hb hK hP hD hS 1 0 rfl rfl (by unfold vp_in; decide) (show decode prog_8_method_1_code 19 = .ok (.iastore, 1) by decide +kernel) (fun H locs hP hD hS => ?_)
  refine lv_dup hx hb (show decode prog_8_method_1_code 20 = .ok (.dup, 1) by decide +kernel) rfl ?_
  refine lv_iconst (v := 3) hx hb (show decode prog_8_method_1_code 21 = .ok (.iconst 3, 1) by decide +kernel) (by decide) ?_
  refine lv_iconst (v := (-1)) hx hb (show decode prog_8_method_1_code 22 = .ok (.iconst (-1), 1) by decide +kernel) (by decide) ?_
  refine va_iast (D := D) (f := (upd (upd (upd (fun _ => 0) 0 (-1)) 1 (-1)) 2 (-1))) (i := 3) (x := (-1)) hx hb hK hP hD hS 1 0 rfl rfl (by unfold vp_in; decide) (show decode prog_8_method_1_code 23 = .ok (.iastore, 1) by decide +kernel) (fun H locs hP hD hS => ?_)
  refine zn_put (own := RX6) (ci := 6) (j := 0) (pl := 242) (vk := 1) (fin := true) (v := .ref q6) hx hb hts hown hin hK hP hD hS (Nat.le_of_ble_eq_true rfl) (⟨_, rfl⟩) (by decide +kernel) (show decode prog_8_method_1_code 24 = .ok (.putfield 11, 3) by decide +kernel) (fun H locs hP hD hS => ?_)
  refine lv_aload_n hx hb (show decode prog_8_method_1_code 27 = .ok (.aload_n 0, 1) by decide +kernel) rfl (lv_at hl 0 rfl) ?_
  refine lv_iconst (v := 4) hx hb (show decode prog_8_method_1_code 28 = .ok (.iconst 4, 1) by decide +kernel) (by decide) ?_
  refine zn_fld (own := RX6) (ci := 6) (j := 1) (pl := 243) (atype := .int) (ty := .int) (a0 := (4, .inl (fun _ => 0))) (n := 4) (N' := 4) (t := 0) hx hb hts hown hin hK hP hD hS hA (zGW_in (pl := 177) (by decide +kernel) rfl) rfl rfl (fun _ => Iff.rfl) (fun _ => rfl) (by decide) (by decide) (by decide) (Nat.le_trans (Nat.le_of_ble_eq_true rfl) hR3) (Nat.le_trans (Nat.le_of_ble_eq_true rfl) hR4) (Nat.le_of_ble_eq_true rfl) (by decide +kernel) (show decode prog_8_method_1_code 29 = .ok (.newarray .int, 2) by decide +kernel) (show decode prog_8_method_1_code 31 = .ok (.putfield 15, 3) by decide +kernel) (fun q29 H locs hP hD hS => ?_)
  refine lv_aload_n hx hb (show decode prog_8_method_1_code 34 = .ok (.aload_n 0, 1) by decide +kernel) rfl (lv_at hl 0 rfl) ?_
  refine lv_bipush (v := 48) hx hb (show decode prog_8_method_1_code 35 = .ok (.bipush 48, 2) by decide +kernel) (by decide) ?_
  refine zn_fld (own := RX6) (ci := 6) (j := 2) (pl := 244) (atype := .int) (ty := .int) (a0 := (48, .inl (fun _ => 0))) (n := 48) (N' := 48) (t := 0) hx hb hts hown hin hK hP hD hS hA (zGW_in (pl := 177) (by decide +kernel) rfl) rfl rfl (fun _ => Iff.rfl) (fun _ => rfl) (by decide) (by decide) (by decide) (Nat.le_trans (Nat.le_of_ble_eq_true rfl) hR3) (Nat.le_trans (Nat.le_of_ble_eq_true rfl) hR4) (Nat.le_of_ble_eq_true rfl) (by decide +kernel) (show decode prog_8_method_1_code 37 = .ok (.newarray .int, 2) by decide +kernel) (show decode prog_8_method_1_code 39 = .ok (.putfield 18, 3) by decide +kernel) (fun q37 H locs hP hD hS => ?_)
  exact kk _ _ _ _ _ _ hP hD hS hl
set_option maxHeartbeats 4000000 in
set_option maxRecDepth 100000 in
theorem zn_X6 (D : va_G) (cA : Nat → ClassId) : zCc 6 [.null, .null, .null] (zwX6 cA) ⟨"CommaCopies$Sheets", "<init>", "()V"⟩ prog_8_method_1_code 1 zrmX6 D cA := by
  intro l h0 sz
  refine Met.ofW (cc := prog_8_method_1_code) (maxL := 1) (ret := none) (by decide +kernel) rfl ?_
  intro p e s m args below meth c s₁ B hml hv
  obtain ⟨rfl, hsz, hnw, hP, hK⟩ := hv
  have hx := B.exec
  have hb := B.bytes
  have hr := B.returns
  have hts0 := atoms_spec (ws := .code ⟨"CommaCopies$Sheets", "<init>", "()V"⟩ prog_8_method_1_code 1 none :: zGW) B.pre
  have hts : ∀ w ∈ zGW, w.before [Value.ref h0].toArray s = true := fun w h => hts0 w (List.mem_cons_of_mem _ h)
  have hown : s.vm.findClass RX6 = some m.cls := findClass_of_methodNamed B.named
  have hlocks := B.notSynchronized
  have hin : meth.name = "<init>" := (name_of_methodNamed B.named B.method).1
  subst hsz
  have hD := (zD1 (q := h0) (e := .inr (6, [.null, .null, .null]))).self (sz := s.heap.size)
  generalize hAe : va_A [(h0, .inr (6, [.null, .null, .null]))] s.heap.size = A at hD ⊢
  have hA : ∀ q : Nat, s.heap.size ≤ q → A q := fun q h => by rw [← hAe]; exact Or.inr h
  have hS : va_S A s.heap s.heap [] := va_S.rf
  have hl := lv_entry ([.ref h0]) (n := 1) (Nat.le_of_ble_eq_true rfl)
  rw [lg_entry_eq]
  generalize (lg_sl ([.ref h0]) ++ List.replicate (1 - (lg_sl ([.ref h0])).length) Slot.unset).toArray = ls at hl ⊢
  have hl : lv_has ls 1 [(0, .ref h0)] := hl
  have C0 : zNC p s m [Value.ref h0].toArray meth c zrmX6 A D cA RX6 prog_8_method_1_code 1 1 60 3 56 := ⟨hx, hb, hml, hown, hts, hnw, hK, hA, hin, Nat.le_refl _, Nat.le_refl _, Nat.le_refl _, Nat.le_refl _⟩
  refine znc_X6_0 C0 hP hD hS hl (fun q6 q29 q37 H locs ls hP hD hS hl => ?_)
  exact W.vret hx hb hr (fun t ht hW => ⟨⟨fun i => ([(q6), (q29), (q37)] : List Nat).getD i 0, rfl, trivial, by rw [ht]; exact hP, hD⟩, hS.F ht⟩) hS.2.2 (show decode prog_8_method_1_code 42 = .ok (.return_, 1) by decide +kernel) hlocks
def zwX2 (cA : Nat → ClassId) (h0 : Nat) (u : Nat → Nat) : va_W := [(h0, .inr (2, [.ref (u 0), .ref (u 1), .ref (u 2), .ref (u 3), .int 0, .int 0, .int 0, .int 0, .int 0, .int 0, .int 0, .int 0, .int 0, .int 0])), (u 0, .inl (cA 0, 8, .inl (fun _ => 0))), (u 1, .inl (cA 0, 92, .inl (fun _ => 0))), (u 2, .inl (cA 0, 92, .inl (fun _ => 0))), (u 3, .inl (cA 0, 92, .inl (fun _ => 0)))]
def zrmX2 : Room := { frames := 1, cells := 4, slots := 284, locals := 60 }
set_option maxHeartbeats 4000000 in
set_option maxRecDepth 100000 in
theorem znc_X2_0 {p : Program} {l : Launch} {e : Env} {R : Room} {s : State} {m : MethodId} {args : Array Value} {below : List Frame} {meth : Method} {c : Code} {H : Heap} {locs : List Loc} {Q : State → Prop} {ls : Array Slot} {A : Nat → Prop} {D : va_G} {cA : Nat → ClassId} {h0 : Nat} (C0 : zNC p s m args meth c R A D cA RX2 prog_4_method_1_code 1 1 60 4 284) (hP : va_P D vwCl ((h0, .inr (2, [.null, .null, .null, .null, .int 0, .int 0, .int 0, .int 0, .int 0, .int 0, .int 0, .int 0, .int 0, .int 0])) :: ([])) H) (hD : va_D A ((h0, .inr (2, [.null, .null, .null, .null, .int 0, .int 0, .int 0, .int 0, .int 0, .int 0, .int 0, .int 0, .int 0, .int 0])) :: ([]))) (hS : va_S A s.heap H locs) (hl : lv_has ls 1 [(0, .ref h0)])
    (kk : ∀ (q7 : Nat) (q15 : Nat) (q23 : Nat) (q31 : Nat) (H : Heap) (locs : List Loc) (ls : Array Slot), va_P D vwCl ((h0, .inr (2, [.ref q7, .ref q15, .ref q23, .ref q31, .int 0, .int 0, .int 0, .int 0, .int 0, .int 0, .int 0, .int 0, .int 0, .int 0])) :: ([] ++ [(q7, .inl (cA 0, 8, .inl (fun _ => 0)))] ++ [(q15, .inl (cA 0, 92, .inl (fun _ => 0)))] ++ [(q23, .inl (cA 0, 92, .inl (fun _ => 0)))] ++ [(q31, .inl (cA 0, 92, .inl (fun _ => 0)))])) H → va_D A ((h0, .inr (2, [.ref q7, .ref q15, .ref q23, .ref q31, .int 0, .int 0, .int 0, .int 0, .int 0, .int 0, .int 0, .int 0, .int 0, .int 0])) :: ([] ++ [(q7, .inl (cA 0, 8, .inl (fun _ => 0)))] ++ [(q15, .inl (cA 0, 92, .inl (fun _ => 0)))] ++ [(q23, .inl (cA 0, 92, .inl (fun _ => 0)))] ++ [(q31, .inl (cA 0, 92, .inl (fun _ => 0)))])) → va_S A s.heap H locs → lv_has ls 1 [(0, .ref h0)] → W p l e R s m args below meth c H locs 4 284 Q (F0 m 36 ls [])) : W p l e R s m args below meth c H locs 0 0 Q (F0 m 0 ls []) := by
  obtain ⟨hx, hb, hml, hown, hts, hnw, hK, hA, hin, hR1, hR2, hR3, hR4⟩ := C0
  refine lv_aload_n hx hb (show decode prog_4_method_1_code 0 = .ok (.aload_n 0, 1) by decide +kernel) rfl (lv_at hl 0 rfl) ?_
  refine W.objInit hx hb hown (hts _ (zGW_in (pl := 264) (by decide +kernel) rfl)) (hts _ (zGW_in (pl := 107) (by decide +kernel) rfl)) (hts _ (zGW_in (pl := 108) (by rfl) rfl)) rfl (by rw [hml]; exact hl.1) rfl (show decode prog_4_method_1_code 1 = .ok (.invokespecial 3, 3) by decide +kernel) (Nat.le_trans (Nat.le_of_ble_eq_true rfl) hR1) (Nat.le_trans (Nat.le_of_ble_eq_true rfl) hR2) ?_
  refine W.eq (g2 := F0 m 4 ls []) rfl ?_
  refine lv_aload_n hx hb (show decode prog_4_method_1_code 4 = .ok (.aload_n 0, 1) by decide +kernel) rfl (lv_at hl 0 rfl) ?_
  refine lv_bipush (v := 8) hx hb (show decode prog_4_method_1_code 5 = .ok (.bipush 8, 2) by decide +kernel) (by decide) ?_
  refine zn_fld (own := RX2) (ci := 2) (j := 0) (pl := 265) (atype := .int) (ty := .int) (a0 := (8, .inl (fun _ => 0))) (n := 8) (N' := 8) (t := 0) hx hb hts hown hin hK hP hD hS hA (zGW_in (pl := 177) (by decide +kernel) rfl) rfl rfl (fun _ => Iff.rfl) (fun _ => rfl) (by decide) (by decide) (by decide) (Nat.le_trans (Nat.le_of_ble_eq_true rfl) hR3) (Nat.le_trans (Nat.le_of_ble_eq_true rfl) hR4) (Nat.le_of_ble_eq_true rfl) (by decide +kernel) (show decode prog_4_method_1_code 7 = .ok (.newarray .int, 2) by decide +kernel) (show decode prog_4_method_1_code 9 = .ok (.putfield 9, 3) by decide +kernel) (fun q7 H locs hP hD hS => ?_)
  refine lv_aload_n hx hb (show decode prog_4_method_1_code 12 = .ok (.aload_n 0, 1) by decide +kernel) rfl (lv_at hl 0 rfl) ?_
  refine lv_bipush (v := 92) hx hb (show decode prog_4_method_1_code 13 = .ok (.bipush 92, 2) by decide +kernel) (by decide) ?_
  refine zn_fld (own := RX2) (ci := 2) (j := 1) (pl := 268) (atype := .int) (ty := .int) (a0 := (92, .inl (fun _ => 0))) (n := 92) (N' := 92) (t := 0) hx hb hts hown hin hK hP hD hS hA (zGW_in (pl := 177) (by decide +kernel) rfl) rfl rfl (fun _ => Iff.rfl) (fun _ => rfl) (by decide) (by decide) (by decide) (Nat.le_trans (Nat.le_of_ble_eq_true rfl) hR3) (Nat.le_trans (Nat.le_of_ble_eq_true rfl) hR4) (Nat.le_of_ble_eq_true rfl) (by decide +kernel) (show decode prog_4_method_1_code 15 = .ok (.newarray .int, 2) by decide +kernel) (show decode prog_4_method_1_code 17 = .ok (.putfield 15, 3) by decide +kernel) (fun q15 H locs hP hD hS => ?_)
  refine lv_aload_n hx hb (show decode prog_4_method_1_code 20 = .ok (.aload_n 0, 1) by decide +kernel) rfl (lv_at hl 0 rfl) ?_
  refine lv_bipush (v := 92) hx hb (show decode prog_4_method_1_code 21 = .ok (.bipush 92, 2) by decide +kernel) (by decide) ?_
  refine zn_fld (own := RX2) (ci := 2) (j := 2) (pl := 270) (atype := .int) (ty := .int) (a0 := (92, .inl (fun _ => 0))) (n := 92) (N' := 92) (t := 0) hx hb hts hown hin hK hP hD hS hA (zGW_in (pl := 177) (by decide +kernel) rfl) rfl rfl (fun _ => Iff.rfl) (fun _ => rfl) (by decide) (by decide) (by decide) (Nat.le_trans (Nat.le_of_ble_eq_true rfl) hR3) (Nat.le_trans (Nat.le_of_ble_eq_true rfl) hR4) (Nat.le_of_ble_eq_true rfl) (by decide +kernel) (show decode prog_4_method_1_code 23 = .ok (.newarray .int, 2) by decide +kernel) (show decode prog_4_method_1_code 25 = .ok (.putfield 18, 3) by decide +kernel) (fun q23 H locs hP hD hS => ?_)
  refine lv_aload_n hx hb (show decode prog_4_method_1_code 28 = .ok (.aload_n 0, 1) by decide +kernel) rfl (lv_at hl 0 rfl) ?_
  refine lv_bipush (v := 92) hx hb (show decode prog_4_method_1_code 29 = .ok (.bipush 92, 2) by decide +kernel) (by decide) ?_
  refine zn_fld (own := RX2) (ci := 2) (j := 3) (pl := 272) (atype := .int) (ty := .int) (a0 := (92, .inl (fun _ => 0))) (n := 92) (N' := 92) (t := 0) hx hb hts hown hin hK hP hD hS hA (zGW_in (pl := 177) (by decide +kernel) rfl) rfl rfl (fun _ => Iff.rfl) (fun _ => rfl) (by decide) (by decide) (by decide) (Nat.le_trans (Nat.le_of_ble_eq_true rfl) hR3) (Nat.le_trans (Nat.le_of_ble_eq_true rfl) hR4) (Nat.le_of_ble_eq_true rfl) (by decide +kernel) (show decode prog_4_method_1_code 31 = .ok (.newarray .int, 2) by decide +kernel) (show decode prog_4_method_1_code 33 = .ok (.putfield 21, 3) by decide +kernel) (fun q31 H locs hP hD hS => ?_)
  exact kk _ _ _ _ _ _ _ hP hD hS hl
set_option maxHeartbeats 4000000 in
set_option maxRecDepth 100000 in
theorem zn_X2 (D : va_G) (cA : Nat → ClassId) : zCc 2 [.null, .null, .null, .null, .int 0, .int 0, .int 0, .int 0, .int 0, .int 0, .int 0, .int 0, .int 0, .int 0] (zwX2 cA) ⟨"CommaCopies$Joins", "<init>", "()V"⟩ prog_4_method_1_code 1 zrmX2 D cA := by
  intro l h0 sz
  refine Met.ofW (cc := prog_4_method_1_code) (maxL := 1) (ret := none) (by decide +kernel) rfl ?_
  intro p e s m args below meth c s₁ B hml hv
  obtain ⟨rfl, hsz, hnw, hP, hK⟩ := hv
  have hx := B.exec
  have hb := B.bytes
  have hr := B.returns
  have hts0 := atoms_spec (ws := .code ⟨"CommaCopies$Joins", "<init>", "()V"⟩ prog_4_method_1_code 1 none :: zGW) B.pre
  have hts : ∀ w ∈ zGW, w.before [Value.ref h0].toArray s = true := fun w h => hts0 w (List.mem_cons_of_mem _ h)
  have hown : s.vm.findClass RX2 = some m.cls := findClass_of_methodNamed B.named
  have hlocks := B.notSynchronized
  have hin : meth.name = "<init>" := (name_of_methodNamed B.named B.method).1
  subst hsz
  have hD := (zD1 (q := h0) (e := .inr (2, [.null, .null, .null, .null, .int 0, .int 0, .int 0, .int 0, .int 0, .int 0, .int 0, .int 0, .int 0, .int 0]))).self (sz := s.heap.size)
  generalize hAe : va_A [(h0, .inr (2, [.null, .null, .null, .null, .int 0, .int 0, .int 0, .int 0, .int 0, .int 0, .int 0, .int 0, .int 0, .int 0]))] s.heap.size = A at hD ⊢
  have hA : ∀ q : Nat, s.heap.size ≤ q → A q := fun q h => by rw [← hAe]; exact Or.inr h
  have hS : va_S A s.heap s.heap [] := va_S.rf
  have hl := lv_entry ([.ref h0]) (n := 1) (Nat.le_of_ble_eq_true rfl)
  rw [lg_entry_eq]
  generalize (lg_sl ([.ref h0]) ++ List.replicate (1 - (lg_sl ([.ref h0])).length) Slot.unset).toArray = ls at hl ⊢
  have hl : lv_has ls 1 [(0, .ref h0)] := hl
  have C0 : zNC p s m [Value.ref h0].toArray meth c zrmX2 A D cA RX2 prog_4_method_1_code 1 1 60 4 284 := ⟨hx, hb, hml, hown, hts, hnw, hK, hA, hin, Nat.le_refl _, Nat.le_refl _, Nat.le_refl _, Nat.le_refl _⟩
  refine znc_X2_0 C0 hP hD hS hl (fun q7 q15 q23 q31 H locs ls hP hD hS hl => ?_)
  exact W.vret hx hb hr (fun t ht hW => ⟨⟨fun i => ([(q7), (q15), (q23), (q31)] : List Nat).getD i 0, rfl, trivial, by rw [ht]; exact hP, hD⟩, hS.F ht⟩) hS.2.2 (show decode prog_4_method_1_code 36 = .ok (.return_, 1) by decide +kernel) hlocks
def zwX5 (cA : Nat → ClassId) (h0 : Nat) (u : Nat → Nat) : va_W := [(h0, .inr (5, [.ref (u 0)])), (u 0, .inl (cA 0, 847, .inl (fun _ => 0)))]
def zrmX5 : Room := { frames := 1, cells := 1, slots := 847, locals := 60 }
set_option maxHeartbeats 4000000 in
set_option maxRecDepth 100000 in
theorem znc_X5_0 {p : Program} {l : Launch} {e : Env} {R : Room} {s : State} {m : MethodId} {args : Array Value} {below : List Frame} {meth : Method} {c : Code} {H : Heap} {locs : List Loc} {Q : State → Prop} {ls : Array Slot} {A : Nat → Prop} {D : va_G} {cA : Nat → ClassId} {h0 : Nat} (C0 : zNC p s m args meth c R A D cA RX5 prog_7_method_1_code 1 1 60 1 847) (hP : va_P D vwCl ((h0, .inr (5, [.null])) :: ([])) H) (hD : va_D A ((h0, .inr (5, [.null])) :: ([]))) (hS : va_S A s.heap H locs) (hl : lv_has ls 1 [(0, .ref h0)])
    (kk : ∀ (q8 : Nat) (H : Heap) (locs : List Loc) (ls : Array Slot), va_P D vwCl ((h0, .inr (5, [.ref q8])) :: ([] ++ [(q8, .inl (cA 0, 847, .inl (fun _ => 0)))])) H → va_D A ((h0, .inr (5, [.ref q8])) :: ([] ++ [(q8, .inl (cA 0, 847, .inl (fun _ => 0)))])) → va_S A s.heap H locs → lv_has ls 1 [(0, .ref h0)] → W p l e R s m args below meth c H locs 1 847 Q (F0 m 13 ls [])) : W p l e R s m args below meth c H locs 0 0 Q (F0 m 0 ls []) := by
  obtain ⟨hx, hb, hml, hown, hts, hnw, hK, hA, hin, hR1, hR2, hR3, hR4⟩ := C0
  refine lv_aload_n hx hb (show decode prog_7_method_1_code 0 = .ok (.aload_n 0, 1) by decide +kernel) rfl (lv_at hl 0 rfl) ?_
  refine W.objInit hx hb hown (hts _ (zGW_in (pl := 356) (by decide +kernel) rfl)) (hts _ (zGW_in (pl := 107) (by decide +kernel) rfl)) (hts _ (zGW_in (pl := 108) (by rfl) rfl)) rfl (by rw [hml]; exact hl.1) rfl (show decode prog_7_method_1_code 1 = .ok (.invokespecial 3, 3) by decide +kernel) (Nat.le_trans (Nat.le_of_ble_eq_true rfl) hR1) (Nat.le_trans (Nat.le_of_ble_eq_true rfl) hR2) ?_
  refine W.eq (g2 := F0 m 4 ls []) rfl ?_
  refine lv_aload_n hx hb (show decode prog_7_method_1_code 4 = .ok (.aload_n 0, 1) by decide +kernel) rfl (lv_at hl 0 rfl) ?_
  refine lv_sipush (v := 847) hx hb (show decode prog_7_method_1_code 5 = .ok (.sipush 847, 3) by decide +kernel) (by decide) ?_
  refine zn_fld (own := RX5) (ci := 5) (j := 0) (pl := 357) (atype := .int) (ty := .int) (a0 := (847, .inl (fun _ => 0))) (n := 847) (N' := 847) (t := 0) hx hb hts hown hin hK hP hD hS hA (zGW_in (pl := 177) (by decide +kernel) rfl) rfl rfl (fun _ => Iff.rfl) (fun _ => rfl) (by decide) (by decide) (by decide) (Nat.le_trans (Nat.le_of_ble_eq_true rfl) hR3) (Nat.le_trans (Nat.le_of_ble_eq_true rfl) hR4) (Nat.le_of_ble_eq_true rfl) (by decide +kernel) (show decode prog_7_method_1_code 8 = .ok (.newarray .int, 2) by decide +kernel) (show decode prog_7_method_1_code 10 = .ok (.putfield 11, 3) by decide +kernel) (fun q8 H locs hP hD hS => ?_)
  exact kk _ _ _ _ hP hD hS hl
set_option maxHeartbeats 4000000 in
set_option maxRecDepth 100000 in
theorem zn_X5 (D : va_G) (cA : Nat → ClassId) : zCc 5 [.null] (zwX5 cA) ⟨"CommaCopies$Matcher", "<init>", "()V"⟩ prog_7_method_1_code 1 zrmX5 D cA := by
  intro l h0 sz
  refine Met.ofW (cc := prog_7_method_1_code) (maxL := 1) (ret := none) (by decide +kernel) rfl ?_
  intro p e s m args below meth c s₁ B hml hv
  obtain ⟨rfl, hsz, hnw, hP, hK⟩ := hv
  have hx := B.exec
  have hb := B.bytes
  have hr := B.returns
  have hts0 := atoms_spec (ws := .code ⟨"CommaCopies$Matcher", "<init>", "()V"⟩ prog_7_method_1_code 1 none :: zGW) B.pre
  have hts : ∀ w ∈ zGW, w.before [Value.ref h0].toArray s = true := fun w h => hts0 w (List.mem_cons_of_mem _ h)
  have hown : s.vm.findClass RX5 = some m.cls := findClass_of_methodNamed B.named
  have hlocks := B.notSynchronized
  have hin : meth.name = "<init>" := (name_of_methodNamed B.named B.method).1
  subst hsz
  have hD := (zD1 (q := h0) (e := .inr (5, [.null]))).self (sz := s.heap.size)
  generalize hAe : va_A [(h0, .inr (5, [.null]))] s.heap.size = A at hD ⊢
  have hA : ∀ q : Nat, s.heap.size ≤ q → A q := fun q h => by rw [← hAe]; exact Or.inr h
  have hS : va_S A s.heap s.heap [] := va_S.rf
  have hl := lv_entry ([.ref h0]) (n := 1) (Nat.le_of_ble_eq_true rfl)
  rw [lg_entry_eq]
  generalize (lg_sl ([.ref h0]) ++ List.replicate (1 - (lg_sl ([.ref h0])).length) Slot.unset).toArray = ls at hl ⊢
  have hl : lv_has ls 1 [(0, .ref h0)] := hl
  have C0 : zNC p s m [Value.ref h0].toArray meth c zrmX5 A D cA RX5 prog_7_method_1_code 1 1 60 1 847 := ⟨hx, hb, hml, hown, hts, hnw, hK, hA, hin, Nat.le_refl _, Nat.le_refl _, Nat.le_refl _, Nat.le_refl _⟩
  refine znc_X5_0 C0 hP hD hS hl (fun q8 H locs ls hP hD hS hl => ?_)
  exact W.vret hx hb hr (fun t ht hW => ⟨⟨fun i => ([(q8)] : List Nat).getD i 0, rfl, trivial, by rw [ht]; exact hP, hD⟩, hS.F ht⟩) hS.2.2 (show decode prog_7_method_1_code 13 = .ok (.return_, 1) by decide +kernel) hlocks
def zwX0 (cA : Nat → ClassId) (h0 : Nat) (u : Nat → Nat) : va_W := [(h0, .inr (0, [.ref (u 0)])), (u 0, .inl (cA 0, 7, .inl (fun _ => 0)))]
def zrmX0 : Room := { frames := 1, cells := 1, slots := 7, locals := 60 }
set_option maxHeartbeats 4000000 in
set_option maxRecDepth 100000 in
theorem znc_X0_0 {p : Program} {l : Launch} {e : Env} {R : Room} {s : State} {m : MethodId} {args : Array Value} {below : List Frame} {meth : Method} {c : Code} {H : Heap} {locs : List Loc} {Q : State → Prop} {ls : Array Slot} {A : Nat → Prop} {D : va_G} {cA : Nat → ClassId} {h0 : Nat} (C0 : zNC p s m args meth c R A D cA RX0 prog_2_method_1_code 1 1 60 1 7) (hP : va_P D vwCl ((h0, .inr (0, [.null])) :: ([])) H) (hD : va_D A ((h0, .inr (0, [.null])) :: ([]))) (hS : va_S A s.heap H locs) (hl : lv_has ls 1 [(0, .ref h0)])
    (kk : ∀ (q7 : Nat) (H : Heap) (locs : List Loc) (ls : Array Slot), va_P D vwCl ((h0, .inr (0, [.ref q7])) :: ([] ++ [(q7, .inl (cA 0, 7, .inl (fun _ => 0)))])) H → va_D A ((h0, .inr (0, [.ref q7])) :: ([] ++ [(q7, .inl (cA 0, 7, .inl (fun _ => 0)))])) → va_S A s.heap H locs → lv_has ls 1 [(0, .ref h0)] → W p l e R s m args below meth c H locs 1 7 Q (F0 m 12 ls [])) : W p l e R s m args below meth c H locs 0 0 Q (F0 m 0 ls []) := by
  obtain ⟨hx, hb, hml, hown, hts, hnw, hK, hA, hin, hR1, hR2, hR3, hR4⟩ := C0
  refine lv_aload_n hx hb (show decode prog_2_method_1_code 0 = .ok (.aload_n 0, 1) by decide +kernel) rfl (lv_at hl 0 rfl) ?_
  refine W.objInit hx hb hown (hts _ (zGW_in (pl := 366) (by decide +kernel) rfl)) (hts _ (zGW_in (pl := 107) (by decide +kernel) rfl)) (hts _ (zGW_in (pl := 108) (by rfl) rfl)) rfl (by rw [hml]; exact hl.1) rfl (show decode prog_2_method_1_code 1 = .ok (.invokespecial 3, 3) by decide +kernel) (Nat.le_trans (Nat.le_of_ble_eq_true rfl) hR1) (Nat.le_trans (Nat.le_of_ble_eq_true rfl) hR2) ?_
  refine W.eq (g2 := F0 m 4 ls []) rfl ?_
  refine lv_aload_n hx hb (show decode prog_2_method_1_code 4 = .ok (.aload_n 0, 1) by decide +kernel) rfl (lv_at hl 0 rfl) ?_
  refine lv_bipush (v := 7) hx hb (show decode prog_2_method_1_code 5 = .ok (.bipush 7, 2) by decide +kernel) (by decide) ?_
  refine zn_fld (own := RX0) (ci := 0) (j := 0) (pl := 367) (atype := .int) (ty := .int) (a0 := (7, .inl (fun _ => 0))) (n := 7) (N' := 7) (t := 0) hx hb hts hown hin hK hP hD hS hA (zGW_in (pl := 177) (by decide +kernel) rfl) rfl rfl (fun _ => Iff.rfl) (fun _ => rfl) (by decide) (by decide) (by decide) (Nat.le_trans (Nat.le_of_ble_eq_true rfl) hR3) (Nat.le_trans (Nat.le_of_ble_eq_true rfl) hR4) (Nat.le_of_ble_eq_true rfl) (by decide +kernel) (show decode prog_2_method_1_code 7 = .ok (.newarray .int, 2) by decide +kernel) (show decode prog_2_method_1_code 9 = .ok (.putfield 9, 3) by decide +kernel) (fun q7 H locs hP hD hS => ?_)
  exact kk _ _ _ _ hP hD hS hl
set_option maxHeartbeats 4000000 in
set_option maxRecDepth 100000 in
theorem zn_X0 (D : va_G) (cA : Nat → ClassId) : zCc 0 [.null] (zwX0 cA) ⟨"CommaCopies$Chance", "<init>", "()V"⟩ prog_2_method_1_code 1 zrmX0 D cA := by
  intro l h0 sz
  refine Met.ofW (cc := prog_2_method_1_code) (maxL := 1) (ret := none) (by decide +kernel) rfl ?_
  intro p e s m args below meth c s₁ B hml hv
  obtain ⟨rfl, hsz, hnw, hP, hK⟩ := hv
  have hx := B.exec
  have hb := B.bytes
  have hr := B.returns
  have hts0 := atoms_spec (ws := .code ⟨"CommaCopies$Chance", "<init>", "()V"⟩ prog_2_method_1_code 1 none :: zGW) B.pre
  have hts : ∀ w ∈ zGW, w.before [Value.ref h0].toArray s = true := fun w h => hts0 w (List.mem_cons_of_mem _ h)
  have hown : s.vm.findClass RX0 = some m.cls := findClass_of_methodNamed B.named
  have hlocks := B.notSynchronized
  have hin : meth.name = "<init>" := (name_of_methodNamed B.named B.method).1
  subst hsz
  have hD := (zD1 (q := h0) (e := .inr (0, [.null]))).self (sz := s.heap.size)
  generalize hAe : va_A [(h0, .inr (0, [.null]))] s.heap.size = A at hD ⊢
  have hA : ∀ q : Nat, s.heap.size ≤ q → A q := fun q h => by rw [← hAe]; exact Or.inr h
  have hS : va_S A s.heap s.heap [] := va_S.rf
  have hl := lv_entry ([.ref h0]) (n := 1) (Nat.le_of_ble_eq_true rfl)
  rw [lg_entry_eq]
  generalize (lg_sl ([.ref h0]) ++ List.replicate (1 - (lg_sl ([.ref h0])).length) Slot.unset).toArray = ls at hl ⊢
  have hl : lv_has ls 1 [(0, .ref h0)] := hl
  have C0 : zNC p s m [Value.ref h0].toArray meth c zrmX0 A D cA RX0 prog_2_method_1_code 1 1 60 1 7 := ⟨hx, hb, hml, hown, hts, hnw, hK, hA, hin, Nat.le_refl _, Nat.le_refl _, Nat.le_refl _, Nat.le_refl _⟩
  refine znc_X0_0 C0 hP hD hS hl (fun q7 H locs ls hP hD hS hl => ?_)
  exact W.vret hx hb hr (fun t ht hW => ⟨⟨fun i => ([(q7)] : List Nat).getD i 0, rfl, trivial, by rw [ht]; exact hP, hD⟩, hS.F ht⟩) hS.2.2 (show decode prog_2_method_1_code 12 = .ok (.return_, 1) by decide +kernel) hlocks
def zwX1 (cA : Nat → ClassId) (h0 : Nat) (u : Nat → Nat) : va_W := [(h0, .inr (1, [.ref (u 0), .ref (u 1), .ref (u 2), .int 0])), (u 0, .inl (cA 0, 30, .inl (fun _ => 0))), (u 1, .inl (cA 0, 6, .inl (fun _ => 0))), (u 2, .inl (cA 0, 6, .inl (fun _ => 0)))]
def zrmX1 : Room := { frames := 1, cells := 3, slots := 42, locals := 60 }
set_option maxHeartbeats 4000000 in
set_option maxRecDepth 100000 in
theorem znc_X1_0 {p : Program} {l : Launch} {e : Env} {R : Room} {s : State} {m : MethodId} {args : Array Value} {below : List Frame} {meth : Method} {c : Code} {H : Heap} {locs : List Loc} {Q : State → Prop} {ls : Array Slot} {A : Nat → Prop} {D : va_G} {cA : Nat → ClassId} {h0 : Nat} (C0 : zNC p s m args meth c R A D cA RX1 prog_3_method_1_code 1 1 60 3 42) (hP : va_P D vwCl ((h0, .inr (1, [.null, .null, .null, .int 0])) :: ([])) H) (hD : va_D A ((h0, .inr (1, [.null, .null, .null, .int 0])) :: ([]))) (hS : va_S A s.heap H locs) (hl : lv_has ls 1 [(0, .ref h0)])
    (kk : ∀ (q7 : Nat) (q15 : Nat) (q23 : Nat) (H : Heap) (locs : List Loc) (ls : Array Slot), va_P D vwCl ((h0, .inr (1, [.ref q7, .ref q15, .ref q23, .int 0])) :: ([] ++ [(q7, .inl (cA 0, 30, .inl (fun _ => 0)))] ++ [(q15, .inl (cA 0, 6, .inl (fun _ => 0)))] ++ [(q23, .inl (cA 0, 6, .inl (fun _ => 0)))])) H → va_D A ((h0, .inr (1, [.ref q7, .ref q15, .ref q23, .int 0])) :: ([] ++ [(q7, .inl (cA 0, 30, .inl (fun _ => 0)))] ++ [(q15, .inl (cA 0, 6, .inl (fun _ => 0)))] ++ [(q23, .inl (cA 0, 6, .inl (fun _ => 0)))])) → va_S A s.heap H locs → lv_has ls 1 [(0, .ref h0)] → W p l e R s m args below meth c H locs 3 42 Q (F0 m 28 ls [])) : W p l e R s m args below meth c H locs 0 0 Q (F0 m 0 ls []) := by
  obtain ⟨hx, hb, hml, hown, hts, hnw, hK, hA, hin, hR1, hR2, hR3, hR4⟩ := C0
  refine lv_aload_n hx hb (show decode prog_3_method_1_code 0 = .ok (.aload_n 0, 1) by decide +kernel) rfl (lv_at hl 0 rfl) ?_
  refine W.objInit hx hb hown (hts _ (zGW_in (pl := 376) (by decide +kernel) rfl)) (hts _ (zGW_in (pl := 107) (by decide +kernel) rfl)) (hts _ (zGW_in (pl := 108) (by rfl) rfl)) rfl (by rw [hml]; exact hl.1) rfl (show decode prog_3_method_1_code 1 = .ok (.invokespecial 3, 3) by decide +kernel) (Nat.le_trans (Nat.le_of_ble_eq_true rfl) hR1) (Nat.le_trans (Nat.le_of_ble_eq_true rfl) hR2) ?_
  refine W.eq (g2 := F0 m 4 ls []) rfl ?_
  refine lv_aload_n hx hb (show decode prog_3_method_1_code 4 = .ok (.aload_n 0, 1) by decide +kernel) rfl (lv_at hl 0 rfl) ?_
  refine lv_bipush (v := 30) hx hb (show decode prog_3_method_1_code 5 = .ok (.bipush 30, 2) by decide +kernel) (by decide) ?_
  refine zn_fld (own := RX1) (ci := 1) (j := 0) (pl := 377) (atype := .int) (ty := .int) (a0 := (30, .inl (fun _ => 0))) (n := 30) (N' := 30) (t := 0) hx hb hts hown hin hK hP hD hS hA (zGW_in (pl := 177) (by decide +kernel) rfl) rfl rfl (fun _ => Iff.rfl) (fun _ => rfl) (by decide) (by decide) (by decide) (Nat.le_trans (Nat.le_of_ble_eq_true rfl) hR3) (Nat.le_trans (Nat.le_of_ble_eq_true rfl) hR4) (Nat.le_of_ble_eq_true rfl) (by decide +kernel) (show decode prog_3_method_1_code 7 = .ok (.newarray .int, 2) by decide +kernel) (show decode prog_3_method_1_code 9 = .ok (.putfield 9, 3) by decide +kernel) (fun q7 H locs hP hD hS => ?_)
  refine lv_aload_n hx hb (show decode prog_3_method_1_code 12 = .ok (.aload_n 0, 1) by decide +kernel) rfl (lv_at hl 0 rfl) ?_
  refine lv_bipush (v := 6) hx hb (show decode prog_3_method_1_code 13 = .ok (.bipush 6, 2) by decide +kernel) (by decide) ?_
  refine zn_fld (own := RX1) (ci := 1) (j := 1) (pl := 378) (atype := .int) (ty := .int) (a0 := (6, .inl (fun _ => 0))) (n := 6) (N' := 6) (t := 0) hx hb hts hown hin hK hP hD hS hA (zGW_in (pl := 177) (by decide +kernel) rfl) rfl rfl (fun _ => Iff.rfl) (fun _ => rfl) (by decide) (by decide) (by decide) (Nat.le_trans (Nat.le_of_ble_eq_true rfl) hR3) (Nat.le_trans (Nat.le_of_ble_eq_true rfl) hR4) (Nat.le_of_ble_eq_true rfl) (by decide +kernel) (show decode prog_3_method_1_code 15 = .ok (.newarray .int, 2) by decide +kernel) (show decode prog_3_method_1_code 17 = .ok (.putfield 15, 3) by decide +kernel) (fun q15 H locs hP hD hS => ?_)
  refine lv_aload_n hx hb (show decode prog_3_method_1_code 20 = .ok (.aload_n 0, 1) by decide +kernel) rfl (lv_at hl 0 rfl) ?_
  refine lv_bipush (v := 6) hx hb (show decode prog_3_method_1_code 21 = .ok (.bipush 6, 2) by decide +kernel) (by decide) ?_
  refine zn_fld (own := RX1) (ci := 1) (j := 2) (pl := 379) (atype := .int) (ty := .int) (a0 := (6, .inl (fun _ => 0))) (n := 6) (N' := 6) (t := 0) hx hb hts hown hin hK hP hD hS hA (zGW_in (pl := 177) (by decide +kernel) rfl) rfl rfl (fun _ => Iff.rfl) (fun _ => rfl) (by decide) (by decide) (by decide) (Nat.le_trans (Nat.le_of_ble_eq_true rfl) hR3) (Nat.le_trans (Nat.le_of_ble_eq_true rfl) hR4) (Nat.le_of_ble_eq_true rfl) (by decide +kernel) (show decode prog_3_method_1_code 23 = .ok (.newarray .int, 2) by decide +kernel) (show decode prog_3_method_1_code 25 = .ok (.putfield 18, 3) by decide +kernel) (fun q23 H locs hP hD hS => ?_)
  exact kk _ _ _ _ _ _ hP hD hS hl
set_option maxHeartbeats 4000000 in
set_option maxRecDepth 100000 in
theorem zn_X1 (D : va_G) (cA : Nat → ClassId) : zCc 1 [.null, .null, .null, .int 0] (zwX1 cA) ⟨"CommaCopies$Hiding", "<init>", "()V"⟩ prog_3_method_1_code 1 zrmX1 D cA := by
  intro l h0 sz
  refine Met.ofW (cc := prog_3_method_1_code) (maxL := 1) (ret := none) (by decide +kernel) rfl ?_
  intro p e s m args below meth c s₁ B hml hv
  obtain ⟨rfl, hsz, hnw, hP, hK⟩ := hv
  have hx := B.exec
  have hb := B.bytes
  have hr := B.returns
  have hts0 := atoms_spec (ws := .code ⟨"CommaCopies$Hiding", "<init>", "()V"⟩ prog_3_method_1_code 1 none :: zGW) B.pre
  have hts : ∀ w ∈ zGW, w.before [Value.ref h0].toArray s = true := fun w h => hts0 w (List.mem_cons_of_mem _ h)
  have hown : s.vm.findClass RX1 = some m.cls := findClass_of_methodNamed B.named
  have hlocks := B.notSynchronized
  have hin : meth.name = "<init>" := (name_of_methodNamed B.named B.method).1
  subst hsz
  have hD := (zD1 (q := h0) (e := .inr (1, [.null, .null, .null, .int 0]))).self (sz := s.heap.size)
  generalize hAe : va_A [(h0, .inr (1, [.null, .null, .null, .int 0]))] s.heap.size = A at hD ⊢
  have hA : ∀ q : Nat, s.heap.size ≤ q → A q := fun q h => by rw [← hAe]; exact Or.inr h
  have hS : va_S A s.heap s.heap [] := va_S.rf
  have hl := lv_entry ([.ref h0]) (n := 1) (Nat.le_of_ble_eq_true rfl)
  rw [lg_entry_eq]
  generalize (lg_sl ([.ref h0]) ++ List.replicate (1 - (lg_sl ([.ref h0])).length) Slot.unset).toArray = ls at hl ⊢
  have hl : lv_has ls 1 [(0, .ref h0)] := hl
  have C0 : zNC p s m [Value.ref h0].toArray meth c zrmX1 A D cA RX1 prog_3_method_1_code 1 1 60 3 42 := ⟨hx, hb, hml, hown, hts, hnw, hK, hA, hin, Nat.le_refl _, Nat.le_refl _, Nat.le_refl _, Nat.le_refl _⟩
  refine znc_X1_0 C0 hP hD hS hl (fun q7 q15 q23 H locs ls hP hD hS hl => ?_)
  exact W.vret hx hb hr (fun t ht hW => ⟨⟨fun i => ([(q7), (q15), (q23)] : List Nat).getD i 0, rfl, trivial, by rw [ht]; exact hP, hD⟩, hS.F ht⟩) hS.2.2 (show decode prog_3_method_1_code 28 = .ok (.return_, 1) by decide +kernel) hlocks
