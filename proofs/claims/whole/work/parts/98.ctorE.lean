/-! the reference's constructor, whole -/
def zwX10v (cA : Nat → ClassId) (h0 : Nat) (u1 u2 : Nat → Nat) : va_W := [(h0, .inr (10, [.ref (u1 0), .int 0, .int 0, .ref (u1 1), .int 0, .ref (u1 2), .ref (u1 3), .ref (u1 4), .ref (u1 5), .ref (u1 6), .ref (u1 7), .ref (u1 8), .int 0, .ref (u1 9), .int 2, .int 0, .ref (u2 0), .int 0, .ref (u2 1), .ref (u2 2), .ref (u2 3), .int 0, .ref (u2 4), .ref (u2 5), .int 0, .int 0, .int 0, .ref (u2 6), .ref (u2 7), .ref (u2 8), .ref (u2 9), .int 0, .ref (u2 10), .ref (u2 11), .ref (u2 12), .ref (u2 13)])), (u1 0, .inl (cA 0, 120, .inl (fun _ => 0))), (u1 1, .inl (cA 0, 120, .inl (fun _ => 0))), (u1 2, .inl (cA 0, 6, .inl (fun _ => 0))), (u1 3, .inl (cA 0, 6, .inl (fun _ => 0))), (u1 4, .inl (cA 0, 6, .inl (fun _ => 0))), (u1 5, .inl (cA 0, 24, .inl (fun _ => 0))), (u1 6, .inl (cA 0, 24, .inl (fun _ => 0))), (u1 7, .inl (cA 0, 24, .inl (fun _ => 0))), (u1 8, .inl (cA 0, 6, .inl (fun _ => 0))), (u1 9, .inl (cA 0, 48, .inl (fun _ => 0))), (u2 0, .inl (cA 0, 6, .inl (fun _ => 0))), (u2 1, .inl (cA 0, 48, .inl (fun _ => 0))), (u2 2, .inl (cA 0, 240, .inl (fun _ => 0))), (u2 3, .inl (cA 0, 92, .inl (fun _ => 0))), (u2 4, .inl (cA 0, 6, .inl (fun _ => 0))), (u2 5, .inl (cA 0, 552, .inl (fun _ => 0))), (u2 6, .inl (cA 0, 8, .inl (fun _ => 0))), (u2 7, .inl (cA 0, 4, .inl (fun _ => 0))), (u2 8, .inl (cA 0, 6, .inl (fun _ => 0))), (u2 9, .inl (cA 0, 480, .inl (fun _ => 0))), (u2 10, .inl (cA 0, 4, .inl (fun _ => 0))), (u2 11, .inl (cA 0, 4, .inl (fun _ => 0))), (u2 12, .inl (cA 0, 48, .inl (fun _ => 0))), (u2 13, .inl (cA 0, 12, .inl (fun _ => 0)))]
set_option maxHeartbeats 1000000 in
set_option maxRecDepth 100000 in
theorem zx10_v {cA : Nat → ClassId} {h0 : Nat} {u1 u2 : Nat → Nat} : ((h0, .inr (10, zfS u2 0 zxL2 ((zfS u1 0 zxL1 zxF0).set 14 (.int 2)))) :: (([] ++ zfW cA u1 0 zxL1) ++ zfW cA u2 0 zxL2)) = zwX10v cA h0 u1 u2 := by
  unfold zwX10v
  simp only [zxL1, zxL2, zxF0, zfS, zfW, List.set_cons_succ, List.set_cons_zero, List.nil_append, List.cons_append, Nat.reduceAdd, Nat.zero_add]
set_option maxHeartbeats 1000000 in
set_option maxRecDepth 100000 in
theorem zx10_w {cA : Nat → ClassId} {h0 : Nat} {u1 u2 : Nat → Nat} : ((((zwX10v cA h0 u1 u2).set 21 (u2 10, .inl (cA 0, 4, .inl (zfil 4 (-1))))).set 11 (u2 0, .inl (cA 0, 6, .inl (zfil 6 5)))).set 9 (u1 8, .inl (cA 0, 6, .inl (zfil 6 (-1))))) = zwX10 cA h0 (fun i => if i < 10 then u1 i else u2 (i - 10)) := by
  unfold zwX10v zwX10
  simp only [List.set_cons_succ, List.set_cons_zero, Nat.reduceLT, Nat.reduceSub, reduceIte]
theorem zfil_0 {v : Int} : (fun _ => 0 : Nat → Int32) = zfil 0 v := by
  funext x
  rfl
set_option maxHeartbeats 1000000 in
set_option maxRecDepth 100000 in
theorem zn_X10 (D : va_G) (cA : Nat → ClassId) : zCc 10 zxF0 (zwX10 cA) ⟨"CommaCopiesModel", "<init>", "()V"⟩ prog_12_method_3_code 2 zrmX10 D cA := by
  intro l h0 sz
  refine Met.ofW (cc := prog_12_method_3_code) (maxL := 2) (ret := none) (by decide +kernel) rfl ?_
  intro p e s m args below meth c s₁ B hml hv
  obtain ⟨rfl, hsz, hnw, hP, hK⟩ := hv
  have hx := B.exec
  have hb := B.bytes
  have hr := B.returns
  have hts0 := atoms_spec (ws := .code ⟨"CommaCopiesModel", "<init>", "()V"⟩ prog_12_method_3_code 2 none :: zGW) B.pre
  have hts : ∀ w ∈ zGW, w.before [Value.ref h0].toArray s = true := fun w h => hts0 w (List.mem_cons_of_mem _ h)
  have hown : s.vm.findClass RX10 = some m.cls := findClass_of_methodNamed B.named
  have hlocks := B.notSynchronized
  have hin : meth.name = "<init>" := (name_of_methodNamed B.named B.method).1
  subst hsz
  have hD := (zD1 (q := h0) (e := .inr (10, zxF0))).self (sz := s.heap.size)
  generalize hAe : va_A [(h0, .inr (10, zxF0))] s.heap.size = A at hD ⊢
  have hA : ∀ q : Nat, s.heap.size ≤ q → A q := fun q h => by rw [← hAe]; exact Or.inr h
  have hS : va_S A s.heap s.heap [] := va_S.rf
  have hl := lv_entry ([.ref h0]) (n := 2) (Nat.le_of_ble_eq_true rfl)
  rw [lg_entry_eq]
  generalize (lg_sl ([.ref h0]) ++ List.replicate (2 - (lg_sl ([.ref h0])).length) Slot.unset).toArray = ls at hl ⊢
  have hl : lv_has ls 2 [(0, .ref h0)] := hl
  have C0 : zNC p s m [Value.ref h0].toArray meth c zrmX10 A D cA RX10 prog_12_method_3_code 2 1 60 24 1894 := ⟨hx, hb, hml, hown, hts, hnw, hK, hA, hin, Nat.le_refl _, Nat.le_refl _, Nat.le_refl _, Nat.le_refl _⟩
  refine lv_aload_n hx hb (show decode prog_12_method_3_code 0 = .ok (.aload_n 0, 1) by decide +kernel) rfl (lv_at hl 0 rfl) ?_
  refine W.objInit hx hb hown (hts _ (zGW_in (pl := 899) (by decide +kernel) rfl)) (hts _ (zGW_in (pl := 107) (by decide +kernel) rfl)) (hts _ (zGW_in (pl := 108) (by rfl) rfl)) rfl (by rw [hml]; exact hl.1) rfl (show decode prog_12_method_3_code 1 = .ok (.invokespecial 1, 3) by decide +kernel) (Nat.le_of_ble_eq_true rfl) (Nat.le_of_ble_eq_true rfl) ?_
  refine W.eq (g2 := F0 m 4 ls []) rfl ?_
  refine zn_flds (own := RX10) (ci := 10) (n0 := 36) hx hb hts hown hin hK hA hl zxL1 0 4 zxF0 [] _ _ 0 0 84 zxL1_ok rfl rfl (Nat.le_of_ble_eq_true rfl) (Nat.le_of_ble_eq_true rfl) hP hD hS (fun u1 H locs hP hD hS => ?_)
  refine W.eq (g2 := F0 m 84 ls []) rfl ?_
  refine lv_aload_n hx hb (show decode prog_12_method_3_code 84 = .ok (.aload_n 0, 1) by decide +kernel) rfl (lv_at hl 0 rfl) ?_
  refine lv_iconst (v := 2) hx hb (show decode prog_12_method_3_code 85 = .ok (.iconst 2, 1) by decide +kernel) (by decide) ?_
  refine zn_put (own := RX10) (ci := 10) (j := 14) (pl := 914) (vk := 0) (fin := false) (v := .int 2) hx hb hts hown hin hK hP hD hS (by rw [zfS_len]; exact Nat.le_of_ble_eq_true rfl) (⟨_, rfl⟩) (by decide +kernel) (show decode prog_12_method_3_code 86 = .ok (.putfield 40, 3) by decide +kernel) (fun H locs hP hD hS => ?_)
  refine zn_flds (own := RX10) (ci := 10) (n0 := 36) hx hb hts hown hin hK hA hl zxL2 0 89 _ _ _ _ (0 + zxL1.length) (0 + zfeN zxL1) 201 zxL2_ok rfl (by rw [List.length_set, zfS_len]; rfl) (Nat.le_of_ble_eq_true rfl) (Nat.le_of_ble_eq_true rfl) hP hD hS (fun u2 H locs hP hD hS => ?_)
  rw [zx10_v] at hP hD
  refine lv_iconst (v := nI 0) hx hb (show decode prog_12_method_3_code 201 = .ok (.iconst 0, 1) by decide +kernel) (by decide) ?_
  refine lv_istore_n (lv' := [(1, .int (nI 0)), (0, .ref h0)]) hx hb (show decode prog_12_method_3_code 202 = .ok (.istore_n 1, 1) by decide +kernel) rfl hl (by decide) rfl (fun ls hl => ?_)
  have hl := lv_sub hl (l' := [(0, .ref h0), (1, .int (nI 0))]) [1, 0] rfl
  refine zx10_a (q := u2 10) (q2 := 0) C0 4 0 _ H locs ls rfl rfl rfl (by rw [← zfil_0]; rfl) hP hD hS hl (fun H locs ls hP hD hS hl => ?_)
  refine lv_iconst (v := nI 0) hx hb (show decode prog_12_method_3_code 221 = .ok (.iconst 0, 1) by decide +kernel) (by decide) ?_
  refine lv_istore_n (lv' := [(1, .int (nI 0)), (0, .ref h0)]) hx hb (show decode prog_12_method_3_code 222 = .ok (.istore_n 1, 1) by decide +kernel) rfl hl (by decide) rfl (fun ls hl => ?_)
  have hl := lv_sub hl (l' := [(0, .ref h0), (1, .int (nI 0))]) [1, 0] rfl
  refine zx10_b (q := u2 0) (q2 := u1 8) C0 6 0 _ H locs ls rfl (zset_get rfl (by decide)) rfl (zset_get (by rw [← zfil_0]; rfl) (by decide)) rfl (zset_get (by rw [← zfil_0]; rfl) (by decide)) hP hD hS hl (fun H locs ls hP hD hS hl => ?_)
  rw [zx10_w] at hP hD
  exact W.vret hx hb hr (fun t ht hW => ⟨⟨fun i => if i < 10 then u1 i else u2 (i - 10), rfl, trivial, by rw [ht]; exact hP, hD⟩, hS.F ht⟩) hS.2.2 (show decode prog_12_method_3_code 249 = .ok (.return_, 1) by decide +kernel) hlocks
