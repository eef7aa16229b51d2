section zLoop2
variable {p : Program} {l : Launch} {e : Env} {s : State} {m : MethodId} {below : List Frame} {meth : Method} {c : Code} {cells slots : Nat} {QQ : State → Prop} {D : va_G} {cA : Nat → ClassId} {ad : Nat → Nat} {b L : Nat} {xs : Nat → Int32}
theorem zl_body (C0 : zlCx p s m meth c b L xs cells slots D cA ad) {i : Nat} (hi : i + 6 ≤ L) (kk : zlK zInv p l e s m b below meth c cells slots QQ D cA ad i 1240) : zlK zInv p l e s m b below meth c cells slots QQ D cA ad i 27 := by
  intro M H locs ls hI hM hP hS hl
  have C1 := C0
  obtain ⟨⟨hx, hb, hml, hown⟩, hts, hnw, hX, hbl, hL, hinj, hK, hA, hcs⟩ := C1
  have hbA : ¬ (fun q : Nat => s.heap.size ≤ q) b := Nat.not_le.mpr hbl
  refine lv_aload_n hx hb (zLd (x := (.aload_n 0, 1, 0, 0, 0, 0)) rfl) rfl (lv_at hl 0 rfl) ?_
  refine lv_iload_n hx hb (zLd (x := (.iload_n 3, 1, 0, 0, 0, 0)) rfl) rfl (lv_at hl 3 rfl) ?_
  refine va_sld hx hb hX hbl hbA hS (vp_in_nI (by omega) (by omega)) (zLd (x := (.iaload, 1, 0, 0, 0, 0)) rfl) ?_
  rw [nI_clamp (by omega)]
  refine lv_bipush (v := 63) hx hb (zLd (x := (.bipush 63, 2, 0, 0, 0, 0)) rfl) (by decide) ?_
  refine lv_iand hx hb (zLd (x := (.iand, 1, 0, 0, 0, 0)) rfl) ?_
  obtain ⟨k, hk, e1⟩ := pk_andE (xs i) (m := 63) 6 (by decide)
  rw [e1]
  by_cases h36 : k < 36
  · have hc : k = 0 ∨ k = 1 ∨ k = 2 ∨ k = 3 ∨ k = 4 ∨ k = 5 ∨ k = 6 ∨ k = 7 ∨ k = 8 ∨ k = 9 ∨ k = 10 ∨ k = 11 ∨ k = 12 ∨ k = 13 ∨ k = 14 ∨ k = 15 ∨ k = 16 ∨ k = 17 ∨ k = 18 ∨ k = 19 ∨ k = 20 ∨ k = 21 ∨ k = 22 ∨ k = 23 ∨ k = 24 ∨ k = 25 ∨ k = 26 ∨ k = 27 ∨ k = 28 ∨ k = 29 ∨ k = 30 ∨ k = 31 ∨ k = 32 ∨ k = 33 ∨ k = 34 ∨ k = 35 := by omega
    rcases hc with rfl | rfl | rfl | rfl | rfl | rfl | rfl | rfl | rfl | rfl | rfl | rfl | rfl | rfl | rfl | rfl | rfl | rfl | rfl | rfl | rfl | rfl | rfl | rfl | rfl | rfl | rfl | rfl | rfl | rfl | rfl | rfl | rfl | rfl | rfl | rfl
    · exact zl_sw (tgt := 192) (off := 159) hx hb (by decide) rfl (by decide) (zl_type C0 (fun w k => zt71) hI hM hP hS hl hi kk)
    · exact zl_sw (tgt := 255) (off := 222) hx hb (by decide) rfl (by decide) (zlcs1 C0 hI hM hP hS hl hi kk)
    · exact zl_sw (tgt := 268) (off := 235) hx hb (by decide) rfl (by decide) (zlcs2 C0 hI hM hP hS hl hi kk)
    · exact zl_sw (tgt := 291) (off := 258) hx hb (by decide) rfl (by decide) (zlcs3 C0 hI hM hP hS hl hi kk)
    · exact zl_sw (tgt := 334) (off := 301) hx hb (by decide) rfl (by decide) (zlcs4 C0 hI hM hP hS hl hi kk)
    · exact zl_sw (tgt := 367) (off := 334) hx hb (by decide) rfl (by decide) (zlcs5 C0 hI hM hP hS hl hi kk)
    · exact zl_sw (tgt := 410) (off := 377) hx hb (by decide) rfl (by decide) (zlcs6 C0 hI hM hP hS hl hi kk)
    · exact zl_sw (tgt := 443) (off := 410) hx hb (by decide) rfl (by decide) (zlcs7 C0 hI hM hP hS hl hi kk)
    · exact zl_sw (tgt := 466) (off := 433) hx hb (by decide) rfl (by decide) (zlcs8 C0 hI hM hP hS hl hi kk)
    · exact zl_sw (tgt := 499) (off := 466) hx hb (by decide) rfl (by decide) (zlcs9 C0 hI hM hP hS hl hi kk)
    · exact zl_sw (tgt := 522) (off := 489) hx hb (by decide) rfl (by decide) (zlcs10 C0 hI hM hP hS hl hi kk)
    · exact zl_sw (tgt := 555) (off := 522) hx hb (by decide) rfl (by decide) (zlcs11 C0 hI hM hP hS hl hi kk)
    · exact zl_sw (tgt := 578) (off := 545) hx hb (by decide) rfl (by decide) (zlcs12 C0 hI hM hP hS hl hi kk)
    · exact zl_sw (tgt := 611) (off := 578) hx hb (by decide) rfl (by decide) (zlcs13 C0 hI hM hP hS hl hi kk)
    · exact zl_sw (tgt := 624) (off := 591) hx hb (by decide) rfl (by decide) (zlcs14 C0 hI hM hP hS hl hi kk)
    · exact zl_sw (tgt := 647) (off := 614) hx hb (by decide) rfl (by decide) (zlcs15 C0 hI hM hP hS hl hi kk)
    · exact zl_sw (tgt := 670) (off := 637) hx hb (by decide) rfl (by decide) (zlcs16 C0 hI hM hP hS hl hi kk)
    · exact zl_sw (tgt := 693) (off := 660) hx hb (by decide) rfl (by decide) (zlcs17 C0 hI hM hP hS hl hi kk)
    · exact zl_sw (tgt := 716) (off := 683) hx hb (by decide) rfl (by decide) (zlcs18 C0 hI hM hP hS hl hi kk)
    · exact zl_sw (tgt := 739) (off := 706) hx hb (by decide) rfl (by decide) (zlcs19 C0 hI hM hP hS hl hi kk)
    · exact zl_sw (tgt := 772) (off := 739) hx hb (by decide) rfl (by decide) (zlcs20 C0 hI hM hP hS hl hi kk)
    · exact zl_sw (tgt := 795) (off := 762) hx hb (by decide) rfl (by decide) (zlcs21 C0 hI hM hP hS hl hi kk)
    · exact zl_sw (tgt := 828) (off := 795) hx hb (by decide) rfl (by decide) (zlcs22 C0 hI hM hP hS hl hi kk)
    · exact zl_sw (tgt := 851) (off := 818) hx hb (by decide) rfl (by decide) (zlcs23 C0 hI hM hP hS hl hi kk)
    · exact zl_sw (tgt := 884) (off := 851) hx hb (by decide) rfl (by decide) (zlcs24 C0 hI hM hP hS hl hi kk)
    · exact zl_sw (tgt := 907) (off := 874) hx hb (by decide) rfl (by decide) (zlcs25 C0 hI hM hP hS hl hi kk)
    · exact zl_sw (tgt := 940) (off := 907) hx hb (by decide) rfl (by decide) (zlcs26 C0 hI hM hP hS hl hi kk)
    · exact zl_sw (tgt := 953) (off := 920) hx hb (by decide) rfl (by decide) (zlcs27 C0 hI hM hP hS hl hi kk)
    · exact zl_sw (tgt := 986) (off := 953) hx hb (by decide) rfl (by decide) (zlcs28 C0 hI hM hP hS hl hi kk)
    · exact zl_sw (tgt := 999) (off := 966) hx hb (by decide) rfl (by decide) (zlcs29 C0 hI hM hP hS hl hi kk)
    · exact zl_sw (tgt := 1032) (off := 999) hx hb (by decide) rfl (by decide) (zlcs30 C0 hI hM hP hS hl hi kk)
    · exact zl_sw (tgt := 1045) (off := 1012) hx hb (by decide) rfl (by decide) (zlcs31 C0 hI hM hP hS hl hi kk)
    · exact zl_sw (tgt := 1058) (off := 1025) hx hb (by decide) rfl (by decide) (zlcs32 C0 hI hM hP hS hl hi kk)
    · exact zl_sw (tgt := 1101) (off := 1068) hx hb (by decide) rfl (by decide) (zlcs33 C0 hI hM hP hS hl hi kk)
    · exact zl_sw (tgt := 1124) (off := 1091) hx hb (by decide) rfl (by decide) (zlcs34 C0 hI hM hP hS hl hi kk)
    · exact zl_sw (tgt := 1177) (off := 1144) hx hb (by decide) rfl (by decide) (zlcs35 C0 hI hM hP hS hl hi kk)
  · refine lv_tableOut (tgt := 1240) hx hb (zLd (x := (.tableswitch 1207 0 35 #[159, 222, 235, 258, 301, 334, 377, 410, 433, 466, 489, 522, 545, 578, 591, 614, 637, 660, 683, 706, 739, 762, 795, 818, 851, 874, 907, 920, 953, 966, 999, 1012, 1025, 1068, 1091, 1144], 159, 0, 0, 0, 0)) rfl) (Or.inr (by rw [nI_toInt (by omega)]; omega)) (by decide) ?_
    exact kk M H locs ls hI hM hP hS hl
set_option maxRecDepth 100000 in
theorem zl_loop (C0 : zlCx p s m meth c b L xs cells slots D cA ad) (kE : ∀ (H : Heap) (locs : List Loc) (ls : Array Slot), va_S (fun q => s.heap.size ≤ q) s.heap H locs → W p l e room_1 s m #[Value.ref b] below meth c H locs cells slots QQ (F0 m 1246 ls [])) : ∀ (n i : Nat), L < i + 6 * n + 6 → i ≤ 3072 → zlK zInv p l e s m b below meth c cells slots QQ D cA ad i 18 := by
  obtain ⟨⟨hx, hb, hml, hown⟩, hts, hnw, hX, hbl, hL, hinj, hK, hA, hcs⟩ := id C0
  have hbA : ¬ (fun q : Nat => s.heap.size ≤ q) b := Nat.not_le.mpr hbl
  have head : ∀ (i : Nat) (H : Heap) (locs : List Loc) (ls : Array Slot), va_S (fun q => s.heap.size ≤ q) s.heap H locs → zlh ls b (ad 0) (ad 55) i → (Int32.ofNat L - nI 6 < nI i → W p l e room_1 s m #[Value.ref b] below meth c H locs cells slots QQ (F0 m 1246 ls [])) → (¬ (Int32.ofNat L - nI 6 < nI i) → W p l e room_1 s m #[Value.ref b] below meth c H locs cells slots QQ (F0 m 27 ls [])) → W p l e room_1 s m #[Value.ref b] below meth c H locs cells slots QQ (F0 m 18 ls []) := by
    intro i H locs ls hS hl k1 k2
    refine lv_iload_n hx hb (zLd (x := (.iload_n 3, 1, 0, 0, 0, 0)) rfl) rfl (lv_at hl 3 rfl) ?_
    refine lv_aload_n hx hb (zLd (x := (.aload_n 0, 1, 0, 0, 0, 0)) rfl) rfl (lv_at hl 0 rfl) ?_
    refine va_slen hx hb hX hbl hbA hS (zLd (x := (.arraylength, 1, 0, 0, 0, 0)) rfl) ?_
    refine lv_bipush (v := nI 6) hx hb (zLd (x := (.bipush 6, 2, 0, 0, 0, 0)) rfl) (by decide) ?_
    refine lv_isub hx hb (zLd (x := (.isub, 1, 0, 0, 0, 0)) rfl) ?_
    exact lv_icmp_gt (tgt := 1246) hx hb (zLd (x := (.if_icmp .gt 1222, 3, 0, 0, 0, 0)) rfl) (by decide) k1 k2
  intro n
  induction n with
  | zero =>
    intro i h1 h2 M H locs ls hI hM hP hS hl
    exact head i H locs ls hS hl (fun _ => kE H locs ls hS) (fun h => absurd (zlp_out (by omega) h2 hL) h)
  | succ n ih =>
    intro i h1 h2 M H locs ls hI hM hP hS hl
    by_cases h6 : i + 6 ≤ L
    · refine head i H locs ls hS hl (fun h => absurd h (zlp_in h6 hL)) (fun _ => ?_)
      refine zl_body C0 h6 ?_ M H locs ls hI hM hP hS hl
      intro M H locs ls hI hM hP hS hl
      refine lv_iinc (v := nI (i + 6)) (lv' := [(3, .int (nI (i + 6))), (0, .ref b), (1, .ref (ad 0)), (2, .ref (ad 55))]) hx hb (zLd (x := (.iinc 3 6, 3, 0, 0, 0, 0)) rfl) hl (k := 3) rfl (by rw [show Int32.ofInt 6 = nI 6 from rfl]; exact nI_add i 6) (by decide) rfl (fun ls hl => ?_)
      have hl := lv_sub hl (l' := [(0, .ref b), (1, .ref (ad 0)), (2, .ref (ad 55)), (3, .int (nI (i + 6)))]) [1, 2, 3, 0] rfl
      refine lv_goto (tgt := 18) hx hb (zLd (x := (.goto (-1225), 3, 0, 0, 0, 0)) rfl) (by decide) ?_
      exact ih (i + 6) (by omega) (by omega) M H locs ls hI hM hP hS hl
    · exact head i H locs ls hS hl (fun _ => kE H locs ls hS) (fun h => absurd (zlp_out (by omega) h2 hL) h)
end zLoop2
