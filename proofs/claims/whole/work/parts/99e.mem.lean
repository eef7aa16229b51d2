/-! the first memory -/
def zM0 (k i : Nat) : Int := if k = 4 then (if i = 11 then 2 else 0) else if k = 18 then (if i = 11 then 2 else 0) else if k = 33 then (if i < 4 then -1 else 0) else if k = 55 then (if i = 14 then 2 else 0) else if k = 64 then (if i < 6 then -1 else 0) else if k = 66 then (if i < 6 then 5 else 0) else if k = 76 then (if i < 4 then -1 else 0) else 0
theorem zM0_0 {k : Nat} (h : k ≠ 4 ∧ k ≠ 18 ∧ k ≠ 33 ∧ k ≠ 55 ∧ k ≠ 64 ∧ k ≠ 66 ∧ k ≠ 76) (i : Nat) : zM0 k i = 0 := by
  obtain ⟨h1, h2, h3, h4, h5, h6, h7⟩ := h
  unfold zM0
  rw [if_neg h1, if_neg h2, if_neg h3, if_neg h4, if_neg h5, if_neg h6, if_neg h7]
theorem zM0_le (k i : Nat) : -1 ≤ zM0 k i ∧ zM0 k i ≤ 5 := by
  unfold zM0
  repeat' split
  all_goals omega
theorem zM0_rg : zrgM zM0 := by
  intro k i
  have := zM0_le k i
  unfold zrgc
  split
  · omega
  · exact ⟨by omega, by omega⟩
  · exact ⟨by omega, by omega⟩
theorem zM0_inv : zInv zM0 := by
  refine ⟨⟨0, 0, 0, 2, 0, 0, fun _ => 0, fun _ => 0, fun _ => 0, fun _ => 0, fun _ => 0, fun _ => 0, fun _ => 0, fun _ => 0, fun _ _ => 0, fun _ _ => 0, fun _ => 0, ?_, ?_, ?_⟩, ?_, ?_, ?_⟩
  · exact ⟨⟨by omega, by omega, fun p hp => absurd hp (by omega), fun c hc => absurd hc (by omega)⟩, by omega, by omega, by omega, by omega, fun i _ => Nat.zero_le _, fun p hp => absurd hp (by omega), fun k hk => absurd hk (by omega), fun h => absurd rfl h, fun _ => ⟨rfl, rfl, rfl⟩⟩
  · exact ⟨rfl, ⟨rfl, rfl, fun i hi => absurd hi (by omega), fun p hp => absurd hp (by omega), fun p hp => absurd hp (by omega)⟩, ⟨rfl, rfl, fun p hp => absurd hp (by omega), fun p hp => absurd hp (by omega), fun c hc => absurd hc (by omega)⟩, rfl, rfl, rfl, fun i _ => zM0_0 (by decide) i, fun p hp => absurd hp (by omega), fun k hk => absurd hk (by omega)⟩
  · exact ⟨⟨rfl, rfl, fun i hi => absurd hi (by omega), fun p hp => absurd hp (by omega), fun p hp => absurd hp (by omega)⟩, ⟨rfl, rfl, fun p hp => absurd hp (by omega), fun p hp => absurd hp (by omega), fun c hc => absurd hc (by omega)⟩, rfl, rfl, rfl, fun i _ => zM0_0 (by decide) i, fun p hp => absurd hp (by omega), fun k hk => absurd hk (by omega)⟩
  · exact ⟨rfl, Or.inl rfl, fun h => absurd rfl h⟩
  · exact ⟨0, fun _ => 0, by omega, rfl, rfl, fun i hi => absurd hi (by omega)⟩
  · refine ⟨fun s hs => ?_, fun s hs => ?_, fun i _ => ?_⟩
    · have e : zM0 33 s = -1 := by
        show (if s < 4 then (-1 : Int) else 0) = -1
        rw [if_pos hs]
      rw [e, zM0_0 (by decide)]
      omega
    · exact ⟨rfl, by rw [zM0_0 (by decide), zM0_0 (by decide)]⟩
    · rw [zM0_0 (by decide), zM0_0 (by decide)]
theorem zupd4 : upd (upd (upd (upd (fun _ => 0) 0 (-1)) 1 (-1)) 2 (-1)) 3 (-1) = zfil 4 (-1) := by
  rw [show (fun _ => 0 : Nat → Int32) = zfil 0 (-1) from zfil_0]
  rw [show (-1 : Int32) = Int32.ofInt (-1) from by decide, zfil_upd, zfil_upd, zfil_upd, zfil_upd]
def zad9 (h0 : Nat) (u : Nat → Nat) (k : Nat) : Nat := ([h0, u 53, u 0, u 1, u 2, u 8, u 9, u 10, u 11, u 12, u 13, u 14, u 15, u 3, u 4, u 5, u 6, u 7, u 16, u 22, u 23, u 24, u 25, u 26, u 27, u 28, u 29, u 17, u 18, u 19, u 20, u 21, u 30, u 31, u 32, u 33, u 34, u 40, u 41, u 42, u 43, u 44, u 35, u 36, u 37, u 38, u 39, u 45, u 46, u 47, u 48, u 49, u 50, u 51, u 52] : List Nat).getD k 0
def zad (h0 : Nat) (u : Nat → Nat) (h1 : Nat) (w : Nat → Nat) (k : Nat) : Nat := if k < 55 then zad9 h0 u k else if k = 55 then h1 else w (k - 56)
def zpos9 (k : Nat) : Nat := ([0, 54, 1, 2, 3, 9, 10, 11, 12, 13, 14, 15, 16, 4, 5, 6, 7, 8, 17, 23, 24, 25, 26, 27, 28, 29, 30, 18, 19, 20, 21, 22, 31, 32, 33, 34, 35, 41, 42, 43, 44, 45, 36, 37, 38, 39, 40, 46, 47, 48, 49, 50, 51, 52, 53] : List Nat).getD k 0
def zposA (k : Nat) : Nat := if k < 55 then zpos9 k else k
set_option maxRecDepth 100000 in
theorem zposA_inj : ∀ i, i < 80 → ∀ j, j < 80 → zposA i = zposA j → i = j := by decide +kernel
theorem zwX6_eq {cA : Nat → ClassId} {h0 : Nat} {u : Nat → Nat} : zwX6 cA h0 u = [(h0, .inr (6, [.ref (u 0), .ref (u 1), .ref (u 2)])), (u 0, .inl (cA 0, 4, .inl (zfil 4 (-1)))), (u 1, .inl (cA 0, 4, .inl (fun _ => 0))), (u 2, .inl (cA 0, 48, .inl (fun _ => 0)))] := by
  unfold zwX6
  rw [zupd4]
def zwX9v (cA : Nat → ClassId) (h0 : Nat) (u : Nat → Nat) : va_W := [(h0, .inr (9, [.ref (u 0), .ref (u 2), .ref (u 16), .ref (u 30), .ref (u 34), .ref (u 35), .ref (u 45), .ref (u 47), .ref (u 49), .ref (u 53), .int 0])), (u 0, .inr (8, [.ref (u 1), .int 0])), (u 1, .inl (cA 1, 120, .inl (fun _ => 0))), (u 2, .inr (7, [.ref (u 3), .ref (u 8), .ref (u 9), .ref (u 10), .ref (u 11), .ref (u 12), .ref (u 13), .ref (u 14), .ref (u 15), .int 0, .int 0, .int 2, .int 0])), (u 3, .inr (4, [.ref (u 4), .ref (u 5), .ref (u 6), .ref (u 7), .int 0, .int 0, .int 0])), (u 4, .inl (cA 1, 120, .inl (fun _ => 0))), (u 5, .inl (cA 0, 6, .inl (fun _ => 0))), (u 6, .inl (cA 0, 24, .inl (fun _ => 0))), (u 7, .inl (cA 0, 24, .inl (fun _ => 0))), (u 8, .inl (cA 0, 24, .inl (fun _ => 0))), (u 9, .inl (cA 0, 6, .inl (fun _ => 0))), (u 10, .inl (cA 0, 48, .inl (fun _ => 0))), (u 11, .inl (cA 0, 6, .inl (fun _ => 0))), (u 12, .inl (cA 0, 36, .inl (fun _ => 0))), (u 13, .inl (cA 0, 6, .inl (fun _ => 0))), (u 14, .inl (cA 0, 6, .inl (fun _ => 0))), (u 15, .inl (cA 0, 4, .inl (fun _ => 0))), (u 16, .inr (7, [.ref (u 17), .ref (u 22), .ref (u 23), .ref (u 24), .ref (u 25), .ref (u 26), .ref (u 27), .ref (u 28), .ref (u 29), .int 0, .int 0, .int 2, .int 0])), (u 17, .inr (4, [.ref (u 18), .ref (u 19), .ref (u 20), .ref (u 21), .int 0, .int 0, .int 0])), (u 18, .inl (cA 1, 120, .inl (fun _ => 0))), (u 19, .inl (cA 0, 6, .inl (fun _ => 0))), (u 20, .inl (cA 0, 24, .inl (fun _ => 0))), (u 21, .inl (cA 0, 24, .inl (fun _ => 0))), (u 22, .inl (cA 0, 24, .inl (fun _ => 0))), (u 23, .inl (cA 0, 6, .inl (fun _ => 0))), (u 24, .inl (cA 0, 48, .inl (fun _ => 0))), (u 25, .inl (cA 0, 6, .inl (fun _ => 0))), (u 26, .inl (cA 0, 36, .inl (fun _ => 0))), (u 27, .inl (cA 0, 6, .inl (fun _ => 0))), (u 28, .inl (cA 0, 6, .inl (fun _ => 0))), (u 29, .inl (cA 0, 4, .inl (fun _ => 0))), (u 30, .inr (6, [.ref (u 31), .ref (u 32), .ref (u 33)])), (u 31, .inl (cA 0, 4, .inl (zfil 4 (-1)))), (u 32, .inl (cA 0, 4, .inl (fun _ => 0))), (u 33, .inl (cA 0, 48, .inl (fun _ => 0))), (u 34, .inr (3, [.ref (u 35), .ref (u 40), .ref (u 41), .ref (u 42), .ref (u 43), .ref (u 44), .int 0, .int 0])), (u 35, .inr (2, [.ref (u 36), .ref (u 37), .ref (u 38), .ref (u 39), .int 0, .int 0, .int 0, .int 0, .int 0, .int 0, .int 0, .int 0, .int 0, .int 0])), (u 36, .inl (cA 0, 8, .inl (fun _ => 0))), (u 37, .inl (cA 0, 92, .inl (fun _ => 0))), (u 38, .inl (cA 0, 92, .inl (fun _ => 0))), (u 39, .inl (cA 0, 92, .inl (fun _ => 0))), (u 40, .inl (cA 0, 6, .inl (fun _ => 0))), (u 41, .inl (cA 2, 30, .inr (.inl (fun _ => 0)))), (u 42, .inl (cA 2, 30, .inr (.inl (fun _ => 0)))), (u 43, .inl (cA 2, 8, .inr (.inl (fun _ => 0)))), (u 44, .inl (cA 2, 8, .inr (.inl (fun _ => 0)))), (u 45, .inr (5, [.ref (u 46)])), (u 46, .inl (cA 0, 847, .inl (fun _ => 0))), (u 47, .inr (0, [.ref (u 48)])), (u 48, .inl (cA 0, 7, .inl (fun _ => 0))), (u 49, .inr (1, [.ref (u 50), .ref (u 51), .ref (u 52), .int 0])), (u 50, .inl (cA 0, 30, .inl (fun _ => 0))), (u 51, .inl (cA 0, 6, .inl (fun _ => 0))), (u 52, .inl (cA 0, 6, .inl (fun _ => 0))), (u 53, .inl (cA 0, 6, .inl (fun _ => 0)))]
set_option maxRecDepth 100000 in
set_option maxHeartbeats 1000000 in
theorem zwX9_v {cA : Nat → ClassId} {h0 : Nat} {u : Nat → Nat} : zwX9 cA h0 u = zwX9v cA h0 u := by
  unfold zwX9 zwX9v
  rw [zwX6_eq]
  unfold zwX8 zwX7 zwX3 zwX5 zwX0 zwX1
  simp only [List.nil_append, List.cons_append, Nat.reduceAdd]
