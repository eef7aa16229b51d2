/-! steps that change nothing: both sides answer alike -/
theorem zCt.mono {d mi : Nat} {av : List zV} {M : zMem} {Q Q' : Option zV → zMem → Prop} (h : zCt d mi av M Q) (hq : ∀ r M', Q r M' → Q' r M') : zCt d mi av M Q' := by
  intro I h1 h2 h3 l D cA ad h4 p e a1 a2 a3 s m args below b1 b2 b3 b4
  obtain ⟨n, o, c1, c2, c3, ⟨⟨⟨r, M', e1, e2, e3⟩, e4⟩, e5⟩⟩ := h I h1 h2 h3 l D cA ad h4 p e a1 a2 a3 s m args below b1 b2 b3 b4
  exact ⟨n, o, c1, c2, c3, ⟨⟨⟨r, M', e1, hq r M' e2, e3⟩, e4⟩, e5⟩⟩
abbrev zcse (Inv : zMem → Prop) (mc mm : Nat) (av : List zV) : Prop := ∀ M, zrgM M → (∀ v ∈ av, zrg v) → Inv M → zCi 20 mc (.inr (.inr 0) :: av) M (fun v M1 => zrgM M1 → zCi 20 mm (.inr (.inr 55) :: av) M1 (fun v' M2 => v' = v ∧ Inv M2))
theorem zcse_q {mc mm : Nat} {av : List zV} (h : ∀ M sz pl cp ms hw pn t ch st en co v pm ph ro pp me, (∀ v ∈ av, zrg v) → zOK sz pl cp ms hw pn t ch st en co v pm ph ro pp me → zQC M sz pl cp ms hw pn t ch st en co v pm ph ro pp me → ∃ S : Int → Prop, (∀ a b, S a → S b → b = a) ∧ zCi 20 mc (.inr (.inr 0) :: av) M (fun r M' => S r ∧ zfC M M') ∧ ∀ M1, zQR M1 sz pl cp ms hw pn t ch st en co v pm ph ro pp me → zCi 20 mm (.inr (.inr 55) :: av) M1 (fun r M' => S r ∧ zfR M1 M')) : zcse zInv mc mm av := by
  intro M hM hav hI
  obtain ⟨sz, pl, cp, ms, hw, pn, t, ch, st, en, co, v, pm, ph, ro, pp, me, hO, hC, hR⟩ := hI.1
  obtain ⟨S, hu, h1, h2⟩ := h M sz pl cp ms hw pn t ch st en co v pm ph ro pp me hav hO hC
  refine zCt.mono h1 ?_
  rintro q M1 ⟨r, rfl, hs, hf⟩
  refine ⟨r, rfl, fun _ => zCt.mono (h2 M1 ?_) ?_⟩
  · exact zQR_fr hR (fun j _ => by rw [hf 55 (by decide) (by decide) (by decide)]) (fun k k1 k2 => hf k (by omega) (by omega) (by omega))
  · rintro q M2 ⟨r', rfl, hs', hf'⟩
    exact ⟨r', rfl, hu _ _ hs hs', zInv_fR (zInv_fC hI hf) hf'⟩
theorem zu2 {A : Prop} {x y a b : Int} (h : (¬ A ∧ a = x) ∨ (A ∧ a = y)) (h' : (¬ A ∧ b = x) ∨ (A ∧ b = y)) : b = a := by
  rcases h with ⟨h1, rfl⟩ | ⟨h1, rfl⟩
  · rcases h' with ⟨_, rfl⟩ | ⟨g, _⟩
    · rfl
    · exact absurd g h1
  · rcases h' with ⟨g, _⟩ | ⟨_, rfl⟩
    · exact absurd h1 g
    · rfl
theorem zu2' {A : Prop} {x y a b : Int} (h : (A ∧ a = x) ∨ (¬ A ∧ a = y)) (h' : (A ∧ b = x) ∨ (¬ A ∧ b = y)) : b = a := zu2 (A := A) (h.symm) (h'.symm)
theorem zu1 {x a b : Int} (h : a = x) (h' : b = x) : b = a := by rw [h, h']
theorem zfC_r {M : zMem} : zfC M M := fun _ _ _ _ => rfl
theorem zfR_r {M : zMem} : zfR M M := ⟨fun _ _ _ => rfl, fun _ _ _ _ _ => rfl⟩
theorem zCi_fC {d mi : Nat} {av : List zV} {M : zMem} {S : Int → Prop} (h : zCi d mi av M (fun r M' => S r ∧ M' = M)) : zCi d mi av M (fun r M' => S r ∧ zfC M M') := zCt.mono h (by rintro q M' ⟨r, e, hs, rfl⟩; exact ⟨r, e, hs, zfC_r⟩)
theorem zCi_fR {d mi : Nat} {av : List zV} {M : zMem} {S : Int → Prop} (h : zCi d mi av M (fun r M' => S r ∧ M' = M)) : zCi d mi av M (fun r M' => S r ∧ zfR M M') := zCt.mono h (by rintro q M' ⟨r, e, hs, rfl⟩; exact ⟨r, e, hs, zfR_r⟩)
theorem zt85 {x : Int} : zcse zInv 85 140 [.inl x] := zcse_q (fun M sz pl cp ms hw pn t ch st en co v pm ph ro pp me hav hO hC => ⟨_, fun _ _ h h' => zu2' h h', qc85 (zQC_C hO hC), fun M1 hR => qc140 (zQR_C hO hR)⟩)
theorem zt86 {x : Int} : zcse zInv 86 141 [.inl x] := zcse_q (fun M sz pl cp ms hw pn t ch st en co v pm ph ro pp me hav hO hC => ⟨_, fun _ _ h h' => zu1 h h', qc86 (zQC_C hO hC) (hav _ List.mem_cons_self), fun M1 hR => qc141 (zQR_C hO hR) (hav _ List.mem_cons_self)⟩)
theorem zt87 {x : Int} : zcse zInv 87 142 [.inl x] := zcse_q (fun M sz pl cp ms hw pn t ch st en co v pm ph ro pp me hav hO hC => ⟨_, fun _ _ h h' => zu1 h h', qc87 (zQC_C hO hC), fun M1 hR => qc142 (zQR_C hO hR)⟩)
theorem zt88 {x : Int} : zcse zInv 88 144 [.inl x] := zcse_q (fun M sz pl cp ms hw pn t ch st en co v pm ph ro pp me hav hO hC => ⟨_, fun _ _ h h' => zu2 h h', qc88 (zQC_C hO hC), fun M1 hR => qc144 (zQR_C hO hR)⟩)
theorem zt82 {x : Int} : zcse zInv 82 134 [.inl x] := zcse_q (fun M sz pl cp ms hw pn t ch st en co v pm ph ro pp me hav hO hC => ⟨_, fun _ _ h h' => zu1 h h', qc82 (zQC_C hO hC) hC.2.2.2.1 hC.2.1.1, fun M1 hR => qc134 (zQR_C hO hR) hR.2.2.1 hR.1.1⟩)
theorem zt89 {x : Int} : zcse zInv 89 151 [.inl x] := zcse_q (fun M sz pl cp ms hw pn t ch st en co v pm ph ro pp me hav hO hC => ⟨_, fun _ _ h h' => zu1 h h', qc89 (zQC_C hO hC), fun M1 hR => qc151 (zQR_C hO hR)⟩)
theorem zt90 {x y : Int} : zcse zInv 90 152 [.inl x, .inl y] := zcse_q (fun M sz pl cp ms hw pn t ch st en co v pm ph ro pp me hav hO hC => ⟨_, fun _ _ h h' => zu2 h h', qc90 (zQC_C hO hC), fun M1 hR => qc152 (zQR_C hO hR)⟩)
theorem zt98 {x y : Int} : zcse zInv 98 165 [.inl x, .inl y] := zcse_q (fun M sz pl cp ms hw pn t ch st en co v pm ph ro pp me hav hO hC => ⟨_, fun _ _ h h' => zu2 h h', qc98 (zQC_C hO hC), fun M1 hR => qc165 (zQR_C hO hR)⟩)
theorem zufw {A : Prop} {x a b : Int} {bk : Nat → Bool} {N : Nat} (h : (¬ A ∧ a = x) ∨ (A ∧ zfw bk N a)) (h' : (¬ A ∧ b = x) ∨ (A ∧ zfw bk N b)) : b = a := by
  rcases h with ⟨h1, rfl⟩ | ⟨h1, h2⟩
  · rcases h' with ⟨_, rfl⟩ | ⟨g, _⟩
    · rfl
    · exact absurd g h1
  · rcases h' with ⟨g, _⟩ | ⟨_, g⟩
    · exact absurd h1 g
    · exact zfw_uniq g h2
theorem zCi_f68 {d mi : Nat} {av : List zV} {M : zMem} {S : Int → Prop} (h : zCi d mi av M (fun r M' => S r ∧ ∀ k, k ≠ 68 → M' k = M k)) : zCi d mi av M (fun r M' => S r ∧ zfR M M') := zCt.mono h (by rintro q M' ⟨r, e, hs, hf⟩; exact ⟨r, e, hs, fun k _ hk => hf k (by omega), fun j _ _ _ _ => by rw [hf 55 (by decide)]⟩)
theorem zt91 {x : Int} : zcse zInv 91 153 [.inl x] := zcse_q (fun M sz pl cp ms hw pn t ch st en co v pm ph ro pp me hav hO hC => ⟨_, fun _ _ h h' => zufw h h', qc91 (zQC_C hO hC), fun M1 hR => qc153 (zQR_C hO hR)⟩)
theorem zt100 {x y : Int} : zcse zInv 100 167 [.inl x, .inl y] := zcse_q (fun M sz pl cp ms hw pn t ch st en co v pm ph ro pp me hav hO hC => ⟨_, fun _ _ h h' => zu2 h h', qc100 (zQC_C hO hC) hC.2.2.2.1 hO.2.2.2.2.1 (fun k hk => ⟨(hC.2.2.2.2.2.2.2.2 k hk).1, (hC.2.2.2.2.2.2.2.2 k hk).2.1, (hO.2.2.2.2.2.2.2.1 k hk).1, fun p hp => ⟨(hC.2.2.2.2.2.2.2.2 k hk).2.2 p hp, (hO.2.2.2.2.2.2.2.1 k hk).2 p hp⟩⟩), fun M1 hR => qc167 (zQR_C hO hR) hR.2.2.1 hO.2.2.2.2.1 (fun k hk => ⟨(hR.2.2.2.2.2.2.2 k hk).1, (hR.2.2.2.2.2.2.2 k hk).2.1, (hO.2.2.2.2.2.2.2.1 k hk).1, fun p hp => ⟨(hR.2.2.2.2.2.2.2 k hk).2.2 p hp, (hO.2.2.2.2.2.2.2.1 k hk).2 p hp⟩⟩)⟩)
theorem zt94 {x y : Int} : zcse zInv 94 160 [.inl x, .inl y] := zcse_q (fun M sz pl cp ms hw pn t ch st en co v pm ph ro pp me hav hO hC => ⟨_, fun _ _ h h' => zu2 h h', qc94 hC.2.1.2.1 hO.1.1 (fun q hq => ⟨hC.2.1.2.2.2.1 q hq, (hO.1.2.2.1 q hq).1, (hO.1.2.2.1 q hq).2.1⟩) hC.2.2.2.2.2.2.2.1 hC.1, fun M1 hR => qc160 hR.1.2.1 hO.1.1 (fun q hq => ⟨(hR.1.2.2.2.1 q hq).1, (hO.1.2.2.1 q hq).1, (hO.1.2.2.1 q hq).2.1⟩) hR.2.2.2.2.2.2.1 hR.1.1⟩)
theorem zt95 {x : Int} : zcse zInv 95 161 [.inl x] := zcse_q (fun M sz pl cp ms hw pn t ch st en co v pm ph ro pp me hav hO hC => ⟨_, fun _ _ h h' => zu2 h h', qc95 hC.2.1.2.1 hO.1.1 (fun q hq => ⟨hC.2.1.2.2.2.1 q hq, (hO.1.2.2.1 q hq).1, (hO.1.2.2.1 q hq).2.1⟩) hC.2.2.2.2.2.2.2.1 hC.1, fun M1 hR => qc161 hR.1.2.1 hO.1.1 (fun q hq => ⟨(hR.1.2.2.2.1 q hq).1, (hO.1.2.2.1 q hq).1, (hO.1.2.2.1 q hq).2.1⟩) hR.2.2.2.2.2.2.1 hR.1.1⟩)
theorem zt80 {x : Int} : zcse zInv 80 127 [.inl x] := zcse_q (fun M sz pl cp ms hw pn t ch st en co v pm ph ro pp me hav hO hC => ⟨_, fun _ _ h h' => zu2 h h', zCi_fC (qc80 hO.1 hC.2.2.1 (fun i hi => ⟨hC.2.2.2.2.2.2.1 i hi, hO.2.2.2.2.2.1 i hi⟩)), fun M1 hR => zCi_fR (qc127 hO.1 hR.2.1 (fun i hi => ⟨hR.2.2.2.2.2.1 i hi, hO.2.2.2.2.2.1 i hi⟩))⟩)
theorem zt73 {x : Int} : zcse zInv 73 117 [.inl x] := zcse_q (fun M sz pl cp ms hw pn t ch st en co v pm ph ro pp me hav hO hC => ⟨_, fun _ _ h h' => zu2 h h', zCi_fC (qc73 hC.2.1.2.1 hO.1.1 hC.2.1.2.2.2.1), fun M1 hR => zCi_fR (qc117 hR.1.2.1 hO.1.1 (fun q hq => (hR.1.2.2.2.1 q hq).1))⟩)
theorem zt77 {x y : Int} : zcse zInv 77 122 [.inl x, .inl y] := zcse_q (fun M sz pl cp ms hw pn t ch st en co v pm ph ro pp me hav hO hC => ⟨_, fun _ _ h h' => zu2 h h', zCi_fC (qc77 hO.1 hC.2.2.1), fun M1 hR => zCi_fR (qc122 hO.1 hR.2.1)⟩)
theorem zt93 {x : Int} : zcse zInv 93 157 [.inl x] := zcse_q (fun M sz pl cp ms hw pn t ch st en co v pm ph ro pp me hav hO hC => ⟨_, fun _ _ h h' => zu2 h h', zCi_fC (qc93 hO.1 hC.2.2.1 hC.2.2.2.2.2.2.2.1), fun M1 hR => zCi_fR (qc157 hO.1 hR.2.1 hR.2.2.2.2.2.2.1)⟩)
theorem zOK_wl {sz pl cp ms hw pn : Nat} {t ch st en co v pm ph : Nat → Nat} {ro pp : Nat → Nat → Nat} {me : Nat → Int} (hO : zOK sz pl cp ms hw pn t ch st en co v pm ph ro pp me) (h : 0 < cp) : zWL t sz pl ch st en := hO.2.2.2.2.2.2.2.2.1 (fun h0 => by have := (hO.2.2.2.2.2.2.2.2.2 h0).2.1; omega)
theorem zt79 {x y : Int} : zcse zInv 79 125 [.inl x, .inl y] := zcse_q (fun M sz pl cp ms hw pn t ch st en co v pm ph ro pp me hav hO hC => ⟨_, fun _ _ h h' => zu2 h h', zCi_fC (qc79 hC.2.2.1.2.1 hO.1.2.1 (hav _ (List.mem_cons_of_mem _ List.mem_cons_self)) (fun g => ⟨zOK_wl hO g, hC.2.1⟩) (fun c hc p hp => ⟨hC.2.2.1.2.2.2.2 c hc p hp, hO.1.2.2.2 c hc p hp⟩)), fun M1 hR => zCi_f68 (qc125 hR.2.1.2.1 hO.1.2.1 (fun g => ⟨zOK_wl hO g, hR.1⟩) (fun c hc p hp => ⟨hR.2.1.2.2.2.2 c hc p hp, hO.1.2.2.2 c hc p hp⟩))⟩)
