/-! each cell of the first world stands where it should -/
def zWst (cA : Nat → ClassId) (h0 : Nat) (u : Nat → Nat) (h1 : Nat) (w : Nat → Nat) : va_W := zwX9v cA h0 u ++ zwX10 cA h1 w
abbrev zstA (cA : Nat → ClassId) (h0 : Nat) (u : Nat → Nat) (h1 : Nat) (w : Nat → Nat) (k : Nat) : Prop := ∃ sh, zSHL[k]? = some sh ∧ (zWst cA h0 u h1 w)[zposA k]? = some (zad h0 u h1 w k, zcell cA (zad h0 u h1 w) zM0 k sh)
theorem zst0 {cA : Nat → ClassId} {h0 : Nat} {u : Nat → Nat} {h1 : Nat} {w : Nat → Nat} : zstA cA h0 u h1 w 0 := ⟨_, rfl, rfl⟩
theorem zst1 {cA : Nat → ClassId} {h0 : Nat} {u : Nat → Nat} {h1 : Nat} {w : Nat → Nat} : zstA cA h0 u h1 w 1 := ⟨_, rfl, rfl⟩
theorem zst2 {cA : Nat → ClassId} {h0 : Nat} {u : Nat → Nat} {h1 : Nat} {w : Nat → Nat} : zstA cA h0 u h1 w 2 := ⟨_, rfl, rfl⟩
theorem zst3 {cA : Nat → ClassId} {h0 : Nat} {u : Nat → Nat} {h1 : Nat} {w : Nat → Nat} : zstA cA h0 u h1 w 3 := ⟨_, rfl, rfl⟩
theorem zst4 {cA : Nat → ClassId} {h0 : Nat} {u : Nat → Nat} {h1 : Nat} {w : Nat → Nat} : zstA cA h0 u h1 w 4 := ⟨_, rfl, rfl⟩
theorem zst5 {cA : Nat → ClassId} {h0 : Nat} {u : Nat → Nat} {h1 : Nat} {w : Nat → Nat} : zstA cA h0 u h1 w 5 := ⟨_, rfl, rfl⟩
theorem zst6 {cA : Nat → ClassId} {h0 : Nat} {u : Nat → Nat} {h1 : Nat} {w : Nat → Nat} : zstA cA h0 u h1 w 6 := ⟨_, rfl, rfl⟩
theorem zst7 {cA : Nat → ClassId} {h0 : Nat} {u : Nat → Nat} {h1 : Nat} {w : Nat → Nat} : zstA cA h0 u h1 w 7 := ⟨_, rfl, rfl⟩
theorem zst8 {cA : Nat → ClassId} {h0 : Nat} {u : Nat → Nat} {h1 : Nat} {w : Nat → Nat} : zstA cA h0 u h1 w 8 := ⟨_, rfl, rfl⟩
theorem zst9 {cA : Nat → ClassId} {h0 : Nat} {u : Nat → Nat} {h1 : Nat} {w : Nat → Nat} : zstA cA h0 u h1 w 9 := ⟨_, rfl, rfl⟩
theorem zst10 {cA : Nat → ClassId} {h0 : Nat} {u : Nat → Nat} {h1 : Nat} {w : Nat → Nat} : zstA cA h0 u h1 w 10 := ⟨_, rfl, rfl⟩
theorem zst11 {cA : Nat → ClassId} {h0 : Nat} {u : Nat → Nat} {h1 : Nat} {w : Nat → Nat} : zstA cA h0 u h1 w 11 := ⟨_, rfl, rfl⟩
theorem zst12 {cA : Nat → ClassId} {h0 : Nat} {u : Nat → Nat} {h1 : Nat} {w : Nat → Nat} : zstA cA h0 u h1 w 12 := ⟨_, rfl, rfl⟩
theorem zst13 {cA : Nat → ClassId} {h0 : Nat} {u : Nat → Nat} {h1 : Nat} {w : Nat → Nat} : zstA cA h0 u h1 w 13 := ⟨_, rfl, rfl⟩
theorem zst14 {cA : Nat → ClassId} {h0 : Nat} {u : Nat → Nat} {h1 : Nat} {w : Nat → Nat} : zstA cA h0 u h1 w 14 := ⟨_, rfl, rfl⟩
theorem zst15 {cA : Nat → ClassId} {h0 : Nat} {u : Nat → Nat} {h1 : Nat} {w : Nat → Nat} : zstA cA h0 u h1 w 15 := ⟨_, rfl, rfl⟩
theorem zst16 {cA : Nat → ClassId} {h0 : Nat} {u : Nat → Nat} {h1 : Nat} {w : Nat → Nat} : zstA cA h0 u h1 w 16 := ⟨_, rfl, rfl⟩
theorem zst17 {cA : Nat → ClassId} {h0 : Nat} {u : Nat → Nat} {h1 : Nat} {w : Nat → Nat} : zstA cA h0 u h1 w 17 := ⟨_, rfl, rfl⟩
theorem zst18 {cA : Nat → ClassId} {h0 : Nat} {u : Nat → Nat} {h1 : Nat} {w : Nat → Nat} : zstA cA h0 u h1 w 18 := ⟨_, rfl, rfl⟩
theorem zst19 {cA : Nat → ClassId} {h0 : Nat} {u : Nat → Nat} {h1 : Nat} {w : Nat → Nat} : zstA cA h0 u h1 w 19 := ⟨_, rfl, rfl⟩
theorem zst20 {cA : Nat → ClassId} {h0 : Nat} {u : Nat → Nat} {h1 : Nat} {w : Nat → Nat} : zstA cA h0 u h1 w 20 := ⟨_, rfl, rfl⟩
theorem zst21 {cA : Nat → ClassId} {h0 : Nat} {u : Nat → Nat} {h1 : Nat} {w : Nat → Nat} : zstA cA h0 u h1 w 21 := ⟨_, rfl, rfl⟩
theorem zst22 {cA : Nat → ClassId} {h0 : Nat} {u : Nat → Nat} {h1 : Nat} {w : Nat → Nat} : zstA cA h0 u h1 w 22 := ⟨_, rfl, rfl⟩
theorem zst23 {cA : Nat → ClassId} {h0 : Nat} {u : Nat → Nat} {h1 : Nat} {w : Nat → Nat} : zstA cA h0 u h1 w 23 := ⟨_, rfl, rfl⟩
theorem zst24 {cA : Nat → ClassId} {h0 : Nat} {u : Nat → Nat} {h1 : Nat} {w : Nat → Nat} : zstA cA h0 u h1 w 24 := ⟨_, rfl, rfl⟩
theorem zst25 {cA : Nat → ClassId} {h0 : Nat} {u : Nat → Nat} {h1 : Nat} {w : Nat → Nat} : zstA cA h0 u h1 w 25 := ⟨_, rfl, rfl⟩
theorem zst26 {cA : Nat → ClassId} {h0 : Nat} {u : Nat → Nat} {h1 : Nat} {w : Nat → Nat} : zstA cA h0 u h1 w 26 := ⟨_, rfl, rfl⟩
theorem zst27 {cA : Nat → ClassId} {h0 : Nat} {u : Nat → Nat} {h1 : Nat} {w : Nat → Nat} : zstA cA h0 u h1 w 27 := ⟨_, rfl, rfl⟩
theorem zst28 {cA : Nat → ClassId} {h0 : Nat} {u : Nat → Nat} {h1 : Nat} {w : Nat → Nat} : zstA cA h0 u h1 w 28 := ⟨_, rfl, rfl⟩
theorem zst29 {cA : Nat → ClassId} {h0 : Nat} {u : Nat → Nat} {h1 : Nat} {w : Nat → Nat} : zstA cA h0 u h1 w 29 := ⟨_, rfl, rfl⟩
theorem zst30 {cA : Nat → ClassId} {h0 : Nat} {u : Nat → Nat} {h1 : Nat} {w : Nat → Nat} : zstA cA h0 u h1 w 30 := ⟨_, rfl, rfl⟩
theorem zst31 {cA : Nat → ClassId} {h0 : Nat} {u : Nat → Nat} {h1 : Nat} {w : Nat → Nat} : zstA cA h0 u h1 w 31 := ⟨_, rfl, rfl⟩
theorem zst32 {cA : Nat → ClassId} {h0 : Nat} {u : Nat → Nat} {h1 : Nat} {w : Nat → Nat} : zstA cA h0 u h1 w 32 := ⟨_, rfl, rfl⟩
theorem zst33 {cA : Nat → ClassId} {h0 : Nat} {u : Nat → Nat} {h1 : Nat} {w : Nat → Nat} : zstA cA h0 u h1 w 33 := ⟨_, rfl, rfl⟩
theorem zst34 {cA : Nat → ClassId} {h0 : Nat} {u : Nat → Nat} {h1 : Nat} {w : Nat → Nat} : zstA cA h0 u h1 w 34 := ⟨_, rfl, rfl⟩
theorem zst35 {cA : Nat → ClassId} {h0 : Nat} {u : Nat → Nat} {h1 : Nat} {w : Nat → Nat} : zstA cA h0 u h1 w 35 := ⟨_, rfl, rfl⟩
theorem zst36 {cA : Nat → ClassId} {h0 : Nat} {u : Nat → Nat} {h1 : Nat} {w : Nat → Nat} : zstA cA h0 u h1 w 36 := ⟨_, rfl, rfl⟩
theorem zst37 {cA : Nat → ClassId} {h0 : Nat} {u : Nat → Nat} {h1 : Nat} {w : Nat → Nat} : zstA cA h0 u h1 w 37 := ⟨_, rfl, rfl⟩
theorem zst38 {cA : Nat → ClassId} {h0 : Nat} {u : Nat → Nat} {h1 : Nat} {w : Nat → Nat} : zstA cA h0 u h1 w 38 := ⟨_, rfl, rfl⟩
theorem zst39 {cA : Nat → ClassId} {h0 : Nat} {u : Nat → Nat} {h1 : Nat} {w : Nat → Nat} : zstA cA h0 u h1 w 39 := ⟨_, rfl, rfl⟩
theorem zst40 {cA : Nat → ClassId} {h0 : Nat} {u : Nat → Nat} {h1 : Nat} {w : Nat → Nat} : zstA cA h0 u h1 w 40 := ⟨_, rfl, rfl⟩
theorem zst41 {cA : Nat → ClassId} {h0 : Nat} {u : Nat → Nat} {h1 : Nat} {w : Nat → Nat} : zstA cA h0 u h1 w 41 := ⟨_, rfl, rfl⟩
theorem zst42 {cA : Nat → ClassId} {h0 : Nat} {u : Nat → Nat} {h1 : Nat} {w : Nat → Nat} : zstA cA h0 u h1 w 42 := ⟨_, rfl, rfl⟩
theorem zst43 {cA : Nat → ClassId} {h0 : Nat} {u : Nat → Nat} {h1 : Nat} {w : Nat → Nat} : zstA cA h0 u h1 w 43 := ⟨_, rfl, rfl⟩
theorem zst44 {cA : Nat → ClassId} {h0 : Nat} {u : Nat → Nat} {h1 : Nat} {w : Nat → Nat} : zstA cA h0 u h1 w 44 := ⟨_, rfl, rfl⟩
theorem zst45 {cA : Nat → ClassId} {h0 : Nat} {u : Nat → Nat} {h1 : Nat} {w : Nat → Nat} : zstA cA h0 u h1 w 45 := ⟨_, rfl, rfl⟩
theorem zst46 {cA : Nat → ClassId} {h0 : Nat} {u : Nat → Nat} {h1 : Nat} {w : Nat → Nat} : zstA cA h0 u h1 w 46 := ⟨_, rfl, rfl⟩
theorem zst47 {cA : Nat → ClassId} {h0 : Nat} {u : Nat → Nat} {h1 : Nat} {w : Nat → Nat} : zstA cA h0 u h1 w 47 := ⟨_, rfl, rfl⟩
theorem zst48 {cA : Nat → ClassId} {h0 : Nat} {u : Nat → Nat} {h1 : Nat} {w : Nat → Nat} : zstA cA h0 u h1 w 48 := ⟨_, rfl, rfl⟩
theorem zst49 {cA : Nat → ClassId} {h0 : Nat} {u : Nat → Nat} {h1 : Nat} {w : Nat → Nat} : zstA cA h0 u h1 w 49 := ⟨_, rfl, rfl⟩
theorem zst50 {cA : Nat → ClassId} {h0 : Nat} {u : Nat → Nat} {h1 : Nat} {w : Nat → Nat} : zstA cA h0 u h1 w 50 := ⟨_, rfl, rfl⟩
theorem zst51 {cA : Nat → ClassId} {h0 : Nat} {u : Nat → Nat} {h1 : Nat} {w : Nat → Nat} : zstA cA h0 u h1 w 51 := ⟨_, rfl, rfl⟩
theorem zst52 {cA : Nat → ClassId} {h0 : Nat} {u : Nat → Nat} {h1 : Nat} {w : Nat → Nat} : zstA cA h0 u h1 w 52 := ⟨_, rfl, rfl⟩
theorem zst53 {cA : Nat → ClassId} {h0 : Nat} {u : Nat → Nat} {h1 : Nat} {w : Nat → Nat} : zstA cA h0 u h1 w 53 := ⟨_, rfl, rfl⟩
theorem zst54 {cA : Nat → ClassId} {h0 : Nat} {u : Nat → Nat} {h1 : Nat} {w : Nat → Nat} : zstA cA h0 u h1 w 54 := ⟨_, rfl, rfl⟩
set_option maxRecDepth 100000 in
theorem zst55 {cA : Nat → ClassId} {h0 : Nat} {u : Nat → Nat} {h1 : Nat} {w : Nat → Nat} : zstA cA h0 u h1 w 55 := by
  refine ⟨_, rfl, ?_⟩
  have e : (zWst cA h0 u h1 w)[zposA 55]? = some (h1, .inr (10, [.ref (w 0), .int 0, .int 0, .ref (w 1), .int 0, .ref (w 2), .ref (w 3), .ref (w 4), .ref (w 5), .ref (w 6), .ref (w 7), .ref (w 8), .int 0, .ref (w 9), .int 2, .int 0, .ref (w 10), .int 0, .ref (w 11), .ref (w 12), .ref (w 13), .int 0, .ref (w 14), .ref (w 15), .int 0, .int 0, .int 0, .ref (w 16), .ref (w 17), .ref (w 18), .ref (w 19), .int 0, .ref (w 20), .ref (w 21), .ref (w 22), .ref (w 23)])) := rfl
  rw [e]
  simp only [zcell, List.mapIdx_cons, List.mapIdx_nil, Nat.reduceAdd, Nat.zero_add]
  rfl
theorem zst56 {cA : Nat → ClassId} {h0 : Nat} {u : Nat → Nat} {h1 : Nat} {w : Nat → Nat} : zstA cA h0 u h1 w 56 := ⟨_, rfl, rfl⟩
theorem zst57 {cA : Nat → ClassId} {h0 : Nat} {u : Nat → Nat} {h1 : Nat} {w : Nat → Nat} : zstA cA h0 u h1 w 57 := ⟨_, rfl, rfl⟩
theorem zst58 {cA : Nat → ClassId} {h0 : Nat} {u : Nat → Nat} {h1 : Nat} {w : Nat → Nat} : zstA cA h0 u h1 w 58 := ⟨_, rfl, rfl⟩
theorem zst59 {cA : Nat → ClassId} {h0 : Nat} {u : Nat → Nat} {h1 : Nat} {w : Nat → Nat} : zstA cA h0 u h1 w 59 := ⟨_, rfl, rfl⟩
theorem zst60 {cA : Nat → ClassId} {h0 : Nat} {u : Nat → Nat} {h1 : Nat} {w : Nat → Nat} : zstA cA h0 u h1 w 60 := ⟨_, rfl, rfl⟩
theorem zst61 {cA : Nat → ClassId} {h0 : Nat} {u : Nat → Nat} {h1 : Nat} {w : Nat → Nat} : zstA cA h0 u h1 w 61 := ⟨_, rfl, rfl⟩
theorem zst62 {cA : Nat → ClassId} {h0 : Nat} {u : Nat → Nat} {h1 : Nat} {w : Nat → Nat} : zstA cA h0 u h1 w 62 := ⟨_, rfl, rfl⟩
theorem zst63 {cA : Nat → ClassId} {h0 : Nat} {u : Nat → Nat} {h1 : Nat} {w : Nat → Nat} : zstA cA h0 u h1 w 63 := ⟨_, rfl, rfl⟩
theorem zst64 {cA : Nat → ClassId} {h0 : Nat} {u : Nat → Nat} {h1 : Nat} {w : Nat → Nat} : zstA cA h0 u h1 w 64 := ⟨_, rfl, rfl⟩
theorem zst65 {cA : Nat → ClassId} {h0 : Nat} {u : Nat → Nat} {h1 : Nat} {w : Nat → Nat} : zstA cA h0 u h1 w 65 := ⟨_, rfl, rfl⟩
theorem zst66 {cA : Nat → ClassId} {h0 : Nat} {u : Nat → Nat} {h1 : Nat} {w : Nat → Nat} : zstA cA h0 u h1 w 66 := ⟨_, rfl, rfl⟩
theorem zst67 {cA : Nat → ClassId} {h0 : Nat} {u : Nat → Nat} {h1 : Nat} {w : Nat → Nat} : zstA cA h0 u h1 w 67 := ⟨_, rfl, rfl⟩
theorem zst68 {cA : Nat → ClassId} {h0 : Nat} {u : Nat → Nat} {h1 : Nat} {w : Nat → Nat} : zstA cA h0 u h1 w 68 := ⟨_, rfl, rfl⟩
theorem zst69 {cA : Nat → ClassId} {h0 : Nat} {u : Nat → Nat} {h1 : Nat} {w : Nat → Nat} : zstA cA h0 u h1 w 69 := ⟨_, rfl, rfl⟩
theorem zst70 {cA : Nat → ClassId} {h0 : Nat} {u : Nat → Nat} {h1 : Nat} {w : Nat → Nat} : zstA cA h0 u h1 w 70 := ⟨_, rfl, rfl⟩
theorem zst71 {cA : Nat → ClassId} {h0 : Nat} {u : Nat → Nat} {h1 : Nat} {w : Nat → Nat} : zstA cA h0 u h1 w 71 := ⟨_, rfl, rfl⟩
theorem zst72 {cA : Nat → ClassId} {h0 : Nat} {u : Nat → Nat} {h1 : Nat} {w : Nat → Nat} : zstA cA h0 u h1 w 72 := ⟨_, rfl, rfl⟩
theorem zst73 {cA : Nat → ClassId} {h0 : Nat} {u : Nat → Nat} {h1 : Nat} {w : Nat → Nat} : zstA cA h0 u h1 w 73 := ⟨_, rfl, rfl⟩
theorem zst74 {cA : Nat → ClassId} {h0 : Nat} {u : Nat → Nat} {h1 : Nat} {w : Nat → Nat} : zstA cA h0 u h1 w 74 := ⟨_, rfl, rfl⟩
theorem zst75 {cA : Nat → ClassId} {h0 : Nat} {u : Nat → Nat} {h1 : Nat} {w : Nat → Nat} : zstA cA h0 u h1 w 75 := ⟨_, rfl, rfl⟩
theorem zst76 {cA : Nat → ClassId} {h0 : Nat} {u : Nat → Nat} {h1 : Nat} {w : Nat → Nat} : zstA cA h0 u h1 w 76 := ⟨_, rfl, rfl⟩
theorem zst77 {cA : Nat → ClassId} {h0 : Nat} {u : Nat → Nat} {h1 : Nat} {w : Nat → Nat} : zstA cA h0 u h1 w 77 := ⟨_, rfl, rfl⟩
theorem zst78 {cA : Nat → ClassId} {h0 : Nat} {u : Nat → Nat} {h1 : Nat} {w : Nat → Nat} : zstA cA h0 u h1 w 78 := ⟨_, rfl, rfl⟩
theorem zst79 {cA : Nat → ClassId} {h0 : Nat} {u : Nat → Nat} {h1 : Nat} {w : Nat → Nat} : zstA cA h0 u h1 w 79 := ⟨_, rfl, rfl⟩
set_option maxRecDepth 100000 in
theorem zst_all {cA : Nat → ClassId} {h0 : Nat} {u : Nat → Nat} {h1 : Nat} {w : Nat → Nat} : ∀ k, k < 80 → zstA cA h0 u h1 w k := by
  intro k hk
  by_cases h0_80 : k < 40
  · by_cases h0_40 : k < 20
    · by_cases h0_20 : k < 10
      · by_cases h0_10 : k < 5
        · by_cases h0_5 : k < 2
          · by_cases h0_2 : k < 1
            · obtain rfl : k = 0 := by omega
              exact zst0
            · obtain rfl : k = 1 := by omega
              exact zst1
          · by_cases h2_5 : k < 3
            · obtain rfl : k = 2 := by omega
              exact zst2
            · by_cases h3_5 : k < 4
              · obtain rfl : k = 3 := by omega
                exact zst3
              · obtain rfl : k = 4 := by omega
                exact zst4
        · by_cases h5_10 : k < 7
          · by_cases h5_7 : k < 6
            · obtain rfl : k = 5 := by omega
              exact zst5
            · obtain rfl : k = 6 := by omega
              exact zst6
          · by_cases h7_10 : k < 8
            · obtain rfl : k = 7 := by omega
              exact zst7
            · by_cases h8_10 : k < 9
              · obtain rfl : k = 8 := by omega
                exact zst8
              · obtain rfl : k = 9 := by omega
                exact zst9
      · by_cases h10_20 : k < 15
        · by_cases h10_15 : k < 12
          · by_cases h10_12 : k < 11
            · obtain rfl : k = 10 := by omega
              exact zst10
            · obtain rfl : k = 11 := by omega
              exact zst11
          · by_cases h12_15 : k < 13
            · obtain rfl : k = 12 := by omega
              exact zst12
            · by_cases h13_15 : k < 14
              · obtain rfl : k = 13 := by omega
                exact zst13
              · obtain rfl : k = 14 := by omega
                exact zst14
        · by_cases h15_20 : k < 17
          · by_cases h15_17 : k < 16
            · obtain rfl : k = 15 := by omega
              exact zst15
            · obtain rfl : k = 16 := by omega
              exact zst16
          · by_cases h17_20 : k < 18
            · obtain rfl : k = 17 := by omega
              exact zst17
            · by_cases h18_20 : k < 19
              · obtain rfl : k = 18 := by omega
                exact zst18
              · obtain rfl : k = 19 := by omega
                exact zst19
    · by_cases h20_40 : k < 30
      · by_cases h20_30 : k < 25
        · by_cases h20_25 : k < 22
          · by_cases h20_22 : k < 21
            · obtain rfl : k = 20 := by omega
              exact zst20
            · obtain rfl : k = 21 := by omega
              exact zst21
          · by_cases h22_25 : k < 23
            · obtain rfl : k = 22 := by omega
              exact zst22
            · by_cases h23_25 : k < 24
              · obtain rfl : k = 23 := by omega
                exact zst23
              · obtain rfl : k = 24 := by omega
                exact zst24
        · by_cases h25_30 : k < 27
          · by_cases h25_27 : k < 26
            · obtain rfl : k = 25 := by omega
              exact zst25
            · obtain rfl : k = 26 := by omega
              exact zst26
          · by_cases h27_30 : k < 28
            · obtain rfl : k = 27 := by omega
              exact zst27
            · by_cases h28_30 : k < 29
              · obtain rfl : k = 28 := by omega
                exact zst28
              · obtain rfl : k = 29 := by omega
                exact zst29
      · by_cases h30_40 : k < 35
        · by_cases h30_35 : k < 32
          · by_cases h30_32 : k < 31
            · obtain rfl : k = 30 := by omega
              exact zst30
            · obtain rfl : k = 31 := by omega
              exact zst31
          · by_cases h32_35 : k < 33
            · obtain rfl : k = 32 := by omega
              exact zst32
            · by_cases h33_35 : k < 34
              · obtain rfl : k = 33 := by omega
                exact zst33
              · obtain rfl : k = 34 := by omega
                exact zst34
        · by_cases h35_40 : k < 37
          · by_cases h35_37 : k < 36
            · obtain rfl : k = 35 := by omega
              exact zst35
            · obtain rfl : k = 36 := by omega
              exact zst36
          · by_cases h37_40 : k < 38
            · obtain rfl : k = 37 := by omega
              exact zst37
            · by_cases h38_40 : k < 39
              · obtain rfl : k = 38 := by omega
                exact zst38
              · obtain rfl : k = 39 := by omega
                exact zst39
  · by_cases h40_80 : k < 60
    · by_cases h40_60 : k < 50
      · by_cases h40_50 : k < 45
        · by_cases h40_45 : k < 42
          · by_cases h40_42 : k < 41
            · obtain rfl : k = 40 := by omega
              exact zst40
            · obtain rfl : k = 41 := by omega
              exact zst41
          · by_cases h42_45 : k < 43
            · obtain rfl : k = 42 := by omega
              exact zst42
            · by_cases h43_45 : k < 44
              · obtain rfl : k = 43 := by omega
                exact zst43
              · obtain rfl : k = 44 := by omega
                exact zst44
        · by_cases h45_50 : k < 47
          · by_cases h45_47 : k < 46
            · obtain rfl : k = 45 := by omega
              exact zst45
            · obtain rfl : k = 46 := by omega
              exact zst46
          · by_cases h47_50 : k < 48
            · obtain rfl : k = 47 := by omega
              exact zst47
            · by_cases h48_50 : k < 49
              · obtain rfl : k = 48 := by omega
                exact zst48
              · obtain rfl : k = 49 := by omega
                exact zst49
      · by_cases h50_60 : k < 55
        · by_cases h50_55 : k < 52
          · by_cases h50_52 : k < 51
            · obtain rfl : k = 50 := by omega
              exact zst50
            · obtain rfl : k = 51 := by omega
              exact zst51
          · by_cases h52_55 : k < 53
            · obtain rfl : k = 52 := by omega
              exact zst52
            · by_cases h53_55 : k < 54
              · obtain rfl : k = 53 := by omega
                exact zst53
              · obtain rfl : k = 54 := by omega
                exact zst54
        · by_cases h55_60 : k < 57
          · by_cases h55_57 : k < 56
            · obtain rfl : k = 55 := by omega
              exact zst55
            · obtain rfl : k = 56 := by omega
              exact zst56
          · by_cases h57_60 : k < 58
            · obtain rfl : k = 57 := by omega
              exact zst57
            · by_cases h58_60 : k < 59
              · obtain rfl : k = 58 := by omega
                exact zst58
              · obtain rfl : k = 59 := by omega
                exact zst59
    · by_cases h60_80 : k < 70
      · by_cases h60_70 : k < 65
        · by_cases h60_65 : k < 62
          · by_cases h60_62 : k < 61
            · obtain rfl : k = 60 := by omega
              exact zst60
            · obtain rfl : k = 61 := by omega
              exact zst61
          · by_cases h62_65 : k < 63
            · obtain rfl : k = 62 := by omega
              exact zst62
            · by_cases h63_65 : k < 64
              · obtain rfl : k = 63 := by omega
                exact zst63
              · obtain rfl : k = 64 := by omega
                exact zst64
        · by_cases h65_70 : k < 67
          · by_cases h65_67 : k < 66
            · obtain rfl : k = 65 := by omega
              exact zst65
            · obtain rfl : k = 66 := by omega
              exact zst66
          · by_cases h67_70 : k < 68
            · obtain rfl : k = 67 := by omega
              exact zst67
            · by_cases h68_70 : k < 69
              · obtain rfl : k = 68 := by omega
                exact zst68
              · obtain rfl : k = 69 := by omega
                exact zst69
      · by_cases h70_80 : k < 75
        · by_cases h70_75 : k < 72
          · by_cases h70_72 : k < 71
            · obtain rfl : k = 70 := by omega
              exact zst70
            · obtain rfl : k = 71 := by omega
              exact zst71
          · by_cases h72_75 : k < 73
            · obtain rfl : k = 72 := by omega
              exact zst72
            · by_cases h73_75 : k < 74
              · obtain rfl : k = 73 := by omega
                exact zst73
              · obtain rfl : k = 74 := by omega
                exact zst74
        · by_cases h75_80 : k < 77
          · by_cases h75_77 : k < 76
            · obtain rfl : k = 75 := by omega
              exact zst75
            · obtain rfl : k = 76 := by omega
              exact zst76
          · by_cases h77_80 : k < 78
            · obtain rfl : k = 77 := by omega
              exact zst77
            · by_cases h78_80 : k < 79
              · obtain rfl : k = 78 := by omega
                exact zst78
              · obtain rfl : k = 79 := by omega
                exact zst79
