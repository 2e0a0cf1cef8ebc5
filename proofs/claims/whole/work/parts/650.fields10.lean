theorem fqbZJ0_isLatin1_aae02_17 {k0 : Nat}  {rc : Nat → List Int32 → List Int64 → Mem → Option (Int32 × Mem)} {n : Nat} {r : Int32} {M' : Mem} (hrc : ∀ pc li lj M, rc pc li lj M = some (r, M') → Fq CSX [] M M')  {M : Mem} (hf : bZJ0_isLatin1_aae02_17 k0 rc n  M = some (r, M')) : Fq CSX [] M M' := by
  unfold bZJ0_isLatin1_aae02_17 at hf
  exact Fq.of hf
theorem fqbZJ0_isLatin1_aae02_0 {k0 : Nat}  {rc : Nat → List Int32 → List Int64 → Mem → Option (Int32 × Mem)} {n : Nat} {r : Int32} {M' : Mem} (hrc : ∀ pc li lj M, rc pc li lj M = some (r, M') → Fq CSX [] M M')  {M : Mem} (hf : bZJ0_isLatin1_aae02_0 k0 rc n  M = some (r, M')) : Fq CSX [] M M' := by
  unfold bZJ0_isLatin1_aae02_0 at hf
  by_cases c1 : (1 : Int32) = 0
  · replace hf := ite_t c1 hf
    exact fqbZJ0_isLatin1_aae02_17  hrc hf
  · replace hf := ite_f c1 hf
    by_cases c2 : (0 : Int32) = 0
    · replace hf := ite_t c2 hf
      exact Fq.of hf
    · replace hf := ite_f c2 hf
      exact fqbZJ0_isLatin1_aae02_17  hrc hf
theorem fqZJ0_isLatin1_aae02 {k0 : Nat}  {n : Nat}  {M M' : Mem} {r : Int32} (hf : fZJ0_isLatin1_aae02 n k0  M = some (r, M')) : Fq CSX [] M M' := fqbZJ0_isLatin1_aae02_0  (fun _ _ _ _ h => by cases h) hf
theorem fqbZJ0_coder_7d493_0 {k0 : Nat}  {rc : Nat → List Int32 → List Int64 → Mem → Option (Int32 × Mem)} {n : Nat} {r : Int32} {M' : Mem} (hrc : ∀ pc li lj M, rc pc li lj M = some (r, M') → Fq CSX [] M M')  {M : Mem} (hf : bZJ0_coder_7d493_0 k0 rc n  M = some (r, M')) : Fq CSX [] M M' := by
  unfold bZJ0_coder_7d493_0 at hf
  by_cases c1 : (1 : Int32) = 0
  · replace hf := ite_t c1 hf
    exact Fq.of hf
  · replace hf := ite_f c1 hf
    exact Fq.of hf
theorem fqZJ0_coder_7d493 {k0 : Nat}  {n : Nat}  {M M' : Mem} {r : Int32} (hf : fZJ0_coder_7d493 n k0  M = some (r, M')) : Fq CSX [] M M' := fqbZJ0_coder_7d493_0  (fun _ _ _ _ h => by cases h) hf
theorem fqbZJ0_length_8abf5_0 {k0 : Nat}  {rc : Nat → List Int32 → List Int64 → Mem → Option (Int32 × Mem)} {n : Nat} {r : Int32} {M' : Mem} (hrc : ∀ pc li lj M, rc pc li lj M = some (r, M') → Fq CSX [] M M')  {M : Mem} (hf : bZJ0_length_8abf5_0 k0 rc n  M = some (r, M')) : Fq CSX [] M M' := by
  unfold bZJ0_length_8abf5_0 at hf
  obtain ⟨r1, M2, g1, hf⟩ := bnd_s hf
  refine Fq.trans (Fq.mono (fqZJ0_coder_7d493  g1) (by decide)) ?_
  exact Fq.of hf
theorem fqZJ0_length_8abf5 {k0 : Nat}  {n : Nat}  {M M' : Mem} {r : Int32} (hf : fZJ0_length_8abf5 n k0  M = some (r, M')) : Fq CSX [] M M' := fqbZJ0_length_8abf5_0  (fun _ _ _ _ h => by cases h) hf
theorem fqbZJ1_canEncode_9a6ad_15   {rc : Nat → List Int32 → List Int64 → Mem → Option (Int32 × Mem)} {n : Nat} {r : Int32} {M' : Mem} (hrc : ∀ pc li lj M, rc pc li lj M = some (r, M') → Fq CSX [] M M')  {M : Mem} (hf : bZJ1_canEncode_9a6ad_15  rc n  M = some (r, M')) : Fq CSX [] M M' := by
  unfold bZJ1_canEncode_9a6ad_15 at hf
  exact Fq.of hf
theorem fqbZJ1_canEncode_9a6ad_0   {rc : Nat → List Int32 → List Int64 → Mem → Option (Int32 × Mem)} {n : Nat} {r : Int32} {M' : Mem} (hrc : ∀ pc li lj M, rc pc li lj M = some (r, M') → Fq CSX [] M M') {a0 : Int32} {M : Mem} (hf : bZJ1_canEncode_9a6ad_0  rc n a0 M = some (r, M')) : Fq CSX [] M M' := by
  unfold bZJ1_canEncode_9a6ad_0 at hf
  by_cases c1 : a0 < 0
  · replace hf := ite_t c1 hf
    exact fqbZJ1_canEncode_9a6ad_15  hrc hf
  · replace hf := ite_f c1 hf
    by_cases c2 : (255 : Int32) < a0
    · replace hf := ite_t c2 hf
      exact fqbZJ1_canEncode_9a6ad_15  hrc hf
    · replace hf := ite_f c2 hf
      exact Fq.of hf
theorem fqZJ1_canEncode_9a6ad   {n : Nat} {a0 : Int32} {M M' : Mem} {r : Int32} (hf : fZJ1_canEncode_9a6ad n  a0 M = some (r, M')) : Fq CSX [] M M' := fqbZJ1_canEncode_9a6ad_0  (fun _ _ _ _ h => by cases h) hf
theorem fqbZJ1_indexOfChar_4cfef_7 {k0 : Nat}  {rc : Nat → List Int32 → List Int64 → Mem → Option (Int32 × Mem)} {n : Nat} {r : Int32} {M' : Mem} (hrc : ∀ pc li lj M, rc pc li lj M = some (r, M') → Fq CSX [] M M') {i3 : Int32} {i4 : Int32} {i5 : Int32} {M : Mem} (hf : bZJ1_indexOfChar_4cfef_7 k0 rc n i3 i4 i5 M = some (r, M')) : Fq CSX [] M M' := by
  unfold bZJ1_indexOfChar_4cfef_7 at hf
  by_cases c1 : i3 ≤ i5
  · replace hf := ite_t c1 hf
    exact Fq.of hf
  · replace hf := ite_f c1 hf
    replace hf := chk_2 hf
    by_cases c2 : ((strByts.getD k0 []).getD i5.toNatClampNeg 0) = i4
    · replace hf := ite_t c2 hf
      exact Fq.of hf
    · replace hf := ite_f c2 hf
      obtain ⟨v5, ev5, hf⟩ := lt_x hf
      exact hrc _ _ _ _ hf
theorem fqbZJ1_indexOfChar_4cfef_0 {k0 : Nat}  {rc : Nat → List Int32 → List Int64 → Mem → Option (Int32 × Mem)} {n : Nat} {r : Int32} {M' : Mem} (hrc : ∀ pc li lj M, rc pc li lj M = some (r, M') → Fq CSX [] M M') {a1 : Int32} {a2 : Int32} {a3 : Int32} {M : Mem} (hf : bZJ1_indexOfChar_4cfef_0 k0 rc n a1 a2 a3 M = some (r, M')) : Fq CSX [] M M' := by
  unfold bZJ1_indexOfChar_4cfef_0 at hf
  obtain ⟨v1, ev1, hf⟩ := lt_x hf
  exact fqbZJ1_indexOfChar_4cfef_7  hrc hf
theorem fqlZJ1_indexOfChar_4cfef {k0 : Nat}  {r : Int32} {M' : Mem} (n : Nat) : ∀ pc li lj M, rZJ1_indexOfChar_4cfef k0 n pc li lj M = some (r, M') → Fq CSX [] M M' := by
  induction n with
  | zero => intro pc li lj M hf; cases hf
  | succ n ih =>
    intro pc li lj M hf
    rw [rZJ1_indexOfChar_4cfef] at hf
    dsimp only at hf
    by_cases c7 : pc = 7
    · replace hf := ite_t c7 hf
      split at hf
      · exact fqbZJ1_indexOfChar_4cfef_7  ih hf
      · cases hf
    replace hf := ite_f c7 hf
    cases hf
theorem fqZJ1_indexOfChar_4cfef {k0 : Nat}  {n : Nat} {a1 : Int32} {a2 : Int32} {a3 : Int32} {M M' : Mem} {r : Int32} (hf : fZJ1_indexOfChar_4cfef n k0 a1 a2 a3 M = some (r, M')) : Fq CSX [] M M' := fqbZJ1_indexOfChar_4cfef_0  (fqlZJ1_indexOfChar_4cfef  n) hf
theorem fqbZJ1_indexOf_4cfef_0 {k0 : Nat}  {rc : Nat → List Int32 → List Int64 → Mem → Option (Int32 × Mem)} {n : Nat} {r : Int32} {M' : Mem} (hrc : ∀ pc li lj M, rc pc li lj M = some (r, M') → Fq CSX [] M M') {a1 : Int32} {a2 : Int32} {a3 : Int32} {M : Mem} (hf : bZJ1_indexOf_4cfef_0 k0 rc n a1 a2 a3 M = some (r, M')) : Fq CSX [] M M' := by
  unfold bZJ1_indexOf_4cfef_0 at hf
  obtain ⟨r1, M2, g1, hf⟩ := bnd_s hf
  refine Fq.trans (Fq.mono (fqZJ1_canEncode_9a6ad  g1) (by decide)) ?_
  by_cases c2 : r1 = 0
  · replace hf := ite_t c2 hf
    exact Fq.of hf
  · replace hf := ite_f c2 hf
    obtain ⟨v5, ev5, hf⟩ := lt_x hf
    obtain ⟨v6, ev6, hf⟩ := lt_x hf
    by_cases c3 : v5 < v6
    · replace hf := ite_t c3 hf
      obtain ⟨r8, M9, g4, hf⟩ := bnd_s hf
      refine Fq.trans (Fq.mono (fqZJ1_indexOfChar_4cfef  g4) (by decide)) ?_
      exact Fq.of hf
    · replace hf := ite_f c3 hf
      exact Fq.of hf
theorem fqZJ1_indexOf_4cfef {k0 : Nat}  {n : Nat} {a1 : Int32} {a2 : Int32} {a3 : Int32} {M M' : Mem} {r : Int32} (hf : fZJ1_indexOf_4cfef n k0 a1 a2 a3 M = some (r, M')) : Fq CSX [] M M' := fqbZJ1_indexOf_4cfef_0  (fun _ _ _ _ h => by cases h) hf
theorem fqbZJ0_indexOf_7cf53_0 {k0 : Nat}  {rc : Nat → List Int32 → List Int64 → Mem → Option (Int32 × Mem)} {n : Nat} {r : Int32} {M' : Mem} (hrc : ∀ pc li lj M, rc pc li lj M = some (r, M') → Fq CSX [] M M') {a1 : Int32} {a2 : Int32} {M : Mem} (hf : bZJ0_indexOf_7cf53_0 k0 rc n a1 a2 M = some (r, M')) : Fq CSX [] M M' := by
  unfold bZJ0_indexOf_7cf53_0 at hf
  obtain ⟨r1, M2, g1, hf⟩ := bnd_s hf
  refine Fq.trans (Fq.mono (fqZJ0_isLatin1_aae02  g1) (by decide)) ?_
  by_cases c2 : r1 = 0
  · replace hf := ite_t c2 hf
    cases hf
  · replace hf := ite_f c2 hf
    obtain ⟨r5, M6, g3, hf⟩ := bnd_s hf
    refine Fq.trans (Fq.mono (fqZJ0_length_8abf5  g3) (by decide)) ?_
    obtain ⟨r8, M9, g4, hf⟩ := bnd_s hf
    refine Fq.trans (Fq.mono (fqZJ1_indexOf_4cfef  g4) (by decide)) ?_
    exact Fq.of hf
theorem fqZJ0_indexOf_7cf53 {k0 : Nat}  {n : Nat} {a1 : Int32} {a2 : Int32} {M M' : Mem} {r : Int32} (hf : fZJ0_indexOf_7cf53 n k0 a1 a2 M = some (r, M')) : Fq CSX [] M M' := fqbZJ0_indexOf_7cf53_0  (fun _ _ _ _ h => by cases h) hf
theorem fqbZJ0_indexOf_0f7a4_0 {k0 : Nat}  {rc : Nat → List Int32 → List Int64 → Mem → Option (Int32 × Mem)} {n : Nat} {r : Int32} {M' : Mem} (hrc : ∀ pc li lj M, rc pc li lj M = some (r, M') → Fq CSX [] M M') {a1 : Int32} {M : Mem} (hf : bZJ0_indexOf_0f7a4_0 k0 rc n a1 M = some (r, M')) : Fq CSX [] M M' := by
  unfold bZJ0_indexOf_0f7a4_0 at hf
  obtain ⟨r1, M2, g1, hf⟩ := bnd_s hf
  refine Fq.trans (Fq.mono (fqZJ0_indexOf_7cf53  g1) (by decide)) ?_
  exact Fq.of hf
theorem fqZJ0_indexOf_0f7a4 {k0 : Nat}  {n : Nat} {a1 : Int32} {M M' : Mem} {r : Int32} (hf : fZJ0_indexOf_0f7a4 n k0 a1 M = some (r, M')) : Fq CSX [] M M' := fqbZJ0_indexOf_0f7a4_0  (fun _ _ _ _ h => by cases h) hf
theorem fqb3_beginFactor_0   {rc : Nat → List Int32 → List Int64 → Mem → Option (Int32 × Mem)} {n : Nat} {r : Int32} {M' : Mem} (hrc : ∀ pc li lj M, rc pc li lj M = some (r, M') → Fq CSX [(17, 6), (17, 7), (17, 8), (17, 9), (17, 10), (17, 11)] M M') {a1 : Int32} {M : Mem} (hf : b3_beginFactor_0  rc n a1 M = some (r, M')) : Fq CSX [(17, 6), (17, 7), (17, 8), (17, 9), (17, 10), (17, 11)] M M' := by
  unfold b3_beginFactor_0 at hf
  by_cases c1 : a1 = (91 : Int32)
  · replace hf := ite_t c1 hf
    obtain ⟨r17, M18, g2, hf⟩ := bnd_s hf
    refine Fq.trans (Fq.mono (fq3_open  g2) (by decide)) ?_
    exact Fq.of hf
  · replace hf := ite_f c1 hf
    obtain ⟨r2, M3, g3, hf⟩ := bnd_s hf
    refine Fq.trans (Fq.mono (fq11_isDigit  g3) (by decide)) ?_
    by_cases c4 : r2 = 0
    · replace hf := ite_t c4 hf
      obtain ⟨r6, M7, g5, hf⟩ := bnd_s hf
      refine Fq.trans (Fq.mono (fqZJ0_indexOf_0f7a4  g5) (by decide)) ?_
      by_cases c6 : 0 ≤ r6
      · replace hf := ite_t c6 hf
        obtain ⟨r10, M11, g7, hf⟩ := bnd_s hf
        refine Fq.trans (Fq.mono (fq3_add  g7) (by decide)) ?_
        obtain ⟨M13, eM13, hf⟩ := lt_x hf
        refine Fq_wI eM13 (by decide) ?_
        exact Fq.of hf
      · replace hf := ite_f c6 hf
        exact Fq.of hf
    · replace hf := ite_f c4 hf
      obtain ⟨M14, eM14, hf⟩ := lt_x hf
      refine Fq_wI eM14 (by decide) ?_
      obtain ⟨M15, eM15, hf⟩ := lt_x hf
      refine Fq_wI eM15 (by decide) ?_
      obtain ⟨M16, eM16, hf⟩ := lt_x hf
      refine Fq_wI eM16 (by decide) ?_
      exact Fq.of hf
theorem fq3_beginFactor   {n : Nat} {a1 : Int32} {M M' : Mem} {r : Int32} (hf : f3_beginFactor n  a1 M = some (r, M')) : Fq CSX [(17, 6), (17, 7), (17, 8), (17, 9), (17, 10), (17, 11)] M M' := fqb3_beginFactor_0  (fun _ _ _ _ h => by cases h) hf
theorem fqb3_beginTest_0   {rc : Nat → List Int32 → List Int64 → Mem → Option (Int32 × Mem)} {n : Nat} {r : Int32} {M' : Mem} (hrc : ∀ pc li lj M, rc pc li lj M = some (r, M') → Fq CSX [(17, 6), (17, 7), (17, 8), (17, 9), (17, 10), (17, 11)] M M') {a1 : Int32} {M : Mem} (hf : b3_beginTest_0  rc n a1 M = some (r, M')) : Fq CSX [(17, 6), (17, 7), (17, 8), (17, 9), (17, 10), (17, 11)] M M' := by
  unfold b3_beginTest_0 at hf
  by_cases c1 : a1 = (33 : Int32)
  · replace hf := ite_t c1 hf
    obtain ⟨r9, M10, g2, hf⟩ := bnd_s hf
    refine Fq.trans (Fq.mono (fq3_open  g2) (by decide)) ?_
    exact Fq.of hf
  · replace hf := ite_f c1 hf
    by_cases c3 : a1 = (40 : Int32)
    · replace hf := ite_t c3 hf
      obtain ⟨r6, M7, g4, hf⟩ := bnd_s hf
      refine Fq.trans (Fq.mono (fq3_open  g4) (by decide)) ?_
      exact Fq.of hf
    · replace hf := ite_f c3 hf
      obtain ⟨r3, M4, g5, hf⟩ := bnd_s hf
      refine Fq.trans (Fq.mono (fq3_beginFactor  g5) (by decide)) ?_
      exact Fq.of hf
theorem fq3_beginTest   {n : Nat} {a1 : Int32} {M M' : Mem} {r : Int32} (hf : f3_beginTest n  a1 M = some (r, M')) : Fq CSX [(17, 6), (17, 7), (17, 8), (17, 9), (17, 10), (17, 11)] M M' := fqb3_beginTest_0  (fun _ _ _ _ h => by cases h) hf
theorem fqb3_goOnBehindFactor_84   {rc : Nat → List Int32 → List Int64 → Mem → Option (Int32 × Mem)} {n : Nat} {r : Int32} {M' : Mem} (hrc : ∀ pc li lj M, rc pc li lj M = some (r, M') → Fq CSX [(17, 5), (17, 6), (17, 7), (17, 8), (17, 9)] M M') {i4 : Int32} {s0 : Int32} {M : Mem} (hf : b3_goOnBehindFactor_84  rc n i4 s0 M = some (r, M')) : Fq CSX [(17, 5), (17, 6), (17, 7), (17, 8), (17, 9)] M M' := by
  unfold b3_goOnBehindFactor_84 at hf
  by_cases c1 : s0 = 0
  · replace hf := ite_t c1 hf
    exact Fq.of hf
  · replace hf := ite_f c1 hf
    obtain ⟨r47, M48, g2, hf⟩ := bnd_s hf
    refine Fq.trans (Fq.mono (fq3_await  g2) (by decide)) ?_
    exact Fq.of hf
theorem fqb3_goOnBehindFactor_83   {rc : Nat → List Int32 → List Int64 → Mem → Option (Int32 × Mem)} {n : Nat} {r : Int32} {M' : Mem} (hrc : ∀ pc li lj M, rc pc li lj M = some (r, M') → Fq CSX [(17, 5), (17, 6), (17, 7), (17, 8), (17, 9)] M M') {i4 : Int32} {M : Mem} (hf : b3_goOnBehindFactor_83  rc n i4 M = some (r, M')) : Fq CSX [(17, 5), (17, 6), (17, 7), (17, 8), (17, 9)] M M' := by
  unfold b3_goOnBehindFactor_83 at hf
  exact fqb3_goOnBehindFactor_84  hrc hf
theorem fqb3_goOnBehindFactor_0   {rc : Nat → List Int32 → List Int64 → Mem → Option (Int32 × Mem)} {n : Nat} {r : Int32} {M' : Mem} (hrc : ∀ pc li lj M, rc pc li lj M = some (r, M') → Fq CSX [(17, 5), (17, 6), (17, 7), (17, 8), (17, 9)] M M') {a1 : Int32} {M : Mem} (hf : b3_goOnBehindFactor_0  rc n a1 M = some (r, M')) : Fq CSX [(17, 5), (17, 6), (17, 7), (17, 8), (17, 9)] M M' := by
  unfold b3_goOnBehindFactor_0 at hf
  obtain ⟨r1, M2, g1, hf⟩ := bnd_s hf
  refine Fq.trans (Fq.mono (fqZJ0_indexOf_0f7a4  g1) (by decide)) ?_
  by_cases c2 : r1 < 0
  · replace hf := ite_t c2 hf
    replace hf := chk_2 hf
    obtain ⟨r6, M7, g3, hf⟩ := bnd_s hf
    refine Fq.trans (Fq.mono (fq3_settle  g3) (by decide)) ?_
    obtain ⟨r9, M10, g4, hf⟩ := bnd_s hf
    refine Fq.trans (Fq.mono (fq3_innermost  g4) (by decide)) ?_
    obtain ⟨r12, M13, g5, hf⟩ := bnd_s hf
    refine Fq.trans (Fq.mono (fqZJ0_indexOf_0f7a4  g5) (by decide)) ?_
    by_cases c6 : r12 < 0
    · replace hf := ite_t c6 hf
      by_cases c7 : a1 = (93 : Int32)
      · replace hf := ite_t c7 hf
        by_cases c8 : r9 = (14 : Int32)
        · replace hf := ite_t c8 hf
          obtain ⟨r30, M31, g9, hf⟩ := bnd_s hf
          refine Fq.trans (Fq.mono (fq3_close  g9) (by decide)) ?_
          exact Fq.of hf
        · replace hf := ite_f c8 hf
          exact Fq.of hf
      · replace hf := ite_f c7 hf
        by_cases c10 : a1 = (40 : Int32)
        · replace hf := ite_t c10 hf
          by_cases c11 : r9 = (15 : Int32)
          · replace hf := ite_t c11 hf
            obtain ⟨r26, M27, g12, hf⟩ := bnd_s hf
            refine Fq.trans (Fq.mono (fq3_openRule  g12) (by decide)) ?_
            exact Fq.of hf
          · replace hf := ite_f c11 hf
            exact Fq.of hf
        · replace hf := ite_f c10 hf
          obtain ⟨r18, M19, g13, hf⟩ := bnd_s hf
          refine Fq.trans (Fq.mono (fq3_isComparison  g13) (by decide)) ?_
          by_cases c14 : r18 = 0
          · replace hf := ite_t c14 hf
            exact Fq.of hf
          · replace hf := ite_f c14 hf
            obtain ⟨r22, M23, g15, hf⟩ := bnd_s hf
            refine Fq.trans (Fq.mono (fq3_goOnBehindTest  g15) (by decide)) ?_
            exact Fq.of hf
    · replace hf := ite_f c6 hf
      by_cases c16 : r9 = (15 : Int32)
      · replace hf := ite_t c16 hf
        exact fqb3_goOnBehindFactor_83  hrc hf
      · replace hf := ite_f c16 hf
        by_cases c17 : r9 = (14 : Int32)
        · replace hf := ite_t c17 hf
          exact fqb3_goOnBehindFactor_83  hrc hf
        · replace hf := ite_f c17 hf
          obtain ⟨r35, M36, g18, hf⟩ := bnd_s hf
          refine Fq.trans (Fq.mono (fq3_isComparison  g18) (by decide)) ?_
          by_cases c19 : r35 = 0
          · replace hf := ite_t c19 hf
            exact fqb3_goOnBehindFactor_84  hrc hf
          · replace hf := ite_f c19 hf
            exact fqb3_goOnBehindFactor_83  hrc hf
  · replace hf := ite_f c2 hf
    replace hf := chk_2 hf
    obtain ⟨r40, M41, g20, hf⟩ := bnd_s hf
    refine Fq.trans (Fq.mono (fq3_settle  g20) (by decide)) ?_
    obtain ⟨r43, M44, g21, hf⟩ := bnd_s hf
    refine Fq.trans (Fq.mono (fq3_await  g21) (by decide)) ?_
    exact Fq.of hf
theorem fq3_goOnBehindFactor   {n : Nat} {a1 : Int32} {M M' : Mem} {r : Int32} (hf : f3_goOnBehindFactor n  a1 M = some (r, M')) : Fq CSX [(17, 5), (17, 6), (17, 7), (17, 8), (17, 9)] M M' := fqb3_goOnBehindFactor_0  (fun _ _ _ _ h => by cases h) hf
theorem fqb3_readSign_29   {rc : Nat → List Int32 → List Int64 → Mem → Option (Int32 × Mem)} {n : Nat} {r : Int32} {M' : Mem} (hrc : ∀ pc li lj M, rc pc li lj M = some (r, M') → Fq CSX [(17, 5), (17, 6), (17, 7), (17, 8), (17, 9), (17, 10), (17, 11)] M M') {i1 : Int32} {M : Mem} (hf : b3_readSign_29  rc n i1 M = some (r, M')) : Fq CSX [(17, 5), (17, 6), (17, 7), (17, 8), (17, 9), (17, 10), (17, 11)] M M' := by
  unfold b3_readSign_29 at hf
  by_cases c1 : (M.1 17 9) = (0 : Int32)
  · replace hf := ite_t c1 hf
    obtain ⟨r11, M12, g2, hf⟩ := bnd_s hf
    refine Fq.trans (Fq.mono (fq3_beginRule  g2) (by decide)) ?_
    exact Fq.of hf
  · replace hf := ite_f c1 hf
    by_cases c3 : (M.1 17 9) = (1 : Int32)
    · replace hf := ite_t c3 hf
      by_cases c4 : i1 = (40 : Int32)
      · replace hf := ite_t c4 hf
        obtain ⟨r16, M17, g5, hf⟩ := bnd_s hf
        refine Fq.trans (Fq.mono (fq3_openRule  g5) (by decide)) ?_
        exact Fq.of hf
      · replace hf := ite_f c4 hf
        exact Fq.of hf
    · replace hf := ite_f c3 hf
      by_cases c6 : (M.1 17 9) = (2 : Int32)
      · replace hf := ite_t c6 hf
        obtain ⟨r20, M21, g7, hf⟩ := bnd_s hf
        refine Fq.trans (Fq.mono (fq3_beginTest  g7) (by decide)) ?_
        exact Fq.of hf
      · replace hf := ite_f c6 hf
        by_cases c8 : (M.1 17 9) = (3 : Int32)
        · replace hf := ite_t c8 hf
          obtain ⟨r24, M25, g9, hf⟩ := bnd_s hf
          refine Fq.trans (Fq.mono (fq3_beginFactor  g9) (by decide)) ?_
          exact Fq.of hf
        · replace hf := ite_f c8 hf
          by_cases c10 : (M.1 17 9) = (4 : Int32)
          · replace hf := ite_t c10 hf
            obtain ⟨r28, M29, g11, hf⟩ := bnd_s hf
            refine Fq.trans (Fq.mono (fq3_goOnNumber  g11) (by decide)) ?_
            exact Fq.of hf
          · replace hf := ite_f c10 hf
            by_cases c12 : (M.1 17 9) = (5 : Int32)
            · replace hf := ite_t c12 hf
              obtain ⟨r32, M33, g13, hf⟩ := bnd_s hf
              refine Fq.trans (Fq.mono (fq3_goOnBehindFactor  g13) (by decide)) ?_
              exact Fq.of hf
            · replace hf := ite_f c12 hf
              by_cases c14 : (M.1 17 9) = (6 : Int32)
              · replace hf := ite_t c14 hf
                obtain ⟨r36, M37, g15, hf⟩ := bnd_s hf
                refine Fq.trans (Fq.mono (fq3_goOnBehindTest  g15) (by decide)) ?_
                exact Fq.of hf
              · replace hf := ite_f c14 hf
                obtain ⟨r39, M40, g16, hf⟩ := bnd_s hf
                refine Fq.trans (Fq.mono (fq3_endRule  g16) (by decide)) ?_
                exact Fq.of hf
theorem fqb3_readSign_0   {rc : Nat → List Int32 → List Int64 → Mem → Option (Int32 × Mem)} {n : Nat} {r : Int32} {M' : Mem} (hrc : ∀ pc li lj M, rc pc li lj M = some (r, M') → Fq CSX [(17, 5), (17, 6), (17, 7), (17, 8), (17, 9), (17, 10), (17, 11)] M M') {a1 : Int32} {M : Mem} (hf : b3_readSign_0  rc n a1 M = some (r, M')) : Fq CSX [(17, 5), (17, 6), (17, 7), (17, 8), (17, 9), (17, 10), (17, 11)] M M' := by
  unfold b3_readSign_0 at hf
  by_cases c1 : (M.1 17 9) = (4 : Int32)
  · replace hf := ite_t c1 hf
    obtain ⟨r2, M3, g2, hf⟩ := bnd_s hf
    refine Fq.trans (Fq.mono (fq11_isDigit  g2) (by decide)) ?_
    by_cases c3 : r2 = 0
    · replace hf := ite_t c3 hf
      obtain ⟨r6, M7, g4, hf⟩ := bnd_s hf
      refine Fq.trans (Fq.mono (fq3_add  g4) (by decide)) ?_
      obtain ⟨M9, eM9, hf⟩ := lt_x hf
      refine Fq_wI eM9 (by decide) ?_
      exact fqb3_readSign_29  hrc hf
    · replace hf := ite_f c3 hf
      exact fqb3_readSign_29  hrc hf
  · replace hf := ite_f c1 hf
    exact fqb3_readSign_29  hrc hf
theorem fq3_readSign   {n : Nat} {a1 : Int32} {M M' : Mem} {r : Int32} (hf : f3_readSign n  a1 M = some (r, M')) : Fq CSX [(17, 5), (17, 6), (17, 7), (17, 8), (17, 9), (17, 10), (17, 11)] M M' := fqb3_readSign_0  (fun _ _ _ _ h => by cases h) hf
theorem fqb3_read_27   {rc : Nat → List Int32 → List Int64 → Mem → Option (Int32 × Mem)} {n : Nat} {r : Int32} {M' : Mem} (hrc : ∀ pc li lj M, rc pc li lj M = some (r, M') → Fq CSX [(17, 5), (17, 6), (17, 7), (17, 8), (17, 9), (17, 10), (17, 11)] M M') {i2 : Int32} {i3 : Int32} {M : Mem} (hf : b3_read_27  rc n i2 i3 M = some (r, M')) : Fq CSX [(17, 5), (17, 6), (17, 7), (17, 8), (17, 9), (17, 10), (17, 11)] M M' := by
  unfold b3_read_27 at hf
  by_cases c1 : i2 ≤ i3
  · replace hf := ite_t c1 hf
    by_cases c2 : (M.1 17 9) = (7 : Int32)
    · replace hf := ite_t c2 hf
      exact Fq.of hf
    · replace hf := ite_f c2 hf
      obtain ⟨r8, M9, g3, hf⟩ := bnd_s hf
      refine Fq.trans (Fq.mono (fq11_faultAt  g3) (by decide)) ?_
      exact Fq.of hf
  · replace hf := ite_f c1 hf
    obtain ⟨r11, M12, g4, hf⟩ := bnd_s hf
    refine Fq.trans (Fq.mono (fq7_at  g4) (by decide)) ?_
    obtain ⟨r14, M15, g5, hf⟩ := bnd_s hf
    refine Fq.trans (Fq.mono (fq3_readSign  g5) (by decide)) ?_
    by_cases c6 : r14 = 0
    · replace hf := ite_t c6 hf
      obtain ⟨v18, ev18, hf⟩ := lt_x hf
      exact hrc _ _ _ _ hf
    · replace hf := ite_f c6 hf
      obtain ⟨r19, M20, g7, hf⟩ := bnd_s hf
      refine Fq.trans (Fq.mono (fq11_faultAt  g7) (by decide)) ?_
      exact Fq.of hf
theorem fqb3_read_0   {rc : Nat → List Int32 → List Int64 → Mem → Option (Int32 × Mem)} {n : Nat} {r : Int32} {M' : Mem} (hrc : ∀ pc li lj M, rc pc li lj M = some (r, M') → Fq CSX [(17, 5), (17, 6), (17, 7), (17, 8), (17, 9), (17, 10), (17, 11)] M M') {a2 : Int32} {M : Mem} (hf : b3_read_0  rc n a2 M = some (r, M')) : Fq CSX [(17, 5), (17, 6), (17, 7), (17, 8), (17, 9), (17, 10), (17, 11)] M M' := by
  unfold b3_read_0 at hf
  obtain ⟨M1, eM1, hf⟩ := lt_x hf
  refine Fq_wI eM1 (by decide) ?_
  obtain ⟨M2, eM2, hf⟩ := lt_x hf
  refine Fq_wI eM2 (by decide) ?_
  obtain ⟨M3, eM3, hf⟩ := lt_x hf
  refine Fq_wI eM3 (by decide) ?_
  obtain ⟨M4, eM4, hf⟩ := lt_x hf
  refine Fq_wI eM4 (by decide) ?_
  obtain ⟨M5, eM5, hf⟩ := lt_x hf
  refine Fq_wI eM5 (by decide) ?_
  exact fqb3_read_27  hrc hf
theorem fql3_read   {r : Int32} {M' : Mem} (n : Nat) : ∀ pc li lj M, r3_read  n pc li lj M = some (r, M') → Fq CSX [(17, 5), (17, 6), (17, 7), (17, 8), (17, 9), (17, 10), (17, 11)] M M' := by
  induction n with
  | zero => intro pc li lj M hf; cases hf
  | succ n ih =>
    intro pc li lj M hf
    rw [r3_read] at hf
    dsimp only at hf
    by_cases c27 : pc = 27
    · replace hf := ite_t c27 hf
      split at hf
      · exact fqb3_read_27  ih hf
      · cases hf
    replace hf := ite_f c27 hf
    cases hf
theorem fq3_read   {n : Nat} {a2 : Int32} {M M' : Mem} {r : Int32} (hf : f3_read n  a2 M = some (r, M')) : Fq CSX [(17, 5), (17, 6), (17, 7), (17, 8), (17, 9), (17, 10), (17, 11)] M M' := fqb3_read_0  (fql3_read  n) hf
theorem fqb11_law_53   {rc : Nat → List Int32 → List Int64 → Mem → Option (Int32 × Mem)} {n : Nat} {r : Int32} {M' : Mem} (hrc : ∀ pc li lj M, rc pc li lj M = some (r, M') → Fq CSX [(1, 1), (11, 3), (17, 5), (17, 6), (17, 7), (17, 8), (17, 9), (17, 10), (17, 11)] M M') {i2 : Int32} {M : Mem} (hf : b11_law_53  rc n i2 M = some (r, M')) : Fq CSX [(1, 1), (11, 3), (17, 5), (17, 6), (17, 7), (17, 8), (17, 9), (17, 10), (17, 11)] M M' := by
  unfold b11_law_53 at hf
  exact Fq.of hf
theorem fqb11_law_0   {rc : Nat → List Int32 → List Int64 → Mem → Option (Int32 × Mem)} {n : Nat} {r : Int32} {M' : Mem} (hrc : ∀ pc li lj M, rc pc li lj M = some (r, M') → Fq CSX [(1, 1), (11, 3), (17, 5), (17, 6), (17, 7), (17, 8), (17, 9), (17, 10), (17, 11)] M M') {a1 : Int32} {M : Mem} (hf : b11_law_0  rc n a1 M = some (r, M')) : Fq CSX [(1, 1), (11, 3), (17, 5), (17, 6), (17, 7), (17, 8), (17, 9), (17, 10), (17, 11)] M M' := by
  unfold b11_law_0 at hf
  obtain ⟨r1, M2, g1, hf⟩ := bnd_s hf
  refine Fq.trans (Fq.mono (fq7_canGive  g1) (by decide)) ?_
  by_cases c2 : r1 = 0
  · replace hf := ite_t c2 hf
    exact Fq.of hf
  · replace hf := ite_f c2 hf
    obtain ⟨r5, M6, g3, hf⟩ := bnd_s hf
    refine Fq.trans (Fq.mono (fq3_read  g3) (by decide)) ?_
    obtain ⟨M8, eM8, hf⟩ := lt_x hf
    refine Fq_wI eM8 (by decide) ?_
    by_cases c4 : r5 ≤ 0
    · replace hf := ite_t c4 hf
      exact fqb11_law_53  hrc hf
    · replace hf := ite_f c4 hf
      obtain ⟨r10, M11, g5, hf⟩ := bnd_s hf
      refine Fq.trans (Fq.mono (fq2_take  g5) (by decide)) ?_
      exact fqb11_law_53  hrc hf
theorem fq11_law   {n : Nat} {a1 : Int32} {M M' : Mem} {r : Int32} (hf : f11_law n  a1 M = some (r, M')) : Fq CSX [(1, 1), (11, 3), (17, 5), (17, 6), (17, 7), (17, 8), (17, 9), (17, 10), (17, 11)] M M' := fqb11_law_0  (fun _ _ _ _ h => by cases h) hf
