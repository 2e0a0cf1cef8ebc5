theorem fqb9_isWatched_0   {rc : Nat → List Int32 → List Int64 → Mem → Option (Int32 × Mem)} {n : Nat} {r : Int32} {M' : Mem} (hrc : ∀ pc li lj M, rc pc li lj M = some (r, M') → Fq CSX [] M M') {a1 : Int32} {M : Mem} (hf : b9_isWatched_0  rc n a1 M = some (r, M')) : Fq CSX [] M M' := by
  unfold b9_isWatched_0 at hf
  by_cases c1 : (((M.1 25 2) >>> (a1 &&& 31)) &&& (1 : Int32)) = 0
  · replace hf := ite_t c1 hf
    exact Fq.of hf
  · replace hf := ite_f c1 hf
    exact Fq.of hf
theorem fq9_isWatched   {n : Nat} {a1 : Int32} {M M' : Mem} {r : Int32} (hf : f9_isWatched n  a1 M = some (r, M')) : Fq CSX [] M M' := fqb9_isWatched_0  (fun _ _ _ _ h => by cases h) hf
theorem fqb9_weigh_61   {rc : Nat → List Int32 → List Int64 → Mem → Option (Unit × Mem)} {n : Nat} {r : Unit} {M' : Mem} (hrc : ∀ pc li lj M, rc pc li lj M = some (r, M') → Fq CSX [(25, 5), (25, 6), (25, 7)] M M') {i1 : Int32} {i2 : Int32} {s1 : Int32} {s2 : Int32} {M : Mem} (hf : b9_weigh_61  rc n i1 i2 s1 s2 M = some (r, M')) : Fq CSX [(25, 5), (25, 6), (25, 7)] M M' := by
  unfold b9_weigh_61 at hf
  obtain ⟨M15, eM15, hf⟩ := lt_x hf
  refine Fq_wI eM15 (by decide) ?_
  obtain ⟨v16, ev16, hf⟩ := lt_x hf
  exact hrc _ _ _ _ hf
theorem fqb9_weigh_17   {rc : Nat → List Int32 → List Int64 → Mem → Option (Unit × Mem)} {n : Nat} {r : Unit} {M' : Mem} (hrc : ∀ pc li lj M, rc pc li lj M = some (r, M') → Fq CSX [(25, 5), (25, 6), (25, 7)] M M') {i1 : Int32} {i2 : Int32} {M : Mem} (hf : b9_weigh_17  rc n i1 i2 M = some (r, M')) : Fq CSX [(25, 5), (25, 6), (25, 7)] M M' := by
  unfold b9_weigh_17 at hf
  by_cases c1 : (24 : Int32) ≤ i2
  · replace hf := ite_t c1 hf
    exact Fq.of hf
  · replace hf := ite_f c1 hf
    obtain ⟨r5, M6, g2, hf⟩ := bnd_s hf
    refine Fq.trans (Fq.mono (fq2_weightOf  g2) (by decide)) ?_
    replace hf := chk_2 hf
    obtain ⟨M9, eM9, hf⟩ := lt_x hf
    refine Fq_wIn eM9 (by decide) ?_
    obtain ⟨r10, M11, g3, hf⟩ := bnd_s hf
    refine Fq.trans (Fq.mono (fq9_isWatched  g3) (by decide)) ?_
    by_cases c4 : r10 = 0
    · replace hf := ite_t c4 hf
      replace hf := chk_2 hf
      exact fqb9_weigh_61  hrc hf
    · replace hf := ite_f c4 hf
      exact fqb9_weigh_61  hrc hf
theorem fqb9_weigh_0   {rc : Nat → List Int32 → List Int64 → Mem → Option (Unit × Mem)} {n : Nat} {r : Unit} {M' : Mem} (hrc : ∀ pc li lj M, rc pc li lj M = some (r, M') → Fq CSX [(25, 5), (25, 6), (25, 7)] M M') {a1 : Int32} {M : Mem} (hf : b9_weigh_0  rc n a1 M = some (r, M')) : Fq CSX [(25, 5), (25, 6), (25, 7)] M M' := by
  unfold b9_weigh_0 at hf
  obtain ⟨M1, eM1, hf⟩ := lt_x hf
  refine Fq_wI eM1 (by decide) ?_
  obtain ⟨M2, eM2, hf⟩ := lt_x hf
  refine Fq_wI eM2 (by decide) ?_
  obtain ⟨M3, eM3, hf⟩ := lt_x hf
  refine Fq_wI eM3 (by decide) ?_
  exact fqb9_weigh_17  hrc hf
theorem fql9_weigh   {r : Unit} {M' : Mem} (n : Nat) : ∀ pc li lj M, r9_weigh  n pc li lj M = some (r, M') → Fq CSX [(25, 5), (25, 6), (25, 7)] M M' := by
  induction n with
  | zero => intro pc li lj M hf; cases hf
  | succ n ih =>
    intro pc li lj M hf
    rw [r9_weigh] at hf
    dsimp only at hf
    by_cases c17 : pc = 17
    · replace hf := ite_t c17 hf
      split at hf
      · exact fqb9_weigh_17  ih hf
      · cases hf
    replace hf := ite_f c17 hf
    cases hf
theorem fq9_weigh   {n : Nat} {a1 : Int32} {M M' : Mem} {r : Unit} (hf : f9_weigh n  a1 M = some (r, M')) : Fq CSX [(25, 5), (25, 6), (25, 7)] M M' := fqb9_weigh_0  (fql9_weigh  n) hf
theorem fqb9_pickHeaviest_62   {rc : Nat → List Int32 → List Int64 → Mem → Option (Unit × Mem)} {n : Nat} {r : Unit} {M' : Mem} (hrc : ∀ pc li lj M, rc pc li lj M = some (r, M') → Fq CSX [(25, 6), (25, 7)] M M') {i1 : Int32} {i2 : Int32} {i3 : Int32} {M : Mem} (hf : b9_pickHeaviest_62  rc n i1 i2 i3 M = some (r, M')) : Fq CSX [(25, 6), (25, 7)] M M' := by
  unfold b9_pickHeaviest_62 at hf
  obtain ⟨v15, ev15, hf⟩ := lt_x hf
  exact hrc _ _ _ _ hf
theorem fqb9_pickHeaviest_36   {rc : Nat → List Int32 → List Int64 → Mem → Option (Unit × Mem)} {n : Nat} {r : Unit} {M' : Mem} (hrc : ∀ pc li lj M, rc pc li lj M = some (r, M') → Fq CSX [(25, 6), (25, 7)] M M') {i1 : Int32} {i2 : Int32} {i3 : Int32} {s0 : Int32} {M : Mem} (hf : b9_pickHeaviest_36  rc n i1 i2 i3 s0 M = some (r, M')) : Fq CSX [(25, 6), (25, 7)] M M' := by
  unfold b9_pickHeaviest_36 at hf
  by_cases c1 : s0 = 0
  · replace hf := ite_t c1 hf
    exact fqb9_pickHeaviest_62  hrc hf
  · replace hf := ite_f c1 hf
    replace hf := chk_2 hf
    by_cases c2 : (M.1 26 i3.toNatClampNeg) ≤ i1
    · replace hf := ite_t c2 hf
      exact fqb9_pickHeaviest_62  hrc hf
    · replace hf := ite_f c2 hf
      replace hf := chk_2 hf
      obtain ⟨v14, ev14, hf⟩ := lt_x hf
      exact fqb9_pickHeaviest_62  hrc hf
theorem fqb9_pickHeaviest_35   {rc : Nat → List Int32 → List Int64 → Mem → Option (Unit × Mem)} {n : Nat} {r : Unit} {M' : Mem} (hrc : ∀ pc li lj M, rc pc li lj M = some (r, M') → Fq CSX [(25, 6), (25, 7)] M M') {i1 : Int32} {i2 : Int32} {i3 : Int32} {M : Mem} (hf : b9_pickHeaviest_35  rc n i1 i2 i3 M = some (r, M')) : Fq CSX [(25, 6), (25, 7)] M M' := by
  unfold b9_pickHeaviest_35 at hf
  exact fqb9_pickHeaviest_36  hrc hf
theorem fqb9_pickHeaviest_6   {rc : Nat → List Int32 → List Int64 → Mem → Option (Unit × Mem)} {n : Nat} {r : Unit} {M' : Mem} (hrc : ∀ pc li lj M, rc pc li lj M = some (r, M') → Fq CSX [(25, 6), (25, 7)] M M') {i1 : Int32} {i2 : Int32} {i3 : Int32} {M : Mem} (hf : b9_pickHeaviest_6  rc n i1 i2 i3 M = some (r, M')) : Fq CSX [(25, 6), (25, 7)] M M' := by
  unfold b9_pickHeaviest_6 at hf
  by_cases c1 : (24 : Int32) ≤ i3
  · replace hf := ite_t c1 hf
    by_cases c2 : i1 < 0
    · replace hf := ite_t c2 hf
      exact Fq.of hf
    · replace hf := ite_f c2 hf
      obtain ⟨M3, eM3, hf⟩ := lt_x hf
      refine Fq_wI eM3 (by decide) ?_
      obtain ⟨M4, eM4, hf⟩ := lt_x hf
      refine Fq_wI eM4 (by decide) ?_
      exact Fq.of hf
  · replace hf := ite_f c1 hf
    obtain ⟨r5, M6, g3, hf⟩ := bnd_s hf
    refine Fq.trans (Fq.mono (fq9_isWatched  g3) (by decide)) ?_
    by_cases c4 : r5 = 0
    · replace hf := ite_t c4 hf
      by_cases c5 : (((M6.1 25 6) >>> (i3 &&& 31)) &&& (1 : Int32)) = 0
      · replace hf := ite_t c5 hf
        exact fqb9_pickHeaviest_36  hrc hf
      · replace hf := ite_f c5 hf
        exact fqb9_pickHeaviest_35  hrc hf
    · replace hf := ite_f c4 hf
      exact fqb9_pickHeaviest_35  hrc hf
theorem fqb9_pickHeaviest_0   {rc : Nat → List Int32 → List Int64 → Mem → Option (Unit × Mem)} {n : Nat} {r : Unit} {M' : Mem} (hrc : ∀ pc li lj M, rc pc li lj M = some (r, M') → Fq CSX [(25, 6), (25, 7)] M M')  {M : Mem} (hf : b9_pickHeaviest_0  rc n  M = some (r, M')) : Fq CSX [(25, 6), (25, 7)] M M' := by
  unfold b9_pickHeaviest_0 at hf
  exact fqb9_pickHeaviest_6  hrc hf
theorem fql9_pickHeaviest   {r : Unit} {M' : Mem} (n : Nat) : ∀ pc li lj M, r9_pickHeaviest  n pc li lj M = some (r, M') → Fq CSX [(25, 6), (25, 7)] M M' := by
  induction n with
  | zero => intro pc li lj M hf; cases hf
  | succ n ih =>
    intro pc li lj M hf
    rw [r9_pickHeaviest] at hf
    dsimp only at hf
    by_cases c6 : pc = 6
    · replace hf := ite_t c6 hf
      split at hf
      · exact fqb9_pickHeaviest_6  ih hf
      · cases hf
    replace hf := ite_f c6 hf
    cases hf
theorem fq9_pickHeaviest   {n : Nat}  {M M' : Mem} {r : Unit} (hf : f9_pickHeaviest n   M = some (r, M')) : Fq CSX [(25, 6), (25, 7)] M M' := fqb9_pickHeaviest_0  (fql9_pickHeaviest  n) hf
theorem fqb9_readHour_83   {rc : Nat → List Int32 → List Int64 → Mem → Option (Int32 × Mem)} {n : Nat} {r : Int32} {M' : Mem} (hrc : ∀ pc li lj M, rc pc li lj M = some (r, M') → Fq CSX [(25, 4)] M M') {i3 : Int32} {i4 : Int32} {M : Mem} (hf : b9_readHour_83  rc n i3 i4 M = some (r, M')) : Fq CSX [(25, 4)] M M' := by
  unfold b9_readHour_83 at hf
  by_cases c1 : (M.1 25 4) = i3
  · replace hf := ite_t c1 hf
    obtain ⟨r24, M25, g2, hf⟩ := bnd_s hf
    refine Fq.trans (Fq.mono (fq11_faultAt  g2) (by decide)) ?_
    exact Fq.of hf
  · replace hf := ite_f c1 hf
    by_cases c3 : i4 < (24 : Int32)
    · replace hf := ite_t c3 hf
      exact Fq.of hf
    · replace hf := ite_f c3 hf
      obtain ⟨r21, M22, g4, hf⟩ := bnd_s hf
      refine Fq.trans (Fq.mono (fq11_faultAt  g4) (by decide)) ?_
      exact Fq.of hf
theorem fqb9_readHour_8   {rc : Nat → List Int32 → List Int64 → Mem → Option (Int32 × Mem)} {n : Nat} {r : Int32} {M' : Mem} (hrc : ∀ pc li lj M, rc pc li lj M = some (r, M') → Fq CSX [(25, 4)] M M') {i2 : Int32} {i3 : Int32} {i4 : Int32} {M : Mem} (hf : b9_readHour_8  rc n i2 i3 i4 M = some (r, M')) : Fq CSX [(25, 4)] M M' := by
  unfold b9_readHour_8 at hf
  by_cases c1 : i2 ≤ (M.1 25 4)
  · replace hf := ite_t c1 hf
    exact fqb9_readHour_83  hrc hf
  · replace hf := ite_f c1 hf
    obtain ⟨r3, M4, g2, hf⟩ := bnd_s hf
    refine Fq.trans (Fq.mono (fq7_at  g2) (by decide)) ?_
    obtain ⟨r6, M7, g3, hf⟩ := bnd_s hf
    refine Fq.trans (Fq.mono (fq11_isDigit  g3) (by decide)) ?_
    by_cases c4 : r6 = 0
    · replace hf := ite_t c4 hf
      exact fqb9_readHour_83  hrc hf
    · replace hf := ite_f c4 hf
      by_cases c5 : (M7.1 25 4) = (i3 + (2 : Int32))
      · replace hf := ite_t c5 hf
        obtain ⟨r16, M17, g6, hf⟩ := bnd_s hf
        refine Fq.trans (Fq.mono (fq11_faultAt  g6) (by decide)) ?_
        exact Fq.of hf
      · replace hf := ite_f c5 hf
        obtain ⟨r11, M12, g7, hf⟩ := bnd_s hf
        refine Fq.trans (Fq.mono (fq7_at  g7) (by decide)) ?_
        obtain ⟨v14, ev14, hf⟩ := lt_x hf
        obtain ⟨M15, eM15, hf⟩ := lt_x hf
        refine Fq_wI eM15 (by decide) ?_
        exact hrc _ _ _ _ hf
theorem fqb9_readHour_0   {rc : Nat → List Int32 → List Int64 → Mem → Option (Int32 × Mem)} {n : Nat} {r : Int32} {M' : Mem} (hrc : ∀ pc li lj M, rc pc li lj M = some (r, M') → Fq CSX [(25, 4)] M M') {a2 : Int32} {M : Mem} (hf : b9_readHour_0  rc n a2 M = some (r, M')) : Fq CSX [(25, 4)] M M' := by
  unfold b9_readHour_0 at hf
  obtain ⟨v1, ev1, hf⟩ := lt_x hf
  exact fqb9_readHour_8  hrc hf
theorem fql9_readHour   {r : Int32} {M' : Mem} (n : Nat) : ∀ pc li lj M, r9_readHour  n pc li lj M = some (r, M') → Fq CSX [(25, 4)] M M' := by
  induction n with
  | zero => intro pc li lj M hf; cases hf
  | succ n ih =>
    intro pc li lj M hf
    rw [r9_readHour] at hf
    dsimp only at hf
    by_cases c8 : pc = 8
    · replace hf := ite_t c8 hf
      split at hf
      · exact fqb9_readHour_8  ih hf
      · cases hf
    replace hf := ite_f c8 hf
    cases hf
theorem fq9_readHour   {n : Nat} {a2 : Int32} {M M' : Mem} {r : Int32} (hf : f9_readHour n  a2 M = some (r, M')) : Fq CSX [(25, 4)] M M' := fqb9_readHour_0  (fql9_readHour  n) hf
theorem fqbZJ9_floorMod_7cf53_18   {rc : Nat → List Int32 → List Int64 → Mem → Option (Int32 × Mem)} {n : Nat} {r : Int32} {M' : Mem} (hrc : ∀ pc li lj M, rc pc li lj M = some (r, M') → Fq CSX [] M M') {i2 : Int32} {M : Mem} (hf : bZJ9_floorMod_7cf53_18  rc n i2 M = some (r, M')) : Fq CSX [] M M' := by
  unfold bZJ9_floorMod_7cf53_18 at hf
  exact Fq.of hf
theorem fqbZJ9_floorMod_7cf53_0   {rc : Nat → List Int32 → List Int64 → Mem → Option (Int32 × Mem)} {n : Nat} {r : Int32} {M' : Mem} (hrc : ∀ pc li lj M, rc pc li lj M = some (r, M') → Fq CSX [] M M') {a0 : Int32} {a1 : Int32} {M : Mem} (hf : bZJ9_floorMod_7cf53_0  rc n a0 a1 M = some (r, M')) : Fq CSX [] M M' := by
  unfold bZJ9_floorMod_7cf53_0 at hf
  replace hf := chk_2 hf
  obtain ⟨v2, ev2, hf⟩ := lt_x hf
  by_cases c1 : 0 ≤ (a0 ^^^ a1)
  · replace hf := ite_t c1 hf
    exact fqbZJ9_floorMod_7cf53_18  hrc hf
  · replace hf := ite_f c1 hf
    by_cases c2 : v2 = 0
    · replace hf := ite_t c2 hf
      exact fqbZJ9_floorMod_7cf53_18  hrc hf
    · replace hf := ite_f c2 hf
      exact Fq.of hf
theorem fqZJ9_floorMod_7cf53   {n : Nat} {a0 : Int32} {a1 : Int32} {M M' : Mem} {r : Int32} (hf : fZJ9_floorMod_7cf53 n  a0 a1 M = some (r, M')) : Fq CSX [] M M' := fqbZJ9_floorMod_7cf53_0  (fun _ _ _ _ h => by cases h) hf
theorem fqb9_mark_57   {rc : Nat → List Int32 → List Int64 → Mem → Option (Unit × Mem)} {n : Nat} {r : Unit} {M' : Mem} (hrc : ∀ pc li lj M, rc pc li lj M = some (r, M') → Fq CSX [(25, 3)] M M') {i1 : Int32} {i3 : Int32} {i4 : Int32} {i5 : Int32} {s1 : Int32} {M : Mem} (hf : b9_mark_57  rc n i1 i3 i4 i5 s1 M = some (r, M')) : Fq CSX [(25, 3)] M M' := by
  unfold b9_mark_57 at hf
  obtain ⟨M8, eM8, hf⟩ := lt_x hf
  refine Fq_wI eM8 (by decide) ?_
  obtain ⟨v9, ev9, hf⟩ := lt_x hf
  exact hrc _ _ _ _ hf
theorem fqb9_mark_15   {rc : Nat → List Int32 → List Int64 → Mem → Option (Unit × Mem)} {n : Nat} {r : Unit} {M' : Mem} (hrc : ∀ pc li lj M, rc pc li lj M = some (r, M') → Fq CSX [(25, 3)] M M') {i1 : Int32} {i3 : Int32} {i4 : Int32} {i5 : Int32} {M : Mem} (hf : b9_mark_15  rc n i1 i3 i4 i5 M = some (r, M')) : Fq CSX [(25, 3)] M M' := by
  unfold b9_mark_15 at hf
  by_cases c1 : i4 ≤ i5
  · replace hf := ite_t c1 hf
    exact Fq.of hf
  · replace hf := ite_f c1 hf
    obtain ⟨v6, ev6, hf⟩ := lt_x hf
    by_cases c2 : i3 = 0
    · replace hf := ite_t c2 hf
      exact fqb9_mark_57  hrc hf
    · replace hf := ite_f c2 hf
      exact fqb9_mark_57  hrc hf
theorem fqb9_mark_0   {rc : Nat → List Int32 → List Int64 → Mem → Option (Unit × Mem)} {n : Nat} {r : Unit} {M' : Mem} (hrc : ∀ pc li lj M, rc pc li lj M = some (r, M') → Fq CSX [(25, 3)] M M') {a1 : Int32} {a2 : Int32} {a3 : Int32} {M : Mem} (hf : b9_mark_0  rc n a1 a2 a3 M = some (r, M')) : Fq CSX [(25, 3)] M M' := by
  unfold b9_mark_0 at hf
  obtain ⟨r1, M2, g1, hf⟩ := bnd_s hf
  refine Fq.trans (Fq.mono (fqZJ9_floorMod_7cf53  g1) (by decide)) ?_
  obtain ⟨v4, ev4, hf⟩ := lt_x hf
  exact fqb9_mark_15  hrc hf
theorem fql9_mark   {r : Unit} {M' : Mem} (n : Nat) : ∀ pc li lj M, r9_mark  n pc li lj M = some (r, M') → Fq CSX [(25, 3)] M M' := by
  induction n with
  | zero => intro pc li lj M hf; cases hf
  | succ n ih =>
    intro pc li lj M hf
    rw [r9_mark] at hf
    dsimp only at hf
    by_cases c15 : pc = 15
    · replace hf := ite_t c15 hf
      split at hf
      · exact fqb9_mark_15  ih hf
      · cases hf
    replace hf := ite_f c15 hf
    cases hf
theorem fq9_mark   {n : Nat} {a1 : Int32} {a2 : Int32} {a3 : Int32} {M M' : Mem} {r : Unit} (hf : f9_mark n  a1 a2 a3 M = some (r, M')) : Fq CSX [(25, 3)] M M' := fqb9_mark_0  (fql9_mark  n) hf
theorem fqb9_readLine_116   {rc : Nat → List Int32 → List Int64 → Mem → Option (Int32 × Mem)} {n : Nat} {r : Int32} {M' : Mem} (hrc : ∀ pc li lj M, rc pc li lj M = some (r, M') → Fq CSX [(25, 3), (25, 4)] M M') {s1 : Int32} {s2 : Int32} {s3 : Int32} {M : Mem} (hf : b9_readLine_116  rc n s1 s2 s3 M = some (r, M')) : Fq CSX [(25, 3), (25, 4)] M M' := by
  unfold b9_readLine_116 at hf
  obtain ⟨r24, M25, g1, hf⟩ := bnd_s hf
  refine Fq.trans (Fq.mono (fq9_mark  g1) (by decide)) ?_
  exact Fq.of hf
theorem fqb9_readLine_90   {rc : Nat → List Int32 → List Int64 → Mem → Option (Int32 × Mem)} {n : Nat} {r : Int32} {M' : Mem} (hrc : ∀ pc li lj M, rc pc li lj M = some (r, M') → Fq CSX [(25, 3), (25, 4)] M M') {i3 : Int32} {i4 : Int32} {i5 : Int32} {M : Mem} (hf : b9_readLine_90  rc n i3 i4 i5 M = some (r, M')) : Fq CSX [(25, 3), (25, 4)] M M' := by
  unfold b9_readLine_90 at hf
  obtain ⟨M22, eM22, hf⟩ := lt_x hf
  refine Fq_wI eM22 (by decide) ?_
  by_cases c1 : i5 = (45 : Int32)
  · replace hf := ite_t c1 hf
    exact fqb9_readLine_116  hrc hf
  · replace hf := ite_f c1 hf
    exact fqb9_readLine_116  hrc hf
theorem fqb9_readLine_56   {rc : Nat → List Int32 → List Int64 → Mem → Option (Int32 × Mem)} {n : Nat} {r : Int32} {M' : Mem} (hrc : ∀ pc li lj M, rc pc li lj M = some (r, M') → Fq CSX [(25, 3), (25, 4)] M M') {i2 : Int32} {i3 : Int32} {i4 : Int32} {M : Mem} (hf : b9_readLine_56  rc n i2 i3 i4 M = some (r, M')) : Fq CSX [(25, 3), (25, 4)] M M' := by
  unfold b9_readLine_56 at hf
  obtain ⟨r14, M15, g1, hf⟩ := bnd_s hf
  refine Fq.trans (Fq.mono (fq7_at  g1) (by decide)) ?_
  by_cases c2 : r14 = (45 : Int32)
  · replace hf := ite_t c2 hf
    exact fqb9_readLine_90  hrc hf
  · replace hf := ite_f c2 hf
    by_cases c3 : r14 = (63 : Int32)
    · replace hf := ite_t c3 hf
      exact fqb9_readLine_90  hrc hf
    · replace hf := ite_f c3 hf
      obtain ⟨r19, M20, g4, hf⟩ := bnd_s hf
      refine Fq.trans (Fq.mono (fq11_faultAt  g4) (by decide)) ?_
      exact Fq.of hf
theorem fqb9_readLine_0   {rc : Nat → List Int32 → List Int64 → Mem → Option (Int32 × Mem)} {n : Nat} {r : Int32} {M' : Mem} (hrc : ∀ pc li lj M, rc pc li lj M = some (r, M') → Fq CSX [(25, 3), (25, 4)] M M') {a2 : Int32} {M : Mem} (hf : b9_readLine_0  rc n a2 M = some (r, M')) : Fq CSX [(25, 3), (25, 4)] M M' := by
  unfold b9_readLine_0 at hf
  obtain ⟨r1, M2, g1, hf⟩ := bnd_s hf
  refine Fq.trans (Fq.mono (fq9_readHour  g1) (by decide)) ?_
  by_cases c2 : 0 ≤ r1
  · replace hf := ite_t c2 hf
    obtain ⟨r5, M6, g3, hf⟩ := bnd_s hf
    refine Fq.trans (Fq.mono (fq7_at  g3) (by decide)) ?_
    by_cases c4 : r5 = (58 : Int32)
    · replace hf := ite_t c4 hf
      obtain ⟨M9, eM9, hf⟩ := lt_x hf
      refine Fq_wI eM9 (by decide) ?_
      obtain ⟨r10, M11, g5, hf⟩ := bnd_s hf
      refine Fq.trans (Fq.mono (fq9_readHour  g5) (by decide)) ?_
      by_cases c6 : 0 ≤ r10
      · replace hf := ite_t c6 hf
        exact fqb9_readLine_56  hrc hf
      · replace hf := ite_f c6 hf
        exact Fq.of hf
    · replace hf := ite_f c4 hf
      exact fqb9_readLine_56  hrc hf
  · replace hf := ite_f c2 hf
    exact Fq.of hf
theorem fq9_readLine   {n : Nat} {a2 : Int32} {M M' : Mem} {r : Int32} (hf : f9_readLine n  a2 M = some (r, M')) : Fq CSX [(25, 3), (25, 4)] M M' := fqb9_readLine_0  (fun _ _ _ _ h => by cases h) hf
theorem fqb9_read_114   {rc : Nat → List Int32 → List Int64 → Mem → Option (Int32 × Mem)} {n : Nat} {r : Int32} {M' : Mem} (hrc : ∀ pc li lj M, rc pc li lj M = some (r, M') → Fq CSX [(25, 2), (25, 3), (25, 4)] M M') {s0 : Int32} {M : Mem} (hf : b9_read_114  rc n s0 M = some (r, M')) : Fq CSX [(25, 2), (25, 3), (25, 4)] M M' := by
  unfold b9_read_114 at hf
  obtain ⟨r26, M27, g1, hf⟩ := bnd_s hf
  refine Fq.trans (Fq.mono (fq11_faultAt  g1) (by decide)) ?_
  exact Fq.of hf
theorem fqb9_read_15   {rc : Nat → List Int32 → List Int64 → Mem → Option (Int32 × Mem)} {n : Nat} {r : Int32} {M' : Mem} (hrc : ∀ pc li lj M, rc pc li lj M = some (r, M') → Fq CSX [(25, 2), (25, 3), (25, 4)] M M') {i2 : Int32} {i3 : Int32} {M : Mem} (hf : b9_read_15  rc n i2 i3 M = some (r, M')) : Fq CSX [(25, 2), (25, 3), (25, 4)] M M' := by
  unfold b9_read_15 at hf
  by_cases c1 : (24 : Int32) < i3
  · replace hf := ite_t c1 hf
    obtain ⟨r4, M5, g2, hf⟩ := bnd_s hf
    refine Fq.trans (Fq.mono (fq7_at  g2) (by decide)) ?_
    obtain ⟨r7, M8, g3, hf⟩ := bnd_s hf
    refine Fq.trans (Fq.mono (fq11_isDigit  g3) (by decide)) ?_
    by_cases c4 : r7 = 0
    · replace hf := ite_t c4 hf
      exact fqb9_read_114  hrc hf
    · replace hf := ite_f c4 hf
      exact fqb9_read_114  hrc hf
  · replace hf := ite_f c1 hf
    obtain ⟨r11, M12, g5, hf⟩ := bnd_s hf
    refine Fq.trans (Fq.mono (fq9_readLine  g5) (by decide)) ?_
    by_cases c6 : r11 = 0
    · replace hf := ite_t c6 hf
      by_cases c7 : (M12.1 25 4) < i2
      · replace hf := ite_t c7 hf
        obtain ⟨r16, M17, g8, hf⟩ := bnd_s hf
        refine Fq.trans (Fq.mono (fq7_at  g8) (by decide)) ?_
        by_cases c9 : r16 = (59 : Int32)
        · replace hf := ite_t c9 hf
          obtain ⟨M20, eM20, hf⟩ := lt_x hf
          refine Fq_wI eM20 (by decide) ?_
          obtain ⟨v21, ev21, hf⟩ := lt_x hf
          exact hrc _ _ _ _ hf
        · replace hf := ite_f c9 hf
          obtain ⟨r22, M23, g10, hf⟩ := bnd_s hf
          refine Fq.trans (Fq.mono (fq11_faultAt  g10) (by decide)) ?_
          exact Fq.of hf
      · replace hf := ite_f c7 hf
        obtain ⟨M25, eM25, hf⟩ := lt_x hf
        refine Fq_wI eM25 (by decide) ?_
        exact Fq.of hf
    · replace hf := ite_f c6 hf
      exact Fq.of hf
theorem fqb9_read_0   {rc : Nat → List Int32 → List Int64 → Mem → Option (Int32 × Mem)} {n : Nat} {r : Int32} {M' : Mem} (hrc : ∀ pc li lj M, rc pc li lj M = some (r, M') → Fq CSX [(25, 2), (25, 3), (25, 4)] M M') {a2 : Int32} {M : Mem} (hf : b9_read_0  rc n a2 M = some (r, M')) : Fq CSX [(25, 2), (25, 3), (25, 4)] M M' := by
  unfold b9_read_0 at hf
  obtain ⟨M1, eM1, hf⟩ := lt_x hf
  refine Fq_wI eM1 (by decide) ?_
  obtain ⟨M2, eM2, hf⟩ := lt_x hf
  refine Fq_wI eM2 (by decide) ?_
  exact fqb9_read_15  hrc hf
theorem fql9_read   {r : Int32} {M' : Mem} (n : Nat) : ∀ pc li lj M, r9_read  n pc li lj M = some (r, M') → Fq CSX [(25, 2), (25, 3), (25, 4)] M M' := by
  induction n with
  | zero => intro pc li lj M hf; cases hf
  | succ n ih =>
    intro pc li lj M hf
    rw [r9_read] at hf
    dsimp only at hf
    by_cases c15 : pc = 15
    · replace hf := ite_t c15 hf
      split at hf
      · exact fqb9_read_15  ih hf
      · cases hf
    replace hf := ite_f c15 hf
    cases hf
theorem fq9_read   {n : Nat} {a2 : Int32} {M M' : Mem} {r : Int32} (hf : f9_read n  a2 M = some (r, M')) : Fq CSX [(25, 2), (25, 3), (25, 4)] M M' := fqb9_read_0  (fql9_read  n) hf
theorem fqb10_drawHour_60 {k0 : Nat} (hv0 : k0 ∉ CSX) {rc : Nat → List Int32 → List Int64 → Mem → Option (Int32 × Mem)} {n : Nat} {r : Int32} {M' : Mem} (hrc : ∀ pc li lj M, rc pc li lj M = some (r, M') → Fq CSX [] M M') {i3 : Int32} {i4 : Int32} {M : Mem} (hf : b10_drawHour_60 k0 rc n i3 i4 M = some (r, M')) : Fq CSX [] M M' := by
  unfold b10_drawHour_60 at hf
  by_cases c1 : (24 : Int32) ≤ i4
  · replace hf := ite_t c1 hf
    exact Fq.of hf
  · replace hf := ite_f c1 hf
    replace hf := chk_2 hf
    obtain ⟨v18, ev18, hf⟩ := lt_x hf
    by_cases c2 : 0 ≤ v18
    · replace hf := ite_t c2 hf
      obtain ⟨v20, ev20, hf⟩ := lt_x hf
      exact hrc _ _ _ _ hf
    · replace hf := ite_f c2 hf
      exact Fq.of hf
theorem fqb10_drawHour_4 {k0 : Nat} (hv0 : k0 ∉ CSX) {rc : Nat → List Int32 → List Int64 → Mem → Option (Int32 × Mem)} {n : Nat} {r : Int32} {M' : Mem} (hrc : ∀ pc li lj M, rc pc li lj M = some (r, M') → Fq CSX [] M M') {i2 : Int32} {i3 : Int32} {M : Mem} (hf : b10_drawHour_4 k0 rc n i2 i3 M = some (r, M')) : Fq CSX [] M M' := by
  unfold b10_drawHour_4 at hf
  by_cases c1 : (24 : Int32) ≤ i3
  · replace hf := ite_t c1 hf
    by_cases c2 : 0 < i2
    · replace hf := ite_t c2 hf
      obtain ⟨r3, M4, g3, hf⟩ := bnd_s hf
      refine Fq.trans (Fq.mono (fq0_draw hv0 g3) (by decide)) ?_
      replace hf := chk_2 hf
      obtain ⟨v7, ev7, hf⟩ := lt_x hf
      exact fqb10_drawHour_60 hv0 hrc hf
    · replace hf := ite_f c2 hf
      exact Fq.of hf
  · replace hf := ite_f c1 hf
    obtain ⟨r8, M9, g4, hf⟩ := bnd_s hf
    refine Fq.trans (Fq.mono (fq2_weightOf  g4) (by decide)) ?_
    replace hf := chk_2 hf
    obtain ⟨M12, eM12, hf⟩ := lt_x hf
    refine Fq_wIn eM12 (by decide) ?_
    replace hf := chk_2 hf
    obtain ⟨v14, ev14, hf⟩ := lt_x hf
    obtain ⟨v15, ev15, hf⟩ := lt_x hf
    exact hrc _ _ _ _ hf
theorem fqb10_drawHour_0 {k0 : Nat} (hv0 : k0 ∉ CSX) {rc : Nat → List Int32 → List Int64 → Mem → Option (Int32 × Mem)} {n : Nat} {r : Int32} {M' : Mem} (hrc : ∀ pc li lj M, rc pc li lj M = some (r, M') → Fq CSX [] M M')  {M : Mem} (hf : b10_drawHour_0 k0 rc n  M = some (r, M')) : Fq CSX [] M M' := by
  unfold b10_drawHour_0 at hf
  exact fqb10_drawHour_4 hv0 hrc hf
theorem fql10_drawHour {k0 : Nat} (hv0 : k0 ∉ CSX) {r : Int32} {M' : Mem} (n : Nat) : ∀ pc li lj M, r10_drawHour k0 n pc li lj M = some (r, M') → Fq CSX [] M M' := by
  induction n with
  | zero => intro pc li lj M hf; cases hf
  | succ n ih =>
    intro pc li lj M hf
    rw [r10_drawHour] at hf
    dsimp only at hf
    by_cases c4 : pc = 4
    · replace hf := ite_t c4 hf
      split at hf
      · exact fqb10_drawHour_4 hv0 ih hf
      · cases hf
    replace hf := ite_f c4 hf
    by_cases c60 : pc = 60
    · replace hf := ite_t c60 hf
      split at hf
      · exact fqb10_drawHour_60 hv0 ih hf
      · cases hf
    replace hf := ite_f c60 hf
    cases hf
theorem fq10_drawHour {k0 : Nat} (hv0 : k0 ∉ CSX) {n : Nat}  {M M' : Mem} {r : Int32} (hf : f10_drawHour n k0  M = some (r, M')) : Fq CSX [] M M' := fqb10_drawHour_0 hv0 (fql10_drawHour hv0 n) hf
theorem fqb10_lookAt_0 {k0 : Nat}  {rc : Nat → List Int32 → List Int64 → Mem → Option (Unit × Mem)} {n : Nat} {r : Unit} {M' : Mem} (hrc : ∀ pc li lj M, rc pc li lj M = some (r, M') → Fq CSX [] M M') {a2 : Int32} {M : Mem} (hf : b10_lookAt_0 k0 rc n a2 M = some (r, M')) : Fq CSX [] M M' := by
  unfold b10_lookAt_0 at hf
  have h1 := chk_1 hf
  replace hf := chk_2 hf
  have h2 := chk_1 hf
  replace hf := chk_2 hf
  have h3 := chk_1 hf
  replace hf := chk_2 hf
  obtain ⟨r4, M5, g4, hf⟩ := bnd_s hf
  refine Fq.trans (Fq.mono (fq2_setPlace  g4) (by decide)) ?_
  exact Fq.of hf
theorem fq10_lookAt {k0 : Nat}  {n : Nat} {a2 : Int32} {M M' : Mem} {r : Unit} (hf : f10_lookAt n k0 a2 M = some (r, M')) : Fq CSX [] M M' := fqb10_lookAt_0  (fun _ _ _ _ h => by cases h) hf
theorem fqb10_nextPlace_135 {k0 : Nat}  {rc : Nat → List Int32 → List Int64 → Mem → Option (Int32 × Mem)} {n : Nat} {r : Int32} {M' : Mem} (hrc : ∀ pc li lj M, rc pc li lj M = some (r, M') → Fq CSX [] M M') {i2 : Int32} {i4 : Int32} {i5 : Int32} {i6 : Int32} {M : Mem} (hf : b10_nextPlace_135 k0 rc n i2 i4 i5 i6 M = some (r, M')) : Fq CSX [] M M' := by
  unfold b10_nextPlace_135 at hf
  obtain ⟨v30, ev30, hf⟩ := lt_x hf
  exact hrc _ _ _ _ hf
theorem fqb10_nextPlace_124 {k0 : Nat}  {rc : Nat → List Int32 → List Int64 → Mem → Option (Int32 × Mem)} {n : Nat} {r : Int32} {M' : Mem} (hrc : ∀ pc li lj M, rc pc li lj M = some (r, M') → Fq CSX [] M M') {i2 : Int32} {i4 : Int32} {i6 : Int32} {i8 : Int32} {s0 : Int32} {M : Mem} (hf : b10_nextPlace_124 k0 rc n i2 i4 i6 i8 s0 M = some (r, M')) : Fq CSX [] M M' := by
  unfold b10_nextPlace_124 at hf
  obtain ⟨v29, ev29, hf⟩ := lt_x hf
  exact fqb10_nextPlace_135  hrc hf
theorem fqb10_nextPlace_63 {k0 : Nat}  {rc : Nat → List Int32 → List Int64 → Mem → Option (Int32 × Mem)} {n : Nat} {r : Int32} {M' : Mem} (hrc : ∀ pc li lj M, rc pc li lj M = some (r, M') → Fq CSX [] M M') {i2 : Int32} {i4 : Int32} {i5 : Int32} {i6 : Int32} {M : Mem} (hf : b10_nextPlace_63 k0 rc n i2 i4 i5 i6 M = some (r, M')) : Fq CSX [] M M' := by
  unfold b10_nextPlace_63 at hf
  by_cases c1 : (4 : Int32) ≤ i6
  · replace hf := ite_t c1 hf
    exact Fq.of hf
  · replace hf := ite_f c1 hf
    obtain ⟨r15, M16, g2, hf⟩ := bnd_s hf
    refine Fq.trans (Fq.mono (fq11_beside  g2) (by decide)) ?_
    obtain ⟨r18, M19, g3, hf⟩ := bnd_s hf
    refine Fq.trans (Fq.mono (fq8_isOpen  g3) (by decide)) ?_
    by_cases c4 : r18 = 0
    · replace hf := ite_t c4 hf
      exact fqb10_nextPlace_135  hrc hf
    · replace hf := ite_f c4 hf
      obtain ⟨r22, M23, g5, hf⟩ := bnd_s hf
      refine Fq.trans (Fq.mono (fq10_lookAt  g5) (by decide)) ?_
      obtain ⟨r25, M26, g6, hf⟩ := bnd_s hf
      refine Fq.trans (Fq.mono (fq2_valueOf  g6) (by decide)) ?_
      by_cases c7 : r25 ≤ i4
      · replace hf := ite_t c7 hf
        exact fqb10_nextPlace_124  hrc hf
      · replace hf := ite_f c7 hf
        exact fqb10_nextPlace_124  hrc hf
theorem fqb10_nextPlace_36 {k0 : Nat}  {rc : Nat → List Int32 → List Int64 → Mem → Option (Int32 × Mem)} {n : Nat} {r : Int32} {M' : Mem} (hrc : ∀ pc li lj M, rc pc li lj M = some (r, M') → Fq CSX [] M M') {i2 : Int32} {M : Mem} (hf : b10_nextPlace_36 k0 rc n i2 M = some (r, M')) : Fq CSX [] M M' := by
  unfold b10_nextPlace_36 at hf
  obtain ⟨r7, M8, g1, hf⟩ := bnd_s hf
  refine Fq.trans (Fq.mono (fq10_lookAt  g1) (by decide)) ?_
  obtain ⟨r10, M11, g2, hf⟩ := bnd_s hf
  refine Fq.trans (Fq.mono (fq2_standsStill  g2) (by decide)) ?_
  by_cases c3 : r10 = 0
  · replace hf := ite_t c3 hf
    exact fqb10_nextPlace_63  hrc hf
  · replace hf := ite_f c3 hf
    exact Fq.of hf
theorem fqb10_nextPlace_0 {k0 : Nat}  {rc : Nat → List Int32 → List Int64 → Mem → Option (Int32 × Mem)} {n : Nat} {r : Int32} {M' : Mem} (hrc : ∀ pc li lj M, rc pc li lj M = some (r, M') → Fq CSX [] M M') {a2 : Int32} {a3 : Int32} {M : Mem} (hf : b10_nextPlace_0 k0 rc n a2 a3 M = some (r, M')) : Fq CSX [] M M' := by
  unfold b10_nextPlace_0 at hf
  by_cases c1 : a2 = (M.1 3 7)
  · replace hf := ite_t c1 hf
    exact fqb10_nextPlace_36  hrc hf
  · replace hf := ite_f c1 hf
    have h2 := chk_1 hf
    replace hf := chk_2 hf
    by_cases c3 : (M.1 7 a2.toNatClampNeg) < ((59 : Int32) - a3)
    · replace hf := ite_t c3 hf
      exact fqb10_nextPlace_36  hrc hf
    · replace hf := ite_f c3 hf
      obtain ⟨r4, M5, g4, hf⟩ := bnd_s hf
      refine Fq.trans (Fq.mono (fq8_stepHome  g4) (by decide)) ?_
      exact Fq.of hf
theorem fql10_nextPlace {k0 : Nat}  {r : Int32} {M' : Mem} (n : Nat) : ∀ pc li lj M, r10_nextPlace k0 n pc li lj M = some (r, M') → Fq CSX [] M M' := by
  induction n with
  | zero => intro pc li lj M hf; cases hf
  | succ n ih =>
    intro pc li lj M hf
    rw [r10_nextPlace] at hf
    dsimp only at hf
    by_cases c63 : pc = 63
    · replace hf := ite_t c63 hf
      split at hf
      · exact fqb10_nextPlace_63  ih hf
      · cases hf
    replace hf := ite_f c63 hf
    cases hf
theorem fq10_nextPlace {k0 : Nat}  {n : Nat} {a2 : Int32} {a3 : Int32} {M M' : Mem} {r : Int32} (hf : f10_nextPlace n k0 a2 a3 M = some (r, M')) : Fq CSX [] M M' := fqb10_nextPlace_0  (fql10_nextPlace  n) hf
theorem fqb10_comeTo_63 {k0 : Nat} (hv0 : k0 ∉ CSX) (hv1 : k0 + 1 ∉ CSX) {rc : Nat → List Int32 → List Int64 → Mem → Option (Unit × Mem)} {n : Nat} {r : Unit} {M' : Mem} (hrc : ∀ pc li lj M, rc pc li lj M = some (r, M') → Fq CSX [] M M') {i2 : Int32} {i3 : Int32} {M : Mem} (hf : b10_comeTo_63 k0 rc n i2 i3 M = some (r, M')) : Fq CSX [] M M' := by
  unfold b10_comeTo_63 at hf
  obtain ⟨v9, ev9, hf⟩ := lt_x hf
  exact hrc _ _ _ _ hf
theorem fqb10_comeTo_32 {k0 : Nat} (hv0 : k0 ∉ CSX) (hv1 : k0 + 1 ∉ CSX) {rc : Nat → List Int32 → List Int64 → Mem → Option (Unit × Mem)} {n : Nat} {r : Unit} {M' : Mem} (hrc : ∀ pc li lj M, rc pc li lj M = some (r, M') → Fq CSX [] M M') {i2 : Int32} {i3 : Int32} {M : Mem} (hf : b10_comeTo_32 k0 rc n i2 i3 M = some (r, M')) : Fq CSX [] M M' := by
  unfold b10_comeTo_32 at hf
  by_cases c1 : (9 : Int32) < i3
  · replace hf := ite_t c1 hf
    exact Fq.of hf
  · replace hf := ite_f c1 hf
    replace hf := chk_2 hf
    by_cases c2 : (M.1 6 i3.toNatClampNeg) = i2
    · replace hf := ite_t c2 hf
      obtain ⟨M8, eM8, hf⟩ := lt_x hf
      refine Fq_wIn eM8 hv0 ?_
      exact fqb10_comeTo_63 hv0 hv1 hrc hf
    · replace hf := ite_f c2 hf
      exact fqb10_comeTo_63 hv0 hv1 hrc hf
theorem fqb10_comeTo_0 {k0 : Nat} (hv0 : k0 ∉ CSX) (hv1 : k0 + 1 ∉ CSX) {rc : Nat → List Int32 → List Int64 → Mem → Option (Unit × Mem)} {n : Nat} {r : Unit} {M' : Mem} (hrc : ∀ pc li lj M, rc pc li lj M = some (r, M') → Fq CSX [] M M') {a2 : Int32} {M : Mem} (hf : b10_comeTo_0 k0 rc n a2 M = some (r, M')) : Fq CSX [] M M' := by
  unfold b10_comeTo_0 at hf
  obtain ⟨M1, eM1, hf⟩ := lt_x hf
  refine Fq_wIn eM1 hv0 ?_
  have h1 := chk_1 hf
  replace hf := chk_2 hf
  have h2 := chk_1 hf
  replace hf := chk_2 hf
  obtain ⟨M4, eM4, hf⟩ := lt_x hf
  refine Fq_wIn eM4 hv1 ?_
  exact fqb10_comeTo_32 hv0 hv1 hrc hf
theorem fql10_comeTo {k0 : Nat} (hv0 : k0 ∉ CSX) (hv1 : k0 + 1 ∉ CSX) {r : Unit} {M' : Mem} (n : Nat) : ∀ pc li lj M, r10_comeTo k0 n pc li lj M = some (r, M') → Fq CSX [] M M' := by
  induction n with
  | zero => intro pc li lj M hf; cases hf
  | succ n ih =>
    intro pc li lj M hf
    rw [r10_comeTo] at hf
    dsimp only at hf
    by_cases c32 : pc = 32
    · replace hf := ite_t c32 hf
      split at hf
      · exact fqb10_comeTo_32 hv0 hv1 ih hf
      · cases hf
    replace hf := ite_f c32 hf
    cases hf
theorem fq10_comeTo {k0 : Nat} (hv0 : k0 ∉ CSX) (hv1 : k0 + 1 ∉ CSX) {n : Nat} {a2 : Int32} {M M' : Mem} {r : Unit} (hf : f10_comeTo n k0 a2 M = some (r, M')) : Fq CSX [] M M' := fqb10_comeTo_0 hv0 hv1 (fql10_comeTo hv0 hv1 n) hf
theorem fqb10_goHour_68 {k0 : Nat} (hv0 : k0 ∉ CSX) (hv1 : k0 + 1 ∉ CSX) (hv2 : k0 + 2 ∉ CSX) {rc : Nat → List Int32 → List Int64 → Mem → Option (Unit × Mem)} {n : Nat} {r : Unit} {M' : Mem} (hrc : ∀ pc li lj M, rc pc li lj M = some (r, M') → Fq CSX [] M M') {i3 : Int32} {i4 : Int32} {M : Mem} (hf : b10_goHour_68 k0 rc n i3 i4 M = some (r, M')) : Fq CSX [] M M' := by
  unfold b10_goHour_68 at hf
  replace hf := chk_2 hf
  obtain ⟨M20, eM20, hf⟩ := lt_x hf
  refine Fq_wIn eM20 hv2 ?_
  have h1 := chk_1 hf
  replace hf := chk_2 hf
  obtain ⟨M22, eM22, hf⟩ := lt_x hf
  refine Fq_wIn eM22 hv0 ?_
  obtain ⟨v23, ev23, hf⟩ := lt_x hf
  exact hrc _ _ _ _ hf
theorem fqb10_goHour_25 {k0 : Nat} (hv0 : k0 ∉ CSX) (hv1 : k0 + 1 ∉ CSX) (hv2 : k0 + 2 ∉ CSX) {rc : Nat → List Int32 → List Int64 → Mem → Option (Unit × Mem)} {n : Nat} {r : Unit} {M' : Mem} (hrc : ∀ pc li lj M, rc pc li lj M = some (r, M') → Fq CSX [] M M') {i2 : Int32} {i3 : Int32} {M : Mem} (hf : b10_goHour_25 k0 rc n i2 i3 M = some (r, M')) : Fq CSX [] M M' := by
  unfold b10_goHour_25 at hf
  by_cases c1 : (60 : Int32) ≤ i3
  · replace hf := ite_t c1 hf
    exact Fq.of hf
  · replace hf := ite_f c1 hf
    obtain ⟨r6, M7, g2, hf⟩ := bnd_s hf
    refine Fq.trans (Fq.mono (fqZJ6_bitCount_0f7a4  g2) (by decide)) ?_
    obtain ⟨r9, M10, g3, hf⟩ := bnd_s hf
    refine Fq.trans (Fq.mono (fq2_setMinute  g3) (by decide)) ?_
    obtain ⟨r12, M13, g4, hf⟩ := bnd_s hf
    refine Fq.trans (Fq.mono (fq10_nextPlace  g4) (by decide)) ?_
    by_cases c5 : r12 = i2
    · replace hf := ite_t c5 hf
      exact fqb10_goHour_68 hv0 hv1 hv2 hrc hf
    · replace hf := ite_f c5 hf
      obtain ⟨r16, M17, g6, hf⟩ := bnd_s hf
      refine Fq.trans (Fq.mono (fq10_comeTo hv0 hv1 g6) (by decide)) ?_
      exact fqb10_goHour_68 hv0 hv1 hv2 hrc hf
theorem fqb10_goHour_0 {k0 : Nat} (hv0 : k0 ∉ CSX) (hv1 : k0 + 1 ∉ CSX) (hv2 : k0 + 2 ∉ CSX) {rc : Nat → List Int32 → List Int64 → Mem → Option (Unit × Mem)} {n : Nat} {r : Unit} {M' : Mem} (hrc : ∀ pc li lj M, rc pc li lj M = some (r, M') → Fq CSX [] M M')  {M : Mem} (hf : b10_goHour_0 k0 rc n  M = some (r, M')) : Fq CSX [] M M' := by
  unfold b10_goHour_0 at hf
  obtain ⟨v1, ev1, hf⟩ := lt_x hf
  obtain ⟨r2, M3, g1, hf⟩ := bnd_s hf
  refine Fq.trans (Fq.mono (fq2_setHour  g1) (by decide)) ?_
  exact fqb10_goHour_25 hv0 hv1 hv2 hrc hf
theorem fql10_goHour {k0 : Nat} (hv0 : k0 ∉ CSX) (hv1 : k0 + 1 ∉ CSX) (hv2 : k0 + 2 ∉ CSX) {r : Unit} {M' : Mem} (n : Nat) : ∀ pc li lj M, r10_goHour k0 n pc li lj M = some (r, M') → Fq CSX [] M M' := by
  induction n with
  | zero => intro pc li lj M hf; cases hf
  | succ n ih =>
    intro pc li lj M hf
    rw [r10_goHour] at hf
    dsimp only at hf
    by_cases c25 : pc = 25
    · replace hf := ite_t c25 hf
      split at hf
      · exact fqb10_goHour_25 hv0 hv1 hv2 ih hf
      · cases hf
    replace hf := ite_f c25 hf
    cases hf
theorem fq10_goHour {k0 : Nat} (hv0 : k0 ∉ CSX) (hv1 : k0 + 1 ∉ CSX) (hv2 : k0 + 2 ∉ CSX) {n : Nat}  {M M' : Mem} {r : Unit} (hf : f10_goHour n k0  M = some (r, M')) : Fq CSX [] M M' := fqb10_goHour_0 hv0 hv1 hv2 (fql10_goHour hv0 hv1 hv2 n) hf
theorem fqb10_goDay_37 {k0 : Nat} (hv0 : k0 ∉ CSX) (hv1 : k0 + 1 ∉ CSX) (hv2 : k0 + 2 ∉ CSX) {rc : Nat → List Int32 → List Int64 → Mem → Option (Int32 × Mem)} {n : Nat} {r : Int32} {M' : Mem} (hrc : ∀ pc li lj M, rc pc li lj M = some (r, M') → Fq CSX [] M M')  {M : Mem} (hf : b10_goDay_37 k0 rc n  M = some (r, M')) : Fq CSX [] M M' := by
  unfold b10_goDay_37 at hf
  obtain ⟨M13, eM13, hf⟩ := lt_x hf
  refine Fq_wIn eM13 hv0 ?_
  exact Fq.of hf
theorem fqb10_goDay_0 {k0 : Nat} (hv0 : k0 ∉ CSX) (hv1 : k0 + 1 ∉ CSX) (hv2 : k0 + 2 ∉ CSX) {rc : Nat → List Int32 → List Int64 → Mem → Option (Int32 × Mem)} {n : Nat} {r : Int32} {M' : Mem} (hrc : ∀ pc li lj M, rc pc li lj M = some (r, M') → Fq CSX [] M M')  {M : Mem} (hf : b10_goDay_0 k0 rc n  M = some (r, M')) : Fq CSX [] M M' := by
  unfold b10_goDay_0 at hf
  by_cases c1 : (M.1 k0 2) < (9999 : Int32)
  · replace hf := ite_t c1 hf
    obtain ⟨r2, M3, g2, hf⟩ := bnd_s hf
    refine Fq.trans (Fq.mono (fq0_forgetWalk hv0 g2) (by decide)) ?_
    obtain ⟨r5, M6, g3, hf⟩ := bnd_s hf
    refine Fq.trans (Fq.mono (fq10_drawHour hv0 g3) (by decide)) ?_
    obtain ⟨M8, eM8, hf⟩ := lt_x hf
    refine Fq_wIn eM8 hv0 ?_
    by_cases c4 : (M8.1 k0 4) < 0
    · replace hf := ite_t c4 hf
      exact fqb10_goDay_37 hv0 hv1 hv2 hrc hf
    · replace hf := ite_f c4 hf
      obtain ⟨r10, M11, g5, hf⟩ := bnd_s hf
      refine Fq.trans (Fq.mono (fq10_goHour hv0 hv1 hv2 g5) (by decide)) ?_
      exact fqb10_goDay_37 hv0 hv1 hv2 hrc hf
  · replace hf := ite_f c1 hf
    exact Fq.of hf
theorem fq10_goDay {k0 : Nat} (hv0 : k0 ∉ CSX) (hv1 : k0 + 1 ∉ CSX) (hv2 : k0 + 2 ∉ CSX) {n : Nat}  {M M' : Mem} {r : Int32} (hf : f10_goDay n k0  M = some (r, M')) : Fq CSX [] M M' := fqb10_goDay_0 hv0 hv1 hv2 (fun _ _ _ _ h => by cases h) hf
theorem fqb11_placeAt_25   {rc : Nat → List Int32 → List Int64 → Mem → Option (Int32 × Mem)} {n : Nat} {r : Int32} {M' : Mem} (hrc : ∀ pc li lj M, rc pc li lj M = some (r, M') → Fq CSX [] M M') {i0 : Int32} {i1 : Int32} {s0 : Int32} {M : Mem} (hf : b11_placeAt_25  rc n i0 i1 s0 M = some (r, M')) : Fq CSX [] M M' := by
  unfold b11_placeAt_25 at hf
  by_cases c1 : s0 = 0
  · replace hf := ite_t c1 hf
    exact Fq.of hf
  · replace hf := ite_f c1 hf
    exact Fq.of hf
theorem fqb11_placeAt_24   {rc : Nat → List Int32 → List Int64 → Mem → Option (Int32 × Mem)} {n : Nat} {r : Int32} {M' : Mem} (hrc : ∀ pc li lj M, rc pc li lj M = some (r, M') → Fq CSX [] M M') {i0 : Int32} {i1 : Int32} {M : Mem} (hf : b11_placeAt_24  rc n i0 i1 M = some (r, M')) : Fq CSX [] M M' := by
  unfold b11_placeAt_24 at hf
  exact fqb11_placeAt_25  hrc hf
theorem fqb11_placeAt_0   {rc : Nat → List Int32 → List Int64 → Mem → Option (Int32 × Mem)} {n : Nat} {r : Int32} {M' : Mem} (hrc : ∀ pc li lj M, rc pc li lj M = some (r, M') → Fq CSX [] M M') {a0 : Int32} {a1 : Int32} {M : Mem} (hf : b11_placeAt_0  rc n a0 a1 M = some (r, M')) : Fq CSX [] M M' := by
  unfold b11_placeAt_0 at hf
  by_cases c1 : a0 < 0
  · replace hf := ite_t c1 hf
    exact fqb11_placeAt_24  hrc hf
  · replace hf := ite_f c1 hf
    by_cases c2 : (12 : Int32) ≤ a0
    · replace hf := ite_t c2 hf
      exact fqb11_placeAt_24  hrc hf
    · replace hf := ite_f c2 hf
      by_cases c3 : a1 < 0
      · replace hf := ite_t c3 hf
        exact fqb11_placeAt_24  hrc hf
      · replace hf := ite_f c3 hf
        by_cases c4 : (8 : Int32) ≤ a1
        · replace hf := ite_t c4 hf
          exact fqb11_placeAt_24  hrc hf
        · replace hf := ite_f c4 hf
          exact fqb11_placeAt_25  hrc hf
theorem fq11_placeAt   {n : Nat} {a0 : Int32} {a1 : Int32} {M M' : Mem} {r : Int32} (hf : f11_placeAt n  a0 a1 M = some (r, M')) : Fq CSX [] M M' := fqb11_placeAt_0  (fun _ _ _ _ h => by cases h) hf
theorem fqb11_square_0   {rc : Nat → List Int32 → List Int64 → Mem → Option (Int32 × Mem)} {n : Nat} {r : Int32} {M' : Mem} (hrc : ∀ pc li lj M, rc pc li lj M = some (r, M') → Fq CSX [(3, 7), (3, 9)] M M') {a1 : Int32} {a2 : Int32} {M : Mem} (hf : b11_square_0  rc n a1 a2 M = some (r, M')) : Fq CSX [(3, 7), (3, 9)] M M' := by
  unfold b11_square_0 at hf
  obtain ⟨r1, M2, g1, hf⟩ := bnd_s hf
  refine Fq.trans (Fq.mono (fq11_placeAt  g1) (by decide)) ?_
  by_cases c2 : r1 = (-1 : Int32)
  · replace hf := ite_t c2 hf
    exact Fq.of hf
  · replace hf := ite_f c2 hf
    obtain ⟨M5, eM5, hf⟩ := lt_x hf
    refine Fq_wI eM5 (by decide) ?_
    obtain ⟨r6, M7, g3, hf⟩ := bnd_s hf
    refine Fq.trans (Fq.mono (fq8_refresh  g3) (by decide)) ?_
    exact Fq.of hf
theorem fq11_square   {n : Nat} {a1 : Int32} {a2 : Int32} {M M' : Mem} {r : Int32} (hf : f11_square n  a1 a2 M = some (r, M')) : Fq CSX [(3, 7), (3, 9)] M M' := fqb11_square_0  (fun _ _ _ _ h => by cases h) hf
theorem fqb11_door_24   {rc : Nat → List Int32 → List Int64 → Mem → Option (Int32 × Mem)} {n : Nat} {r : Int32} {M' : Mem} (hrc : ∀ pc li lj M, rc pc li lj M = some (r, M') → Fq CSX [(3, 8), (3, 9)] M M')  {M : Mem} (hf : b11_door_24  rc n  M = some (r, M')) : Fq CSX [(3, 8), (3, 9)] M M' := by
  unfold b11_door_24 at hf
  exact Fq.of hf
theorem fqb11_door_0   {rc : Nat → List Int32 → List Int64 → Mem → Option (Int32 × Mem)} {n : Nat} {r : Int32} {M' : Mem} (hrc : ∀ pc li lj M, rc pc li lj M = some (r, M') → Fq CSX [(3, 8), (3, 9)] M M') {a1 : Int32} {a2 : Int32} {a3 : Int32} {M : Mem} (hf : b11_door_0  rc n a1 a2 a3 M = some (r, M')) : Fq CSX [(3, 8), (3, 9)] M M' := by
  unfold b11_door_0 at hf
  obtain ⟨r1, M2, g1, hf⟩ := bnd_s hf
  refine Fq.trans (Fq.mono (fq11_placeAt  g1) (by decide)) ?_
  by_cases c2 : r1 = (-1 : Int32)
  · replace hf := ite_t c2 hf
    exact fqb11_door_24  hrc hf
  · replace hf := ite_f c2 hf
    by_cases c3 : a1 < (1 : Int32)
    · replace hf := ite_t c3 hf
      exact fqb11_door_24  hrc hf
    · replace hf := ite_f c3 hf
      by_cases c4 : a1 ≤ (9 : Int32)
      · replace hf := ite_t c4 hf
        replace hf := chk_2 hf
        obtain ⟨M8, eM8, hf⟩ := lt_x hf
        refine Fq_wIn eM8 (by decide) ?_
        obtain ⟨M9, eM9, hf⟩ := lt_x hf
        refine Fq_wI eM9 (by decide) ?_
        obtain ⟨r10, M11, g5, hf⟩ := bnd_s hf
        refine Fq.trans (Fq.mono (fq8_refresh  g5) (by decide)) ?_
        exact Fq.of hf
      · replace hf := ite_f c4 hf
        exact fqb11_door_24  hrc hf
theorem fq11_door   {n : Nat} {a1 : Int32} {a2 : Int32} {a3 : Int32} {M M' : Mem} {r : Int32} (hf : f11_door n  a1 a2 a3 M = some (r, M')) : Fq CSX [(3, 8), (3, 9)] M M' := fqb11_door_0  (fun _ _ _ _ h => by cases h) hf
theorem fqb11_feed_0   {rc : Nat → List Int32 → List Int64 → Mem → Option (Int32 × Mem)} {n : Nat} {r : Int32} {M' : Mem} (hrc : ∀ pc li lj M, rc pc li lj M = some (r, M') → Fq CSX [(1, 1)] M M') {a1 : Int32} {a2 : Int32} {a3 : Int32} {a4 : Int32} {a5 : Int32} {M : Mem} (hf : b11_feed_0  rc n a1 a2 a3 a4 a5 M = some (r, M')) : Fq CSX [(1, 1)] M M' := by
  unfold b11_feed_0 at hf
  obtain ⟨r1, M2, g1, hf⟩ := bnd_s hf
  refine Fq.trans (Fq.mono (fq7_hasRoomForFive  g1) (by decide)) ?_
  by_cases c2 : r1 = 0
  · replace hf := ite_t c2 hf
    exact Fq.of hf
  · replace hf := ite_f c2 hf
    obtain ⟨r5, M6, g3, hf⟩ := bnd_s hf
    refine Fq.trans (Fq.mono (fq7_addInt  g3) (by decide)) ?_
    obtain ⟨r8, M9, g4, hf⟩ := bnd_s hf
    refine Fq.trans (Fq.mono (fq7_addInt  g4) (by decide)) ?_
    obtain ⟨r11, M12, g5, hf⟩ := bnd_s hf
    refine Fq.trans (Fq.mono (fq7_addInt  g5) (by decide)) ?_
    obtain ⟨r14, M15, g6, hf⟩ := bnd_s hf
    refine Fq.trans (Fq.mono (fq7_addInt  g6) (by decide)) ?_
    obtain ⟨r17, M18, g7, hf⟩ := bnd_s hf
    refine Fq.trans (Fq.mono (fq7_addInt  g7) (by decide)) ?_
    exact Fq.of hf
theorem fq11_feed   {n : Nat} {a1 : Int32} {a2 : Int32} {a3 : Int32} {a4 : Int32} {a5 : Int32} {M M' : Mem} {r : Int32} (hf : f11_feed n  a1 a2 a3 a4 a5 M = some (r, M')) : Fq CSX [(1, 1)] M M' := fqb11_feed_0  (fun _ _ _ _ h => by cases h) hf
theorem fqb11_map_0   {rc : Nat → List Int32 → List Int64 → Mem → Option (Int32 × Mem)} {n : Nat} {r : Int32} {M' : Mem} (hrc : ∀ pc li lj M, rc pc li lj M = some (r, M') → Fq CSX [(1, 1), (3, 9)] M M') {a1 : Int32} {M : Mem} (hf : b11_map_0  rc n a1 M = some (r, M')) : Fq CSX [(1, 1), (3, 9)] M M' := by
  unfold b11_map_0 at hf
  obtain ⟨r1, M2, g1, hf⟩ := bnd_s hf
  refine Fq.trans (Fq.mono (fq7_canGive  g1) (by decide)) ?_
  by_cases c2 : r1 = 0
  · replace hf := ite_t c2 hf
    exact Fq.of hf
  · replace hf := ite_f c2 hf
    obtain ⟨r5, M6, g3, hf⟩ := bnd_s hf
    refine Fq.trans (Fq.mono (fq8_readMap  g3) (by decide)) ?_
    obtain ⟨M8, eM8, hf⟩ := lt_x hf
    refine Fq_wI eM8 (by decide) ?_
    exact Fq.of hf
theorem fq11_map   {n : Nat} {a1 : Int32} {M M' : Mem} {r : Int32} (hf : f11_map n  a1 M = some (r, M')) : Fq CSX [(1, 1), (3, 9)] M M' := fqb11_map_0  (fun _ _ _ _ h => by cases h) hf
theorem fqb11_notes_0   {rc : Nat → List Int32 → List Int64 → Mem → Option (Int32 × Mem)} {n : Nat} {r : Int32} {M' : Mem} (hrc : ∀ pc li lj M, rc pc li lj M = some (r, M') → Fq CSX [(1, 1), (25, 2), (25, 3), (25, 4)] M M') {a1 : Int32} {M : Mem} (hf : b11_notes_0  rc n a1 M = some (r, M')) : Fq CSX [(1, 1), (25, 2), (25, 3), (25, 4)] M M' := by
  unfold b11_notes_0 at hf
  obtain ⟨r1, M2, g1, hf⟩ := bnd_s hf
  refine Fq.trans (Fq.mono (fq7_canGive  g1) (by decide)) ?_
  by_cases c2 : r1 = 0
  · replace hf := ite_t c2 hf
    exact Fq.of hf
  · replace hf := ite_f c2 hf
    obtain ⟨r5, M6, g3, hf⟩ := bnd_s hf
    refine Fq.trans (Fq.mono (fq9_read  g3) (by decide)) ?_
    obtain ⟨M8, eM8, hf⟩ := lt_x hf
    refine Fq_wI eM8 (by decide) ?_
    exact Fq.of hf
theorem fq11_notes   {n : Nat} {a1 : Int32} {M M' : Mem} {r : Int32} (hf : f11_notes n  a1 M = some (r, M')) : Fq CSX [(1, 1), (25, 2), (25, 3), (25, 4)] M M' := fqb11_notes_0  (fun _ _ _ _ h => by cases h) hf
theorem fqb11_days_11   {rc : Nat → List Int32 → List Int64 → Mem → Option (Int32 × Mem)} {n : Nat} {r : Int32} {M' : Mem} (hrc : ∀ pc li lj M, rc pc li lj M = some (r, M') → Fq CSX [] M M')  {M : Mem} (hf : b11_days_11  rc n  M = some (r, M')) : Fq CSX [] M M' := by
  unfold b11_days_11 at hf
  exact Fq.of hf
theorem fqb11_days_52   {rc : Nat → List Int32 → List Int64 → Mem → Option (Int32 × Mem)} {n : Nat} {r : Int32} {M' : Mem} (hrc : ∀ pc li lj M, rc pc li lj M = some (r, M') → Fq CSX [] M M') {i2 : Int32} {M : Mem} (hf : b11_days_52  rc n i2 M = some (r, M')) : Fq CSX [] M M' := by
  unfold b11_days_52 at hf
  exact Fq.of hf
theorem fqb11_days_17   {rc : Nat → List Int32 → List Int64 → Mem → Option (Int32 × Mem)} {n : Nat} {r : Int32} {M' : Mem} (hrc : ∀ pc li lj M, rc pc li lj M = some (r, M') → Fq CSX [] M M') {i1 : Int32} {i2 : Int32} {i3 : Int32} {M : Mem} (hf : b11_days_17  rc n i1 i2 i3 M = some (r, M')) : Fq CSX [] M M' := by
  unfold b11_days_17 at hf
  by_cases c1 : i1 ≤ i3
  · replace hf := ite_t c1 hf
    exact fqb11_days_52  hrc hf
  · replace hf := ite_f c1 hf
    obtain ⟨r4, M5, g2, hf⟩ := bnd_s hf
    refine Fq.trans (Fq.mono (fq10_goDay (by decide) (by decide) (by decide) g2) (by decide)) ?_
    by_cases c3 : r4 = 0
    · replace hf := ite_t c3 hf
      exact fqb11_days_52  hrc hf
    · replace hf := ite_f c3 hf
      obtain ⟨v8, ev8, hf⟩ := lt_x hf
      obtain ⟨v9, ev9, hf⟩ := lt_x hf
      exact hrc _ _ _ _ hf
theorem fqb11_days_0   {rc : Nat → List Int32 → List Int64 → Mem → Option (Int32 × Mem)} {n : Nat} {r : Int32} {M' : Mem} (hrc : ∀ pc li lj M, rc pc li lj M = some (r, M') → Fq CSX [] M M') {a1 : Int32} {M : Mem} (hf : b11_days_0  rc n a1 M = some (r, M')) : Fq CSX [] M M' := by
  unfold b11_days_0 at hf
  by_cases c1 : a1 < (1 : Int32)
  · replace hf := ite_t c1 hf
    exact fqb11_days_11  hrc hf
  · replace hf := ite_f c1 hf
    by_cases c2 : a1 ≤ (30 : Int32)
    · replace hf := ite_t c2 hf
      exact fqb11_days_17  hrc hf
    · replace hf := ite_f c2 hf
      exact fqb11_days_11  hrc hf
theorem fql11_days   {r : Int32} {M' : Mem} (n : Nat) : ∀ pc li lj M, r11_days  n pc li lj M = some (r, M') → Fq CSX [] M M' := by
  induction n with
  | zero => intro pc li lj M hf; cases hf
  | succ n ih =>
    intro pc li lj M hf
    rw [r11_days] at hf
    dsimp only at hf
    by_cases c17 : pc = 17
    · replace hf := ite_t c17 hf
      split at hf
      · exact fqb11_days_17  ih hf
      · cases hf
    replace hf := ite_f c17 hf
    cases hf
theorem fq11_days   {n : Nat} {a1 : Int32} {M M' : Mem} {r : Int32} (hf : f11_days n  a1 M = some (r, M')) : Fq CSX [] M M' := fqb11_days_0  (fql11_days  n) hf
theorem fqb11_tried_43   {rc : Nat → List Int32 → List Int64 → Mem → Option (Int32 × Mem)} {n : Nat} {r : Int32} {M' : Mem} (hrc : ∀ pc li lj M, rc pc li lj M = some (r, M') → Fq CSX [] M M')  {M : Mem} (hf : b11_tried_43  rc n  M = some (r, M')) : Fq CSX [] M M' := by
  unfold b11_tried_43 at hf
  exact Fq.of hf
theorem fqb11_tried_154   {rc : Nat → List Int32 → List Int64 → Mem → Option (Int32 × Mem)} {n : Nat} {r : Int32} {M' : Mem} (hrc : ∀ pc li lj M, rc pc li lj M = some (r, M') → Fq CSX [] M M') {i2 : Int32} {i3 : Int32} {i4 : Int32} {i5 : Int32} {i6 : Int32} {i7 : Int32} {M : Mem} (hf : b11_tried_154  rc n i2 i3 i4 i5 i6 i7 M = some (r, M')) : Fq CSX [] M M' := by
  unfold b11_tried_154 at hf
  by_cases c1 : i3 = 0
  · replace hf := ite_t c1 hf
    by_cases c2 : i2 = (0 : Int32)
    · replace hf := ite_t c2 hf
      exact Fq.of hf
    · replace hf := ite_f c2 hf
      by_cases c3 : i2 = (1 : Int32)
      · replace hf := ite_t c3 hf
        exact Fq.of hf
      · replace hf := ite_f c3 hf
        by_cases c4 : i2 = (2 : Int32)
        · replace hf := ite_t c4 hf
          exact Fq.of hf
        · replace hf := ite_f c4 hf
          exact Fq.of hf
  · replace hf := ite_f c1 hf
    have h5 := chk_1 hf
    replace hf := chk_2 hf
    exact Fq.of hf
theorem fqb11_tried_121   {rc : Nat → List Int32 → List Int64 → Mem → Option (Int32 × Mem)} {n : Nat} {r : Int32} {M' : Mem} (hrc : ∀ pc li lj M, rc pc li lj M = some (r, M') → Fq CSX [] M M') {i1 : Int32} {i2 : Int32} {i3 : Int32} {i4 : Int32} {i6 : Int32} {i8 : Int32} {s0 : Int32} {s1 : Int32} {M : Mem} (hf : b11_tried_121  rc n i1 i2 i3 i4 i6 i8 s0 s1 M = some (r, M')) : Fq CSX [] M M' := by
  unfold b11_tried_121 at hf
  obtain ⟨v18, ev18, hf⟩ := lt_x hf
  obtain ⟨r19, M20, g1, hf⟩ := bnd_s hf
  refine Fq.trans (Fq.mono (fqZJ6_bitCount_0f7a4  g1) (by decide)) ?_
  obtain ⟨v22, ev22, hf⟩ := lt_x hf
  obtain ⟨v23, ev23, hf⟩ := lt_x hf
  obtain ⟨v24, ev24, hf⟩ := lt_x hf
  exact hrc _ _ _ _ hf
theorem fqb11_tried_72   {rc : Nat → List Int32 → List Int64 → Mem → Option (Int32 × Mem)} {n : Nat} {r : Int32} {M' : Mem} (hrc : ∀ pc li lj M, rc pc li lj M = some (r, M') → Fq CSX [] M M') {i1 : Int32} {i2 : Int32} {i3 : Int32} {i4 : Int32} {i5 : Int32} {i6 : Int32} {i7 : Int32} {i8 : Int32} {M : Mem} (hf : b11_tried_72  rc n i1 i2 i3 i4 i5 i6 i7 i8 M = some (r, M')) : Fq CSX [] M M' := by
  unfold b11_tried_72 at hf
  by_cases c1 : i1 ≤ i8
  · replace hf := ite_t c1 hf
    exact fqb11_tried_154  hrc hf
  · replace hf := ite_f c1 hf
    obtain ⟨r12, M13, g2, hf⟩ := bnd_s hf
    refine Fq.trans (Fq.mono (fq10_goDay (by decide) (by decide) (by decide) g2) (by decide)) ?_
    by_cases c3 : r12 = 0
    · replace hf := ite_t c3 hf
      exact fqb11_tried_154  hrc hf
    · replace hf := ite_f c3 hf
      obtain ⟨v16, ev16, hf⟩ := lt_x hf
      by_cases c4 : (M13.1 336 4) < 0
      · replace hf := ite_t c4 hf
        exact fqb11_tried_121  hrc hf
      · replace hf := ite_f c4 hf
        exact fqb11_tried_121  hrc hf
theorem fqb11_tried_45   {rc : Nat → List Int32 → List Int64 → Mem → Option (Int32 × Mem)} {n : Nat} {r : Int32} {M' : Mem} (hrc : ∀ pc li lj M, rc pc li lj M = some (r, M') → Fq CSX [] M M') {i1 : Int32} {i2 : Int32} {i3 : Int32} {M : Mem} (hf : b11_tried_45  rc n i1 i2 i3 M = some (r, M')) : Fq CSX [] M M' := by
  unfold b11_tried_45 at hf
  obtain ⟨r8, M9, g1, hf⟩ := bnd_s hf
  refine Fq.trans (Fq.mono (fq0_take (by decide) (by decide) (by decide) g1) (by decide)) ?_
  exact fqb11_tried_72  hrc hf
theorem fqb11_tried_18   {rc : Nat → List Int32 → List Int64 → Mem → Option (Int32 × Mem)} {n : Nat} {r : Int32} {M' : Mem} (hrc : ∀ pc li lj M, rc pc li lj M = some (r, M') → Fq CSX [] M M') {i1 : Int32} {i2 : Int32} {s0 : Int32} {M : Mem} (hf : b11_tried_18  rc n i1 i2 s0 M = some (r, M')) : Fq CSX [] M M' := by
  unfold b11_tried_18 at hf
  by_cases c1 : i1 < (1 : Int32)
  · replace hf := ite_t c1 hf
    exact fqb11_tried_43  hrc hf
  · replace hf := ite_f c1 hf
    by_cases c2 : (30 : Int32) < i1
    · replace hf := ite_t c2 hf
      exact fqb11_tried_43  hrc hf
    · replace hf := ite_f c2 hf
      by_cases c3 : i2 < 0
      · replace hf := ite_t c3 hf
        exact fqb11_tried_43  hrc hf
      · replace hf := ite_f c3 hf
        by_cases c4 : i2 ≤ (3 : Int32)
        · replace hf := ite_t c4 hf
          exact fqb11_tried_45  hrc hf
        · replace hf := ite_f c4 hf
          by_cases c5 : s0 = 0
          · replace hf := ite_t c5 hf
            exact fqb11_tried_43  hrc hf
          · replace hf := ite_f c5 hf
            exact fqb11_tried_45  hrc hf
theorem fqb11_tried_17   {rc : Nat → List Int32 → List Int64 → Mem → Option (Int32 × Mem)} {n : Nat} {r : Int32} {M' : Mem} (hrc : ∀ pc li lj M, rc pc li lj M = some (r, M') → Fq CSX [] M M') {i1 : Int32} {i2 : Int32} {M : Mem} (hf : b11_tried_17  rc n i1 i2 M = some (r, M')) : Fq CSX [] M M' := by
  unfold b11_tried_17 at hf
  exact fqb11_tried_18  hrc hf
theorem fqb11_tried_0   {rc : Nat → List Int32 → List Int64 → Mem → Option (Int32 × Mem)} {n : Nat} {r : Int32} {M' : Mem} (hrc : ∀ pc li lj M, rc pc li lj M = some (r, M') → Fq CSX [] M M') {a1 : Int32} {a2 : Int32} {M : Mem} (hf : b11_tried_0  rc n a1 a2 M = some (r, M')) : Fq CSX [] M M' := by
  unfold b11_tried_0 at hf
  by_cases c1 : a2 < (100 : Int32)
  · replace hf := ite_t c1 hf
    exact fqb11_tried_17  hrc hf
  · replace hf := ite_f c1 hf
    by_cases c2 : (196 : Int32) ≤ a2
    · replace hf := ite_t c2 hf
      exact fqb11_tried_17  hrc hf
    · replace hf := ite_f c2 hf
      exact fqb11_tried_18  hrc hf
theorem fql11_tried   {r : Int32} {M' : Mem} (n : Nat) : ∀ pc li lj M, r11_tried  n pc li lj M = some (r, M') → Fq CSX [] M M' := by
  induction n with
  | zero => intro pc li lj M hf; cases hf
  | succ n ih =>
    intro pc li lj M hf
    rw [r11_tried] at hf
    dsimp only at hf
    by_cases c72 : pc = 72
    · replace hf := ite_t c72 hf
      split at hf
      · exact fqb11_tried_72  ih hf
      · cases hf
    replace hf := ite_f c72 hf
    cases hf
theorem fq11_tried   {n : Nat} {a1 : Int32} {a2 : Int32} {M M' : Mem} {r : Int32} (hf : f11_tried n  a1 a2 M = some (r, M')) : Fq CSX [] M M' := fqb11_tried_0  (fql11_tried  n) hf
theorem fqb11_placeIs_0   {rc : Nat → List Int32 → List Int64 → Mem → Option (Int32 × Mem)} {n : Nat} {r : Int32} {M' : Mem} (hrc : ∀ pc li lj M, rc pc li lj M = some (r, M') → Fq CSX [] M M') {a1 : Int32} {a2 : Int32} {a3 : Int32} {M : Mem} (hf : b11_placeIs_0  rc n a1 a2 a3 M = some (r, M')) : Fq CSX [] M M' := by
  unfold b11_placeIs_0 at hf
  obtain ⟨r1, M2, g1, hf⟩ := bnd_s hf
  refine Fq.trans (Fq.mono (fq11_placeAt  g1) (by decide)) ?_
  by_cases c2 : r1 = (-1 : Int32)
  · replace hf := ite_t c2 hf
    exact Fq.of hf
  · replace hf := ite_f c2 hf
    by_cases c3 : a3 = (0 : Int32)
    · replace hf := ite_t c3 hf
      obtain ⟨r6, M7, g4, hf⟩ := bnd_s hf
      refine Fq.trans (Fq.mono (fq8_kindOf  g4) (by decide)) ?_
      exact Fq.of hf
    · replace hf := ite_f c3 hf
      by_cases c5 : a3 = (1 : Int32)
      · replace hf := ite_t c5 hf
        have h6 := chk_1 hf
        replace hf := chk_2 hf
        exact Fq.of hf
      · replace hf := ite_f c5 hf
        by_cases c7 : a3 = (2 : Int32)
        · replace hf := ite_t c7 hf
          have h8 := chk_1 hf
          replace hf := chk_2 hf
          exact Fq.of hf
        · replace hf := ite_f c7 hf
          by_cases c9 : a3 = (3 : Int32)
          · replace hf := ite_t c9 hf
            have h10 := chk_1 hf
            replace hf := chk_2 hf
            exact Fq.of hf
          · replace hf := ite_f c9 hf
            by_cases c11 : a3 = (4 : Int32)
            · replace hf := ite_t c11 hf
              obtain ⟨r16, M17, g12, hf⟩ := bnd_s hf
              refine Fq.trans (Fq.mono (fq8_openBeside  g12) (by decide)) ?_
              exact Fq.of hf
            · replace hf := ite_f c11 hf
              exact Fq.of hf
theorem fq11_placeIs   {n : Nat} {a1 : Int32} {a2 : Int32} {a3 : Int32} {M M' : Mem} {r : Int32} (hf : f11_placeIs n  a1 a2 a3 M = some (r, M')) : Fq CSX [] M M' := fqb11_placeIs_0  (fun _ _ _ _ h => by cases h) hf
