theorem fqb11_partOfFraction_54   {rc : Nat → List Int32 → List Int64 → Mem → Option (Int32 × Mem)} {n : Nat} {r : Int32} {M' : Mem} (hrc : ∀ pc li lj M, rc pc li lj M = some (r, M') → Fq CSX [] M M') {i3 : Int32} {s0 : Int32} {M : Mem} (hf : b11_partOfFraction_54  rc n i3 s0 M = some (r, M')) : Fq CSX [] M M' := by
  unfold b11_partOfFraction_54 at hf
  replace hf := chk_2 hf
  exact Fq.of hf
theorem fqb11_partOfFraction_39   {rc : Nat → List Int32 → List Int64 → Mem → Option (Int32 × Mem)} {n : Nat} {r : Int32} {M' : Mem} (hrc : ∀ pc li lj M, rc pc li lj M = some (r, M') → Fq CSX [] M M') {i0 : Int32} {i1 : Int32} {i2 : Int32} {i3 : Int32} {M : Mem} (hf : b11_partOfFraction_39  rc n i0 i1 i2 i3 M = some (r, M')) : Fq CSX [] M M' := by
  unfold b11_partOfFraction_39 at hf
  by_cases c1 : i3 = 0
  · replace hf := ite_t c1 hf
    exact Fq.of hf
  · replace hf := ite_f c1 hf
    by_cases c2 : i2 = 0
    · replace hf := ite_t c2 hf
      exact fqb11_partOfFraction_54  hrc hf
    · replace hf := ite_f c2 hf
      exact fqb11_partOfFraction_54  hrc hf
theorem fqb11_partOfFraction_8   {rc : Nat → List Int32 → List Int64 → Mem → Option (Int32 × Mem)} {n : Nat} {r : Int32} {M' : Mem} (hrc : ∀ pc li lj M, rc pc li lj M = some (r, M') → Fq CSX [] M M') {i0 : Int32} {i1 : Int32} {i2 : Int32} {i3 : Int32} {i4 : Int32} {i5 : Int32} {M : Mem} (hf : b11_partOfFraction_8  rc n i0 i1 i2 i3 i4 i5 M = some (r, M')) : Fq CSX [] M M' := by
  unfold b11_partOfFraction_8 at hf
  by_cases c1 : (64 : Int32) ≤ i5
  · replace hf := ite_t c1 hf
    exact fqb11_partOfFraction_39  hrc hf
  · replace hf := ite_f c1 hf
    by_cases c2 : i4 = 0
    · replace hf := ite_t c2 hf
      exact fqb11_partOfFraction_39  hrc hf
    · replace hf := ite_f c2 hf
      replace hf := chk_2 hf
      obtain ⟨v4, ev4, hf⟩ := lt_x hf
      obtain ⟨v5, ev5, hf⟩ := lt_x hf
      exact hrc _ _ _ _ hf
theorem fqb11_partOfFraction_0   {rc : Nat → List Int32 → List Int64 → Mem → Option (Int32 × Mem)} {n : Nat} {r : Int32} {M' : Mem} (hrc : ∀ pc li lj M, rc pc li lj M = some (r, M') → Fq CSX [] M M') {a0 : Int32} {a1 : Int32} {a2 : Int32} {M : Mem} (hf : b11_partOfFraction_0  rc n a0 a1 a2 M = some (r, M')) : Fq CSX [] M M' := by
  unfold b11_partOfFraction_0 at hf
  exact fqb11_partOfFraction_8  hrc hf
theorem fql11_partOfFraction   {r : Int32} {M' : Mem} (n : Nat) : ∀ pc li lj M, r11_partOfFraction  n pc li lj M = some (r, M') → Fq CSX [] M M' := by
  induction n with
  | zero => intro pc li lj M hf; cases hf
  | succ n ih =>
    intro pc li lj M hf
    rw [r11_partOfFraction] at hf
    dsimp only at hf
    by_cases c8 : pc = 8
    · replace hf := ite_t c8 hf
      split at hf
      · exact fqb11_partOfFraction_8  ih hf
      · cases hf
    replace hf := ite_f c8 hf
    cases hf
theorem fq11_partOfFraction   {n : Nat} {a0 : Int32} {a1 : Int32} {a2 : Int32} {M M' : Mem} {r : Int32} (hf : f11_partOfFraction n  a0 a1 a2 M = some (r, M')) : Fq CSX [] M M' := fqb11_partOfFraction_0  (fql11_partOfFraction  n) hf
theorem fqb11_likely_19   {rc : Nat → List Int32 → List Int64 → Mem → Option (Int32 × Mem)} {n : Nat} {r : Int32} {M' : Mem} (hrc : ∀ pc li lj M, rc pc li lj M = some (r, M') → Fq CSX [(25, 5), (25, 6), (25, 7)] M M')  {M : Mem} (hf : b11_likely_19  rc n  M = some (r, M')) : Fq CSX [(25, 5), (25, 6), (25, 7)] M M' := by
  unfold b11_likely_19 at hf
  exact Fq.of hf
theorem fqb11_likely_56   {rc : Nat → List Int32 → List Int64 → Mem → Option (Int32 × Mem)} {n : Nat} {r : Int32} {M' : Mem} (hrc : ∀ pc li lj M, rc pc li lj M = some (r, M') → Fq CSX [(25, 5), (25, 6), (25, 7)] M M')  {M : Mem} (hf : b11_likely_56  rc n  M = some (r, M')) : Fq CSX [(25, 5), (25, 6), (25, 7)] M M' := by
  unfold b11_likely_56 at hf
  exact Fq.of hf
theorem fqb11_likely_84   {rc : Nat → List Int32 → List Int64 → Mem → Option (Int32 × Mem)} {n : Nat} {r : Int32} {M' : Mem} (hrc : ∀ pc li lj M, rc pc li lj M = some (r, M') → Fq CSX [(25, 5), (25, 6), (25, 7)] M M') {s0 : Int32} {s1 : Int32} {s2 : Int32} {M : Mem} (hf : b11_likely_84  rc n s0 s1 s2 M = some (r, M')) : Fq CSX [(25, 5), (25, 6), (25, 7)] M M' := by
  unfold b11_likely_84 at hf
  obtain ⟨r15, M16, g1, hf⟩ := bnd_s hf
  refine Fq.trans (Fq.mono (fq11_partOfFraction  g1) (by decide)) ?_
  exact Fq.of hf
theorem fqb11_likely_0   {rc : Nat → List Int32 → List Int64 → Mem → Option (Int32 × Mem)} {n : Nat} {r : Int32} {M' : Mem} (hrc : ∀ pc li lj M, rc pc li lj M = some (r, M') → Fq CSX [(25, 5), (25, 6), (25, 7)] M M') {a1 : Int32} {a2 : Int32} {M : Mem} (hf : b11_likely_0  rc n a1 a2 M = some (r, M')) : Fq CSX [(25, 5), (25, 6), (25, 7)] M M' := by
  unfold b11_likely_0 at hf
  by_cases c1 : a1 < 0
  · replace hf := ite_t c1 hf
    exact fqb11_likely_19  hrc hf
  · replace hf := ite_f c1 hf
    by_cases c2 : (24 : Int32) ≤ a1
    · replace hf := ite_t c2 hf
      exact fqb11_likely_19  hrc hf
    · replace hf := ite_f c2 hf
      by_cases c3 : a2 < 0
      · replace hf := ite_t c3 hf
        exact fqb11_likely_19  hrc hf
      · replace hf := ite_f c3 hf
        by_cases c4 : a2 ≤ (1 : Int32)
        · replace hf := ite_t c4 hf
          obtain ⟨r5, M6, g5, hf⟩ := bnd_s hf
          refine Fq.trans (Fq.mono (fq9_weigh  g5) (by decide)) ?_
          obtain ⟨r8, M9, g6, hf⟩ := bnd_s hf
          refine Fq.trans (Fq.mono (fq9_isWatched  g6) (by decide)) ?_
          by_cases c7 : r8 = 0
          · replace hf := ite_t c7 hf
            by_cases c8 : (M9.1 25 5) = 0
            · replace hf := ite_t c8 hf
              exact fqb11_likely_56  hrc hf
            · replace hf := ite_f c8 hf
              replace hf := chk_2 hf
              by_cases c9 : a2 = 0
              · replace hf := ite_t c9 hf
                exact fqb11_likely_84  hrc hf
              · replace hf := ite_f c9 hf
                exact fqb11_likely_84  hrc hf
          · replace hf := ite_f c7 hf
            exact fqb11_likely_56  hrc hf
        · replace hf := ite_f c4 hf
          exact fqb11_likely_19  hrc hf
theorem fq11_likely   {n : Nat} {a1 : Int32} {a2 : Int32} {M M' : Mem} {r : Int32} (hf : f11_likely n  a1 a2 M = some (r, M')) : Fq CSX [(25, 5), (25, 6), (25, 7)] M M' := fqb11_likely_0  (fun _ _ _ _ h => by cases h) hf
theorem fqb11_watch_20   {rc : Nat → List Int32 → List Int64 → Mem → Option (Int32 × Mem)} {n : Nat} {r : Int32} {M' : Mem} (hrc : ∀ pc li lj M, rc pc li lj M = some (r, M') → Fq CSX [(25, 5), (25, 6), (25, 7)] M M')  {M : Mem} (hf : b11_watch_20  rc n  M = some (r, M')) : Fq CSX [(25, 5), (25, 6), (25, 7)] M M' := by
  unfold b11_watch_20 at hf
  exact Fq.of hf
theorem fqb11_watch_63   {rc : Nat → List Int32 → List Int64 → Mem → Option (Int32 × Mem)} {n : Nat} {r : Int32} {M' : Mem} (hrc : ∀ pc li lj M, rc pc li lj M = some (r, M') → Fq CSX [(25, 5), (25, 6), (25, 7)] M M')  {M : Mem} (hf : b11_watch_63  rc n  M = some (r, M')) : Fq CSX [(25, 5), (25, 6), (25, 7)] M M' := by
  unfold b11_watch_63 at hf
  exact Fq.of hf
theorem fqb11_watch_122   {rc : Nat → List Int32 → List Int64 → Mem → Option (Int32 × Mem)} {n : Nat} {r : Int32} {M' : Mem} (hrc : ∀ pc li lj M, rc pc li lj M = some (r, M') → Fq CSX [(25, 5), (25, 6), (25, 7)] M M') {s0 : Int32} {s1 : Int32} {s2 : Int32} {M : Mem} (hf : b11_watch_122  rc n s0 s1 s2 M = some (r, M')) : Fq CSX [(25, 5), (25, 6), (25, 7)] M M' := by
  unfold b11_watch_122 at hf
  obtain ⟨r20, M21, g1, hf⟩ := bnd_s hf
  refine Fq.trans (Fq.mono (fq11_partOfFraction  g1) (by decide)) ?_
  exact Fq.of hf
theorem fqb11_watch_68   {rc : Nat → List Int32 → List Int64 → Mem → Option (Int32 × Mem)} {n : Nat} {r : Int32} {M' : Mem} (hrc : ∀ pc li lj M, rc pc li lj M = some (r, M') → Fq CSX [(25, 5), (25, 6), (25, 7)] M M') {i1 : Int32} {i2 : Int32} {i3 : Int32} {M : Mem} (hf : b11_watch_68  rc n i1 i2 i3 M = some (r, M')) : Fq CSX [(25, 5), (25, 6), (25, 7)] M M' := by
  unfold b11_watch_68 at hf
  by_cases c1 : i1 ≤ i3
  · replace hf := ite_t c1 hf
    by_cases c2 : i2 = 0
    · replace hf := ite_t c2 hf
      exact Fq.of hf
    · replace hf := ite_f c2 hf
      by_cases c3 : i2 = (1 : Int32)
      · replace hf := ite_t c3 hf
        exact fqb11_watch_122  hrc hf
      · replace hf := ite_f c3 hf
        exact fqb11_watch_122  hrc hf
  · replace hf := ite_f c1 hf
    obtain ⟨r16, M17, g4, hf⟩ := bnd_s hf
    refine Fq.trans (Fq.mono (fq9_pickHeaviest  g4) (by decide)) ?_
    obtain ⟨v19, ev19, hf⟩ := lt_x hf
    exact hrc _ _ _ _ hf
theorem fqb11_watch_0   {rc : Nat → List Int32 → List Int64 → Mem → Option (Int32 × Mem)} {n : Nat} {r : Int32} {M' : Mem} (hrc : ∀ pc li lj M, rc pc li lj M = some (r, M') → Fq CSX [(25, 5), (25, 6), (25, 7)] M M') {a1 : Int32} {a2 : Int32} {M : Mem} (hf : b11_watch_0  rc n a1 a2 M = some (r, M')) : Fq CSX [(25, 5), (25, 6), (25, 7)] M M' := by
  unfold b11_watch_0 at hf
  by_cases c1 : a1 < (1 : Int32)
  · replace hf := ite_t c1 hf
    exact fqb11_watch_20  hrc hf
  · replace hf := ite_f c1 hf
    by_cases c2 : (6 : Int32) < a1
    · replace hf := ite_t c2 hf
      exact fqb11_watch_20  hrc hf
    · replace hf := ite_f c2 hf
      by_cases c3 : a2 < 0
      · replace hf := ite_t c3 hf
        exact fqb11_watch_20  hrc hf
      · replace hf := ite_f c3 hf
        by_cases c4 : a2 ≤ (2 : Int32)
        · replace hf := ite_t c4 hf
          obtain ⟨r5, M6, g5, hf⟩ := bnd_s hf
          refine Fq.trans (Fq.mono (fq9_weigh  g5) (by decide)) ?_
          obtain ⟨r8, M9, g6, hf⟩ := bnd_s hf
          refine Fq.trans (Fq.mono (fqZJ6_bitCount_0f7a4  g6) (by decide)) ?_
          by_cases c7 : ((24 : Int32) - r8) < a1
          · replace hf := ite_t c7 hf
            exact fqb11_watch_63  hrc hf
          · replace hf := ite_f c7 hf
            by_cases c8 : (M9.1 25 5) = 0
            · replace hf := ite_t c8 hf
              exact fqb11_watch_63  hrc hf
            · replace hf := ite_f c8 hf
              exact fqb11_watch_68  hrc hf
        · replace hf := ite_f c4 hf
          exact fqb11_watch_20  hrc hf
theorem fql11_watch   {r : Int32} {M' : Mem} (n : Nat) : ∀ pc li lj M, r11_watch  n pc li lj M = some (r, M') → Fq CSX [(25, 5), (25, 6), (25, 7)] M M' := by
  induction n with
  | zero => intro pc li lj M hf; cases hf
  | succ n ih =>
    intro pc li lj M hf
    rw [r11_watch] at hf
    dsimp only at hf
    by_cases c68 : pc = 68
    · replace hf := ite_t c68 hf
      split at hf
      · exact fqb11_watch_68  ih hf
      · cases hf
    replace hf := ite_f c68 hf
    cases hf
theorem fq11_watch   {n : Nat} {a1 : Int32} {a2 : Int32} {M M' : Mem} {r : Int32} (hf : f11_watch n  a1 a2 M = some (r, M')) : Fq CSX [(25, 5), (25, 6), (25, 7)] M M' := fqb11_watch_0  (fql11_watch  n) hf
theorem fqb11_sure_11   {rc : Nat → List Int32 → List Int64 → Mem → Option (Int32 × Mem)} {n : Nat} {r : Int32} {M' : Mem} (hrc : ∀ pc li lj M, rc pc li lj M = some (r, M') → Fq CSX [(25, 5), (25, 6), (25, 7)] M M')  {M : Mem} (hf : b11_sure_11  rc n  M = some (r, M')) : Fq CSX [(25, 5), (25, 6), (25, 7)] M M' := by
  unfold b11_sure_11 at hf
  exact Fq.of hf
theorem fqb11_sure_83   {rc : Nat → List Int32 → List Int64 → Mem → Option (Int32 × Mem)} {n : Nat} {r : Int32} {M' : Mem} (hrc : ∀ pc li lj M, rc pc li lj M = some (r, M') → Fq CSX [(25, 5), (25, 6), (25, 7)] M M') {i2 : Int32} {M : Mem} (hf : b11_sure_83  rc n i2 M = some (r, M')) : Fq CSX [(25, 5), (25, 6), (25, 7)] M M' := by
  unfold b11_sure_83 at hf
  exact Fq.of hf
theorem fqb11_sure_42   {rc : Nat → List Int32 → List Int64 → Mem → Option (Int32 × Mem)} {n : Nat} {r : Int32} {M' : Mem} (hrc : ∀ pc li lj M, rc pc li lj M = some (r, M') → Fq CSX [(25, 5), (25, 6), (25, 7)] M M') {i1 : Int32} {i2 : Int32} {M : Mem} (hf : b11_sure_42  rc n i1 i2 M = some (r, M')) : Fq CSX [(25, 5), (25, 6), (25, 7)] M M' := by
  unfold b11_sure_42 at hf
  by_cases c1 : (24 : Int32) ≤ i2
  · replace hf := ite_t c1 hf
    exact fqb11_sure_83  hrc hf
  · replace hf := ite_f c1 hf
    by_cases c2 : (i1 * (M.1 25 5)) ≤ ((M.1 25 7) * (100 : Int32))
    · replace hf := ite_t c2 hf
      exact fqb11_sure_83  hrc hf
    · replace hf := ite_f c2 hf
      obtain ⟨r9, M10, g3, hf⟩ := bnd_s hf
      refine Fq.trans (Fq.mono (fq9_pickHeaviest  g3) (by decide)) ?_
      obtain ⟨v12, ev12, hf⟩ := lt_x hf
      exact hrc _ _ _ _ hf
theorem fqb11_sure_0   {rc : Nat → List Int32 → List Int64 → Mem → Option (Int32 × Mem)} {n : Nat} {r : Int32} {M' : Mem} (hrc : ∀ pc li lj M, rc pc li lj M = some (r, M') → Fq CSX [(25, 5), (25, 6), (25, 7)] M M') {a1 : Int32} {M : Mem} (hf : b11_sure_0  rc n a1 M = some (r, M')) : Fq CSX [(25, 5), (25, 6), (25, 7)] M M' := by
  unfold b11_sure_0 at hf
  by_cases c1 : a1 < (1 : Int32)
  · replace hf := ite_t c1 hf
    exact fqb11_sure_11  hrc hf
  · replace hf := ite_f c1 hf
    by_cases c2 : a1 ≤ (100 : Int32)
    · replace hf := ite_t c2 hf
      obtain ⟨r3, M4, g3, hf⟩ := bnd_s hf
      refine Fq.trans (Fq.mono (fq9_weigh  g3) (by decide)) ?_
      by_cases c4 : (M4.1 25 5) = 0
      · replace hf := ite_t c4 hf
        exact Fq.of hf
      · replace hf := ite_f c4 hf
        exact fqb11_sure_42  hrc hf
    · replace hf := ite_f c2 hf
      exact fqb11_sure_11  hrc hf
theorem fql11_sure   {r : Int32} {M' : Mem} (n : Nat) : ∀ pc li lj M, r11_sure  n pc li lj M = some (r, M') → Fq CSX [(25, 5), (25, 6), (25, 7)] M M' := by
  induction n with
  | zero => intro pc li lj M hf; cases hf
  | succ n ih =>
    intro pc li lj M hf
    rw [r11_sure] at hf
    dsimp only at hf
    by_cases c42 : pc = 42
    · replace hf := ite_t c42 hf
      split at hf
      · exact fqb11_sure_42  ih hf
      · cases hf
    replace hf := ite_f c42 hf
    cases hf
theorem fq11_sure   {n : Nat} {a1 : Int32} {M M' : Mem} {r : Int32} (hf : f11_sure n  a1 M = some (r, M')) : Fq CSX [(25, 5), (25, 6), (25, 7)] M M' := fqb11_sure_0  (fql11_sure  n) hf
theorem fqb11_walk_34   {rc : Nat → List Int32 → List Int64 → Mem → Option (Int32 × Mem)} {n : Nat} {r : Int32} {M' : Mem} (hrc : ∀ pc li lj M, rc pc li lj M = some (r, M') → Fq CSX [] M M') {i1 : Int32} {i2 : Int32} {M : Mem} (hf : b11_walk_34  rc n i1 i2 M = some (r, M')) : Fq CSX [] M M' := by
  unfold b11_walk_34 at hf
  by_cases c1 : 0 ≤ (M.1 330 4)
  · replace hf := ite_t c1 hf
    by_cases c2 : i2 = 0
    · replace hf := ite_t c2 hf
      by_cases c3 : i1 = (100 : Int32)
      · replace hf := ite_t c3 hf
        exact Fq.of hf
      · replace hf := ite_f c3 hf
        by_cases c4 : i1 = (101 : Int32)
        · replace hf := ite_t c4 hf
          exact Fq.of hf
        · replace hf := ite_f c4 hf
          by_cases c5 : i1 = (102 : Int32)
          · replace hf := ite_t c5 hf
            exact Fq.of hf
          · replace hf := ite_f c5 hf
            exact Fq.of hf
    · replace hf := ite_f c2 hf
      replace hf := chk_2 hf
      exact Fq.of hf
  · replace hf := ite_f c1 hf
    exact Fq.of hf
theorem fqb11_walk_32   {rc : Nat → List Int32 → List Int64 → Mem → Option (Int32 × Mem)} {n : Nat} {r : Int32} {M' : Mem} (hrc : ∀ pc li lj M, rc pc li lj M = some (r, M') → Fq CSX [] M M')  {M : Mem} (hf : b11_walk_32  rc n  M = some (r, M')) : Fq CSX [] M M' := by
  unfold b11_walk_32 at hf
  exact Fq.of hf
theorem fqb11_walk_15   {rc : Nat → List Int32 → List Int64 → Mem → Option (Int32 × Mem)} {n : Nat} {r : Int32} {M' : Mem} (hrc : ∀ pc li lj M, rc pc li lj M = some (r, M') → Fq CSX [] M M') {i1 : Int32} {s0 : Int32} {M : Mem} (hf : b11_walk_15  rc n i1 s0 M = some (r, M')) : Fq CSX [] M M' := by
  unfold b11_walk_15 at hf
  by_cases c1 : s0 = 0
  · replace hf := ite_t c1 hf
    by_cases c2 : i1 < (100 : Int32)
    · replace hf := ite_t c2 hf
      exact fqb11_walk_32  hrc hf
    · replace hf := ite_f c2 hf
      by_cases c3 : i1 ≤ (103 : Int32)
      · replace hf := ite_t c3 hf
        exact fqb11_walk_34  hrc hf
      · replace hf := ite_f c3 hf
        exact fqb11_walk_32  hrc hf
  · replace hf := ite_f c1 hf
    exact fqb11_walk_34  hrc hf
theorem fqb11_walk_14   {rc : Nat → List Int32 → List Int64 → Mem → Option (Int32 × Mem)} {n : Nat} {r : Int32} {M' : Mem} (hrc : ∀ pc li lj M, rc pc li lj M = some (r, M') → Fq CSX [] M M') {i1 : Int32} {M : Mem} (hf : b11_walk_14  rc n i1 M = some (r, M')) : Fq CSX [] M M' := by
  unfold b11_walk_14 at hf
  exact fqb11_walk_15  hrc hf
theorem fqb11_walk_0   {rc : Nat → List Int32 → List Int64 → Mem → Option (Int32 × Mem)} {n : Nat} {r : Int32} {M' : Mem} (hrc : ∀ pc li lj M, rc pc li lj M = some (r, M') → Fq CSX [] M M') {a1 : Int32} {M : Mem} (hf : b11_walk_0  rc n a1 M = some (r, M')) : Fq CSX [] M M' := by
  unfold b11_walk_0 at hf
  by_cases c1 : a1 < 0
  · replace hf := ite_t c1 hf
    exact fqb11_walk_14  hrc hf
  · replace hf := ite_f c1 hf
    by_cases c2 : (60 : Int32) ≤ a1
    · replace hf := ite_t c2 hf
      exact fqb11_walk_14  hrc hf
    · replace hf := ite_f c2 hf
      exact fqb11_walk_15  hrc hf
theorem fq11_walk   {n : Nat} {a1 : Int32} {M M' : Mem} {r : Int32} (hf : f11_walk n  a1 M = some (r, M')) : Fq CSX [] M M' := fqb11_walk_0  (fun _ _ _ _ h => by cases h) hf
theorem fqb11_worn_38   {rc : Nat → List Int32 → List Int64 → Mem → Option (Int32 × Mem)} {n : Nat} {r : Int32} {M' : Mem} (hrc : ∀ pc li lj M, rc pc li lj M = some (r, M') → Fq CSX [] M M') {i1 : Int32} {i2 : Int32} {i3 : Int32} {M : Mem} (hf : b11_worn_38  rc n i1 i2 i3 M = some (r, M')) : Fq CSX [] M M' := by
  unfold b11_worn_38 at hf
  obtain ⟨v6, ev6, hf⟩ := lt_x hf
  exact hrc _ _ _ _ hf
theorem fqb11_worn_7   {rc : Nat → List Int32 → List Int64 → Mem → Option (Int32 × Mem)} {n : Nat} {r : Int32} {M' : Mem} (hrc : ∀ pc li lj M, rc pc li lj M = some (r, M') → Fq CSX [] M M') {i1 : Int32} {i2 : Int32} {i3 : Int32} {M : Mem} (hf : b11_worn_7  rc n i1 i2 i3 M = some (r, M')) : Fq CSX [] M M' := by
  unfold b11_worn_7 at hf
  by_cases c1 : (96 : Int32) ≤ i3
  · replace hf := ite_t c1 hf
    exact Fq.of hf
  · replace hf := ite_f c1 hf
    have h2 := chk_1 hf
    replace hf := chk_2 hf
    by_cases c3 : (M.1 (330 + 1) i3.toNatClampNeg) ≤ i1
    · replace hf := ite_t c3 hf
      exact fqb11_worn_38  hrc hf
    · replace hf := ite_f c3 hf
      have h4 := chk_1 hf
      replace hf := chk_2 hf
      obtain ⟨v5, ev5, hf⟩ := lt_x hf
      exact fqb11_worn_38  hrc hf
theorem fqb11_worn_0   {rc : Nat → List Int32 → List Int64 → Mem → Option (Int32 × Mem)} {n : Nat} {r : Int32} {M' : Mem} (hrc : ∀ pc li lj M, rc pc li lj M = some (r, M') → Fq CSX [] M M')  {M : Mem} (hf : b11_worn_0  rc n  M = some (r, M')) : Fq CSX [] M M' := by
  unfold b11_worn_0 at hf
  exact fqb11_worn_7  hrc hf
theorem fql11_worn   {r : Int32} {M' : Mem} (n : Nat) : ∀ pc li lj M, r11_worn  n pc li lj M = some (r, M') → Fq CSX [] M M' := by
  induction n with
  | zero => intro pc li lj M hf; cases hf
  | succ n ih =>
    intro pc li lj M hf
    rw [r11_worn] at hf
    dsimp only at hf
    by_cases c7 : pc = 7
    · replace hf := ite_t c7 hf
      split at hf
      · exact fqb11_worn_7  ih hf
      · cases hf
    replace hf := ite_f c7 hf
    cases hf
theorem fq11_worn   {n : Nat}  {M M' : Mem} {r : Int32} (hf : f11_worn n   M = some (r, M')) : Fq CSX [] M M' := fqb11_worn_0  (fql11_worn  n) hf
theorem fqb11_far_10   {rc : Nat → List Int32 → List Int64 → Mem → Option (Int32 × Mem)} {n : Nat} {r : Int32} {M' : Mem} (hrc : ∀ pc li lj M, rc pc li lj M = some (r, M') → Fq CSX [] M M')  {M : Mem} (hf : b11_far_10  rc n  M = some (r, M')) : Fq CSX [] M M' := by
  unfold b11_far_10 at hf
  exact Fq.of hf
theorem fqb11_far_48   {rc : Nat → List Int32 → List Int64 → Mem → Option (Int32 × Mem)} {n : Nat} {r : Int32} {M' : Mem} (hrc : ∀ pc li lj M, rc pc li lj M = some (r, M') → Fq CSX [] M M') {i2 : Int32} {i3 : Int32} {i4 : Int32} {M : Mem} (hf : b11_far_48  rc n i2 i3 i4 M = some (r, M')) : Fq CSX [] M M' := by
  unfold b11_far_48 at hf
  obtain ⟨v8, ev8, hf⟩ := lt_x hf
  exact hrc _ _ _ _ hf
theorem fqb11_far_24   {rc : Nat → List Int32 → List Int64 → Mem → Option (Int32 × Mem)} {n : Nat} {r : Int32} {M' : Mem} (hrc : ∀ pc li lj M, rc pc li lj M = some (r, M') → Fq CSX [] M M') {i2 : Int32} {i3 : Int32} {i4 : Int32} {M : Mem} (hf : b11_far_24  rc n i2 i3 i4 M = some (r, M')) : Fq CSX [] M M' := by
  unfold b11_far_24 at hf
  by_cases c1 : (96 : Int32) ≤ i4
  · replace hf := ite_t c1 hf
    exact Fq.of hf
  · replace hf := ite_f c1 hf
    have h2 := chk_1 hf
    replace hf := chk_2 hf
    by_cases c3 : i2 < (M.1 7 i4.toNatClampNeg)
    · replace hf := ite_t c3 hf
      exact fqb11_far_48  hrc hf
    · replace hf := ite_f c3 hf
      obtain ⟨v7, ev7, hf⟩ := lt_x hf
      exact fqb11_far_48  hrc hf
theorem fqb11_far_0   {rc : Nat → List Int32 → List Int64 → Mem → Option (Int32 × Mem)} {n : Nat} {r : Int32} {M' : Mem} (hrc : ∀ pc li lj M, rc pc li lj M = some (r, M') → Fq CSX [] M M') {a1 : Int32} {M : Mem} (hf : b11_far_0  rc n a1 M = some (r, M')) : Fq CSX [] M M' := by
  unfold b11_far_0 at hf
  by_cases c1 : a1 < 0
  · replace hf := ite_t c1 hf
    exact fqb11_far_10  hrc hf
  · replace hf := ite_f c1 hf
    by_cases c2 : a1 ≤ (60 : Int32)
    · replace hf := ite_t c2 hf
      obtain ⟨v3, ev3, hf⟩ := lt_x hf
      exact fqb11_far_24  hrc hf
    · replace hf := ite_f c2 hf
      exact fqb11_far_10  hrc hf
theorem fql11_far   {r : Int32} {M' : Mem} (n : Nat) : ∀ pc li lj M, r11_far  n pc li lj M = some (r, M') → Fq CSX [] M M' := by
  induction n with
  | zero => intro pc li lj M hf; cases hf
  | succ n ih =>
    intro pc li lj M hf
    rw [r11_far] at hf
    dsimp only at hf
    by_cases c24 : pc = 24
    · replace hf := ite_t c24 hf
      split at hf
      · exact fqb11_far_24  ih hf
      · cases hf
    replace hf := ite_f c24 hf
    cases hf
theorem fq11_far   {n : Nat} {a1 : Int32} {M M' : Mem} {r : Int32} (hf : f11_far n  a1 M = some (r, M')) : Fq CSX [] M M' := fqb11_far_0  (fql11_far  n) hf
theorem fqb11_calls_43   {rc : Nat → List Int32 → List Int64 → Mem → Option (Int32 × Mem)} {n : Nat} {r : Int32} {M' : Mem} (hrc : ∀ pc li lj M, rc pc li lj M = some (r, M') → Fq CSX [(326, 4), (326, 5)] M M')  {M : Mem} (hf : b11_calls_43  rc n  M = some (r, M')) : Fq CSX [(326, 4), (326, 5)] M M' := by
  unfold b11_calls_43 at hf
  exact Fq.of hf
theorem fqb11_calls_45   {rc : Nat → List Int32 → List Int64 → Mem → Option (Int32 × Mem)} {n : Nat} {r : Int32} {M' : Mem} (hrc : ∀ pc li lj M, rc pc li lj M = some (r, M') → Fq CSX [(326, 4), (326, 5)] M M') {i1 : Int32} {i2 : Int32} {M : Mem} (hf : b11_calls_45  rc n i1 i2 M = some (r, M')) : Fq CSX [(326, 4), (326, 5)] M M' := by
  unfold b11_calls_45 at hf
  obtain ⟨r8, M9, g1, hf⟩ := bnd_s hf
  refine Fq.trans (Fq.mono (fq5_choose  g1) (by decide)) ?_
  by_cases c2 : i2 = (100 : Int32)
  · replace hf := ite_t c2 hf
    exact Fq.of hf
  · replace hf := ite_f c2 hf
    by_cases c3 : i2 = (101 : Int32)
    · replace hf := ite_t c3 hf
      obtain ⟨r16, M17, g4, hf⟩ := bnd_s hf
      refine Fq.trans (Fq.mono (fq5_stepsOfBest  g4) (by decide)) ?_
      exact Fq.of hf
    · replace hf := ite_f c3 hf
      obtain ⟨r13, M14, g5, hf⟩ := bnd_s hf
      refine Fq.trans (Fq.mono (fq5_doorOfBest  g5) (by decide)) ?_
      exact Fq.of hf
theorem fqb11_calls_15   {rc : Nat → List Int32 → List Int64 → Mem → Option (Int32 × Mem)} {n : Nat} {r : Int32} {M' : Mem} (hrc : ∀ pc li lj M, rc pc li lj M = some (r, M') → Fq CSX [(326, 4), (326, 5)] M M') {i1 : Int32} {i2 : Int32} {s0 : Int32} {M : Mem} (hf : b11_calls_15  rc n i1 i2 s0 M = some (r, M')) : Fq CSX [(326, 4), (326, 5)] M M' := by
  unfold b11_calls_15 at hf
  by_cases c1 : i1 < (1 : Int32)
  · replace hf := ite_t c1 hf
    exact fqb11_calls_43  hrc hf
  · replace hf := ite_f c1 hf
    by_cases c2 : (60 : Int32) < i1
    · replace hf := ite_t c2 hf
      exact fqb11_calls_43  hrc hf
    · replace hf := ite_f c2 hf
      by_cases c3 : s0 = 0
      · replace hf := ite_t c3 hf
        by_cases c4 : i2 = (100 : Int32)
        · replace hf := ite_t c4 hf
          exact fqb11_calls_45  hrc hf
        · replace hf := ite_f c4 hf
          by_cases c5 : i2 = (101 : Int32)
          · replace hf := ite_t c5 hf
            exact fqb11_calls_45  hrc hf
          · replace hf := ite_f c5 hf
            exact fqb11_calls_43  hrc hf
      · replace hf := ite_f c3 hf
        exact fqb11_calls_45  hrc hf
theorem fqb11_calls_14   {rc : Nat → List Int32 → List Int64 → Mem → Option (Int32 × Mem)} {n : Nat} {r : Int32} {M' : Mem} (hrc : ∀ pc li lj M, rc pc li lj M = some (r, M') → Fq CSX [(326, 4), (326, 5)] M M') {i1 : Int32} {i2 : Int32} {M : Mem} (hf : b11_calls_14  rc n i1 i2 M = some (r, M')) : Fq CSX [(326, 4), (326, 5)] M M' := by
  unfold b11_calls_14 at hf
  exact fqb11_calls_15  hrc hf
theorem fqb11_calls_0   {rc : Nat → List Int32 → List Int64 → Mem → Option (Int32 × Mem)} {n : Nat} {r : Int32} {M' : Mem} (hrc : ∀ pc li lj M, rc pc li lj M = some (r, M') → Fq CSX [(326, 4), (326, 5)] M M') {a1 : Int32} {a2 : Int32} {M : Mem} (hf : b11_calls_0  rc n a1 a2 M = some (r, M')) : Fq CSX [(326, 4), (326, 5)] M M' := by
  unfold b11_calls_0 at hf
  by_cases c1 : a2 < 0
  · replace hf := ite_t c1 hf
    exact fqb11_calls_14  hrc hf
  · replace hf := ite_f c1 hf
    by_cases c2 : (9 : Int32) ≤ a2
    · replace hf := ite_t c2 hf
      exact fqb11_calls_14  hrc hf
    · replace hf := ite_f c2 hf
      exact fqb11_calls_15  hrc hf
theorem fq11_calls   {n : Nat} {a1 : Int32} {a2 : Int32} {M M' : Mem} {r : Int32} (hf : f11_calls n  a1 a2 M = some (r, M')) : Fq CSX [(326, 4), (326, 5)] M M' := fqb11_calls_0  (fun _ _ _ _ h => by cases h) hf
theorem fqb11_old_0   {rc : Nat → List Int32 → List Int64 → Mem → Option (Int32 × Mem)} {n : Nat} {r : Int32} {M' : Mem} (hrc : ∀ pc li lj M, rc pc li lj M = some (r, M') → Fq CSX [] M M') {a1 : Int32} {a2 : Int32} {M : Mem} (hf : b11_old_0  rc n a1 a2 M = some (r, M')) : Fq CSX [] M M' := by
  unfold b11_old_0 at hf
  obtain ⟨r1, M2, g1, hf⟩ := bnd_s hf
  refine Fq.trans (Fq.mono (fq11_placeAt  g1) (by decide)) ?_
  by_cases c2 : r1 = (-1 : Int32)
  · replace hf := ite_t c2 hf
    exact Fq.of hf
  · replace hf := ite_f c2 hf
    obtain ⟨r5, M6, g3, hf⟩ := bnd_s hf
    refine Fq.trans (Fq.mono (fq6_stepsByOldMap  g3) (by decide)) ?_
    by_cases c4 : r5 = (99 : Int32)
    · replace hf := ite_t c4 hf
      exact Fq.of hf
    · replace hf := ite_f c4 hf
      exact Fq.of hf
theorem fq11_old   {n : Nat} {a1 : Int32} {a2 : Int32} {M M' : Mem} {r : Int32} (hf : f11_old n  a1 a2 M = some (r, M')) : Fq CSX [] M M' := fqb11_old_0  (fun _ _ _ _ h => by cases h) hf
theorem fqb11_barred_22   {rc : Nat → List Int32 → List Int64 → Mem → Option (Int32 × Mem)} {n : Nat} {r : Int32} {M' : Mem} (hrc : ∀ pc li lj M, rc pc li lj M = some (r, M') → Fq CSX [] M M')  {M : Mem} (hf : b11_barred_22  rc n  M = some (r, M')) : Fq CSX [] M M' := by
  unfold b11_barred_22 at hf
  exact Fq.of hf
theorem fqb11_barred_40   {rc : Nat → List Int32 → List Int64 → Mem → Option (Int32 × Mem)} {n : Nat} {r : Int32} {M' : Mem} (hrc : ∀ pc li lj M, rc pc li lj M = some (r, M') → Fq CSX [] M M') {s1 : Int32} {s2 : Int32} {M : Mem} (hf : b11_barred_40  rc n s1 s2 M = some (r, M')) : Fq CSX [] M M' := by
  unfold b11_barred_40 at hf
  obtain ⟨r8, M9, g1, hf⟩ := bnd_s hf
  refine Fq.trans (Fq.mono (fq6_newWallsTo  g1) (by decide)) ?_
  exact Fq.of hf
theorem fqb11_barred_0   {rc : Nat → List Int32 → List Int64 → Mem → Option (Int32 × Mem)} {n : Nat} {r : Int32} {M' : Mem} (hrc : ∀ pc li lj M, rc pc li lj M = some (r, M') → Fq CSX [] M M') {a1 : Int32} {a2 : Int32} {a3 : Int32} {M : Mem} (hf : b11_barred_0  rc n a1 a2 a3 M = some (r, M')) : Fq CSX [] M M' := by
  unfold b11_barred_0 at hf
  obtain ⟨r1, M2, g1, hf⟩ := bnd_s hf
  refine Fq.trans (Fq.mono (fq11_placeAt  g1) (by decide)) ?_
  by_cases c2 : r1 = (-1 : Int32)
  · replace hf := ite_t c2 hf
    exact fqb11_barred_22  hrc hf
  · replace hf := ite_f c2 hf
    by_cases c3 : a3 < 0
    · replace hf := ite_t c3 hf
      exact fqb11_barred_22  hrc hf
    · replace hf := ite_f c3 hf
      by_cases c4 : a3 ≤ (1 : Int32)
      · replace hf := ite_t c4 hf
        by_cases c5 : a3 = (1 : Int32)
        · replace hf := ite_t c5 hf
          exact fqb11_barred_40  hrc hf
        · replace hf := ite_f c5 hf
          exact fqb11_barred_40  hrc hf
      · replace hf := ite_f c4 hf
        exact fqb11_barred_22  hrc hf
theorem fq11_barred   {n : Nat} {a1 : Int32} {a2 : Int32} {a3 : Int32} {M M' : Mem} {r : Int32} (hf : f11_barred n  a1 a2 a3 M = some (r, M')) : Fq CSX [] M M' := fqb11_barred_0  (fun _ _ _ _ h => by cases h) hf
theorem fqb11_chase_22   {rc : Nat → List Int32 → List Int64 → Mem → Option (Int32 × Mem)} {n : Nat} {r : Int32} {M' : Mem} (hrc : ∀ pc li lj M, rc pc li lj M = some (r, M') → Fq CSX [] M M')  {M : Mem} (hf : b11_chase_22  rc n  M = some (r, M')) : Fq CSX [] M M' := by
  unfold b11_chase_22 at hf
  exact Fq.of hf
theorem fqb11_chase_0   {rc : Nat → List Int32 → List Int64 → Mem → Option (Int32 × Mem)} {n : Nat} {r : Int32} {M' : Mem} (hrc : ∀ pc li lj M, rc pc li lj M = some (r, M') → Fq CSX [] M M') {a1 : Int32} {a2 : Int32} {M : Mem} (hf : b11_chase_0  rc n a1 a2 M = some (r, M')) : Fq CSX [] M M' := by
  unfold b11_chase_0 at hf
  obtain ⟨r1, M2, g1, hf⟩ := bnd_s hf
  refine Fq.trans (Fq.mono (fq8_isOpen  g1) (by decide)) ?_
  by_cases c2 : r1 = 0
  · replace hf := ite_t c2 hf
    exact fqb11_chase_22  hrc hf
  · replace hf := ite_f c2 hf
    obtain ⟨r5, M6, g3, hf⟩ := bnd_s hf
    refine Fq.trans (Fq.mono (fq8_isOpen  g3) (by decide)) ?_
    by_cases c4 : r5 = 0
    · replace hf := ite_t c4 hf
      exact fqb11_chase_22  hrc hf
    · replace hf := ite_f c4 hf
      obtain ⟨r9, M10, g5, hf⟩ := bnd_s hf
      refine Fq.trans (Fq.mono (fq1_movesToCatch  g5) (by decide)) ?_
      exact Fq.of hf
theorem fq11_chase   {n : Nat} {a1 : Int32} {a2 : Int32} {M M' : Mem} {r : Int32} (hf : f11_chase n  a1 a2 M = some (r, M')) : Fq CSX [] M M' := fqb11_chase_0  (fun _ _ _ _ h => by cases h) hf
theorem fqb11_lovers_22   {rc : Nat → List Int32 → List Int64 → Mem → Option (Int32 × Mem)} {n : Nat} {r : Int32} {M' : Mem} (hrc : ∀ pc li lj M, rc pc li lj M = some (r, M') → Fq CSX [(1, 1)] M M')  {M : Mem} (hf : b11_lovers_22  rc n  M = some (r, M')) : Fq CSX [(1, 1)] M M' := by
  unfold b11_lovers_22 at hf
  exact Fq.of hf
theorem fqb11_lovers_105   {rc : Nat → List Int32 → List Int64 → Mem → Option (Int32 × Mem)} {n : Nat} {r : Int32} {M' : Mem} (hrc : ∀ pc li lj M, rc pc li lj M = some (r, M') → Fq CSX [(1, 1)] M M') {i3 : Int32} {M : Mem} (hf : b11_lovers_105  rc n i3 M = some (r, M')) : Fq CSX [(1, 1)] M M' := by
  unfold b11_lovers_105 at hf
  exact Fq.of hf
theorem fqb11_lovers_41   {rc : Nat → List Int32 → List Int64 → Mem → Option (Int32 × Mem)} {n : Nat} {r : Int32} {M' : Mem} (hrc : ∀ pc li lj M, rc pc li lj M = some (r, M') → Fq CSX [(1, 1)] M M') {i1 : Int32} {i2 : Int32} {i3 : Int32} {M : Mem} (hf : b11_lovers_41  rc n i1 i2 i3 M = some (r, M')) : Fq CSX [(1, 1)] M M' := by
  unfold b11_lovers_41 at hf
  by_cases c1 : i1 ≤ i3
  · replace hf := ite_t c1 hf
    obtain ⟨r12, M13, g2, hf⟩ := bnd_s hf
    refine Fq.trans (Fq.mono (fq6_meetingPlace  g2) (by decide)) ?_
    by_cases c3 : r12 = (-2 : Int32)
    · replace hf := ite_t c3 hf
      exact fqb11_lovers_105  hrc hf
    · replace hf := ite_f c3 hf
      by_cases c4 : i2 = 0
      · replace hf := ite_t c4 hf
        exact fqb11_lovers_105  hrc hf
      · replace hf := ite_f c4 hf
        have h5 := chk_1 hf
        replace hf := chk_2 hf
        exact Fq.of hf
  · replace hf := ite_f c1 hf
    replace hf := chk_2 hf
    obtain ⟨v19, ev19, hf⟩ := lt_x hf
    obtain ⟨r20, M21, g6, hf⟩ := bnd_s hf
    refine Fq.trans (Fq.mono (fq8_isOpen  g6) (by decide)) ?_
    by_cases c7 : r20 = 0
    · replace hf := ite_t c7 hf
      exact Fq.of hf
    · replace hf := ite_f c7 hf
      obtain ⟨r24, M25, g8, hf⟩ := bnd_s hf
      refine Fq.trans (Fq.mono (fq6_addLover  g8) (by decide)) ?_
      obtain ⟨v27, ev27, hf⟩ := lt_x hf
      exact hrc _ _ _ _ hf
theorem fqb11_lovers_0   {rc : Nat → List Int32 → List Int64 → Mem → Option (Int32 × Mem)} {n : Nat} {r : Int32} {M' : Mem} (hrc : ∀ pc li lj M, rc pc li lj M = some (r, M') → Fq CSX [(1, 1)] M M') {a1 : Int32} {a2 : Int32} {M : Mem} (hf : b11_lovers_0  rc n a1 a2 M = some (r, M')) : Fq CSX [(1, 1)] M M' := by
  unfold b11_lovers_0 at hf
  by_cases c1 : a2 < 0
  · replace hf := ite_t c1 hf
    exact fqb11_lovers_22  hrc hf
  · replace hf := ite_f c1 hf
    by_cases c2 : (1 : Int32) < a2
    · replace hf := ite_t c2 hf
      exact fqb11_lovers_22  hrc hf
    · replace hf := ite_f c2 hf
      obtain ⟨r3, M4, g3, hf⟩ := bnd_s hf
      refine Fq.trans (Fq.mono (fq7_canGive  g3) (by decide)) ?_
      by_cases c4 : r3 = 0
      · replace hf := ite_t c4 hf
        exact fqb11_lovers_22  hrc hf
      · replace hf := ite_f c4 hf
        obtain ⟨M7, eM7, hf⟩ := lt_x hf
        refine Fq_wI eM7 (by decide) ?_
        obtain ⟨r8, M9, g5, hf⟩ := bnd_s hf
        refine Fq.trans (Fq.mono (fq6_forgetLovers  g5) (by decide)) ?_
        exact fqb11_lovers_41  hrc hf
theorem fql11_lovers   {r : Int32} {M' : Mem} (n : Nat) : ∀ pc li lj M, r11_lovers  n pc li lj M = some (r, M') → Fq CSX [(1, 1)] M M' := by
  induction n with
  | zero => intro pc li lj M hf; cases hf
  | succ n ih =>
    intro pc li lj M hf
    rw [r11_lovers] at hf
    dsimp only at hf
    by_cases c41 : pc = 41
    · replace hf := ite_t c41 hf
      split at hf
      · exact fqb11_lovers_41  ih hf
      · cases hf
    replace hf := ite_f c41 hf
    cases hf
theorem fq11_lovers   {n : Nat} {a1 : Int32} {a2 : Int32} {M M' : Mem} {r : Int32} (hf : f11_lovers n  a1 a2 M = some (r, M')) : Fq CSX [(1, 1)] M M' := fqb11_lovers_0  (fql11_lovers  n) hf
theorem fqb11_benches_19   {rc : Nat → List Int32 → List Int64 → Mem → Option (Int32 × Mem)} {n : Nat} {r : Int32} {M' : Mem} (hrc : ∀ pc li lj M, rc pc li lj M = some (r, M') → Fq CSX [(27, 8), (27, 9), (27, 10)] M M')  {M : Mem} (hf : b11_benches_19  rc n  M = some (r, M')) : Fq CSX [(27, 8), (27, 9), (27, 10)] M M' := by
  unfold b11_benches_19 at hf
  exact Fq.of hf
theorem fqb11_benches_57   {rc : Nat → List Int32 → List Int64 → Mem → Option (Int32 × Mem)} {n : Nat} {r : Int32} {M' : Mem} (hrc : ∀ pc li lj M, rc pc li lj M = some (r, M') → Fq CSX [(27, 8), (27, 9), (27, 10)] M M') {i2 : Int32} {M : Mem} (hf : b11_benches_57  rc n i2 M = some (r, M')) : Fq CSX [(27, 8), (27, 9), (27, 10)] M M' := by
  unfold b11_benches_57 at hf
  by_cases c1 : (M.1 27 10) = 0
  · replace hf := ite_t c1 hf
    exact Fq.of hf
  · replace hf := ite_f c1 hf
    by_cases c2 : i2 = (0 : Int32)
    · replace hf := ite_t c2 hf
      exact Fq.of hf
    · replace hf := ite_f c2 hf
      by_cases c3 : i2 = (1 : Int32)
      · replace hf := ite_t c3 hf
        exact Fq.of hf
      · replace hf := ite_f c3 hf
        exact Fq.of hf
theorem fqb11_benches_0   {rc : Nat → List Int32 → List Int64 → Mem → Option (Int32 × Mem)} {n : Nat} {r : Int32} {M' : Mem} (hrc : ∀ pc li lj M, rc pc li lj M = some (r, M') → Fq CSX [(27, 8), (27, 9), (27, 10)] M M') {a1 : Int32} {a2 : Int32} {M : Mem} (hf : b11_benches_0  rc n a1 a2 M = some (r, M')) : Fq CSX [(27, 8), (27, 9), (27, 10)] M M' := by
  unfold b11_benches_0 at hf
  by_cases c1 : a1 < (1 : Int32)
  · replace hf := ite_t c1 hf
    exact fqb11_benches_19  hrc hf
  · replace hf := ite_f c1 hf
    by_cases c2 : (2 : Int32) < a1
    · replace hf := ite_t c2 hf
      exact fqb11_benches_19  hrc hf
    · replace hf := ite_f c2 hf
      by_cases c3 : a2 < 0
      · replace hf := ite_t c3 hf
        exact fqb11_benches_19  hrc hf
      · replace hf := ite_f c3 hf
        by_cases c4 : a2 ≤ (2 : Int32)
        · replace hf := ite_t c4 hf
          obtain ⟨r5, M6, g5, hf⟩ := bnd_s hf
          refine Fq.trans (Fq.mono (fq6_lookAround  g5) (by decide)) ?_
          by_cases c6 : a1 = (1 : Int32)
          · replace hf := ite_t c6 hf
            obtain ⟨r12, M13, g7, hf⟩ := bnd_s hf
            refine Fq.trans (Fq.mono (fq6_setOneBench  g7) (by decide)) ?_
            exact fqb11_benches_57  hrc hf
          · replace hf := ite_f c6 hf
            obtain ⟨r9, M10, g8, hf⟩ := bnd_s hf
            refine Fq.trans (Fq.mono (fq6_setTwoBenches  g8) (by decide)) ?_
            exact fqb11_benches_57  hrc hf
        · replace hf := ite_f c4 hf
          exact fqb11_benches_19  hrc hf
theorem fq11_benches   {n : Nat} {a1 : Int32} {a2 : Int32} {M M' : Mem} {r : Int32} (hf : f11_benches n  a1 a2 M = some (r, M')) : Fq CSX [(27, 8), (27, 9), (27, 10)] M M' := fqb11_benches_0  (fun _ _ _ _ h => by cases h) hf
theorem fqb11_pigeons_21   {rc : Nat → List Int32 → List Int64 → Mem → Option (Int32 × Mem)} {n : Nat} {r : Int32} {M' : Mem} (hrc : ∀ pc li lj M, rc pc li lj M = some (r, M') → Fq CSX [(1, 1)] M M')  {M : Mem} (hf : b11_pigeons_21  rc n  M = some (r, M')) : Fq CSX [(1, 1)] M M' := by
  unfold b11_pigeons_21 at hf
  exact Fq.of hf
theorem fqb11_pigeons_117   {rc : Nat → List Int32 → List Int64 → Mem → Option (Int32 × Mem)} {n : Nat} {r : Int32} {M' : Mem} (hrc : ∀ pc li lj M, rc pc li lj M = some (r, M') → Fq CSX [(1, 1)] M M') {i1 : Int32} {i2 : Int32} {i3 : Int32} {i4 : Int32} {M : Mem} (hf : b11_pigeons_117  rc n i1 i2 i3 i4 M = some (r, M')) : Fq CSX [(1, 1)] M M' := by
  unfold b11_pigeons_117 at hf
  obtain ⟨v14, ev14, hf⟩ := lt_x hf
  exact hrc _ _ _ _ hf
theorem fqb11_pigeons_38   {rc : Nat → List Int32 → List Int64 → Mem → Option (Int32 × Mem)} {n : Nat} {r : Int32} {M' : Mem} (hrc : ∀ pc li lj M, rc pc li lj M = some (r, M') → Fq CSX [(1, 1)] M M') {i1 : Int32} {i2 : Int32} {i3 : Int32} {i4 : Int32} {M : Mem} (hf : b11_pigeons_38  rc n i1 i2 i3 i4 M = some (r, M')) : Fq CSX [(1, 1)] M M' := by
  unfold b11_pigeons_38 at hf
  by_cases c1 : (24 : Int32) ≤ i4
  · replace hf := ite_t c1 hf
    by_cases c2 : i1 = 0
    · replace hf := ite_t c2 hf
      exact Fq.of hf
    · replace hf := ite_f c2 hf
      exact Fq.of hf
  · replace hf := ite_f c1 hf
    replace hf := chk_2 hf
    obtain ⟨v8, ev8, hf⟩ := lt_x hf
    replace hf := chk_2 hf
    obtain ⟨v10, ev10, hf⟩ := lt_x hf
    replace hf := chk_2 hf
    obtain ⟨v12, ev12, hf⟩ := lt_x hf
    by_cases c3 : v12 ≤ i2
    · replace hf := ite_t c3 hf
      exact fqb11_pigeons_117  hrc hf
    · replace hf := ite_f c3 hf
      exact fqb11_pigeons_117  hrc hf
theorem fqb11_pigeons_0   {rc : Nat → List Int32 → List Int64 → Mem → Option (Int32 × Mem)} {n : Nat} {r : Int32} {M' : Mem} (hrc : ∀ pc li lj M, rc pc li lj M = some (r, M') → Fq CSX [(1, 1)] M M') {a1 : Int32} {M : Mem} (hf : b11_pigeons_0  rc n a1 M = some (r, M')) : Fq CSX [(1, 1)] M M' := by
  unfold b11_pigeons_0 at hf
  by_cases c1 : a1 < 0
  · replace hf := ite_t c1 hf
    exact fqb11_pigeons_21  hrc hf
  · replace hf := ite_f c1 hf
    by_cases c2 : (1 : Int32) < a1
    · replace hf := ite_t c2 hf
      exact fqb11_pigeons_21  hrc hf
    · replace hf := ite_f c2 hf
      by_cases c3 : (24 : Int32) ≤ (M.1 1 1)
      · replace hf := ite_t c3 hf
        obtain ⟨M4, eM4, hf⟩ := lt_x hf
        refine Fq_wI eM4 (by decide) ?_
        exact fqb11_pigeons_38  hrc hf
      · replace hf := ite_f c3 hf
        exact fqb11_pigeons_21  hrc hf
theorem fql11_pigeons   {r : Int32} {M' : Mem} (n : Nat) : ∀ pc li lj M, r11_pigeons  n pc li lj M = some (r, M') → Fq CSX [(1, 1)] M M' := by
  induction n with
  | zero => intro pc li lj M hf; cases hf
  | succ n ih =>
    intro pc li lj M hf
    rw [r11_pigeons] at hf
    dsimp only at hf
    by_cases c38 : pc = 38
    · replace hf := ite_t c38 hf
      split at hf
      · exact fqb11_pigeons_38  ih hf
      · cases hf
    replace hf := ite_f c38 hf
    cases hf
theorem fq11_pigeons   {n : Nat} {a1 : Int32} {M M' : Mem} {r : Int32} (hf : f11_pigeons n  a1 M = some (r, M')) : Fq CSX [(1, 1)] M M' := fqb11_pigeons_0  (fql11_pigeons  n) hf
theorem fqb11_streets_0   {rc : Nat → List Int32 → List Int64 → Mem → Option (Int32 × Mem)} {n : Nat} {r : Int32} {M' : Mem} (hrc : ∀ pc li lj M, rc pc li lj M = some (r, M') → Fq CSX [(27, 11), (27, 12)] M M') {a1 : Int32} {M : Mem} (hf : b11_streets_0  rc n a1 M = some (r, M')) : Fq CSX [(27, 11), (27, 12)] M M' := by
  unfold b11_streets_0 at hf
  by_cases c1 : a1 = (0 : Int32)
  · replace hf := ite_t c1 hf
    obtain ⟨r2, M3, g2, hf⟩ := bnd_s hf
    refine Fq.trans (Fq.mono (fq6_islands  g2) (by decide)) ?_
    exact Fq.of hf
  · replace hf := ite_f c1 hf
    by_cases c3 : a1 = (1 : Int32)
    · replace hf := ite_t c3 hf
      obtain ⟨r6, M7, g4, hf⟩ := bnd_s hf
      refine Fq.trans (Fq.mono (fq6_deadEnds  g4) (by decide)) ?_
      exact Fq.of hf
    · replace hf := ite_f c3 hf
      by_cases c5 : a1 = (2 : Int32)
      · replace hf := ite_t c5 hf
        obtain ⟨r10, M11, g6, hf⟩ := bnd_s hf
        refine Fq.trans (Fq.mono (fq6_rings  g6) (by decide)) ?_
        exact Fq.of hf
      · replace hf := ite_f c5 hf
        by_cases c7 : a1 = (3 : Int32)
        · replace hf := ite_t c7 hf
          obtain ⟨r14, M15, g8, hf⟩ := bnd_s hf
          refine Fq.trans (Fq.mono (fq6_crossings  g8) (by decide)) ?_
          exact Fq.of hf
        · replace hf := ite_f c7 hf
          by_cases c9 : a1 = (4 : Int32)
          · replace hf := ite_t c9 hf
            obtain ⟨r18, M19, g10, hf⟩ := bnd_s hf
            refine Fq.trans (Fq.mono (fq4_size  g10) (by decide)) ?_
            exact Fq.of hf
          · replace hf := ite_f c9 hf
            by_cases c11 : a1 = (5 : Int32)
            · replace hf := ite_t c11 hf
              obtain ⟨r22, M23, g12, hf⟩ := bnd_s hf
              refine Fq.trans (Fq.mono (fq6_findCuts  g12) (by decide)) ?_
              exact Fq.of hf
            · replace hf := ite_f c11 hf
              by_cases c13 : a1 = (6 : Int32)
              · replace hf := ite_t c13 hf
                obtain ⟨r26, M27, g14, hf⟩ := bnd_s hf
                refine Fq.trans (Fq.mono (fq6_findCuts  g14) (by decide)) ?_
                exact Fq.of hf
              · replace hf := ite_f c13 hf
                exact Fq.of hf
theorem fq11_streets   {n : Nat} {a1 : Int32} {M M' : Mem} {r : Int32} (hf : f11_streets n  a1 M = some (r, M')) : Fq CSX [(27, 11), (27, 12)] M M' := fqb11_streets_0  (fun _ _ _ _ h => by cases h) hf
theorem fqb11_seed_11   {rc : Nat → List Int32 → List Int64 → Mem → Option (Int32 × Mem)} {n : Nat} {r : Int32} {M' : Mem} (hrc : ∀ pc li lj M, rc pc li lj M = some (r, M') → Fq CSX [] M M')  {M : Mem} (hf : b11_seed_11  rc n  M = some (r, M')) : Fq CSX [] M M' := by
  unfold b11_seed_11 at hf
  exact Fq.of hf
theorem fqb11_seed_0   {rc : Nat → List Int32 → List Int64 → Mem → Option (Int32 × Mem)} {n : Nat} {r : Int32} {M' : Mem} (hrc : ∀ pc li lj M, rc pc li lj M = some (r, M') → Fq CSX [] M M') {a1 : Int32} {M : Mem} (hf : b11_seed_0  rc n a1 M = some (r, M')) : Fq CSX [] M M' := by
  unfold b11_seed_0 at hf
  by_cases c1 : a1 < 0
  · replace hf := ite_t c1 hf
    exact fqb11_seed_11  hrc hf
  · replace hf := ite_f c1 hf
    by_cases c2 : a1 ≤ (65535 : Int32)
    · replace hf := ite_t c2 hf
      obtain ⟨M3, eM3, hf⟩ := lt_x hf
      refine Fq_wIn eM3 (by decide) ?_
      exact Fq.of hf
    · replace hf := ite_f c2 hf
      exact fqb11_seed_11  hrc hf
theorem fq11_seed   {n : Nat} {a1 : Int32} {M M' : Mem} {r : Int32} (hf : f11_seed n  a1 M = some (r, M')) : Fq CSX [] M M' := fqb11_seed_0  (fun _ _ _ _ h => by cases h) hf
theorem fqb11_keep_0   {rc : Nat → List Int32 → List Int64 → Mem → Option (Int32 × Mem)} {n : Nat} {r : Int32} {M' : Mem} (hrc : ∀ pc li lj M, rc pc li lj M = some (r, M') → Fq CSX [(0, 12)] M M')  {M : Mem} (hf : b11_keep_0  rc n  M = some (r, M')) : Fq CSX [(0, 12)] M M' := by
  unfold b11_keep_0 at hf
  obtain ⟨r1, M2, g1, hf⟩ := bnd_s hf
  refine Fq.trans (Fq.mono (fq0_take (by decide) (by decide) (by decide) g1) (by decide)) ?_
  obtain ⟨M4, eM4, hf⟩ := lt_x hf
  refine Fq_wI eM4 (by decide) ?_
  exact Fq.of hf
theorem fq11_keep   {n : Nat}  {M M' : Mem} {r : Int32} (hf : f11_keep n   M = some (r, M')) : Fq CSX [(0, 12)] M M' := fqb11_keep_0  (fun _ _ _ _ h => by cases h) hf
theorem fqb11_undo_0   {rc : Nat → List Int32 → List Int64 → Mem → Option (Int32 × Mem)} {n : Nat} {r : Int32} {M' : Mem} (hrc : ∀ pc li lj M, rc pc li lj M = some (r, M') → Fq CSX [] M M')  {M : Mem} (hf : b11_undo_0  rc n  M = some (r, M')) : Fq CSX [] M M' := by
  unfold b11_undo_0 at hf
  by_cases c1 : (M.1 0 12) = 0
  · replace hf := ite_t c1 hf
    exact Fq.of hf
  · replace hf := ite_f c1 hf
    obtain ⟨r2, M3, g2, hf⟩ := bnd_s hf
    refine Fq.trans (Fq.mono (fq0_take (by decide) (by decide) (by decide) g2) (by decide)) ?_
    exact Fq.of hf
theorem fq11_undo   {n : Nat}  {M M' : Mem} {r : Int32} (hf : f11_undo n   M = some (r, M')) : Fq CSX [] M M' := fqb11_undo_0  (fun _ _ _ _ h => by cases h) hf
theorem fqb11_check_24   {rc : Nat → List Int32 → List Int64 → Mem → Option (Int32 × Mem)} {n : Nat} {r : Int32} {M' : Mem} (hrc : ∀ pc li lj M, rc pc li lj M = some (r, M') → Fq CSX [(1, 1)] M M')  {M : Mem} (hf : b11_check_24  rc n  M = some (r, M')) : Fq CSX [(1, 1)] M M' := by
  unfold b11_check_24 at hf
  exact Fq.of hf
theorem fqb11_check_37   {rc : Nat → List Int32 → List Int64 → Mem → Option (Int32 × Mem)} {n : Nat} {r : Int32} {M' : Mem} (hrc : ∀ pc li lj M, rc pc li lj M = some (r, M') → Fq CSX [(1, 1)] M M') {i1 : Int32} {i2 : Int32} {i3 : Int32} {M : Mem} (hf : b11_check_37  rc n i1 i2 i3 M = some (r, M')) : Fq CSX [(1, 1)] M M' := by
  unfold b11_check_37 at hf
  by_cases c1 : i2 ≤ i3
  · replace hf := ite_t c1 hf
    exact Fq.of hf
  · replace hf := ite_f c1 hf
    have h2 := chk_1 hf
    replace hf := chk_2 hf
    replace hf := chk_2 hf
    by_cases c3 : ((M.1 (330 + 1) ((i1 * (12 : Int32)) + i3).toNatClampNeg) - (M.1 (330 + 1) ((i1 * (12 : Int32)) + i3).toNatClampNeg) / (256 : Int32) * (256 : Int32)) = (M.1 2 i3.toNatClampNeg)
    · replace hf := ite_t c3 hf
      obtain ⟨v12, ev12, hf⟩ := lt_x hf
      exact hrc _ _ _ _ hf
    · replace hf := ite_f c3 hf
      exact Fq.of hf
theorem fqb11_check_0   {rc : Nat → List Int32 → List Int64 → Mem → Option (Int32 × Mem)} {n : Nat} {r : Int32} {M' : Mem} (hrc : ∀ pc li lj M, rc pc li lj M = some (r, M') → Fq CSX [(1, 1)] M M') {a1 : Int32} {a2 : Int32} {M : Mem} (hf : b11_check_0  rc n a1 a2 M = some (r, M')) : Fq CSX [(1, 1)] M M' := by
  unfold b11_check_0 at hf
  by_cases c1 : a1 < 0
  · replace hf := ite_t c1 hf
    exact fqb11_check_24  hrc hf
  · replace hf := ite_f c1 hf
    by_cases c2 : (8 : Int32) ≤ a1
    · replace hf := ite_t c2 hf
      exact fqb11_check_24  hrc hf
    · replace hf := ite_f c2 hf
      obtain ⟨r3, M4, g3, hf⟩ := bnd_s hf
      refine Fq.trans (Fq.mono (fq7_canGive  g3) (by decide)) ?_
      by_cases c4 : r3 = 0
      · replace hf := ite_t c4 hf
        exact fqb11_check_24  hrc hf
      · replace hf := ite_f c4 hf
        obtain ⟨M7, eM7, hf⟩ := lt_x hf
        refine Fq_wI eM7 (by decide) ?_
        exact fqb11_check_37  hrc hf
theorem fql11_check   {r : Int32} {M' : Mem} (n : Nat) : ∀ pc li lj M, r11_check  n pc li lj M = some (r, M') → Fq CSX [(1, 1)] M M' := by
  induction n with
  | zero => intro pc li lj M hf; cases hf
  | succ n ih =>
    intro pc li lj M hf
    rw [r11_check] at hf
    dsimp only at hf
    by_cases c37 : pc = 37
    · replace hf := ite_t c37 hf
      split at hf
      · exact fqb11_check_37  ih hf
      · cases hf
    replace hf := ite_f c37 hf
    cases hf
theorem fq11_check   {n : Nat} {a1 : Int32} {a2 : Int32} {M M' : Mem} {r : Int32} (hf : f11_check n  a1 a2 M = some (r, M')) : Fq CSX [(1, 1)] M M' := fqb11_check_0  (fql11_check  n) hf
theorem fqb11_count_56   {rc : Nat → List Int32 → List Int64 → Mem → Option (Int32 × Mem)} {n : Nat} {r : Int32} {M' : Mem} (hrc : ∀ pc li lj M, rc pc li lj M = some (r, M') → Fq CSX [] M M') {i1 : Int32} {M : Mem} (hf : b11_count_56  rc n i1 M = some (r, M')) : Fq CSX [] M M' := by
  unfold b11_count_56 at hf
  by_cases c1 : i1 = (0 : Int32)
  · replace hf := ite_t c1 hf
    exact Fq.of hf
  · replace hf := ite_f c1 hf
    by_cases c2 : i1 = (1 : Int32)
    · replace hf := ite_t c2 hf
      exact Fq.of hf
    · replace hf := ite_f c2 hf
      by_cases c3 : i1 = (2 : Int32)
      · replace hf := ite_t c3 hf
        exact Fq.of hf
      · replace hf := ite_f c3 hf
        by_cases c4 : i1 = (3 : Int32)
        · replace hf := ite_t c4 hf
          exact Fq.of hf
        · replace hf := ite_f c4 hf
          by_cases c5 : i1 = (4 : Int32)
          · replace hf := ite_t c5 hf
            exact Fq.of hf
          · replace hf := ite_f c5 hf
            by_cases c6 : i1 = (5 : Int32)
            · replace hf := ite_t c6 hf
              exact Fq.of hf
            · replace hf := ite_f c6 hf
              by_cases c7 : i1 = (6 : Int32)
              · replace hf := ite_t c7 hf
                exact Fq.of hf
              · replace hf := ite_f c7 hf
                by_cases c8 : i1 = (7 : Int32)
                · replace hf := ite_t c8 hf
                  obtain ⟨r17, M18, g9, hf⟩ := bnd_s hf
                  refine Fq.trans (Fq.mono (fq0_wearOfAll  g9) (by decide)) ?_
                  exact Fq.of hf
                · replace hf := ite_f c8 hf
                  by_cases c10 : i1 = (8 : Int32)
                  · replace hf := ite_t c10 hf
                    obtain ⟨r21, M22, g11, hf⟩ := bnd_s hf
                    refine Fq.trans (Fq.mono (fq2_weightOfAll  g11) (by decide)) ?_
                    exact Fq.of hf
                  · replace hf := ite_f c10 hf
                    exact Fq.of hf
theorem fqb11_count_25   {rc : Nat → List Int32 → List Int64 → Mem → Option (Int32 × Mem)} {n : Nat} {r : Int32} {M' : Mem} (hrc : ∀ pc li lj M, rc pc li lj M = some (r, M') → Fq CSX [] M M') {i1 : Int32} {M : Mem} (hf : b11_count_25  rc n i1 M = some (r, M')) : Fq CSX [] M M' := by
  unfold b11_count_25 at hf
  by_cases c1 : i1 < (100 : Int32)
  · replace hf := ite_t c1 hf
    exact fqb11_count_56  hrc hf
  · replace hf := ite_f c1 hf
    by_cases c2 : (124 : Int32) ≤ i1
    · replace hf := ite_t c2 hf
      exact fqb11_count_56  hrc hf
    · replace hf := ite_f c2 hf
      obtain ⟨r6, M7, g3, hf⟩ := bnd_s hf
      refine Fq.trans (Fq.mono (fq2_weightOf  g3) (by decide)) ?_
      exact Fq.of hf
theorem fqb11_count_0   {rc : Nat → List Int32 → List Int64 → Mem → Option (Int32 × Mem)} {n : Nat} {r : Int32} {M' : Mem} (hrc : ∀ pc li lj M, rc pc li lj M = some (r, M') → Fq CSX [] M M') {a1 : Int32} {M : Mem} (hf : b11_count_0  rc n a1 M = some (r, M')) : Fq CSX [] M M' := by
  unfold b11_count_0 at hf
  by_cases c1 : a1 ≤ (10 : Int32)
  · replace hf := ite_t c1 hf
    exact fqb11_count_25  hrc hf
  · replace hf := ite_f c1 hf
    by_cases c2 : (19 : Int32) < a1
    · replace hf := ite_t c2 hf
      exact fqb11_count_25  hrc hf
    · replace hf := ite_f c2 hf
      replace hf := chk_2 hf
      exact Fq.of hf
theorem fq11_count   {n : Nat} {a1 : Int32} {M M' : Mem} {r : Int32} (hf : f11_count n  a1 M = some (r, M')) : Fq CSX [] M M' := fqb11_count_0  (fun _ _ _ _ h => by cases h) hf
theorem fqb12_in_14   {rc : Nat → List Int32 → List Int64 → Mem → Option (Int32 × Mem)} {n : Nat} {r : Int32} {M' : Mem} (hrc : ∀ pc li lj M, rc pc li lj M = some (r, M') → Fq CSY [] M M')  {M : Mem} (hf : b12_in_14  rc n  M = some (r, M')) : Fq CSY [] M M' := by
  unfold b12_in_14 at hf
  exact Fq.of hf
theorem fqb12_in_0   {rc : Nat → List Int32 → List Int64 → Mem → Option (Int32 × Mem)} {n : Nat} {r : Int32} {M' : Mem} (hrc : ∀ pc li lj M, rc pc li lj M = some (r, M') → Fq CSY [] M M') {a0 : Int32} {a1 : Int32} {a2 : Int32} {M : Mem} (hf : b12_in_0  rc n a0 a1 a2 M = some (r, M')) : Fq CSY [] M M' := by
  unfold b12_in_0 at hf
  by_cases c1 : a0 < a1
  · replace hf := ite_t c1 hf
    exact fqb12_in_14  hrc hf
  · replace hf := ite_f c1 hf
    by_cases c2 : a2 < a0
    · replace hf := ite_t c2 hf
      exact fqb12_in_14  hrc hf
    · replace hf := ite_f c2 hf
      exact Fq.of hf
theorem fq12_in   {n : Nat} {a0 : Int32} {a1 : Int32} {a2 : Int32} {M M' : Mem} {r : Int32} (hf : f12_in n  a0 a1 a2 M = some (r, M')) : Fq CSY [] M M' := fqb12_in_0  (fun _ _ _ _ h => by cases h) hf
theorem fqb12_min_0   {rc : Nat → List Int32 → List Int64 → Mem → Option (Int32 × Mem)} {n : Nat} {r : Int32} {M' : Mem} (hrc : ∀ pc li lj M, rc pc li lj M = some (r, M') → Fq CSY [] M M') {a0 : Int32} {a1 : Int32} {M : Mem} (hf : b12_min_0  rc n a0 a1 M = some (r, M')) : Fq CSY [] M M' := by
  unfold b12_min_0 at hf
  by_cases c1 : a1 ≤ a0
  · replace hf := ite_t c1 hf
    exact Fq.of hf
  · replace hf := ite_f c1 hf
    exact Fq.of hf
theorem fq12_min   {n : Nat} {a0 : Int32} {a1 : Int32} {M M' : Mem} {r : Int32} (hf : f12_min n  a0 a1 M = some (r, M')) : Fq CSY [] M M' := fqb12_min_0  (fun _ _ _ _ h => by cases h) hf
theorem fqb12_max_0   {rc : Nat → List Int32 → List Int64 → Mem → Option (Int32 × Mem)} {n : Nat} {r : Int32} {M' : Mem} (hrc : ∀ pc li lj M, rc pc li lj M = some (r, M') → Fq CSY [] M M') {a0 : Int32} {a1 : Int32} {M : Mem} (hf : b12_max_0  rc n a0 a1 M = some (r, M')) : Fq CSY [] M M' := by
  unfold b12_max_0 at hf
  by_cases c1 : a0 ≤ a1
  · replace hf := ite_t c1 hf
    exact Fq.of hf
  · replace hf := ite_f c1 hf
    exact Fq.of hf
theorem fq12_max   {n : Nat} {a0 : Int32} {a1 : Int32} {M M' : Mem} {r : Int32} (hf : f12_max n  a0 a1 M = some (r, M')) : Fq CSY [] M M' := fqb12_max_0  (fun _ _ _ _ h => by cases h) hf
theorem fqb12_size_0   {rc : Nat → List Int32 → List Int64 → Mem → Option (Int32 × Mem)} {n : Nat} {r : Int32} {M' : Mem} (hrc : ∀ pc li lj M, rc pc li lj M = some (r, M') → Fq CSY [] M M') {a0 : Int32} {M : Mem} (hf : b12_size_0  rc n a0 M = some (r, M')) : Fq CSY [] M M' := by
  unfold b12_size_0 at hf
  by_cases c1 : 0 ≤ a0
  · replace hf := ite_t c1 hf
    exact Fq.of hf
  · replace hf := ite_f c1 hf
    exact Fq.of hf
theorem fq12_size   {n : Nat} {a0 : Int32} {M M' : Mem} {r : Int32} (hf : f12_size n  a0 M = some (r, M')) : Fq CSY [] M M' := fqb12_size_0  (fun _ _ _ _ h => by cases h) hf
theorem fqb12_has_0   {rc : Nat → List Int32 → List Int64 → Mem → Option (Int32 × Mem)} {n : Nat} {r : Int32} {M' : Mem} (hrc : ∀ pc li lj M, rc pc li lj M = some (r, M') → Fq CSY [] M M') {a0 : Int32} {a1 : Int32} {M : Mem} (hf : b12_has_0  rc n a0 a1 M = some (r, M')) : Fq CSY [] M M' := by
  unfold b12_has_0 at hf
  by_cases c1 : ((a0 >>> (a1 &&& 31)) &&& (1 : Int32)) = (1 : Int32)
  · replace hf := ite_t c1 hf
    exact Fq.of hf
  · replace hf := ite_f c1 hf
    exact Fq.of hf
theorem fq12_has   {n : Nat} {a0 : Int32} {a1 : Int32} {M M' : Mem} {r : Int32} (hf : f12_has n  a0 a1 M = some (r, M')) : Fq CSY [] M M' := fqb12_has_0  (fun _ _ _ _ h => by cases h) hf
theorem fqb12_bits_4   {rc : Nat → List Int32 → List Int64 → Mem → Option (Int32 × Mem)} {n : Nat} {r : Int32} {M' : Mem} (hrc : ∀ pc li lj M, rc pc li lj M = some (r, M') → Fq CSY [] M M') {i0 : Int32} {i1 : Int32} {i2 : Int32} {M : Mem} (hf : b12_bits_4  rc n i0 i1 i2 M = some (r, M')) : Fq CSY [] M M' := by
  unfold b12_bits_4 at hf
  by_cases c1 : (24 : Int32) ≤ i2
  · replace hf := ite_t c1 hf
    exact Fq.of hf
  · replace hf := ite_f c1 hf
    obtain ⟨v2, ev2, hf⟩ := lt_x hf
    obtain ⟨v3, ev3, hf⟩ := lt_x hf
    exact hrc _ _ _ _ hf
theorem fqb12_bits_0   {rc : Nat → List Int32 → List Int64 → Mem → Option (Int32 × Mem)} {n : Nat} {r : Int32} {M' : Mem} (hrc : ∀ pc li lj M, rc pc li lj M = some (r, M') → Fq CSY [] M M') {a0 : Int32} {M : Mem} (hf : b12_bits_0  rc n a0 M = some (r, M')) : Fq CSY [] M M' := by
  unfold b12_bits_0 at hf
  exact fqb12_bits_4  hrc hf
theorem fql12_bits   {r : Int32} {M' : Mem} (n : Nat) : ∀ pc li lj M, r12_bits  n pc li lj M = some (r, M') → Fq CSY [] M M' := by
  induction n with
  | zero => intro pc li lj M hf; cases hf
  | succ n ih =>
    intro pc li lj M hf
    rw [r12_bits] at hf
    dsimp only at hf
    by_cases c4 : pc = 4
    · replace hf := ite_t c4 hf
      split at hf
      · exact fqb12_bits_4  ih hf
      · cases hf
    replace hf := ite_f c4 hf
    cases hf
theorem fq12_bits   {n : Nat} {a0 : Int32} {M M' : Mem} {r : Int32} (hf : f12_bits n  a0 M = some (r, M')) : Fq CSY [] M M' := fqb12_bits_0  (fql12_bits  n) hf
