theorem fqb12_watch_19   {rc : Nat → List Int32 → List Int64 → Mem → Option (Int32 × Mem)} {n : Nat} {r : Int32} {M' : Mem} (hrc : ∀ pc li lj M, rc pc li lj M = some (r, M') → Fq CSY [(0, 41), (0, 42)] M M')  {M : Mem} (hf : b12_watch_19  rc n  M = some (r, M')) : Fq CSY [(0, 41), (0, 42)] M M' := by
  unfold b12_watch_19 at hf
  exact Fq.of hf
theorem fqb12_watch_44   {rc : Nat → List Int32 → List Int64 → Mem → Option (Int32 × Mem)} {n : Nat} {r : Int32} {M' : Mem} (hrc : ∀ pc li lj M, rc pc li lj M = some (r, M') → Fq CSY [(0, 41), (0, 42)] M M')  {M : Mem} (hf : b12_watch_44  rc n  M = some (r, M')) : Fq CSY [(0, 41), (0, 42)] M M' := by
  unfold b12_watch_44 at hf
  exact Fq.of hf
theorem fqb12_watch_56   {rc : Nat → List Int32 → List Int64 → Mem → Option (Int32 × Mem)} {n : Nat} {r : Int32} {M' : Mem} (hrc : ∀ pc li lj M, rc pc li lj M = some (r, M') → Fq CSY [(0, 41), (0, 42)] M M') {i1 : Int32} {i2 : Int32} {i3 : Int32} {i4 : Int32} {i5 : Int32} {i6 : Int32} {M : Mem} (hf : b12_watch_56  rc n i1 i2 i3 i4 i5 i6 M = some (r, M')) : Fq CSY [(0, 41), (0, 42)] M M' := by
  unfold b12_watch_56 at hf
  by_cases c1 : i1 ≤ i6
  · replace hf := ite_t c1 hf
    obtain ⟨r18, M19, g2, hf⟩ := bnd_s hf
    refine Fq.trans (Fq.mono (fq12_laysFraction  g2) (by decide)) ?_
    by_cases c3 : i2 = 0
    · replace hf := ite_t c3 hf
      exact Fq.of hf
    · replace hf := ite_f c3 hf
      by_cases c4 : i2 = (1 : Int32)
      · replace hf := ite_t c4 hf
        exact Fq.of hf
      · replace hf := ite_f c4 hf
        exact Fq.of hf
  · replace hf := ite_f c1 hf
    obtain ⟨r23, M24, g5, hf⟩ := bnd_s hf
    refine Fq.trans (Fq.mono (fq12_nextHour  g5) (by decide)) ?_
    obtain ⟨v26, ev26, hf⟩ := lt_x hf
    replace hf := chk_2 hf
    obtain ⟨v28, ev28, hf⟩ := lt_x hf
    obtain ⟨v29, ev29, hf⟩ := lt_x hf
    exact hrc _ _ _ _ hf
theorem fqb12_watch_0   {rc : Nat → List Int32 → List Int64 → Mem → Option (Int32 × Mem)} {n : Nat} {r : Int32} {M' : Mem} (hrc : ∀ pc li lj M, rc pc li lj M = some (r, M') → Fq CSY [(0, 41), (0, 42)] M M') {a1 : Int32} {a2 : Int32} {M : Mem} (hf : b12_watch_0  rc n a1 a2 M = some (r, M')) : Fq CSY [(0, 41), (0, 42)] M M' := by
  unfold b12_watch_0 at hf
  obtain ⟨r1, M2, g1, hf⟩ := bnd_s hf
  refine Fq.trans (Fq.mono (fq12_in  g1) (by decide)) ?_
  by_cases c2 : r1 = 0
  · replace hf := ite_t c2 hf
    exact fqb12_watch_19  hrc hf
  · replace hf := ite_f c2 hf
    obtain ⟨r5, M6, g3, hf⟩ := bnd_s hf
    refine Fq.trans (Fq.mono (fq12_in  g3) (by decide)) ?_
    by_cases c4 : r5 = 0
    · replace hf := ite_t c4 hf
      exact fqb12_watch_19  hrc hf
    · replace hf := ite_f c4 hf
      obtain ⟨r9, M10, g5, hf⟩ := bnd_s hf
      refine Fq.trans (Fq.mono (fq12_laysWeights  g5) (by decide)) ?_
      by_cases c6 : r9 = 0
      · replace hf := ite_t c6 hf
        exact fqb12_watch_44  hrc hf
      · replace hf := ite_f c6 hf
        obtain ⟨r13, M14, g7, hf⟩ := bnd_s hf
        refine Fq.trans (Fq.mono (fq12_bits  g7) (by decide)) ?_
        by_cases c8 : a1 ≤ ((24 : Int32) - r13)
        · replace hf := ite_t c8 hf
          exact fqb12_watch_56  hrc hf
        · replace hf := ite_f c8 hf
          exact fqb12_watch_44  hrc hf
theorem fql12_watch   {r : Int32} {M' : Mem} (n : Nat) : ∀ pc li lj M, r12_watch  n pc li lj M = some (r, M') → Fq CSY [(0, 41), (0, 42)] M M' := by
  induction n with
  | zero => intro pc li lj M hf; cases hf
  | succ n ih =>
    intro pc li lj M hf
    rw [r12_watch] at hf
    dsimp only at hf
    by_cases c56 : pc = 56
    · replace hf := ite_t c56 hf
      split at hf
      · exact fqb12_watch_56  ih hf
      · cases hf
    replace hf := ite_f c56 hf
    cases hf
theorem fq12_watch   {n : Nat} {a1 : Int32} {a2 : Int32} {M M' : Mem} {r : Int32} (hf : f12_watch n  a1 a2 M = some (r, M')) : Fq CSY [(0, 41), (0, 42)] M M' := fqb12_watch_0  (fql12_watch  n) hf
theorem fqb12_sure_32   {rc : Nat → List Int32 → List Int64 → Mem → Option (Int32 × Mem)} {n : Nat} {r : Int32} {M' : Mem} (hrc : ∀ pc li lj M, rc pc li lj M = some (r, M') → Fq CSY [] M M') {i1 : Int32} {i2 : Int32} {i3 : Int32} {i4 : Int32} {i5 : Int32} {M : Mem} (hf : b12_sure_32  rc n i1 i2 i3 i4 i5 M = some (r, M')) : Fq CSY [] M M' := by
  unfold b12_sure_32 at hf
  by_cases c1 : (i1 * i2) ≤ ((100 : Int32) * i4)
  · replace hf := ite_t c1 hf
    exact Fq.of hf
  · replace hf := ite_f c1 hf
    obtain ⟨r10, M11, g2, hf⟩ := bnd_s hf
    refine Fq.trans (Fq.mono (fq12_nextHour  g2) (by decide)) ?_
    obtain ⟨v13, ev13, hf⟩ := lt_x hf
    replace hf := chk_2 hf
    obtain ⟨v15, ev15, hf⟩ := lt_x hf
    obtain ⟨v16, ev16, hf⟩ := lt_x hf
    exact hrc _ _ _ _ hf
theorem fqb12_sure_0   {rc : Nat → List Int32 → List Int64 → Mem → Option (Int32 × Mem)} {n : Nat} {r : Int32} {M' : Mem} (hrc : ∀ pc li lj M, rc pc li lj M = some (r, M') → Fq CSY [] M M') {a1 : Int32} {M : Mem} (hf : b12_sure_0  rc n a1 M = some (r, M')) : Fq CSY [] M M' := by
  unfold b12_sure_0 at hf
  obtain ⟨r1, M2, g1, hf⟩ := bnd_s hf
  refine Fq.trans (Fq.mono (fq12_in  g1) (by decide)) ?_
  by_cases c2 : r1 = 0
  · replace hf := ite_t c2 hf
    exact Fq.of hf
  · replace hf := ite_f c2 hf
    obtain ⟨r5, M6, g3, hf⟩ := bnd_s hf
    refine Fq.trans (Fq.mono (fq12_laysWeights  g3) (by decide)) ?_
    by_cases c4 : r5 = 0
    · replace hf := ite_t c4 hf
      exact Fq.of hf
    · replace hf := ite_f c4 hf
      exact fqb12_sure_32  hrc hf
theorem fql12_sure   {r : Int32} {M' : Mem} (n : Nat) : ∀ pc li lj M, r12_sure  n pc li lj M = some (r, M') → Fq CSY [] M M' := by
  induction n with
  | zero => intro pc li lj M hf; cases hf
  | succ n ih =>
    intro pc li lj M hf
    rw [r12_sure] at hf
    dsimp only at hf
    by_cases c32 : pc = 32
    · replace hf := ite_t c32 hf
      split at hf
      · exact fqb12_sure_32  ih hf
      · cases hf
    replace hf := ite_f c32 hf
    cases hf
theorem fq12_sure   {n : Nat} {a1 : Int32} {M M' : Mem} {r : Int32} (hf : f12_sure n  a1 M = some (r, M')) : Fq CSY [] M M' := fqb12_sure_0  (fql12_sure  n) hf
theorem fqb12_walk_23   {rc : Nat → List Int32 → List Int64 → Mem → Option (Int32 × Mem)} {n : Nat} {r : Int32} {M' : Mem} (hrc : ∀ pc li lj M, rc pc li lj M = some (r, M') → Fq CSY [] M M') {i1 : Int32} {M : Mem} (hf : b12_walk_23  rc n i1 M = some (r, M')) : Fq CSY [] M M' := by
  unfold b12_walk_23 at hf
  replace hf := chk_2 hf
  by_cases c1 : (M.1 1 (156 : Int32).toNatClampNeg) = (-2 : Int32)
  · replace hf := ite_t c1 hf
    exact Fq.of hf
  · replace hf := ite_f c1 hf
    by_cases c2 : (60 : Int32) ≤ i1
    · replace hf := ite_t c2 hf
      replace hf := chk_2 hf
      exact Fq.of hf
    · replace hf := ite_f c2 hf
      replace hf := chk_2 hf
      exact Fq.of hf
theorem fqb12_walk_0   {rc : Nat → List Int32 → List Int64 → Mem → Option (Int32 × Mem)} {n : Nat} {r : Int32} {M' : Mem} (hrc : ∀ pc li lj M, rc pc li lj M = some (r, M') → Fq CSY [] M M') {a1 : Int32} {M : Mem} (hf : b12_walk_0  rc n a1 M = some (r, M')) : Fq CSY [] M M' := by
  unfold b12_walk_0 at hf
  obtain ⟨r1, M2, g1, hf⟩ := bnd_s hf
  refine Fq.trans (Fq.mono (fq12_in  g1) (by decide)) ?_
  by_cases c2 : r1 = 0
  · replace hf := ite_t c2 hf
    obtain ⟨r5, M6, g3, hf⟩ := bnd_s hf
    refine Fq.trans (Fq.mono (fq12_in  g3) (by decide)) ?_
    by_cases c4 : r5 = 0
    · replace hf := ite_t c4 hf
      exact Fq.of hf
    · replace hf := ite_f c4 hf
      exact fqb12_walk_23  hrc hf
  · replace hf := ite_f c2 hf
    exact fqb12_walk_23  hrc hf
theorem fq12_walk   {n : Nat} {a1 : Int32} {M M' : Mem} {r : Int32} (hf : f12_walk n  a1 M = some (r, M')) : Fq CSY [] M M' := fqb12_walk_0  (fun _ _ _ _ h => by cases h) hf
theorem fqb12_worn_39   {rc : Nat → List Int32 → List Int64 → Mem → Option (Int32 × Mem)} {n : Nat} {r : Int32} {M' : Mem} (hrc : ∀ pc li lj M, rc pc li lj M = some (r, M') → Fq CSY [] M M') {i1 : Int32} {i2 : Int32} {i3 : Int32} {M : Mem} (hf : b12_worn_39  rc n i1 i2 i3 M = some (r, M')) : Fq CSY [] M M' := by
  unfold b12_worn_39 at hf
  obtain ⟨v6, ev6, hf⟩ := lt_x hf
  exact hrc _ _ _ _ hf
theorem fqb12_worn_7   {rc : Nat → List Int32 → List Int64 → Mem → Option (Int32 × Mem)} {n : Nat} {r : Int32} {M' : Mem} (hrc : ∀ pc li lj M, rc pc li lj M = some (r, M') → Fq CSY [] M M') {i1 : Int32} {i2 : Int32} {i3 : Int32} {M : Mem} (hf : b12_worn_7  rc n i1 i2 i3 M = some (r, M')) : Fq CSY [] M M' := by
  unfold b12_worn_7 at hf
  by_cases c1 : (96 : Int32) ≤ i3
  · replace hf := ite_t c1 hf
    exact Fq.of hf
  · replace hf := ite_f c1 hf
    replace hf := chk_2 hf
    by_cases c2 : i2 < (M.1 1 ((0 : Int32) + i3).toNatClampNeg)
    · replace hf := ite_t c2 hf
      replace hf := chk_2 hf
      obtain ⟨v5, ev5, hf⟩ := lt_x hf
      exact fqb12_worn_39  hrc hf
    · replace hf := ite_f c2 hf
      exact fqb12_worn_39  hrc hf
theorem fqb12_worn_0   {rc : Nat → List Int32 → List Int64 → Mem → Option (Int32 × Mem)} {n : Nat} {r : Int32} {M' : Mem} (hrc : ∀ pc li lj M, rc pc li lj M = some (r, M') → Fq CSY [] M M')  {M : Mem} (hf : b12_worn_0  rc n  M = some (r, M')) : Fq CSY [] M M' := by
  unfold b12_worn_0 at hf
  exact fqb12_worn_7  hrc hf
theorem fql12_worn   {r : Int32} {M' : Mem} (n : Nat) : ∀ pc li lj M, r12_worn  n pc li lj M = some (r, M') → Fq CSY [] M M' := by
  induction n with
  | zero => intro pc li lj M hf; cases hf
  | succ n ih =>
    intro pc li lj M hf
    rw [r12_worn] at hf
    dsimp only at hf
    by_cases c7 : pc = 7
    · replace hf := ite_t c7 hf
      split at hf
      · exact fqb12_worn_7  ih hf
      · cases hf
    replace hf := ite_f c7 hf
    cases hf
theorem fq12_worn   {n : Nat}  {M M' : Mem} {r : Int32} (hf : f12_worn n   M = some (r, M')) : Fq CSY [] M M' := fqb12_worn_0  (fql12_worn  n) hf
theorem fqb12_far_44   {rc : Nat → List Int32 → List Int64 → Mem → Option (Int32 × Mem)} {n : Nat} {r : Int32} {M' : Mem} (hrc : ∀ pc li lj M, rc pc li lj M = some (r, M') → Fq CSY [(0, 9)] M M') {i1 : Int32} {i2 : Int32} {i3 : Int32} {M : Mem} (hf : b12_far_44  rc n i1 i2 i3 M = some (r, M')) : Fq CSY [(0, 9)] M M' := by
  unfold b12_far_44 at hf
  obtain ⟨v14, ev14, hf⟩ := lt_x hf
  exact hrc _ _ _ _ hf
theorem fqb12_far_16   {rc : Nat → List Int32 → List Int64 → Mem → Option (Int32 × Mem)} {n : Nat} {r : Int32} {M' : Mem} (hrc : ∀ pc li lj M, rc pc li lj M = some (r, M') → Fq CSY [(0, 9)] M M') {i1 : Int32} {i2 : Int32} {i3 : Int32} {M : Mem} (hf : b12_far_16  rc n i1 i2 i3 M = some (r, M')) : Fq CSY [(0, 9)] M M' := by
  unfold b12_far_16 at hf
  by_cases c1 : (96 : Int32) ≤ i3
  · replace hf := ite_t c1 hf
    exact Fq.of hf
  · replace hf := ite_f c1 hf
    obtain ⟨r6, M7, g2, hf⟩ := bnd_s hf
    refine Fq.trans (Fq.mono (fq12_steps  g2) (by decide)) ?_
    obtain ⟨r9, M10, g3, hf⟩ := bnd_s hf
    refine Fq.trans (Fq.mono (fq12_min  g3) (by decide)) ?_
    by_cases c4 : r9 < r6
    · replace hf := ite_t c4 hf
      exact fqb12_far_44  hrc hf
    · replace hf := ite_f c4 hf
      obtain ⟨v13, ev13, hf⟩ := lt_x hf
      exact fqb12_far_44  hrc hf
theorem fqb12_far_0   {rc : Nat → List Int32 → List Int64 → Mem → Option (Int32 × Mem)} {n : Nat} {r : Int32} {M' : Mem} (hrc : ∀ pc li lj M, rc pc li lj M = some (r, M') → Fq CSY [(0, 9)] M M') {a1 : Int32} {M : Mem} (hf : b12_far_0  rc n a1 M = some (r, M')) : Fq CSY [(0, 9)] M M' := by
  unfold b12_far_0 at hf
  obtain ⟨r1, M2, g1, hf⟩ := bnd_s hf
  refine Fq.trans (Fq.mono (fq12_in  g1) (by decide)) ?_
  by_cases c2 : r1 = 0
  · replace hf := ite_t c2 hf
    exact Fq.of hf
  · replace hf := ite_f c2 hf
    exact fqb12_far_16  hrc hf
theorem fql12_far   {r : Int32} {M' : Mem} (n : Nat) : ∀ pc li lj M, r12_far  n pc li lj M = some (r, M') → Fq CSY [(0, 9)] M M' := by
  induction n with
  | zero => intro pc li lj M hf; cases hf
  | succ n ih =>
    intro pc li lj M hf
    rw [r12_far] at hf
    dsimp only at hf
    by_cases c16 : pc = 16
    · replace hf := ite_t c16 hf
      split at hf
      · exact fqb12_far_16  ih hf
      · cases hf
    replace hf := ite_f c16 hf
    cases hf
theorem fq12_far   {n : Nat} {a1 : Int32} {M M' : Mem} {r : Int32} (hf : f12_far n  a1 M = some (r, M')) : Fq CSY [(0, 9)] M M' := fqb12_far_0  (fql12_far  n) hf
theorem fqb12_doorWay_24   {rc : Nat → List Int32 → List Int64 → Mem → Option (Int32 × Mem)} {n : Nat} {r : Int32} {M' : Mem} (hrc : ∀ pc li lj M, rc pc li lj M = some (r, M') → Fq CSY [(0, 9)] M M')  {M : Mem} (hf : b12_doorWay_24  rc n  M = some (r, M')) : Fq CSY [(0, 9)] M M' := by
  unfold b12_doorWay_24 at hf
  exact Fq.of hf
theorem fqb12_doorWay_0   {rc : Nat → List Int32 → List Int64 → Mem → Option (Int32 × Mem)} {n : Nat} {r : Int32} {M' : Mem} (hrc : ∀ pc li lj M, rc pc li lj M = some (r, M') → Fq CSY [(0, 9)] M M') {a1 : Int32} {a2 : Int32} {M : Mem} (hf : b12_doorWay_0  rc n a1 a2 M = some (r, M')) : Fq CSY [(0, 9)] M M' := by
  unfold b12_doorWay_0 at hf
  replace hf := chk_2 hf
  by_cases c1 : (M.1 5 (a1 + (1 : Int32)).toNatClampNeg) = (-1 : Int32)
  · replace hf := ite_t c1 hf
    exact fqb12_doorWay_24  hrc hf
  · replace hf := ite_f c1 hf
    replace hf := chk_2 hf
    by_cases c2 : (M.1 5 (a2 + (1 : Int32)).toNatClampNeg) = (-1 : Int32)
    · replace hf := ite_t c2 hf
      exact fqb12_doorWay_24  hrc hf
    · replace hf := ite_f c2 hf
      replace hf := chk_2 hf
      replace hf := chk_2 hf
      obtain ⟨r7, M8, g3, hf⟩ := bnd_s hf
      refine Fq.trans (Fq.mono (fq12_steps  g3) (by decide)) ?_
      by_cases c4 : r7 = (99 : Int32)
      · replace hf := ite_t c4 hf
        exact Fq.of hf
      · replace hf := ite_f c4 hf
        exact Fq.of hf
theorem fq12_doorWay   {n : Nat} {a1 : Int32} {a2 : Int32} {M M' : Mem} {r : Int32} (hf : f12_doorWay n  a1 a2 M = some (r, M')) : Fq CSY [(0, 9)] M M' := fqb12_doorWay_0  (fun _ _ _ _ h => by cases h) hf
theorem fqb12_squareWay_0   {rc : Nat → List Int32 → List Int64 → Mem → Option (Int32 × Mem)} {n : Nat} {r : Int32} {M' : Mem} (hrc : ∀ pc li lj M, rc pc li lj M = some (r, M') → Fq CSY [(0, 9)] M M') {a1 : Int32} {M : Mem} (hf : b12_squareWay_0  rc n a1 M = some (r, M')) : Fq CSY [(0, 9)] M M' := by
  unfold b12_squareWay_0 at hf
  replace hf := chk_2 hf
  by_cases c1 : (M.1 5 (a1 + (1 : Int32)).toNatClampNeg) = (-1 : Int32)
  · replace hf := ite_t c1 hf
    exact Fq.of hf
  · replace hf := ite_f c1 hf
    replace hf := chk_2 hf
    obtain ⟨r4, M5, g2, hf⟩ := bnd_s hf
    refine Fq.trans (Fq.mono (fq12_steps  g2) (by decide)) ?_
    by_cases c3 : r4 = (99 : Int32)
    · replace hf := ite_t c3 hf
      exact Fq.of hf
    · replace hf := ite_f c3 hf
      exact Fq.of hf
theorem fq12_squareWay   {n : Nat} {a1 : Int32} {M M' : Mem} {r : Int32} (hf : f12_squareWay n  a1 M = some (r, M')) : Fq CSY [(0, 9)] M M' := fqb12_squareWay_0  (fun _ _ _ _ h => by cases h) hf
theorem fqb12_laysBack_84   {rc : Nat → List Int32 → List Int64 → Mem → Option (Unit × Mem)} {n : Nat} {r : Unit} {M' : Mem} (hrc : ∀ pc li lj M, rc pc li lj M = some (r, M') → Fq CSY [(0, 9)] M M') {i1 : Int32} {i2 : Int32} {i3 : Int32} {i4 : Int32} {M : Mem} (hf : b12_laysBack_84  rc n i1 i2 i3 i4 M = some (r, M')) : Fq CSY [(0, 9)] M M' := by
  unfold b12_laysBack_84 at hf
  obtain ⟨v26, ev26, hf⟩ := lt_x hf
  exact hrc _ _ _ _ hf
theorem fqb12_laysBack_36   {rc : Nat → List Int32 → List Int64 → Mem → Option (Unit × Mem)} {n : Nat} {r : Unit} {M' : Mem} (hrc : ∀ pc li lj M, rc pc li lj M = some (r, M') → Fq CSY [(0, 9)] M M') {i1 : Int32} {i2 : Int32} {i3 : Int32} {i4 : Int32} {M : Mem} (hf : b12_laysBack_36  rc n i1 i2 i3 i4 M = some (r, M')) : Fq CSY [(0, 9)] M M' := by
  unfold b12_laysBack_36 at hf
  by_cases c1 : (9 : Int32) ≤ i4
  · replace hf := ite_t c1 hf
    obtain ⟨r9, M10, g2, hf⟩ := bnd_s hf
    refine Fq.trans (Fq.mono (fq12_min  g2) (by decide)) ?_
    replace hf := chk_2 hf
    obtain ⟨M13, eM13, hf⟩ := lt_x hf
    refine Fq_wIn eM13 (by decide) ?_
    obtain ⟨v14, ev14, hf⟩ := lt_x hf
    exact hrc _ _ _ _ hf
  · replace hf := ite_f c1 hf
    obtain ⟨r15, M16, g3, hf⟩ := bnd_s hf
    refine Fq.trans (Fq.mono (fq12_has  g3) (by decide)) ?_
    by_cases c4 : r15 = 0
    · replace hf := ite_t c4 hf
      exact fqb12_laysBack_84  hrc hf
    · replace hf := ite_f c4 hf
      obtain ⟨r19, M20, g5, hf⟩ := bnd_s hf
      refine Fq.trans (Fq.mono (fq12_doorWay  g5) (by decide)) ?_
      replace hf := chk_2 hf
      obtain ⟨r23, M24, g6, hf⟩ := bnd_s hf
      refine Fq.trans (Fq.mono (fq12_min  g6) (by decide)) ?_
      exact fqb12_laysBack_84  hrc hf
theorem fqb12_laysBack_32   {rc : Nat → List Int32 → List Int64 → Mem → Option (Unit × Mem)} {n : Nat} {r : Unit} {M' : Mem} (hrc : ∀ pc li lj M, rc pc li lj M = some (r, M') → Fq CSY [(0, 9)] M M') {i1 : Int32} {i2 : Int32} {s0 : Int32} {M : Mem} (hf : b12_laysBack_32  rc n i1 i2 s0 M = some (r, M')) : Fq CSY [(0, 9)] M M' := by
  unfold b12_laysBack_32 at hf
  exact fqb12_laysBack_36  hrc hf
theorem fqb12_laysBack_11   {rc : Nat → List Int32 → List Int64 → Mem → Option (Unit × Mem)} {n : Nat} {r : Unit} {M' : Mem} (hrc : ∀ pc li lj M, rc pc li lj M = some (r, M') → Fq CSY [(0, 9)] M M') {i1 : Int32} {i2 : Int32} {M : Mem} (hf : b12_laysBack_11  rc n i1 i2 M = some (r, M')) : Fq CSY [(0, 9)] M M' := by
  unfold b12_laysBack_11 at hf
  by_cases c1 : (9 : Int32) ≤ i2
  · replace hf := ite_t c1 hf
    obtain ⟨v3, ev3, hf⟩ := lt_x hf
    exact hrc _ _ _ _ hf
  · replace hf := ite_f c1 hf
    by_cases c2 : i1 = 0
    · replace hf := ite_t c2 hf
      obtain ⟨r5, M6, g3, hf⟩ := bnd_s hf
      refine Fq.trans (Fq.mono (fq12_squareWay  g3) (by decide)) ?_
      exact fqb12_laysBack_32  hrc hf
    · replace hf := ite_f c2 hf
      exact fqb12_laysBack_32  hrc hf
theorem fqb12_laysBack_2   {rc : Nat → List Int32 → List Int64 → Mem → Option (Unit × Mem)} {n : Nat} {r : Unit} {M' : Mem} (hrc : ∀ pc li lj M, rc pc li lj M = some (r, M') → Fq CSY [(0, 9)] M M') {i1 : Int32} {M : Mem} (hf : b12_laysBack_2  rc n i1 M = some (r, M')) : Fq CSY [(0, 9)] M M' := by
  unfold b12_laysBack_2 at hf
  by_cases c1 : (512 : Int32) ≤ i1
  · replace hf := ite_t c1 hf
    exact Fq.of hf
  · replace hf := ite_f c1 hf
    exact fqb12_laysBack_11  hrc hf
theorem fqb12_laysBack_0   {rc : Nat → List Int32 → List Int64 → Mem → Option (Unit × Mem)} {n : Nat} {r : Unit} {M' : Mem} (hrc : ∀ pc li lj M, rc pc li lj M = some (r, M') → Fq CSY [(0, 9)] M M')  {M : Mem} (hf : b12_laysBack_0  rc n  M = some (r, M')) : Fq CSY [(0, 9)] M M' := by
  unfold b12_laysBack_0 at hf
  exact fqb12_laysBack_2  hrc hf
theorem fql12_laysBack   {r : Unit} {M' : Mem} (n : Nat) : ∀ pc li lj M, r12_laysBack  n pc li lj M = some (r, M') → Fq CSY [(0, 9)] M M' := by
  induction n with
  | zero => intro pc li lj M hf; cases hf
  | succ n ih =>
    intro pc li lj M hf
    rw [r12_laysBack] at hf
    dsimp only at hf
    by_cases c2 : pc = 2
    · replace hf := ite_t c2 hf
      split at hf
      · exact fqb12_laysBack_2  ih hf
      · cases hf
    replace hf := ite_f c2 hf
    by_cases c11 : pc = 11
    · replace hf := ite_t c11 hf
      split at hf
      · exact fqb12_laysBack_11  ih hf
      · cases hf
    replace hf := ite_f c11 hf
    by_cases c36 : pc = 36
    · replace hf := ite_t c36 hf
      split at hf
      · exact fqb12_laysBack_36  ih hf
      · cases hf
    replace hf := ite_f c36 hf
    cases hf
theorem fq12_laysBack   {n : Nat}  {M M' : Mem} {r : Unit} (hf : f12_laysBack n   M = some (r, M')) : Fq CSY [(0, 9)] M M' := fqb12_laysBack_0  (fql12_laysBack  n) hf
theorem fqb12_roundBy_54   {rc : Nat → List Int32 → List Int64 → Mem → Option (Int32 × Mem)} {n : Nat} {r : Int32} {M' : Mem} (hrc : ∀ pc li lj M, rc pc li lj M = some (r, M') → Fq CSY [(0, 9)] M M') {i1 : Int32} {i2 : Int32} {i3 : Int32} {M : Mem} (hf : b12_roundBy_54  rc n i1 i2 i3 M = some (r, M')) : Fq CSY [(0, 9)] M M' := by
  unfold b12_roundBy_54 at hf
  obtain ⟨v14, ev14, hf⟩ := lt_x hf
  exact hrc _ _ _ _ hf
theorem fqb12_roundBy_12   {rc : Nat → List Int32 → List Int64 → Mem → Option (Int32 × Mem)} {n : Nat} {r : Int32} {M' : Mem} (hrc : ∀ pc li lj M, rc pc li lj M = some (r, M') → Fq CSY [(0, 9)] M M') {i1 : Int32} {i2 : Int32} {i3 : Int32} {M : Mem} (hf : b12_roundBy_12  rc n i1 i2 i3 M = some (r, M')) : Fq CSY [(0, 9)] M M' := by
  unfold b12_roundBy_12 at hf
  by_cases c1 : (9 : Int32) ≤ i3
  · replace hf := ite_t c1 hf
    exact Fq.of hf
  · replace hf := ite_f c1 hf
    obtain ⟨r3, M4, g2, hf⟩ := bnd_s hf
    refine Fq.trans (Fq.mono (fq12_has  g2) (by decide)) ?_
    by_cases c3 : r3 = 0
    · replace hf := ite_t c3 hf
      exact fqb12_roundBy_54  hrc hf
    · replace hf := ite_f c3 hf
      obtain ⟨r7, M8, g4, hf⟩ := bnd_s hf
      refine Fq.trans (Fq.mono (fq12_squareWay  g4) (by decide)) ?_
      replace hf := chk_2 hf
      obtain ⟨r11, M12, g5, hf⟩ := bnd_s hf
      refine Fq.trans (Fq.mono (fq12_min  g5) (by decide)) ?_
      exact fqb12_roundBy_54  hrc hf
theorem fqb12_roundBy_0   {rc : Nat → List Int32 → List Int64 → Mem → Option (Int32 × Mem)} {n : Nat} {r : Int32} {M' : Mem} (hrc : ∀ pc li lj M, rc pc li lj M = some (r, M') → Fq CSY [(0, 9)] M M') {a1 : Int32} {M : Mem} (hf : b12_roundBy_0  rc n a1 M = some (r, M')) : Fq CSY [(0, 9)] M M' := by
  unfold b12_roundBy_0 at hf
  by_cases c1 : a1 = 0
  · replace hf := ite_t c1 hf
    exact Fq.of hf
  · replace hf := ite_f c1 hf
    exact fqb12_roundBy_12  hrc hf
theorem fql12_roundBy   {r : Int32} {M' : Mem} (n : Nat) : ∀ pc li lj M, r12_roundBy  n pc li lj M = some (r, M') → Fq CSY [(0, 9)] M M' := by
  induction n with
  | zero => intro pc li lj M hf; cases hf
  | succ n ih =>
    intro pc li lj M hf
    rw [r12_roundBy] at hf
    dsimp only at hf
    by_cases c12 : pc = 12
    · replace hf := ite_t c12 hf
      split at hf
      · exact fqb12_roundBy_12  ih hf
      · cases hf
    replace hf := ite_f c12 hf
    cases hf
theorem fq12_roundBy   {n : Nat} {a1 : Int32} {M M' : Mem} {r : Int32} (hf : f12_roundBy n  a1 M = some (r, M')) : Fq CSY [(0, 9)] M M' := fqb12_roundBy_0  (fql12_roundBy  n) hf
theorem fqb12_mayBeRow_86   {rc : Nat → List Int32 → List Int64 → Mem → Option (Unit × Mem)} {n : Nat} {r : Unit} {M' : Mem} (hrc : ∀ pc li lj M, rc pc li lj M = some (r, M') → Fq CSY [(0, 9)] M M') {i3 : Int32} {i4 : Int32} {i5 : Int32} {i6 : Int32} {i7 : Int32} {i8 : Int32} {M : Mem} (hf : b12_mayBeRow_86  rc n i3 i4 i5 i6 i7 i8 M = some (r, M')) : Fq CSY [(0, 9)] M M' := by
  unfold b12_mayBeRow_86 at hf
  obtain ⟨v27, ev27, hf⟩ := lt_x hf
  exact hrc _ _ _ _ hf
theorem fqb12_mayBeRow_132   {rc : Nat → List Int32 → List Int64 → Mem → Option (Unit × Mem)} {n : Nat} {r : Unit} {M' : Mem} (hrc : ∀ pc li lj M, rc pc li lj M = some (r, M') → Fq CSY [(0, 9)] M M') {i3 : Int32} {i6 : Int32} {i7 : Int32} {i8 : Int32} {M : Mem} (hf : b12_mayBeRow_132  rc n i3 i6 i7 i8 M = some (r, M')) : Fq CSY [(0, 9)] M M' := by
  unfold b12_mayBeRow_132 at hf
  obtain ⟨v21, ev21, hf⟩ := lt_x hf
  replace hf := chk_2 hf
  obtain ⟨v23, ev23, hf⟩ := lt_x hf
  replace hf := chk_2 hf
  obtain ⟨M25, eM25, hf⟩ := lt_x hf
  refine Fq_wIn eM25 (by decide) ?_
  obtain ⟨v26, ev26, hf⟩ := lt_x hf
  exact hrc _ _ _ _ hf
theorem fqb12_mayBeRow_115   {rc : Nat → List Int32 → List Int64 → Mem → Option (Unit × Mem)} {n : Nat} {r : Unit} {M' : Mem} (hrc : ∀ pc li lj M, rc pc li lj M = some (r, M') → Fq CSY [(0, 9)] M M') {i3 : Int32} {i6 : Int32} {i7 : Int32} {i8 : Int32} {M : Mem} (hf : b12_mayBeRow_115  rc n i3 i6 i7 i8 M = some (r, M')) : Fq CSY [(0, 9)] M M' := by
  unfold b12_mayBeRow_115 at hf
  replace hf := chk_2 hf
  by_cases c1 : (i8 + (1 : Int32)) = (M.1 25 i7.toNatClampNeg)
  · replace hf := ite_t c1 hf
    exact fqb12_mayBeRow_132  hrc hf
  · replace hf := ite_f c1 hf
    exact fqb12_mayBeRow_132  hrc hf
theorem fqb12_mayBeRow_61   {rc : Nat → List Int32 → List Int64 → Mem → Option (Unit × Mem)} {n : Nat} {r : Unit} {M' : Mem} (hrc : ∀ pc li lj M, rc pc li lj M = some (r, M') → Fq CSY [(0, 9)] M M') {i3 : Int32} {i4 : Int32} {i5 : Int32} {i6 : Int32} {i7 : Int32} {i8 : Int32} {s0 : Int32} {M : Mem} (hf : b12_mayBeRow_61  rc n i3 i4 i5 i6 i7 i8 s0 M = some (r, M')) : Fq CSY [(0, 9)] M M' := by
  unfold b12_mayBeRow_61 at hf
  replace hf := chk_2 hf
  by_cases c1 : (s0 + (M.1 24 (((9 : Int32) * (i3 &&& (((1 : Int32) <<< (i8 &&& 31)) ^^^ (-1 : Int32)))) + i8).toNatClampNeg)) = i5
  · replace hf := ite_t c1 hf
    by_cases c2 : i6 = 0
    · replace hf := ite_t c2 hf
      replace hf := chk_2 hf
      by_cases c3 : (i8 + (1 : Int32)) ≤ (M.1 25 i7.toNatClampNeg)
      · replace hf := ite_t c3 hf
        exact fqb12_mayBeRow_115  hrc hf
      · replace hf := ite_f c3 hf
        exact Fq.of hf
    · replace hf := ite_f c2 hf
      exact fqb12_mayBeRow_115  hrc hf
  · replace hf := ite_f c1 hf
    exact fqb12_mayBeRow_86  hrc hf
theorem fqb12_mayBeRow_29   {rc : Nat → List Int32 → List Int64 → Mem → Option (Unit × Mem)} {n : Nat} {r : Unit} {M' : Mem} (hrc : ∀ pc li lj M, rc pc li lj M = some (r, M') → Fq CSY [(0, 9)] M M') {i3 : Int32} {i4 : Int32} {i5 : Int32} {i6 : Int32} {i7 : Int32} {i8 : Int32} {M : Mem} (hf : b12_mayBeRow_29  rc n i3 i4 i5 i6 i7 i8 M = some (r, M')) : Fq CSY [(0, 9)] M M' := by
  unfold b12_mayBeRow_29 at hf
  obtain ⟨r3, M4, g1, hf⟩ := bnd_s hf
  refine Fq.trans (Fq.mono (fq12_has  g1) (by decide)) ?_
  by_cases c2 : r3 = 0
  · replace hf := ite_t c2 hf
    exact fqb12_mayBeRow_86  hrc hf
  · replace hf := ite_f c2 hf
    by_cases c3 : i4 = (-1 : Int32)
    · replace hf := ite_t c3 hf
      obtain ⟨r11, M12, g4, hf⟩ := bnd_s hf
      refine Fq.trans (Fq.mono (fq12_squareWay  g4) (by decide)) ?_
      exact fqb12_mayBeRow_61  hrc hf
    · replace hf := ite_f c3 hf
      obtain ⟨r8, M9, g5, hf⟩ := bnd_s hf
      refine Fq.trans (Fq.mono (fq12_doorWay  g5) (by decide)) ?_
      exact fqb12_mayBeRow_61  hrc hf
theorem fqb12_mayBeRow_17   {rc : Nat → List Int32 → List Int64 → Mem → Option (Unit × Mem)} {n : Nat} {r : Unit} {M' : Mem} (hrc : ∀ pc li lj M, rc pc li lj M = some (r, M') → Fq CSY [(0, 9)] M M') {i3 : Int32} {i4 : Int32} {i5 : Int32} {i6 : Int32} {i7 : Int32} {M : Mem} (hf : b12_mayBeRow_17  rc n i3 i4 i5 i6 i7 M = some (r, M')) : Fq CSY [(0, 9)] M M' := by
  unfold b12_mayBeRow_17 at hf
  by_cases c1 : (M.1 0 45) ≤ i7
  · replace hf := ite_t c1 hf
    exact Fq.of hf
  · replace hf := ite_f c1 hf
    exact fqb12_mayBeRow_29  hrc hf
theorem fqb12_mayBeRow_0   {rc : Nat → List Int32 → List Int64 → Mem → Option (Unit × Mem)} {n : Nat} {r : Unit} {M' : Mem} (hrc : ∀ pc li lj M, rc pc li lj M = some (r, M') → Fq CSY [(0, 9)] M M') {a1 : Int32} {a2 : Int32} {M : Mem} (hf : b12_mayBeRow_0  rc n a1 a2 M = some (r, M')) : Fq CSY [(0, 9)] M M' := by
  unfold b12_mayBeRow_0 at hf
  obtain ⟨v1, ev1, hf⟩ := lt_x hf
  exact fqb12_mayBeRow_17  hrc hf
theorem fql12_mayBeRow   {r : Unit} {M' : Mem} (n : Nat) : ∀ pc li lj M, r12_mayBeRow  n pc li lj M = some (r, M') → Fq CSY [(0, 9)] M M' := by
  induction n with
  | zero => intro pc li lj M hf; cases hf
  | succ n ih =>
    intro pc li lj M hf
    rw [r12_mayBeRow] at hf
    dsimp only at hf
    by_cases c17 : pc = 17
    · replace hf := ite_t c17 hf
      split at hf
      · exact fqb12_mayBeRow_17  ih hf
      · cases hf
    replace hf := ite_f c17 hf
    by_cases c29 : pc = 29
    · replace hf := ite_t c29 hf
      split at hf
      · exact fqb12_mayBeRow_29  ih hf
      · cases hf
    replace hf := ite_f c29 hf
    cases hf
theorem fq12_mayBeRow   {n : Nat} {a1 : Int32} {a2 : Int32} {M M' : Mem} {r : Unit} (hf : f12_mayBeRow n  a1 a2 M = some (r, M')) : Fq CSY [(0, 9)] M M' := fqb12_mayBeRow_0  (fql12_mayBeRow  n) hf
theorem fqb12_laysCalls_113   {rc : Nat → List Int32 → List Int64 → Mem → Option (Unit × Mem)} {n : Nat} {r : Unit} {M' : Mem} (hrc : ∀ pc li lj M, rc pc li lj M = some (r, M') → Fq CSY [(0, 9), (0, 45), (0, 46)] M M') {i1 : Int32} {i2 : Int32} {M : Mem} (hf : b12_laysCalls_113  rc n i1 i2 M = some (r, M')) : Fq CSY [(0, 9), (0, 45), (0, 46)] M M' := by
  unfold b12_laysCalls_113 at hf
  obtain ⟨v33, ev33, hf⟩ := lt_x hf
  exact hrc _ _ _ _ hf
theorem fqb12_laysCalls_91   {rc : Nat → List Int32 → List Int64 → Mem → Option (Unit × Mem)} {n : Nat} {r : Unit} {M' : Mem} (hrc : ∀ pc li lj M, rc pc li lj M = some (r, M') → Fq CSY [(0, 9), (0, 45), (0, 46)] M M') {i1 : Int32} {i2 : Int32} {i3 : Int32} {s0 : Int32} {M : Mem} (hf : b12_laysCalls_91  rc n i1 i2 i3 s0 M = some (r, M')) : Fq CSY [(0, 9), (0, 45), (0, 46)] M M' := by
  unfold b12_laysCalls_91 at hf
  obtain ⟨r25, M26, g1, hf⟩ := bnd_s hf
  refine Fq.trans (Fq.mono (fq12_bits  g1) (by decide)) ?_
  obtain ⟨M28, eM28, hf⟩ := lt_x hf
  refine Fq_wI eM28 (by decide) ?_
  obtain ⟨M29, eM29, hf⟩ := lt_x hf
  refine Fq_wI eM29 (by decide) ?_
  obtain ⟨r30, M31, g2, hf⟩ := bnd_s hf
  refine Fq.trans (Fq.mono (fq12_mayBeRow  g2) (by decide)) ?_
  exact fqb12_laysCalls_113  hrc hf
theorem fqb12_laysCalls_86   {rc : Nat → List Int32 → List Int64 → Mem → Option (Unit × Mem)} {n : Nat} {r : Unit} {M' : Mem} (hrc : ∀ pc li lj M, rc pc li lj M = some (r, M') → Fq CSY [(0, 9), (0, 45), (0, 46)] M M') {i1 : Int32} {i2 : Int32} {i3 : Int32} {M : Mem} (hf : b12_laysCalls_86  rc n i1 i2 i3 M = some (r, M')) : Fq CSY [(0, 9), (0, 45), (0, 46)] M M' := by
  unfold b12_laysCalls_86 at hf
  exact fqb12_laysCalls_91  hrc hf
theorem fqb12_laysCalls_67   {rc : Nat → List Int32 → List Int64 → Mem → Option (Unit × Mem)} {n : Nat} {r : Unit} {M' : Mem} (hrc : ∀ pc li lj M, rc pc li lj M = some (r, M') → Fq CSY [(0, 9), (0, 45), (0, 46)] M M') {i1 : Int32} {i2 : Int32} {i3 : Int32} {M : Mem} (hf : b12_laysCalls_67  rc n i1 i2 i3 M = some (r, M')) : Fq CSY [(0, 9), (0, 45), (0, 46)] M M' := by
  unfold b12_laysCalls_67 at hf
  obtain ⟨r20, M21, g1, hf⟩ := bnd_s hf
  refine Fq.trans (Fq.mono (fq12_bits  g1) (by decide)) ?_
  by_cases c2 : (M21.1 0 45) < r20
  · replace hf := ite_t c2 hf
    exact fqb12_laysCalls_86  hrc hf
  · replace hf := ite_f c2 hf
    by_cases c3 : (M21.1 0 46) ≤ i3
    · replace hf := ite_t c3 hf
      exact fqb12_laysCalls_91  hrc hf
    · replace hf := ite_f c3 hf
      exact fqb12_laysCalls_86  hrc hf
theorem fqb12_laysCalls_16   {rc : Nat → List Int32 → List Int64 → Mem → Option (Unit × Mem)} {n : Nat} {r : Unit} {M' : Mem} (hrc : ∀ pc li lj M, rc pc li lj M = some (r, M') → Fq CSY [(0, 9), (0, 45), (0, 46)] M M') {i1 : Int32} {i2 : Int32} {M : Mem} (hf : b12_laysCalls_16  rc n i1 i2 M = some (r, M')) : Fq CSY [(0, 9), (0, 45), (0, 46)] M M' := by
  unfold b12_laysCalls_16 at hf
  by_cases c1 : (512 : Int32) ≤ i2
  · replace hf := ite_t c1 hf
    exact Fq.of hf
  · replace hf := ite_f c1 hf
    obtain ⟨r7, M8, g2, hf⟩ := bnd_s hf
    refine Fq.trans (Fq.mono (fq12_roundBy  g2) (by decide)) ?_
    by_cases c3 : i1 < r7
    · replace hf := ite_t c3 hf
      exact fqb12_laysCalls_113  hrc hf
    · replace hf := ite_f c3 hf
      obtain ⟨r11, M12, g4, hf⟩ := bnd_s hf
      refine Fq.trans (Fq.mono (fq12_bits  g4) (by decide)) ?_
      by_cases c5 : r11 < (M12.1 0 45)
      · replace hf := ite_t c5 hf
        exact fqb12_laysCalls_113  hrc hf
      · replace hf := ite_f c5 hf
        obtain ⟨r15, M16, g6, hf⟩ := bnd_s hf
        refine Fq.trans (Fq.mono (fq12_bits  g6) (by decide)) ?_
        by_cases c7 : r15 = (M16.1 0 45)
        · replace hf := ite_t c7 hf
          by_cases c8 : r7 ≤ (M16.1 0 46)
          · replace hf := ite_t c8 hf
            exact fqb12_laysCalls_67  hrc hf
          · replace hf := ite_f c8 hf
            exact fqb12_laysCalls_113  hrc hf
        · replace hf := ite_f c7 hf
          exact fqb12_laysCalls_67  hrc hf
theorem fqb12_laysCalls_0   {rc : Nat → List Int32 → List Int64 → Mem → Option (Unit × Mem)} {n : Nat} {r : Unit} {M' : Mem} (hrc : ∀ pc li lj M, rc pc li lj M = some (r, M') → Fq CSY [(0, 9), (0, 45), (0, 46)] M M') {a1 : Int32} {M : Mem} (hf : b12_laysCalls_0  rc n a1 M = some (r, M')) : Fq CSY [(0, 9), (0, 45), (0, 46)] M M' := by
  unfold b12_laysCalls_0 at hf
  obtain ⟨r1, M2, g1, hf⟩ := bnd_s hf
  refine Fq.trans (Fq.mono (fq12_laysBack  g1) (by decide)) ?_
  obtain ⟨M4, eM4, hf⟩ := lt_x hf
  refine Fq_wI eM4 (by decide) ?_
  obtain ⟨M5, eM5, hf⟩ := lt_x hf
  refine Fq_wI eM5 (by decide) ?_
  exact fqb12_laysCalls_16  hrc hf
theorem fql12_laysCalls   {r : Unit} {M' : Mem} (n : Nat) : ∀ pc li lj M, r12_laysCalls  n pc li lj M = some (r, M') → Fq CSY [(0, 9), (0, 45), (0, 46)] M M' := by
  induction n with
  | zero => intro pc li lj M hf; cases hf
  | succ n ih =>
    intro pc li lj M hf
    rw [r12_laysCalls] at hf
    dsimp only at hf
    by_cases c16 : pc = 16
    · replace hf := ite_t c16 hf
      split at hf
      · exact fqb12_laysCalls_16  ih hf
      · cases hf
    replace hf := ite_f c16 hf
    cases hf
theorem fq12_laysCalls   {n : Nat} {a1 : Int32} {M M' : Mem} {r : Unit} (hf : f12_laysCalls n  a1 M = some (r, M')) : Fq CSY [(0, 9), (0, 45), (0, 46)] M M' := fqb12_laysCalls_0  (fql12_laysCalls  n) hf
theorem fqb12_calls_31   {rc : Nat → List Int32 → List Int64 → Mem → Option (Int32 × Mem)} {n : Nat} {r : Int32} {M' : Mem} (hrc : ∀ pc li lj M, rc pc li lj M = some (r, M') → Fq CSY [(0, 9), (0, 45), (0, 46)] M M')  {M : Mem} (hf : b12_calls_31  rc n  M = some (r, M')) : Fq CSY [(0, 9), (0, 45), (0, 46)] M M' := by
  unfold b12_calls_31 at hf
  exact Fq.of hf
theorem fqb12_calls_33   {rc : Nat → List Int32 → List Int64 → Mem → Option (Int32 × Mem)} {n : Nat} {r : Int32} {M' : Mem} (hrc : ∀ pc li lj M, rc pc li lj M = some (r, M') → Fq CSY [(0, 9), (0, 45), (0, 46)] M M') {i1 : Int32} {i2 : Int32} {M : Mem} (hf : b12_calls_33  rc n i1 i2 M = some (r, M')) : Fq CSY [(0, 9), (0, 45), (0, 46)] M M' := by
  unfold b12_calls_33 at hf
  obtain ⟨r13, M14, g1, hf⟩ := bnd_s hf
  refine Fq.trans (Fq.mono (fq12_laysCalls  g1) (by decide)) ?_
  by_cases c2 : (100 : Int32) ≤ i2
  · replace hf := ite_t c2 hf
    by_cases c3 : i2 = (100 : Int32)
    · replace hf := ite_t c3 hf
      exact Fq.of hf
    · replace hf := ite_f c3 hf
      exact Fq.of hf
  · replace hf := ite_f c2 hf
    by_cases c4 : (M14.1 0 45) ≤ i2
    · replace hf := ite_t c4 hf
      exact Fq.of hf
    · replace hf := ite_f c4 hf
      replace hf := chk_2 hf
      exact Fq.of hf
theorem fqb12_calls_0   {rc : Nat → List Int32 → List Int64 → Mem → Option (Int32 × Mem)} {n : Nat} {r : Int32} {M' : Mem} (hrc : ∀ pc li lj M, rc pc li lj M = some (r, M') → Fq CSY [(0, 9), (0, 45), (0, 46)] M M') {a1 : Int32} {a2 : Int32} {M : Mem} (hf : b12_calls_0  rc n a1 a2 M = some (r, M')) : Fq CSY [(0, 9), (0, 45), (0, 46)] M M' := by
  unfold b12_calls_0 at hf
  obtain ⟨r1, M2, g1, hf⟩ := bnd_s hf
  refine Fq.trans (Fq.mono (fq12_in  g1) (by decide)) ?_
  by_cases c2 : r1 = 0
  · replace hf := ite_t c2 hf
    exact fqb12_calls_31  hrc hf
  · replace hf := ite_f c2 hf
    obtain ⟨r5, M6, g3, hf⟩ := bnd_s hf
    refine Fq.trans (Fq.mono (fq12_in  g3) (by decide)) ?_
    by_cases c4 : r5 = 0
    · replace hf := ite_t c4 hf
      obtain ⟨r9, M10, g5, hf⟩ := bnd_s hf
      refine Fq.trans (Fq.mono (fq12_in  g5) (by decide)) ?_
      by_cases c6 : r9 = 0
      · replace hf := ite_t c6 hf
        exact fqb12_calls_31  hrc hf
      · replace hf := ite_f c6 hf
        exact fqb12_calls_33  hrc hf
    · replace hf := ite_f c4 hf
      exact fqb12_calls_33  hrc hf
theorem fq12_calls   {n : Nat} {a1 : Int32} {a2 : Int32} {M M' : Mem} {r : Int32} (hf : f12_calls n  a1 a2 M = some (r, M')) : Fq CSY [(0, 9), (0, 45), (0, 46)] M M' := fqb12_calls_0  (fun _ _ _ _ h => by cases h) hf
theorem fqb12_laysCosts_162   {rc : Nat → List Int32 → List Int64 → Mem → Option (Unit × Mem)} {n : Nat} {r : Unit} {M' : Mem} (hrc : ∀ pc li lj M, rc pc li lj M = some (r, M') → Fq CSY [] M M') {i1 : Int32} {i2 : Int32} {i3 : Int32} {i4 : Int32} {i5 : Int32} {M : Mem} (hf : b12_laysCosts_162  rc n i1 i2 i3 i4 i5 M = some (r, M')) : Fq CSY [] M M' := by
  unfold b12_laysCosts_162 at hf
  obtain ⟨v33, ev33, hf⟩ := lt_x hf
  exact hrc _ _ _ _ hf
theorem fqb12_laysCosts_133   {rc : Nat → List Int32 → List Int64 → Mem → Option (Unit × Mem)} {n : Nat} {r : Unit} {M' : Mem} (hrc : ∀ pc li lj M, rc pc li lj M = some (r, M') → Fq CSY [] M M') {i1 : Int32} {i2 : Int32} {i3 : Int32} {i4 : Int32} {i5 : Int32} {i6 : Int32} {s0 : Int32} {s1 : Int32} {M : Mem} (hf : b12_laysCosts_133  rc n i1 i2 i3 i4 i5 i6 s0 s1 M = some (r, M')) : Fq CSY [] M M' := by
  unfold b12_laysCosts_133 at hf
  obtain ⟨v28, ev28, hf⟩ := lt_x hf
  have h1 := chk_1 hf
  replace hf := chk_2 hf
  by_cases c2 : v28 < (M.1 26 i6.toNatClampNeg)
  · replace hf := ite_t c2 hf
    have h3 := chk_1 hf
    replace hf := chk_2 hf
    obtain ⟨M32, eM32, hf⟩ := lt_x hf
    refine Fq_wIn eM32 (by decide) ?_
    exact fqb12_laysCosts_162  hrc hf
  · replace hf := ite_f c2 hf
    exact fqb12_laysCosts_162  hrc hf
theorem fqb12_laysCosts_110   {rc : Nat → List Int32 → List Int64 → Mem → Option (Unit × Mem)} {n : Nat} {r : Unit} {M' : Mem} (hrc : ∀ pc li lj M, rc pc li lj M = some (r, M') → Fq CSY [] M M') {i1 : Int32} {i2 : Int32} {i3 : Int32} {i4 : Int32} {i5 : Int32} {i6 : Int32} {M : Mem} (hf : b12_laysCosts_110  rc n i1 i2 i3 i4 i5 i6 M = some (r, M')) : Fq CSY [] M M' := by
  unfold b12_laysCosts_110 at hf
  have h1 := chk_1 hf
  replace hf := chk_2 hf
  obtain ⟨r24, M25, g2, hf⟩ := bnd_s hf
  refine Fq.trans (Fq.mono (fq12_isOpen  g2) (by decide)) ?_
  by_cases c3 : r24 = 0
  · replace hf := ite_t c3 hf
    exact fqb12_laysCosts_133  hrc hf
  · replace hf := ite_f c3 hf
    exact fqb12_laysCosts_133  hrc hf
theorem fqb12_laysCosts_54   {rc : Nat → List Int32 → List Int64 → Mem → Option (Unit × Mem)} {n : Nat} {r : Unit} {M' : Mem} (hrc : ∀ pc li lj M, rc pc li lj M = some (r, M') → Fq CSY [] M M') {i1 : Int32} {i2 : Int32} {i3 : Int32} {i4 : Int32} {i5 : Int32} {M : Mem} (hf : b12_laysCosts_54  rc n i1 i2 i3 i4 i5 M = some (r, M')) : Fq CSY [] M M' := by
  unfold b12_laysCosts_54 at hf
  by_cases c1 : (4 : Int32) ≤ i5
  · replace hf := ite_t c1 hf
    obtain ⟨v10, ev10, hf⟩ := lt_x hf
    exact hrc _ _ _ _ hf
  · replace hf := ite_f c1 hf
    obtain ⟨r11, M12, g2, hf⟩ := bnd_s hf
    refine Fq.trans (Fq.mono (fq12_beside  g2) (by decide)) ?_
    have h3 := chk_1 hf
    replace hf := chk_2 hf
    by_cases c4 : (M12.1 26 i4.toNatClampNeg) = (1000000 : Int32)
    · replace hf := ite_t c4 hf
      exact fqb12_laysCosts_162  hrc hf
    · replace hf := ite_f c4 hf
      by_cases c5 : r11 = (-1 : Int32)
      · replace hf := ite_t c5 hf
        exact fqb12_laysCosts_162  hrc hf
      · replace hf := ite_f c5 hf
        obtain ⟨r17, M18, g6, hf⟩ := bnd_s hf
        refine Fq.trans (Fq.mono (fq12_isOpen  g6) (by decide)) ?_
        by_cases c7 : r17 = 0
        · replace hf := ite_t c7 hf
          have h8 := chk_1 hf
          replace hf := chk_2 hf
          by_cases c9 : (M18.1 4 r11.toNatClampNeg) = 0
          · replace hf := ite_t c9 hf
            exact fqb12_laysCosts_162  hrc hf
          · replace hf := ite_f c9 hf
            exact fqb12_laysCosts_110  hrc hf
        · replace hf := ite_f c7 hf
          exact fqb12_laysCosts_110  hrc hf
theorem fqb12_laysCosts_44   {rc : Nat → List Int32 → List Int64 → Mem → Option (Unit × Mem)} {n : Nat} {r : Unit} {M' : Mem} (hrc : ∀ pc li lj M, rc pc li lj M = some (r, M') → Fq CSY [] M M') {i1 : Int32} {i2 : Int32} {i3 : Int32} {i4 : Int32} {M : Mem} (hf : b12_laysCosts_44  rc n i1 i2 i3 i4 M = some (r, M')) : Fq CSY [] M M' := by
  unfold b12_laysCosts_44 at hf
  by_cases c1 : (96 : Int32) ≤ i4
  · replace hf := ite_t c1 hf
    exact hrc _ _ _ _ hf
  · replace hf := ite_f c1 hf
    exact fqb12_laysCosts_54  hrc hf
theorem fqb12_laysCosts_35   {rc : Nat → List Int32 → List Int64 → Mem → Option (Unit × Mem)} {n : Nat} {r : Unit} {M' : Mem} (hrc : ∀ pc li lj M, rc pc li lj M = some (r, M') → Fq CSY [] M M') {i1 : Int32} {i2 : Int32} {i3 : Int32} {M : Mem} (hf : b12_laysCosts_35  rc n i1 i2 i3 M = some (r, M')) : Fq CSY [] M M' := by
  unfold b12_laysCosts_35 at hf
  by_cases c1 : i3 = 0
  · replace hf := ite_t c1 hf
    exact Fq.of hf
  · replace hf := ite_f c1 hf
    exact fqb12_laysCosts_44  hrc hf
theorem fqb12_laysCosts_2   {rc : Nat → List Int32 → List Int64 → Mem → Option (Unit × Mem)} {n : Nat} {r : Unit} {M' : Mem} (hrc : ∀ pc li lj M, rc pc li lj M = some (r, M') → Fq CSY [] M M') {i1 : Int32} {i2 : Int32} {i3 : Int32} {M : Mem} (hf : b12_laysCosts_2  rc n i1 i2 i3 M = some (r, M')) : Fq CSY [] M M' := by
  unfold b12_laysCosts_2 at hf
  by_cases c1 : (96 : Int32) ≤ i3
  · replace hf := ite_t c1 hf
    have h2 := chk_1 hf
    replace hf := chk_2 hf
    obtain ⟨M3, eM3, hf⟩ := lt_x hf
    refine Fq_wIn eM3 (by decide) ?_
    exact fqb12_laysCosts_35  hrc hf
  · replace hf := ite_f c1 hf
    have h3 := chk_1 hf
    replace hf := chk_2 hf
    obtain ⟨M5, eM5, hf⟩ := lt_x hf
    refine Fq_wIn eM5 (by decide) ?_
    obtain ⟨v6, ev6, hf⟩ := lt_x hf
    exact hrc _ _ _ _ hf
theorem fqb12_laysCosts_0   {rc : Nat → List Int32 → List Int64 → Mem → Option (Unit × Mem)} {n : Nat} {r : Unit} {M' : Mem} (hrc : ∀ pc li lj M, rc pc li lj M = some (r, M') → Fq CSY [] M M') {a1 : Int32} {a2 : Int32} {M : Mem} (hf : b12_laysCosts_0  rc n a1 a2 M = some (r, M')) : Fq CSY [] M M' := by
  unfold b12_laysCosts_0 at hf
  exact fqb12_laysCosts_2  hrc hf
theorem fql12_laysCosts   {r : Unit} {M' : Mem} (n : Nat) : ∀ pc li lj M, r12_laysCosts  n pc li lj M = some (r, M') → Fq CSY [] M M' := by
  induction n with
  | zero => intro pc li lj M hf; cases hf
  | succ n ih =>
    intro pc li lj M hf
    rw [r12_laysCosts] at hf
    dsimp only at hf
    by_cases c2 : pc = 2
    · replace hf := ite_t c2 hf
      split at hf
      · exact fqb12_laysCosts_2  ih hf
      · cases hf
    replace hf := ite_f c2 hf
    by_cases c35 : pc = 35
    · replace hf := ite_t c35 hf
      split at hf
      · exact fqb12_laysCosts_35  ih hf
      · cases hf
    replace hf := ite_f c35 hf
    by_cases c44 : pc = 44
    · replace hf := ite_t c44 hf
      split at hf
      · exact fqb12_laysCosts_44  ih hf
      · cases hf
    replace hf := ite_f c44 hf
    by_cases c54 : pc = 54
    · replace hf := ite_t c54 hf
      split at hf
      · exact fqb12_laysCosts_54  ih hf
      · cases hf
    replace hf := ite_f c54 hf
    cases hf
theorem fq12_laysCosts   {n : Nat} {a1 : Int32} {a2 : Int32} {M M' : Mem} {r : Unit} (hf : f12_laysCosts n  a1 a2 M = some (r, M')) : Fq CSY [] M M' := fqb12_laysCosts_0  (fql12_laysCosts  n) hf
theorem fqb12_old_0   {rc : Nat → List Int32 → List Int64 → Mem → Option (Int32 × Mem)} {n : Nat} {r : Int32} {M' : Mem} (hrc : ∀ pc li lj M, rc pc li lj M = some (r, M') → Fq CSY [] M M') {a1 : Int32} {a2 : Int32} {M : Mem} (hf : b12_old_0  rc n a1 a2 M = some (r, M')) : Fq CSY [] M M' := by
  unfold b12_old_0 at hf
  obtain ⟨r1, M2, g1, hf⟩ := bnd_s hf
  refine Fq.trans (Fq.mono (fq12_isPlace  g1) (by decide)) ?_
  by_cases c2 : r1 = 0
  · replace hf := ite_t c2 hf
    exact Fq.of hf
  · replace hf := ite_f c2 hf
    obtain ⟨r5, M6, g3, hf⟩ := bnd_s hf
    refine Fq.trans (Fq.mono (fq12_laysCosts  g3) (by decide)) ?_
    have h4 := chk_1 hf
    replace hf := chk_2 hf
    obtain ⟨v9, ev9, hf⟩ := lt_x hf
    by_cases c5 : v9 = (1000000 : Int32)
    · replace hf := ite_t c5 hf
      exact Fq.of hf
    · replace hf := ite_f c5 hf
      exact Fq.of hf
theorem fq12_old   {n : Nat} {a1 : Int32} {a2 : Int32} {M M' : Mem} {r : Int32} (hf : f12_old n  a1 a2 M = some (r, M')) : Fq CSY [] M M' := fqb12_old_0  (fun _ _ _ _ h => by cases h) hf
theorem fqb12_barred_17   {rc : Nat → List Int32 → List Int64 → Mem → Option (Int32 × Mem)} {n : Nat} {r : Int32} {M' : Mem} (hrc : ∀ pc li lj M, rc pc li lj M = some (r, M') → Fq CSY [] M M')  {M : Mem} (hf : b12_barred_17  rc n  M = some (r, M')) : Fq CSY [] M M' := by
  unfold b12_barred_17 at hf
  exact Fq.of hf
theorem fqb12_barred_30   {rc : Nat → List Int32 → List Int64 → Mem → Option (Int32 × Mem)} {n : Nat} {r : Int32} {M' : Mem} (hrc : ∀ pc li lj M, rc pc li lj M = some (r, M') → Fq CSY [] M M') {i1 : Int32} {i2 : Int32} {s1 : Int32} {M : Mem} (hf : b12_barred_30  rc n i1 i2 s1 M = some (r, M')) : Fq CSY [] M M' := by
  unfold b12_barred_30 at hf
  obtain ⟨r10, M11, g1, hf⟩ := bnd_s hf
  refine Fq.trans (Fq.mono (fq12_laysCosts  g1) (by decide)) ?_
  have h2 := chk_1 hf
  replace hf := chk_2 hf
  obtain ⟨v14, ev14, hf⟩ := lt_x hf
  by_cases c3 : v14 = (1000000 : Int32)
  · replace hf := ite_t c3 hf
    exact Fq.of hf
  · replace hf := ite_f c3 hf
    exact Fq.of hf
theorem fqb12_barred_0   {rc : Nat → List Int32 → List Int64 → Mem → Option (Int32 × Mem)} {n : Nat} {r : Int32} {M' : Mem} (hrc : ∀ pc li lj M, rc pc li lj M = some (r, M') → Fq CSY [] M M') {a1 : Int32} {a2 : Int32} {a3 : Int32} {M : Mem} (hf : b12_barred_0  rc n a1 a2 a3 M = some (r, M')) : Fq CSY [] M M' := by
  unfold b12_barred_0 at hf
  obtain ⟨r1, M2, g1, hf⟩ := bnd_s hf
  refine Fq.trans (Fq.mono (fq12_isPlace  g1) (by decide)) ?_
  by_cases c2 : r1 = 0
  · replace hf := ite_t c2 hf
    exact fqb12_barred_17  hrc hf
  · replace hf := ite_f c2 hf
    obtain ⟨r5, M6, g3, hf⟩ := bnd_s hf
    refine Fq.trans (Fq.mono (fq12_in  g3) (by decide)) ?_
    by_cases c4 : r5 = 0
    · replace hf := ite_t c4 hf
      exact fqb12_barred_17  hrc hf
    · replace hf := ite_f c4 hf
      by_cases c5 : a3 = 0
      · replace hf := ite_t c5 hf
        exact fqb12_barred_30  hrc hf
      · replace hf := ite_f c5 hf
        exact fqb12_barred_30  hrc hf
theorem fq12_barred   {n : Nat} {a1 : Int32} {a2 : Int32} {a3 : Int32} {M M' : Mem} {r : Int32} (hf : f12_barred n  a1 a2 a3 M = some (r, M')) : Fq CSY [] M M' := fqb12_barred_0  (fun _ _ _ _ h => by cases h) hf
theorem fqb12_fourOrStay_0   {rc : Nat → List Int32 → List Int64 → Mem → Option (Int32 × Mem)} {n : Nat} {r : Int32} {M' : Mem} (hrc : ∀ pc li lj M, rc pc li lj M = some (r, M') → Fq CSY [] M M') {a1 : Int32} {a2 : Int32} {M : Mem} (hf : b12_fourOrStay_0  rc n a1 a2 M = some (r, M')) : Fq CSY [] M M' := by
  unfold b12_fourOrStay_0 at hf
  by_cases c1 : a2 = (4 : Int32)
  · replace hf := ite_t c1 hf
    exact Fq.of hf
  · replace hf := ite_f c1 hf
    obtain ⟨r2, M3, g2, hf⟩ := bnd_s hf
    refine Fq.trans (Fq.mono (fq12_beside  g2) (by decide)) ?_
    exact Fq.of hf
theorem fq12_fourOrStay   {n : Nat} {a1 : Int32} {a2 : Int32} {M M' : Mem} {r : Int32} (hf : f12_fourOrStay n  a1 a2 M = some (r, M')) : Fq CSY [] M M' := fqb12_fourOrStay_0  (fun _ _ _ _ h => by cases h) hf
theorem fqb12_isSure_55   {rc : Nat → List Int32 → List Int64 → Mem → Option (Int32 × Mem)} {n : Nat} {r : Int32} {M' : Mem} (hrc : ∀ pc li lj M, rc pc li lj M = some (r, M') → Fq CSY [] M M') {i1 : Int32} {i2 : Int32} {i3 : Int32} {M : Mem} (hf : b12_isSure_55  rc n i1 i2 i3 M = some (r, M')) : Fq CSY [] M M' := by
  unfold b12_isSure_55 at hf
  obtain ⟨v13, ev13, hf⟩ := lt_x hf
  exact hrc _ _ _ _ hf
theorem fqb12_isSure_9   {rc : Nat → List Int32 → List Int64 → Mem → Option (Int32 × Mem)} {n : Nat} {r : Int32} {M' : Mem} (hrc : ∀ pc li lj M, rc pc li lj M = some (r, M') → Fq CSY [] M M') {i1 : Int32} {i2 : Int32} {i3 : Int32} {M : Mem} (hf : b12_isSure_9  rc n i1 i2 i3 M = some (r, M')) : Fq CSY [] M M' := by
  unfold b12_isSure_9 at hf
  by_cases c1 : (5 : Int32) ≤ i3
  · replace hf := ite_t c1 hf
    exact Fq.of hf
  · replace hf := ite_f c1 hf
    obtain ⟨r3, M4, g2, hf⟩ := bnd_s hf
    refine Fq.trans (Fq.mono (fq12_fourOrStay  g2) (by decide)) ?_
    by_cases c3 : r3 = (-1 : Int32)
    · replace hf := ite_t c3 hf
      exact fqb12_isSure_55  hrc hf
    · replace hf := ite_f c3 hf
      obtain ⟨r7, M8, g4, hf⟩ := bnd_s hf
      refine Fq.trans (Fq.mono (fq12_isOpen  g4) (by decide)) ?_
      by_cases c5 : r7 = 0
      · replace hf := ite_t c5 hf
        exact fqb12_isSure_55  hrc hf
      · replace hf := ite_f c5 hf
        replace hf := chk_2 hf
        by_cases c6 : (M8.1 27 (((96 : Int32) * i1) + r3).toNatClampNeg) = (-1 : Int32)
        · replace hf := ite_t c6 hf
          exact Fq.of hf
        · replace hf := ite_f c6 hf
          exact fqb12_isSure_55  hrc hf
theorem fqb12_isSure_0   {rc : Nat → List Int32 → List Int64 → Mem → Option (Int32 × Mem)} {n : Nat} {r : Int32} {M' : Mem} (hrc : ∀ pc li lj M, rc pc li lj M = some (r, M') → Fq CSY [] M M') {a1 : Int32} {a2 : Int32} {M : Mem} (hf : b12_isSure_0  rc n a1 a2 M = some (r, M')) : Fq CSY [] M M' := by
  unfold b12_isSure_0 at hf
  by_cases c1 : a1 = a2
  · replace hf := ite_t c1 hf
    exact Fq.of hf
  · replace hf := ite_f c1 hf
    exact fqb12_isSure_9  hrc hf
theorem fql12_isSure   {r : Int32} {M' : Mem} (n : Nat) : ∀ pc li lj M, r12_isSure  n pc li lj M = some (r, M') → Fq CSY [] M M' := by
  induction n with
  | zero => intro pc li lj M hf; cases hf
  | succ n ih =>
    intro pc li lj M hf
    rw [r12_isSure] at hf
    dsimp only at hf
    by_cases c9 : pc = 9
    · replace hf := ite_t c9 hf
      split at hf
      · exact fqb12_isSure_9  ih hf
      · cases hf
    replace hf := ite_f c9 hf
    cases hf
theorem fq12_isSure   {n : Nat} {a1 : Int32} {a2 : Int32} {M M' : Mem} {r : Int32} (hf : f12_isSure n  a1 a2 M = some (r, M')) : Fq CSY [] M M' := fqb12_isSure_0  (fql12_isSure  n) hf
theorem fqb12_winsBy_42   {rc : Nat → List Int32 → List Int64 → Mem → Option (Int32 × Mem)} {n : Nat} {r : Int32} {M' : Mem} (hrc : ∀ pc li lj M, rc pc li lj M = some (r, M') → Fq CSY [] M M') {i1 : Int32} {i2 : Int32} {i3 : Int32} {M : Mem} (hf : b12_winsBy_42  rc n i1 i2 i3 M = some (r, M')) : Fq CSY [] M M' := by
  unfold b12_winsBy_42 at hf
  obtain ⟨v14, ev14, hf⟩ := lt_x hf
  exact hrc _ _ _ _ hf
theorem fqb12_winsBy_2   {rc : Nat → List Int32 → List Int64 → Mem → Option (Int32 × Mem)} {n : Nat} {r : Int32} {M' : Mem} (hrc : ∀ pc li lj M, rc pc li lj M = some (r, M') → Fq CSY [] M M') {i1 : Int32} {i2 : Int32} {i3 : Int32} {M : Mem} (hf : b12_winsBy_2  rc n i1 i2 i3 M = some (r, M')) : Fq CSY [] M M' := by
  unfold b12_winsBy_2 at hf
  by_cases c1 : (5 : Int32) ≤ i3
  · replace hf := ite_t c1 hf
    exact Fq.of hf
  · replace hf := ite_f c1 hf
    obtain ⟨r2, M3, g2, hf⟩ := bnd_s hf
    refine Fq.trans (Fq.mono (fq12_fourOrStay  g2) (by decide)) ?_
    by_cases c3 : r2 = (-1 : Int32)
    · replace hf := ite_t c3 hf
      exact fqb12_winsBy_42  hrc hf
    · replace hf := ite_f c3 hf
      obtain ⟨r6, M7, g4, hf⟩ := bnd_s hf
      refine Fq.trans (Fq.mono (fq12_isOpen  g4) (by decide)) ?_
      by_cases c5 : r6 = 0
      · replace hf := ite_t c5 hf
        exact fqb12_winsBy_42  hrc hf
      · replace hf := ite_f c5 hf
        obtain ⟨r10, M11, g6, hf⟩ := bnd_s hf
        refine Fq.trans (Fq.mono (fq12_isSure  g6) (by decide)) ?_
        by_cases c7 : r10 = 0
        · replace hf := ite_t c7 hf
          exact fqb12_winsBy_42  hrc hf
        · replace hf := ite_f c7 hf
          exact Fq.of hf
theorem fqb12_winsBy_0   {rc : Nat → List Int32 → List Int64 → Mem → Option (Int32 × Mem)} {n : Nat} {r : Int32} {M' : Mem} (hrc : ∀ pc li lj M, rc pc li lj M = some (r, M') → Fq CSY [] M M') {a1 : Int32} {a2 : Int32} {M : Mem} (hf : b12_winsBy_0  rc n a1 a2 M = some (r, M')) : Fq CSY [] M M' := by
  unfold b12_winsBy_0 at hf
  exact fqb12_winsBy_2  hrc hf
theorem fql12_winsBy   {r : Int32} {M' : Mem} (n : Nat) : ∀ pc li lj M, r12_winsBy  n pc li lj M = some (r, M') → Fq CSY [] M M' := by
  induction n with
  | zero => intro pc li lj M hf; cases hf
  | succ n ih =>
    intro pc li lj M hf
    rw [r12_winsBy] at hf
    dsimp only at hf
    by_cases c2 : pc = 2
    · replace hf := ite_t c2 hf
      split at hf
      · exact fqb12_winsBy_2  ih hf
      · cases hf
    replace hf := ite_f c2 hf
    cases hf
theorem fq12_winsBy   {n : Nat} {a1 : Int32} {a2 : Int32} {M M' : Mem} {r : Int32} (hf : f12_winsBy n  a1 a2 M = some (r, M')) : Fq CSY [] M M' := fqb12_winsBy_0  (fql12_winsBy  n) hf
theorem fqb12_chase_36   {rc : Nat → List Int32 → List Int64 → Mem → Option (Int32 × Mem)} {n : Nat} {r : Int32} {M' : Mem} (hrc : ∀ pc li lj M, rc pc li lj M = some (r, M') → Fq CSY [] M M')  {M : Mem} (hf : b12_chase_36  rc n  M = some (r, M')) : Fq CSY [] M M' := by
  unfold b12_chase_36 at hf
  exact Fq.of hf
theorem fqb12_chase_222   {rc : Nat → List Int32 → List Int64 → Mem → Option (Int32 × Mem)} {n : Nat} {r : Int32} {M' : Mem} (hrc : ∀ pc li lj M, rc pc li lj M = some (r, M') → Fq CSY [] M M') {i1 : Int32} {i2 : Int32} {M : Mem} (hf : b12_chase_222  rc n i1 i2 M = some (r, M')) : Fq CSY [] M M' := by
  unfold b12_chase_222 at hf
  replace hf := chk_2 hf
  by_cases c1 : (M.1 27 (((96 : Int32) * i1) + i2).toNatClampNeg) = (-1 : Int32)
  · replace hf := ite_t c1 hf
    exact Fq.of hf
  · replace hf := ite_f c1 hf
    replace hf := chk_2 hf
    exact Fq.of hf
theorem fqb12_chase_210   {rc : Nat → List Int32 → List Int64 → Mem → Option (Int32 × Mem)} {n : Nat} {r : Int32} {M' : Mem} (hrc : ∀ pc li lj M, rc pc li lj M = some (r, M') → Fq CSY [] M M') {i1 : Int32} {i2 : Int32} {i3 : Int32} {i4 : Int32} {M : Mem} (hf : b12_chase_210  rc n i1 i2 i3 i4 M = some (r, M')) : Fq CSY [] M M' := by
  unfold b12_chase_210 at hf
  obtain ⟨v49, ev49, hf⟩ := lt_x hf
  exact hrc _ _ _ _ hf
theorem fqb12_chase_183   {rc : Nat → List Int32 → List Int64 → Mem → Option (Int32 × Mem)} {n : Nat} {r : Int32} {M' : Mem} (hrc : ∀ pc li lj M, rc pc li lj M = some (r, M') → Fq CSY [] M M') {i1 : Int32} {i2 : Int32} {i3 : Int32} {i4 : Int32} {M : Mem} (hf : b12_chase_183  rc n i1 i2 i3 i4 M = some (r, M')) : Fq CSY [] M M' := by
  unfold b12_chase_183 at hf
  by_cases c1 : (9216 : Int32) ≤ i4
  · replace hf := ite_t c1 hf
    obtain ⟨v44, ev44, hf⟩ := lt_x hf
    exact hrc _ _ _ _ hf
  · replace hf := ite_f c1 hf
    replace hf := chk_2 hf
    by_cases c2 : (M.1 28 i4.toNatClampNeg) = 0
    · replace hf := ite_t c2 hf
      exact fqb12_chase_210  hrc hf
    · replace hf := ite_f c2 hf
      replace hf := chk_2 hf
      obtain ⟨M48, eM48, hf⟩ := lt_x hf
      refine Fq_wIn eM48 (by decide) ?_
      exact fqb12_chase_210  hrc hf
theorem fqb12_chase_173   {rc : Nat → List Int32 → List Int64 → Mem → Option (Int32 × Mem)} {n : Nat} {r : Int32} {M' : Mem} (hrc : ∀ pc li lj M, rc pc li lj M = some (r, M') → Fq CSY [] M M') {i1 : Int32} {i2 : Int32} {i3 : Int32} {i4 : Int32} {s1 : Int32} {s2 : Int32} {M : Mem} (hf : b12_chase_173  rc n i1 i2 i3 i4 s1 s2 M = some (r, M')) : Fq CSY [] M M' := by
  unfold b12_chase_173 at hf
  replace hf := chk_2 hf
  obtain ⟨M41, eM41, hf⟩ := lt_x hf
  refine Fq_wIn eM41 (by decide) ?_
  obtain ⟨v42, ev42, hf⟩ := lt_x hf
  exact hrc _ _ _ _ hf
theorem fqb12_chase_172   {rc : Nat → List Int32 → List Int64 → Mem → Option (Int32 × Mem)} {n : Nat} {r : Int32} {M' : Mem} (hrc : ∀ pc li lj M, rc pc li lj M = some (r, M') → Fq CSY [] M M') {i1 : Int32} {i2 : Int32} {i3 : Int32} {i4 : Int32} {s1 : Int32} {M : Mem} (hf : b12_chase_172  rc n i1 i2 i3 i4 s1 M = some (r, M')) : Fq CSY [] M M' := by
  unfold b12_chase_172 at hf
  exact fqb12_chase_173  hrc hf
theorem fqb12_chase_102   {rc : Nat → List Int32 → List Int64 → Mem → Option (Int32 × Mem)} {n : Nat} {r : Int32} {M' : Mem} (hrc : ∀ pc li lj M, rc pc li lj M = some (r, M') → Fq CSY [] M M') {i1 : Int32} {i2 : Int32} {i3 : Int32} {i4 : Int32} {M : Mem} (hf : b12_chase_102  rc n i1 i2 i3 i4 M = some (r, M')) : Fq CSY [] M M' := by
  unfold b12_chase_102 at hf
  by_cases c1 : (9216 : Int32) ≤ i4
  · replace hf := ite_t c1 hf
    exact fqb12_chase_183  hrc hf
  · replace hf := ite_f c1 hf
    replace hf := chk_2 hf
    by_cases c2 : (M.1 27 i4.toNatClampNeg) = (-1 : Int32)
    · replace hf := ite_t c2 hf
      obtain ⟨r28, M29, g3, hf⟩ := bnd_s hf
      refine Fq.trans (Fq.mono (fq12_isOpen  g3) (by decide)) ?_
      by_cases c4 : r28 = 0
      · replace hf := ite_t c4 hf
        exact fqb12_chase_172  hrc hf
      · replace hf := ite_f c4 hf
        obtain ⟨r32, M33, g5, hf⟩ := bnd_s hf
        refine Fq.trans (Fq.mono (fq12_isOpen  g5) (by decide)) ?_
        by_cases c6 : r32 = 0
        · replace hf := ite_t c6 hf
          exact fqb12_chase_172  hrc hf
        · replace hf := ite_f c6 hf
          obtain ⟨r36, M37, g7, hf⟩ := bnd_s hf
          refine Fq.trans (Fq.mono (fq12_winsBy  g7) (by decide)) ?_
          by_cases c8 : r36 = 0
          · replace hf := ite_t c8 hf
            exact fqb12_chase_172  hrc hf
          · replace hf := ite_f c8 hf
            exact fqb12_chase_173  hrc hf
    · replace hf := ite_f c2 hf
      exact fqb12_chase_172  hrc hf
theorem fqb12_chase_78   {rc : Nat → List Int32 → List Int64 → Mem → Option (Int32 × Mem)} {n : Nat} {r : Int32} {M' : Mem} (hrc : ∀ pc li lj M, rc pc li lj M = some (r, M') → Fq CSY [] M M') {i1 : Int32} {i2 : Int32} {i3 : Int32} {M : Mem} (hf : b12_chase_78  rc n i1 i2 i3 M = some (r, M')) : Fq CSY [] M M' := by
  unfold b12_chase_78 at hf
  by_cases c1 : (60 : Int32) < i3
  · replace hf := ite_t c1 hf
    exact fqb12_chase_222  hrc hf
  · replace hf := ite_f c1 hf
    replace hf := chk_2 hf
    by_cases c2 : (M.1 27 (((96 : Int32) * i1) + i2).toNatClampNeg) = (-1 : Int32)
    · replace hf := ite_t c2 hf
      exact fqb12_chase_102  hrc hf
    · replace hf := ite_f c2 hf
      exact fqb12_chase_222  hrc hf
theorem fqb12_chase_68   {rc : Nat → List Int32 → List Int64 → Mem → Option (Int32 × Mem)} {n : Nat} {r : Int32} {M' : Mem} (hrc : ∀ pc li lj M, rc pc li lj M = some (r, M') → Fq CSY [] M M') {i1 : Int32} {i2 : Int32} {i3 : Int32} {s1 : Int32} {s2 : Int32} {M : Mem} (hf : b12_chase_68  rc n i1 i2 i3 s1 s2 M = some (r, M')) : Fq CSY [] M M' := by
  unfold b12_chase_68 at hf
  replace hf := chk_2 hf
  obtain ⟨M20, eM20, hf⟩ := lt_x hf
  refine Fq_wIn eM20 (by decide) ?_
  obtain ⟨v21, ev21, hf⟩ := lt_x hf
  exact hrc _ _ _ _ hf
theorem fqb12_chase_40   {rc : Nat → List Int32 → List Int64 → Mem → Option (Int32 × Mem)} {n : Nat} {r : Int32} {M' : Mem} (hrc : ∀ pc li lj M, rc pc li lj M = some (r, M') → Fq CSY [] M M') {i1 : Int32} {i2 : Int32} {i3 : Int32} {M : Mem} (hf : b12_chase_40  rc n i1 i2 i3 M = some (r, M')) : Fq CSY [] M M' := by
  unfold b12_chase_40 at hf
  by_cases c1 : (9216 : Int32) ≤ i3
  · replace hf := ite_t c1 hf
    exact fqb12_chase_78  hrc hf
  · replace hf := ite_f c1 hf
    by_cases c2 : (i3 / (96 : Int32)) = (i3 - i3 / (96 : Int32) * (96 : Int32))
    · replace hf := ite_t c2 hf
      exact fqb12_chase_68  hrc hf
    · replace hf := ite_f c2 hf
      exact fqb12_chase_68  hrc hf
theorem fqb12_chase_0   {rc : Nat → List Int32 → List Int64 → Mem → Option (Int32 × Mem)} {n : Nat} {r : Int32} {M' : Mem} (hrc : ∀ pc li lj M, rc pc li lj M = some (r, M') → Fq CSY [] M M') {a1 : Int32} {a2 : Int32} {M : Mem} (hf : b12_chase_0  rc n a1 a2 M = some (r, M')) : Fq CSY [] M M' := by
  unfold b12_chase_0 at hf
  obtain ⟨r1, M2, g1, hf⟩ := bnd_s hf
  refine Fq.trans (Fq.mono (fq12_in  g1) (by decide)) ?_
  by_cases c2 : r1 = 0
  · replace hf := ite_t c2 hf
    exact fqb12_chase_36  hrc hf
  · replace hf := ite_f c2 hf
    obtain ⟨r5, M6, g3, hf⟩ := bnd_s hf
    refine Fq.trans (Fq.mono (fq12_in  g3) (by decide)) ?_
    by_cases c4 : r5 = 0
    · replace hf := ite_t c4 hf
      exact fqb12_chase_36  hrc hf
    · replace hf := ite_f c4 hf
      obtain ⟨r9, M10, g5, hf⟩ := bnd_s hf
      refine Fq.trans (Fq.mono (fq12_isOpen  g5) (by decide)) ?_
      by_cases c6 : r9 = 0
      · replace hf := ite_t c6 hf
        exact fqb12_chase_36  hrc hf
      · replace hf := ite_f c6 hf
        obtain ⟨r13, M14, g7, hf⟩ := bnd_s hf
        refine Fq.trans (Fq.mono (fq12_isOpen  g7) (by decide)) ?_
        by_cases c8 : r13 = 0
        · replace hf := ite_t c8 hf
          exact fqb12_chase_36  hrc hf
        · replace hf := ite_f c8 hf
          exact fqb12_chase_40  hrc hf
theorem fql12_chase   {r : Int32} {M' : Mem} (n : Nat) : ∀ pc li lj M, r12_chase  n pc li lj M = some (r, M') → Fq CSY [] M M' := by
  induction n with
  | zero => intro pc li lj M hf; cases hf
  | succ n ih =>
    intro pc li lj M hf
    rw [r12_chase] at hf
    dsimp only at hf
    by_cases c40 : pc = 40
    · replace hf := ite_t c40 hf
      split at hf
      · exact fqb12_chase_40  ih hf
      · cases hf
    replace hf := ite_f c40 hf
    by_cases c78 : pc = 78
    · replace hf := ite_t c78 hf
      split at hf
      · exact fqb12_chase_78  ih hf
      · cases hf
    replace hf := ite_f c78 hf
    by_cases c102 : pc = 102
    · replace hf := ite_t c102 hf
      split at hf
      · exact fqb12_chase_102  ih hf
      · cases hf
    replace hf := ite_f c102 hf
    by_cases c183 : pc = 183
    · replace hf := ite_t c183 hf
      split at hf
      · exact fqb12_chase_183  ih hf
      · cases hf
    replace hf := ite_f c183 hf
    cases hf
theorem fq12_chase   {n : Nat} {a1 : Int32} {a2 : Int32} {M M' : Mem} {r : Int32} (hf : f12_chase n  a1 a2 M = some (r, M')) : Fq CSY [] M M' := fqb12_chase_0  (fql12_chase  n) hf
