theorem fqb12_lovers_26   {rc : Nat → List Int32 → List Int64 → Mem → Option (Int32 × Mem)} {n : Nat} {r : Int32} {M' : Mem} (hrc : ∀ pc li lj M, rc pc li lj M = some (r, M') → Fq CSY [(0, 9), (0, 11)] M M')  {M : Mem} (hf : b12_lovers_26  rc n  M = some (r, M')) : Fq CSY [(0, 9), (0, 11)] M M' := by
  unfold b12_lovers_26 at hf
  exact Fq.of hf
theorem fqb12_lovers_206   {rc : Nat → List Int32 → List Int64 → Mem → Option (Int32 × Mem)} {n : Nat} {r : Int32} {M' : Mem} (hrc : ∀ pc li lj M, rc pc li lj M = some (r, M') → Fq CSY [(0, 9), (0, 11)] M M') {i3 : Int32} {M : Mem} (hf : b12_lovers_206  rc n i3 M = some (r, M')) : Fq CSY [(0, 9), (0, 11)] M M' := by
  unfold b12_lovers_206 at hf
  exact Fq.of hf
theorem fqb12_lovers_190   {rc : Nat → List Int32 → List Int64 → Mem → Option (Int32 × Mem)} {n : Nat} {r : Int32} {M' : Mem} (hrc : ∀ pc li lj M, rc pc li lj M = some (r, M') → Fq CSY [(0, 9), (0, 11)] M M') {i1 : Int32} {i2 : Int32} {i3 : Int32} {i4 : Int32} {i5 : Int32} {M : Mem} (hf : b12_lovers_190  rc n i1 i2 i3 i4 i5 M = some (r, M')) : Fq CSY [(0, 9), (0, 11)] M M' := by
  unfold b12_lovers_190 at hf
  obtain ⟨v43, ev43, hf⟩ := lt_x hf
  exact hrc _ _ _ _ hf
theorem fqb12_lovers_135   {rc : Nat → List Int32 → List Int64 → Mem → Option (Int32 × Mem)} {n : Nat} {r : Int32} {M' : Mem} (hrc : ∀ pc li lj M, rc pc li lj M = some (r, M') → Fq CSY [(0, 9), (0, 11)] M M') {i1 : Int32} {i2 : Int32} {i3 : Int32} {i4 : Int32} {i5 : Int32} {i7 : Int32} {i8 : Int32} {i9 : Int32} {s0 : Int32} {s1 : Int32} {M : Mem} (hf : b12_lovers_135  rc n i1 i2 i3 i4 i5 i7 i8 i9 s0 s1 M = some (r, M')) : Fq CSY [(0, 9), (0, 11)] M M' := by
  unfold b12_lovers_135 at hf
  obtain ⟨v38, ev38, hf⟩ := lt_x hf
  obtain ⟨r39, M40, g1, hf⟩ := bnd_s hf
  refine Fq.trans (Fq.mono (fq12_max  g1) (by decide)) ?_
  obtain ⟨v42, ev42, hf⟩ := lt_x hf
  exact hrc _ _ _ _ hf
theorem fqb12_lovers_98   {rc : Nat → List Int32 → List Int64 → Mem → Option (Int32 × Mem)} {n : Nat} {r : Int32} {M' : Mem} (hrc : ∀ pc li lj M, rc pc li lj M = some (r, M') → Fq CSY [(0, 9), (0, 11)] M M') {i1 : Int32} {i2 : Int32} {i3 : Int32} {i4 : Int32} {i5 : Int32} {i6 : Int32} {i7 : Int32} {i8 : Int32} {M : Mem} (hf : b12_lovers_98  rc n i1 i2 i3 i4 i5 i6 i7 i8 M = some (r, M')) : Fq CSY [(0, 9), (0, 11)] M M' := by
  unfold b12_lovers_98 at hf
  by_cases c1 : i1 ≤ i8
  · replace hf := ite_t c1 hf
    by_cases c2 : (1000000 : Int32) ≤ i6
    · replace hf := ite_t c2 hf
      exact fqb12_lovers_190  hrc hf
    · replace hf := ite_f c2 hf
      by_cases c3 : (((100 : Int32) * i6) + i7) < i4
      · replace hf := ite_t c3 hf
        obtain ⟨v30, ev30, hf⟩ := lt_x hf
        exact fqb12_lovers_190  hrc hf
      · replace hf := ite_f c3 hf
        exact fqb12_lovers_190  hrc hf
  · replace hf := ite_f c1 hf
    obtain ⟨r31, M32, g4, hf⟩ := bnd_s hf
    refine Fq.trans (Fq.mono (fq12_octet  g4) (by decide)) ?_
    obtain ⟨r34, M35, g5, hf⟩ := bnd_s hf
    refine Fq.trans (Fq.mono (fq12_steps  g5) (by decide)) ?_
    by_cases c6 : r34 = (99 : Int32)
    · replace hf := ite_t c6 hf
      exact fqb12_lovers_135  hrc hf
    · replace hf := ite_f c6 hf
      exact fqb12_lovers_135  hrc hf
theorem fqb12_lovers_82   {rc : Nat → List Int32 → List Int64 → Mem → Option (Int32 × Mem)} {n : Nat} {r : Int32} {M' : Mem} (hrc : ∀ pc li lj M, rc pc li lj M = some (r, M') → Fq CSY [(0, 9), (0, 11)] M M') {i1 : Int32} {i2 : Int32} {i3 : Int32} {i4 : Int32} {i5 : Int32} {M : Mem} (hf : b12_lovers_82  rc n i1 i2 i3 i4 i5 M = some (r, M')) : Fq CSY [(0, 9), (0, 11)] M M' := by
  unfold b12_lovers_82 at hf
  by_cases c1 : (96 : Int32) ≤ i5
  · replace hf := ite_t c1 hf
    by_cases c2 : i2 = 0
    · replace hf := ite_t c2 hf
      exact fqb12_lovers_206  hrc hf
    · replace hf := ite_f c2 hf
      by_cases c3 : i3 = (-2 : Int32)
      · replace hf := ite_t c3 hf
        exact fqb12_lovers_206  hrc hf
      · replace hf := ite_f c3 hf
        exact Fq.of hf
  · replace hf := ite_f c1 hf
    exact fqb12_lovers_98  hrc hf
theorem fqb12_lovers_62   {rc : Nat → List Int32 → List Int64 → Mem → Option (Int32 × Mem)} {n : Nat} {r : Int32} {M' : Mem} (hrc : ∀ pc li lj M, rc pc li lj M = some (r, M') → Fq CSY [(0, 9), (0, 11)] M M')  {M : Mem} (hf : b12_lovers_62  rc n  M = some (r, M')) : Fq CSY [(0, 9), (0, 11)] M M' := by
  unfold b12_lovers_62 at hf
  exact Fq.of hf
theorem fqb12_lovers_35   {rc : Nat → List Int32 → List Int64 → Mem → Option (Int32 × Mem)} {n : Nat} {r : Int32} {M' : Mem} (hrc : ∀ pc li lj M, rc pc li lj M = some (r, M') → Fq CSY [(0, 9), (0, 11)] M M') {i1 : Int32} {i2 : Int32} {i3 : Int32} {M : Mem} (hf : b12_lovers_35  rc n i1 i2 i3 M = some (r, M')) : Fq CSY [(0, 9), (0, 11)] M M' := by
  unfold b12_lovers_35 at hf
  by_cases c1 : i1 ≤ i3
  · replace hf := ite_t c1 hf
    exact fqb12_lovers_82  hrc hf
  · replace hf := ite_f c1 hf
    obtain ⟨r12, M13, g2, hf⟩ := bnd_s hf
    refine Fq.trans (Fq.mono (fq12_octet  g2) (by decide)) ?_
    by_cases c3 : (96 : Int32) ≤ r12
    · replace hf := ite_t c3 hf
      exact fqb12_lovers_62  hrc hf
    · replace hf := ite_f c3 hf
      obtain ⟨r16, M17, g4, hf⟩ := bnd_s hf
      refine Fq.trans (Fq.mono (fq12_octet  g4) (by decide)) ?_
      obtain ⟨r19, M20, g5, hf⟩ := bnd_s hf
      refine Fq.trans (Fq.mono (fq12_isOpen  g5) (by decide)) ?_
      by_cases c6 : r19 = 0
      · replace hf := ite_t c6 hf
        exact fqb12_lovers_62  hrc hf
      · replace hf := ite_f c6 hf
        obtain ⟨v23, ev23, hf⟩ := lt_x hf
        exact hrc _ _ _ _ hf
theorem fqb12_lovers_0   {rc : Nat → List Int32 → List Int64 → Mem → Option (Int32 × Mem)} {n : Nat} {r : Int32} {M' : Mem} (hrc : ∀ pc li lj M, rc pc li lj M = some (r, M') → Fq CSY [(0, 9), (0, 11)] M M') {a1 : Int32} {a2 : Int32} {M : Mem} (hf : b12_lovers_0  rc n a1 a2 M = some (r, M')) : Fq CSY [(0, 9), (0, 11)] M M' := by
  unfold b12_lovers_0 at hf
  obtain ⟨r1, M2, g1, hf⟩ := bnd_s hf
  refine Fq.trans (Fq.mono (fq12_in  g1) (by decide)) ?_
  by_cases c2 : r1 = 0
  · replace hf := ite_t c2 hf
    exact fqb12_lovers_26  hrc hf
  · replace hf := ite_f c2 hf
    obtain ⟨r5, M6, g3, hf⟩ := bnd_s hf
    refine Fq.trans (Fq.mono (fq12_in  g3) (by decide)) ?_
    by_cases c4 : r5 = 0
    · replace hf := ite_t c4 hf
      exact fqb12_lovers_26  hrc hf
    · replace hf := ite_f c4 hf
      by_cases c5 : a1 ≤ (M6.1 0 11)
      · replace hf := ite_t c5 hf
        obtain ⟨M10, eM10, hf⟩ := lt_x hf
        refine Fq_wI eM10 (by decide) ?_
        exact fqb12_lovers_35  hrc hf
      · replace hf := ite_f c5 hf
        exact fqb12_lovers_26  hrc hf
theorem fql12_lovers   {r : Int32} {M' : Mem} (n : Nat) : ∀ pc li lj M, r12_lovers  n pc li lj M = some (r, M') → Fq CSY [(0, 9), (0, 11)] M M' := by
  induction n with
  | zero => intro pc li lj M hf; cases hf
  | succ n ih =>
    intro pc li lj M hf
    rw [r12_lovers] at hf
    dsimp only at hf
    by_cases c35 : pc = 35
    · replace hf := ite_t c35 hf
      split at hf
      · exact fqb12_lovers_35  ih hf
      · cases hf
    replace hf := ite_f c35 hf
    by_cases c82 : pc = 82
    · replace hf := ite_t c82 hf
      split at hf
      · exact fqb12_lovers_82  ih hf
      · cases hf
    replace hf := ite_f c82 hf
    by_cases c98 : pc = 98
    · replace hf := ite_t c98 hf
      split at hf
      · exact fqb12_lovers_98  ih hf
      · cases hf
    replace hf := ite_f c98 hf
    cases hf
theorem fq12_lovers   {n : Nat} {a1 : Int32} {a2 : Int32} {M M' : Mem} {r : Int32} (hf : f12_lovers n  a1 a2 M = some (r, M')) : Fq CSY [(0, 9), (0, 11)] M M' := fqb12_lovers_0  (fql12_lovers  n) hf
theorem fqb12_laysNear_98   {rc : Nat → List Int32 → List Int64 → Mem → Option (Unit × Mem)} {n : Nat} {r : Unit} {M' : Mem} (hrc : ∀ pc li lj M, rc pc li lj M = some (r, M') → Fq CSY [(0, 9)] M M') {i1 : Int32} {i2 : Int32} {M : Mem} (hf : b12_laysNear_98  rc n i1 i2 M = some (r, M')) : Fq CSY [(0, 9)] M M' := by
  unfold b12_laysNear_98 at hf
  obtain ⟨v21, ev21, hf⟩ := lt_x hf
  exact hrc _ _ _ _ hf
theorem fqb12_laysNear_24   {rc : Nat → List Int32 → List Int64 → Mem → Option (Unit × Mem)} {n : Nat} {r : Unit} {M' : Mem} (hrc : ∀ pc li lj M, rc pc li lj M = some (r, M') → Fq CSY [(0, 9)] M M') {i1 : Int32} {i2 : Int32} {M : Mem} (hf : b12_laysNear_24  rc n i1 i2 M = some (r, M')) : Fq CSY [(0, 9)] M M' := by
  unfold b12_laysNear_24 at hf
  by_cases c1 : (96 : Int32) ≤ i2
  · replace hf := ite_t c1 hf
    obtain ⟨v7, ev7, hf⟩ := lt_x hf
    exact hrc _ _ _ _ hf
  · replace hf := ite_f c1 hf
    replace hf := chk_2 hf
    by_cases c2 : (M.1 1 ((0 : Int32) + i2).toNatClampNeg) = 0
    · replace hf := ite_t c2 hf
      exact fqb12_laysNear_98  hrc hf
    · replace hf := ite_f c2 hf
      obtain ⟨r10, M11, g3, hf⟩ := bnd_s hf
      refine Fq.trans (Fq.mono (fq12_steps  g3) (by decide)) ?_
      by_cases c4 : r10 ≤ (2 : Int32)
      · replace hf := ite_t c4 hf
        by_cases c5 : (48 : Int32) ≤ i2
        · replace hf := ite_t c5 hf
          have h6 := chk_1 hf
          replace hf := chk_2 hf
          have h7 := chk_1 hf
          replace hf := chk_2 hf
          obtain ⟨M17, eM17, hf⟩ := lt_x hf
          refine Fq_wJ eM17 ?_
          exact fqb12_laysNear_98  hrc hf
        · replace hf := ite_f c5 hf
          have h8 := chk_1 hf
          replace hf := chk_2 hf
          have h9 := chk_1 hf
          replace hf := chk_2 hf
          obtain ⟨M20, eM20, hf⟩ := lt_x hf
          refine Fq_wJ eM20 ?_
          exact fqb12_laysNear_98  hrc hf
      · replace hf := ite_f c4 hf
        exact fqb12_laysNear_98  hrc hf
theorem fqb12_laysNear_2   {rc : Nat → List Int32 → List Int64 → Mem → Option (Unit × Mem)} {n : Nat} {r : Unit} {M' : Mem} (hrc : ∀ pc li lj M, rc pc li lj M = some (r, M') → Fq CSY [(0, 9)] M M') {i1 : Int32} {M : Mem} (hf : b12_laysNear_2  rc n i1 M = some (r, M')) : Fq CSY [(0, 9)] M M' := by
  unfold b12_laysNear_2 at hf
  by_cases c1 : (96 : Int32) ≤ i1
  · replace hf := ite_t c1 hf
    exact Fq.of hf
  · replace hf := ite_f c1 hf
    have h2 := chk_1 hf
    replace hf := chk_2 hf
    obtain ⟨M3, eM3, hf⟩ := lt_x hf
    refine Fq_wJ eM3 ?_
    have h3 := chk_1 hf
    replace hf := chk_2 hf
    obtain ⟨M5, eM5, hf⟩ := lt_x hf
    refine Fq_wJ eM5 ?_
    exact fqb12_laysNear_24  hrc hf
theorem fqb12_laysNear_0   {rc : Nat → List Int32 → List Int64 → Mem → Option (Unit × Mem)} {n : Nat} {r : Unit} {M' : Mem} (hrc : ∀ pc li lj M, rc pc li lj M = some (r, M') → Fq CSY [(0, 9)] M M')  {M : Mem} (hf : b12_laysNear_0  rc n  M = some (r, M')) : Fq CSY [(0, 9)] M M' := by
  unfold b12_laysNear_0 at hf
  exact fqb12_laysNear_2  hrc hf
theorem fql12_laysNear   {r : Unit} {M' : Mem} (n : Nat) : ∀ pc li lj M, r12_laysNear  n pc li lj M = some (r, M') → Fq CSY [(0, 9)] M M' := by
  induction n with
  | zero => intro pc li lj M hf; cases hf
  | succ n ih =>
    intro pc li lj M hf
    rw [r12_laysNear] at hf
    dsimp only at hf
    by_cases c2 : pc = 2
    · replace hf := ite_t c2 hf
      split at hf
      · exact fqb12_laysNear_2  ih hf
      · cases hf
    replace hf := ite_f c2 hf
    by_cases c24 : pc = 24
    · replace hf := ite_t c24 hf
      split at hf
      · exact fqb12_laysNear_24  ih hf
      · cases hf
    replace hf := ite_f c24 hf
    cases hf
theorem fq12_laysNear   {n : Nat}  {M M' : Mem} {r : Unit} (hf : f12_laysNear n   M = some (r, M')) : Fq CSY [(0, 9)] M M' := fqb12_laysNear_0  (fql12_laysNear  n) hf
theorem fqb12_bitsOf_4   {rc : Nat → List Int32 → List Int64 → Mem → Option (Int32 × Mem)} {n : Nat} {r : Int32} {M' : Mem} (hrc : ∀ pc li lj M, rc pc li lj M = some (r, M') → Fq CSY [] M M') {i2 : Int32} {i3 : Int32} {j0 : Int64} {M : Mem} (hf : b12_bitsOf_4  rc n i2 i3 j0 M = some (r, M')) : Fq CSY [] M M' := by
  unfold b12_bitsOf_4 at hf
  by_cases c1 : (48 : Int32) ≤ i3
  · replace hf := ite_t c1 hf
    exact Fq.of hf
  · replace hf := ite_f c1 hf
    obtain ⟨v2, ev2, hf⟩ := lt_x hf
    obtain ⟨v3, ev3, hf⟩ := lt_x hf
    exact hrc _ _ _ _ hf
theorem fqb12_bitsOf_0   {rc : Nat → List Int32 → List Int64 → Mem → Option (Int32 × Mem)} {n : Nat} {r : Int32} {M' : Mem} (hrc : ∀ pc li lj M, rc pc li lj M = some (r, M') → Fq CSY [] M M') {a0 : Int64} {M : Mem} (hf : b12_bitsOf_0  rc n a0 M = some (r, M')) : Fq CSY [] M M' := by
  unfold b12_bitsOf_0 at hf
  exact fqb12_bitsOf_4  hrc hf
theorem fql12_bitsOf   {r : Int32} {M' : Mem} (n : Nat) : ∀ pc li lj M, r12_bitsOf  n pc li lj M = some (r, M') → Fq CSY [] M M' := by
  induction n with
  | zero => intro pc li lj M hf; cases hf
  | succ n ih =>
    intro pc li lj M hf
    rw [r12_bitsOf] at hf
    dsimp only at hf
    by_cases c4 : pc = 4
    · replace hf := ite_t c4 hf
      split at hf
      · exact fqb12_bitsOf_4  ih hf
      · cases hf
    replace hf := ite_f c4 hf
    cases hf
theorem fq12_bitsOf   {n : Nat} {a0 : Int64} {M M' : Mem} {r : Int32} (hf : f12_bitsOf n  a0 M = some (r, M')) : Fq CSY [] M M' := fqb12_bitsOf_0  (fql12_bitsOf  n) hf
theorem fqb12_openPlaces_22   {rc : Nat → List Int32 → List Int64 → Mem → Option (Int32 × Mem)} {n : Nat} {r : Int32} {M' : Mem} (hrc : ∀ pc li lj M, rc pc li lj M = some (r, M') → Fq CSY [] M M') {i1 : Int32} {i2 : Int32} {M : Mem} (hf : b12_openPlaces_22  rc n i1 i2 M = some (r, M')) : Fq CSY [] M M' := by
  unfold b12_openPlaces_22 at hf
  obtain ⟨v7, ev7, hf⟩ := lt_x hf
  exact hrc _ _ _ _ hf
theorem fqb12_openPlaces_4   {rc : Nat → List Int32 → List Int64 → Mem → Option (Int32 × Mem)} {n : Nat} {r : Int32} {M' : Mem} (hrc : ∀ pc li lj M, rc pc li lj M = some (r, M') → Fq CSY [] M M') {i1 : Int32} {i2 : Int32} {M : Mem} (hf : b12_openPlaces_4  rc n i1 i2 M = some (r, M')) : Fq CSY [] M M' := by
  unfold b12_openPlaces_4 at hf
  by_cases c1 : (96 : Int32) ≤ i2
  · replace hf := ite_t c1 hf
    exact Fq.of hf
  · replace hf := ite_f c1 hf
    obtain ⟨r2, M3, g2, hf⟩ := bnd_s hf
    refine Fq.trans (Fq.mono (fq12_isOpen  g2) (by decide)) ?_
    by_cases c3 : r2 = 0
    · replace hf := ite_t c3 hf
      exact fqb12_openPlaces_22  hrc hf
    · replace hf := ite_f c3 hf
      obtain ⟨v6, ev6, hf⟩ := lt_x hf
      exact fqb12_openPlaces_22  hrc hf
theorem fqb12_openPlaces_0   {rc : Nat → List Int32 → List Int64 → Mem → Option (Int32 × Mem)} {n : Nat} {r : Int32} {M' : Mem} (hrc : ∀ pc li lj M, rc pc li lj M = some (r, M') → Fq CSY [] M M')  {M : Mem} (hf : b12_openPlaces_0  rc n  M = some (r, M')) : Fq CSY [] M M' := by
  unfold b12_openPlaces_0 at hf
  exact fqb12_openPlaces_4  hrc hf
theorem fql12_openPlaces   {r : Int32} {M' : Mem} (n : Nat) : ∀ pc li lj M, r12_openPlaces  n pc li lj M = some (r, M') → Fq CSY [] M M' := by
  induction n with
  | zero => intro pc li lj M hf; cases hf
  | succ n ih =>
    intro pc li lj M hf
    rw [r12_openPlaces] at hf
    dsimp only at hf
    by_cases c4 : pc = 4
    · replace hf := ite_t c4 hf
      split at hf
      · exact fqb12_openPlaces_4  ih hf
      · cases hf
    replace hf := ite_f c4 hf
    cases hf
theorem fq12_openPlaces   {n : Nat}  {M M' : Mem} {r : Int32} (hf : f12_openPlaces n   M = some (r, M')) : Fq CSY [] M M' := fqb12_openPlaces_0  (fql12_openPlaces  n) hf
theorem fqb12_benches_18   {rc : Nat → List Int32 → List Int64 → Mem → Option (Int32 × Mem)} {n : Nat} {r : Int32} {M' : Mem} (hrc : ∀ pc li lj M, rc pc li lj M = some (r, M') → Fq CSY [(0, 9)] M M')  {M : Mem} (hf : b12_benches_18  rc n  M = some (r, M')) : Fq CSY [(0, 9)] M M' := by
  unfold b12_benches_18 at hf
  exact Fq.of hf
theorem fqb12_benches_37   {rc : Nat → List Int32 → List Int64 → Mem → Option (Int32 × Mem)} {n : Nat} {r : Int32} {M' : Mem} (hrc : ∀ pc li lj M, rc pc li lj M = some (r, M') → Fq CSY [(0, 9)] M M')  {M : Mem} (hf : b12_benches_37  rc n  M = some (r, M')) : Fq CSY [(0, 9)] M M' := by
  unfold b12_benches_37 at hf
  exact Fq.of hf
theorem fqb12_benches_190   {rc : Nat → List Int32 → List Int64 → Mem → Option (Int32 × Mem)} {n : Nat} {r : Int32} {M' : Mem} (hrc : ∀ pc li lj M, rc pc li lj M = some (r, M') → Fq CSY [(0, 9)] M M') {i1 : Int32} {i2 : Int32} {i3 : Int32} {i4 : Int32} {i5 : Int32} {i6 : Int32} {i7 : Int32} {M : Mem} (hf : b12_benches_190  rc n i1 i2 i3 i4 i5 i6 i7 M = some (r, M')) : Fq CSY [(0, 9)] M M' := by
  unfold b12_benches_190 at hf
  obtain ⟨v49, ev49, hf⟩ := lt_x hf
  exact hrc _ _ _ _ hf
theorem fqb12_benches_188   {rc : Nat → List Int32 → List Int64 → Mem → Option (Int32 × Mem)} {n : Nat} {r : Int32} {M' : Mem} (hrc : ∀ pc li lj M, rc pc li lj M = some (r, M') → Fq CSY [(0, 9)] M M') {i1 : Int32} {i2 : Int32} {i3 : Int32} {i5 : Int32} {i6 : Int32} {i7 : Int32} {s0 : Int32} {M : Mem} (hf : b12_benches_188  rc n i1 i2 i3 i5 i6 i7 s0 M = some (r, M')) : Fq CSY [(0, 9)] M M' := by
  unfold b12_benches_188 at hf
  exact fqb12_benches_190  hrc hf
theorem fqb12_benches_96   {rc : Nat → List Int32 → List Int64 → Mem → Option (Int32 × Mem)} {n : Nat} {r : Int32} {M' : Mem} (hrc : ∀ pc li lj M, rc pc li lj M = some (r, M') → Fq CSY [(0, 9)] M M') {i1 : Int32} {i2 : Int32} {i3 : Int32} {i4 : Int32} {i5 : Int32} {i6 : Int32} {i7 : Int32} {s0 : Int32} {s1 : Int32} {M : Mem} (hf : b12_benches_96  rc n i1 i2 i3 i4 i5 i6 i7 s0 s1 M = some (r, M')) : Fq CSY [(0, 9)] M M' := by
  unfold b12_benches_96 at hf
  by_cases c1 : s1 ≤ s0
  · replace hf := ite_t c1 hf
    obtain ⟨v27, ev27, hf⟩ := lt_x hf
    exact hrc _ _ _ _ hf
  · replace hf := ite_f c1 hf
    obtain ⟨r28, M29, g2, hf⟩ := bnd_s hf
    refine Fq.trans (Fq.mono (fq12_isOpen  g2) (by decide)) ?_
    by_cases c3 : r28 = 0
    · replace hf := ite_t c3 hf
      exact fqb12_benches_190  hrc hf
    · replace hf := ite_f c3 hf
      obtain ⟨r32, M33, g4, hf⟩ := bnd_s hf
      refine Fq.trans (Fq.mono (fq12_isOpen  g4) (by decide)) ?_
      by_cases c5 : r32 = 0
      · replace hf := ite_t c5 hf
        exact fqb12_benches_190  hrc hf
      · replace hf := ite_f c5 hf
        have h6 := chk_1 hf
        replace hf := chk_2 hf
        have h7 := chk_1 hf
        replace hf := chk_2 hf
        obtain ⟨r38, M39, g8, hf⟩ := bnd_s hf
        refine Fq.trans (Fq.mono (fq12_bitsOf  g8) (by decide)) ?_
        have h9 := chk_1 hf
        replace hf := chk_2 hf
        have h10 := chk_1 hf
        replace hf := chk_2 hf
        obtain ⟨r43, M44, g11, hf⟩ := bnd_s hf
        refine Fq.trans (Fq.mono (fq12_bitsOf  g11) (by decide)) ?_
        obtain ⟨v46, ev46, hf⟩ := lt_x hf
        by_cases c12 : i5 < v46
        · replace hf := ite_t c12 hf
          by_cases c13 : i1 = (1 : Int32)
          · replace hf := ite_t c13 hf
            exact fqb12_benches_188  hrc hf
          · replace hf := ite_f c13 hf
            exact fqb12_benches_188  hrc hf
        · replace hf := ite_f c12 hf
          exact fqb12_benches_190  hrc hf
theorem fqb12_benches_80   {rc : Nat → List Int32 → List Int64 → Mem → Option (Int32 × Mem)} {n : Nat} {r : Int32} {M' : Mem} (hrc : ∀ pc li lj M, rc pc li lj M = some (r, M') → Fq CSY [(0, 9)] M M') {i1 : Int32} {i2 : Int32} {i3 : Int32} {i4 : Int32} {i5 : Int32} {i6 : Int32} {i7 : Int32} {M : Mem} (hf : b12_benches_80  rc n i1 i2 i3 i4 i5 i6 i7 M = some (r, M')) : Fq CSY [(0, 9)] M M' := by
  unfold b12_benches_80 at hf
  by_cases c1 : i1 = (1 : Int32)
  · replace hf := ite_t c1 hf
    exact fqb12_benches_96  hrc hf
  · replace hf := ite_f c1 hf
    exact fqb12_benches_96  hrc hf
theorem fqb12_benches_78   {rc : Nat → List Int32 → List Int64 → Mem → Option (Int32 × Mem)} {n : Nat} {r : Int32} {M' : Mem} (hrc : ∀ pc li lj M, rc pc li lj M = some (r, M') → Fq CSY [(0, 9)] M M') {i1 : Int32} {i2 : Int32} {i3 : Int32} {i4 : Int32} {i5 : Int32} {i6 : Int32} {s0 : Int32} {M : Mem} (hf : b12_benches_78  rc n i1 i2 i3 i4 i5 i6 s0 M = some (r, M')) : Fq CSY [(0, 9)] M M' := by
  unfold b12_benches_78 at hf
  exact fqb12_benches_80  hrc hf
theorem fqb12_benches_57   {rc : Nat → List Int32 → List Int64 → Mem → Option (Int32 × Mem)} {n : Nat} {r : Int32} {M' : Mem} (hrc : ∀ pc li lj M, rc pc li lj M = some (r, M') → Fq CSY [(0, 9)] M M') {i1 : Int32} {i2 : Int32} {i3 : Int32} {i4 : Int32} {i5 : Int32} {i6 : Int32} {M : Mem} (hf : b12_benches_57  rc n i1 i2 i3 i4 i5 i6 M = some (r, M')) : Fq CSY [(0, 9)] M M' := by
  unfold b12_benches_57 at hf
  by_cases c1 : (96 : Int32) ≤ i6
  · replace hf := ite_t c1 hf
    by_cases c2 : (1 : Int32) ≤ i5
    · replace hf := ite_t c2 hf
      by_cases c3 : i2 = 0
      · replace hf := ite_t c3 hf
        exact Fq.of hf
      · replace hf := ite_f c3 hf
        by_cases c4 : i2 = (1 : Int32)
        · replace hf := ite_t c4 hf
          exact Fq.of hf
        · replace hf := ite_f c4 hf
          exact Fq.of hf
    · replace hf := ite_f c2 hf
      exact Fq.of hf
  · replace hf := ite_f c1 hf
    by_cases c5 : i1 = (1 : Int32)
    · replace hf := ite_t c5 hf
      exact fqb12_benches_78  hrc hf
    · replace hf := ite_f c5 hf
      exact fqb12_benches_78  hrc hf
theorem fqb12_benches_0   {rc : Nat → List Int32 → List Int64 → Mem → Option (Int32 × Mem)} {n : Nat} {r : Int32} {M' : Mem} (hrc : ∀ pc li lj M, rc pc li lj M = some (r, M') → Fq CSY [(0, 9)] M M') {a1 : Int32} {a2 : Int32} {M : Mem} (hf : b12_benches_0  rc n a1 a2 M = some (r, M')) : Fq CSY [(0, 9)] M M' := by
  unfold b12_benches_0 at hf
  obtain ⟨r1, M2, g1, hf⟩ := bnd_s hf
  refine Fq.trans (Fq.mono (fq12_in  g1) (by decide)) ?_
  by_cases c2 : r1 = 0
  · replace hf := ite_t c2 hf
    exact fqb12_benches_18  hrc hf
  · replace hf := ite_f c2 hf
    obtain ⟨r5, M6, g3, hf⟩ := bnd_s hf
    refine Fq.trans (Fq.mono (fq12_in  g3) (by decide)) ?_
    by_cases c4 : r5 = 0
    · replace hf := ite_t c4 hf
      exact fqb12_benches_18  hrc hf
    · replace hf := ite_f c4 hf
      obtain ⟨r9, M10, g5, hf⟩ := bnd_s hf
      refine Fq.trans (Fq.mono (fq12_worn  g5) (by decide)) ?_
      by_cases c6 : r9 = (-2 : Int32)
      · replace hf := ite_t c6 hf
        exact fqb12_benches_37  hrc hf
      · replace hf := ite_f c6 hf
        obtain ⟨r13, M14, g7, hf⟩ := bnd_s hf
        refine Fq.trans (Fq.mono (fq12_openPlaces  g7) (by decide)) ?_
        by_cases c8 : a1 ≤ r13
        · replace hf := ite_t c8 hf
          obtain ⟨r17, M18, g9, hf⟩ := bnd_s hf
          refine Fq.trans (Fq.mono (fq12_laysNear  g9) (by decide)) ?_
          exact fqb12_benches_57  hrc hf
        · replace hf := ite_f c8 hf
          exact fqb12_benches_37  hrc hf
theorem fql12_benches   {r : Int32} {M' : Mem} (n : Nat) : ∀ pc li lj M, r12_benches  n pc li lj M = some (r, M') → Fq CSY [(0, 9)] M M' := by
  induction n with
  | zero => intro pc li lj M hf; cases hf
  | succ n ih =>
    intro pc li lj M hf
    rw [r12_benches] at hf
    dsimp only at hf
    by_cases c57 : pc = 57
    · replace hf := ite_t c57 hf
      split at hf
      · exact fqb12_benches_57  ih hf
      · cases hf
    replace hf := ite_f c57 hf
    by_cases c80 : pc = 80
    · replace hf := ite_t c80 hf
      split at hf
      · exact fqb12_benches_80  ih hf
      · cases hf
    replace hf := ite_f c80 hf
    cases hf
theorem fq12_benches   {n : Nat} {a1 : Int32} {a2 : Int32} {M M' : Mem} {r : Int32} (hf : f12_benches n  a1 a2 M = some (r, M')) : Fq CSY [(0, 9)] M M' := fqb12_benches_0  (fql12_benches  n) hf
theorem fqb12_pigeons_18   {rc : Nat → List Int32 → List Int64 → Mem → Option (Int32 × Mem)} {n : Nat} {r : Int32} {M' : Mem} (hrc : ∀ pc li lj M, rc pc li lj M = some (r, M') → Fq CSY [(0, 11)] M M')  {M : Mem} (hf : b12_pigeons_18  rc n  M = some (r, M')) : Fq CSY [(0, 11)] M M' := by
  unfold b12_pigeons_18 at hf
  exact Fq.of hf
theorem fqb12_pigeons_92   {rc : Nat → List Int32 → List Int64 → Mem → Option (Int32 × Mem)} {n : Nat} {r : Int32} {M' : Mem} (hrc : ∀ pc li lj M, rc pc li lj M = some (r, M') → Fq CSY [(0, 11)] M M') {i1 : Int32} {i2 : Int32} {i3 : Int32} {i4 : Int32} {M : Mem} (hf : b12_pigeons_92  rc n i1 i2 i3 i4 M = some (r, M')) : Fq CSY [(0, 11)] M M' := by
  unfold b12_pigeons_92 at hf
  obtain ⟨v22, ev22, hf⟩ := lt_x hf
  exact hrc _ _ _ _ hf
theorem fqb12_pigeons_32   {rc : Nat → List Int32 → List Int64 → Mem → Option (Int32 × Mem)} {n : Nat} {r : Int32} {M' : Mem} (hrc : ∀ pc li lj M, rc pc li lj M = some (r, M') → Fq CSY [(0, 11)] M M') {i1 : Int32} {i2 : Int32} {i3 : Int32} {i4 : Int32} {M : Mem} (hf : b12_pigeons_32  rc n i1 i2 i3 i4 M = some (r, M')) : Fq CSY [(0, 11)] M M' := by
  unfold b12_pigeons_32 at hf
  by_cases c1 : (24 : Int32) ≤ i4
  · replace hf := ite_t c1 hf
    by_cases c2 : i1 = 0
    · replace hf := ite_t c2 hf
      exact Fq.of hf
    · replace hf := ite_f c2 hf
      exact Fq.of hf
  · replace hf := ite_f c1 hf
    obtain ⟨r9, M10, g3, hf⟩ := bnd_s hf
    refine Fq.trans (Fq.mono (fq12_octet  g3) (by decide)) ?_
    obtain ⟨r12, M13, g4, hf⟩ := bnd_s hf
    refine Fq.trans (Fq.mono (fq12_octet  g4) (by decide)) ?_
    obtain ⟨r15, M16, g5, hf⟩ := bnd_s hf
    refine Fq.trans (Fq.mono (fq12_octet  g5) (by decide)) ?_
    obtain ⟨r18, M19, g6, hf⟩ := bnd_s hf
    refine Fq.trans (Fq.mono (fq12_size  g6) (by decide)) ?_
    by_cases c7 : i3 < r18
    · replace hf := ite_t c7 hf
      exact fqb12_pigeons_92  hrc hf
    · replace hf := ite_f c7 hf
      exact fqb12_pigeons_92  hrc hf
theorem fqb12_pigeons_0   {rc : Nat → List Int32 → List Int64 → Mem → Option (Int32 × Mem)} {n : Nat} {r : Int32} {M' : Mem} (hrc : ∀ pc li lj M, rc pc li lj M = some (r, M') → Fq CSY [(0, 11)] M M') {a1 : Int32} {M : Mem} (hf : b12_pigeons_0  rc n a1 M = some (r, M')) : Fq CSY [(0, 11)] M M' := by
  unfold b12_pigeons_0 at hf
  obtain ⟨r1, M2, g1, hf⟩ := bnd_s hf
  refine Fq.trans (Fq.mono (fq12_in  g1) (by decide)) ?_
  by_cases c2 : r1 = 0
  · replace hf := ite_t c2 hf
    exact fqb12_pigeons_18  hrc hf
  · replace hf := ite_f c2 hf
    by_cases c3 : (24 : Int32) ≤ (M2.1 0 11)
    · replace hf := ite_t c3 hf
      obtain ⟨M6, eM6, hf⟩ := lt_x hf
      refine Fq_wI eM6 (by decide) ?_
      exact fqb12_pigeons_32  hrc hf
    · replace hf := ite_f c3 hf
      exact fqb12_pigeons_18  hrc hf
theorem fql12_pigeons   {r : Int32} {M' : Mem} (n : Nat) : ∀ pc li lj M, r12_pigeons  n pc li lj M = some (r, M') → Fq CSY [(0, 11)] M M' := by
  induction n with
  | zero => intro pc li lj M hf; cases hf
  | succ n ih =>
    intro pc li lj M hf
    rw [r12_pigeons] at hf
    dsimp only at hf
    by_cases c32 : pc = 32
    · replace hf := ite_t c32 hf
      split at hf
      · exact fqb12_pigeons_32  ih hf
      · cases hf
    replace hf := ite_f c32 hf
    cases hf
theorem fq12_pigeons   {n : Nat} {a1 : Int32} {M M' : Mem} {r : Int32} (hf : f12_pigeons n  a1 M = some (r, M')) : Fq CSY [(0, 11)] M M' := fqb12_pigeons_0  (fql12_pigeons  n) hf
theorem fqb12_islands_57   {rc : Nat → List Int32 → List Int64 → Mem → Option (Int32 × Mem)} {n : Nat} {r : Int32} {M' : Mem} (hrc : ∀ pc li lj M, rc pc li lj M = some (r, M') → Fq CSY [(0, 9)] M M') {i1 : Int32} {i2 : Int32} {M : Mem} (hf : b12_islands_57  rc n i1 i2 M = some (r, M')) : Fq CSY [(0, 9)] M M' := by
  unfold b12_islands_57 at hf
  obtain ⟨v14, ev14, hf⟩ := lt_x hf
  exact hrc _ _ _ _ hf
theorem fqb12_islands_43   {rc : Nat → List Int32 → List Int64 → Mem → Option (Int32 × Mem)} {n : Nat} {r : Int32} {M' : Mem} (hrc : ∀ pc li lj M, rc pc li lj M = some (r, M') → Fq CSY [(0, 9)] M M') {i1 : Int32} {i2 : Int32} {i3 : Int32} {i4 : Int32} {M : Mem} (hf : b12_islands_43  rc n i1 i2 i3 i4 M = some (r, M')) : Fq CSY [(0, 9)] M M' := by
  unfold b12_islands_43 at hf
  obtain ⟨v13, ev13, hf⟩ := lt_x hf
  exact hrc _ _ _ _ hf
theorem fqb12_islands_19   {rc : Nat → List Int32 → List Int64 → Mem → Option (Int32 × Mem)} {n : Nat} {r : Int32} {M' : Mem} (hrc : ∀ pc li lj M, rc pc li lj M = some (r, M') → Fq CSY [(0, 9)] M M') {i1 : Int32} {i2 : Int32} {i3 : Int32} {i4 : Int32} {M : Mem} (hf : b12_islands_19  rc n i1 i2 i3 i4 M = some (r, M')) : Fq CSY [(0, 9)] M M' := by
  unfold b12_islands_19 at hf
  by_cases c1 : i2 ≤ i4
  · replace hf := ite_t c1 hf
    by_cases c2 : i3 = 0
    · replace hf := ite_t c2 hf
      exact fqb12_islands_57  hrc hf
    · replace hf := ite_f c2 hf
      obtain ⟨v7, ev7, hf⟩ := lt_x hf
      exact fqb12_islands_57  hrc hf
  · replace hf := ite_f c1 hf
    by_cases c3 : i3 = 0
    · replace hf := ite_t c3 hf
      exact fqb12_islands_43  hrc hf
    · replace hf := ite_f c3 hf
      obtain ⟨r9, M10, g4, hf⟩ := bnd_s hf
      refine Fq.trans (Fq.mono (fq12_steps  g4) (by decide)) ?_
      by_cases c5 : r9 = (99 : Int32)
      · replace hf := ite_t c5 hf
        exact fqb12_islands_43  hrc hf
      · replace hf := ite_f c5 hf
        exact fqb12_islands_43  hrc hf
theorem fqb12_islands_4   {rc : Nat → List Int32 → List Int64 → Mem → Option (Int32 × Mem)} {n : Nat} {r : Int32} {M' : Mem} (hrc : ∀ pc li lj M, rc pc li lj M = some (r, M') → Fq CSY [(0, 9)] M M') {i1 : Int32} {i2 : Int32} {M : Mem} (hf : b12_islands_4  rc n i1 i2 M = some (r, M')) : Fq CSY [(0, 9)] M M' := by
  unfold b12_islands_4 at hf
  by_cases c1 : (96 : Int32) ≤ i2
  · replace hf := ite_t c1 hf
    exact Fq.of hf
  · replace hf := ite_f c1 hf
    obtain ⟨r2, M3, g2, hf⟩ := bnd_s hf
    refine Fq.trans (Fq.mono (fq12_isOpen  g2) (by decide)) ?_
    exact fqb12_islands_19  hrc hf
theorem fqb12_islands_0   {rc : Nat → List Int32 → List Int64 → Mem → Option (Int32 × Mem)} {n : Nat} {r : Int32} {M' : Mem} (hrc : ∀ pc li lj M, rc pc li lj M = some (r, M') → Fq CSY [(0, 9)] M M')  {M : Mem} (hf : b12_islands_0  rc n  M = some (r, M')) : Fq CSY [(0, 9)] M M' := by
  unfold b12_islands_0 at hf
  exact fqb12_islands_4  hrc hf
theorem fql12_islands   {r : Int32} {M' : Mem} (n : Nat) : ∀ pc li lj M, r12_islands  n pc li lj M = some (r, M') → Fq CSY [(0, 9)] M M' := by
  induction n with
  | zero => intro pc li lj M hf; cases hf
  | succ n ih =>
    intro pc li lj M hf
    rw [r12_islands] at hf
    dsimp only at hf
    by_cases c4 : pc = 4
    · replace hf := ite_t c4 hf
      split at hf
      · exact fqb12_islands_4  ih hf
      · cases hf
    replace hf := ite_f c4 hf
    by_cases c19 : pc = 19
    · replace hf := ite_t c19 hf
      split at hf
      · exact fqb12_islands_19  ih hf
      · cases hf
    replace hf := ite_f c19 hf
    cases hf
theorem fq12_islands   {n : Nat}  {M M' : Mem} {r : Int32} (hf : f12_islands n   M = some (r, M')) : Fq CSY [(0, 9)] M M' := fqb12_islands_0  (fql12_islands  n) hf
theorem fqb12_withNeighbours_39   {rc : Nat → List Int32 → List Int64 → Mem → Option (Int32 × Mem)} {n : Nat} {r : Int32} {M' : Mem} (hrc : ∀ pc li lj M, rc pc li lj M = some (r, M') → Fq CSY [] M M') {i1 : Int32} {i2 : Int32} {i3 : Int32} {i4 : Int32} {M : Mem} (hf : b12_withNeighbours_39  rc n i1 i2 i3 i4 M = some (r, M')) : Fq CSY [] M M' := by
  unfold b12_withNeighbours_39 at hf
  obtain ⟨v14, ev14, hf⟩ := lt_x hf
  exact hrc _ _ _ _ hf
theorem fqb12_withNeighbours_5   {rc : Nat → List Int32 → List Int64 → Mem → Option (Int32 × Mem)} {n : Nat} {r : Int32} {M' : Mem} (hrc : ∀ pc li lj M, rc pc li lj M = some (r, M') → Fq CSY [] M M') {i1 : Int32} {i2 : Int32} {i3 : Int32} {i4 : Int32} {M : Mem} (hf : b12_withNeighbours_5  rc n i1 i2 i3 i4 M = some (r, M')) : Fq CSY [] M M' := by
  unfold b12_withNeighbours_5 at hf
  by_cases c1 : (96 : Int32) ≤ i4
  · replace hf := ite_t c1 hf
    exact Fq.of hf
  · replace hf := ite_f c1 hf
    obtain ⟨r2, M3, g2, hf⟩ := bnd_s hf
    refine Fq.trans (Fq.mono (fq12_isOpen  g2) (by decide)) ?_
    by_cases c3 : r2 = 0
    · replace hf := ite_t c3 hf
      exact fqb12_withNeighbours_39  hrc hf
    · replace hf := ite_f c3 hf
      obtain ⟨r6, M7, g4, hf⟩ := bnd_s hf
      refine Fq.trans (Fq.mono (fq12_neighbours  g4) (by decide)) ?_
      obtain ⟨r9, M10, g5, hf⟩ := bnd_s hf
      refine Fq.trans (Fq.mono (fq12_in  g5) (by decide)) ?_
      by_cases c6 : r9 = 0
      · replace hf := ite_t c6 hf
        exact fqb12_withNeighbours_39  hrc hf
      · replace hf := ite_f c6 hf
        obtain ⟨v13, ev13, hf⟩ := lt_x hf
        exact fqb12_withNeighbours_39  hrc hf
theorem fqb12_withNeighbours_0   {rc : Nat → List Int32 → List Int64 → Mem → Option (Int32 × Mem)} {n : Nat} {r : Int32} {M' : Mem} (hrc : ∀ pc li lj M, rc pc li lj M = some (r, M') → Fq CSY [] M M') {a1 : Int32} {a2 : Int32} {M : Mem} (hf : b12_withNeighbours_0  rc n a1 a2 M = some (r, M')) : Fq CSY [] M M' := by
  unfold b12_withNeighbours_0 at hf
  exact fqb12_withNeighbours_5  hrc hf
theorem fql12_withNeighbours   {r : Int32} {M' : Mem} (n : Nat) : ∀ pc li lj M, r12_withNeighbours  n pc li lj M = some (r, M') → Fq CSY [] M M' := by
  induction n with
  | zero => intro pc li lj M hf; cases hf
  | succ n ih =>
    intro pc li lj M hf
    rw [r12_withNeighbours] at hf
    dsimp only at hf
    by_cases c5 : pc = 5
    · replace hf := ite_t c5 hf
      split at hf
      · exact fqb12_withNeighbours_5  ih hf
      · cases hf
    replace hf := ite_f c5 hf
    cases hf
theorem fq12_withNeighbours   {n : Nat} {a1 : Int32} {a2 : Int32} {M M' : Mem} {r : Int32} (hf : f12_withNeighbours n  a1 a2 M = some (r, M')) : Fq CSY [] M M' := fqb12_withNeighbours_0  (fql12_withNeighbours  n) hf
theorem fqb12_twos_26   {rc : Nat → List Int32 → List Int64 → Mem → Option (Int32 × Mem)} {n : Nat} {r : Int32} {M' : Mem} (hrc : ∀ pc li lj M, rc pc li lj M = some (r, M') → Fq CSY [] M M') {i1 : Int32} {i2 : Int32} {M : Mem} (hf : b12_twos_26  rc n i1 i2 M = some (r, M')) : Fq CSY [] M M' := by
  unfold b12_twos_26 at hf
  obtain ⟨v10, ev10, hf⟩ := lt_x hf
  exact hrc _ _ _ _ hf
theorem fqb12_twos_4   {rc : Nat → List Int32 → List Int64 → Mem → Option (Int32 × Mem)} {n : Nat} {r : Int32} {M' : Mem} (hrc : ∀ pc li lj M, rc pc li lj M = some (r, M') → Fq CSY [] M M') {i1 : Int32} {i2 : Int32} {M : Mem} (hf : b12_twos_4  rc n i1 i2 M = some (r, M')) : Fq CSY [] M M' := by
  unfold b12_twos_4 at hf
  by_cases c1 : (96 : Int32) ≤ i2
  · replace hf := ite_t c1 hf
    exact Fq.of hf
  · replace hf := ite_f c1 hf
    obtain ⟨r2, M3, g2, hf⟩ := bnd_s hf
    refine Fq.trans (Fq.mono (fq12_isOpen  g2) (by decide)) ?_
    by_cases c3 : r2 = 0
    · replace hf := ite_t c3 hf
      exact fqb12_twos_26  hrc hf
    · replace hf := ite_f c3 hf
      obtain ⟨r6, M7, g4, hf⟩ := bnd_s hf
      refine Fq.trans (Fq.mono (fq12_neighbours  g4) (by decide)) ?_
      obtain ⟨v9, ev9, hf⟩ := lt_x hf
      exact fqb12_twos_26  hrc hf
theorem fqb12_twos_0   {rc : Nat → List Int32 → List Int64 → Mem → Option (Int32 × Mem)} {n : Nat} {r : Int32} {M' : Mem} (hrc : ∀ pc li lj M, rc pc li lj M = some (r, M') → Fq CSY [] M M')  {M : Mem} (hf : b12_twos_0  rc n  M = some (r, M')) : Fq CSY [] M M' := by
  unfold b12_twos_0 at hf
  exact fqb12_twos_4  hrc hf
theorem fql12_twos   {r : Int32} {M' : Mem} (n : Nat) : ∀ pc li lj M, r12_twos  n pc li lj M = some (r, M') → Fq CSY [] M M' := by
  induction n with
  | zero => intro pc li lj M hf; cases hf
  | succ n ih =>
    intro pc li lj M hf
    rw [r12_twos] at hf
    dsimp only at hf
    by_cases c4 : pc = 4
    · replace hf := ite_t c4 hf
      split at hf
      · exact fqb12_twos_4  ih hf
      · cases hf
    replace hf := ite_f c4 hf
    cases hf
theorem fq12_twos   {n : Nat}  {M M' : Mem} {r : Int32} (hf : f12_twos n   M = some (r, M')) : Fq CSY [] M M' := fqb12_twos_0  (fql12_twos  n) hf
theorem fqb12_cameTo_129   {rc : Nat → List Int32 → List Int64 → Mem → Option (Int32 × Mem)} {n : Nat} {r : Int32} {M' : Mem} (hrc : ∀ pc li lj M, rc pc li lj M = some (r, M') → Fq CSY [] M M') {i2 : Int32} {i3 : Int32} {i4 : Int32} {M : Mem} (hf : b12_cameTo_129  rc n i2 i3 i4 M = some (r, M')) : Fq CSY [] M M' := by
  unfold b12_cameTo_129 at hf
  obtain ⟨v29, ev29, hf⟩ := lt_x hf
  exact hrc _ _ _ _ hf
theorem fqb12_cameTo_62   {rc : Nat → List Int32 → List Int64 → Mem → Option (Int32 × Mem)} {n : Nat} {r : Int32} {M' : Mem} (hrc : ∀ pc li lj M, rc pc li lj M = some (r, M') → Fq CSY [] M M') {i2 : Int32} {i3 : Int32} {i4 : Int32} {M : Mem} (hf : b12_cameTo_62  rc n i2 i3 i4 M = some (r, M')) : Fq CSY [] M M' := by
  unfold b12_cameTo_62 at hf
  by_cases c1 : (4 : Int32) ≤ i4
  · replace hf := ite_t c1 hf
    obtain ⟨v12, ev12, hf⟩ := lt_x hf
    exact hrc _ _ _ _ hf
  · replace hf := ite_f c1 hf
    have h2 := chk_1 hf
    replace hf := chk_2 hf
    obtain ⟨r14, M15, g3, hf⟩ := bnd_s hf
    refine Fq.trans (Fq.mono (fq12_beside  g3) (by decide)) ?_
    by_cases c4 : r14 = (-1 : Int32)
    · replace hf := ite_t c4 hf
      exact fqb12_cameTo_129  hrc hf
    · replace hf := ite_f c4 hf
      obtain ⟨r18, M19, g5, hf⟩ := bnd_s hf
      refine Fq.trans (Fq.mono (fq12_isOpen  g5) (by decide)) ?_
      by_cases c6 : r18 = 0
      · replace hf := ite_t c6 hf
        exact fqb12_cameTo_129  hrc hf
      · replace hf := ite_f c6 hf
        have h7 := chk_1 hf
        replace hf := chk_2 hf
        by_cases c8 : (M19.1 31 r14.toNatClampNeg) = 0
        · replace hf := ite_t c8 hf
          have h9 := chk_1 hf
          replace hf := chk_2 hf
          obtain ⟨M25, eM25, hf⟩ := lt_x hf
          refine Fq_wIn eM25 (by decide) ?_
          have h10 := chk_1 hf
          replace hf := chk_2 hf
          obtain ⟨M27, eM27, hf⟩ := lt_x hf
          refine Fq_wIn eM27 (by decide) ?_
          obtain ⟨v28, ev28, hf⟩ := lt_x hf
          exact fqb12_cameTo_129  hrc hf
        · replace hf := ite_f c8 hf
          exact fqb12_cameTo_129  hrc hf
theorem fqb12_cameTo_54   {rc : Nat → List Int32 → List Int64 → Mem → Option (Int32 × Mem)} {n : Nat} {r : Int32} {M' : Mem} (hrc : ∀ pc li lj M, rc pc li lj M = some (r, M') → Fq CSY [] M M') {i2 : Int32} {i3 : Int32} {M : Mem} (hf : b12_cameTo_54  rc n i2 i3 M = some (r, M')) : Fq CSY [] M M' := by
  unfold b12_cameTo_54 at hf
  by_cases c1 : i2 ≤ i3
  · replace hf := ite_t c1 hf
    exact Fq.of hf
  · replace hf := ite_f c1 hf
    exact fqb12_cameTo_62  hrc hf
theorem fqb12_cameTo_23   {rc : Nat → List Int32 → List Int64 → Mem → Option (Int32 × Mem)} {n : Nat} {r : Int32} {M' : Mem} (hrc : ∀ pc li lj M, rc pc li lj M = some (r, M') → Fq CSY [] M M') {i1 : Int32} {i2 : Int32} {s1 : Int32} {s2 : Int32} {M : Mem} (hf : b12_cameTo_23  rc n i1 i2 s1 s2 M = some (r, M')) : Fq CSY [] M M' := by
  unfold b12_cameTo_23 at hf
  have h1 := chk_1 hf
  replace hf := chk_2 hf
  obtain ⟨M8, eM8, hf⟩ := lt_x hf
  refine Fq_wIn eM8 (by decide) ?_
  obtain ⟨v9, ev9, hf⟩ := lt_x hf
  exact hrc _ _ _ _ hf
theorem fqb12_cameTo_2   {rc : Nat → List Int32 → List Int64 → Mem → Option (Int32 × Mem)} {n : Nat} {r : Int32} {M' : Mem} (hrc : ∀ pc li lj M, rc pc li lj M = some (r, M') → Fq CSY [] M M') {i1 : Int32} {i2 : Int32} {M : Mem} (hf : b12_cameTo_2  rc n i1 i2 M = some (r, M')) : Fq CSY [] M M' := by
  unfold b12_cameTo_2 at hf
  by_cases c1 : (96 : Int32) ≤ i2
  · replace hf := ite_t c1 hf
    have h2 := chk_1 hf
    replace hf := chk_2 hf
    obtain ⟨M3, eM3, hf⟩ := lt_x hf
    refine Fq_wIn eM3 (by decide) ?_
    have h3 := chk_1 hf
    replace hf := chk_2 hf
    obtain ⟨M5, eM5, hf⟩ := lt_x hf
    refine Fq_wIn eM5 (by decide) ?_
    exact fqb12_cameTo_54  hrc hf
  · replace hf := ite_f c1 hf
    by_cases c4 : i2 = i1
    · replace hf := ite_t c4 hf
      exact fqb12_cameTo_23  hrc hf
    · replace hf := ite_f c4 hf
      exact fqb12_cameTo_23  hrc hf
theorem fqb12_cameTo_0   {rc : Nat → List Int32 → List Int64 → Mem → Option (Int32 × Mem)} {n : Nat} {r : Int32} {M' : Mem} (hrc : ∀ pc li lj M, rc pc li lj M = some (r, M') → Fq CSY [] M M') {a1 : Int32} {M : Mem} (hf : b12_cameTo_0  rc n a1 M = some (r, M')) : Fq CSY [] M M' := by
  unfold b12_cameTo_0 at hf
  exact fqb12_cameTo_2  hrc hf
theorem fql12_cameTo   {r : Int32} {M' : Mem} (n : Nat) : ∀ pc li lj M, r12_cameTo  n pc li lj M = some (r, M') → Fq CSY [] M M' := by
  induction n with
  | zero => intro pc li lj M hf; cases hf
  | succ n ih =>
    intro pc li lj M hf
    rw [r12_cameTo] at hf
    dsimp only at hf
    by_cases c2 : pc = 2
    · replace hf := ite_t c2 hf
      split at hf
      · exact fqb12_cameTo_2  ih hf
      · cases hf
    replace hf := ite_f c2 hf
    by_cases c54 : pc = 54
    · replace hf := ite_t c54 hf
      split at hf
      · exact fqb12_cameTo_54  ih hf
      · cases hf
    replace hf := ite_f c54 hf
    by_cases c62 : pc = 62
    · replace hf := ite_t c62 hf
      split at hf
      · exact fqb12_cameTo_62  ih hf
      · cases hf
    replace hf := ite_f c62 hf
    cases hf
theorem fq12_cameTo   {n : Nat} {a1 : Int32} {M M' : Mem} {r : Int32} (hf : f12_cameTo n  a1 M = some (r, M')) : Fq CSY [] M M' := fqb12_cameTo_0  (fql12_cameTo  n) hf
theorem fqb12_isCut_37   {rc : Nat → List Int32 → List Int64 → Mem → Option (Int32 × Mem)} {n : Nat} {r : Int32} {M' : Mem} (hrc : ∀ pc li lj M, rc pc li lj M = some (r, M') → Fq CSY [(0, 9)] M M')  {M : Mem} (hf : b12_isCut_37  rc n  M = some (r, M')) : Fq CSY [(0, 9)] M M' := by
  unfold b12_isCut_37 at hf
  exact Fq.of hf
theorem fqb12_isCut_0   {rc : Nat → List Int32 → List Int64 → Mem → Option (Int32 × Mem)} {n : Nat} {r : Int32} {M' : Mem} (hrc : ∀ pc li lj M, rc pc li lj M = some (r, M') → Fq CSY [(0, 9)] M M') {a1 : Int32} {a2 : Int32} {M : Mem} (hf : b12_isCut_0  rc n a1 a2 M = some (r, M')) : Fq CSY [(0, 9)] M M' := by
  unfold b12_isCut_0 at hf
  by_cases c1 : a1 = (M.1 0 5)
  · replace hf := ite_t c1 hf
    exact fqb12_isCut_37  hrc hf
  · replace hf := ite_f c1 hf
    obtain ⟨r2, M3, g2, hf⟩ := bnd_s hf
    refine Fq.trans (Fq.mono (fq12_steps  g2) (by decide)) ?_
    by_cases c3 : r2 = (99 : Int32)
    · replace hf := ite_t c3 hf
      exact fqb12_isCut_37  hrc hf
    · replace hf := ite_f c3 hf
      obtain ⟨r6, M7, g4, hf⟩ := bnd_s hf
      refine Fq.trans (Fq.mono (fq12_cameTo  g4) (by decide)) ?_
      by_cases c5 : (a2 - (1 : Int32)) ≤ r6
      · replace hf := ite_t c5 hf
        exact fqb12_isCut_37  hrc hf
      · replace hf := ite_f c5 hf
        exact Fq.of hf
theorem fq12_isCut   {n : Nat} {a1 : Int32} {a2 : Int32} {M M' : Mem} {r : Int32} (hf : f12_isCut n  a1 a2 M = some (r, M')) : Fq CSY [(0, 9)] M M' := fqb12_isCut_0  (fun _ _ _ _ h => by cases h) hf
theorem fqb12_streets_125   {rc : Nat → List Int32 → List Int64 → Mem → Option (Int32 × Mem)} {n : Nat} {r : Int32} {M' : Mem} (hrc : ∀ pc li lj M, rc pc li lj M = some (r, M') → Fq CSY [(0, 9)] M M') {i1 : Int32} {i2 : Int32} {i3 : Int32} {i4 : Int32} {i5 : Int32} {M : Mem} (hf : b12_streets_125  rc n i1 i2 i3 i4 i5 M = some (r, M')) : Fq CSY [(0, 9)] M M' := by
  unfold b12_streets_125 at hf
  obtain ⟨v39, ev39, hf⟩ := lt_x hf
  exact hrc _ _ _ _ hf
theorem fqb12_streets_99   {rc : Nat → List Int32 → List Int64 → Mem → Option (Int32 × Mem)} {n : Nat} {r : Int32} {M' : Mem} (hrc : ∀ pc li lj M, rc pc li lj M = some (r, M') → Fq CSY [(0, 9)] M M') {i1 : Int32} {i2 : Int32} {i3 : Int32} {i4 : Int32} {i5 : Int32} {M : Mem} (hf : b12_streets_99  rc n i1 i2 i3 i4 i5 M = some (r, M')) : Fq CSY [(0, 9)] M M' := by
  unfold b12_streets_99 at hf
  by_cases c1 : i5 < 0
  · replace hf := ite_t c1 hf
    by_cases c2 : i1 = (5 : Int32)
    · replace hf := ite_t c2 hf
      exact Fq.of hf
    · replace hf := ite_f c2 hf
      exact Fq.of hf
  · replace hf := ite_f c1 hf
    obtain ⟨r34, M35, g3, hf⟩ := bnd_s hf
    refine Fq.trans (Fq.mono (fq12_isCut  g3) (by decide)) ?_
    by_cases c4 : r34 = 0
    · replace hf := ite_t c4 hf
      exact fqb12_streets_125  hrc hf
    · replace hf := ite_f c4 hf
      obtain ⟨v38, ev38, hf⟩ := lt_x hf
      exact fqb12_streets_125  hrc hf
theorem fqb12_streets_0   {rc : Nat → List Int32 → List Int64 → Mem → Option (Int32 × Mem)} {n : Nat} {r : Int32} {M' : Mem} (hrc : ∀ pc li lj M, rc pc li lj M = some (r, M') → Fq CSY [(0, 9)] M M') {a1 : Int32} {M : Mem} (hf : b12_streets_0  rc n a1 M = some (r, M')) : Fq CSY [(0, 9)] M M' := by
  unfold b12_streets_0 at hf
  obtain ⟨r1, M2, g1, hf⟩ := bnd_s hf
  refine Fq.trans (Fq.mono (fq12_cameTo  g1) (by decide)) ?_
  by_cases c2 : a1 = (0 : Int32)
  · replace hf := ite_t c2 hf
    obtain ⟨r5, M6, g3, hf⟩ := bnd_s hf
    refine Fq.trans (Fq.mono (fq12_islands  g3) (by decide)) ?_
    exact Fq.of hf
  · replace hf := ite_f c2 hf
    by_cases c4 : a1 = (1 : Int32)
    · replace hf := ite_t c4 hf
      obtain ⟨r9, M10, g5, hf⟩ := bnd_s hf
      refine Fq.trans (Fq.mono (fq12_withNeighbours  g5) (by decide)) ?_
      exact Fq.of hf
    · replace hf := ite_f c4 hf
      by_cases c6 : a1 = (2 : Int32)
      · replace hf := ite_t c6 hf
        obtain ⟨r13, M14, g7, hf⟩ := bnd_s hf
        refine Fq.trans (Fq.mono (fq12_twos  g7) (by decide)) ?_
        obtain ⟨r16, M17, g8, hf⟩ := bnd_s hf
        refine Fq.trans (Fq.mono (fq12_openPlaces  g8) (by decide)) ?_
        obtain ⟨r19, M20, g9, hf⟩ := bnd_s hf
        refine Fq.trans (Fq.mono (fq12_islands  g9) (by decide)) ?_
        exact Fq.of hf
      · replace hf := ite_f c6 hf
        by_cases c10 : a1 = (3 : Int32)
        · replace hf := ite_t c10 hf
          obtain ⟨r23, M24, g11, hf⟩ := bnd_s hf
          refine Fq.trans (Fq.mono (fq12_withNeighbours  g11) (by decide)) ?_
          exact Fq.of hf
        · replace hf := ite_f c10 hf
          by_cases c12 : a1 = (4 : Int32)
          · replace hf := ite_t c12 hf
            obtain ⟨r27, M28, g13, hf⟩ := bnd_s hf
            refine Fq.trans (Fq.mono (fq12_openPlaces  g13) (by decide)) ?_
            exact Fq.of hf
          · replace hf := ite_f c12 hf
            by_cases c14 : a1 = (5 : Int32)
            · replace hf := ite_t c14 hf
              exact fqb12_streets_99  hrc hf
            · replace hf := ite_f c14 hf
              by_cases c15 : a1 = (6 : Int32)
              · replace hf := ite_t c15 hf
                exact fqb12_streets_99  hrc hf
              · replace hf := ite_f c15 hf
                exact Fq.of hf
theorem fql12_streets   {r : Int32} {M' : Mem} (n : Nat) : ∀ pc li lj M, r12_streets  n pc li lj M = some (r, M') → Fq CSY [(0, 9)] M M' := by
  induction n with
  | zero => intro pc li lj M hf; cases hf
  | succ n ih =>
    intro pc li lj M hf
    rw [r12_streets] at hf
    dsimp only at hf
    by_cases c99 : pc = 99
    · replace hf := ite_t c99 hf
      split at hf
      · exact fqb12_streets_99  ih hf
      · cases hf
    replace hf := ite_f c99 hf
    cases hf
theorem fq12_streets   {n : Nat} {a1 : Int32} {M M' : Mem} {r : Int32} (hf : f12_streets n  a1 M = some (r, M')) : Fq CSY [(0, 9)] M M' := fqb12_streets_0  (fql12_streets  n) hf
theorem fqb12_seed_0   {rc : Nat → List Int32 → List Int64 → Mem → Option (Int32 × Mem)} {n : Nat} {r : Int32} {M' : Mem} (hrc : ∀ pc li lj M, rc pc li lj M = some (r, M') → Fq CSY [] M M') {a1 : Int32} {M : Mem} (hf : b12_seed_0  rc n a1 M = some (r, M')) : Fq CSY [] M M' := by
  unfold b12_seed_0 at hf
  obtain ⟨r1, M2, g1, hf⟩ := bnd_s hf
  refine Fq.trans (Fq.mono (fq12_in  g1) (by decide)) ?_
  by_cases c2 : r1 = 0
  · replace hf := ite_t c2 hf
    exact Fq.of hf
  · replace hf := ite_f c2 hf
    replace hf := chk_2 hf
    obtain ⟨M6, eM6, hf⟩ := lt_x hf
    refine Fq_wIn eM6 (by decide) ?_
    exact Fq.of hf
theorem fq12_seed   {n : Nat} {a1 : Int32} {M M' : Mem} {r : Int32} (hf : f12_seed n  a1 M = some (r, M')) : Fq CSY [] M M' := fqb12_seed_0  (fun _ _ _ _ h => by cases h) hf
theorem fqb12_keep_0   {rc : Nat → List Int32 → List Int64 → Mem → Option (Int32 × Mem)} {n : Nat} {r : Int32} {M' : Mem} (hrc : ∀ pc li lj M, rc pc li lj M = some (r, M') → Fq CSY [(0, 53)] M M')  {M : Mem} (hf : b12_keep_0  rc n  M = some (r, M')) : Fq CSY [(0, 53)] M M' := by
  unfold b12_keep_0 at hf
  obtain ⟨M1, eM1, hf⟩ := lt_x hf
  refine Fq_wI eM1 (by decide) ?_
  obtain ⟨r2, M3, g1, hf⟩ := bnd_s hf
  refine Fq.trans (Fq.mono (fq12_copies (by decide) g1) (by decide)) ?_
  replace hf := chk_2 hf
  exact Fq.of hf
theorem fq12_keep   {n : Nat}  {M M' : Mem} {r : Int32} (hf : f12_keep n   M = some (r, M')) : Fq CSY [(0, 53)] M M' := fqb12_keep_0  (fun _ _ _ _ h => by cases h) hf
theorem fqb12_undo_0   {rc : Nat → List Int32 → List Int64 → Mem → Option (Int32 × Mem)} {n : Nat} {r : Int32} {M' : Mem} (hrc : ∀ pc li lj M, rc pc li lj M = some (r, M') → Fq CSY [] M M')  {M : Mem} (hf : b12_undo_0  rc n  M = some (r, M')) : Fq CSY [] M M' := by
  unfold b12_undo_0 at hf
  by_cases c1 : (M.1 0 53) = 0
  · replace hf := ite_t c1 hf
    exact Fq.of hf
  · replace hf := ite_f c1 hf
    obtain ⟨r2, M3, g2, hf⟩ := bnd_s hf
    refine Fq.trans (Fq.mono (fq12_copies (by decide) g2) (by decide)) ?_
    exact Fq.of hf
theorem fq12_undo   {n : Nat}  {M M' : Mem} {r : Int32} (hf : f12_undo n   M = some (r, M')) : Fq CSY [] M M' := fqb12_undo_0  (fun _ _ _ _ h => by cases h) hf
theorem fqb12_check_28   {rc : Nat → List Int32 → List Int64 → Mem → Option (Int32 × Mem)} {n : Nat} {r : Int32} {M' : Mem} (hrc : ∀ pc li lj M, rc pc li lj M = some (r, M') → Fq CSY [(0, 11)] M M')  {M : Mem} (hf : b12_check_28  rc n  M = some (r, M')) : Fq CSY [(0, 11)] M M' := by
  unfold b12_check_28 at hf
  exact Fq.of hf
theorem fqb12_check_38   {rc : Nat → List Int32 → List Int64 → Mem → Option (Int32 × Mem)} {n : Nat} {r : Int32} {M' : Mem} (hrc : ∀ pc li lj M, rc pc li lj M = some (r, M') → Fq CSY [(0, 11)] M M') {i1 : Int32} {i2 : Int32} {i3 : Int32} {M : Mem} (hf : b12_check_38  rc n i1 i2 i3 M = some (r, M')) : Fq CSY [(0, 11)] M M' := by
  unfold b12_check_38 at hf
  by_cases c1 : i2 ≤ i3
  · replace hf := ite_t c1 hf
    exact Fq.of hf
  · replace hf := ite_f c1 hf
    obtain ⟨r12, M13, g2, hf⟩ := bnd_s hf
    refine Fq.trans (Fq.mono (fq12_octet  g2) (by decide)) ?_
    replace hf := chk_2 hf
    by_cases c3 : r12 = ((M13.1 1 (((0 : Int32) + ((12 : Int32) * i1)) + i3).toNatClampNeg) - (M13.1 1 (((0 : Int32) + ((12 : Int32) * i1)) + i3).toNatClampNeg) / (256 : Int32) * (256 : Int32))
    · replace hf := ite_t c3 hf
      obtain ⟨v17, ev17, hf⟩ := lt_x hf
      exact hrc _ _ _ _ hf
    · replace hf := ite_f c3 hf
      exact Fq.of hf
theorem fqb12_check_0   {rc : Nat → List Int32 → List Int64 → Mem → Option (Int32 × Mem)} {n : Nat} {r : Int32} {M' : Mem} (hrc : ∀ pc li lj M, rc pc li lj M = some (r, M') → Fq CSY [(0, 11)] M M') {a1 : Int32} {a2 : Int32} {M : Mem} (hf : b12_check_0  rc n a1 a2 M = some (r, M')) : Fq CSY [(0, 11)] M M' := by
  unfold b12_check_0 at hf
  obtain ⟨r1, M2, g1, hf⟩ := bnd_s hf
  refine Fq.trans (Fq.mono (fq12_in  g1) (by decide)) ?_
  by_cases c2 : r1 = 0
  · replace hf := ite_t c2 hf
    exact fqb12_check_28  hrc hf
  · replace hf := ite_f c2 hf
    obtain ⟨r5, M6, g3, hf⟩ := bnd_s hf
    refine Fq.trans (Fq.mono (fq12_in  g3) (by decide)) ?_
    by_cases c4 : r5 = 0
    · replace hf := ite_t c4 hf
      exact fqb12_check_28  hrc hf
    · replace hf := ite_f c4 hf
      by_cases c5 : a2 ≤ (M6.1 0 11)
      · replace hf := ite_t c5 hf
        obtain ⟨M10, eM10, hf⟩ := lt_x hf
        refine Fq_wI eM10 (by decide) ?_
        exact fqb12_check_38  hrc hf
      · replace hf := ite_f c5 hf
        exact fqb12_check_28  hrc hf
theorem fql12_check   {r : Int32} {M' : Mem} (n : Nat) : ∀ pc li lj M, r12_check  n pc li lj M = some (r, M') → Fq CSY [(0, 11)] M M' := by
  induction n with
  | zero => intro pc li lj M hf; cases hf
  | succ n ih =>
    intro pc li lj M hf
    rw [r12_check] at hf
    dsimp only at hf
    by_cases c38 : pc = 38
    · replace hf := ite_t c38 hf
      split at hf
      · exact fqb12_check_38  ih hf
      · cases hf
    replace hf := ite_f c38 hf
    cases hf
theorem fq12_check   {n : Nat} {a1 : Int32} {a2 : Int32} {M M' : Mem} {r : Int32} (hf : f12_check n  a1 a2 M = some (r, M')) : Fq CSY [(0, 11)] M M' := fqb12_check_0  (fql12_check  n) hf
theorem fqb12_count_92   {rc : Nat → List Int32 → List Int64 → Mem → Option (Int32 × Mem)} {n : Nat} {r : Int32} {M' : Mem} (hrc : ∀ pc li lj M, rc pc li lj M = some (r, M') → Fq CSY [] M M') {i3 : Int32} {s0 : Int32} {s1 : Int32} {M : Mem} (hf : b12_count_92  rc n i3 s0 s1 M = some (r, M')) : Fq CSY [] M M' := by
  unfold b12_count_92 at hf
  obtain ⟨v34, ev34, hf⟩ := lt_x hf
  obtain ⟨v35, ev35, hf⟩ := lt_x hf
  exact hrc _ _ _ _ hf
theorem fqb12_count_68   {rc : Nat → List Int32 → List Int64 → Mem → Option (Int32 × Mem)} {n : Nat} {r : Int32} {M' : Mem} (hrc : ∀ pc li lj M, rc pc li lj M = some (r, M') → Fq CSY [] M M') {i2 : Int32} {i3 : Int32} {M : Mem} (hf : b12_count_68  rc n i2 i3 M = some (r, M')) : Fq CSY [] M M' := by
  unfold b12_count_68 at hf
  by_cases c1 : (9 : Int32) < i3
  · replace hf := ite_t c1 hf
    exact Fq.of hf
  · replace hf := ite_f c1 hf
    replace hf := chk_2 hf
    by_cases c2 : (M.1 5 i3.toNatClampNeg) = (-1 : Int32)
    · replace hf := ite_t c2 hf
      exact fqb12_count_92  hrc hf
    · replace hf := ite_f c2 hf
      exact fqb12_count_92  hrc hf
theorem fqb12_count_128   {rc : Nat → List Int32 → List Int64 → Mem → Option (Int32 × Mem)} {n : Nat} {r : Int32} {M' : Mem} (hrc : ∀ pc li lj M, rc pc li lj M = some (r, M') → Fq CSY [] M M') {i2 : Int32} {i3 : Int32} {M : Mem} (hf : b12_count_128  rc n i2 i3 M = some (r, M')) : Fq CSY [] M M' := by
  unfold b12_count_128 at hf
  by_cases c1 : (96 : Int32) ≤ i3
  · replace hf := ite_t c1 hf
    exact Fq.of hf
  · replace hf := ite_f c1 hf
    replace hf := chk_2 hf
    obtain ⟨v29, ev29, hf⟩ := lt_x hf
    obtain ⟨v30, ev30, hf⟩ := lt_x hf
    exact hrc _ _ _ _ hf
theorem fqb12_count_0   {rc : Nat → List Int32 → List Int64 → Mem → Option (Int32 × Mem)} {n : Nat} {r : Int32} {M' : Mem} (hrc : ∀ pc li lj M, rc pc li lj M = some (r, M') → Fq CSY [] M M') {a1 : Int32} {M : Mem} (hf : b12_count_0  rc n a1 M = some (r, M')) : Fq CSY [] M M' := by
  unfold b12_count_0 at hf
  by_cases c1 : a1 = (0 : Int32)
  · replace hf := ite_t c1 hf
    replace hf := chk_2 hf
    exact Fq.of hf
  · replace hf := ite_f c1 hf
    by_cases c2 : a1 = (1 : Int32)
    · replace hf := ite_t c2 hf
      exact Fq.of hf
    · replace hf := ite_f c2 hf
      by_cases c3 : a1 = (2 : Int32)
      · replace hf := ite_t c3 hf
        exact fqb12_count_68  hrc hf
      · replace hf := ite_f c3 hf
        by_cases c4 : a1 = (3 : Int32)
        · replace hf := ite_t c4 hf
          exact Fq.of hf
        · replace hf := ite_f c4 hf
          by_cases c5 : a1 = (4 : Int32)
          · replace hf := ite_t c5 hf
            exact Fq.of hf
          · replace hf := ite_f c5 hf
            by_cases c6 : a1 = (5 : Int32)
            · replace hf := ite_t c6 hf
              exact Fq.of hf
            · replace hf := ite_f c6 hf
              by_cases c7 : a1 = (6 : Int32)
              · replace hf := ite_t c7 hf
                replace hf := chk_2 hf
                exact Fq.of hf
              · replace hf := ite_f c7 hf
                by_cases c8 : a1 = (7 : Int32)
                · replace hf := ite_t c8 hf
                  exact fqb12_count_128  hrc hf
                · replace hf := ite_f c8 hf
                  by_cases c9 : a1 = (8 : Int32)
                  · replace hf := ite_t c9 hf
                    obtain ⟨r12, M13, g10, hf⟩ := bnd_s hf
                    refine Fq.trans (Fq.mono (fq12_allWeights  g10) (by decide)) ?_
                    exact Fq.of hf
                  · replace hf := ite_f c9 hf
                    obtain ⟨r15, M16, g11, hf⟩ := bnd_s hf
                    refine Fq.trans (Fq.mono (fq12_in  g11) (by decide)) ?_
                    by_cases c12 : r15 = 0
                    · replace hf := ite_t c12 hf
                      obtain ⟨r19, M20, g13, hf⟩ := bnd_s hf
                      refine Fq.trans (Fq.mono (fq12_in  g13) (by decide)) ?_
                      by_cases c14 : r19 = 0
                      · replace hf := ite_t c14 hf
                        exact Fq.of hf
                      · replace hf := ite_f c14 hf
                        obtain ⟨r23, M24, g15, hf⟩ := bnd_s hf
                        refine Fq.trans (Fq.mono (fq12_weightOf  g15) (by decide)) ?_
                        exact Fq.of hf
                    · replace hf := ite_f c12 hf
                      replace hf := chk_2 hf
                      exact Fq.of hf
theorem fql12_count   {r : Int32} {M' : Mem} (n : Nat) : ∀ pc li lj M, r12_count  n pc li lj M = some (r, M') → Fq CSY [] M M' := by
  induction n with
  | zero => intro pc li lj M hf; cases hf
  | succ n ih =>
    intro pc li lj M hf
    rw [r12_count] at hf
    dsimp only at hf
    by_cases c68 : pc = 68
    · replace hf := ite_t c68 hf
      split at hf
      · exact fqb12_count_68  ih hf
      · cases hf
    replace hf := ite_f c68 hf
    by_cases c128 : pc = 128
    · replace hf := ite_t c128 hf
      split at hf
      · exact fqb12_count_128  ih hf
      · cases hf
    replace hf := ite_f c128 hf
    cases hf
theorem fq12_count   {n : Nat} {a1 : Int32} {M M' : Mem} {r : Int32} (hf : f12_count n  a1 M = some (r, M')) : Fq CSY [] M M' := fqb12_count_0  (fql12_count  n) hf
