theorem fqb12_copies_2 {k0 : Nat} {k1 : Nat} (hv0 : k1 ∉ CSY) {rc : Nat → List Int32 → List Int64 → Mem → Option (Unit × Mem)} {n : Nat} {r : Unit} {M' : Mem} (hrc : ∀ pc li lj M, rc pc li lj M = some (r, M') → Fq CSY [] M M') {i2 : Int32} {M : Mem} (hf : b12_copies_2 k0 k1 rc n i2 M = some (r, M')) : Fq CSY [] M M' := by
  unfold b12_copies_2 at hf
  by_cases c1 : (162 : Int32) ≤ i2
  · replace hf := ite_t c1 hf
    exact Fq.of hf
  · replace hf := ite_f c1 hf
    replace hf := chk_2 hf
    replace hf := chk_2 hf
    obtain ⟨M4, eM4, hf⟩ := lt_x hf
    refine Fq_wIn eM4 hv0 ?_
    obtain ⟨v5, ev5, hf⟩ := lt_x hf
    exact hrc _ _ _ _ hf
theorem fqb12_copies_0 {k0 : Nat} {k1 : Nat} (hv0 : k1 ∉ CSY) {rc : Nat → List Int32 → List Int64 → Mem → Option (Unit × Mem)} {n : Nat} {r : Unit} {M' : Mem} (hrc : ∀ pc li lj M, rc pc li lj M = some (r, M') → Fq CSY [] M M')  {M : Mem} (hf : b12_copies_0 k0 k1 rc n  M = some (r, M')) : Fq CSY [] M M' := by
  unfold b12_copies_0 at hf
  exact fqb12_copies_2 hv0 hrc hf
theorem fql12_copies {k0 : Nat} {k1 : Nat} (hv0 : k1 ∉ CSY) {r : Unit} {M' : Mem} (n : Nat) : ∀ pc li lj M, r12_copies k0 k1 n pc li lj M = some (r, M') → Fq CSY [] M M' := by
  induction n with
  | zero => intro pc li lj M hf; cases hf
  | succ n ih =>
    intro pc li lj M hf
    rw [r12_copies] at hf
    dsimp only at hf
    by_cases c2 : pc = 2
    · replace hf := ite_t c2 hf
      split at hf
      · exact fqb12_copies_2 hv0 ih hf
      · cases hf
    replace hf := ite_f c2 hf
    cases hf
theorem fq12_copies {k0 : Nat} {k1 : Nat} (hv0 : k1 ∉ CSY) {n : Nat}  {M M' : Mem} {r : Unit} (hf : f12_copies n k0 k1  M = some (r, M')) : Fq CSY [] M M' := fqb12_copies_0 hv0 (fql12_copies hv0 n) hf
theorem fqb12_isPlace_24   {rc : Nat → List Int32 → List Int64 → Mem → Option (Int32 × Mem)} {n : Nat} {r : Int32} {M' : Mem} (hrc : ∀ pc li lj M, rc pc li lj M = some (r, M') → Fq CSY [] M M')  {M : Mem} (hf : b12_isPlace_24  rc n  M = some (r, M')) : Fq CSY [] M M' := by
  unfold b12_isPlace_24 at hf
  exact Fq.of hf
theorem fqb12_isPlace_0   {rc : Nat → List Int32 → List Int64 → Mem → Option (Int32 × Mem)} {n : Nat} {r : Int32} {M' : Mem} (hrc : ∀ pc li lj M, rc pc li lj M = some (r, M') → Fq CSY [] M M') {a0 : Int32} {a1 : Int32} {M : Mem} (hf : b12_isPlace_0  rc n a0 a1 M = some (r, M')) : Fq CSY [] M M' := by
  unfold b12_isPlace_0 at hf
  obtain ⟨r1, M2, g1, hf⟩ := bnd_s hf
  refine Fq.trans (Fq.mono (fq12_in  g1) (by decide)) ?_
  by_cases c2 : r1 = 0
  · replace hf := ite_t c2 hf
    exact fqb12_isPlace_24  hrc hf
  · replace hf := ite_f c2 hf
    obtain ⟨r5, M6, g3, hf⟩ := bnd_s hf
    refine Fq.trans (Fq.mono (fq12_in  g3) (by decide)) ?_
    by_cases c4 : r5 = 0
    · replace hf := ite_t c4 hf
      exact fqb12_isPlace_24  hrc hf
    · replace hf := ite_f c4 hf
      exact Fq.of hf
theorem fq12_isPlace   {n : Nat} {a0 : Int32} {a1 : Int32} {M M' : Mem} {r : Int32} (hf : f12_isPlace n  a0 a1 M = some (r, M')) : Fq CSY [] M M' := fqb12_isPlace_0  (fun _ _ _ _ h => by cases h) hf
theorem fqb12_isOpen_18   {rc : Nat → List Int32 → List Int64 → Mem → Option (Int32 × Mem)} {n : Nat} {r : Int32} {M' : Mem} (hrc : ∀ pc li lj M, rc pc li lj M = some (r, M') → Fq CSY [] M M')  {M : Mem} (hf : b12_isOpen_18  rc n  M = some (r, M')) : Fq CSY [] M M' := by
  unfold b12_isOpen_18 at hf
  exact Fq.of hf
theorem fqb12_isOpen_0   {rc : Nat → List Int32 → List Int64 → Mem → Option (Int32 × Mem)} {n : Nat} {r : Int32} {M' : Mem} (hrc : ∀ pc li lj M, rc pc li lj M = some (r, M') → Fq CSY [] M M') {a1 : Int32} {M : Mem} (hf : b12_isOpen_0  rc n a1 M = some (r, M')) : Fq CSY [] M M' := by
  unfold b12_isOpen_0 at hf
  by_cases c1 : a1 = (M.1 0 5)
  · replace hf := ite_t c1 hf
    exact fqb12_isOpen_18  hrc hf
  · replace hf := ite_f c1 hf
    have h2 := chk_1 hf
    replace hf := chk_2 hf
    by_cases c3 : (M.1 4 a1.toNatClampNeg) = (2 : Int32)
    · replace hf := ite_t c3 hf
      exact fqb12_isOpen_18  hrc hf
    · replace hf := ite_f c3 hf
      exact Fq.of hf
theorem fq12_isOpen   {n : Nat} {a1 : Int32} {M M' : Mem} {r : Int32} (hf : f12_isOpen n  a1 M = some (r, M')) : Fq CSY [] M M' := fqb12_isOpen_0  (fun _ _ _ _ h => by cases h) hf
theorem fqb12_square_0   {rc : Nat → List Int32 → List Int64 → Mem → Option (Int32 × Mem)} {n : Nat} {r : Int32} {M' : Mem} (hrc : ∀ pc li lj M, rc pc li lj M = some (r, M') → Fq CSY [(0, 5), (0, 9)] M M') {a1 : Int32} {a2 : Int32} {M : Mem} (hf : b12_square_0  rc n a1 a2 M = some (r, M')) : Fq CSY [(0, 5), (0, 9)] M M' := by
  unfold b12_square_0 at hf
  obtain ⟨r1, M2, g1, hf⟩ := bnd_s hf
  refine Fq.trans (Fq.mono (fq12_isPlace  g1) (by decide)) ?_
  by_cases c2 : r1 = 0
  · replace hf := ite_t c2 hf
    exact Fq.of hf
  · replace hf := ite_f c2 hf
    obtain ⟨M5, eM5, hf⟩ := lt_x hf
    refine Fq_wI eM5 (by decide) ?_
    obtain ⟨M6, eM6, hf⟩ := lt_x hf
    refine Fq_wI eM6 (by decide) ?_
    exact Fq.of hf
theorem fq12_square   {n : Nat} {a1 : Int32} {a2 : Int32} {M M' : Mem} {r : Int32} (hf : f12_square n  a1 a2 M = some (r, M')) : Fq CSY [(0, 5), (0, 9)] M M' := fqb12_square_0  (fun _ _ _ _ h => by cases h) hf
theorem fqb12_door_18   {rc : Nat → List Int32 → List Int64 → Mem → Option (Int32 × Mem)} {n : Nat} {r : Int32} {M' : Mem} (hrc : ∀ pc li lj M, rc pc li lj M = some (r, M') → Fq CSY [] M M')  {M : Mem} (hf : b12_door_18  rc n  M = some (r, M')) : Fq CSY [] M M' := by
  unfold b12_door_18 at hf
  exact Fq.of hf
theorem fqb12_door_0   {rc : Nat → List Int32 → List Int64 → Mem → Option (Int32 × Mem)} {n : Nat} {r : Int32} {M' : Mem} (hrc : ∀ pc li lj M, rc pc li lj M = some (r, M') → Fq CSY [] M M') {a1 : Int32} {a2 : Int32} {a3 : Int32} {M : Mem} (hf : b12_door_0  rc n a1 a2 a3 M = some (r, M')) : Fq CSY [] M M' := by
  unfold b12_door_0 at hf
  obtain ⟨r1, M2, g1, hf⟩ := bnd_s hf
  refine Fq.trans (Fq.mono (fq12_in  g1) (by decide)) ?_
  by_cases c2 : r1 = 0
  · replace hf := ite_t c2 hf
    exact fqb12_door_18  hrc hf
  · replace hf := ite_f c2 hf
    obtain ⟨r5, M6, g3, hf⟩ := bnd_s hf
    refine Fq.trans (Fq.mono (fq12_isPlace  g3) (by decide)) ?_
    by_cases c4 : r5 = 0
    · replace hf := ite_t c4 hf
      exact fqb12_door_18  hrc hf
    · replace hf := ite_f c4 hf
      replace hf := chk_2 hf
      obtain ⟨M10, eM10, hf⟩ := lt_x hf
      refine Fq_wIn eM10 (by decide) ?_
      exact Fq.of hf
theorem fq12_door   {n : Nat} {a1 : Int32} {a2 : Int32} {a3 : Int32} {M M' : Mem} {r : Int32} (hf : f12_door n  a1 a2 a3 M = some (r, M')) : Fq CSY [] M M' := fqb12_door_0  (fun _ _ _ _ h => by cases h) hf
theorem fqb12_beside_47   {rc : Nat → List Int32 → List Int64 → Mem → Option (Int32 × Mem)} {n : Nat} {r : Int32} {M' : Mem} (hrc : ∀ pc li lj M, rc pc li lj M = some (r, M') → Fq CSY [] M M') {i2 : Int32} {s0 : Int32} {s1 : Int32} {M : Mem} (hf : b12_beside_47  rc n i2 s0 s1 M = some (r, M')) : Fq CSY [] M M' := by
  unfold b12_beside_47 at hf
  obtain ⟨v6, ev6, hf⟩ := lt_x hf
  obtain ⟨r7, M8, g1, hf⟩ := bnd_s hf
  refine Fq.trans (Fq.mono (fq12_isPlace  g1) (by decide)) ?_
  by_cases c2 : r7 = 0
  · replace hf := ite_t c2 hf
    exact Fq.of hf
  · replace hf := ite_f c2 hf
    exact Fq.of hf
theorem fqb12_beside_23   {rc : Nat → List Int32 → List Int64 → Mem → Option (Int32 × Mem)} {n : Nat} {r : Int32} {M' : Mem} (hrc : ∀ pc li lj M, rc pc li lj M = some (r, M') → Fq CSY [] M M') {i0 : Int32} {i1 : Int32} {s0 : Int32} {s1 : Int32} {M : Mem} (hf : b12_beside_23  rc n i0 i1 s0 s1 M = some (r, M')) : Fq CSY [] M M' := by
  unfold b12_beside_23 at hf
  obtain ⟨v3, ev3, hf⟩ := lt_x hf
  by_cases c1 : i1 = (2 : Int32)
  · replace hf := ite_t c1 hf
    exact fqb12_beside_47  hrc hf
  · replace hf := ite_f c1 hf
    by_cases c2 : i1 = 0
    · replace hf := ite_t c2 hf
      exact fqb12_beside_47  hrc hf
    · replace hf := ite_f c2 hf
      exact fqb12_beside_47  hrc hf
theorem fqb12_beside_0   {rc : Nat → List Int32 → List Int64 → Mem → Option (Int32 × Mem)} {n : Nat} {r : Int32} {M' : Mem} (hrc : ∀ pc li lj M, rc pc li lj M = some (r, M') → Fq CSY [] M M') {a0 : Int32} {a1 : Int32} {M : Mem} (hf : b12_beside_0  rc n a0 a1 M = some (r, M')) : Fq CSY [] M M' := by
  unfold b12_beside_0 at hf
  by_cases c1 : a1 = (1 : Int32)
  · replace hf := ite_t c1 hf
    exact fqb12_beside_23  hrc hf
  · replace hf := ite_f c1 hf
    by_cases c2 : a1 = (3 : Int32)
    · replace hf := ite_t c2 hf
      exact fqb12_beside_23  hrc hf
    · replace hf := ite_f c2 hf
      exact fqb12_beside_23  hrc hf
theorem fq12_beside   {n : Nat} {a0 : Int32} {a1 : Int32} {M M' : Mem} {r : Int32} (hf : f12_beside n  a0 a1 M = some (r, M')) : Fq CSY [] M M' := fqb12_beside_0  (fun _ _ _ _ h => by cases h) hf
theorem fqb12_laysFrom_164   {rc : Nat → List Int32 → List Int64 → Mem → Option (Unit × Mem)} {n : Nat} {r : Unit} {M' : Mem} (hrc : ∀ pc li lj M, rc pc li lj M = some (r, M') → Fq CSY [] M M') {i1 : Int32} {i2 : Int32} {i3 : Int32} {i4 : Int32} {M : Mem} (hf : b12_laysFrom_164  rc n i1 i2 i3 i4 M = some (r, M')) : Fq CSY [] M M' := by
  unfold b12_laysFrom_164 at hf
  obtain ⟨v34, ev34, hf⟩ := lt_x hf
  exact hrc _ _ _ _ hf
theorem fqb12_laysFrom_67   {rc : Nat → List Int32 → List Int64 → Mem → Option (Unit × Mem)} {n : Nat} {r : Unit} {M' : Mem} (hrc : ∀ pc li lj M, rc pc li lj M = some (r, M') → Fq CSY [] M M') {i1 : Int32} {i2 : Int32} {i3 : Int32} {i4 : Int32} {M : Mem} (hf : b12_laysFrom_67  rc n i1 i2 i3 i4 M = some (r, M')) : Fq CSY [] M M' := by
  unfold b12_laysFrom_67 at hf
  by_cases c1 : (4 : Int32) ≤ i4
  · replace hf := ite_t c1 hf
    obtain ⟨v15, ev15, hf⟩ := lt_x hf
    exact hrc _ _ _ _ hf
  · replace hf := ite_f c1 hf
    have h2 := chk_1 hf
    replace hf := chk_2 hf
    obtain ⟨r17, M18, g3, hf⟩ := bnd_s hf
    refine Fq.trans (Fq.mono (fq12_beside  g3) (by decide)) ?_
    by_cases c4 : r17 = (-1 : Int32)
    · replace hf := ite_t c4 hf
      exact fqb12_laysFrom_164  hrc hf
    · replace hf := ite_f c4 hf
      obtain ⟨r21, M22, g5, hf⟩ := bnd_s hf
      refine Fq.trans (Fq.mono (fq12_isOpen  g5) (by decide)) ?_
      by_cases c6 : r21 = 0
      · replace hf := ite_t c6 hf
        exact fqb12_laysFrom_164  hrc hf
      · replace hf := ite_f c6 hf
        replace hf := chk_2 hf
        by_cases c7 : (M22.1 6 (((96 : Int32) * i1) + r17).toNatClampNeg) = (99 : Int32)
        · replace hf := ite_t c7 hf
          have h8 := chk_1 hf
          replace hf := chk_2 hf
          replace hf := chk_2 hf
          replace hf := chk_2 hf
          obtain ⟨M30, eM30, hf⟩ := lt_x hf
          refine Fq_wIn eM30 (by decide) ?_
          have h9 := chk_1 hf
          replace hf := chk_2 hf
          obtain ⟨M32, eM32, hf⟩ := lt_x hf
          refine Fq_wIn eM32 (by decide) ?_
          obtain ⟨v33, ev33, hf⟩ := lt_x hf
          exact fqb12_laysFrom_164  hrc hf
        · replace hf := ite_f c7 hf
          exact fqb12_laysFrom_164  hrc hf
theorem fqb12_laysFrom_59   {rc : Nat → List Int32 → List Int64 → Mem → Option (Unit × Mem)} {n : Nat} {r : Unit} {M' : Mem} (hrc : ∀ pc li lj M, rc pc li lj M = some (r, M') → Fq CSY [] M M') {i1 : Int32} {i2 : Int32} {i3 : Int32} {M : Mem} (hf : b12_laysFrom_59  rc n i1 i2 i3 M = some (r, M')) : Fq CSY [] M M' := by
  unfold b12_laysFrom_59 at hf
  by_cases c1 : i2 ≤ i3
  · replace hf := ite_t c1 hf
    exact Fq.of hf
  · replace hf := ite_f c1 hf
    exact fqb12_laysFrom_67  hrc hf
theorem fqb12_laysFrom_2   {rc : Nat → List Int32 → List Int64 → Mem → Option (Unit × Mem)} {n : Nat} {r : Unit} {M' : Mem} (hrc : ∀ pc li lj M, rc pc li lj M = some (r, M') → Fq CSY [] M M') {i1 : Int32} {i2 : Int32} {M : Mem} (hf : b12_laysFrom_2  rc n i1 i2 M = some (r, M')) : Fq CSY [] M M' := by
  unfold b12_laysFrom_2 at hf
  by_cases c1 : (96 : Int32) ≤ i2
  · replace hf := ite_t c1 hf
    obtain ⟨r2, M3, g2, hf⟩ := bnd_s hf
    refine Fq.trans (Fq.mono (fq12_isOpen  g2) (by decide)) ?_
    by_cases c3 : r2 = 0
    · replace hf := ite_t c3 hf
      exact Fq.of hf
    · replace hf := ite_f c3 hf
      replace hf := chk_2 hf
      obtain ⟨M7, eM7, hf⟩ := lt_x hf
      refine Fq_wIn eM7 (by decide) ?_
      have h4 := chk_1 hf
      replace hf := chk_2 hf
      obtain ⟨M9, eM9, hf⟩ := lt_x hf
      refine Fq_wIn eM9 (by decide) ?_
      exact fqb12_laysFrom_59  hrc hf
  · replace hf := ite_f c1 hf
    replace hf := chk_2 hf
    obtain ⟨M11, eM11, hf⟩ := lt_x hf
    refine Fq_wIn eM11 (by decide) ?_
    obtain ⟨v12, ev12, hf⟩ := lt_x hf
    exact hrc _ _ _ _ hf
theorem fqb12_laysFrom_0   {rc : Nat → List Int32 → List Int64 → Mem → Option (Unit × Mem)} {n : Nat} {r : Unit} {M' : Mem} (hrc : ∀ pc li lj M, rc pc li lj M = some (r, M') → Fq CSY [] M M') {a1 : Int32} {M : Mem} (hf : b12_laysFrom_0  rc n a1 M = some (r, M')) : Fq CSY [] M M' := by
  unfold b12_laysFrom_0 at hf
  exact fqb12_laysFrom_2  hrc hf
theorem fql12_laysFrom   {r : Unit} {M' : Mem} (n : Nat) : ∀ pc li lj M, r12_laysFrom  n pc li lj M = some (r, M') → Fq CSY [] M M' := by
  induction n with
  | zero => intro pc li lj M hf; cases hf
  | succ n ih =>
    intro pc li lj M hf
    rw [r12_laysFrom] at hf
    dsimp only at hf
    by_cases c2 : pc = 2
    · replace hf := ite_t c2 hf
      split at hf
      · exact fqb12_laysFrom_2  ih hf
      · cases hf
    replace hf := ite_f c2 hf
    by_cases c59 : pc = 59
    · replace hf := ite_t c59 hf
      split at hf
      · exact fqb12_laysFrom_59  ih hf
      · cases hf
    replace hf := ite_f c59 hf
    by_cases c67 : pc = 67
    · replace hf := ite_t c67 hf
      split at hf
      · exact fqb12_laysFrom_67  ih hf
      · cases hf
    replace hf := ite_f c67 hf
    cases hf
theorem fq12_laysFrom   {n : Nat} {a1 : Int32} {M M' : Mem} {r : Unit} (hf : f12_laysFrom n  a1 M = some (r, M')) : Fq CSY [] M M' := fqb12_laysFrom_0  (fql12_laysFrom  n) hf
theorem fqb12_steps_31   {rc : Nat → List Int32 → List Int64 → Mem → Option (Int32 × Mem)} {n : Nat} {r : Int32} {M' : Mem} (hrc : ∀ pc li lj M, rc pc li lj M = some (r, M') → Fq CSY [(0, 9)] M M') {i1 : Int32} {i2 : Int32} {M : Mem} (hf : b12_steps_31  rc n i1 i2 M = some (r, M')) : Fq CSY [(0, 9)] M M' := by
  unfold b12_steps_31 at hf
  replace hf := chk_2 hf
  exact Fq.of hf
theorem fqb12_steps_9   {rc : Nat → List Int32 → List Int64 → Mem → Option (Int32 × Mem)} {n : Nat} {r : Int32} {M' : Mem} (hrc : ∀ pc li lj M, rc pc li lj M = some (r, M') → Fq CSY [(0, 9)] M M') {i1 : Int32} {i2 : Int32} {i3 : Int32} {M : Mem} (hf : b12_steps_9  rc n i1 i2 i3 M = some (r, M')) : Fq CSY [(0, 9)] M M' := by
  unfold b12_steps_9 at hf
  by_cases c1 : (96 : Int32) ≤ i3
  · replace hf := ite_t c1 hf
    obtain ⟨M3, eM3, hf⟩ := lt_x hf
    refine Fq_wI eM3 (by decide) ?_
    exact fqb12_steps_31  hrc hf
  · replace hf := ite_f c1 hf
    obtain ⟨r4, M5, g2, hf⟩ := bnd_s hf
    refine Fq.trans (Fq.mono (fq12_laysFrom  g2) (by decide)) ?_
    obtain ⟨v7, ev7, hf⟩ := lt_x hf
    exact hrc _ _ _ _ hf
theorem fqb12_steps_0   {rc : Nat → List Int32 → List Int64 → Mem → Option (Int32 × Mem)} {n : Nat} {r : Int32} {M' : Mem} (hrc : ∀ pc li lj M, rc pc li lj M = some (r, M') → Fq CSY [(0, 9)] M M') {a1 : Int32} {a2 : Int32} {M : Mem} (hf : b12_steps_0  rc n a1 a2 M = some (r, M')) : Fq CSY [(0, 9)] M M' := by
  unfold b12_steps_0 at hf
  by_cases c1 : (M.1 0 9) = 0
  · replace hf := ite_t c1 hf
    exact fqb12_steps_9  hrc hf
  · replace hf := ite_f c1 hf
    exact fqb12_steps_31  hrc hf
theorem fql12_steps   {r : Int32} {M' : Mem} (n : Nat) : ∀ pc li lj M, r12_steps  n pc li lj M = some (r, M') → Fq CSY [(0, 9)] M M' := by
  induction n with
  | zero => intro pc li lj M hf; cases hf
  | succ n ih =>
    intro pc li lj M hf
    rw [r12_steps] at hf
    dsimp only at hf
    by_cases c9 : pc = 9
    · replace hf := ite_t c9 hf
      split at hf
      · exact fqb12_steps_9  ih hf
      · cases hf
    replace hf := ite_f c9 hf
    cases hf
theorem fq12_steps   {n : Nat} {a1 : Int32} {a2 : Int32} {M M' : Mem} {r : Int32} (hf : f12_steps n  a1 a2 M = some (r, M')) : Fq CSY [(0, 9)] M M' := fqb12_steps_0  (fql12_steps  n) hf
theorem fqb12_toDoorNine_0   {rc : Nat → List Int32 → List Int64 → Mem → Option (Int32 × Mem)} {n : Nat} {r : Int32} {M' : Mem} (hrc : ∀ pc li lj M, rc pc li lj M = some (r, M') → Fq CSY [(0, 9)] M M') {a1 : Int32} {M : Mem} (hf : b12_toDoorNine_0  rc n a1 M = some (r, M')) : Fq CSY [(0, 9)] M M' := by
  unfold b12_toDoorNine_0 at hf
  replace hf := chk_2 hf
  by_cases c1 : (M.1 5 (9 : Int32).toNatClampNeg) = (-1 : Int32)
  · replace hf := ite_t c1 hf
    exact Fq.of hf
  · replace hf := ite_f c1 hf
    replace hf := chk_2 hf
    obtain ⟨r4, M5, g2, hf⟩ := bnd_s hf
    refine Fq.trans (Fq.mono (fq12_steps  g2) (by decide)) ?_
    exact Fq.of hf
theorem fq12_toDoorNine   {n : Nat} {a1 : Int32} {M M' : Mem} {r : Int32} (hf : f12_toDoorNine n  a1 M = some (r, M')) : Fq CSY [(0, 9)] M M' := fqb12_toDoorNine_0  (fun _ _ _ _ h => by cases h) hf
theorem fqb12_neighbours_34   {rc : Nat → List Int32 → List Int64 → Mem → Option (Int32 × Mem)} {n : Nat} {r : Int32} {M' : Mem} (hrc : ∀ pc li lj M, rc pc li lj M = some (r, M') → Fq CSY [] M M') {i1 : Int32} {i2 : Int32} {i3 : Int32} {M : Mem} (hf : b12_neighbours_34  rc n i1 i2 i3 M = some (r, M')) : Fq CSY [] M M' := by
  unfold b12_neighbours_34 at hf
  obtain ⟨v14, ev14, hf⟩ := lt_x hf
  exact hrc _ _ _ _ hf
theorem fqb12_neighbours_4   {rc : Nat → List Int32 → List Int64 → Mem → Option (Int32 × Mem)} {n : Nat} {r : Int32} {M' : Mem} (hrc : ∀ pc li lj M, rc pc li lj M = some (r, M') → Fq CSY [] M M') {i1 : Int32} {i2 : Int32} {i3 : Int32} {M : Mem} (hf : b12_neighbours_4  rc n i1 i2 i3 M = some (r, M')) : Fq CSY [] M M' := by
  unfold b12_neighbours_4 at hf
  by_cases c1 : (4 : Int32) ≤ i3
  · replace hf := ite_t c1 hf
    exact Fq.of hf
  · replace hf := ite_f c1 hf
    obtain ⟨r2, M3, g2, hf⟩ := bnd_s hf
    refine Fq.trans (Fq.mono (fq12_beside  g2) (by decide)) ?_
    by_cases c3 : r2 = (-1 : Int32)
    · replace hf := ite_t c3 hf
      exact fqb12_neighbours_34  hrc hf
    · replace hf := ite_f c3 hf
      obtain ⟨r6, M7, g4, hf⟩ := bnd_s hf
      refine Fq.trans (Fq.mono (fq12_beside  g4) (by decide)) ?_
      obtain ⟨r9, M10, g5, hf⟩ := bnd_s hf
      refine Fq.trans (Fq.mono (fq12_isOpen  g5) (by decide)) ?_
      by_cases c6 : r9 = 0
      · replace hf := ite_t c6 hf
        exact fqb12_neighbours_34  hrc hf
      · replace hf := ite_f c6 hf
        obtain ⟨v13, ev13, hf⟩ := lt_x hf
        exact fqb12_neighbours_34  hrc hf
theorem fqb12_neighbours_0   {rc : Nat → List Int32 → List Int64 → Mem → Option (Int32 × Mem)} {n : Nat} {r : Int32} {M' : Mem} (hrc : ∀ pc li lj M, rc pc li lj M = some (r, M') → Fq CSY [] M M') {a1 : Int32} {M : Mem} (hf : b12_neighbours_0  rc n a1 M = some (r, M')) : Fq CSY [] M M' := by
  unfold b12_neighbours_0 at hf
  exact fqb12_neighbours_4  hrc hf
theorem fql12_neighbours   {r : Int32} {M' : Mem} (n : Nat) : ∀ pc li lj M, r12_neighbours  n pc li lj M = some (r, M') → Fq CSY [] M M' := by
  induction n with
  | zero => intro pc li lj M hf; cases hf
  | succ n ih =>
    intro pc li lj M hf
    rw [r12_neighbours] at hf
    dsimp only at hf
    by_cases c4 : pc = 4
    · replace hf := ite_t c4 hf
      split at hf
      · exact fqb12_neighbours_4  ih hf
      · cases hf
    replace hf := ite_f c4 hf
    cases hf
theorem fq12_neighbours   {n : Nat} {a1 : Int32} {M M' : Mem} {r : Int32} (hf : f12_neighbours n  a1 M = some (r, M')) : Fq CSY [] M M' := fqb12_neighbours_0  (fql12_neighbours  n) hf
theorem fqb12_types_2   {rc : Nat → List Int32 → List Int64 → Mem → Option (Unit × Mem)} {n : Nat} {r : Unit} {M' : Mem} (hrc : ∀ pc li lj M, rc pc li lj M = some (r, M') → Fq CSY [(0, 11)] M M') {i1 : Int32} {i2 : Int32} {M : Mem} (hf : b12_types_2  rc n i1 i2 M = some (r, M')) : Fq CSY [(0, 11)] M M' := by
  unfold b12_types_2 at hf
  by_cases c1 : i2 < 0
  · replace hf := ite_t c1 hf
    exact Fq.of hf
  · replace hf := ite_f c1 hf
    replace hf := chk_2 hf
    obtain ⟨M3, eM3, hf⟩ := lt_x hf
    refine Fq_wIn eM3 (by decide) ?_
    obtain ⟨M4, eM4, hf⟩ := lt_x hf
    refine Fq_wI eM4 (by decide) ?_
    obtain ⟨v5, ev5, hf⟩ := lt_x hf
    exact hrc _ _ _ _ hf
theorem fqb12_types_0   {rc : Nat → List Int32 → List Int64 → Mem → Option (Unit × Mem)} {n : Nat} {r : Unit} {M' : Mem} (hrc : ∀ pc li lj M, rc pc li lj M = some (r, M') → Fq CSY [(0, 11)] M M') {a1 : Int32} {M : Mem} (hf : b12_types_0  rc n a1 M = some (r, M')) : Fq CSY [(0, 11)] M M' := by
  unfold b12_types_0 at hf
  exact fqb12_types_2  hrc hf
theorem fql12_types   {r : Unit} {M' : Mem} (n : Nat) : ∀ pc li lj M, r12_types  n pc li lj M = some (r, M') → Fq CSY [(0, 11)] M M' := by
  induction n with
  | zero => intro pc li lj M hf; cases hf
  | succ n ih =>
    intro pc li lj M hf
    rw [r12_types] at hf
    dsimp only at hf
    by_cases c2 : pc = 2
    · replace hf := ite_t c2 hf
      split at hf
      · exact fqb12_types_2  ih hf
      · cases hf
    replace hf := ite_f c2 hf
    cases hf
theorem fq12_types   {n : Nat} {a1 : Int32} {M M' : Mem} {r : Unit} (hf : f12_types n  a1 M = some (r, M')) : Fq CSY [(0, 11)] M M' := fqb12_types_0  (fql12_types  n) hf
theorem fqb12_feed_0   {rc : Nat → List Int32 → List Int64 → Mem → Option (Int32 × Mem)} {n : Nat} {r : Int32} {M' : Mem} (hrc : ∀ pc li lj M, rc pc li lj M = some (r, M') → Fq CSY [(0, 11)] M M') {a1 : Int32} {a2 : Int32} {a3 : Int32} {a4 : Int32} {a5 : Int32} {M : Mem} (hf : b12_feed_0  rc n a1 a2 a3 a4 a5 M = some (r, M')) : Fq CSY [(0, 11)] M M' := by
  unfold b12_feed_0 at hf
  by_cases c1 : ((M.1 0 11) + (20 : Int32)) ≤ (260 : Int32)
  · replace hf := ite_t c1 hf
    obtain ⟨r2, M3, g2, hf⟩ := bnd_s hf
    refine Fq.trans (Fq.mono (fq12_types  g2) (by decide)) ?_
    obtain ⟨r5, M6, g3, hf⟩ := bnd_s hf
    refine Fq.trans (Fq.mono (fq12_types  g3) (by decide)) ?_
    obtain ⟨r8, M9, g4, hf⟩ := bnd_s hf
    refine Fq.trans (Fq.mono (fq12_types  g4) (by decide)) ?_
    obtain ⟨r11, M12, g5, hf⟩ := bnd_s hf
    refine Fq.trans (Fq.mono (fq12_types  g5) (by decide)) ?_
    obtain ⟨r14, M15, g6, hf⟩ := bnd_s hf
    refine Fq.trans (Fq.mono (fq12_types  g6) (by decide)) ?_
    exact Fq.of hf
  · replace hf := ite_f c1 hf
    exact Fq.of hf
theorem fq12_feed   {n : Nat} {a1 : Int32} {a2 : Int32} {a3 : Int32} {a4 : Int32} {a5 : Int32} {M M' : Mem} {r : Int32} (hf : f12_feed n  a1 a2 a3 a4 a5 M = some (r, M')) : Fq CSY [(0, 11)] M M' := fqb12_feed_0  (fun _ _ _ _ h => by cases h) hf
theorem fqb12_octet_0   {rc : Nat → List Int32 → List Int64 → Mem → Option (Int32 × Mem)} {n : Nat} {r : Int32} {M' : Mem} (hrc : ∀ pc li lj M, rc pc li lj M = some (r, M') → Fq CSY [] M M') {a1 : Int32} {M : Mem} (hf : b12_octet_0  rc n a1 M = some (r, M')) : Fq CSY [] M M' := by
  unfold b12_octet_0 at hf
  replace hf := chk_2 hf
  exact Fq.of hf
theorem fq12_octet   {n : Nat} {a1 : Int32} {M M' : Mem} {r : Int32} (hf : f12_octet n  a1 M = some (r, M')) : Fq CSY [] M M' := fqb12_octet_0  (fun _ _ _ _ h => by cases h) hf
theorem fqb12_here_0   {rc : Nat → List Int32 → List Int64 → Mem → Option (Int32 × Mem)} {n : Nat} {r : Int32} {M' : Mem} (hrc : ∀ pc li lj M, rc pc li lj M = some (r, M') → Fq CSY [] M M')  {M : Mem} (hf : b12_here_0  rc n  M = some (r, M')) : Fq CSY [] M M' := by
  unfold b12_here_0 at hf
  by_cases c1 : (M.1 0 13) ≤ (M.1 0 12)
  · replace hf := ite_t c1 hf
    exact Fq.of hf
  · replace hf := ite_f c1 hf
    replace hf := chk_2 hf
    exact Fq.of hf
theorem fq12_here   {n : Nat}  {M M' : Mem} {r : Int32} (hf : f12_here n   M = some (r, M')) : Fq CSY [] M M' := fqb12_here_0  (fun _ _ _ _ h => by cases h) hf
theorem fqb12_isDigit_22   {rc : Nat → List Int32 → List Int64 → Mem → Option (Int32 × Mem)} {n : Nat} {r : Int32} {M' : Mem} (hrc : ∀ pc li lj M, rc pc li lj M = some (r, M') → Fq CSY [] M M')  {M : Mem} (hf : b12_isDigit_22  rc n  M = some (r, M')) : Fq CSY [] M M' := by
  unfold b12_isDigit_22 at hf
  exact Fq.of hf
theorem fqb12_isDigit_0   {rc : Nat → List Int32 → List Int64 → Mem → Option (Int32 × Mem)} {n : Nat} {r : Int32} {M' : Mem} (hrc : ∀ pc li lj M, rc pc li lj M = some (r, M') → Fq CSY [] M M')  {M : Mem} (hf : b12_isDigit_0  rc n  M = some (r, M')) : Fq CSY [] M M' := by
  unfold b12_isDigit_0 at hf
  obtain ⟨r1, M2, g1, hf⟩ := bnd_s hf
  refine Fq.trans (Fq.mono (fq12_here  g1) (by decide)) ?_
  by_cases c2 : r1 < (48 : Int32)
  · replace hf := ite_t c2 hf
    exact fqb12_isDigit_22  hrc hf
  · replace hf := ite_f c2 hf
    obtain ⟨r5, M6, g3, hf⟩ := bnd_s hf
    refine Fq.trans (Fq.mono (fq12_here  g3) (by decide)) ?_
    by_cases c4 : (57 : Int32) < r5
    · replace hf := ite_t c4 hf
      exact fqb12_isDigit_22  hrc hf
    · replace hf := ite_f c4 hf
      exact Fq.of hf
theorem fq12_isDigit   {n : Nat}  {M M' : Mem} {r : Int32} (hf : f12_isDigit n   M = some (r, M')) : Fq CSY [] M M' := fqb12_isDigit_0  (fun _ _ _ _ h => by cases h) hf
theorem fqb12_wrongAt_0   {rc : Nat → List Int32 → List Int64 → Mem → Option (Int32 × Mem)} {n : Nat} {r : Int32} {M' : Mem} (hrc : ∀ pc li lj M, rc pc li lj M = some (r, M') → Fq CSY [(0, 14)] M M') {a1 : Int32} {a2 : Int32} {M : Mem} (hf : b12_wrongAt_0  rc n a1 a2 M = some (r, M')) : Fq CSY [(0, 14)] M M' := by
  unfold b12_wrongAt_0 at hf
  obtain ⟨M1, eM1, hf⟩ := lt_x hf
  refine Fq_wI eM1 (by decide) ?_
  exact Fq.of hf
theorem fq12_wrongAt   {n : Nat} {a1 : Int32} {a2 : Int32} {M M' : Mem} {r : Int32} (hf : f12_wrongAt n  a1 a2 M = some (r, M')) : Fq CSY [(0, 14)] M M' := fqb12_wrongAt_0  (fun _ _ _ _ h => by cases h) hf
theorem fqb12_takes_0   {rc : Nat → List Int32 → List Int64 → Mem → Option (Int32 × Mem)} {n : Nat} {r : Int32} {M' : Mem} (hrc : ∀ pc li lj M, rc pc li lj M = some (r, M') → Fq CSY [(0, 12), (0, 14)] M M') {a1 : Int32} {M : Mem} (hf : b12_takes_0  rc n a1 M = some (r, M')) : Fq CSY [(0, 12), (0, 14)] M M' := by
  unfold b12_takes_0 at hf
  obtain ⟨r1, M2, g1, hf⟩ := bnd_s hf
  refine Fq.trans (Fq.mono (fq12_here  g1) (by decide)) ?_
  by_cases c2 : r1 = a1
  · replace hf := ite_t c2 hf
    obtain ⟨M5, eM5, hf⟩ := lt_x hf
    refine Fq_wI eM5 (by decide) ?_
    exact Fq.of hf
  · replace hf := ite_f c2 hf
    obtain ⟨r6, M7, g3, hf⟩ := bnd_s hf
    refine Fq.trans (Fq.mono (fq12_wrongAt  g3) (by decide)) ?_
    replace hf := chk_2 hf
    exact Fq.of hf
theorem fq12_takes   {n : Nat} {a1 : Int32} {M M' : Mem} {r : Int32} (hf : f12_takes n  a1 M = some (r, M')) : Fq CSY [(0, 12), (0, 14)] M M' := fqb12_takes_0  (fun _ _ _ _ h => by cases h) hf
theorem fqb12_readsNumber_10   {rc : Nat → List Int32 → List Int64 → Mem → Option (Int32 × Mem)} {n : Nat} {r : Int32} {M' : Mem} (hrc : ∀ pc li lj M, rc pc li lj M = some (r, M') → Fq CSY [(0, 12), (0, 14), (0, 15)] M M') {i1 : Int32} {M : Mem} (hf : b12_readsNumber_10  rc n i1 M = some (r, M')) : Fq CSY [(0, 12), (0, 14), (0, 15)] M M' := by
  unfold b12_readsNumber_10 at hf
  obtain ⟨r3, M4, g1, hf⟩ := bnd_s hf
  refine Fq.trans (Fq.mono (fq12_isDigit  g1) (by decide)) ?_
  by_cases c2 : r3 = 0
  · replace hf := ite_t c2 hf
    exact Fq.of hf
  · replace hf := ite_f c2 hf
    by_cases c3 : (M4.1 0 12) = (i1 + (5 : Int32))
    · replace hf := ite_t c3 hf
      obtain ⟨r13, M14, g4, hf⟩ := bnd_s hf
      refine Fq.trans (Fq.mono (fq12_wrongAt  g4) (by decide)) ?_
      replace hf := chk_2 hf
      exact Fq.of hf
    · replace hf := ite_f c3 hf
      obtain ⟨r8, M9, g5, hf⟩ := bnd_s hf
      refine Fq.trans (Fq.mono (fq12_here  g5) (by decide)) ?_
      obtain ⟨M11, eM11, hf⟩ := lt_x hf
      refine Fq_wI eM11 (by decide) ?_
      obtain ⟨M12, eM12, hf⟩ := lt_x hf
      refine Fq_wI eM12 (by decide) ?_
      exact hrc _ _ _ _ hf
theorem fqb12_readsNumber_0   {rc : Nat → List Int32 → List Int64 → Mem → Option (Int32 × Mem)} {n : Nat} {r : Int32} {M' : Mem} (hrc : ∀ pc li lj M, rc pc li lj M = some (r, M') → Fq CSY [(0, 12), (0, 14), (0, 15)] M M')  {M : Mem} (hf : b12_readsNumber_0  rc n  M = some (r, M')) : Fq CSY [(0, 12), (0, 14), (0, 15)] M M' := by
  unfold b12_readsNumber_0 at hf
  obtain ⟨v1, ev1, hf⟩ := lt_x hf
  obtain ⟨M2, eM2, hf⟩ := lt_x hf
  refine Fq_wI eM2 (by decide) ?_
  exact fqb12_readsNumber_10  hrc hf
theorem fql12_readsNumber   {r : Int32} {M' : Mem} (n : Nat) : ∀ pc li lj M, r12_readsNumber  n pc li lj M = some (r, M') → Fq CSY [(0, 12), (0, 14), (0, 15)] M M' := by
  induction n with
  | zero => intro pc li lj M hf; cases hf
  | succ n ih =>
    intro pc li lj M hf
    rw [r12_readsNumber] at hf
    dsimp only at hf
    by_cases c10 : pc = 10
    · replace hf := ite_t c10 hf
      split at hf
      · exact fqb12_readsNumber_10  ih hf
      · cases hf
    replace hf := ite_f c10 hf
    cases hf
theorem fq12_readsNumber   {n : Nat}  {M M' : Mem} {r : Int32} (hf : f12_readsNumber n   M = some (r, M')) : Fq CSY [(0, 12), (0, 14), (0, 15)] M M' := fqb12_readsNumber_0  (fql12_readsNumber  n) hf
theorem fqb12_codesOf_0   {rc : Nat → List Int32 → List Int64 → Mem → Option (Unit × Mem)} {n : Nat} {r : Unit} {M' : Mem} (hrc : ∀ pc li lj M, rc pc li lj M = some (r, M') → Fq CSY [(0, 17)] M M') {a1 : Int32} {a2 : Int32} {M : Mem} (hf : b12_codesOf_0  rc n a1 a2 M = some (r, M')) : Fq CSY [(0, 17)] M M' := by
  unfold b12_codesOf_0 at hf
  replace hf := chk_2 hf
  obtain ⟨M2, eM2, hf⟩ := lt_x hf
  refine Fq_wIn eM2 (by decide) ?_
  obtain ⟨M3, eM3, hf⟩ := lt_x hf
  refine Fq_wI eM3 (by decide) ?_
  exact Fq.of hf
theorem fq12_codesOf   {n : Nat} {a1 : Int32} {a2 : Int32} {M M' : Mem} {r : Unit} (hf : f12_codesOf n  a1 a2 M = some (r, M')) : Fq CSY [(0, 17)] M M' := fqb12_codesOf_0  (fun _ _ _ _ h => by cases h) hf
theorem fqb12_opens_0   {rc : Nat → List Int32 → List Int64 → Mem → Option (Int32 × Mem)} {n : Nat} {r : Int32} {M' : Mem} (hrc : ∀ pc li lj M, rc pc li lj M = some (r, M') → Fq CSY [(0, 12), (0, 14), (0, 16), (0, 18)] M M') {a1 : Int32} {M : Mem} (hf : b12_opens_0  rc n a1 M = some (r, M')) : Fq CSY [(0, 12), (0, 14), (0, 16), (0, 18)] M M' := by
  unfold b12_opens_0 at hf
  by_cases c1 : (M.1 0 16) = (6 : Int32)
  · replace hf := ite_t c1 hf
    obtain ⟨r7, M8, g2, hf⟩ := bnd_s hf
    refine Fq.trans (Fq.mono (fq12_wrongAt  g2) (by decide)) ?_
    replace hf := chk_2 hf
    exact Fq.of hf
  · replace hf := ite_f c1 hf
    obtain ⟨M2, eM2, hf⟩ := lt_x hf
    refine Fq_wI eM2 (by decide) ?_
    replace hf := chk_2 hf
    obtain ⟨M4, eM4, hf⟩ := lt_x hf
    refine Fq_wIn eM4 (by decide) ?_
    obtain ⟨M5, eM5, hf⟩ := lt_x hf
    refine Fq_wI eM5 (by decide) ?_
    obtain ⟨M6, eM6, hf⟩ := lt_x hf
    refine Fq_wI eM6 (by decide) ?_
    exact Fq.of hf
theorem fq12_opens   {n : Nat} {a1 : Int32} {M M' : Mem} {r : Int32} (hf : f12_opens n  a1 M = some (r, M')) : Fq CSY [(0, 12), (0, 14), (0, 16), (0, 18)] M M' := fqb12_opens_0  (fun _ _ _ _ h => by cases h) hf
theorem fqb12_waitTop_0   {rc : Nat → List Int32 → List Int64 → Mem → Option (Int32 × Mem)} {n : Nat} {r : Int32} {M' : Mem} (hrc : ∀ pc li lj M, rc pc li lj M = some (r, M') → Fq CSY [] M M')  {M : Mem} (hf : b12_waitTop_0  rc n  M = some (r, M')) : Fq CSY [] M M' := by
  unfold b12_waitTop_0 at hf
  by_cases c1 : (M.1 0 18) = 0
  · replace hf := ite_t c1 hf
    exact Fq.of hf
  · replace hf := ite_f c1 hf
    replace hf := chk_2 hf
    exact Fq.of hf
theorem fq12_waitTop   {n : Nat}  {M M' : Mem} {r : Int32} (hf : f12_waitTop n   M = some (r, M')) : Fq CSY [] M M' := fqb12_waitTop_0  (fun _ _ _ _ h => by cases h) hf
theorem fqb12_factOf_0   {rc : Nat → List Int32 → List Int64 → Mem → Option (Int32 × Mem)} {n : Nat} {r : Int32} {M' : Mem} (hrc : ∀ pc li lj M, rc pc li lj M = some (r, M') → Fq CSY [] M M') {a0 : Int32} {M : Mem} (hf : b12_factOf_0  rc n a0 M = some (r, M')) : Fq CSY [] M M' := by
  unfold b12_factOf_0 at hf
  by_cases c1 : a0 = (98 : Int32)
  · replace hf := ite_t c1 hf
    exact Fq.of hf
  · replace hf := ite_f c1 hf
    by_cases c2 : a0 = (99 : Int32)
    · replace hf := ite_t c2 hf
      exact Fq.of hf
    · replace hf := ite_f c2 hf
      by_cases c3 : a0 = (100 : Int32)
      · replace hf := ite_t c3 hf
        exact Fq.of hf
      · replace hf := ite_f c3 hf
        by_cases c4 : a0 = (101 : Int32)
        · replace hf := ite_t c4 hf
          exact Fq.of hf
        · replace hf := ite_f c4 hf
          by_cases c5 : a0 = (102 : Int32)
          · replace hf := ite_t c5 hf
            exact Fq.of hf
          · replace hf := ite_f c5 hf
            by_cases c6 : a0 = (103 : Int32)
            · replace hf := ite_t c6 hf
              exact Fq.of hf
            · replace hf := ite_f c6 hf
              by_cases c7 : a0 = (104 : Int32)
              · replace hf := ite_t c7 hf
                exact Fq.of hf
              · replace hf := ite_f c7 hf
                by_cases c8 : a0 = (105 : Int32)
                · replace hf := ite_t c8 hf
                  exact Fq.of hf
                · replace hf := ite_f c8 hf
                  by_cases c9 : a0 = (106 : Int32)
                  · replace hf := ite_t c9 hf
                    exact Fq.of hf
                  · replace hf := ite_f c9 hf
                    by_cases c10 : a0 = (107 : Int32)
                    · replace hf := ite_t c10 hf
                      exact Fq.of hf
                    · replace hf := ite_f c10 hf
                      by_cases c11 : a0 = (108 : Int32)
                      · replace hf := ite_t c11 hf
                        exact Fq.of hf
                      · replace hf := ite_f c11 hf
                        by_cases c12 : a0 = (109 : Int32)
                        · replace hf := ite_t c12 hf
                          exact Fq.of hf
                        · replace hf := ite_f c12 hf
                          by_cases c13 : a0 = (110 : Int32)
                          · replace hf := ite_t c13 hf
                            exact Fq.of hf
                          · replace hf := ite_f c13 hf
                            by_cases c14 : a0 = (111 : Int32)
                            · replace hf := ite_t c14 hf
                              exact Fq.of hf
                            · replace hf := ite_f c14 hf
                              by_cases c15 : a0 = (112 : Int32)
                              · replace hf := ite_t c15 hf
                                exact Fq.of hf
                              · replace hf := ite_f c15 hf
                                by_cases c16 : a0 = (113 : Int32)
                                · replace hf := ite_t c16 hf
                                  exact Fq.of hf
                                · replace hf := ite_f c16 hf
                                  by_cases c17 : a0 = (114 : Int32)
                                  · replace hf := ite_t c17 hf
                                    exact Fq.of hf
                                  · replace hf := ite_f c17 hf
                                    by_cases c18 : a0 = (115 : Int32)
                                    · replace hf := ite_t c18 hf
                                      exact Fq.of hf
                                    · replace hf := ite_f c18 hf
                                      by_cases c19 : a0 = (116 : Int32)
                                      · replace hf := ite_t c19 hf
                                        exact Fq.of hf
                                      · replace hf := ite_f c19 hf
                                        by_cases c20 : a0 = (117 : Int32)
                                        · replace hf := ite_t c20 hf
                                          exact Fq.of hf
                                        · replace hf := ite_f c20 hf
                                          by_cases c21 : a0 = (118 : Int32)
                                          · replace hf := ite_t c21 hf
                                            exact Fq.of hf
                                          · replace hf := ite_f c21 hf
                                            by_cases c22 : a0 = (119 : Int32)
                                            · replace hf := ite_t c22 hf
                                              exact Fq.of hf
                                            · replace hf := ite_f c22 hf
                                              by_cases c23 : a0 = (120 : Int32)
                                              · replace hf := ite_t c23 hf
                                                exact Fq.of hf
                                              · replace hf := ite_f c23 hf
                                                by_cases c24 : a0 = (121 : Int32)
                                                · replace hf := ite_t c24 hf
                                                  exact Fq.of hf
                                                · replace hf := ite_f c24 hf
                                                  exact Fq.of hf
theorem fq12_factOf   {n : Nat} {a0 : Int32} {M M' : Mem} {r : Int32} (hf : f12_factOf n  a0 M = some (r, M')) : Fq CSY [] M M' := fqb12_factOf_0  (fun _ _ _ _ h => by cases h) hf
theorem fqb12_sumSign_0   {rc : Nat → List Int32 → List Int64 → Mem → Option (Int32 × Mem)} {n : Nat} {r : Int32} {M' : Mem} (hrc : ∀ pc li lj M, rc pc li lj M = some (r, M') → Fq CSY [] M M') {a0 : Int32} {M : Mem} (hf : b12_sumSign_0  rc n a0 M = some (r, M')) : Fq CSY [] M M' := by
  unfold b12_sumSign_0 at hf
  by_cases c1 : a0 = (43 : Int32)
  · replace hf := ite_t c1 hf
    exact Fq.of hf
  · replace hf := ite_f c1 hf
    by_cases c2 : a0 = (45 : Int32)
    · replace hf := ite_t c2 hf
      exact Fq.of hf
    · replace hf := ite_f c2 hf
      by_cases c3 : a0 = (42 : Int32)
      · replace hf := ite_t c3 hf
        exact Fq.of hf
      · replace hf := ite_f c3 hf
        by_cases c4 : a0 = (47 : Int32)
        · replace hf := ite_t c4 hf
          exact Fq.of hf
        · replace hf := ite_f c4 hf
          by_cases c5 : a0 = (37 : Int32)
          · replace hf := ite_t c5 hf
            exact Fq.of hf
          · replace hf := ite_f c5 hf
            exact Fq.of hf
theorem fq12_sumSign   {n : Nat} {a0 : Int32} {M M' : Mem} {r : Int32} (hf : f12_sumSign n  a0 M = some (r, M')) : Fq CSY [] M M' := fqb12_sumSign_0  (fun _ _ _ _ h => by cases h) hf
theorem fqb12_closesSums_37   {rc : Nat → List Int32 → List Int64 → Mem → Option (Unit × Mem)} {n : Nat} {r : Unit} {M' : Mem} (hrc : ∀ pc li lj M, rc pc li lj M = some (r, M') → Fq CSY [(0, 17), (0, 18)] M M') {i1 : Int32} {M : Mem} (hf : b12_closesSums_37  rc n i1 M = some (r, M')) : Fq CSY [(0, 17), (0, 18)] M M' := by
  unfold b12_closesSums_37 at hf
  obtain ⟨r9, M10, g1, hf⟩ := bnd_s hf
  refine Fq.trans (Fq.mono (fq12_waitTop  g1) (by decide)) ?_
  obtain ⟨r12, M13, g2, hf⟩ := bnd_s hf
  refine Fq.trans (Fq.mono (fq12_codesOf  g2) (by decide)) ?_
  obtain ⟨M15, eM15, hf⟩ := lt_x hf
  refine Fq_wI eM15 (by decide) ?_
  exact hrc _ _ _ _ hf
theorem fqb12_closesSums_17   {rc : Nat → List Int32 → List Int64 → Mem → Option (Unit × Mem)} {n : Nat} {r : Unit} {M' : Mem} (hrc : ∀ pc li lj M, rc pc li lj M = some (r, M') → Fq CSY [(0, 17), (0, 18)] M M') {i1 : Int32} {M : Mem} (hf : b12_closesSums_17  rc n i1 M = some (r, M')) : Fq CSY [(0, 17), (0, 18)] M M' := by
  unfold b12_closesSums_17 at hf
  by_cases c1 : i1 = 0
  · replace hf := ite_t c1 hf
    exact Fq.of hf
  · replace hf := ite_f c1 hf
    obtain ⟨r17, M18, g2, hf⟩ := bnd_s hf
    refine Fq.trans (Fq.mono (fq12_waitTop  g2) (by decide)) ?_
    by_cases c3 : r17 = (2 : Int32)
    · replace hf := ite_t c3 hf
      exact fqb12_closesSums_37  hrc hf
    · replace hf := ite_f c3 hf
      obtain ⟨r21, M22, g4, hf⟩ := bnd_s hf
      refine Fq.trans (Fq.mono (fq12_waitTop  g4) (by decide)) ?_
      by_cases c5 : r21 = (3 : Int32)
      · replace hf := ite_t c5 hf
        exact fqb12_closesSums_37  hrc hf
      · replace hf := ite_f c5 hf
        exact Fq.of hf
theorem fqb12_closesSums_0   {rc : Nat → List Int32 → List Int64 → Mem → Option (Unit × Mem)} {n : Nat} {r : Unit} {M' : Mem} (hrc : ∀ pc li lj M, rc pc li lj M = some (r, M') → Fq CSY [(0, 17), (0, 18)] M M') {i1 : Int32} {M : Mem} (hf : b12_closesSums_0  rc n i1 M = some (r, M')) : Fq CSY [(0, 17), (0, 18)] M M' := by
  unfold b12_closesSums_0 at hf
  obtain ⟨r1, M2, g1, hf⟩ := bnd_s hf
  refine Fq.trans (Fq.mono (fq12_waitTop  g1) (by decide)) ?_
  by_cases c2 : r1 < (4 : Int32)
  · replace hf := ite_t c2 hf
    exact fqb12_closesSums_17  hrc hf
  · replace hf := ite_f c2 hf
    obtain ⟨r5, M6, g3, hf⟩ := bnd_s hf
    refine Fq.trans (Fq.mono (fq12_waitTop  g3) (by decide)) ?_
    by_cases c4 : r5 ≤ (6 : Int32)
    · replace hf := ite_t c4 hf
      exact fqb12_closesSums_37  hrc hf
    · replace hf := ite_f c4 hf
      exact fqb12_closesSums_17  hrc hf
theorem fql12_closesSums   {r : Unit} {M' : Mem} (n : Nat) : ∀ pc li lj M, r12_closesSums  n pc li lj M = some (r, M') → Fq CSY [(0, 17), (0, 18)] M M' := by
  induction n with
  | zero => intro pc li lj M hf; cases hf
  | succ n ih =>
    intro pc li lj M hf
    rw [r12_closesSums] at hf
    dsimp only at hf
    by_cases c0 : pc = 0
    · replace hf := ite_t c0 hf
      split at hf
      · exact fqb12_closesSums_0  ih hf
      · cases hf
    replace hf := ite_f c0 hf
    cases hf
theorem fq12_closesSums   {n : Nat} {a1 : Int32} {M M' : Mem} {r : Unit} (hf : f12_closesSums n  a1 M = some (r, M')) : Fq CSY [(0, 17), (0, 18)] M M' := fqb12_closesSums_0  (fql12_closesSums  n) hf
theorem fqb12_readsFactor_0   {rc : Nat → List Int32 → List Int64 → Mem → Option (Int32 × Mem)} {n : Nat} {r : Int32} {M' : Mem} (hrc : ∀ pc li lj M, rc pc li lj M = some (r, M') → Fq CSY [(0, 12), (0, 14), (0, 15), (0, 16), (0, 17), (0, 18)] M M')  {M : Mem} (hf : b12_readsFactor_0  rc n  M = some (r, M')) : Fq CSY [(0, 12), (0, 14), (0, 15), (0, 16), (0, 17), (0, 18)] M M' := by
  unfold b12_readsFactor_0 at hf
  obtain ⟨r1, M2, g1, hf⟩ := bnd_s hf
  refine Fq.trans (Fq.mono (fq12_here  g1) (by decide)) ?_
  by_cases c2 : r1 = (91 : Int32)
  · replace hf := ite_t c2 hf
    obtain ⟨r31, M32, g3, hf⟩ := bnd_s hf
    refine Fq.trans (Fq.mono (fq12_opens  g3) (by decide)) ?_
    by_cases c4 : r31 = 0
    · replace hf := ite_t c4 hf
      exact Fq.of hf
    · replace hf := ite_f c4 hf
      exact hrc _ _ _ _ hf
  · replace hf := ite_f c2 hf
    obtain ⟨r5, M6, g5, hf⟩ := bnd_s hf
    refine Fq.trans (Fq.mono (fq12_isDigit  g5) (by decide)) ?_
    by_cases c6 : r5 = 0
    · replace hf := ite_t c6 hf
      obtain ⟨r9, M10, g7, hf⟩ := bnd_s hf
      refine Fq.trans (Fq.mono (fq12_here  g7) (by decide)) ?_
      obtain ⟨r12, M13, g8, hf⟩ := bnd_s hf
      refine Fq.trans (Fq.mono (fq12_factOf  g8) (by decide)) ?_
      by_cases c9 : r12 = (-1 : Int32)
      · replace hf := ite_t c9 hf
        obtain ⟨r20, M21, g10, hf⟩ := bnd_s hf
        refine Fq.trans (Fq.mono (fq12_wrongAt  g10) (by decide)) ?_
        replace hf := chk_2 hf
        exact Fq.of hf
      · replace hf := ite_f c9 hf
        obtain ⟨r16, M17, g11, hf⟩ := bnd_s hf
        refine Fq.trans (Fq.mono (fq12_codesOf  g11) (by decide)) ?_
        obtain ⟨M19, eM19, hf⟩ := lt_x hf
        refine Fq_wI eM19 (by decide) ?_
        exact Fq.of hf
    · replace hf := ite_f c6 hf
      obtain ⟨r24, M25, g12, hf⟩ := bnd_s hf
      refine Fq.trans (Fq.mono (fq12_readsNumber  g12) (by decide)) ?_
      by_cases c13 : r24 = 0
      · replace hf := ite_t c13 hf
        exact Fq.of hf
      · replace hf := ite_f c13 hf
        obtain ⟨r28, M29, g14, hf⟩ := bnd_s hf
        refine Fq.trans (Fq.mono (fq12_codesOf  g14) (by decide)) ?_
        exact Fq.of hf
theorem fql12_readsFactor   {r : Int32} {M' : Mem} (n : Nat) : ∀ pc li lj M, r12_readsFactor  n pc li lj M = some (r, M') → Fq CSY [(0, 12), (0, 14), (0, 15), (0, 16), (0, 17), (0, 18)] M M' := by
  induction n with
  | zero => intro pc li lj M hf; cases hf
  | succ n ih =>
    intro pc li lj M hf
    rw [r12_readsFactor] at hf
    dsimp only at hf
    by_cases c0 : pc = 0
    · replace hf := ite_t c0 hf
      split at hf
      · exact fqb12_readsFactor_0  ih hf
      · cases hf
    replace hf := ite_f c0 hf
    cases hf
theorem fq12_readsFactor   {n : Nat}  {M M' : Mem} {r : Int32} (hf : f12_readsFactor n   M = some (r, M')) : Fq CSY [(0, 12), (0, 14), (0, 15), (0, 16), (0, 17), (0, 18)] M M' := fqb12_readsFactor_0  (fql12_readsFactor  n) hf
theorem fqb12_hasOpenSum_2   {rc : Nat → List Int32 → List Int64 → Mem → Option (Int32 × Mem)} {n : Nat} {r : Int32} {M' : Mem} (hrc : ∀ pc li lj M, rc pc li lj M = some (r, M') → Fq CSY [] M M') {i2 : Int32} {M : Mem} (hf : b12_hasOpenSum_2  rc n i2 M = some (r, M')) : Fq CSY [] M M' := by
  unfold b12_hasOpenSum_2 at hf
  by_cases c1 : (M.1 0 18) ≤ i2
  · replace hf := ite_t c1 hf
    exact Fq.of hf
  · replace hf := ite_f c1 hf
    replace hf := chk_2 hf
    by_cases c2 : ((M.1 10 i2.toNatClampNeg) / (1048576 : Int32)) = (14 : Int32)
    · replace hf := ite_t c2 hf
      exact Fq.of hf
    · replace hf := ite_f c2 hf
      obtain ⟨v4, ev4, hf⟩ := lt_x hf
      exact hrc _ _ _ _ hf
theorem fqb12_hasOpenSum_0   {rc : Nat → List Int32 → List Int64 → Mem → Option (Int32 × Mem)} {n : Nat} {r : Int32} {M' : Mem} (hrc : ∀ pc li lj M, rc pc li lj M = some (r, M') → Fq CSY [] M M') {a1 : Int32} {M : Mem} (hf : b12_hasOpenSum_0  rc n a1 M = some (r, M')) : Fq CSY [] M M' := by
  unfold b12_hasOpenSum_0 at hf
  exact fqb12_hasOpenSum_2  hrc hf
theorem fql12_hasOpenSum   {r : Int32} {M' : Mem} (n : Nat) : ∀ pc li lj M, r12_hasOpenSum  n pc li lj M = some (r, M') → Fq CSY [] M M' := by
  induction n with
  | zero => intro pc li lj M hf; cases hf
  | succ n ih =>
    intro pc li lj M hf
    rw [r12_hasOpenSum] at hf
    dsimp only at hf
    by_cases c2 : pc = 2
    · replace hf := ite_t c2 hf
      split at hf
      · exact fqb12_hasOpenSum_2  ih hf
      · cases hf
    replace hf := ite_f c2 hf
    cases hf
theorem fq12_hasOpenSum   {n : Nat} {a1 : Int32} {M M' : Mem} {r : Int32} (hf : f12_hasOpenSum n  a1 M = some (r, M')) : Fq CSY [] M M' := fqb12_hasOpenSum_0  (fql12_hasOpenSum  n) hf
theorem fqb12_readsSum_138   {rc : Nat → List Int32 → List Int64 → Mem → Option (Int32 × Mem)} {n : Nat} {r : Int32} {M' : Mem} (hrc : ∀ pc li lj M, rc pc li lj M = some (r, M') → Fq CSY [(0, 12), (0, 14), (0, 15), (0, 16), (0, 17), (0, 18)] M M') {i1 : Int32} {M : Mem} (hf : b12_readsSum_138  rc n i1 M = some (r, M')) : Fq CSY [(0, 12), (0, 14), (0, 15), (0, 16), (0, 17), (0, 18)] M M' := by
  unfold b12_readsSum_138 at hf
  obtain ⟨r39, M40, g1, hf⟩ := bnd_s hf
  refine Fq.trans (Fq.mono (fq12_hasOpenSum  g1) (by decide)) ?_
  by_cases c2 : r39 = 0
  · replace hf := ite_t c2 hf
    obtain ⟨r43, M44, g3, hf⟩ := bnd_s hf
    refine Fq.trans (Fq.mono (fq12_closesSums  g3) (by decide)) ?_
    exact Fq.of hf
  · replace hf := ite_f c2 hf
    obtain ⟨r46, M47, g4, hf⟩ := bnd_s hf
    refine Fq.trans (Fq.mono (fq12_wrongAt  g4) (by decide)) ?_
    replace hf := chk_2 hf
    exact Fq.of hf
theorem fqb12_readsSum_163   {rc : Nat → List Int32 → List Int64 → Mem → Option (Int32 × Mem)} {n : Nat} {r : Int32} {M' : Mem} (hrc : ∀ pc li lj M, rc pc li lj M = some (r, M') → Fq CSY [(0, 12), (0, 14), (0, 15), (0, 16), (0, 17), (0, 18)] M M') {i1 : Int32} {M : Mem} (hf : b12_readsSum_163  rc n i1 M = some (r, M')) : Fq CSY [(0, 12), (0, 14), (0, 15), (0, 16), (0, 17), (0, 18)] M M' := by
  unfold b12_readsSum_163 at hf
  exact hrc _ _ _ _ hf
theorem fqb12_readsSum_38   {rc : Nat → List Int32 → List Int64 → Mem → Option (Int32 × Mem)} {n : Nat} {r : Int32} {M' : Mem} (hrc : ∀ pc li lj M, rc pc li lj M = some (r, M') → Fq CSY [(0, 12), (0, 14), (0, 15), (0, 16), (0, 17), (0, 18)] M M') {i1 : Int32} {i2 : Int32} {s1 : Int32} {M : Mem} (hf : b12_readsSum_38  rc n i1 i2 s1 M = some (r, M')) : Fq CSY [(0, 12), (0, 14), (0, 15), (0, 16), (0, 17), (0, 18)] M M' := by
  unfold b12_readsSum_38 at hf
  obtain ⟨r28, M29, g1, hf⟩ := bnd_s hf
  refine Fq.trans (Fq.mono (fq12_closesSums  g1) (by decide)) ?_
  replace hf := chk_2 hf
  obtain ⟨M32, eM32, hf⟩ := lt_x hf
  refine Fq_wIn eM32 (by decide) ?_
  obtain ⟨M33, eM33, hf⟩ := lt_x hf
  refine Fq_wI eM33 (by decide) ?_
  obtain ⟨M34, eM34, hf⟩ := lt_x hf
  refine Fq_wI eM34 (by decide) ?_
  obtain ⟨r35, M36, g2, hf⟩ := bnd_s hf
  refine Fq.trans (Fq.mono (fq12_readsFactor  g2) (by decide)) ?_
  by_cases c3 : r35 = 0
  · replace hf := ite_t c3 hf
    exact Fq.of hf
  · replace hf := ite_f c3 hf
    exact fqb12_readsSum_163  hrc hf
theorem fqb12_readsSum_14   {rc : Nat → List Int32 → List Int64 → Mem → Option (Int32 × Mem)} {n : Nat} {r : Int32} {M' : Mem} (hrc : ∀ pc li lj M, rc pc li lj M = some (r, M') → Fq CSY [(0, 12), (0, 14), (0, 15), (0, 16), (0, 17), (0, 18)] M M') {i1 : Int32} {M : Mem} (hf : b12_readsSum_14  rc n i1 M = some (r, M')) : Fq CSY [(0, 12), (0, 14), (0, 15), (0, 16), (0, 17), (0, 18)] M M' := by
  unfold b12_readsSum_14 at hf
  obtain ⟨r6, M7, g1, hf⟩ := bnd_s hf
  refine Fq.trans (Fq.mono (fq12_here  g1) (by decide)) ?_
  obtain ⟨r9, M10, g2, hf⟩ := bnd_s hf
  refine Fq.trans (Fq.mono (fq12_sumSign  g2) (by decide)) ?_
  by_cases c3 : r9 = (-1 : Int32)
  · replace hf := ite_t c3 hf
    obtain ⟨r13, M14, g4, hf⟩ := bnd_s hf
    refine Fq.trans (Fq.mono (fq12_here  g4) (by decide)) ?_
    by_cases c5 : r13 = (93 : Int32)
    · replace hf := ite_t c5 hf
      obtain ⟨r17, M18, g6, hf⟩ := bnd_s hf
      refine Fq.trans (Fq.mono (fq12_hasOpenSum  g6) (by decide)) ?_
      by_cases c7 : r17 = 0
      · replace hf := ite_t c7 hf
        exact fqb12_readsSum_138  hrc hf
      · replace hf := ite_f c7 hf
        obtain ⟨r21, M22, g8, hf⟩ := bnd_s hf
        refine Fq.trans (Fq.mono (fq12_closesSums  g8) (by decide)) ?_
        obtain ⟨M24, eM24, hf⟩ := lt_x hf
        refine Fq_wI eM24 (by decide) ?_
        obtain ⟨M25, eM25, hf⟩ := lt_x hf
        refine Fq_wI eM25 (by decide) ?_
        obtain ⟨M26, eM26, hf⟩ := lt_x hf
        refine Fq_wI eM26 (by decide) ?_
        exact fqb12_readsSum_163  hrc hf
    · replace hf := ite_f c5 hf
      exact fqb12_readsSum_138  hrc hf
  · replace hf := ite_f c3 hf
    by_cases c9 : (4 : Int32) ≤ r9
    · replace hf := ite_t c9 hf
      exact fqb12_readsSum_38  hrc hf
    · replace hf := ite_f c9 hf
      exact fqb12_readsSum_38  hrc hf
theorem fqb12_readsSum_0   {rc : Nat → List Int32 → List Int64 → Mem → Option (Int32 × Mem)} {n : Nat} {r : Int32} {M' : Mem} (hrc : ∀ pc li lj M, rc pc li lj M = some (r, M') → Fq CSY [(0, 12), (0, 14), (0, 15), (0, 16), (0, 17), (0, 18)] M M')  {M : Mem} (hf : b12_readsSum_0  rc n  M = some (r, M')) : Fq CSY [(0, 12), (0, 14), (0, 15), (0, 16), (0, 17), (0, 18)] M M' := by
  unfold b12_readsSum_0 at hf
  obtain ⟨v1, ev1, hf⟩ := lt_x hf
  obtain ⟨r2, M3, g1, hf⟩ := bnd_s hf
  refine Fq.trans (Fq.mono (fq12_readsFactor  g1) (by decide)) ?_
  by_cases c2 : r2 = 0
  · replace hf := ite_t c2 hf
    exact Fq.of hf
  · replace hf := ite_f c2 hf
    exact fqb12_readsSum_14  hrc hf
theorem fql12_readsSum   {r : Int32} {M' : Mem} (n : Nat) : ∀ pc li lj M, r12_readsSum  n pc li lj M = some (r, M') → Fq CSY [(0, 12), (0, 14), (0, 15), (0, 16), (0, 17), (0, 18)] M M' := by
  induction n with
  | zero => intro pc li lj M hf; cases hf
  | succ n ih =>
    intro pc li lj M hf
    rw [r12_readsSum] at hf
    dsimp only at hf
    by_cases c14 : pc = 14
    · replace hf := ite_t c14 hf
      split at hf
      · exact fqb12_readsSum_14  ih hf
      · cases hf
    replace hf := ite_f c14 hf
    cases hf
theorem fq12_readsSum   {n : Nat}  {M M' : Mem} {r : Int32} (hf : f12_readsSum n   M = some (r, M')) : Fq CSY [(0, 12), (0, 14), (0, 15), (0, 16), (0, 17), (0, 18)] M M' := fqb12_readsSum_0  (fql12_readsSum  n) hf
theorem fqb12_endsPiece_0   {rc : Nat → List Int32 → List Int64 → Mem → Option (Unit × Mem)} {n : Nat} {r : Unit} {M' : Mem} (hrc : ∀ pc li lj M, rc pc li lj M = some (r, M') → Fq CSY [(0, 16), (0, 17), (0, 18)] M M')  {M : Mem} (hf : b12_endsPiece_0  rc n  M = some (r, M')) : Fq CSY [(0, 16), (0, 17), (0, 18)] M M' := by
  unfold b12_endsPiece_0 at hf
  obtain ⟨r1, M2, g1, hf⟩ := bnd_s hf
  refine Fq.trans (Fq.mono (fq12_waitTop  g1) (by decide)) ?_
  by_cases c2 : r1 = (10 : Int32)
  · replace hf := ite_t c2 hf
    obtain ⟨r5, M6, g3, hf⟩ := bnd_s hf
    refine Fq.trans (Fq.mono (fq12_codesOf  g3) (by decide)) ?_
    obtain ⟨M8, eM8, hf⟩ := lt_x hf
    refine Fq_wI eM8 (by decide) ?_
    obtain ⟨M9, eM9, hf⟩ := lt_x hf
    refine Fq_wI eM9 (by decide) ?_
    exact hrc _ _ _ _ hf
  · replace hf := ite_f c2 hf
    exact Fq.of hf
theorem fql12_endsPiece   {r : Unit} {M' : Mem} (n : Nat) : ∀ pc li lj M, r12_endsPiece  n pc li lj M = some (r, M') → Fq CSY [(0, 16), (0, 17), (0, 18)] M M' := by
  induction n with
  | zero => intro pc li lj M hf; cases hf
  | succ n ih =>
    intro pc li lj M hf
    rw [r12_endsPiece] at hf
    dsimp only at hf
    by_cases c0 : pc = 0
    · replace hf := ite_t c0 hf
      split at hf
      · exact fqb12_endsPiece_0  ih hf
      · cases hf
    replace hf := ite_f c0 hf
    cases hf
theorem fq12_endsPiece   {n : Nat}  {M M' : Mem} {r : Unit} (hf : f12_endsPiece n   M = some (r, M')) : Fq CSY [(0, 16), (0, 17), (0, 18)] M M' := fqb12_endsPiece_0  (fql12_endsPiece  n) hf
theorem fqb12_lands_22   {rc : Nat → List Int32 → List Int64 → Mem → Option (Unit × Mem)} {n : Nat} {r : Unit} {M' : Mem} (hrc : ∀ pc li lj M, rc pc li lj M = some (r, M') → Fq CSY [(0, 18)] M M') {i1 : Int32} {M : Mem} (hf : b12_lands_22  rc n i1 M = some (r, M')) : Fq CSY [(0, 18)] M M' := by
  unfold b12_lands_22 at hf
  replace hf := chk_2 hf
  obtain ⟨v11, ev11, hf⟩ := lt_x hf
  replace hf := chk_2 hf
  replace hf := chk_2 hf
  obtain ⟨M14, eM14, hf⟩ := lt_x hf
  refine Fq_wIn eM14 (by decide) ?_
  obtain ⟨M15, eM15, hf⟩ := lt_x hf
  refine Fq_wI eM15 (by decide) ?_
  exact hrc _ _ _ _ hf
theorem fqb12_lands_0   {rc : Nat → List Int32 → List Int64 → Mem → Option (Unit × Mem)} {n : Nat} {r : Unit} {M' : Mem} (hrc : ∀ pc li lj M, rc pc li lj M = some (r, M') → Fq CSY [(0, 18)] M M') {i1 : Int32} {M : Mem} (hf : b12_lands_0  rc n i1 M = some (r, M')) : Fq CSY [(0, 18)] M M' := by
  unfold b12_lands_0 at hf
  obtain ⟨r1, M2, g1, hf⟩ := bnd_s hf
  refine Fq.trans (Fq.mono (fq12_waitTop  g1) (by decide)) ?_
  by_cases c2 : r1 = (11 : Int32)
  · replace hf := ite_t c2 hf
    exact fqb12_lands_22  hrc hf
  · replace hf := ite_f c2 hf
    by_cases c3 : i1 = 0
    · replace hf := ite_t c3 hf
      exact Fq.of hf
    · replace hf := ite_f c3 hf
      obtain ⟨r6, M7, g4, hf⟩ := bnd_s hf
      refine Fq.trans (Fq.mono (fq12_waitTop  g4) (by decide)) ?_
      by_cases c5 : r6 = (12 : Int32)
      · replace hf := ite_t c5 hf
        exact fqb12_lands_22  hrc hf
      · replace hf := ite_f c5 hf
        exact Fq.of hf
theorem fql12_lands   {r : Unit} {M' : Mem} (n : Nat) : ∀ pc li lj M, r12_lands  n pc li lj M = some (r, M') → Fq CSY [(0, 18)] M M' := by
  induction n with
  | zero => intro pc li lj M hf; cases hf
  | succ n ih =>
    intro pc li lj M hf
    rw [r12_lands] at hf
    dsimp only at hf
    by_cases c0 : pc = 0
    · replace hf := ite_t c0 hf
      split at hf
      · exact fqb12_lands_0  ih hf
      · cases hf
    replace hf := ite_f c0 hf
    cases hf
theorem fq12_lands   {n : Nat} {a1 : Int32} {M M' : Mem} {r : Unit} (hf : f12_lands n  a1 M = some (r, M')) : Fq CSY [(0, 18)] M M' := fqb12_lands_0  (fql12_lands  n) hf
