theorem fqb6_newWallsTo_63   {rc : Nat → List Int32 → List Int64 → Mem → Option (Int32 × Mem)} {n : Nat} {r : Int32} {M' : Mem} (hrc : ∀ pc li lj M, rc pc li lj M = some (r, M') → Fq CSX [] M M') {i1 : Int32} {M : Mem} (hf : b6_newWallsTo_63  rc n i1 M = some (r, M')) : Fq CSX [] M M' := by
  unfold b6_newWallsTo_63 at hf
  have h1 := chk_1 hf
  replace hf := chk_2 hf
  exact Fq.of hf
theorem fqb6_newWallsTo_40   {rc : Nat → List Int32 → List Int64 → Mem → Option (Int32 × Mem)} {n : Nat} {r : Int32} {M' : Mem} (hrc : ∀ pc li lj M, rc pc li lj M = some (r, M') → Fq CSX [] M M') {i1 : Int32} {i2 : Int32} {i3 : Int32} {i4 : Int32} {M : Mem} (hf : b6_newWallsTo_40  rc n i1 i2 i3 i4 M = some (r, M')) : Fq CSX [] M M' := by
  unfold b6_newWallsTo_40 at hf
  by_cases c1 : (96 : Int32) ≤ i4
  · replace hf := ite_t c1 hf
    exact fqb6_newWallsTo_63  hrc hf
  · replace hf := ite_f c1 hf
    by_cases c2 : i3 = 0
    · replace hf := ite_t c2 hf
      exact fqb6_newWallsTo_63  hrc hf
    · replace hf := ite_f c2 hf
      obtain ⟨r12, M13, g3, hf⟩ := bnd_s hf
      refine Fq.trans (Fq.mono (fq6_findFewerWalls  g3) (by decide)) ?_
      obtain ⟨v15, ev15, hf⟩ := lt_x hf
      exact hrc _ _ _ _ hf
theorem fqb6_newWallsTo_0   {rc : Nat → List Int32 → List Int64 → Mem → Option (Int32 × Mem)} {n : Nat} {r : Int32} {M' : Mem} (hrc : ∀ pc li lj M, rc pc li lj M = some (r, M') → Fq CSX [] M M') {a1 : Int32} {a2 : Int32} {M : Mem} (hf : b6_newWallsTo_0  rc n a1 a2 M = some (r, M')) : Fq CSX [] M M' := by
  unfold b6_newWallsTo_0 at hf
  obtain ⟨r1, M2, g1, hf⟩ := bnd_s hf
  refine Fq.trans (Fq.mono (fq6_stepsByOldMap  g1) (by decide)) ?_
  by_cases c2 : r1 = (99 : Int32)
  · replace hf := ite_t c2 hf
    exact Fq.of hf
  · replace hf := ite_f c2 hf
    obtain ⟨r5, M6, g3, hf⟩ := bnd_s hf
    refine Fq.trans (Fq.mono (fqZJ7_fill_53178 (by decide) g3) (by decide)) ?_
    have h4 := chk_1 hf
    replace hf := chk_2 hf
    obtain ⟨M9, eM9, hf⟩ := lt_x hf
    refine Fq_wIn eM9 (by decide) ?_
    exact fqb6_newWallsTo_40  hrc hf
theorem fql6_newWallsTo   {r : Int32} {M' : Mem} (n : Nat) : ∀ pc li lj M, r6_newWallsTo  n pc li lj M = some (r, M') → Fq CSX [] M M' := by
  induction n with
  | zero => intro pc li lj M hf; cases hf
  | succ n ih =>
    intro pc li lj M hf
    rw [r6_newWallsTo] at hf
    dsimp only at hf
    by_cases c40 : pc = 40
    · replace hf := ite_t c40 hf
      split at hf
      · exact fqb6_newWallsTo_40  ih hf
      · cases hf
    replace hf := ite_f c40 hf
    cases hf
theorem fq6_newWallsTo   {n : Nat} {a1 : Int32} {a2 : Int32} {M M' : Mem} {r : Int32} (hf : f6_newWallsTo n  a1 a2 M = some (r, M')) : Fq CSX [] M M' := fqb6_newWallsTo_0  (fql6_newWallsTo  n) hf
theorem fqb6_forgetLovers_0   {rc : Nat → List Int32 → List Int64 → Mem → Option (Unit × Mem)} {n : Nat} {r : Unit} {M' : Mem} (hrc : ∀ pc li lj M, rc pc li lj M = some (r, M') → Fq CSX [] M M')  {M : Mem} (hf : b6_forgetLovers_0  rc n  M = some (r, M')) : Fq CSX [] M M' := by
  unfold b6_forgetLovers_0 at hf
  obtain ⟨r1, M2, g1, hf⟩ := bnd_s hf
  refine Fq.trans (Fq.mono (fqZJ7_fill_53178 (by decide) g1) (by decide)) ?_
  obtain ⟨r4, M5, g2, hf⟩ := bnd_s hf
  refine Fq.trans (Fq.mono (fqZJ7_fill_53178 (by decide) g2) (by decide)) ?_
  exact Fq.of hf
theorem fq6_forgetLovers   {n : Nat}  {M M' : Mem} {r : Unit} (hf : f6_forgetLovers n   M = some (r, M')) : Fq CSX [] M M' := fqb6_forgetLovers_0  (fun _ _ _ _ h => by cases h) hf
theorem fqb6_addLover_51   {rc : Nat → List Int32 → List Int64 → Mem → Option (Unit × Mem)} {n : Nat} {r : Unit} {M' : Mem} (hrc : ∀ pc li lj M, rc pc li lj M = some (r, M') → Fq CSX [] M M') {i2 : Int32} {s1 : Int32} {s2 : Int32} {s3 : Int32} {M : Mem} (hf : b6_addLover_51  rc n i2 s1 s2 s3 M = some (r, M')) : Fq CSX [] M M' := by
  unfold b6_addLover_51 at hf
  have h1 := chk_1 hf
  replace hf := chk_2 hf
  obtain ⟨M10, eM10, hf⟩ := lt_x hf
  refine Fq_wIn eM10 (by decide) ?_
  have h2 := chk_1 hf
  replace hf := chk_2 hf
  have h3 := chk_1 hf
  replace hf := chk_2 hf
  have h4 := chk_1 hf
  replace hf := chk_2 hf
  obtain ⟨M14, eM14, hf⟩ := lt_x hf
  refine Fq_wIn eM14 (by decide) ?_
  obtain ⟨v15, ev15, hf⟩ := lt_x hf
  exact hrc _ _ _ _ hf
theorem fqb6_addLover_15   {rc : Nat → List Int32 → List Int64 → Mem → Option (Unit × Mem)} {n : Nat} {r : Unit} {M' : Mem} (hrc : ∀ pc li lj M, rc pc li lj M = some (r, M') → Fq CSX [] M M') {i2 : Int32} {M : Mem} (hf : b6_addLover_15  rc n i2 M = some (r, M')) : Fq CSX [] M M' := by
  unfold b6_addLover_15 at hf
  by_cases c1 : (96 : Int32) ≤ i2
  · replace hf := ite_t c1 hf
    exact Fq.of hf
  · replace hf := ite_f c1 hf
    have h2 := chk_1 hf
    replace hf := chk_2 hf
    have h3 := chk_1 hf
    replace hf := chk_2 hf
    by_cases c4 : (M.1 28 i2.toNatClampNeg) = (99 : Int32)
    · replace hf := ite_t c4 hf
      exact fqb6_addLover_51  hrc hf
    · replace hf := ite_f c4 hf
      have h5 := chk_1 hf
      replace hf := chk_2 hf
      exact fqb6_addLover_51  hrc hf
theorem fqb6_addLover_0   {rc : Nat → List Int32 → List Int64 → Mem → Option (Unit × Mem)} {n : Nat} {r : Unit} {M' : Mem} (hrc : ∀ pc li lj M, rc pc li lj M = some (r, M') → Fq CSX [] M M') {a1 : Int32} {M : Mem} (hf : b6_addLover_0  rc n a1 M = some (r, M')) : Fq CSX [] M M' := by
  unfold b6_addLover_0 at hf
  obtain ⟨r1, M2, g1, hf⟩ := bnd_s hf
  refine Fq.trans (Fq.mono (fq8_spread (by decide) g1) (by decide)) ?_
  exact fqb6_addLover_15  hrc hf
theorem fql6_addLover   {r : Unit} {M' : Mem} (n : Nat) : ∀ pc li lj M, r6_addLover  n pc li lj M = some (r, M') → Fq CSX [] M M' := by
  induction n with
  | zero => intro pc li lj M hf; cases hf
  | succ n ih =>
    intro pc li lj M hf
    rw [r6_addLover] at hf
    dsimp only at hf
    by_cases c15 : pc = 15
    · replace hf := ite_t c15 hf
      split at hf
      · exact fqb6_addLover_15  ih hf
      · cases hf
    replace hf := ite_f c15 hf
    cases hf
theorem fq6_addLover   {n : Nat} {a1 : Int32} {M M' : Mem} {r : Unit} (hf : f6_addLover n  a1 M = some (r, M')) : Fq CSX [] M M' := fqb6_addLover_0  (fql6_addLover  n) hf
theorem fqb6_meetingPlace_84   {rc : Nat → List Int32 → List Int64 → Mem → Option (Int32 × Mem)} {n : Nat} {r : Int32} {M' : Mem} (hrc : ∀ pc li lj M, rc pc li lj M = some (r, M') → Fq CSX [] M M') {i1 : Int32} {i2 : Int32} {i3 : Int32} {i4 : Int32} {M : Mem} (hf : b6_meetingPlace_84  rc n i1 i2 i3 i4 M = some (r, M')) : Fq CSX [] M M' := by
  unfold b6_meetingPlace_84 at hf
  obtain ⟨v9, ev9, hf⟩ := lt_x hf
  exact hrc _ _ _ _ hf
theorem fqb6_meetingPlace_65   {rc : Nat → List Int32 → List Int64 → Mem → Option (Int32 × Mem)} {n : Nat} {r : Int32} {M' : Mem} (hrc : ∀ pc li lj M, rc pc li lj M = some (r, M') → Fq CSX [] M M') {i4 : Int32} {M : Mem} (hf : b6_meetingPlace_65  rc n i4 M = some (r, M')) : Fq CSX [] M M' := by
  unfold b6_meetingPlace_65 at hf
  have h1 := chk_1 hf
  replace hf := chk_2 hf
  obtain ⟨v11, ev11, hf⟩ := lt_x hf
  have h2 := chk_1 hf
  replace hf := chk_2 hf
  obtain ⟨v13, ev13, hf⟩ := lt_x hf
  exact fqb6_meetingPlace_84  hrc hf
theorem fqb6_meetingPlace_47   {rc : Nat → List Int32 → List Int64 → Mem → Option (Int32 × Mem)} {n : Nat} {r : Int32} {M' : Mem} (hrc : ∀ pc li lj M, rc pc li lj M = some (r, M') → Fq CSX [] M M') {i1 : Int32} {i2 : Int32} {i3 : Int32} {i4 : Int32} {s0 : Int32} {M : Mem} (hf : b6_meetingPlace_47  rc n i1 i2 i3 i4 s0 M = some (r, M')) : Fq CSX [] M M' := by
  unfold b6_meetingPlace_47 at hf
  have h1 := chk_1 hf
  replace hf := chk_2 hf
  by_cases c2 : (M.1 30 i4.toNatClampNeg) < i2
  · replace hf := ite_t c2 hf
    exact fqb6_meetingPlace_65  hrc hf
  · replace hf := ite_f c2 hf
    by_cases c3 : s0 = 0
    · replace hf := ite_t c3 hf
      exact fqb6_meetingPlace_84  hrc hf
    · replace hf := ite_f c3 hf
      exact fqb6_meetingPlace_65  hrc hf
theorem fqb6_meetingPlace_46   {rc : Nat → List Int32 → List Int64 → Mem → Option (Int32 × Mem)} {n : Nat} {r : Int32} {M' : Mem} (hrc : ∀ pc li lj M, rc pc li lj M = some (r, M') → Fq CSX [] M M') {i1 : Int32} {i2 : Int32} {i3 : Int32} {i4 : Int32} {M : Mem} (hf : b6_meetingPlace_46  rc n i1 i2 i3 i4 M = some (r, M')) : Fq CSX [] M M' := by
  unfold b6_meetingPlace_46 at hf
  exact fqb6_meetingPlace_47  hrc hf
theorem fqb6_meetingPlace_13   {rc : Nat → List Int32 → List Int64 → Mem → Option (Int32 × Mem)} {n : Nat} {r : Int32} {M' : Mem} (hrc : ∀ pc li lj M, rc pc li lj M = some (r, M') → Fq CSX [] M M') {i1 : Int32} {i2 : Int32} {i3 : Int32} {i4 : Int32} {M : Mem} (hf : b6_meetingPlace_13  rc n i1 i2 i3 i4 M = some (r, M')) : Fq CSX [] M M' := by
  unfold b6_meetingPlace_13 at hf
  by_cases c1 : (96 : Int32) ≤ i4
  · replace hf := ite_t c1 hf
    exact Fq.of hf
  · replace hf := ite_f c1 hf
    have h2 := chk_1 hf
    replace hf := chk_2 hf
    by_cases c3 : (M.1 30 i4.toNatClampNeg) = i2
    · replace hf := ite_t c3 hf
      have h4 := chk_1 hf
      replace hf := chk_2 hf
      by_cases c5 : i3 ≤ (M.1 31 i4.toNatClampNeg)
      · replace hf := ite_t c5 hf
        exact fqb6_meetingPlace_46  hrc hf
      · replace hf := ite_f c5 hf
        exact fqb6_meetingPlace_47  hrc hf
    · replace hf := ite_f c3 hf
      exact fqb6_meetingPlace_46  hrc hf
theorem fqb6_meetingPlace_0   {rc : Nat → List Int32 → List Int64 → Mem → Option (Int32 × Mem)} {n : Nat} {r : Int32} {M' : Mem} (hrc : ∀ pc li lj M, rc pc li lj M = some (r, M') → Fq CSX [] M M')  {M : Mem} (hf : b6_meetingPlace_0  rc n  M = some (r, M')) : Fq CSX [] M M' := by
  unfold b6_meetingPlace_0 at hf
  exact fqb6_meetingPlace_13  hrc hf
theorem fql6_meetingPlace   {r : Int32} {M' : Mem} (n : Nat) : ∀ pc li lj M, r6_meetingPlace  n pc li lj M = some (r, M') → Fq CSX [] M M' := by
  induction n with
  | zero => intro pc li lj M hf; cases hf
  | succ n ih =>
    intro pc li lj M hf
    rw [r6_meetingPlace] at hf
    dsimp only at hf
    by_cases c13 : pc = 13
    · replace hf := ite_t c13 hf
      split at hf
      · exact fqb6_meetingPlace_13  ih hf
      · cases hf
    replace hf := ite_f c13 hf
    cases hf
theorem fq6_meetingPlace   {n : Nat}  {M M' : Mem} {r : Int32} (hf : f6_meetingPlace n   M = some (r, M')) : Fq CSX [] M M' := fqb6_meetingPlace_0  (fql6_meetingPlace  n) hf
theorem fqb6_lookAround_70   {rc : Nat → List Int32 → List Int64 → Mem → Option (Unit × Mem)} {n : Nat} {r : Unit} {M' : Mem} (hrc : ∀ pc li lj M, rc pc li lj M = some (r, M') → Fq CSX [(27, 8), (27, 9), (27, 10)] M M') {i2 : Int32} {i3 : Int32} {M : Mem} (hf : b6_lookAround_70  rc n i2 i3 M = some (r, M')) : Fq CSX [(27, 8), (27, 9), (27, 10)] M M' := by
  unfold b6_lookAround_70 at hf
  by_cases c1 : (2 : Int32) ≤ i3
  · replace hf := ite_t c1 hf
    have h2 := chk_1 hf
    replace hf := chk_2 hf
    obtain ⟨r26, M27, g3, hf⟩ := bnd_s hf
    refine Fq.trans (Fq.mono (fq4_meet (by have := inb_lt h2; simp [CSX]; omega) g3) (by decide)) ?_
    have h4 := chk_1 hf
    replace hf := chk_2 hf
    obtain ⟨r30, M31, g5, hf⟩ := bnd_s hf
    refine Fq.trans (Fq.mono (fq4_meet (by have := inb_lt h4; simp [CSX]; omega) g5) (by decide)) ?_
    obtain ⟨v33, ev33, hf⟩ := lt_x hf
    exact hrc _ _ _ _ hf
  · replace hf := ite_f c1 hf
    have h6 := chk_1 hf
    replace hf := chk_2 hf
    obtain ⟨r35, M36, g7, hf⟩ := bnd_s hf
    refine Fq.trans (Fq.mono (fq4_meet (by have := inb_lt h6; simp [CSX]; omega) g7) (by decide)) ?_
    have h8 := chk_1 hf
    replace hf := chk_2 hf
    obtain ⟨r39, M40, g9, hf⟩ := bnd_s hf
    refine Fq.trans (Fq.mono (fq4_grow (by have := inb_lt h8; simp [CSX]; omega) g9) (by decide)) ?_
    obtain ⟨v42, ev42, hf⟩ := lt_x hf
    exact hrc _ _ _ _ hf
theorem fqb6_lookAround_43   {rc : Nat → List Int32 → List Int64 → Mem → Option (Unit × Mem)} {n : Nat} {r : Unit} {M' : Mem} (hrc : ∀ pc li lj M, rc pc li lj M = some (r, M') → Fq CSX [(27, 8), (27, 9), (27, 10)] M M') {i2 : Int32} {M : Mem} (hf : b6_lookAround_43  rc n i2 M = some (r, M')) : Fq CSX [(27, 8), (27, 9), (27, 10)] M M' := by
  unfold b6_lookAround_43 at hf
  by_cases c1 : (96 : Int32) ≤ i2
  · replace hf := ite_t c1 hf
    obtain ⟨M13, eM13, hf⟩ := lt_x hf
    refine Fq_wI eM13 (by decide) ?_
    obtain ⟨M14, eM14, hf⟩ := lt_x hf
    refine Fq_wI eM14 (by decide) ?_
    obtain ⟨M15, eM15, hf⟩ := lt_x hf
    refine Fq_wI eM15 (by decide) ?_
    exact Fq.of hf
  · replace hf := ite_f c1 hf
    have h2 := chk_1 hf
    replace hf := chk_2 hf
    obtain ⟨r17, M18, g3, hf⟩ := bnd_s hf
    refine Fq.trans (Fq.mono (fq4_clear (by have := inb_lt h2; simp [CSX]; omega) g3) (by decide)) ?_
    have h4 := chk_1 hf
    replace hf := chk_2 hf
    obtain ⟨r21, M22, g5, hf⟩ := bnd_s hf
    refine Fq.trans (Fq.mono (fq4_add (by have := inb_lt h4; simp [CSX]; omega) g5) (by decide)) ?_
    exact fqb6_lookAround_70  hrc hf
theorem fqb6_lookAround_41   {rc : Nat → List Int32 → List Int64 → Mem → Option (Unit × Mem)} {n : Nat} {r : Unit} {M' : Mem} (hrc : ∀ pc li lj M, rc pc li lj M = some (r, M') → Fq CSX [(27, 8), (27, 9), (27, 10)] M M')  {M : Mem} (hf : b6_lookAround_41  rc n  M = some (r, M')) : Fq CSX [(27, 8), (27, 9), (27, 10)] M M' := by
  unfold b6_lookAround_41 at hf
  exact fqb6_lookAround_43  hrc hf
theorem fqb6_lookAround_35   {rc : Nat → List Int32 → List Int64 → Mem → Option (Unit × Mem)} {n : Nat} {r : Unit} {M' : Mem} (hrc : ∀ pc li lj M, rc pc li lj M = some (r, M') → Fq CSX [(27, 8), (27, 9), (27, 10)] M M') {i2 : Int32} {M : Mem} (hf : b6_lookAround_35  rc n i2 M = some (r, M')) : Fq CSX [(27, 8), (27, 9), (27, 10)] M M' := by
  unfold b6_lookAround_35 at hf
  obtain ⟨v11, ev11, hf⟩ := lt_x hf
  exact hrc _ _ _ _ hf
theorem fqb6_lookAround_9   {rc : Nat → List Int32 → List Int64 → Mem → Option (Unit × Mem)} {n : Nat} {r : Unit} {M' : Mem} (hrc : ∀ pc li lj M, rc pc li lj M = some (r, M') → Fq CSX [(27, 8), (27, 9), (27, 10)] M M') {i2 : Int32} {M : Mem} (hf : b6_lookAround_9  rc n i2 M = some (r, M')) : Fq CSX [(27, 8), (27, 9), (27, 10)] M M' := by
  unfold b6_lookAround_9 at hf
  by_cases c1 : (96 : Int32) ≤ i2
  · replace hf := ite_t c1 hf
    exact fqb6_lookAround_41  hrc hf
  · replace hf := ite_f c1 hf
    by_cases c2 : (96 : Int32) ≤ i2
    · replace hf := ite_t c2 hf
      exact fqb6_lookAround_41  hrc hf
    · replace hf := ite_f c2 hf
      have h3 := chk_1 hf
      replace hf := chk_2 hf
      by_cases c4 : (M.1 (330 + 1) i2.toNatClampNeg) ≤ 0
      · replace hf := ite_t c4 hf
        exact fqb6_lookAround_35  hrc hf
      · replace hf := ite_f c4 hf
        obtain ⟨r8, M9, g5, hf⟩ := bnd_s hf
        refine Fq.trans (Fq.mono (fq4_add (by decide) g5) (by decide)) ?_
        exact fqb6_lookAround_35  hrc hf
theorem fqb6_lookAround_0   {rc : Nat → List Int32 → List Int64 → Mem → Option (Unit × Mem)} {n : Nat} {r : Unit} {M' : Mem} (hrc : ∀ pc li lj M, rc pc li lj M = some (r, M') → Fq CSX [(27, 8), (27, 9), (27, 10)] M M')  {M : Mem} (hf : b6_lookAround_0  rc n  M = some (r, M')) : Fq CSX [(27, 8), (27, 9), (27, 10)] M M' := by
  unfold b6_lookAround_0 at hf
  obtain ⟨r1, M2, g1, hf⟩ := bnd_s hf
  refine Fq.trans (Fq.mono (fq4_clear (by decide) g1) (by decide)) ?_
  exact fqb6_lookAround_9  hrc hf
theorem fql6_lookAround   {r : Unit} {M' : Mem} (n : Nat) : ∀ pc li lj M, r6_lookAround  n pc li lj M = some (r, M') → Fq CSX [(27, 8), (27, 9), (27, 10)] M M' := by
  induction n with
  | zero => intro pc li lj M hf; cases hf
  | succ n ih =>
    intro pc li lj M hf
    rw [r6_lookAround] at hf
    dsimp only at hf
    by_cases c9 : pc = 9
    · replace hf := ite_t c9 hf
      split at hf
      · exact fqb6_lookAround_9  ih hf
      · cases hf
    replace hf := ite_f c9 hf
    by_cases c43 : pc = 43
    · replace hf := ite_t c43 hf
      split at hf
      · exact fqb6_lookAround_43  ih hf
      · cases hf
    replace hf := ite_f c43 hf
    by_cases c70 : pc = 70
    · replace hf := ite_t c70 hf
      split at hf
      · exact fqb6_lookAround_70  ih hf
      · cases hf
    replace hf := ite_f c70 hf
    cases hf
theorem fq6_lookAround   {n : Nat}  {M M' : Mem} {r : Unit} (hf : f6_lookAround n   M = some (r, M')) : Fq CSX [(27, 8), (27, 9), (27, 10)] M M' := fqb6_lookAround_0  (fql6_lookAround  n) hf
theorem fqb6_setOneBench_53   {rc : Nat → List Int32 → List Int64 → Mem → Option (Unit × Mem)} {n : Nat} {r : Unit} {M' : Mem} (hrc : ∀ pc li lj M, rc pc li lj M = some (r, M') → Fq CSX [(27, 8), (27, 10)] M M') {i1 : Int32} {M : Mem} (hf : b6_setOneBench_53  rc n i1 M = some (r, M')) : Fq CSX [(27, 8), (27, 10)] M M' := by
  unfold b6_setOneBench_53 at hf
  obtain ⟨v17, ev17, hf⟩ := lt_x hf
  exact hrc _ _ _ _ hf
theorem fqb6_setOneBench_2   {rc : Nat → List Int32 → List Int64 → Mem → Option (Unit × Mem)} {n : Nat} {r : Unit} {M' : Mem} (hrc : ∀ pc li lj M, rc pc li lj M = some (r, M') → Fq CSX [(27, 8), (27, 10)] M M') {i1 : Int32} {M : Mem} (hf : b6_setOneBench_2  rc n i1 M = some (r, M')) : Fq CSX [(27, 8), (27, 10)] M M' := by
  unfold b6_setOneBench_2 at hf
  by_cases c1 : (96 : Int32) ≤ i1
  · replace hf := ite_t c1 hf
    exact Fq.of hf
  · replace hf := ite_f c1 hf
    obtain ⟨r2, M3, g2, hf⟩ := bnd_s hf
    refine Fq.trans (Fq.mono (fq8_isOpen  g2) (by decide)) ?_
    by_cases c3 : r2 = 0
    · replace hf := ite_t c3 hf
      exact fqb6_setOneBench_53  hrc hf
    · replace hf := ite_f c3 hf
      have h4 := chk_1 hf
      replace hf := chk_2 hf
      obtain ⟨r7, M8, g5, hf⟩ := bnd_s hf
      refine Fq.trans (Fq.mono (fq4_size  g5) (by decide)) ?_
      by_cases c6 : r7 ≤ (M8.1 27 10)
      · replace hf := ite_t c6 hf
        exact fqb6_setOneBench_53  hrc hf
      · replace hf := ite_f c6 hf
        have h7 := chk_1 hf
        replace hf := chk_2 hf
        obtain ⟨r12, M13, g8, hf⟩ := bnd_s hf
        refine Fq.trans (Fq.mono (fq4_size  g8) (by decide)) ?_
        obtain ⟨M15, eM15, hf⟩ := lt_x hf
        refine Fq_wI eM15 (by decide) ?_
        obtain ⟨M16, eM16, hf⟩ := lt_x hf
        refine Fq_wI eM16 (by decide) ?_
        exact fqb6_setOneBench_53  hrc hf
theorem fqb6_setOneBench_0   {rc : Nat → List Int32 → List Int64 → Mem → Option (Unit × Mem)} {n : Nat} {r : Unit} {M' : Mem} (hrc : ∀ pc li lj M, rc pc li lj M = some (r, M') → Fq CSX [(27, 8), (27, 10)] M M')  {M : Mem} (hf : b6_setOneBench_0  rc n  M = some (r, M')) : Fq CSX [(27, 8), (27, 10)] M M' := by
  unfold b6_setOneBench_0 at hf
  exact fqb6_setOneBench_2  hrc hf
theorem fql6_setOneBench   {r : Unit} {M' : Mem} (n : Nat) : ∀ pc li lj M, r6_setOneBench  n pc li lj M = some (r, M') → Fq CSX [(27, 8), (27, 10)] M M' := by
  induction n with
  | zero => intro pc li lj M hf; cases hf
  | succ n ih =>
    intro pc li lj M hf
    rw [r6_setOneBench] at hf
    dsimp only at hf
    by_cases c2 : pc = 2
    · replace hf := ite_t c2 hf
      split at hf
      · exact fqb6_setOneBench_2  ih hf
      · cases hf
    replace hf := ite_f c2 hf
    cases hf
theorem fq6_setOneBench   {n : Nat}  {M M' : Mem} {r : Unit} (hf : f6_setOneBench n   M = some (r, M')) : Fq CSX [(27, 8), (27, 10)] M M' := fqb6_setOneBench_0  (fql6_setOneBench  n) hf
theorem fqb6_setTwoBenches_97   {rc : Nat → List Int32 → List Int64 → Mem → Option (Unit × Mem)} {n : Nat} {r : Unit} {M' : Mem} (hrc : ∀ pc li lj M, rc pc li lj M = some (r, M') → Fq CSX [(27, 8), (27, 9), (27, 10)] M M') {i1 : Int32} {M : Mem} (hf : b6_setTwoBenches_97  rc n i1 M = some (r, M')) : Fq CSX [(27, 8), (27, 9), (27, 10)] M M' := by
  unfold b6_setTwoBenches_97 at hf
  obtain ⟨v27, ev27, hf⟩ := lt_x hf
  exact hrc _ _ _ _ hf
theorem fqb6_setTwoBenches_91   {rc : Nat → List Int32 → List Int64 → Mem → Option (Unit × Mem)} {n : Nat} {r : Unit} {M' : Mem} (hrc : ∀ pc li lj M, rc pc li lj M = some (r, M') → Fq CSX [(27, 8), (27, 9), (27, 10)] M M') {i1 : Int32} {i2 : Int32} {M : Mem} (hf : b6_setTwoBenches_91  rc n i1 i2 M = some (r, M')) : Fq CSX [(27, 8), (27, 9), (27, 10)] M M' := by
  unfold b6_setTwoBenches_91 at hf
  obtain ⟨v26, ev26, hf⟩ := lt_x hf
  exact hrc _ _ _ _ hf
theorem fqb6_setTwoBenches_12   {rc : Nat → List Int32 → List Int64 → Mem → Option (Unit × Mem)} {n : Nat} {r : Unit} {M' : Mem} (hrc : ∀ pc li lj M, rc pc li lj M = some (r, M') → Fq CSX [(27, 8), (27, 9), (27, 10)] M M') {i1 : Int32} {i2 : Int32} {M : Mem} (hf : b6_setTwoBenches_12  rc n i1 i2 M = some (r, M')) : Fq CSX [(27, 8), (27, 9), (27, 10)] M M' := by
  unfold b6_setTwoBenches_12 at hf
  by_cases c1 : (96 : Int32) ≤ i2
  · replace hf := ite_t c1 hf
    exact fqb6_setTwoBenches_97  hrc hf
  · replace hf := ite_f c1 hf
    obtain ⟨r4, M5, g2, hf⟩ := bnd_s hf
    refine Fq.trans (Fq.mono (fq8_isOpen  g2) (by decide)) ?_
    by_cases c3 : r4 = 0
    · replace hf := ite_t c3 hf
      exact fqb6_setTwoBenches_97  hrc hf
    · replace hf := ite_f c3 hf
      obtain ⟨r8, M9, g4, hf⟩ := bnd_s hf
      refine Fq.trans (Fq.mono (fq8_isOpen  g4) (by decide)) ?_
      by_cases c5 : r8 = 0
      · replace hf := ite_t c5 hf
        exact fqb6_setTwoBenches_91  hrc hf
      · replace hf := ite_f c5 hf
        have h6 := chk_1 hf
        replace hf := chk_2 hf
        have h7 := chk_1 hf
        replace hf := chk_2 hf
        obtain ⟨r14, M15, g8, hf⟩ := bnd_s hf
        refine Fq.trans (Fq.mono (fq4_sizeWith  g8) (by decide)) ?_
        by_cases c9 : r14 ≤ (M15.1 27 10)
        · replace hf := ite_t c9 hf
          exact fqb6_setTwoBenches_91  hrc hf
        · replace hf := ite_f c9 hf
          have h10 := chk_1 hf
          replace hf := chk_2 hf
          have h11 := chk_1 hf
          replace hf := chk_2 hf
          obtain ⟨r20, M21, g12, hf⟩ := bnd_s hf
          refine Fq.trans (Fq.mono (fq4_sizeWith  g12) (by decide)) ?_
          obtain ⟨M23, eM23, hf⟩ := lt_x hf
          refine Fq_wI eM23 (by decide) ?_
          obtain ⟨M24, eM24, hf⟩ := lt_x hf
          refine Fq_wI eM24 (by decide) ?_
          obtain ⟨M25, eM25, hf⟩ := lt_x hf
          refine Fq_wI eM25 (by decide) ?_
          exact fqb6_setTwoBenches_91  hrc hf
theorem fqb6_setTwoBenches_2   {rc : Nat → List Int32 → List Int64 → Mem → Option (Unit × Mem)} {n : Nat} {r : Unit} {M' : Mem} (hrc : ∀ pc li lj M, rc pc li lj M = some (r, M') → Fq CSX [(27, 8), (27, 9), (27, 10)] M M') {i1 : Int32} {M : Mem} (hf : b6_setTwoBenches_2  rc n i1 M = some (r, M')) : Fq CSX [(27, 8), (27, 9), (27, 10)] M M' := by
  unfold b6_setTwoBenches_2 at hf
  by_cases c1 : (96 : Int32) ≤ i1
  · replace hf := ite_t c1 hf
    exact Fq.of hf
  · replace hf := ite_f c1 hf
    obtain ⟨v2, ev2, hf⟩ := lt_x hf
    exact fqb6_setTwoBenches_12  hrc hf
theorem fqb6_setTwoBenches_0   {rc : Nat → List Int32 → List Int64 → Mem → Option (Unit × Mem)} {n : Nat} {r : Unit} {M' : Mem} (hrc : ∀ pc li lj M, rc pc li lj M = some (r, M') → Fq CSX [(27, 8), (27, 9), (27, 10)] M M')  {M : Mem} (hf : b6_setTwoBenches_0  rc n  M = some (r, M')) : Fq CSX [(27, 8), (27, 9), (27, 10)] M M' := by
  unfold b6_setTwoBenches_0 at hf
  exact fqb6_setTwoBenches_2  hrc hf
theorem fql6_setTwoBenches   {r : Unit} {M' : Mem} (n : Nat) : ∀ pc li lj M, r6_setTwoBenches  n pc li lj M = some (r, M') → Fq CSX [(27, 8), (27, 9), (27, 10)] M M' := by
  induction n with
  | zero => intro pc li lj M hf; cases hf
  | succ n ih =>
    intro pc li lj M hf
    rw [r6_setTwoBenches] at hf
    dsimp only at hf
    by_cases c2 : pc = 2
    · replace hf := ite_t c2 hf
      split at hf
      · exact fqb6_setTwoBenches_2  ih hf
      · cases hf
    replace hf := ite_f c2 hf
    by_cases c12 : pc = 12
    · replace hf := ite_t c12 hf
      split at hf
      · exact fqb6_setTwoBenches_12  ih hf
      · cases hf
    replace hf := ite_f c12 hf
    cases hf
theorem fq6_setTwoBenches   {n : Nat}  {M M' : Mem} {r : Unit} (hf : f6_setTwoBenches n   M = some (r, M')) : Fq CSX [(27, 8), (27, 9), (27, 10)] M M' := fqb6_setTwoBenches_0  (fql6_setTwoBenches  n) hf
theorem fqb6_islands_89   {rc : Nat → List Int32 → List Int64 → Mem → Option (Int32 × Mem)} {n : Nat} {r : Int32} {M' : Mem} (hrc : ∀ pc li lj M, rc pc li lj M = some (r, M') → Fq CSX [] M M') {i1 : Int32} {i2 : Int32} {M : Mem} (hf : b6_islands_89  rc n i1 i2 M = some (r, M')) : Fq CSX [] M M' := by
  unfold b6_islands_89 at hf
  obtain ⟨v25, ev25, hf⟩ := lt_x hf
  exact hrc _ _ _ _ hf
theorem fqb6_islands_18   {rc : Nat → List Int32 → List Int64 → Mem → Option (Int32 × Mem)} {n : Nat} {r : Int32} {M' : Mem} (hrc : ∀ pc li lj M, rc pc li lj M = some (r, M') → Fq CSX [] M M') {i1 : Int32} {i2 : Int32} {M : Mem} (hf : b6_islands_18  rc n i1 i2 M = some (r, M')) : Fq CSX [] M M' := by
  unfold b6_islands_18 at hf
  by_cases c1 : (96 : Int32) ≤ i2
  · replace hf := ite_t c1 hf
    exact Fq.of hf
  · replace hf := ite_f c1 hf
    obtain ⟨r5, M6, g2, hf⟩ := bnd_s hf
    refine Fq.trans (Fq.mono (fq4_has  g2) (by decide)) ?_
    by_cases c3 : r5 = 0
    · replace hf := ite_t c3 hf
      exact fqb6_islands_89  hrc hf
    · replace hf := ite_f c3 hf
      obtain ⟨v9, ev9, hf⟩ := lt_x hf
      obtain ⟨r10, M11, g4, hf⟩ := bnd_s hf
      refine Fq.trans (Fq.mono (fq4_clear (by decide) g4) (by decide)) ?_
      obtain ⟨r13, M14, g5, hf⟩ := bnd_s hf
      refine Fq.trans (Fq.mono (fq4_add (by decide) g5) (by decide)) ?_
      obtain ⟨r16, M17, g6, hf⟩ := bnd_s hf
      refine Fq.trans (Fq.mono (fq4_flood (by decide) g6) (by decide)) ?_
      obtain ⟨r19, M20, g7, hf⟩ := bnd_s hf
      refine Fq.trans (Fq.mono (fq4_turnWithin (by decide) g7) (by decide)) ?_
      obtain ⟨r22, M23, g8, hf⟩ := bnd_s hf
      refine Fq.trans (Fq.mono (fq4_take (by decide) g8) (by decide)) ?_
      exact fqb6_islands_89  hrc hf
theorem fqb6_islands_0   {rc : Nat → List Int32 → List Int64 → Mem → Option (Int32 × Mem)} {n : Nat} {r : Int32} {M' : Mem} (hrc : ∀ pc li lj M, rc pc li lj M = some (r, M') → Fq CSX [] M M')  {M : Mem} (hf : b6_islands_0  rc n  M = some (r, M')) : Fq CSX [] M M' := by
  unfold b6_islands_0 at hf
  obtain ⟨r1, M2, g1, hf⟩ := bnd_s hf
  refine Fq.trans (Fq.mono (fq4_take (by decide) g1) (by decide)) ?_
  exact fqb6_islands_18  hrc hf
theorem fql6_islands   {r : Int32} {M' : Mem} (n : Nat) : ∀ pc li lj M, r6_islands  n pc li lj M = some (r, M') → Fq CSX [] M M' := by
  induction n with
  | zero => intro pc li lj M hf; cases hf
  | succ n ih =>
    intro pc li lj M hf
    rw [r6_islands] at hf
    dsimp only at hf
    by_cases c18 : pc = 18
    · replace hf := ite_t c18 hf
      split at hf
      · exact fqb6_islands_18  ih hf
      · cases hf
    replace hf := ite_f c18 hf
    cases hf
theorem fq6_islands   {n : Nat}  {M M' : Mem} {r : Int32} (hf : f6_islands n   M = some (r, M')) : Fq CSX [] M M' := fqb6_islands_0  (fql6_islands  n) hf
theorem fqb8_openBeside_24   {rc : Nat → List Int32 → List Int64 → Mem → Option (Int32 × Mem)} {n : Nat} {r : Int32} {M' : Mem} (hrc : ∀ pc li lj M, rc pc li lj M = some (r, M') → Fq CSX [] M M') {i1 : Int32} {i2 : Int32} {i3 : Int32} {M : Mem} (hf : b8_openBeside_24  rc n i1 i2 i3 M = some (r, M')) : Fq CSX [] M M' := by
  unfold b8_openBeside_24 at hf
  obtain ⟨v10, ev10, hf⟩ := lt_x hf
  exact hrc _ _ _ _ hf
theorem fqb8_openBeside_4   {rc : Nat → List Int32 → List Int64 → Mem → Option (Int32 × Mem)} {n : Nat} {r : Int32} {M' : Mem} (hrc : ∀ pc li lj M, rc pc li lj M = some (r, M') → Fq CSX [] M M') {i1 : Int32} {i2 : Int32} {i3 : Int32} {M : Mem} (hf : b8_openBeside_4  rc n i1 i2 i3 M = some (r, M')) : Fq CSX [] M M' := by
  unfold b8_openBeside_4 at hf
  by_cases c1 : (4 : Int32) ≤ i3
  · replace hf := ite_t c1 hf
    exact Fq.of hf
  · replace hf := ite_f c1 hf
    obtain ⟨r2, M3, g2, hf⟩ := bnd_s hf
    refine Fq.trans (Fq.mono (fq11_beside  g2) (by decide)) ?_
    obtain ⟨r5, M6, g3, hf⟩ := bnd_s hf
    refine Fq.trans (Fq.mono (fq8_isOpen  g3) (by decide)) ?_
    by_cases c4 : r5 = 0
    · replace hf := ite_t c4 hf
      exact fqb8_openBeside_24  hrc hf
    · replace hf := ite_f c4 hf
      obtain ⟨v9, ev9, hf⟩ := lt_x hf
      exact fqb8_openBeside_24  hrc hf
theorem fqb8_openBeside_0   {rc : Nat → List Int32 → List Int64 → Mem → Option (Int32 × Mem)} {n : Nat} {r : Int32} {M' : Mem} (hrc : ∀ pc li lj M, rc pc li lj M = some (r, M') → Fq CSX [] M M') {a1 : Int32} {M : Mem} (hf : b8_openBeside_0  rc n a1 M = some (r, M')) : Fq CSX [] M M' := by
  unfold b8_openBeside_0 at hf
  exact fqb8_openBeside_4  hrc hf
theorem fql8_openBeside   {r : Int32} {M' : Mem} (n : Nat) : ∀ pc li lj M, r8_openBeside  n pc li lj M = some (r, M') → Fq CSX [] M M' := by
  induction n with
  | zero => intro pc li lj M hf; cases hf
  | succ n ih =>
    intro pc li lj M hf
    rw [r8_openBeside] at hf
    dsimp only at hf
    by_cases c4 : pc = 4
    · replace hf := ite_t c4 hf
      split at hf
      · exact fqb8_openBeside_4  ih hf
      · cases hf
    replace hf := ite_f c4 hf
    cases hf
theorem fq8_openBeside   {n : Nat} {a1 : Int32} {M M' : Mem} {r : Int32} (hf : f8_openBeside n  a1 M = some (r, M')) : Fq CSX [] M M' := fqb8_openBeside_0  (fql8_openBeside  n) hf
theorem fqb6_openPlacesWith_36   {rc : Nat → List Int32 → List Int64 → Mem → Option (Int32 × Mem)} {n : Nat} {r : Int32} {M' : Mem} (hrc : ∀ pc li lj M, rc pc li lj M = some (r, M') → Fq CSX [] M M') {i1 : Int32} {i2 : Int32} {i3 : Int32} {M : Mem} (hf : b6_openPlacesWith_36  rc n i1 i2 i3 M = some (r, M')) : Fq CSX [] M M' := by
  unfold b6_openPlacesWith_36 at hf
  obtain ⟨v11, ev11, hf⟩ := lt_x hf
  exact hrc _ _ _ _ hf
theorem fqb6_openPlacesWith_4   {rc : Nat → List Int32 → List Int64 → Mem → Option (Int32 × Mem)} {n : Nat} {r : Int32} {M' : Mem} (hrc : ∀ pc li lj M, rc pc li lj M = some (r, M') → Fq CSX [] M M') {i1 : Int32} {i2 : Int32} {i3 : Int32} {M : Mem} (hf : b6_openPlacesWith_4  rc n i1 i2 i3 M = some (r, M')) : Fq CSX [] M M' := by
  unfold b6_openPlacesWith_4 at hf
  by_cases c1 : (96 : Int32) ≤ i3
  · replace hf := ite_t c1 hf
    exact Fq.of hf
  · replace hf := ite_f c1 hf
    obtain ⟨r2, M3, g2, hf⟩ := bnd_s hf
    refine Fq.trans (Fq.mono (fq8_isOpen  g2) (by decide)) ?_
    by_cases c3 : r2 = 0
    · replace hf := ite_t c3 hf
      exact fqb6_openPlacesWith_36  hrc hf
    · replace hf := ite_f c3 hf
      obtain ⟨r6, M7, g4, hf⟩ := bnd_s hf
      refine Fq.trans (Fq.mono (fq8_openBeside  g4) (by decide)) ?_
      by_cases c5 : r6 = i1
      · replace hf := ite_t c5 hf
        obtain ⟨v10, ev10, hf⟩ := lt_x hf
        exact fqb6_openPlacesWith_36  hrc hf
      · replace hf := ite_f c5 hf
        exact fqb6_openPlacesWith_36  hrc hf
theorem fqb6_openPlacesWith_0   {rc : Nat → List Int32 → List Int64 → Mem → Option (Int32 × Mem)} {n : Nat} {r : Int32} {M' : Mem} (hrc : ∀ pc li lj M, rc pc li lj M = some (r, M') → Fq CSX [] M M') {a1 : Int32} {M : Mem} (hf : b6_openPlacesWith_0  rc n a1 M = some (r, M')) : Fq CSX [] M M' := by
  unfold b6_openPlacesWith_0 at hf
  exact fqb6_openPlacesWith_4  hrc hf
theorem fql6_openPlacesWith   {r : Int32} {M' : Mem} (n : Nat) : ∀ pc li lj M, r6_openPlacesWith  n pc li lj M = some (r, M') → Fq CSX [] M M' := by
  induction n with
  | zero => intro pc li lj M hf; cases hf
  | succ n ih =>
    intro pc li lj M hf
    rw [r6_openPlacesWith] at hf
    dsimp only at hf
    by_cases c4 : pc = 4
    · replace hf := ite_t c4 hf
      split at hf
      · exact fqb6_openPlacesWith_4  ih hf
      · cases hf
    replace hf := ite_f c4 hf
    cases hf
theorem fq6_openPlacesWith   {n : Nat} {a1 : Int32} {M M' : Mem} {r : Int32} (hf : f6_openPlacesWith n  a1 M = some (r, M')) : Fq CSX [] M M' := fqb6_openPlacesWith_0  (fql6_openPlacesWith  n) hf
theorem fqb6_deadEnds_0   {rc : Nat → List Int32 → List Int64 → Mem → Option (Int32 × Mem)} {n : Nat} {r : Int32} {M' : Mem} (hrc : ∀ pc li lj M, rc pc li lj M = some (r, M') → Fq CSX [] M M')  {M : Mem} (hf : b6_deadEnds_0  rc n  M = some (r, M')) : Fq CSX [] M M' := by
  unfold b6_deadEnds_0 at hf
  obtain ⟨r1, M2, g1, hf⟩ := bnd_s hf
  refine Fq.trans (Fq.mono (fq6_openPlacesWith  g1) (by decide)) ?_
  obtain ⟨r4, M5, g2, hf⟩ := bnd_s hf
  refine Fq.trans (Fq.mono (fq6_openPlacesWith  g2) (by decide)) ?_
  exact Fq.of hf
theorem fq6_deadEnds   {n : Nat}  {M M' : Mem} {r : Int32} (hf : f6_deadEnds n   M = some (r, M')) : Fq CSX [] M M' := fqb6_deadEnds_0  (fun _ _ _ _ h => by cases h) hf
theorem fqb6_crossings_0   {rc : Nat → List Int32 → List Int64 → Mem → Option (Int32 × Mem)} {n : Nat} {r : Int32} {M' : Mem} (hrc : ∀ pc li lj M, rc pc li lj M = some (r, M') → Fq CSX [] M M')  {M : Mem} (hf : b6_crossings_0  rc n  M = some (r, M')) : Fq CSX [] M M' := by
  unfold b6_crossings_0 at hf
  obtain ⟨r1, M2, g1, hf⟩ := bnd_s hf
  refine Fq.trans (Fq.mono (fq6_openPlacesWith  g1) (by decide)) ?_
  exact Fq.of hf
theorem fq6_crossings   {n : Nat}  {M M' : Mem} {r : Int32} (hf : f6_crossings n   M = some (r, M')) : Fq CSX [] M M' := fqb6_crossings_0  (fun _ _ _ _ h => by cases h) hf
theorem fqb6_rings_0   {rc : Nat → List Int32 → List Int64 → Mem → Option (Int32 × Mem)} {n : Nat} {r : Int32} {M' : Mem} (hrc : ∀ pc li lj M, rc pc li lj M = some (r, M') → Fq CSX [] M M')  {M : Mem} (hf : b6_rings_0  rc n  M = some (r, M')) : Fq CSX [] M M' := by
  unfold b6_rings_0 at hf
  obtain ⟨r1, M2, g1, hf⟩ := bnd_s hf
  refine Fq.trans (Fq.mono (fq6_openPlacesWith  g1) (by decide)) ?_
  obtain ⟨r4, M5, g2, hf⟩ := bnd_s hf
  refine Fq.trans (Fq.mono (fq6_openPlacesWith  g2) (by decide)) ?_
  obtain ⟨r7, M8, g3, hf⟩ := bnd_s hf
  refine Fq.trans (Fq.mono (fq6_openPlacesWith  g3) (by decide)) ?_
  obtain ⟨r10, M11, g4, hf⟩ := bnd_s hf
  refine Fq.trans (Fq.mono (fq6_openPlacesWith  g4) (by decide)) ?_
  obtain ⟨v13, ev13, hf⟩ := lt_x hf
  obtain ⟨r14, M15, g5, hf⟩ := bnd_s hf
  refine Fq.trans (Fq.mono (fq4_size  g5) (by decide)) ?_
  obtain ⟨r17, M18, g6, hf⟩ := bnd_s hf
  refine Fq.trans (Fq.mono (fq6_islands  g6) (by decide)) ?_
  exact Fq.of hf
theorem fq6_rings   {n : Nat}  {M M' : Mem} {r : Int32} (hf : f6_rings n   M = some (r, M')) : Fq CSX [] M M' := fqb6_rings_0  (fun _ _ _ _ h => by cases h) hf
theorem fqb6_comeToWithout_26   {rc : Nat → List Int32 → List Int64 → Mem → Option (Int32 × Mem)} {n : Nat} {r : Int32} {M' : Mem} (hrc : ∀ pc li lj M, rc pc li lj M = some (r, M') → Fq CSX [] M M')  {M : Mem} (hf : b6_comeToWithout_26  rc n  M = some (r, M')) : Fq CSX [] M M' := by
  unfold b6_comeToWithout_26 at hf
  obtain ⟨r8, M9, g1, hf⟩ := bnd_s hf
  refine Fq.trans (Fq.mono (fq4_clear (by decide) g1) (by decide)) ?_
  obtain ⟨r11, M12, g2, hf⟩ := bnd_s hf
  refine Fq.trans (Fq.mono (fq4_add (by decide) g2) (by decide)) ?_
  obtain ⟨r14, M15, g3, hf⟩ := bnd_s hf
  refine Fq.trans (Fq.mono (fq4_flood (by decide) g3) (by decide)) ?_
  obtain ⟨r17, M18, g4, hf⟩ := bnd_s hf
  refine Fq.trans (Fq.mono (fq4_size  g4) (by decide)) ?_
  exact Fq.of hf
theorem fqb6_comeToWithout_0   {rc : Nat → List Int32 → List Int64 → Mem → Option (Int32 × Mem)} {n : Nat} {r : Int32} {M' : Mem} (hrc : ∀ pc li lj M, rc pc li lj M = some (r, M') → Fq CSX [] M M') {a1 : Int32} {M : Mem} (hf : b6_comeToWithout_0  rc n a1 M = some (r, M')) : Fq CSX [] M M' := by
  unfold b6_comeToWithout_0 at hf
  obtain ⟨r1, M2, g1, hf⟩ := bnd_s hf
  refine Fq.trans (Fq.mono (fq4_take (by decide) g1) (by decide)) ?_
  by_cases c2 : a1 < 0
  · replace hf := ite_t c2 hf
    exact fqb6_comeToWithout_26  hrc hf
  · replace hf := ite_f c2 hf
    obtain ⟨r5, M6, g3, hf⟩ := bnd_s hf
    refine Fq.trans (Fq.mono (fq4_drop (by decide) g3) (by decide)) ?_
    exact fqb6_comeToWithout_26  hrc hf
theorem fq6_comeToWithout   {n : Nat} {a1 : Int32} {M M' : Mem} {r : Int32} (hf : f6_comeToWithout n  a1 M = some (r, M')) : Fq CSX [] M M' := fqb6_comeToWithout_0  (fun _ _ _ _ h => by cases h) hf
theorem fqb6_findCuts_100   {rc : Nat → List Int32 → List Int64 → Mem → Option (Unit × Mem)} {n : Nat} {r : Unit} {M' : Mem} (hrc : ∀ pc li lj M, rc pc li lj M = some (r, M') → Fq CSX [(27, 11), (27, 12)] M M') {i1 : Int32} {i2 : Int32} {M : Mem} (hf : b6_findCuts_100  rc n i1 i2 M = some (r, M')) : Fq CSX [(27, 11), (27, 12)] M M' := by
  unfold b6_findCuts_100 at hf
  obtain ⟨v18, ev18, hf⟩ := lt_x hf
  exact hrc _ _ _ _ hf
theorem fqb6_findCuts_87   {rc : Nat → List Int32 → List Int64 → Mem → Option (Unit × Mem)} {n : Nat} {r : Unit} {M' : Mem} (hrc : ∀ pc li lj M, rc pc li lj M = some (r, M') → Fq CSX [(27, 11), (27, 12)] M M') {i1 : Int32} {i2 : Int32} {s1 : Int32} {M : Mem} (hf : b6_findCuts_87  rc n i1 i2 s1 M = some (r, M')) : Fq CSX [(27, 11), (27, 12)] M M' := by
  unfold b6_findCuts_87 at hf
  obtain ⟨M16, eM16, hf⟩ := lt_x hf
  refine Fq_wI eM16 (by decide) ?_
  obtain ⟨M17, eM17, hf⟩ := lt_x hf
  refine Fq_wI eM17 (by decide) ?_
  exact fqb6_findCuts_100  hrc hf
theorem fqb6_findCuts_55   {rc : Nat → List Int32 → List Int64 → Mem → Option (Unit × Mem)} {n : Nat} {r : Unit} {M' : Mem} (hrc : ∀ pc li lj M, rc pc li lj M = some (r, M') → Fq CSX [(27, 11), (27, 12)] M M') {i1 : Int32} {i2 : Int32} {s0 : Int32} {M : Mem} (hf : b6_findCuts_55  rc n i1 i2 s0 M = some (r, M')) : Fq CSX [(27, 11), (27, 12)] M M' := by
  unfold b6_findCuts_55 at hf
  by_cases c1 : s0 = 0
  · replace hf := ite_t c1 hf
    exact fqb6_findCuts_100  hrc hf
  · replace hf := ite_f c1 hf
    obtain ⟨r11, M12, g2, hf⟩ := bnd_s hf
    refine Fq.trans (Fq.mono (fq6_comeToWithout  g2) (by decide)) ?_
    by_cases c3 : (i1 - (1 : Int32)) ≤ r11
    · replace hf := ite_t c3 hf
      exact fqb6_findCuts_100  hrc hf
    · replace hf := ite_f c3 hf
      by_cases c4 : (M12.1 27 11) = 0
      · replace hf := ite_t c4 hf
        exact fqb6_findCuts_87  hrc hf
      · replace hf := ite_f c4 hf
        exact fqb6_findCuts_87  hrc hf
theorem fqb6_findCuts_54   {rc : Nat → List Int32 → List Int64 → Mem → Option (Unit × Mem)} {n : Nat} {r : Unit} {M' : Mem} (hrc : ∀ pc li lj M, rc pc li lj M = some (r, M') → Fq CSX [(27, 11), (27, 12)] M M') {i1 : Int32} {i2 : Int32} {M : Mem} (hf : b6_findCuts_54  rc n i1 i2 M = some (r, M')) : Fq CSX [(27, 11), (27, 12)] M M' := by
  unfold b6_findCuts_54 at hf
  exact fqb6_findCuts_55  hrc hf
theorem fqb6_findCuts_19   {rc : Nat → List Int32 → List Int64 → Mem → Option (Unit × Mem)} {n : Nat} {r : Unit} {M' : Mem} (hrc : ∀ pc li lj M, rc pc li lj M = some (r, M') → Fq CSX [(27, 11), (27, 12)] M M') {i1 : Int32} {i2 : Int32} {M : Mem} (hf : b6_findCuts_19  rc n i1 i2 M = some (r, M')) : Fq CSX [(27, 11), (27, 12)] M M' := by
  unfold b6_findCuts_19 at hf
  by_cases c1 : (96 : Int32) ≤ i2
  · replace hf := ite_t c1 hf
    exact Fq.of hf
  · replace hf := ite_f c1 hf
    by_cases c2 : i2 = (M.1 3 7)
    · replace hf := ite_t c2 hf
      exact fqb6_findCuts_54  hrc hf
    · replace hf := ite_f c2 hf
      have h3 := chk_1 hf
      replace hf := chk_2 hf
      by_cases c4 : (M.1 7 i2.toNatClampNeg) = (99 : Int32)
      · replace hf := ite_t c4 hf
        exact fqb6_findCuts_54  hrc hf
      · replace hf := ite_f c4 hf
        exact fqb6_findCuts_55  hrc hf
theorem fqb6_findCuts_0   {rc : Nat → List Int32 → List Int64 → Mem → Option (Unit × Mem)} {n : Nat} {r : Unit} {M' : Mem} (hrc : ∀ pc li lj M, rc pc li lj M = some (r, M') → Fq CSX [(27, 11), (27, 12)] M M')  {M : Mem} (hf : b6_findCuts_0  rc n  M = some (r, M')) : Fq CSX [(27, 11), (27, 12)] M M' := by
  unfold b6_findCuts_0 at hf
  obtain ⟨M1, eM1, hf⟩ := lt_x hf
  refine Fq_wI eM1 (by decide) ?_
  obtain ⟨M2, eM2, hf⟩ := lt_x hf
  refine Fq_wI eM2 (by decide) ?_
  obtain ⟨r3, M4, g1, hf⟩ := bnd_s hf
  refine Fq.trans (Fq.mono (fq6_comeToWithout  g1) (by decide)) ?_
  exact fqb6_findCuts_19  hrc hf
theorem fql6_findCuts   {r : Unit} {M' : Mem} (n : Nat) : ∀ pc li lj M, r6_findCuts  n pc li lj M = some (r, M') → Fq CSX [(27, 11), (27, 12)] M M' := by
  induction n with
  | zero => intro pc li lj M hf; cases hf
  | succ n ih =>
    intro pc li lj M hf
    rw [r6_findCuts] at hf
    dsimp only at hf
    by_cases c19 : pc = 19
    · replace hf := ite_t c19 hf
      split at hf
      · exact fqb6_findCuts_19  ih hf
      · cases hf
    replace hf := ite_f c19 hf
    cases hf
theorem fq6_findCuts   {n : Nat}  {M M' : Mem} {r : Unit} (hf : f6_findCuts n   M = some (r, M')) : Fq CSX [(27, 11), (27, 12)] M M' := fqb6_findCuts_0  (fql6_findCuts  n) hf
theorem fqb7_hasRoomForFive_0   {rc : Nat → List Int32 → List Int64 → Mem → Option (Int32 × Mem)} {n : Nat} {r : Int32} {M' : Mem} (hrc : ∀ pc li lj M, rc pc li lj M = some (r, M') → Fq CSX [] M M')  {M : Mem} (hf : b7_hasRoomForFive_0  rc n  M = some (r, M')) : Fq CSX [] M M' := by
  unfold b7_hasRoomForFive_0 at hf
  by_cases c1 : (260 : Int32) < ((M.1 1 1) + (20 : Int32))
  · replace hf := ite_t c1 hf
    exact Fq.of hf
  · replace hf := ite_f c1 hf
    exact Fq.of hf
theorem fq7_hasRoomForFive   {n : Nat}  {M M' : Mem} {r : Int32} (hf : f7_hasRoomForFive n   M = some (r, M')) : Fq CSX [] M M' := fqb7_hasRoomForFive_0  (fun _ _ _ _ h => by cases h) hf
theorem fqb7_addInt_3   {rc : Nat → List Int32 → List Int64 → Mem → Option (Unit × Mem)} {n : Nat} {r : Unit} {M' : Mem} (hrc : ∀ pc li lj M, rc pc li lj M = some (r, M') → Fq CSX [(1, 1)] M M') {i1 : Int32} {i2 : Int32} {M : Mem} (hf : b7_addInt_3  rc n i1 i2 M = some (r, M')) : Fq CSX [(1, 1)] M M' := by
  unfold b7_addInt_3 at hf
  by_cases c1 : i2 < 0
  · replace hf := ite_t c1 hf
    exact Fq.of hf
  · replace hf := ite_f c1 hf
    by_cases c2 : (260 : Int32) ≤ (M.1 1 1)
    · replace hf := ite_t c2 hf
      exact Fq.of hf
    · replace hf := ite_f c2 hf
      replace hf := chk_2 hf
      obtain ⟨M4, eM4, hf⟩ := lt_x hf
      refine Fq_wIn eM4 (by decide) ?_
      obtain ⟨M5, eM5, hf⟩ := lt_x hf
      refine Fq_wI eM5 (by decide) ?_
      obtain ⟨v6, ev6, hf⟩ := lt_x hf
      exact hrc _ _ _ _ hf
theorem fqb7_addInt_0   {rc : Nat → List Int32 → List Int64 → Mem → Option (Unit × Mem)} {n : Nat} {r : Unit} {M' : Mem} (hrc : ∀ pc li lj M, rc pc li lj M = some (r, M') → Fq CSX [(1, 1)] M M') {a1 : Int32} {M : Mem} (hf : b7_addInt_0  rc n a1 M = some (r, M')) : Fq CSX [(1, 1)] M M' := by
  unfold b7_addInt_0 at hf
  exact fqb7_addInt_3  hrc hf
theorem fql7_addInt   {r : Unit} {M' : Mem} (n : Nat) : ∀ pc li lj M, r7_addInt  n pc li lj M = some (r, M') → Fq CSX [(1, 1)] M M' := by
  induction n with
  | zero => intro pc li lj M hf; cases hf
  | succ n ih =>
    intro pc li lj M hf
    rw [r7_addInt] at hf
    dsimp only at hf
    by_cases c3 : pc = 3
    · replace hf := ite_t c3 hf
      split at hf
      · exact fqb7_addInt_3  ih hf
      · cases hf
    replace hf := ite_f c3 hf
    cases hf
theorem fq7_addInt   {n : Nat} {a1 : Int32} {M M' : Mem} {r : Unit} (hf : f7_addInt n  a1 M = some (r, M')) : Fq CSX [(1, 1)] M M' := fqb7_addInt_0  (fql7_addInt  n) hf
theorem fqb7_canGive_22   {rc : Nat → List Int32 → List Int64 → Mem → Option (Int32 × Mem)} {n : Nat} {r : Int32} {M' : Mem} (hrc : ∀ pc li lj M, rc pc li lj M = some (r, M') → Fq CSX [] M M')  {M : Mem} (hf : b7_canGive_22  rc n  M = some (r, M')) : Fq CSX [] M M' := by
  unfold b7_canGive_22 at hf
  exact Fq.of hf
theorem fqb7_canGive_0   {rc : Nat → List Int32 → List Int64 → Mem → Option (Int32 × Mem)} {n : Nat} {r : Int32} {M' : Mem} (hrc : ∀ pc li lj M, rc pc li lj M = some (r, M') → Fq CSX [] M M') {a1 : Int32} {a2 : Int32} {a3 : Int32} {M : Mem} (hf : b7_canGive_0  rc n a1 a2 a3 M = some (r, M')) : Fq CSX [] M M' := by
  unfold b7_canGive_0 at hf
  by_cases c1 : a1 < a2
  · replace hf := ite_t c1 hf
    exact fqb7_canGive_22  hrc hf
  · replace hf := ite_f c1 hf
    by_cases c2 : a3 < a1
    · replace hf := ite_t c2 hf
      exact fqb7_canGive_22  hrc hf
    · replace hf := ite_f c2 hf
      by_cases c3 : (M.1 1 1) < a1
      · replace hf := ite_t c3 hf
        exact fqb7_canGive_22  hrc hf
      · replace hf := ite_f c3 hf
        exact Fq.of hf
theorem fq7_canGive   {n : Nat} {a1 : Int32} {a2 : Int32} {a3 : Int32} {M M' : Mem} {r : Int32} (hf : f7_canGive n  a1 a2 a3 M = some (r, M')) : Fq CSX [] M M' := fqb7_canGive_0  (fun _ _ _ _ h => by cases h) hf
theorem fqb8_refresh_31   {rc : Nat → List Int32 → List Int64 → Mem → Option (Unit × Mem)} {n : Nat} {r : Unit} {M' : Mem} (hrc : ∀ pc li lj M, rc pc li lj M = some (r, M') → Fq CSX [(3, 9)] M M') {i1 : Int32} {M : Mem} (hf : b8_refresh_31  rc n i1 M = some (r, M')) : Fq CSX [(3, 9)] M M' := by
  unfold b8_refresh_31 at hf
  obtain ⟨v20, ev20, hf⟩ := lt_x hf
  exact hrc _ _ _ _ hf
theorem fqb8_refresh_9   {rc : Nat → List Int32 → List Int64 → Mem → Option (Unit × Mem)} {n : Nat} {r : Unit} {M' : Mem} (hrc : ∀ pc li lj M, rc pc li lj M = some (r, M') → Fq CSX [(3, 9)] M M') {i1 : Int32} {M : Mem} (hf : b8_refresh_9  rc n i1 M = some (r, M')) : Fq CSX [(3, 9)] M M' := by
  unfold b8_refresh_9 at hf
  by_cases c1 : (96 : Int32) ≤ i1
  · replace hf := ite_t c1 hf
    obtain ⟨r5, M6, g2, hf⟩ := bnd_s hf
    refine Fq.trans (Fq.mono (fq8_spread (by decide) g2) (by decide)) ?_
    replace hf := chk_2 hf
    obtain ⟨r9, M10, g3, hf⟩ := bnd_s hf
    refine Fq.trans (Fq.mono (fq8_spread (by decide) g3) (by decide)) ?_
    obtain ⟨M12, eM12, hf⟩ := lt_x hf
    refine Fq_wI eM12 (by decide) ?_
    exact Fq.of hf
  · replace hf := ite_f c1 hf
    obtain ⟨r13, M14, g4, hf⟩ := bnd_s hf
    refine Fq.trans (Fq.mono (fq8_isOpen  g4) (by decide)) ?_
    by_cases c5 : r13 = 0
    · replace hf := ite_t c5 hf
      exact fqb8_refresh_31  hrc hf
    · replace hf := ite_f c5 hf
      obtain ⟨r17, M18, g6, hf⟩ := bnd_s hf
      refine Fq.trans (Fq.mono (fq4_add (by decide) g6) (by decide)) ?_
      exact fqb8_refresh_31  hrc hf
theorem fqb8_refresh_0   {rc : Nat → List Int32 → List Int64 → Mem → Option (Unit × Mem)} {n : Nat} {r : Unit} {M' : Mem} (hrc : ∀ pc li lj M, rc pc li lj M = some (r, M') → Fq CSX [(3, 9)] M M')  {M : Mem} (hf : b8_refresh_0  rc n  M = some (r, M')) : Fq CSX [(3, 9)] M M' := by
  unfold b8_refresh_0 at hf
  obtain ⟨r1, M2, g1, hf⟩ := bnd_s hf
  refine Fq.trans (Fq.mono (fq4_clear (by decide) g1) (by decide)) ?_
  exact fqb8_refresh_9  hrc hf
theorem fql8_refresh   {r : Unit} {M' : Mem} (n : Nat) : ∀ pc li lj M, r8_refresh  n pc li lj M = some (r, M') → Fq CSX [(3, 9)] M M' := by
  induction n with
  | zero => intro pc li lj M hf; cases hf
  | succ n ih =>
    intro pc li lj M hf
    rw [r8_refresh] at hf
    dsimp only at hf
    by_cases c9 : pc = 9
    · replace hf := ite_t c9 hf
      split at hf
      · exact fqb8_refresh_9  ih hf
      · cases hf
    replace hf := ite_f c9 hf
    cases hf
theorem fq8_refresh   {n : Nat}  {M M' : Mem} {r : Unit} (hf : f8_refresh n   M = some (r, M')) : Fq CSX [(3, 9)] M M' := fqb8_refresh_0  (fql8_refresh  n) hf
theorem fqb8_stepHome_38   {rc : Nat → List Int32 → List Int64 → Mem → Option (Int32 × Mem)} {n : Nat} {r : Int32} {M' : Mem} (hrc : ∀ pc li lj M, rc pc li lj M = some (r, M') → Fq CSX [] M M') {i1 : Int32} {i2 : Int32} {M : Mem} (hf : b8_stepHome_38  rc n i1 i2 M = some (r, M')) : Fq CSX [] M M' := by
  unfold b8_stepHome_38 at hf
  obtain ⟨v12, ev12, hf⟩ := lt_x hf
  exact hrc _ _ _ _ hf
theorem fqb8_stepHome_2   {rc : Nat → List Int32 → List Int64 → Mem → Option (Int32 × Mem)} {n : Nat} {r : Int32} {M' : Mem} (hrc : ∀ pc li lj M, rc pc li lj M = some (r, M') → Fq CSX [] M M') {i1 : Int32} {i2 : Int32} {M : Mem} (hf : b8_stepHome_2  rc n i1 i2 M = some (r, M')) : Fq CSX [] M M' := by
  unfold b8_stepHome_2 at hf
  by_cases c1 : (4 : Int32) ≤ i2
  · replace hf := ite_t c1 hf
    exact Fq.of hf
  · replace hf := ite_f c1 hf
    obtain ⟨r2, M3, g2, hf⟩ := bnd_s hf
    refine Fq.trans (Fq.mono (fq11_beside  g2) (by decide)) ?_
    obtain ⟨r5, M6, g3, hf⟩ := bnd_s hf
    refine Fq.trans (Fq.mono (fq8_isOpen  g3) (by decide)) ?_
    by_cases c4 : r5 = 0
    · replace hf := ite_t c4 hf
      exact fqb8_stepHome_38  hrc hf
    · replace hf := ite_f c4 hf
      have h5 := chk_1 hf
      replace hf := chk_2 hf
      have h6 := chk_1 hf
      replace hf := chk_2 hf
      by_cases c7 : (M6.1 7 i1.toNatClampNeg) ≤ (M6.1 7 r2.toNatClampNeg)
      · replace hf := ite_t c7 hf
        exact fqb8_stepHome_38  hrc hf
      · replace hf := ite_f c7 hf
        exact Fq.of hf
theorem fqb8_stepHome_0   {rc : Nat → List Int32 → List Int64 → Mem → Option (Int32 × Mem)} {n : Nat} {r : Int32} {M' : Mem} (hrc : ∀ pc li lj M, rc pc li lj M = some (r, M') → Fq CSX [] M M') {a1 : Int32} {M : Mem} (hf : b8_stepHome_0  rc n a1 M = some (r, M')) : Fq CSX [] M M' := by
  unfold b8_stepHome_0 at hf
  exact fqb8_stepHome_2  hrc hf
theorem fql8_stepHome   {r : Int32} {M' : Mem} (n : Nat) : ∀ pc li lj M, r8_stepHome  n pc li lj M = some (r, M') → Fq CSX [] M M' := by
  induction n with
  | zero => intro pc li lj M hf; cases hf
  | succ n ih =>
    intro pc li lj M hf
    rw [r8_stepHome] at hf
    dsimp only at hf
    by_cases c2 : pc = 2
    · replace hf := ite_t c2 hf
      split at hf
      · exact fqb8_stepHome_2  ih hf
      · cases hf
    replace hf := ite_f c2 hf
    cases hf
theorem fq8_stepHome   {n : Nat} {a1 : Int32} {M M' : Mem} {r : Int32} (hf : f8_stepHome n  a1 M = some (r, M')) : Fq CSX [] M M' := fqb8_stepHome_0  (fql8_stepHome  n) hf
theorem fqb8_kindBySign_0   {rc : Nat → List Int32 → List Int64 → Mem → Option (Int32 × Mem)} {n : Nat} {r : Int32} {M' : Mem} (hrc : ∀ pc li lj M, rc pc li lj M = some (r, M') → Fq CSX [] M M') {a0 : Int32} {M : Mem} (hf : b8_kindBySign_0  rc n a0 M = some (r, M')) : Fq CSX [] M M' := by
  unfold b8_kindBySign_0 at hf
  by_cases c1 : a0 = (35 : Int32)
  · replace hf := ite_t c1 hf
    exact Fq.of hf
  · replace hf := ite_f c1 hf
    by_cases c2 : a0 = (43 : Int32)
    · replace hf := ite_t c2 hf
      exact Fq.of hf
    · replace hf := ite_f c2 hf
      by_cases c3 : a0 = (46 : Int32)
      · replace hf := ite_t c3 hf
        exact Fq.of hf
      · replace hf := ite_f c3 hf
        exact Fq.of hf
theorem fq8_kindBySign   {n : Nat} {a0 : Int32} {M M' : Mem} {r : Int32} (hf : f8_kindBySign n  a0 M = some (r, M')) : Fq CSX [] M M' := fqb8_kindBySign_0  (fun _ _ _ _ h => by cases h) hf
theorem fqb8_readMap_245   {rc : Nat → List Int32 → List Int64 → Mem → Option (Int32 × Mem)} {n : Nat} {r : Int32} {M' : Mem} (hrc : ∀ pc li lj M, rc pc li lj M = some (r, M') → Fq CSX [(3, 9)] M M') {i2 : Int32} {M : Mem} (hf : b8_readMap_245  rc n i2 M = some (r, M')) : Fq CSX [(3, 9)] M M' := by
  unfold b8_readMap_245 at hf
  obtain ⟨r48, M49, g1, hf⟩ := bnd_s hf
  refine Fq.trans (Fq.mono (fq11_faultAt  g1) (by decide)) ?_
  exact Fq.of hf
theorem fqb8_readMap_229   {rc : Nat → List Int32 → List Int64 → Mem → Option (Int32 × Mem)} {n : Nat} {r : Int32} {M' : Mem} (hrc : ∀ pc li lj M, rc pc li lj M = some (r, M') → Fq CSX [(3, 9)] M M') {i2 : Int32} {i3 : Int32} {i4 : Int32} {i5 : Int32} {i6 : Int32} {i7 : Int32} {M : Mem} (hf : b8_readMap_229  rc n i2 i3 i4 i5 i6 i7 M = some (r, M')) : Fq CSX [(3, 9)] M M' := by
  unfold b8_readMap_229 at hf
  obtain ⟨v36, ev36, hf⟩ := lt_x hf
  exact hrc _ _ _ _ hf
theorem fqb8_readMap_199   {rc : Nat → List Int32 → List Int64 → Mem → Option (Int32 × Mem)} {n : Nat} {r : Int32} {M' : Mem} (hrc : ∀ pc li lj M, rc pc li lj M = some (r, M') → Fq CSX [(3, 9)] M M') {i2 : Int32} {i3 : Int32} {i4 : Int32} {i6 : Int32} {i7 : Int32} {i9 : Int32} {i12 : Int32} {M : Mem} (hf : b8_readMap_199  rc n i2 i3 i4 i6 i7 i9 i12 M = some (r, M')) : Fq CSX [(3, 9)] M M' := by
  unfold b8_readMap_199 at hf
  by_cases c1 : i12 ≤ i4
  · replace hf := ite_t c1 hf
    exact fqb8_readMap_229  hrc hf
  · replace hf := ite_f c1 hf
    have h2 := chk_1 hf
    replace hf := chk_2 hf
    obtain ⟨M46, eM46, hf⟩ := lt_x hf
    refine Fq_wIn eM46 (by decide) ?_
    obtain ⟨v47, ev47, hf⟩ := lt_x hf
    exact hrc _ _ _ _ hf
theorem fqb8_readMap_156   {rc : Nat → List Int32 → List Int64 → Mem → Option (Int32 × Mem)} {n : Nat} {r : Int32} {M' : Mem} (hrc : ∀ pc li lj M, rc pc li lj M = some (r, M') → Fq CSX [(3, 9)] M M') {i2 : Int32} {i3 : Int32} {i4 : Int32} {i5 : Int32} {i7 : Int32} {i8 : Int32} {i9 : Int32} {i10 : Int32} {s0 : Int32} {M : Mem} (hf : b8_readMap_156  rc n i2 i3 i4 i5 i7 i8 i9 i10 s0 M = some (r, M')) : Fq CSX [(3, 9)] M M' := by
  unfold b8_readMap_156 at hf
  by_cases c1 : i10 = 0
  · replace hf := ite_t c1 hf
    obtain ⟨v38, ev38, hf⟩ := lt_x hf
    by_cases c2 : v38 ≤ (12 : Int32)
    · replace hf := ite_t c2 hf
      exact fqb8_readMap_199  hrc hf
    · replace hf := ite_f c2 hf
      obtain ⟨r40, M41, g3, hf⟩ := bnd_s hf
      refine Fq.trans (Fq.mono (fq11_faultAt  g3) (by decide)) ?_
      exact Fq.of hf
  · replace hf := ite_f c1 hf
    obtain ⟨v43, ev43, hf⟩ := lt_x hf
    exact fqb8_readMap_229  hrc hf
theorem fqb8_readMap_117   {rc : Nat → List Int32 → List Int64 → Mem → Option (Int32 × Mem)} {n : Nat} {r : Int32} {M' : Mem} (hrc : ∀ pc li lj M, rc pc li lj M = some (r, M') → Fq CSX [(3, 9)] M M') {i2 : Int32} {i3 : Int32} {i4 : Int32} {i5 : Int32} {i6 : Int32} {i7 : Int32} {i8 : Int32} {i9 : Int32} {i10 : Int32} {i11 : Int32} {M : Mem} (hf : b8_readMap_117  rc n i2 i3 i4 i5 i6 i7 i8 i9 i10 i11 M = some (r, M')) : Fq CSX [(3, 9)] M M' := by
  unfold b8_readMap_117 at hf
  by_cases c1 : i11 = 0
  · replace hf := ite_t c1 hf
    by_cases c2 : i3 = (8 : Int32)
    · replace hf := ite_t c2 hf
      obtain ⟨r32, M33, g3, hf⟩ := bnd_s hf
      refine Fq.trans (Fq.mono (fq11_faultAt  g3) (by decide)) ?_
      exact Fq.of hf
    · replace hf := ite_f c2 hf
      by_cases c4 : i5 = 0
      · replace hf := ite_t c4 hf
        exact fqb8_readMap_156  hrc hf
      · replace hf := ite_f c4 hf
        exact fqb8_readMap_156  hrc hf
  · replace hf := ite_f c1 hf
    obtain ⟨v35, ev35, hf⟩ := lt_x hf
    exact fqb8_readMap_229  hrc hf
theorem fqb8_readMap_92   {rc : Nat → List Int32 → List Int64 → Mem → Option (Int32 × Mem)} {n : Nat} {r : Int32} {M' : Mem} (hrc : ∀ pc li lj M, rc pc li lj M = some (r, M') → Fq CSX [(3, 9)] M M') {i2 : Int32} {i3 : Int32} {i4 : Int32} {i5 : Int32} {i6 : Int32} {i7 : Int32} {i8 : Int32} {i9 : Int32} {i10 : Int32} {s0 : Int32} {M : Mem} (hf : b8_readMap_92  rc n i2 i3 i4 i5 i6 i7 i8 i9 i10 s0 M = some (r, M')) : Fq CSX [(3, 9)] M M' := by
  unfold b8_readMap_92 at hf
  by_cases c1 : i9 = (-1 : Int32)
  · replace hf := ite_t c1 hf
    by_cases c2 : i10 = 0
    · replace hf := ite_t c2 hf
      by_cases c3 : s0 = 0
      · replace hf := ite_t c3 hf
        obtain ⟨r26, M27, g4, hf⟩ := bnd_s hf
        refine Fq.trans (Fq.mono (fq11_faultAt  g4) (by decide)) ?_
        exact Fq.of hf
      · replace hf := ite_f c3 hf
        exact fqb8_readMap_117  hrc hf
    · replace hf := ite_f c2 hf
      exact fqb8_readMap_117  hrc hf
  · replace hf := ite_f c1 hf
    exact fqb8_readMap_117  hrc hf
theorem fqb8_readMap_91   {rc : Nat → List Int32 → List Int64 → Mem → Option (Int32 × Mem)} {n : Nat} {r : Int32} {M' : Mem} (hrc : ∀ pc li lj M, rc pc li lj M = some (r, M') → Fq CSX [(3, 9)] M M') {i2 : Int32} {i3 : Int32} {i4 : Int32} {i5 : Int32} {i6 : Int32} {i7 : Int32} {i8 : Int32} {i9 : Int32} {i10 : Int32} {M : Mem} (hf : b8_readMap_91  rc n i2 i3 i4 i5 i6 i7 i8 i9 i10 M = some (r, M')) : Fq CSX [(3, 9)] M M' := by
  unfold b8_readMap_91 at hf
  exact fqb8_readMap_92  hrc hf
theorem fqb8_readMap_68   {rc : Nat → List Int32 → List Int64 → Mem → Option (Int32 × Mem)} {n : Nat} {r : Int32} {M' : Mem} (hrc : ∀ pc li lj M, rc pc li lj M = some (r, M') → Fq CSX [(3, 9)] M M') {i2 : Int32} {i3 : Int32} {i4 : Int32} {i5 : Int32} {i6 : Int32} {i7 : Int32} {i8 : Int32} {i9 : Int32} {s0 : Int32} {M : Mem} (hf : b8_readMap_68  rc n i2 i3 i4 i5 i6 i7 i8 i9 s0 M = some (r, M')) : Fq CSX [(3, 9)] M M' := by
  unfold b8_readMap_68 at hf
  by_cases c1 : i8 = (47 : Int32)
  · replace hf := ite_t c1 hf
    by_cases c2 : i4 ≤ 0
    · replace hf := ite_t c2 hf
      exact fqb8_readMap_91  hrc hf
    · replace hf := ite_f c2 hf
      by_cases c3 : i5 = 0
      · replace hf := ite_t c3 hf
        exact fqb8_readMap_92  hrc hf
      · replace hf := ite_f c3 hf
        exact fqb8_readMap_91  hrc hf
  · replace hf := ite_f c1 hf
    exact fqb8_readMap_91  hrc hf
theorem fqb8_readMap_67   {rc : Nat → List Int32 → List Int64 → Mem → Option (Int32 × Mem)} {n : Nat} {r : Int32} {M' : Mem} (hrc : ∀ pc li lj M, rc pc li lj M = some (r, M') → Fq CSX [(3, 9)] M M') {i2 : Int32} {i3 : Int32} {i4 : Int32} {i5 : Int32} {i6 : Int32} {i7 : Int32} {i8 : Int32} {i9 : Int32} {M : Mem} (hf : b8_readMap_67  rc n i2 i3 i4 i5 i6 i7 i8 i9 M = some (r, M')) : Fq CSX [(3, 9)] M M' := by
  unfold b8_readMap_67 at hf
  exact fqb8_readMap_68  hrc hf
theorem fqb8_readMap_22   {rc : Nat → List Int32 → List Int64 → Mem → Option (Int32 × Mem)} {n : Nat} {r : Int32} {M' : Mem} (hrc : ∀ pc li lj M, rc pc li lj M = some (r, M') → Fq CSX [(3, 9)] M M') {i2 : Int32} {i3 : Int32} {i4 : Int32} {i5 : Int32} {i6 : Int32} {i7 : Int32} {M : Mem} (hf : b8_readMap_22  rc n i2 i3 i4 i5 i6 i7 M = some (r, M')) : Fq CSX [(3, 9)] M M' := by
  unfold b8_readMap_22 at hf
  by_cases c1 : i2 ≤ i7
  · replace hf := ite_t c1 hf
    by_cases c2 : i4 = 0
    · replace hf := ite_t c2 hf
      exact fqb8_readMap_245  hrc hf
    · replace hf := ite_f c2 hf
      by_cases c3 : i5 ≤ 0
      · replace hf := ite_t c3 hf
        obtain ⟨M7, eM7, hf⟩ := lt_x hf
        refine Fq_wRn eM7 (by decide) ?_
        obtain ⟨r8, M9, g4, hf⟩ := bnd_s hf
        refine Fq.trans (Fq.mono (fq8_refresh  g4) (by decide)) ?_
        exact Fq.of hf
      · replace hf := ite_f c3 hf
        exact fqb8_readMap_245  hrc hf
  · replace hf := ite_f c1 hf
    obtain ⟨r11, M12, g5, hf⟩ := bnd_s hf
    refine Fq.trans (Fq.mono (fq7_at  g5) (by decide)) ?_
    obtain ⟨r14, M15, g6, hf⟩ := bnd_s hf
    refine Fq.trans (Fq.mono (fq8_kindBySign  g6) (by decide)) ?_
    by_cases c7 : i5 = 0
    · replace hf := ite_t c7 hf
      by_cases c8 : r11 < (50 : Int32)
      · replace hf := ite_t c8 hf
        exact fqb8_readMap_67  hrc hf
      · replace hf := ite_f c8 hf
        by_cases c9 : (57 : Int32) < r11
        · replace hf := ite_t c9 hf
          exact fqb8_readMap_67  hrc hf
        · replace hf := ite_f c9 hf
          exact fqb8_readMap_68  hrc hf
    · replace hf := ite_f c7 hf
      exact fqb8_readMap_67  hrc hf
theorem fqb8_readMap_0   {rc : Nat → List Int32 → List Int64 → Mem → Option (Int32 × Mem)} {n : Nat} {r : Int32} {M' : Mem} (hrc : ∀ pc li lj M, rc pc li lj M = some (r, M') → Fq CSX [(3, 9)] M M') {a2 : Int32} {M : Mem} (hf : b8_readMap_0  rc n a2 M = some (r, M')) : Fq CSX [(3, 9)] M M' := by
  unfold b8_readMap_0 at hf
  obtain ⟨r1, M2, g1, hf⟩ := bnd_s hf
  refine Fq.trans (Fq.mono (fqZJ7_fill_53178 (by decide) g1) (by decide)) ?_
  exact fqb8_readMap_22  hrc hf
theorem fql8_readMap   {r : Int32} {M' : Mem} (n : Nat) : ∀ pc li lj M, r8_readMap  n pc li lj M = some (r, M') → Fq CSX [(3, 9)] M M' := by
  induction n with
  | zero => intro pc li lj M hf; cases hf
  | succ n ih =>
    intro pc li lj M hf
    rw [r8_readMap] at hf
    dsimp only at hf
    by_cases c22 : pc = 22
    · replace hf := ite_t c22 hf
      split at hf
      · exact fqb8_readMap_22  ih hf
      · cases hf
    replace hf := ite_f c22 hf
    by_cases c199 : pc = 199
    · replace hf := ite_t c199 hf
      split at hf
      · exact fqb8_readMap_199  ih hf
      · cases hf
    replace hf := ite_f c199 hf
    cases hf
theorem fq8_readMap   {n : Nat} {a2 : Int32} {M M' : Mem} {r : Int32} (hf : f8_readMap n  a2 M = some (r, M')) : Fq CSX [(3, 9)] M M' := fqb8_readMap_0  (fql8_readMap  n) hf
