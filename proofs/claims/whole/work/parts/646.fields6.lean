theorem fqb12_jumps_0   {rc : Nat → List Int32 → List Int64 → Mem → Option (Unit × Mem)} {n : Nat} {r : Unit} {M' : Mem} (hrc : ∀ pc li lj M, rc pc li lj M = some (r, M') → Fq CSY [(0, 12), (0, 17), (0, 18)] M M') {a1 : Int32} {M : Mem} (hf : b12_jumps_0  rc n a1 M = some (r, M')) : Fq CSY [(0, 12), (0, 17), (0, 18)] M M' := by
  unfold b12_jumps_0 at hf
  replace hf := chk_2 hf
  obtain ⟨M2, eM2, hf⟩ := lt_x hf
  refine Fq_wIn eM2 (by decide) ?_
  obtain ⟨M3, eM3, hf⟩ := lt_x hf
  refine Fq_wI eM3 (by decide) ?_
  obtain ⟨r4, M5, g1, hf⟩ := bnd_s hf
  refine Fq.trans (Fq.mono (fq12_codesOf  g1) (by decide)) ?_
  obtain ⟨M7, eM7, hf⟩ := lt_x hf
  refine Fq_wI eM7 (by decide) ?_
  exact Fq.of hf
theorem fq12_jumps   {n : Nat} {a1 : Int32} {M M' : Mem} {r : Unit} (hf : f12_jumps n  a1 M = some (r, M')) : Fq CSY [(0, 12), (0, 17), (0, 18)] M M' := fqb12_jumps_0  (fun _ _ _ _ h => by cases h) hf
theorem fqb12_readsCompared_52   {rc : Nat → List Int32 → List Int64 → Mem → Option (Int32 × Mem)} {n : Nat} {r : Int32} {M' : Mem} (hrc : ∀ pc li lj M, rc pc li lj M = some (r, M') → Fq CSY [(0, 12), (0, 14), (0, 15), (0, 16), (0, 17), (0, 18)] M M') {s0 : Int32} {M : Mem} (hf : b12_readsCompared_52  rc n s0 M = some (r, M')) : Fq CSY [(0, 12), (0, 14), (0, 15), (0, 16), (0, 17), (0, 18)] M M' := by
  unfold b12_readsCompared_52 at hf
  by_cases c1 : s0 = (-1 : Int32)
  · replace hf := ite_t c1 hf
    obtain ⟨r29, M30, g2, hf⟩ := bnd_s hf
    refine Fq.trans (Fq.mono (fq12_wrongAt  g2) (by decide)) ?_
    replace hf := chk_2 hf
    exact Fq.of hf
  · replace hf := ite_f c1 hf
    obtain ⟨M18, eM18, hf⟩ := lt_x hf
    refine Fq_wI eM18 (by decide) ?_
    obtain ⟨r19, M20, g3, hf⟩ := bnd_s hf
    refine Fq.trans (Fq.mono (fq12_readsSum  g3) (by decide)) ?_
    by_cases c4 : r19 = 0
    · replace hf := ite_t c4 hf
      exact Fq.of hf
    · replace hf := ite_f c4 hf
      obtain ⟨r23, M24, g5, hf⟩ := bnd_s hf
      refine Fq.trans (Fq.mono (fq12_codesOf  g5) (by decide)) ?_
      obtain ⟨r26, M27, g6, hf⟩ := bnd_s hf
      refine Fq.trans (Fq.mono (fq12_endsPiece  g6) (by decide)) ?_
      exact Fq.of hf
theorem fqb12_readsCompared_0   {rc : Nat → List Int32 → List Int64 → Mem → Option (Int32 × Mem)} {n : Nat} {r : Int32} {M' : Mem} (hrc : ∀ pc li lj M, rc pc li lj M = some (r, M') → Fq CSY [(0, 12), (0, 14), (0, 15), (0, 16), (0, 17), (0, 18)] M M')  {M : Mem} (hf : b12_readsCompared_0  rc n  M = some (r, M')) : Fq CSY [(0, 12), (0, 14), (0, 15), (0, 16), (0, 17), (0, 18)] M M' := by
  unfold b12_readsCompared_0 at hf
  obtain ⟨r1, M2, g1, hf⟩ := bnd_s hf
  refine Fq.trans (Fq.mono (fq12_readsSum  g1) (by decide)) ?_
  by_cases c2 : r1 = 0
  · replace hf := ite_t c2 hf
    exact Fq.of hf
  · replace hf := ite_f c2 hf
    obtain ⟨r5, M6, g3, hf⟩ := bnd_s hf
    refine Fq.trans (Fq.mono (fq12_here  g3) (by decide)) ?_
    by_cases c4 : r5 = (60 : Int32)
    · replace hf := ite_t c4 hf
      exact fqb12_readsCompared_52  hrc hf
    · replace hf := ite_f c4 hf
      obtain ⟨r9, M10, g5, hf⟩ := bnd_s hf
      refine Fq.trans (Fq.mono (fq12_here  g5) (by decide)) ?_
      by_cases c6 : r9 = (62 : Int32)
      · replace hf := ite_t c6 hf
        exact fqb12_readsCompared_52  hrc hf
      · replace hf := ite_f c6 hf
        obtain ⟨r13, M14, g7, hf⟩ := bnd_s hf
        refine Fq.trans (Fq.mono (fq12_here  g7) (by decide)) ?_
        by_cases c8 : r13 = (61 : Int32)
        · replace hf := ite_t c8 hf
          exact fqb12_readsCompared_52  hrc hf
        · replace hf := ite_f c8 hf
          exact fqb12_readsCompared_52  hrc hf
theorem fq12_readsCompared   {n : Nat}  {M M' : Mem} {r : Int32} (hf : f12_readsCompared n   M = some (r, M')) : Fq CSY [(0, 12), (0, 14), (0, 15), (0, 16), (0, 17), (0, 18)] M M' := fqb12_readsCompared_0  (fun _ _ _ _ h => by cases h) hf
theorem fqb12_readsCondition_75   {rc : Nat → List Int32 → List Int64 → Mem → Option (Int32 × Mem)} {n : Nat} {r : Int32} {M' : Mem} (hrc : ∀ pc li lj M, rc pc li lj M = some (r, M') → Fq CSY [(0, 12), (0, 14), (0, 15), (0, 16), (0, 17), (0, 18)] M M') {s1 : Int32} {M : Mem} (hf : b12_readsCondition_75  rc n s1 M = some (r, M')) : Fq CSY [(0, 12), (0, 14), (0, 15), (0, 16), (0, 17), (0, 18)] M M' := by
  unfold b12_readsCondition_75 at hf
  obtain ⟨r71, M72, g1, hf⟩ := bnd_s hf
  refine Fq.trans (Fq.mono (fq12_opens  g1) (by decide)) ?_
  by_cases c2 : r71 = 0
  · replace hf := ite_t c2 hf
    exact Fq.of hf
  · replace hf := ite_f c2 hf
    exact hrc _ _ _ _ hf
theorem fqb12_readsCondition_58   {rc : Nat → List Int32 → List Int64 → Mem → Option (Int32 × Mem)} {n : Nat} {r : Int32} {M' : Mem} (hrc : ∀ pc li lj M, rc pc li lj M = some (r, M') → Fq CSY [(0, 12), (0, 14), (0, 15), (0, 16), (0, 17), (0, 18)] M M')  {M : Mem} (hf : b12_readsCondition_58  rc n  M = some (r, M')) : Fq CSY [(0, 12), (0, 14), (0, 15), (0, 16), (0, 17), (0, 18)] M M' := by
  unfold b12_readsCondition_58 at hf
  obtain ⟨r67, M68, g1, hf⟩ := bnd_s hf
  refine Fq.trans (Fq.mono (fq12_here  g1) (by decide)) ?_
  by_cases c2 : r67 = (33 : Int32)
  · replace hf := ite_t c2 hf
    exact fqb12_readsCondition_75  hrc hf
  · replace hf := ite_f c2 hf
    exact fqb12_readsCondition_75  hrc hf
theorem fqb12_readsCondition_215   {rc : Nat → List Int32 → List Int64 → Mem → Option (Int32 × Mem)} {n : Nat} {r : Int32} {M' : Mem} (hrc : ∀ pc li lj M, rc pc li lj M = some (r, M') → Fq CSY [(0, 12), (0, 14), (0, 15), (0, 16), (0, 17), (0, 18)] M M') {s1 : Int32} {M : Mem} (hf : b12_readsCondition_215  rc n s1 M = some (r, M')) : Fq CSY [(0, 12), (0, 14), (0, 15), (0, 16), (0, 17), (0, 18)] M M' := by
  unfold b12_readsCondition_215 at hf
  obtain ⟨r64, M65, g1, hf⟩ := bnd_s hf
  refine Fq.trans (Fq.mono (fq12_jumps  g1) (by decide)) ?_
  exact hrc _ _ _ _ hf
theorem fqb12_readsCondition_195   {rc : Nat → List Int32 → List Int64 → Mem → Option (Int32 × Mem)} {n : Nat} {r : Int32} {M' : Mem} (hrc : ∀ pc li lj M, rc pc li lj M = some (r, M') → Fq CSY [(0, 12), (0, 14), (0, 15), (0, 16), (0, 17), (0, 18)] M M') {s1 : Int32} {M : Mem} (hf : b12_readsCondition_195  rc n s1 M = some (r, M')) : Fq CSY [(0, 12), (0, 14), (0, 15), (0, 16), (0, 17), (0, 18)] M M' := by
  unfold b12_readsCondition_195 at hf
  obtain ⟨r57, M58, g1, hf⟩ := bnd_s hf
  refine Fq.trans (Fq.mono (fq12_lands  g1) (by decide)) ?_
  obtain ⟨r60, M61, g2, hf⟩ := bnd_s hf
  refine Fq.trans (Fq.mono (fq12_here  g2) (by decide)) ?_
  by_cases c3 : r60 = (38 : Int32)
  · replace hf := ite_t c3 hf
    exact fqb12_readsCondition_215  hrc hf
  · replace hf := ite_f c3 hf
    exact fqb12_readsCondition_215  hrc hf
theorem fqb12_readsCondition_180   {rc : Nat → List Int32 → List Int64 → Mem → Option (Int32 × Mem)} {n : Nat} {r : Int32} {M' : Mem} (hrc : ∀ pc li lj M, rc pc li lj M = some (r, M') → Fq CSY [(0, 12), (0, 14), (0, 15), (0, 16), (0, 17), (0, 18)] M M')  {M : Mem} (hf : b12_readsCondition_180  rc n  M = some (r, M')) : Fq CSY [(0, 12), (0, 14), (0, 15), (0, 16), (0, 17), (0, 18)] M M' := by
  unfold b12_readsCondition_180 at hf
  obtain ⟨r53, M54, g1, hf⟩ := bnd_s hf
  refine Fq.trans (Fq.mono (fq12_here  g1) (by decide)) ?_
  by_cases c2 : r53 = (124 : Int32)
  · replace hf := ite_t c2 hf
    exact fqb12_readsCondition_195  hrc hf
  · replace hf := ite_f c2 hf
    exact fqb12_readsCondition_195  hrc hf
theorem fqb12_readsCondition_92   {rc : Nat → List Int32 → List Int64 → Mem → Option (Int32 × Mem)} {n : Nat} {r : Int32} {M' : Mem} (hrc : ∀ pc li lj M, rc pc li lj M = some (r, M') → Fq CSY [(0, 12), (0, 14), (0, 15), (0, 16), (0, 17), (0, 18)] M M')  {M : Mem} (hf : b12_readsCondition_92  rc n  M = some (r, M')) : Fq CSY [(0, 12), (0, 14), (0, 15), (0, 16), (0, 17), (0, 18)] M M' := by
  unfold b12_readsCondition_92 at hf
  obtain ⟨r27, M28, g1, hf⟩ := bnd_s hf
  refine Fq.trans (Fq.mono (fq12_here  g1) (by decide)) ?_
  by_cases c2 : r27 = (41 : Int32)
  · replace hf := ite_t c2 hf
    obtain ⟨r43, M44, g3, hf⟩ := bnd_s hf
    refine Fq.trans (Fq.mono (fq12_lands  g3) (by decide)) ?_
    obtain ⟨M46, eM46, hf⟩ := lt_x hf
    refine Fq_wI eM46 (by decide) ?_
    obtain ⟨M47, eM47, hf⟩ := lt_x hf
    refine Fq_wI eM47 (by decide) ?_
    obtain ⟨M48, eM48, hf⟩ := lt_x hf
    refine Fq_wI eM48 (by decide) ?_
    by_cases c4 : (M48.1 0 18) = 0
    · replace hf := ite_t c4 hf
      exact Fq.of hf
    · replace hf := ite_f c4 hf
      obtain ⟨r50, M51, g5, hf⟩ := bnd_s hf
      refine Fq.trans (Fq.mono (fq12_endsPiece  g5) (by decide)) ?_
      exact hrc _ _ _ _ hf
  · replace hf := ite_f c2 hf
    obtain ⟨r31, M32, g6, hf⟩ := bnd_s hf
    refine Fq.trans (Fq.mono (fq12_here  g6) (by decide)) ?_
    by_cases c7 : r31 = (38 : Int32)
    · replace hf := ite_t c7 hf
      exact fqb12_readsCondition_180  hrc hf
    · replace hf := ite_f c7 hf
      obtain ⟨r35, M36, g8, hf⟩ := bnd_s hf
      refine Fq.trans (Fq.mono (fq12_here  g8) (by decide)) ?_
      by_cases c9 : r35 = (124 : Int32)
      · replace hf := ite_t c9 hf
        exact fqb12_readsCondition_180  hrc hf
      · replace hf := ite_f c9 hf
        obtain ⟨r39, M40, g10, hf⟩ := bnd_s hf
        refine Fq.trans (Fq.mono (fq12_wrongAt  g10) (by decide)) ?_
        replace hf := chk_2 hf
        exact Fq.of hf
theorem fqb12_readsCondition_40   {rc : Nat → List Int32 → List Int64 → Mem → Option (Int32 × Mem)} {n : Nat} {r : Int32} {M' : Mem} (hrc : ∀ pc li lj M, rc pc li lj M = some (r, M') → Fq CSY [(0, 12), (0, 14), (0, 15), (0, 16), (0, 17), (0, 18)] M M')  {M : Mem} (hf : b12_readsCondition_40  rc n  M = some (r, M')) : Fq CSY [(0, 12), (0, 14), (0, 15), (0, 16), (0, 17), (0, 18)] M M' := by
  unfold b12_readsCondition_40 at hf
  obtain ⟨r15, M16, g1, hf⟩ := bnd_s hf
  refine Fq.trans (Fq.mono (fq12_here  g1) (by decide)) ?_
  by_cases c2 : r15 = (33 : Int32)
  · replace hf := ite_t c2 hf
    exact fqb12_readsCondition_58  hrc hf
  · replace hf := ite_f c2 hf
    obtain ⟨r19, M20, g3, hf⟩ := bnd_s hf
    refine Fq.trans (Fq.mono (fq12_here  g3) (by decide)) ?_
    by_cases c4 : r19 = (40 : Int32)
    · replace hf := ite_t c4 hf
      exact fqb12_readsCondition_58  hrc hf
    · replace hf := ite_f c4 hf
      obtain ⟨r23, M24, g5, hf⟩ := bnd_s hf
      refine Fq.trans (Fq.mono (fq12_readsCompared  g5) (by decide)) ?_
      by_cases c6 : r23 = 0
      · replace hf := ite_t c6 hf
        exact Fq.of hf
      · replace hf := ite_f c6 hf
        exact fqb12_readsCondition_92  hrc hf
theorem fqb12_readsCondition_0   {rc : Nat → List Int32 → List Int64 → Mem → Option (Int32 × Mem)} {n : Nat} {r : Int32} {M' : Mem} (hrc : ∀ pc li lj M, rc pc li lj M = some (r, M') → Fq CSY [(0, 12), (0, 14), (0, 15), (0, 16), (0, 17), (0, 18)] M M')  {M : Mem} (hf : b12_readsCondition_0  rc n  M = some (r, M')) : Fq CSY [(0, 12), (0, 14), (0, 15), (0, 16), (0, 17), (0, 18)] M M' := by
  unfold b12_readsCondition_0 at hf
  obtain ⟨r1, M2, g1, hf⟩ := bnd_s hf
  refine Fq.trans (Fq.mono (fq12_here  g1) (by decide)) ?_
  by_cases c2 : r1 = (40 : Int32)
  · replace hf := ite_t c2 hf
    obtain ⟨M5, eM5, hf⟩ := lt_x hf
    refine Fq_wI eM5 (by decide) ?_
    obtain ⟨M6, eM6, hf⟩ := lt_x hf
    refine Fq_wI eM6 (by decide) ?_
    obtain ⟨r7, M8, g3, hf⟩ := bnd_s hf
    refine Fq.trans (Fq.mono (fq12_opens  g3) (by decide)) ?_
    by_cases c4 : r7 = 0
    · replace hf := ite_t c4 hf
      exact Fq.of hf
    · replace hf := ite_f c4 hf
      exact fqb12_readsCondition_40  hrc hf
  · replace hf := ite_f c2 hf
    obtain ⟨r11, M12, g5, hf⟩ := bnd_s hf
    refine Fq.trans (Fq.mono (fq12_wrongAt  g5) (by decide)) ?_
    replace hf := chk_2 hf
    exact Fq.of hf
theorem fql12_readsCondition   {r : Int32} {M' : Mem} (n : Nat) : ∀ pc li lj M, r12_readsCondition  n pc li lj M = some (r, M') → Fq CSY [(0, 12), (0, 14), (0, 15), (0, 16), (0, 17), (0, 18)] M M' := by
  induction n with
  | zero => intro pc li lj M hf; cases hf
  | succ n ih =>
    intro pc li lj M hf
    rw [r12_readsCondition] at hf
    dsimp only at hf
    by_cases c40 : pc = 40
    · replace hf := ite_t c40 hf
      split at hf
      · exact fqb12_readsCondition_40  ih hf
      · cases hf
    replace hf := ite_f c40 hf
    by_cases c92 : pc = 92
    · replace hf := ite_t c92 hf
      split at hf
      · exact fqb12_readsCondition_92  ih hf
      · cases hf
    replace hf := ite_f c92 hf
    cases hf
theorem fq12_readsCondition   {n : Nat}  {M M' : Mem} {r : Int32} (hf : f12_readsCondition n   M = some (r, M')) : Fq CSY [(0, 12), (0, 14), (0, 15), (0, 16), (0, 17), (0, 18)] M M' := fqb12_readsCondition_0  (fql12_readsCondition  n) hf
theorem fqb12_readsRule_110   {rc : Nat → List Int32 → List Int64 → Mem → Option (Int32 × Mem)} {n : Nat} {r : Int32} {M' : Mem} (hrc : ∀ pc li lj M, rc pc li lj M = some (r, M') → Fq CSY [(0, 12), (0, 14), (0, 15), (0, 16), (0, 17), (0, 18), (0, 19)] M M')  {M : Mem} (hf : b12_readsRule_110  rc n  M = some (r, M')) : Fq CSY [(0, 12), (0, 14), (0, 15), (0, 16), (0, 17), (0, 18), (0, 19)] M M' := by
  unfold b12_readsRule_110 at hf
  replace hf := chk_2 hf
  obtain ⟨M29, eM29, hf⟩ := lt_x hf
  refine Fq_wIn eM29 (by decide) ?_
  obtain ⟨r30, M31, g1, hf⟩ := bnd_s hf
  refine Fq.trans (Fq.mono (fq12_readsCondition  g1) (by decide)) ?_
  by_cases c2 : r30 = 0
  · replace hf := ite_t c2 hf
    exact Fq.of hf
  · replace hf := ite_f c2 hf
    replace hf := chk_2 hf
    obtain ⟨M35, eM35, hf⟩ := lt_x hf
    refine Fq_wIn eM35 (by decide) ?_
    obtain ⟨M36, eM36, hf⟩ := lt_x hf
    refine Fq_wI eM36 (by decide) ?_
    exact Fq.of hf
theorem fqb12_readsRule_33   {rc : Nat → List Int32 → List Int64 → Mem → Option (Int32 × Mem)} {n : Nat} {r : Int32} {M' : Mem} (hrc : ∀ pc li lj M, rc pc li lj M = some (r, M') → Fq CSY [(0, 12), (0, 14), (0, 15), (0, 16), (0, 17), (0, 18), (0, 19)] M M') {i1 : Int32} {M : Mem} (hf : b12_readsRule_33  rc n i1 M = some (r, M')) : Fq CSY [(0, 12), (0, 14), (0, 15), (0, 16), (0, 17), (0, 18), (0, 19)] M M' := by
  unfold b12_readsRule_33 at hf
  by_cases c1 : (M.1 0 19) = (16 : Int32)
  · replace hf := ite_t c1 hf
    obtain ⟨r24, M25, g2, hf⟩ := bnd_s hf
    refine Fq.trans (Fq.mono (fq12_wrongAt  g2) (by decide)) ?_
    replace hf := chk_2 hf
    exact Fq.of hf
  · replace hf := ite_f c1 hf
    replace hf := chk_2 hf
    obtain ⟨M13, eM13, hf⟩ := lt_x hf
    refine Fq_wIn eM13 (by decide) ?_
    obtain ⟨M14, eM14, hf⟩ := lt_x hf
    refine Fq_wI eM14 (by decide) ?_
    replace hf := chk_2 hf
    obtain ⟨M16, eM16, hf⟩ := lt_x hf
    refine Fq_wIn eM16 (by decide) ?_
    obtain ⟨M17, eM17, hf⟩ := lt_x hf
    refine Fq_wI eM17 (by decide) ?_
    obtain ⟨M18, eM18, hf⟩ := lt_x hf
    refine Fq_wI eM18 (by decide) ?_
    by_cases c3 : i1 = (115 : Int32)
    · replace hf := ite_t c3 hf
      exact fqb12_readsRule_110  hrc hf
    · replace hf := ite_f c3 hf
      obtain ⟨r20, M21, g4, hf⟩ := bnd_s hf
      refine Fq.trans (Fq.mono (fq12_readsSum  g4) (by decide)) ?_
      by_cases c5 : r20 = 0
      · replace hf := ite_t c5 hf
        exact Fq.of hf
      · replace hf := ite_f c5 hf
        exact fqb12_readsRule_110  hrc hf
theorem fqb12_readsRule_0   {rc : Nat → List Int32 → List Int64 → Mem → Option (Int32 × Mem)} {n : Nat} {r : Int32} {M' : Mem} (hrc : ∀ pc li lj M, rc pc li lj M = some (r, M') → Fq CSY [(0, 12), (0, 14), (0, 15), (0, 16), (0, 17), (0, 18), (0, 19)] M M')  {M : Mem} (hf : b12_readsRule_0  rc n  M = some (r, M')) : Fq CSY [(0, 12), (0, 14), (0, 15), (0, 16), (0, 17), (0, 18), (0, 19)] M M' := by
  unfold b12_readsRule_0 at hf
  obtain ⟨r1, M2, g1, hf⟩ := bnd_s hf
  refine Fq.trans (Fq.mono (fq12_here  g1) (by decide)) ?_
  by_cases c2 : r1 = (99 : Int32)
  · replace hf := ite_t c2 hf
    exact fqb12_readsRule_33  hrc hf
  · replace hf := ite_f c2 hf
    by_cases c3 : r1 = (101 : Int32)
    · replace hf := ite_t c3 hf
      exact fqb12_readsRule_33  hrc hf
    · replace hf := ite_f c3 hf
      by_cases c4 : r1 = (115 : Int32)
      · replace hf := ite_t c4 hf
        exact fqb12_readsRule_33  hrc hf
      · replace hf := ite_f c4 hf
        obtain ⟨r7, M8, g5, hf⟩ := bnd_s hf
        refine Fq.trans (Fq.mono (fq12_wrongAt  g5) (by decide)) ?_
        replace hf := chk_2 hf
        exact Fq.of hf
theorem fq12_readsRule   {n : Nat}  {M M' : Mem} {r : Int32} (hf : f12_readsRule n   M = some (r, M')) : Fq CSY [(0, 12), (0, 14), (0, 15), (0, 16), (0, 17), (0, 18), (0, 19)] M M' := fqb12_readsRule_0  (fun _ _ _ _ h => by cases h) hf
theorem fqb12_beginsText_0   {rc : Nat → List Int32 → List Int64 → Mem → Option (Unit × Mem)} {n : Nat} {r : Unit} {M' : Mem} (hrc : ∀ pc li lj M, rc pc li lj M = some (r, M') → Fq CSY [(0, 12), (0, 13), (0, 17), (0, 19)] M M') {a1 : Int32} {M : Mem} (hf : b12_beginsText_0  rc n a1 M = some (r, M')) : Fq CSY [(0, 12), (0, 13), (0, 17), (0, 19)] M M' := by
  unfold b12_beginsText_0 at hf
  obtain ⟨M1, eM1, hf⟩ := lt_x hf
  refine Fq_wI eM1 (by decide) ?_
  obtain ⟨M2, eM2, hf⟩ := lt_x hf
  refine Fq_wI eM2 (by decide) ?_
  obtain ⟨M3, eM3, hf⟩ := lt_x hf
  refine Fq_wI eM3 (by decide) ?_
  obtain ⟨M4, eM4, hf⟩ := lt_x hf
  refine Fq_wI eM4 (by decide) ?_
  exact Fq.of hf
theorem fq12_beginsText   {n : Nat} {a1 : Int32} {M M' : Mem} {r : Unit} (hf : f12_beginsText n  a1 M = some (r, M')) : Fq CSY [(0, 12), (0, 13), (0, 17), (0, 19)] M M' := fqb12_beginsText_0  (fun _ _ _ _ h => by cases h) hf
theorem fqb12_law_19   {rc : Nat → List Int32 → List Int64 → Mem → Option (Int32 × Mem)} {n : Nat} {r : Int32} {M' : Mem} (hrc : ∀ pc li lj M, rc pc li lj M = some (r, M') → Fq CSY [(0, 11), (0, 12), (0, 13), (0, 14), (0, 15), (0, 16), (0, 17), (0, 18), (0, 19), (0, 20)] M M')  {M : Mem} (hf : b12_law_19  rc n  M = some (r, M')) : Fq CSY [(0, 11), (0, 12), (0, 13), (0, 14), (0, 15), (0, 16), (0, 17), (0, 18), (0, 19), (0, 20)] M M' := by
  unfold b12_law_19 at hf
  exact Fq.of hf
theorem fqb12_law_123   {rc : Nat → List Int32 → List Int64 → Mem → Option (Int32 × Mem)} {n : Nat} {r : Int32} {M' : Mem} (hrc : ∀ pc li lj M, rc pc li lj M = some (r, M') → Fq CSY [(0, 11), (0, 12), (0, 13), (0, 14), (0, 15), (0, 16), (0, 17), (0, 18), (0, 19), (0, 20)] M M') {i3 : Int32} {M : Mem} (hf : b12_law_123  rc n i3 M = some (r, M')) : Fq CSY [(0, 11), (0, 12), (0, 13), (0, 14), (0, 15), (0, 16), (0, 17), (0, 18), (0, 19), (0, 20)] M M' := by
  unfold b12_law_123 at hf
  by_cases c1 : (M.1 0 19) ≤ i3
  · replace hf := ite_t c1 hf
    exact Fq.of hf
  · replace hf := ite_f c1 hf
    replace hf := chk_2 hf
    replace hf := chk_2 hf
    obtain ⟨M33, eM33, hf⟩ := lt_x hf
    refine Fq_wIn eM33 (by decide) ?_
    replace hf := chk_2 hf
    replace hf := chk_2 hf
    obtain ⟨M36, eM36, hf⟩ := lt_x hf
    refine Fq_wIn eM36 (by decide) ?_
    replace hf := chk_2 hf
    replace hf := chk_2 hf
    obtain ⟨M39, eM39, hf⟩ := lt_x hf
    refine Fq_wIn eM39 (by decide) ?_
    replace hf := chk_2 hf
    replace hf := chk_2 hf
    obtain ⟨M42, eM42, hf⟩ := lt_x hf
    refine Fq_wIn eM42 (by decide) ?_
    obtain ⟨v43, ev43, hf⟩ := lt_x hf
    exact hrc _ _ _ _ hf
theorem fqb12_law_95   {rc : Nat → List Int32 → List Int64 → Mem → Option (Int32 × Mem)} {n : Nat} {r : Int32} {M' : Mem} (hrc : ∀ pc li lj M, rc pc li lj M = some (r, M') → Fq CSY [(0, 11), (0, 12), (0, 13), (0, 14), (0, 15), (0, 16), (0, 17), (0, 18), (0, 19), (0, 20)] M M') {i3 : Int32} {M : Mem} (hf : b12_law_95  rc n i3 M = some (r, M')) : Fq CSY [(0, 11), (0, 12), (0, 13), (0, 14), (0, 15), (0, 16), (0, 17), (0, 18), (0, 19), (0, 20)] M M' := by
  unfold b12_law_95 at hf
  by_cases c1 : (M.1 0 17) ≤ i3
  · replace hf := ite_t c1 hf
    exact fqb12_law_123  hrc hf
  · replace hf := ite_f c1 hf
    replace hf := chk_2 hf
    replace hf := chk_2 hf
    obtain ⟨M28, eM28, hf⟩ := lt_x hf
    refine Fq_wIn eM28 (by decide) ?_
    obtain ⟨v29, ev29, hf⟩ := lt_x hf
    exact hrc _ _ _ _ hf
theorem fqb12_law_71   {rc : Nat → List Int32 → List Int64 → Mem → Option (Int32 × Mem)} {n : Nat} {r : Int32} {M' : Mem} (hrc : ∀ pc li lj M, rc pc li lj M = some (r, M') → Fq CSY [(0, 11), (0, 12), (0, 13), (0, 14), (0, 15), (0, 16), (0, 17), (0, 18), (0, 19), (0, 20)] M M') {i2 : Int32} {M : Mem} (hf : b12_law_71  rc n i2 M = some (r, M')) : Fq CSY [(0, 11), (0, 12), (0, 13), (0, 14), (0, 15), (0, 16), (0, 17), (0, 18), (0, 19), (0, 20)] M M' := by
  unfold b12_law_71 at hf
  obtain ⟨M22, eM22, hf⟩ := lt_x hf
  refine Fq_wI eM22 (by decide) ?_
  by_cases c1 : i2 = 0
  · replace hf := ite_t c1 hf
    exact Fq.of hf
  · replace hf := ite_f c1 hf
    obtain ⟨M24, eM24, hf⟩ := lt_x hf
    refine Fq_wI eM24 (by decide) ?_
    exact fqb12_law_95  hrc hf
theorem fqb12_law_67   {rc : Nat → List Int32 → List Int64 → Mem → Option (Int32 × Mem)} {n : Nat} {r : Int32} {M' : Mem} (hrc : ∀ pc li lj M, rc pc li lj M = some (r, M') → Fq CSY [(0, 11), (0, 12), (0, 13), (0, 14), (0, 15), (0, 16), (0, 17), (0, 18), (0, 19), (0, 20)] M M') {s0 : Int32} {M : Mem} (hf : b12_law_67  rc n s0 M = some (r, M')) : Fq CSY [(0, 11), (0, 12), (0, 13), (0, 14), (0, 15), (0, 16), (0, 17), (0, 18), (0, 19), (0, 20)] M M' := by
  unfold b12_law_67 at hf
  exact hrc _ _ _ _ hf
theorem fqb12_law_66   {rc : Nat → List Int32 → List Int64 → Mem → Option (Int32 × Mem)} {n : Nat} {r : Int32} {M' : Mem} (hrc : ∀ pc li lj M, rc pc li lj M = some (r, M') → Fq CSY [(0, 11), (0, 12), (0, 13), (0, 14), (0, 15), (0, 16), (0, 17), (0, 18), (0, 19), (0, 20)] M M')  {M : Mem} (hf : b12_law_66  rc n  M = some (r, M')) : Fq CSY [(0, 11), (0, 12), (0, 13), (0, 14), (0, 15), (0, 16), (0, 17), (0, 18), (0, 19), (0, 20)] M M' := by
  unfold b12_law_66 at hf
  exact fqb12_law_67  hrc hf
theorem fqb12_law_31   {rc : Nat → List Int32 → List Int64 → Mem → Option (Int32 × Mem)} {n : Nat} {r : Int32} {M' : Mem} (hrc : ∀ pc li lj M, rc pc li lj M = some (r, M') → Fq CSY [(0, 11), (0, 12), (0, 13), (0, 14), (0, 15), (0, 16), (0, 17), (0, 18), (0, 19), (0, 20)] M M') {i2 : Int32} {M : Mem} (hf : b12_law_31  rc n i2 M = some (r, M')) : Fq CSY [(0, 11), (0, 12), (0, 13), (0, 14), (0, 15), (0, 16), (0, 17), (0, 18), (0, 19), (0, 20)] M M' := by
  unfold b12_law_31 at hf
  by_cases c1 : i2 = 0
  · replace hf := ite_t c1 hf
    exact fqb12_law_71  hrc hf
  · replace hf := ite_f c1 hf
    by_cases c2 : (M.1 0 13) ≤ (M.1 0 12)
    · replace hf := ite_t c2 hf
      exact fqb12_law_71  hrc hf
    · replace hf := ite_f c2 hf
      obtain ⟨r14, M15, g3, hf⟩ := bnd_s hf
      refine Fq.trans (Fq.mono (fq12_takes  g3) (by decide)) ?_
      by_cases c4 : r14 = 0
      · replace hf := ite_t c4 hf
        exact fqb12_law_66  hrc hf
      · replace hf := ite_f c4 hf
        obtain ⟨r18, M19, g5, hf⟩ := bnd_s hf
        refine Fq.trans (Fq.mono (fq12_readsRule  g5) (by decide)) ?_
        by_cases c6 : r18 = 0
        · replace hf := ite_t c6 hf
          exact fqb12_law_66  hrc hf
        · replace hf := ite_f c6 hf
          exact fqb12_law_67  hrc hf
theorem fqb12_law_0   {rc : Nat → List Int32 → List Int64 → Mem → Option (Int32 × Mem)} {n : Nat} {r : Int32} {M' : Mem} (hrc : ∀ pc li lj M, rc pc li lj M = some (r, M') → Fq CSY [(0, 11), (0, 12), (0, 13), (0, 14), (0, 15), (0, 16), (0, 17), (0, 18), (0, 19), (0, 20)] M M') {a1 : Int32} {M : Mem} (hf : b12_law_0  rc n a1 M = some (r, M')) : Fq CSY [(0, 11), (0, 12), (0, 13), (0, 14), (0, 15), (0, 16), (0, 17), (0, 18), (0, 19), (0, 20)] M M' := by
  unfold b12_law_0 at hf
  obtain ⟨r1, M2, g1, hf⟩ := bnd_s hf
  refine Fq.trans (Fq.mono (fq12_in  g1) (by decide)) ?_
  by_cases c2 : r1 = 0
  · replace hf := ite_t c2 hf
    exact fqb12_law_19  hrc hf
  · replace hf := ite_f c2 hf
    by_cases c3 : a1 ≤ (M2.1 0 11)
    · replace hf := ite_t c3 hf
      obtain ⟨r6, M7, g4, hf⟩ := bnd_s hf
      refine Fq.trans (Fq.mono (fq12_beginsText  g4) (by decide)) ?_
      obtain ⟨r9, M10, g5, hf⟩ := bnd_s hf
      refine Fq.trans (Fq.mono (fq12_readsRule  g5) (by decide)) ?_
      exact fqb12_law_31  hrc hf
    · replace hf := ite_f c3 hf
      exact fqb12_law_19  hrc hf
theorem fql12_law   {r : Int32} {M' : Mem} (n : Nat) : ∀ pc li lj M, r12_law  n pc li lj M = some (r, M') → Fq CSY [(0, 11), (0, 12), (0, 13), (0, 14), (0, 15), (0, 16), (0, 17), (0, 18), (0, 19), (0, 20)] M M' := by
  induction n with
  | zero => intro pc li lj M hf; cases hf
  | succ n ih =>
    intro pc li lj M hf
    rw [r12_law] at hf
    dsimp only at hf
    by_cases c31 : pc = 31
    · replace hf := ite_t c31 hf
      split at hf
      · exact fqb12_law_31  ih hf
      · cases hf
    replace hf := ite_f c31 hf
    by_cases c95 : pc = 95
    · replace hf := ite_t c95 hf
      split at hf
      · exact fqb12_law_95  ih hf
      · cases hf
    replace hf := ite_f c95 hf
    by_cases c123 : pc = 123
    · replace hf := ite_t c123 hf
      split at hf
      · exact fqb12_law_123  ih hf
      · cases hf
    replace hf := ite_f c123 hf
    cases hf
theorem fq12_law   {n : Nat} {a1 : Int32} {M M' : Mem} {r : Int32} (hf : f12_law n  a1 M = some (r, M')) : Fq CSY [(0, 11), (0, 12), (0, 13), (0, 14), (0, 15), (0, 16), (0, 17), (0, 18), (0, 19), (0, 20)] M M' := fqb12_law_0  (fql12_law  n) hf
theorem fqb12_reckon_0   {rc : Nat → List Int32 → List Int64 → Mem → Option (Int32 × Mem)} {n : Nat} {r : Int32} {M' : Mem} (hrc : ∀ pc li lj M, rc pc li lj M = some (r, M') → Fq CSY [] M M') {a0 : Int32} {a1 : Int32} {a2 : Int32} {M : Mem} (hf : b12_reckon_0  rc n a0 a1 a2 M = some (r, M')) : Fq CSY [] M M' := by
  unfold b12_reckon_0 at hf
  by_cases c1 : a0 = (2 : Int32)
  · replace hf := ite_t c1 hf
    exact Fq.of hf
  · replace hf := ite_f c1 hf
    by_cases c2 : a0 = (3 : Int32)
    · replace hf := ite_t c2 hf
      exact Fq.of hf
    · replace hf := ite_f c2 hf
      by_cases c3 : a0 = (4 : Int32)
      · replace hf := ite_t c3 hf
        exact Fq.of hf
      · replace hf := ite_f c3 hf
        by_cases c4 : a0 = (5 : Int32)
        · replace hf := ite_t c4 hf
          replace hf := chk_2 hf
          exact Fq.of hf
        · replace hf := ite_f c4 hf
          by_cases c5 : a0 = (6 : Int32)
          · replace hf := ite_t c5 hf
            replace hf := chk_2 hf
            exact Fq.of hf
          · replace hf := ite_f c5 hf
            by_cases c6 : a0 = (7 : Int32)
            · replace hf := ite_t c6 hf
              by_cases c7 : a2 ≤ a1
              · replace hf := ite_t c7 hf
                exact Fq.of hf
              · replace hf := ite_f c7 hf
                exact Fq.of hf
            · replace hf := ite_f c6 hf
              by_cases c8 : a0 = (8 : Int32)
              · replace hf := ite_t c8 hf
                by_cases c9 : a1 ≤ a2
                · replace hf := ite_t c9 hf
                  exact Fq.of hf
                · replace hf := ite_f c9 hf
                  exact Fq.of hf
              · replace hf := ite_f c8 hf
                by_cases c10 : a1 = a2
                · replace hf := ite_t c10 hf
                  exact Fq.of hf
                · replace hf := ite_f c10 hf
                  exact Fq.of hf
theorem fq12_reckon   {n : Nat} {a0 : Int32} {a1 : Int32} {a2 : Int32} {M M' : Mem} {r : Int32} (hf : f12_reckon n  a0 a1 a2 M = some (r, M')) : Fq CSY [] M M' := fqb12_reckon_0  (fun _ _ _ _ h => by cases h) hf
theorem fqb12_comesTo_230   {rc : Nat → List Int32 → List Int64 → Mem → Option (Int32 × Mem)} {n : Nat} {r : Int32} {M' : Mem} (hrc : ∀ pc li lj M, rc pc li lj M = some (r, M') → Fq CSY [] M M') {i2 : Int32} {i3 : Int32} {i4 : Int32} {i5 : Int32} {M : Mem} (hf : b12_comesTo_230  rc n i2 i3 i4 i5 M = some (r, M')) : Fq CSY [] M M' := by
  unfold b12_comesTo_230 at hf
  exact hrc _ _ _ _ hf
theorem fqb12_comesTo_85   {rc : Nat → List Int32 → List Int64 → Mem → Option (Int32 × Mem)} {n : Nat} {r : Int32} {M' : Mem} (hrc : ∀ pc li lj M, rc pc li lj M = some (r, M') → Fq CSY [] M M') {i2 : Int32} {i3 : Int32} {i4 : Int32} {i5 : Int32} {s1 : Int32} {s2 : Int32} {M : Mem} (hf : b12_comesTo_85  rc n i2 i3 i4 i5 s1 s2 M = some (r, M')) : Fq CSY [] M M' := by
  unfold b12_comesTo_85 at hf
  replace hf := chk_2 hf
  obtain ⟨M37, eM37, hf⟩ := lt_x hf
  refine Fq_wIn eM37 (by decide) ?_
  obtain ⟨v38, ev38, hf⟩ := lt_x hf
  exact fqb12_comesTo_230  hrc hf
theorem fqb12_comesTo_63   {rc : Nat → List Int32 → List Int64 → Mem → Option (Int32 × Mem)} {n : Nat} {r : Int32} {M' : Mem} (hrc : ∀ pc li lj M, rc pc li lj M = some (r, M') → Fq CSY [] M M') {i2 : Int32} {i3 : Int32} {i4 : Int32} {i5 : Int32} {i6 : Int32} {i7 : Int32} {M : Mem} (hf : b12_comesTo_63  rc n i2 i3 i4 i5 i6 i7 M = some (r, M')) : Fq CSY [] M M' := by
  unfold b12_comesTo_63 at hf
  by_cases c1 : i6 = 0
  · replace hf := ite_t c1 hf
    exact fqb12_comesTo_85  hrc hf
  · replace hf := ite_f c1 hf
    replace hf := chk_2 hf
    exact fqb12_comesTo_85  hrc hf
theorem fqb12_comesTo_155   {rc : Nat → List Int32 → List Int64 → Mem → Option (Int32 × Mem)} {n : Nat} {r : Int32} {M' : Mem} (hrc : ∀ pc li lj M, rc pc li lj M = some (r, M') → Fq CSY [] M M') {i2 : Int32} {i3 : Int32} {i4 : Int32} {i5 : Int32} {i7 : Int32} {s0 : Int32} {s1 : Int32} {M : Mem} (hf : b12_comesTo_155  rc n i2 i3 i4 i5 i7 s0 s1 M = some (r, M')) : Fq CSY [] M M' := by
  unfold b12_comesTo_155 at hf
  by_cases c1 : s0 = s1
  · replace hf := ite_t c1 hf
    obtain ⟨v33, ev33, hf⟩ := lt_x hf
    exact fqb12_comesTo_230  hrc hf
  · replace hf := ite_f c1 hf
    obtain ⟨v32, ev32, hf⟩ := lt_x hf
    exact fqb12_comesTo_230  hrc hf
theorem fqb12_comesTo_135   {rc : Nat → List Int32 → List Int64 → Mem → Option (Int32 × Mem)} {n : Nat} {r : Int32} {M' : Mem} (hrc : ∀ pc li lj M, rc pc li lj M = some (r, M') → Fq CSY [] M M') {i2 : Int32} {i3 : Int32} {i4 : Int32} {i5 : Int32} {i6 : Int32} {i7 : Int32} {M : Mem} (hf : b12_comesTo_135  rc n i2 i3 i4 i5 i6 i7 M = some (r, M')) : Fq CSY [] M M' := by
  unfold b12_comesTo_135 at hf
  replace hf := chk_2 hf
  by_cases c1 : i6 = (12 : Int32)
  · replace hf := ite_t c1 hf
    exact fqb12_comesTo_155  hrc hf
  · replace hf := ite_f c1 hf
    exact fqb12_comesTo_155  hrc hf
theorem fqb12_comesTo_203   {rc : Nat → List Int32 → List Int64 → Mem → Option (Int32 × Mem)} {n : Nat} {r : Int32} {M' : Mem} (hrc : ∀ pc li lj M, rc pc li lj M = some (r, M') → Fq CSY [] M M') {i2 : Int32} {i3 : Int32} {i4 : Int32} {i5 : Int32} {i6 : Int32} {M : Mem} (hf : b12_comesTo_203  rc n i2 i3 i4 i5 i6 M = some (r, M')) : Fq CSY [] M M' := by
  unfold b12_comesTo_203 at hf
  replace hf := chk_2 hf
  replace hf := chk_2 hf
  obtain ⟨r22, M23, g1, hf⟩ := bnd_s hf
  refine Fq.trans (Fq.mono (fq12_reckon  g1) (by decide)) ?_
  replace hf := chk_2 hf
  obtain ⟨M26, eM26, hf⟩ := lt_x hf
  refine Fq_wIn eM26 (by decide) ?_
  exact fqb12_comesTo_230  hrc hf
theorem fqb12_comesTo_192   {rc : Nat → List Int32 → List Int64 → Mem → Option (Int32 × Mem)} {n : Nat} {r : Int32} {M' : Mem} (hrc : ∀ pc li lj M, rc pc li lj M = some (r, M') → Fq CSY [] M M') {i2 : Int32} {i3 : Int32} {i4 : Int32} {i5 : Int32} {i6 : Int32} {M : Mem} (hf : b12_comesTo_192  rc n i2 i3 i4 i5 i6 M = some (r, M')) : Fq CSY [] M M' := by
  unfold b12_comesTo_192 at hf
  replace hf := chk_2 hf
  by_cases c1 : (M.1 20 i3.toNatClampNeg) = 0
  · replace hf := ite_t c1 hf
    exact Fq.of hf
  · replace hf := ite_f c1 hf
    exact fqb12_comesTo_203  hrc hf
theorem fqb12_comesTo_16   {rc : Nat → List Int32 → List Int64 → Mem → Option (Int32 × Mem)} {n : Nat} {r : Int32} {M' : Mem} (hrc : ∀ pc li lj M, rc pc li lj M = some (r, M') → Fq CSY [] M M') {i2 : Int32} {i3 : Int32} {i4 : Int32} {i5 : Int32} {M : Mem} (hf : b12_comesTo_16  rc n i2 i3 i4 i5 M = some (r, M')) : Fq CSY [] M M' := by
  unfold b12_comesTo_16 at hf
  by_cases c1 : i2 ≤ i5
  · replace hf := ite_t c1 hf
    replace hf := chk_2 hf
    exact Fq.of hf
  · replace hf := ite_f c1 hf
    replace hf := chk_2 hf
    obtain ⟨v5, ev5, hf⟩ := lt_x hf
    replace hf := chk_2 hf
    obtain ⟨v7, ev7, hf⟩ := lt_x hf
    obtain ⟨v8, ev8, hf⟩ := lt_x hf
    by_cases c2 : v5 = 0
    · replace hf := ite_t c2 hf
      exact fqb12_comesTo_63  hrc hf
    · replace hf := ite_f c2 hf
      by_cases c3 : v5 = (1 : Int32)
      · replace hf := ite_t c3 hf
        exact fqb12_comesTo_63  hrc hf
      · replace hf := ite_f c3 hf
        by_cases c4 : v5 = (10 : Int32)
        · replace hf := ite_t c4 hf
          replace hf := chk_2 hf
          replace hf := chk_2 hf
          obtain ⟨M19, eM19, hf⟩ := lt_x hf
          refine Fq_wIn eM19 (by decide) ?_
          exact fqb12_comesTo_230  hrc hf
        · replace hf := ite_f c4 hf
          by_cases c5 : v5 = (11 : Int32)
          · replace hf := ite_t c5 hf
            exact fqb12_comesTo_135  hrc hf
          · replace hf := ite_f c5 hf
            by_cases c6 : v5 = (12 : Int32)
            · replace hf := ite_t c6 hf
              exact fqb12_comesTo_135  hrc hf
            · replace hf := ite_f c6 hf
              obtain ⟨v14, ev14, hf⟩ := lt_x hf
              by_cases c7 : v5 = (5 : Int32)
              · replace hf := ite_t c7 hf
                exact fqb12_comesTo_192  hrc hf
              · replace hf := ite_f c7 hf
                by_cases c8 : v5 = (6 : Int32)
                · replace hf := ite_t c8 hf
                  exact fqb12_comesTo_192  hrc hf
                · replace hf := ite_f c8 hf
                  exact fqb12_comesTo_203  hrc hf
theorem fqb12_comesTo_0   {rc : Nat → List Int32 → List Int64 → Mem → Option (Int32 × Mem)} {n : Nat} {r : Int32} {M' : Mem} (hrc : ∀ pc li lj M, rc pc li lj M = some (r, M') → Fq CSY [] M M') {a1 : Int32} {a2 : Int32} {M : Mem} (hf : b12_comesTo_0  rc n a1 a2 M = some (r, M')) : Fq CSY [] M M' := by
  unfold b12_comesTo_0 at hf
  obtain ⟨v1, ev1, hf⟩ := lt_x hf
  exact fqb12_comesTo_16  hrc hf
theorem fql12_comesTo   {r : Int32} {M' : Mem} (n : Nat) : ∀ pc li lj M, r12_comesTo  n pc li lj M = some (r, M') → Fq CSY [] M M' := by
  induction n with
  | zero => intro pc li lj M hf; cases hf
  | succ n ih =>
    intro pc li lj M hf
    rw [r12_comesTo] at hf
    dsimp only at hf
    by_cases c16 : pc = 16
    · replace hf := ite_t c16 hf
      split at hf
      · exact fqb12_comesTo_16  ih hf
      · cases hf
    replace hf := ite_f c16 hf
    cases hf
theorem fq12_comesTo   {n : Nat} {a1 : Int32} {a2 : Int32} {M M' : Mem} {r : Int32} (hf : f12_comesTo n  a1 a2 M = some (r, M')) : Fq CSY [] M M' := fqb12_comesTo_0  (fql12_comesTo  n) hf
theorem fqb12_byLaw_83   {rc : Nat → List Int32 → List Int64 → Mem → Option (Int32 × Mem)} {n : Nat} {r : Int32} {M' : Mem} (hrc : ∀ pc li lj M, rc pc li lj M = some (r, M') → Fq CSY [] M M') {i1 : Int32} {i2 : Int32} {i3 : Int32} {M : Mem} (hf : b12_byLaw_83  rc n i1 i2 i3 M = some (r, M')) : Fq CSY [] M M' := by
  unfold b12_byLaw_83 at hf
  obtain ⟨v17, ev17, hf⟩ := lt_x hf
  exact hrc _ _ _ _ hf
theorem fqb12_byLaw_2   {rc : Nat → List Int32 → List Int64 → Mem → Option (Int32 × Mem)} {n : Nat} {r : Int32} {M' : Mem} (hrc : ∀ pc li lj M, rc pc li lj M = some (r, M') → Fq CSY [] M M') {i1 : Int32} {i2 : Int32} {i3 : Int32} {M : Mem} (hf : b12_byLaw_2  rc n i1 i2 i3 M = some (r, M')) : Fq CSY [] M M' := by
  unfold b12_byLaw_2 at hf
  by_cases c1 : (M.1 0 20) ≤ i3
  · replace hf := ite_t c1 hf
    exact Fq.of hf
  · replace hf := ite_f c1 hf
    replace hf := chk_2 hf
    by_cases c2 : (M.1 16 i3.toNatClampNeg) = i1
    · replace hf := ite_t c2 hf
      replace hf := chk_2 hf
      replace hf := chk_2 hf
      obtain ⟨r6, M7, g3, hf⟩ := bnd_s hf
      refine Fq.trans (Fq.mono (fq12_comesTo  g3) (by decide)) ?_
      by_cases c4 : r6 = (1 : Int32)
      · replace hf := ite_t c4 hf
        replace hf := chk_2 hf
        replace hf := chk_2 hf
        obtain ⟨r12, M13, g5, hf⟩ := bnd_s hf
        refine Fq.trans (Fq.mono (fq12_comesTo  g5) (by decide)) ?_
        by_cases c6 : 0 ≤ r12
        · replace hf := ite_t c6 hf
          by_cases c7 : r12 ≤ i2
          · replace hf := ite_t c7 hf
            exact Fq.of hf
          · replace hf := ite_f c7 hf
            exact Fq.of hf
        · replace hf := ite_f c6 hf
          exact Fq.of hf
      · replace hf := ite_f c4 hf
        exact fqb12_byLaw_83  hrc hf
    · replace hf := ite_f c2 hf
      exact fqb12_byLaw_83  hrc hf
theorem fqb12_byLaw_0   {rc : Nat → List Int32 → List Int64 → Mem → Option (Int32 × Mem)} {n : Nat} {r : Int32} {M' : Mem} (hrc : ∀ pc li lj M, rc pc li lj M = some (r, M') → Fq CSY [] M M') {a1 : Int32} {a2 : Int32} {M : Mem} (hf : b12_byLaw_0  rc n a1 a2 M = some (r, M')) : Fq CSY [] M M' := by
  unfold b12_byLaw_0 at hf
  exact fqb12_byLaw_2  hrc hf
theorem fql12_byLaw   {r : Int32} {M' : Mem} (n : Nat) : ∀ pc li lj M, r12_byLaw  n pc li lj M = some (r, M') → Fq CSY [] M M' := by
  induction n with
  | zero => intro pc li lj M hf; cases hf
  | succ n ih =>
    intro pc li lj M hf
    rw [r12_byLaw] at hf
    dsimp only at hf
    by_cases c2 : pc = 2
    · replace hf := ite_t c2 hf
      split at hf
      · exact fqb12_byLaw_2  ih hf
      · cases hf
    replace hf := ite_f c2 hf
    cases hf
theorem fq12_byLaw   {n : Nat} {a1 : Int32} {a2 : Int32} {M M' : Mem} {r : Int32} (hf : f12_byLaw n  a1 a2 M = some (r, M')) : Fq CSY [] M M' := fqb12_byLaw_0  (fql12_byLaw  n) hf
theorem fqb12_holdsAny_42   {rc : Nat → List Int32 → List Int64 → Mem → Option (Int32 × Mem)} {n : Nat} {r : Int32} {M' : Mem} (hrc : ∀ pc li lj M, rc pc li lj M = some (r, M') → Fq CSY [] M M') {i1 : Int32} {i2 : Int32} {M : Mem} (hf : b12_holdsAny_42  rc n i1 i2 M = some (r, M')) : Fq CSY [] M M' := by
  unfold b12_holdsAny_42 at hf
  obtain ⟨v10, ev10, hf⟩ := lt_x hf
  exact hrc _ _ _ _ hf
theorem fqb12_holdsAny_2   {rc : Nat → List Int32 → List Int64 → Mem → Option (Int32 × Mem)} {n : Nat} {r : Int32} {M' : Mem} (hrc : ∀ pc li lj M, rc pc li lj M = some (r, M') → Fq CSY [] M M') {i1 : Int32} {i2 : Int32} {M : Mem} (hf : b12_holdsAny_2  rc n i1 i2 M = some (r, M')) : Fq CSY [] M M' := by
  unfold b12_holdsAny_2 at hf
  by_cases c1 : (M.1 0 20) ≤ i2
  · replace hf := ite_t c1 hf
    exact Fq.of hf
  · replace hf := ite_f c1 hf
    replace hf := chk_2 hf
    by_cases c2 : (M.1 16 i2.toNatClampNeg) = i1
    · replace hf := ite_t c2 hf
      replace hf := chk_2 hf
      replace hf := chk_2 hf
      obtain ⟨r6, M7, g3, hf⟩ := bnd_s hf
      refine Fq.trans (Fq.mono (fq12_comesTo  g3) (by decide)) ?_
      by_cases c4 : r6 = (1 : Int32)
      · replace hf := ite_t c4 hf
        exact Fq.of hf
      · replace hf := ite_f c4 hf
        exact fqb12_holdsAny_42  hrc hf
    · replace hf := ite_f c2 hf
      exact fqb12_holdsAny_42  hrc hf
theorem fqb12_holdsAny_0   {rc : Nat → List Int32 → List Int64 → Mem → Option (Int32 × Mem)} {n : Nat} {r : Int32} {M' : Mem} (hrc : ∀ pc li lj M, rc pc li lj M = some (r, M') → Fq CSY [] M M') {a1 : Int32} {M : Mem} (hf : b12_holdsAny_0  rc n a1 M = some (r, M')) : Fq CSY [] M M' := by
  unfold b12_holdsAny_0 at hf
  exact fqb12_holdsAny_2  hrc hf
theorem fql12_holdsAny   {r : Int32} {M' : Mem} (n : Nat) : ∀ pc li lj M, r12_holdsAny  n pc li lj M = some (r, M') → Fq CSY [] M M' := by
  induction n with
  | zero => intro pc li lj M hf; cases hf
  | succ n ih =>
    intro pc li lj M hf
    rw [r12_holdsAny] at hf
    dsimp only at hf
    by_cases c2 : pc = 2
    · replace hf := ite_t c2 hf
      split at hf
      · exact fqb12_holdsAny_2  ih hf
      · cases hf
    replace hf := ite_f c2 hf
    cases hf
theorem fq12_holdsAny   {n : Nat} {a1 : Int32} {M M' : Mem} {r : Int32} (hf : f12_holdsAny n  a1 M = some (r, M')) : Fq CSY [] M M' := fqb12_holdsAny_0  (fql12_holdsAny  n) hf
theorem fqb12_readsSign_130   {rc : Nat → List Int32 → List Int64 → Mem → Option (Int32 × Mem)} {n : Nat} {r : Int32} {M' : Mem} (hrc : ∀ pc li lj M, rc pc li lj M = some (r, M') → Fq CSY [(0, 12), (0, 14)] M M') {i1 : Int32} {i3 : Int32} {i5 : Int32} {i6 : Int32} {M : Mem} (hf : b12_readsSign_130  rc n i1 i3 i5 i6 M = some (r, M')) : Fq CSY [(0, 12), (0, 14)] M M' := by
  unfold b12_readsSign_130 at hf
  by_cases c1 : i3 ≤ i6
  · replace hf := ite_t c1 hf
    exact Fq.of hf
  · replace hf := ite_f c1 hf
    have h2 := chk_1 hf
    replace hf := chk_2 hf
    obtain ⟨M31, eM31, hf⟩ := lt_x hf
    refine Fq_wIn eM31 (by decide) ?_
    obtain ⟨v32, ev32, hf⟩ := lt_x hf
    exact hrc _ _ _ _ hf
theorem fqb12_readsSign_79   {rc : Nat → List Int32 → List Int64 → Mem → Option (Int32 × Mem)} {n : Nat} {r : Int32} {M' : Mem} (hrc : ∀ pc li lj M, rc pc li lj M = some (r, M') → Fq CSY [(0, 12), (0, 14)] M M') {i1 : Int32} {i2 : Int32} {i3 : Int32} {s0 : Int32} {M : Mem} (hf : b12_readsSign_79  rc n i1 i2 i3 s0 M = some (r, M')) : Fq CSY [(0, 12), (0, 14)] M M' := by
  unfold b12_readsSign_79 at hf
  by_cases c1 : s0 = (-1 : Int32)
  · replace hf := ite_t c1 hf
    obtain ⟨r26, M27, g2, hf⟩ := bnd_s hf
    refine Fq.trans (Fq.mono (fq12_wrongAt  g2) (by decide)) ?_
    exact Fq.of hf
  · replace hf := ite_f c1 hf
    obtain ⟨M21, eM21, hf⟩ := lt_x hf
    refine Fq_wI eM21 (by decide) ?_
    by_cases c3 : (i1 + i3) ≤ (12 : Int32)
    · replace hf := ite_t c3 hf
      exact fqb12_readsSign_130  hrc hf
    · replace hf := ite_f c3 hf
      obtain ⟨r23, M24, g4, hf⟩ := bnd_s hf
      refine Fq.trans (Fq.mono (fq12_wrongAt  g4) (by decide)) ?_
      exact Fq.of hf
theorem fqb12_readsSign_39   {rc : Nat → List Int32 → List Int64 → Mem → Option (Int32 × Mem)} {n : Nat} {r : Int32} {M' : Mem} (hrc : ∀ pc li lj M, rc pc li lj M = some (r, M') → Fq CSY [(0, 12), (0, 14)] M M') {i1 : Int32} {i2 : Int32} {i3 : Int32} {M : Mem} (hf : b12_readsSign_39  rc n i1 i2 i3 M = some (r, M')) : Fq CSY [(0, 12), (0, 14)] M M' := by
  unfold b12_readsSign_39 at hf
  obtain ⟨r14, M15, g1, hf⟩ := bnd_s hf
  refine Fq.trans (Fq.mono (fq12_here  g1) (by decide)) ?_
  by_cases c2 : r14 = (46 : Int32)
  · replace hf := ite_t c2 hf
    exact fqb12_readsSign_79  hrc hf
  · replace hf := ite_f c2 hf
    by_cases c3 : r14 = (35 : Int32)
    · replace hf := ite_t c3 hf
      exact fqb12_readsSign_79  hrc hf
    · replace hf := ite_f c3 hf
      by_cases c4 : r14 = (43 : Int32)
      · replace hf := ite_t c4 hf
        exact fqb12_readsSign_79  hrc hf
      · replace hf := ite_f c4 hf
        exact fqb12_readsSign_79  hrc hf
theorem fqb12_readsSign_0   {rc : Nat → List Int32 → List Int64 → Mem → Option (Int32 × Mem)} {n : Nat} {r : Int32} {M' : Mem} (hrc : ∀ pc li lj M, rc pc li lj M = some (r, M') → Fq CSY [(0, 12), (0, 14)] M M') {a1 : Int32} {M : Mem} (hf : b12_readsSign_0  rc n a1 M = some (r, M')) : Fq CSY [(0, 12), (0, 14)] M M' := by
  unfold b12_readsSign_0 at hf
  obtain ⟨v1, ev1, hf⟩ := lt_x hf
  obtain ⟨r2, M3, g1, hf⟩ := bnd_s hf
  refine Fq.trans (Fq.mono (fq12_here  g1) (by decide)) ?_
  obtain ⟨r5, M6, g2, hf⟩ := bnd_s hf
  refine Fq.trans (Fq.mono (fq12_in  g2) (by decide)) ?_
  by_cases c3 : r5 = 0
  · replace hf := ite_t c3 hf
    exact fqb12_readsSign_39  hrc hf
  · replace hf := ite_f c3 hf
    obtain ⟨r9, M10, g4, hf⟩ := bnd_s hf
    refine Fq.trans (Fq.mono (fq12_here  g4) (by decide)) ?_
    obtain ⟨v12, ev12, hf⟩ := lt_x hf
    obtain ⟨M13, eM13, hf⟩ := lt_x hf
    refine Fq_wI eM13 (by decide) ?_
    exact fqb12_readsSign_39  hrc hf
theorem fql12_readsSign   {r : Int32} {M' : Mem} (n : Nat) : ∀ pc li lj M, r12_readsSign  n pc li lj M = some (r, M') → Fq CSY [(0, 12), (0, 14)] M M' := by
  induction n with
  | zero => intro pc li lj M hf; cases hf
  | succ n ih =>
    intro pc li lj M hf
    rw [r12_readsSign] at hf
    dsimp only at hf
    by_cases c130 : pc = 130
    · replace hf := ite_t c130 hf
      split at hf
      · exact fqb12_readsSign_130  ih hf
      · cases hf
    replace hf := ite_f c130 hf
    cases hf
theorem fq12_readsSign   {n : Nat} {a1 : Int32} {M M' : Mem} {r : Int32} (hf : f12_readsSign n  a1 M = some (r, M')) : Fq CSY [(0, 12), (0, 14)] M M' := fqb12_readsSign_0  (fql12_readsSign  n) hf
theorem fqb12_canBeginSign_29   {rc : Nat → List Int32 → List Int64 → Mem → Option (Int32 × Mem)} {n : Nat} {r : Int32} {M' : Mem} (hrc : ∀ pc li lj M, rc pc li lj M = some (r, M') → Fq CSY [] M M')  {M : Mem} (hf : b12_canBeginSign_29  rc n  M = some (r, M')) : Fq CSY [] M M' := by
  unfold b12_canBeginSign_29 at hf
  exact Fq.of hf
theorem fqb12_canBeginSign_0   {rc : Nat → List Int32 → List Int64 → Mem → Option (Int32 × Mem)} {n : Nat} {r : Int32} {M' : Mem} (hrc : ∀ pc li lj M, rc pc li lj M = some (r, M') → Fq CSY [] M M') {a0 : Int32} {M : Mem} (hf : b12_canBeginSign_0  rc n a0 M = some (r, M')) : Fq CSY [] M M' := by
  unfold b12_canBeginSign_0 at hf
  by_cases c1 : a0 = (46 : Int32)
  · replace hf := ite_t c1 hf
    exact fqb12_canBeginSign_29  hrc hf
  · replace hf := ite_f c1 hf
    by_cases c2 : a0 = (35 : Int32)
    · replace hf := ite_t c2 hf
      exact fqb12_canBeginSign_29  hrc hf
    · replace hf := ite_f c2 hf
      by_cases c3 : a0 = (43 : Int32)
      · replace hf := ite_t c3 hf
        exact fqb12_canBeginSign_29  hrc hf
      · replace hf := ite_f c3 hf
        obtain ⟨r4, M5, g4, hf⟩ := bnd_s hf
        refine Fq.trans (Fq.mono (fq12_in  g4) (by decide)) ?_
        by_cases c5 : r4 = 0
        · replace hf := ite_t c5 hf
          exact Fq.of hf
        · replace hf := ite_f c5 hf
          exact fqb12_canBeginSign_29  hrc hf
theorem fq12_canBeginSign   {n : Nat} {a0 : Int32} {M M' : Mem} {r : Int32} (hf : f12_canBeginSign n  a0 M = some (r, M')) : Fq CSY [] M M' := fqb12_canBeginSign_0  (fun _ _ _ _ h => by cases h) hf
theorem fqb12_readsRow_69   {rc : Nat → List Int32 → List Int64 → Mem → Option (Int32 × Mem)} {n : Nat} {r : Int32} {M' : Mem} (hrc : ∀ pc li lj M, rc pc li lj M = some (r, M') → Fq CSY [(0, 12), (0, 14), (0, 35)] M M') {i1 : Int32} {M : Mem} (hf : b12_readsRow_69  rc n i1 M = some (r, M')) : Fq CSY [(0, 12), (0, 14), (0, 35)] M M' := by
  unfold b12_readsRow_69 at hf
  obtain ⟨M31, eM31, hf⟩ := lt_x hf
  refine Fq_wI eM31 (by decide) ?_
  by_cases c1 : i1 = (-1 : Int32)
  · replace hf := ite_t c1 hf
    exact Fq.of hf
  · replace hf := ite_f c1 hf
    exact Fq.of hf
theorem fqb12_readsRow_45   {rc : Nat → List Int32 → List Int64 → Mem → Option (Int32 × Mem)} {n : Nat} {r : Int32} {M' : Mem} (hrc : ∀ pc li lj M, rc pc li lj M = some (r, M') → Fq CSY [(0, 12), (0, 14), (0, 35)] M M') {i1 : Int32} {M : Mem} (hf : b12_readsRow_45  rc n i1 M = some (r, M')) : Fq CSY [(0, 12), (0, 14), (0, 35)] M M' := by
  unfold b12_readsRow_45 at hf
  by_cases c1 : i1 = (-1 : Int32)
  · replace hf := ite_t c1 hf
    exact fqb12_readsRow_69  hrc hf
  · replace hf := ite_f c1 hf
    obtain ⟨r21, M22, g2, hf⟩ := bnd_s hf
    refine Fq.trans (Fq.mono (fq12_here  g2) (by decide)) ?_
    obtain ⟨r24, M25, g3, hf⟩ := bnd_s hf
    refine Fq.trans (Fq.mono (fq12_canBeginSign  g3) (by decide)) ?_
    by_cases c4 : r24 = 0
    · replace hf := ite_t c4 hf
      exact fqb12_readsRow_69  hrc hf
    · replace hf := ite_f c4 hf
      obtain ⟨r28, M29, g5, hf⟩ := bnd_s hf
      refine Fq.trans (Fq.mono (fq12_readsSign  g5) (by decide)) ?_
      exact hrc _ _ _ _ hf
theorem fqb12_readsRow_0   {rc : Nat → List Int32 → List Int64 → Mem → Option (Int32 × Mem)} {n : Nat} {r : Int32} {M' : Mem} (hrc : ∀ pc li lj M, rc pc li lj M = some (r, M') → Fq CSY [(0, 12), (0, 14), (0, 35)] M M')  {M : Mem} (hf : b12_readsRow_0  rc n  M = some (r, M')) : Fq CSY [(0, 12), (0, 14), (0, 35)] M M' := by
  unfold b12_readsRow_0 at hf
  obtain ⟨r1, M2, g1, hf⟩ := bnd_s hf
  refine Fq.trans (Fq.mono (fq12_here  g1) (by decide)) ?_
  obtain ⟨r4, M5, g2, hf⟩ := bnd_s hf
  refine Fq.trans (Fq.mono (fq12_canBeginSign  g2) (by decide)) ?_
  by_cases c3 : r4 = 0
  · replace hf := ite_t c3 hf
    obtain ⟨r16, M17, g4, hf⟩ := bnd_s hf
    refine Fq.trans (Fq.mono (fq12_wrongAt  g4) (by decide)) ?_
    replace hf := chk_2 hf
    exact Fq.of hf
  · replace hf := ite_f c3 hf
    by_cases c5 : (M5.1 0 35) = (8 : Int32)
    · replace hf := ite_t c5 hf
      obtain ⟨r12, M13, g6, hf⟩ := bnd_s hf
      refine Fq.trans (Fq.mono (fq12_wrongAt  g6) (by decide)) ?_
      replace hf := chk_2 hf
      exact Fq.of hf
    · replace hf := ite_f c5 hf
      obtain ⟨r9, M10, g7, hf⟩ := bnd_s hf
      refine Fq.trans (Fq.mono (fq12_readsSign  g7) (by decide)) ?_
      exact fqb12_readsRow_45  hrc hf
theorem fql12_readsRow   {r : Int32} {M' : Mem} (n : Nat) : ∀ pc li lj M, r12_readsRow  n pc li lj M = some (r, M') → Fq CSY [(0, 12), (0, 14), (0, 35)] M M' := by
  induction n with
  | zero => intro pc li lj M hf; cases hf
  | succ n ih =>
    intro pc li lj M hf
    rw [r12_readsRow] at hf
    dsimp only at hf
    by_cases c45 : pc = 45
    · replace hf := ite_t c45 hf
      split at hf
      · exact fqb12_readsRow_45  ih hf
      · cases hf
    replace hf := ite_f c45 hf
    cases hf
theorem fq12_readsRow   {n : Nat}  {M M' : Mem} {r : Int32} (hf : f12_readsRow n   M = some (r, M')) : Fq CSY [(0, 12), (0, 14), (0, 35)] M M' := fqb12_readsRow_0  (fql12_readsRow  n) hf
theorem fqb12_map_18   {rc : Nat → List Int32 → List Int64 → Mem → Option (Int32 × Mem)} {n : Nat} {r : Int32} {M' : Mem} (hrc : ∀ pc li lj M, rc pc li lj M = some (r, M') → Fq CSY [(0, 9), (0, 11), (0, 12), (0, 13), (0, 14), (0, 17), (0, 19), (0, 35)] M M')  {M : Mem} (hf : b12_map_18  rc n  M = some (r, M')) : Fq CSY [(0, 9), (0, 11), (0, 12), (0, 13), (0, 14), (0, 17), (0, 19), (0, 35)] M M' := by
  unfold b12_map_18 at hf
  exact Fq.of hf
theorem fqb12_map_112   {rc : Nat → List Int32 → List Int64 → Mem → Option (Int32 × Mem)} {n : Nat} {r : Int32} {M' : Mem} (hrc : ∀ pc li lj M, rc pc li lj M = some (r, M') → Fq CSY [(0, 9), (0, 11), (0, 12), (0, 13), (0, 14), (0, 17), (0, 19), (0, 35)] M M') {i3 : Int32} {M : Mem} (hf : b12_map_112  rc n i3 M = some (r, M')) : Fq CSY [(0, 9), (0, 11), (0, 12), (0, 13), (0, 14), (0, 17), (0, 19), (0, 35)] M M' := by
  unfold b12_map_112 at hf
  by_cases c1 : (96 : Int32) ≤ i3
  · replace hf := ite_t c1 hf
    obtain ⟨M30, eM30, hf⟩ := lt_x hf
    refine Fq_wI eM30 (by decide) ?_
    exact Fq.of hf
  · replace hf := ite_f c1 hf
    have h2 := chk_1 hf
    replace hf := chk_2 hf
    have h3 := chk_1 hf
    replace hf := chk_2 hf
    obtain ⟨M33, eM33, hf⟩ := lt_x hf
    refine Fq_wIn eM33 (by decide) ?_
    obtain ⟨v34, ev34, hf⟩ := lt_x hf
    exact hrc _ _ _ _ hf
theorem fqb12_map_96   {rc : Nat → List Int32 → List Int64 → Mem → Option (Int32 × Mem)} {n : Nat} {r : Int32} {M' : Mem} (hrc : ∀ pc li lj M, rc pc li lj M = some (r, M') → Fq CSY [(0, 9), (0, 11), (0, 12), (0, 13), (0, 14), (0, 17), (0, 19), (0, 35)] M M') {i2 : Int32} {M : Mem} (hf : b12_map_96  rc n i2 M = some (r, M')) : Fq CSY [(0, 9), (0, 11), (0, 12), (0, 13), (0, 14), (0, 17), (0, 19), (0, 35)] M M' := by
  unfold b12_map_96 at hf
  obtain ⟨M27, eM27, hf⟩ := lt_x hf
  refine Fq_wI eM27 (by decide) ?_
  by_cases c1 : i2 = 0
  · replace hf := ite_t c1 hf
    exact Fq.of hf
  · replace hf := ite_f c1 hf
    exact fqb12_map_112  hrc hf
theorem fqb12_map_92   {rc : Nat → List Int32 → List Int64 → Mem → Option (Int32 × Mem)} {n : Nat} {r : Int32} {M' : Mem} (hrc : ∀ pc li lj M, rc pc li lj M = some (r, M') → Fq CSY [(0, 9), (0, 11), (0, 12), (0, 13), (0, 14), (0, 17), (0, 19), (0, 35)] M M') {s0 : Int32} {M : Mem} (hf : b12_map_92  rc n s0 M = some (r, M')) : Fq CSY [(0, 9), (0, 11), (0, 12), (0, 13), (0, 14), (0, 17), (0, 19), (0, 35)] M M' := by
  unfold b12_map_92 at hf
  exact hrc _ _ _ _ hf
theorem fqb12_map_91   {rc : Nat → List Int32 → List Int64 → Mem → Option (Int32 × Mem)} {n : Nat} {r : Int32} {M' : Mem} (hrc : ∀ pc li lj M, rc pc li lj M = some (r, M') → Fq CSY [(0, 9), (0, 11), (0, 12), (0, 13), (0, 14), (0, 17), (0, 19), (0, 35)] M M')  {M : Mem} (hf : b12_map_91  rc n  M = some (r, M')) : Fq CSY [(0, 9), (0, 11), (0, 12), (0, 13), (0, 14), (0, 17), (0, 19), (0, 35)] M M' := by
  unfold b12_map_91 at hf
  exact fqb12_map_92  hrc hf
theorem fqb12_map_56   {rc : Nat → List Int32 → List Int64 → Mem → Option (Int32 × Mem)} {n : Nat} {r : Int32} {M' : Mem} (hrc : ∀ pc li lj M, rc pc li lj M = some (r, M') → Fq CSY [(0, 9), (0, 11), (0, 12), (0, 13), (0, 14), (0, 17), (0, 19), (0, 35)] M M') {i2 : Int32} {M : Mem} (hf : b12_map_56  rc n i2 M = some (r, M')) : Fq CSY [(0, 9), (0, 11), (0, 12), (0, 13), (0, 14), (0, 17), (0, 19), (0, 35)] M M' := by
  unfold b12_map_56 at hf
  by_cases c1 : i2 = 0
  · replace hf := ite_t c1 hf
    exact fqb12_map_96  hrc hf
  · replace hf := ite_f c1 hf
    by_cases c2 : (M.1 0 13) ≤ (M.1 0 12)
    · replace hf := ite_t c2 hf
      exact fqb12_map_96  hrc hf
    · replace hf := ite_f c2 hf
      obtain ⟨r19, M20, g3, hf⟩ := bnd_s hf
      refine Fq.trans (Fq.mono (fq12_takes  g3) (by decide)) ?_
      by_cases c4 : r19 = 0
      · replace hf := ite_t c4 hf
        exact fqb12_map_91  hrc hf
      · replace hf := ite_f c4 hf
        obtain ⟨r23, M24, g5, hf⟩ := bnd_s hf
        refine Fq.trans (Fq.mono (fq12_readsRow  g5) (by decide)) ?_
        by_cases c6 : r23 = 0
        · replace hf := ite_t c6 hf
          exact fqb12_map_91  hrc hf
        · replace hf := ite_f c6 hf
          exact fqb12_map_92  hrc hf
theorem fqb12_map_32   {rc : Nat → List Int32 → List Int64 → Mem → Option (Int32 × Mem)} {n : Nat} {r : Int32} {M' : Mem} (hrc : ∀ pc li lj M, rc pc li lj M = some (r, M') → Fq CSY [(0, 9), (0, 11), (0, 12), (0, 13), (0, 14), (0, 17), (0, 19), (0, 35)] M M') {i2 : Int32} {M : Mem} (hf : b12_map_32  rc n i2 M = some (r, M')) : Fq CSY [(0, 9), (0, 11), (0, 12), (0, 13), (0, 14), (0, 17), (0, 19), (0, 35)] M M' := by
  unfold b12_map_32 at hf
  by_cases c1 : (96 : Int32) ≤ i2
  · replace hf := ite_t c1 hf
    obtain ⟨r11, M12, g2, hf⟩ := bnd_s hf
    refine Fq.trans (Fq.mono (fq12_readsRow  g2) (by decide)) ?_
    exact fqb12_map_56  hrc hf
  · replace hf := ite_f c1 hf
    have h3 := chk_1 hf
    replace hf := chk_2 hf
    obtain ⟨M15, eM15, hf⟩ := lt_x hf
    refine Fq_wIn eM15 (by decide) ?_
    obtain ⟨v16, ev16, hf⟩ := lt_x hf
    exact hrc _ _ _ _ hf
theorem fqb12_map_0   {rc : Nat → List Int32 → List Int64 → Mem → Option (Int32 × Mem)} {n : Nat} {r : Int32} {M' : Mem} (hrc : ∀ pc li lj M, rc pc li lj M = some (r, M') → Fq CSY [(0, 9), (0, 11), (0, 12), (0, 13), (0, 14), (0, 17), (0, 19), (0, 35)] M M') {a1 : Int32} {M : Mem} (hf : b12_map_0  rc n a1 M = some (r, M')) : Fq CSY [(0, 9), (0, 11), (0, 12), (0, 13), (0, 14), (0, 17), (0, 19), (0, 35)] M M' := by
  unfold b12_map_0 at hf
  obtain ⟨r1, M2, g1, hf⟩ := bnd_s hf
  refine Fq.trans (Fq.mono (fq12_in  g1) (by decide)) ?_
  by_cases c2 : r1 = 0
  · replace hf := ite_t c2 hf
    exact fqb12_map_18  hrc hf
  · replace hf := ite_f c2 hf
    by_cases c3 : a1 ≤ (M2.1 0 11)
    · replace hf := ite_t c3 hf
      obtain ⟨r6, M7, g4, hf⟩ := bnd_s hf
      refine Fq.trans (Fq.mono (fq12_beginsText  g4) (by decide)) ?_
      obtain ⟨M9, eM9, hf⟩ := lt_x hf
      refine Fq_wI eM9 (by decide) ?_
      exact fqb12_map_32  hrc hf
    · replace hf := ite_f c3 hf
      exact fqb12_map_18  hrc hf
theorem fql12_map   {r : Int32} {M' : Mem} (n : Nat) : ∀ pc li lj M, r12_map  n pc li lj M = some (r, M') → Fq CSY [(0, 9), (0, 11), (0, 12), (0, 13), (0, 14), (0, 17), (0, 19), (0, 35)] M M' := by
  induction n with
  | zero => intro pc li lj M hf; cases hf
  | succ n ih =>
    intro pc li lj M hf
    rw [r12_map] at hf
    dsimp only at hf
    by_cases c32 : pc = 32
    · replace hf := ite_t c32 hf
      split at hf
      · exact fqb12_map_32  ih hf
      · cases hf
    replace hf := ite_f c32 hf
    by_cases c56 : pc = 56
    · replace hf := ite_t c56 hf
      split at hf
      · exact fqb12_map_56  ih hf
      · cases hf
    replace hf := ite_f c56 hf
    by_cases c112 : pc = 112
    · replace hf := ite_t c112 hf
      split at hf
      · exact fqb12_map_112  ih hf
      · cases hf
    replace hf := ite_f c112 hf
    cases hf
theorem fq12_map   {n : Nat} {a1 : Int32} {M M' : Mem} {r : Int32} (hf : f12_map n  a1 M = some (r, M')) : Fq CSY [(0, 9), (0, 11), (0, 12), (0, 13), (0, 14), (0, 17), (0, 19), (0, 35)] M M' := fqb12_map_0  (fql12_map  n) hf
