theorem fqb3_beginRule_68   {rc : Nat → List Int32 → List Int64 → Mem → Option (Int32 × Mem)} {n : Nat} {r : Int32} {M' : Mem} (hrc : ∀ pc li lj M, rc pc li lj M = some (r, M') → Fq CSX [(17, 9)] M M') {s1 : Int32} {M : Mem} (hf : b3_beginRule_68  rc n s1 M = some (r, M')) : Fq CSX [(17, 9)] M M' := by
  unfold b3_beginRule_68 at hf
  obtain ⟨M10, eM10, hf⟩ := lt_x hf
  refine Fq_wI eM10 (by decide) ?_
  exact Fq.of hf
theorem fqb3_beginRule_20   {rc : Nat → List Int32 → List Int64 → Mem → Option (Int32 × Mem)} {n : Nat} {r : Int32} {M' : Mem} (hrc : ∀ pc li lj M, rc pc li lj M = some (r, M') → Fq CSX [(17, 9)] M M') {i1 : Int32} {M : Mem} (hf : b3_beginRule_20  rc n i1 M = some (r, M')) : Fq CSX [(17, 9)] M M' := by
  unfold b3_beginRule_20 at hf
  by_cases c1 : (M.1 17 5) < (16 : Int32)
  · replace hf := ite_t c1 hf
    replace hf := chk_2 hf
    obtain ⟨M6, eM6, hf⟩ := lt_x hf
    refine Fq_wIn eM6 (by decide) ?_
    replace hf := chk_2 hf
    obtain ⟨M8, eM8, hf⟩ := lt_x hf
    refine Fq_wIn eM8 (by decide) ?_
    by_cases c2 : i1 = (115 : Int32)
    · replace hf := ite_t c2 hf
      exact fqb3_beginRule_68  hrc hf
    · replace hf := ite_f c2 hf
      exact fqb3_beginRule_68  hrc hf
  · replace hf := ite_f c1 hf
    exact Fq.of hf
theorem fqb3_beginRule_0   {rc : Nat → List Int32 → List Int64 → Mem → Option (Int32 × Mem)} {n : Nat} {r : Int32} {M' : Mem} (hrc : ∀ pc li lj M, rc pc li lj M = some (r, M') → Fq CSX [(17, 9)] M M') {a1 : Int32} {M : Mem} (hf : b3_beginRule_0  rc n a1 M = some (r, M')) : Fq CSX [(17, 9)] M M' := by
  unfold b3_beginRule_0 at hf
  by_cases c1 : a1 = (99 : Int32)
  · replace hf := ite_t c1 hf
    exact fqb3_beginRule_20  hrc hf
  · replace hf := ite_f c1 hf
    by_cases c2 : a1 = (101 : Int32)
    · replace hf := ite_t c2 hf
      exact fqb3_beginRule_20  hrc hf
    · replace hf := ite_f c2 hf
      by_cases c3 : a1 = (115 : Int32)
      · replace hf := ite_t c3 hf
        exact fqb3_beginRule_20  hrc hf
      · replace hf := ite_f c3 hf
        exact Fq.of hf
theorem fq3_beginRule   {n : Nat} {a1 : Int32} {M M' : Mem} {r : Int32} (hf : f3_beginRule n  a1 M = some (r, M')) : Fq CSX [(17, 9)] M M' := fqb3_beginRule_0  (fun _ _ _ _ h => by cases h) hf
theorem fqb3_push_0   {rc : Nat → List Int32 → List Int64 → Mem → Option (Unit × Mem)} {n : Nat} {r : Unit} {M' : Mem} (hrc : ∀ pc li lj M, rc pc li lj M = some (r, M') → Fq CSX [(17, 7)] M M') {a1 : Int32} {M : Mem} (hf : b3_push_0  rc n a1 M = some (r, M')) : Fq CSX [(17, 7)] M M' := by
  unfold b3_push_0 at hf
  by_cases c1 : (64 : Int32) ≤ (M.1 17 7)
  · replace hf := ite_t c1 hf
    exact Fq.of hf
  · replace hf := ite_f c1 hf
    replace hf := chk_2 hf
    obtain ⟨M3, eM3, hf⟩ := lt_x hf
    refine Fq_wIn eM3 (by decide) ?_
    replace hf := chk_2 hf
    obtain ⟨M5, eM5, hf⟩ := lt_x hf
    refine Fq_wIn eM5 (by decide) ?_
    obtain ⟨M6, eM6, hf⟩ := lt_x hf
    refine Fq_wI eM6 (by decide) ?_
    exact Fq.of hf
theorem fq3_push   {n : Nat} {a1 : Int32} {M M' : Mem} {r : Unit} (hf : f3_push n  a1 M = some (r, M')) : Fq CSX [(17, 7)] M M' := fqb3_push_0  (fun _ _ _ _ h => by cases h) hf
theorem fqb3_open_38   {rc : Nat → List Int32 → List Int64 → Mem → Option (Int32 × Mem)} {n : Nat} {r : Int32} {M' : Mem} (hrc : ∀ pc li lj M, rc pc li lj M = some (r, M') → Fq CSX [(17, 7), (17, 8), (17, 9)] M M') {s1 : Int32} {M : Mem} (hf : b3_open_38  rc n s1 M = some (r, M')) : Fq CSX [(17, 7), (17, 8), (17, 9)] M M' := by
  unfold b3_open_38 at hf
  obtain ⟨M7, eM7, hf⟩ := lt_x hf
  refine Fq_wI eM7 (by decide) ?_
  exact Fq.of hf
theorem fqb3_open_0   {rc : Nat → List Int32 → List Int64 → Mem → Option (Int32 × Mem)} {n : Nat} {r : Int32} {M' : Mem} (hrc : ∀ pc li lj M, rc pc li lj M = some (r, M') → Fq CSX [(17, 7), (17, 8), (17, 9)] M M') {a1 : Int32} {M : Mem} (hf : b3_open_0  rc n a1 M = some (r, M')) : Fq CSX [(17, 7), (17, 8), (17, 9)] M M' := by
  unfold b3_open_0 at hf
  by_cases c1 : (M.1 17 8) < (6 : Int32)
  · replace hf := ite_t c1 hf
    obtain ⟨M2, eM2, hf⟩ := lt_x hf
    refine Fq_wI eM2 (by decide) ?_
    obtain ⟨r3, M4, g2, hf⟩ := bnd_s hf
    refine Fq.trans (Fq.mono (fq3_push  g2) (by decide)) ?_
    by_cases c3 : a1 = (14 : Int32)
    · replace hf := ite_t c3 hf
      exact fqb3_open_38  hrc hf
    · replace hf := ite_f c3 hf
      exact fqb3_open_38  hrc hf
  · replace hf := ite_f c1 hf
    exact Fq.of hf
theorem fq3_open   {n : Nat} {a1 : Int32} {M M' : Mem} {r : Int32} (hf : f3_open n  a1 M = some (r, M')) : Fq CSX [(17, 7), (17, 8), (17, 9)] M M' := fqb3_open_0  (fun _ _ _ _ h => by cases h) hf
theorem fqb3_openRule_26   {rc : Nat → List Int32 → List Int64 → Mem → Option (Int32 × Mem)} {n : Nat} {r : Int32} {M' : Mem} (hrc : ∀ pc li lj M, rc pc li lj M = some (r, M') → Fq CSX [(17, 7), (17, 8), (17, 9)] M M')  {M : Mem} (hf : b3_openRule_26  rc n  M = some (r, M')) : Fq CSX [(17, 7), (17, 8), (17, 9)] M M' := by
  unfold b3_openRule_26 at hf
  obtain ⟨r4, M5, g1, hf⟩ := bnd_s hf
  refine Fq.trans (Fq.mono (fq3_open  g1) (by decide)) ?_
  exact Fq.of hf
theorem fqb3_openRule_0   {rc : Nat → List Int32 → List Int64 → Mem → Option (Int32 × Mem)} {n : Nat} {r : Int32} {M' : Mem} (hrc : ∀ pc li lj M, rc pc li lj M = some (r, M') → Fq CSX [(17, 7), (17, 8), (17, 9)] M M')  {M : Mem} (hf : b3_openRule_0  rc n  M = some (r, M')) : Fq CSX [(17, 7), (17, 8), (17, 9)] M M' := by
  unfold b3_openRule_0 at hf
  by_cases c1 : (16 : Int32) ≤ (M.1 17 5)
  · replace hf := ite_t c1 hf
    exact fqb3_openRule_26  hrc hf
  · replace hf := ite_f c1 hf
    replace hf := chk_2 hf
    obtain ⟨M3, eM3, hf⟩ := lt_x hf
    refine Fq_wIn eM3 (by decide) ?_
    exact fqb3_openRule_26  hrc hf
theorem fq3_openRule   {n : Nat}  {M M' : Mem} {r : Int32} (hf : f3_openRule n   M = some (r, M')) : Fq CSX [(17, 7), (17, 8), (17, 9)] M M' := fqb3_openRule_0  (fun _ _ _ _ h => by cases h) hf
theorem fqb3_goOnNumber_0   {rc : Nat → List Int32 → List Int64 → Mem → Option (Int32 × Mem)} {n : Nat} {r : Int32} {M' : Mem} (hrc : ∀ pc li lj M, rc pc li lj M = some (r, M') → Fq CSX [(17, 10), (17, 11)] M M') {a1 : Int32} {M : Mem} (hf : b3_goOnNumber_0  rc n a1 M = some (r, M')) : Fq CSX [(17, 10), (17, 11)] M M' := by
  unfold b3_goOnNumber_0 at hf
  by_cases c1 : (M.1 17 11) < (5 : Int32)
  · replace hf := ite_t c1 hf
    obtain ⟨M2, eM2, hf⟩ := lt_x hf
    refine Fq_wI eM2 (by decide) ?_
    obtain ⟨M3, eM3, hf⟩ := lt_x hf
    refine Fq_wI eM3 (by decide) ?_
    exact Fq.of hf
  · replace hf := ite_f c1 hf
    exact Fq.of hf
theorem fq3_goOnNumber   {n : Nat} {a1 : Int32} {M M' : Mem} {r : Int32} (hf : f3_goOnNumber n  a1 M = some (r, M')) : Fq CSX [(17, 10), (17, 11)] M M' := fqb3_goOnNumber_0  (fun _ _ _ _ h => by cases h) hf
theorem fqb3_innermost_30   {rc : Nat → List Int32 → List Int64 → Mem → Option (Int32 × Mem)} {n : Nat} {r : Int32} {M' : Mem} (hrc : ∀ pc li lj M, rc pc li lj M = some (r, M') → Fq CSX [] M M')  {M : Mem} (hf : b3_innermost_30  rc n  M = some (r, M')) : Fq CSX [] M M' := by
  unfold b3_innermost_30 at hf
  exact Fq.of hf
theorem fqb3_innermost_0   {rc : Nat → List Int32 → List Int64 → Mem → Option (Int32 × Mem)} {n : Nat} {r : Int32} {M' : Mem} (hrc : ∀ pc li lj M, rc pc li lj M = some (r, M') → Fq CSX [] M M')  {M : Mem} (hf : b3_innermost_0  rc n  M = some (r, M')) : Fq CSX [] M M' := by
  unfold b3_innermost_0 at hf
  by_cases c1 : (M.1 17 7) ≤ 0
  · replace hf := ite_t c1 hf
    exact fqb3_innermost_30  hrc hf
  · replace hf := ite_f c1 hf
    by_cases c2 : (64 : Int32) < (M.1 17 7)
    · replace hf := ite_t c2 hf
      exact fqb3_innermost_30  hrc hf
    · replace hf := ite_f c2 hf
      replace hf := chk_2 hf
      exact Fq.of hf
theorem fq3_innermost   {n : Nat}  {M M' : Mem} {r : Int32} (hf : f3_innermost n   M = some (r, M')) : Fq CSX [] M M' := fqb3_innermost_0  (fun _ _ _ _ h => by cases h) hf
theorem fqb3_setLeap_0   {rc : Nat → List Int32 → List Int64 → Mem → Option (Unit × Mem)} {n : Nat} {r : Unit} {M' : Mem} (hrc : ∀ pc li lj M, rc pc li lj M = some (r, M') → Fq CSX [] M M') {a1 : Int32} {a2 : Int32} {M : Mem} (hf : b3_setLeap_0  rc n a1 a2 M = some (r, M')) : Fq CSX [] M M' := by
  unfold b3_setLeap_0 at hf
  by_cases c1 : a1 < 0
  · replace hf := ite_t c1 hf
    exact Fq.of hf
  · replace hf := ite_f c1 hf
    by_cases c2 : (240 : Int32) ≤ a1
    · replace hf := ite_t c2 hf
      exact Fq.of hf
    · replace hf := ite_f c2 hf
      replace hf := chk_2 hf
      obtain ⟨M4, eM4, hf⟩ := lt_x hf
      refine Fq_wIn eM4 (by decide) ?_
      exact Fq.of hf
theorem fq3_setLeap   {n : Nat} {a1 : Int32} {a2 : Int32} {M M' : Mem} {r : Unit} (hf : f3_setLeap n  a1 a2 M = some (r, M')) : Fq CSX [] M M' := fqb3_setLeap_0  (fun _ _ _ _ h => by cases h) hf
theorem fqb3_settle_95   {rc : Nat → List Int32 → List Int64 → Mem → Option (Unit × Mem)} {n : Nat} {r : Unit} {M' : Mem} (hrc : ∀ pc li lj M, rc pc li lj M = some (r, M') → Fq CSX [(17, 6), (17, 7), (17, 8)] M M') {i1 : Int32} {i2 : Int32} {M : Mem} (hf : b3_settle_95  rc n i1 i2 M = some (r, M')) : Fq CSX [(17, 6), (17, 7), (17, 8)] M M' := by
  unfold b3_settle_95 at hf
  obtain ⟨v17, ev17, hf⟩ := lt_x hf
  exact hrc _ _ _ _ hf
theorem fqb3_settle_52   {rc : Nat → List Int32 → List Int64 → Mem → Option (Unit × Mem)} {n : Nat} {r : Unit} {M' : Mem} (hrc : ∀ pc li lj M, rc pc li lj M = some (r, M') → Fq CSX [(17, 6), (17, 7), (17, 8)] M M') {i1 : Int32} {i2 : Int32} {i3 : Int32} {M : Mem} (hf : b3_settle_52  rc n i1 i2 i3 M = some (r, M')) : Fq CSX [(17, 6), (17, 7), (17, 8)] M M' := by
  unfold b3_settle_52 at hf
  replace hf := chk_2 hf
  obtain ⟨r19, M20, g1, hf⟩ := bnd_s hf
  refine Fq.trans (Fq.mono (fq3_setLeap  g1) (by decide)) ?_
  exact fqb3_settle_95  hrc hf
theorem fqb3_settle_85   {rc : Nat → List Int32 → List Int64 → Mem → Option (Unit × Mem)} {n : Nat} {r : Unit} {M' : Mem} (hrc : ∀ pc li lj M, rc pc li lj M = some (r, M') → Fq CSX [(17, 6), (17, 7), (17, 8)] M M') {i1 : Int32} {i2 : Int32} {i3 : Int32} {s1 : Int32} {s2 : Int32} {M : Mem} (hf : b3_settle_85  rc n i1 i2 i3 s1 s2 M = some (r, M')) : Fq CSX [(17, 6), (17, 7), (17, 8)] M M' := by
  unfold b3_settle_85 at hf
  obtain ⟨M13, eM13, hf⟩ := lt_x hf
  refine Fq_wI eM13 (by decide) ?_
  obtain ⟨r14, M15, g1, hf⟩ := bnd_s hf
  refine Fq.trans (Fq.mono (fq3_add  g1) (by decide)) ?_
  exact fqb3_settle_95  hrc hf
theorem fqb3_settle_2   {rc : Nat → List Int32 → List Int64 → Mem → Option (Unit × Mem)} {n : Nat} {r : Unit} {M' : Mem} (hrc : ∀ pc li lj M, rc pc li lj M = some (r, M') → Fq CSX [(17, 6), (17, 7), (17, 8)] M M') {i1 : Int32} {i2 : Int32} {M : Mem} (hf : b3_settle_2  rc n i1 i2 M = some (r, M')) : Fq CSX [(17, 6), (17, 7), (17, 8)] M M' := by
  unfold b3_settle_2 at hf
  by_cases c1 : (64 : Int32) ≤ i2
  · replace hf := ite_t c1 hf
    exact Fq.of hf
  · replace hf := ite_f c1 hf
    obtain ⟨r2, M3, g2, hf⟩ := bnd_s hf
    refine Fq.trans (Fq.mono (fq3_innermost  g2) (by decide)) ?_
    replace hf := chk_2 hf
    by_cases c3 : (ranksL.getD r2.toNatClampNeg 0) < i1
    · replace hf := ite_t c3 hf
      exact Fq.of hf
    · replace hf := ite_f c3 hf
      obtain ⟨M7, eM7, hf⟩ := lt_x hf
      refine Fq_wI eM7 (by decide) ?_
      replace hf := chk_2 hf
      obtain ⟨v9, ev9, hf⟩ := lt_x hf
      by_cases c4 : v9 = (11 : Int32)
      · replace hf := ite_t c4 hf
        exact fqb3_settle_52  hrc hf
      · replace hf := ite_f c4 hf
        by_cases c5 : v9 = (12 : Int32)
        · replace hf := ite_t c5 hf
          exact fqb3_settle_52  hrc hf
        · replace hf := ite_f c5 hf
          by_cases c6 : v9 = (10 : Int32)
          · replace hf := ite_t c6 hf
            exact fqb3_settle_85  hrc hf
          · replace hf := ite_f c6 hf
            exact fqb3_settle_85  hrc hf
theorem fqb3_settle_0   {rc : Nat → List Int32 → List Int64 → Mem → Option (Unit × Mem)} {n : Nat} {r : Unit} {M' : Mem} (hrc : ∀ pc li lj M, rc pc li lj M = some (r, M') → Fq CSX [(17, 6), (17, 7), (17, 8)] M M') {a1 : Int32} {M : Mem} (hf : b3_settle_0  rc n a1 M = some (r, M')) : Fq CSX [(17, 6), (17, 7), (17, 8)] M M' := by
  unfold b3_settle_0 at hf
  exact fqb3_settle_2  hrc hf
theorem fql3_settle   {r : Unit} {M' : Mem} (n : Nat) : ∀ pc li lj M, r3_settle  n pc li lj M = some (r, M') → Fq CSX [(17, 6), (17, 7), (17, 8)] M M' := by
  induction n with
  | zero => intro pc li lj M hf; cases hf
  | succ n ih =>
    intro pc li lj M hf
    rw [r3_settle] at hf
    dsimp only at hf
    by_cases c2 : pc = 2
    · replace hf := ite_t c2 hf
      split at hf
      · exact fqb3_settle_2  ih hf
      · cases hf
    replace hf := ite_f c2 hf
    cases hf
theorem fq3_settle   {n : Nat} {a1 : Int32} {M M' : Mem} {r : Unit} (hf : f3_settle n  a1 M = some (r, M')) : Fq CSX [(17, 6), (17, 7), (17, 8)] M M' := fqb3_settle_0  (fql3_settle  n) hf
theorem fqb3_await_23   {rc : Nat → List Int32 → List Int64 → Mem → Option (Int32 × Mem)} {n : Nat} {r : Int32} {M' : Mem} (hrc : ∀ pc li lj M, rc pc li lj M = some (r, M') → Fq CSX [(17, 6), (17, 7), (17, 9)] M M') {i2 : Int32} {M : Mem} (hf : b3_await_23  rc n i2 M = some (r, M')) : Fq CSX [(17, 6), (17, 7), (17, 9)] M M' := by
  unfold b3_await_23 at hf
  obtain ⟨M6, eM6, hf⟩ := lt_x hf
  refine Fq_wI eM6 (by decide) ?_
  exact Fq.of hf
theorem fqb3_await_17   {rc : Nat → List Int32 → List Int64 → Mem → Option (Int32 × Mem)} {n : Nat} {r : Int32} {M' : Mem} (hrc : ∀ pc li lj M, rc pc li lj M = some (r, M') → Fq CSX [(17, 6), (17, 7), (17, 9)] M M') {i1 : Int32} {i2 : Int32} {M : Mem} (hf : b3_await_17  rc n i1 i2 M = some (r, M')) : Fq CSX [(17, 6), (17, 7), (17, 9)] M M' := by
  unfold b3_await_17 at hf
  obtain ⟨r7, M8, g1, hf⟩ := bnd_s hf
  refine Fq.trans (Fq.mono (fq3_add  g1) (by decide)) ?_
  exact fqb3_await_23  hrc hf
theorem fqb3_await_0   {rc : Nat → List Int32 → List Int64 → Mem → Option (Int32 × Mem)} {n : Nat} {r : Int32} {M' : Mem} (hrc : ∀ pc li lj M, rc pc li lj M = some (r, M') → Fq CSX [(17, 6), (17, 7), (17, 9)] M M') {a1 : Int32} {a2 : Int32} {M : Mem} (hf : b3_await_0  rc n a1 a2 M = some (r, M')) : Fq CSX [(17, 6), (17, 7), (17, 9)] M M' := by
  unfold b3_await_0 at hf
  obtain ⟨r1, M2, g1, hf⟩ := bnd_s hf
  refine Fq.trans (Fq.mono (fq3_push  g1) (by decide)) ?_
  by_cases c2 : a1 = (11 : Int32)
  · replace hf := ite_t c2 hf
    exact fqb3_await_17  hrc hf
  · replace hf := ite_f c2 hf
    by_cases c3 : a1 = (12 : Int32)
    · replace hf := ite_t c3 hf
      exact fqb3_await_17  hrc hf
    · replace hf := ite_f c3 hf
      exact fqb3_await_23  hrc hf
theorem fq3_await   {n : Nat} {a1 : Int32} {a2 : Int32} {M M' : Mem} {r : Int32} (hf : f3_await n  a1 a2 M = some (r, M')) : Fq CSX [(17, 6), (17, 7), (17, 9)] M M' := fqb3_await_0  (fun _ _ _ _ h => by cases h) hf
theorem fqb3_isComparison_16   {rc : Nat → List Int32 → List Int64 → Mem → Option (Int32 × Mem)} {n : Nat} {r : Int32} {M' : Mem} (hrc : ∀ pc li lj M, rc pc li lj M = some (r, M') → Fq CSX [] M M')  {M : Mem} (hf : b3_isComparison_16  rc n  M = some (r, M')) : Fq CSX [] M M' := by
  unfold b3_isComparison_16 at hf
  exact Fq.of hf
theorem fqb3_isComparison_0   {rc : Nat → List Int32 → List Int64 → Mem → Option (Int32 × Mem)} {n : Nat} {r : Int32} {M' : Mem} (hrc : ∀ pc li lj M, rc pc li lj M = some (r, M') → Fq CSX [] M M') {a0 : Int32} {M : Mem} (hf : b3_isComparison_0  rc n a0 M = some (r, M')) : Fq CSX [] M M' := by
  unfold b3_isComparison_0 at hf
  by_cases c1 : a0 < (7 : Int32)
  · replace hf := ite_t c1 hf
    exact fqb3_isComparison_16  hrc hf
  · replace hf := ite_f c1 hf
    by_cases c2 : (9 : Int32) < a0
    · replace hf := ite_t c2 hf
      exact fqb3_isComparison_16  hrc hf
    · replace hf := ite_f c2 hf
      exact Fq.of hf
theorem fq3_isComparison   {n : Nat} {a0 : Int32} {M M' : Mem} {r : Int32} (hf : f3_isComparison n  a0 M = some (r, M')) : Fq CSX [] M M' := fqb3_isComparison_0  (fun _ _ _ _ h => by cases h) hf
theorem fqb3_close_0   {rc : Nat → List Int32 → List Int64 → Mem → Option (Int32 × Mem)} {n : Nat} {r : Int32} {M' : Mem} (hrc : ∀ pc li lj M, rc pc li lj M = some (r, M') → Fq CSX [(17, 7), (17, 8), (17, 9)] M M') {a1 : Int32} {M : Mem} (hf : b3_close_0  rc n a1 M = some (r, M')) : Fq CSX [(17, 7), (17, 8), (17, 9)] M M' := by
  unfold b3_close_0 at hf
  obtain ⟨M1, eM1, hf⟩ := lt_x hf
  refine Fq_wI eM1 (by decide) ?_
  obtain ⟨M2, eM2, hf⟩ := lt_x hf
  refine Fq_wI eM2 (by decide) ?_
  obtain ⟨M3, eM3, hf⟩ := lt_x hf
  refine Fq_wI eM3 (by decide) ?_
  exact Fq.of hf
theorem fq3_close   {n : Nat} {a1 : Int32} {M M' : Mem} {r : Int32} (hf : f3_close n  a1 M = some (r, M')) : Fq CSX [(17, 7), (17, 8), (17, 9)] M M' := fqb3_close_0  (fun _ _ _ _ h => by cases h) hf
theorem fqb3_goOnBehindTest_25   {rc : Nat → List Int32 → List Int64 → Mem → Option (Int32 × Mem)} {n : Nat} {r : Int32} {M' : Mem} (hrc : ∀ pc li lj M, rc pc li lj M = some (r, M') → Fq CSX [(17, 5), (17, 6), (17, 7), (17, 8), (17, 9)] M M') {s0 : Int32} {M : Mem} (hf : b3_goOnBehindTest_25  rc n s0 M = some (r, M')) : Fq CSX [(17, 5), (17, 6), (17, 7), (17, 8), (17, 9)] M M' := by
  unfold b3_goOnBehindTest_25 at hf
  replace hf := chk_2 hf
  obtain ⟨r23, M24, g1, hf⟩ := bnd_s hf
  refine Fq.trans (Fq.mono (fq3_settle  g1) (by decide)) ?_
  obtain ⟨r26, M27, g2, hf⟩ := bnd_s hf
  refine Fq.trans (Fq.mono (fq3_await  g2) (by decide)) ?_
  exact Fq.of hf
theorem fqb3_goOnBehindTest_12   {rc : Nat → List Int32 → List Int64 → Mem → Option (Int32 × Mem)} {n : Nat} {r : Int32} {M' : Mem} (hrc : ∀ pc li lj M, rc pc li lj M = some (r, M') → Fq CSX [(17, 5), (17, 6), (17, 7), (17, 8), (17, 9)] M M') {i1 : Int32} {M : Mem} (hf : b3_goOnBehindTest_12  rc n i1 M = some (r, M')) : Fq CSX [(17, 5), (17, 6), (17, 7), (17, 8), (17, 9)] M M' := by
  unfold b3_goOnBehindTest_12 at hf
  by_cases c1 : i1 = (38 : Int32)
  · replace hf := ite_t c1 hf
    exact fqb3_goOnBehindTest_25  hrc hf
  · replace hf := ite_f c1 hf
    exact fqb3_goOnBehindTest_25  hrc hf
theorem fqb3_goOnBehindTest_134   {rc : Nat → List Int32 → List Int64 → Mem → Option (Int32 × Mem)} {n : Nat} {r : Int32} {M' : Mem} (hrc : ∀ pc li lj M, rc pc li lj M = some (r, M') → Fq CSX [(17, 5), (17, 6), (17, 7), (17, 8), (17, 9)] M M')  {M : Mem} (hf : b3_goOnBehindTest_134  rc n  M = some (r, M')) : Fq CSX [(17, 5), (17, 6), (17, 7), (17, 8), (17, 9)] M M' := by
  unfold b3_goOnBehindTest_134 at hf
  exact Fq.of hf
theorem fqb3_goOnBehindTest_87   {rc : Nat → List Int32 → List Int64 → Mem → Option (Int32 × Mem)} {n : Nat} {r : Int32} {M' : Mem} (hrc : ∀ pc li lj M, rc pc li lj M = some (r, M') → Fq CSX [(17, 5), (17, 6), (17, 7), (17, 8), (17, 9)] M M') {s1 : Int32} {M : Mem} (hf : b3_goOnBehindTest_87  rc n s1 M = some (r, M')) : Fq CSX [(17, 5), (17, 6), (17, 7), (17, 8), (17, 9)] M M' := by
  unfold b3_goOnBehindTest_87 at hf
  obtain ⟨r13, M14, g1, hf⟩ := bnd_s hf
  refine Fq.trans (Fq.mono (fq3_close  g1) (by decide)) ?_
  by_cases c2 : (M14.1 17 9) = (7 : Int32)
  · replace hf := ite_t c2 hf
    by_cases c3 : (16 : Int32) ≤ (M14.1 17 5)
    · replace hf := ite_t c3 hf
      exact fqb3_goOnBehindTest_134  hrc hf
    · replace hf := ite_f c3 hf
      obtain ⟨M18, eM18, hf⟩ := lt_x hf
      refine Fq_wI eM18 (by decide) ?_
      replace hf := chk_2 hf
      obtain ⟨M20, eM20, hf⟩ := lt_x hf
      refine Fq_wIn eM20 (by decide) ?_
      exact fqb3_goOnBehindTest_134  hrc hf
  · replace hf := ite_f c2 hf
    exact fqb3_goOnBehindTest_134  hrc hf
theorem fqb3_goOnBehindTest_0   {rc : Nat → List Int32 → List Int64 → Mem → Option (Int32 × Mem)} {n : Nat} {r : Int32} {M' : Mem} (hrc : ∀ pc li lj M, rc pc li lj M = some (r, M') → Fq CSX [(17, 5), (17, 6), (17, 7), (17, 8), (17, 9)] M M') {a1 : Int32} {M : Mem} (hf : b3_goOnBehindTest_0  rc n a1 M = some (r, M')) : Fq CSX [(17, 5), (17, 6), (17, 7), (17, 8), (17, 9)] M M' := by
  unfold b3_goOnBehindTest_0 at hf
  by_cases c1 : a1 = (38 : Int32)
  · replace hf := ite_t c1 hf
    exact fqb3_goOnBehindTest_12  hrc hf
  · replace hf := ite_f c1 hf
    by_cases c2 : a1 = (124 : Int32)
    · replace hf := ite_t c2 hf
      exact fqb3_goOnBehindTest_12  hrc hf
    · replace hf := ite_f c2 hf
      by_cases c3 : a1 = (41 : Int32)
      · replace hf := ite_t c3 hf
        replace hf := chk_2 hf
        obtain ⟨r5, M6, g4, hf⟩ := bnd_s hf
        refine Fq.trans (Fq.mono (fq3_settle  g4) (by decide)) ?_
        obtain ⟨r8, M9, g5, hf⟩ := bnd_s hf
        refine Fq.trans (Fq.mono (fq3_innermost  g5) (by decide)) ?_
        by_cases c6 : r8 = (13 : Int32)
        · replace hf := ite_t c6 hf
          by_cases c7 : (M9.1 17 7) ≤ (1 : Int32)
          · replace hf := ite_t c7 hf
            exact fqb3_goOnBehindTest_87  hrc hf
          · replace hf := ite_f c7 hf
            exact fqb3_goOnBehindTest_87  hrc hf
        · replace hf := ite_f c6 hf
          exact Fq.of hf
      · replace hf := ite_f c3 hf
        exact Fq.of hf
theorem fq3_goOnBehindTest   {n : Nat} {a1 : Int32} {M M' : Mem} {r : Int32} (hf : f3_goOnBehindTest n  a1 M = some (r, M')) : Fq CSX [(17, 5), (17, 6), (17, 7), (17, 8), (17, 9)] M M' := fqb3_goOnBehindTest_0  (fun _ _ _ _ h => by cases h) hf
theorem fqb3_endRule_0   {rc : Nat → List Int32 → List Int64 → Mem → Option (Int32 × Mem)} {n : Nat} {r : Int32} {M' : Mem} (hrc : ∀ pc li lj M, rc pc li lj M = some (r, M') → Fq CSX [(17, 9)] M M') {a1 : Int32} {M : Mem} (hf : b3_endRule_0  rc n a1 M = some (r, M')) : Fq CSX [(17, 9)] M M' := by
  unfold b3_endRule_0 at hf
  by_cases c1 : a1 = (59 : Int32)
  · replace hf := ite_t c1 hf
    obtain ⟨M2, eM2, hf⟩ := lt_x hf
    refine Fq_wI eM2 (by decide) ?_
    exact Fq.of hf
  · replace hf := ite_f c1 hf
    exact Fq.of hf
theorem fq3_endRule   {n : Nat} {a1 : Int32} {M M' : Mem} {r : Int32} (hf : f3_endRule n  a1 M = some (r, M')) : Fq CSX [(17, 9)] M M' := fqb3_endRule_0  (fun _ _ _ _ h => by cases h) hf
theorem fqb11_faultAt_0   {rc : Nat → List Int32 → List Int64 → Mem → Option (Int32 × Mem)} {n : Nat} {r : Int32} {M' : Mem} (hrc : ∀ pc li lj M, rc pc li lj M = some (r, M') → Fq CSX [] M M') {a0 : Int32} {a1 : Int32} {M : Mem} (hf : b11_faultAt_0  rc n a0 a1 M = some (r, M')) : Fq CSX [] M M' := by
  unfold b11_faultAt_0 at hf
  exact Fq.of hf
theorem fq11_faultAt   {n : Nat} {a0 : Int32} {a1 : Int32} {M M' : Mem} {r : Int32} (hf : f11_faultAt n  a0 a1 M = some (r, M')) : Fq CSX [] M M' := fqb11_faultAt_0  (fun _ _ _ _ h => by cases h) hf
theorem fqb4_drop_0 {k0 : Nat} (hv0 : k0 ∉ CSX) {rc : Nat → List Int32 → List Int64 → Mem → Option (Unit × Mem)} {n : Nat} {r : Unit} {M' : Mem} (hrc : ∀ pc li lj M, rc pc li lj M = some (r, M') → Fq CSX [] M M') {a1 : Int32} {M : Mem} (hf : b4_drop_0 k0 rc n a1 M = some (r, M')) : Fq CSX [] M M' := by
  unfold b4_drop_0 at hf
  by_cases c1 : (48 : Int32) ≤ a1
  · replace hf := ite_t c1 hf
    obtain ⟨M2, eM2, hf⟩ := lt_x hf
    refine Fq_wJ eM2 ?_
    exact Fq.of hf
  · replace hf := ite_f c1 hf
    obtain ⟨M3, eM3, hf⟩ := lt_x hf
    refine Fq_wJ eM3 ?_
    exact Fq.of hf
theorem fq4_drop {k0 : Nat} (hv0 : k0 ∉ CSX) {n : Nat} {a1 : Int32} {M M' : Mem} {r : Unit} (hf : f4_drop n k0 a1 M = some (r, M')) : Fq CSX [] M M' := fqb4_drop_0 hv0 (fun _ _ _ _ h => by cases h) hf
theorem fqb4_meet_0 {k0 : Nat} {k1 : Nat} (hv0 : k0 ∉ CSX) {rc : Nat → List Int32 → List Int64 → Mem → Option (Unit × Mem)} {n : Nat} {r : Unit} {M' : Mem} (hrc : ∀ pc li lj M, rc pc li lj M = some (r, M') → Fq CSX [] M M')  {M : Mem} (hf : b4_meet_0 k0 k1 rc n  M = some (r, M')) : Fq CSX [] M M' := by
  unfold b4_meet_0 at hf
  obtain ⟨M1, eM1, hf⟩ := lt_x hf
  refine Fq_wJ eM1 ?_
  obtain ⟨M2, eM2, hf⟩ := lt_x hf
  refine Fq_wJ eM2 ?_
  exact Fq.of hf
theorem fq4_meet {k0 : Nat} {k1 : Nat} (hv0 : k0 ∉ CSX) {n : Nat}  {M M' : Mem} {r : Unit} (hf : f4_meet n k0 k1  M = some (r, M')) : Fq CSX [] M M' := fqb4_meet_0 hv0 (fun _ _ _ _ h => by cases h) hf
theorem fqb4_flood_60 {k0 : Nat} {k1 : Nat} (hv0 : k0 ∉ CSX) {rc : Nat → List Int32 → List Int64 → Mem → Option (Unit × Mem)} {n : Nat} {r : Unit} {M' : Mem} (hrc : ∀ pc li lj M, rc pc li lj M = some (r, M') → Fq CSX [] M M') {i3 : Int32} {s0 : Int32} {M : Mem} (hf : b4_flood_60 k0 k1 rc n i3 s0 M = some (r, M')) : Fq CSX [] M M' := by
  unfold b4_flood_60 at hf
  obtain ⟨v13, ev13, hf⟩ := lt_x hf
  exact hrc _ _ _ _ hf
theorem fqb4_flood_55 {k0 : Nat} {k1 : Nat} (hv0 : k0 ∉ CSX) {rc : Nat → List Int32 → List Int64 → Mem → Option (Unit × Mem)} {n : Nat} {r : Unit} {M' : Mem} (hrc : ∀ pc li lj M, rc pc li lj M = some (r, M') → Fq CSX [] M M') {i3 : Int32} {M : Mem} (hf : b4_flood_55 k0 k1 rc n i3 M = some (r, M')) : Fq CSX [] M M' := by
  unfold b4_flood_55 at hf
  exact fqb4_flood_60 hv0 hrc hf
theorem fqb4_flood_4 {k0 : Nat} {k1 : Nat} (hv0 : k0 ∉ CSX) {rc : Nat → List Int32 → List Int64 → Mem → Option (Unit × Mem)} {n : Nat} {r : Unit} {M' : Mem} (hrc : ∀ pc li lj M, rc pc li lj M = some (r, M') → Fq CSX [] M M') {i2 : Int32} {i3 : Int32} {M : Mem} (hf : b4_flood_4 k0 k1 rc n i2 i3 M = some (r, M')) : Fq CSX [] M M' := by
  unfold b4_flood_4 at hf
  by_cases c1 : (96 : Int32) ≤ i3
  · replace hf := ite_t c1 hf
    exact Fq.of hf
  · replace hf := ite_f c1 hf
    by_cases c2 : i2 = 0
    · replace hf := ite_t c2 hf
      exact Fq.of hf
    · replace hf := ite_f c2 hf
      obtain ⟨v3, ev3, hf⟩ := lt_x hf
      obtain ⟨v4, ev4, hf⟩ := lt_x hf
      obtain ⟨r5, M6, g3, hf⟩ := bnd_s hf
      refine Fq.trans (Fq.mono (fq4_grow hv0 g3) (by decide)) ?_
      obtain ⟨r8, M9, g4, hf⟩ := bnd_s hf
      refine Fq.trans (Fq.mono (fq4_meet hv0 g4) (by decide)) ?_
      by_cases c5 : (lg_cmp v3 (M9.2 k0 0)) = 0
      · replace hf := ite_t c5 hf
        by_cases c6 : (lg_cmp v4 (M9.2 k0 1)) = 0
        · replace hf := ite_t c6 hf
          exact fqb4_flood_60 hv0 hrc hf
        · replace hf := ite_f c6 hf
          exact fqb4_flood_55 hv0 hrc hf
      · replace hf := ite_f c5 hf
        exact fqb4_flood_55 hv0 hrc hf
theorem fqb4_flood_0 {k0 : Nat} {k1 : Nat} (hv0 : k0 ∉ CSX) {rc : Nat → List Int32 → List Int64 → Mem → Option (Unit × Mem)} {n : Nat} {r : Unit} {M' : Mem} (hrc : ∀ pc li lj M, rc pc li lj M = some (r, M') → Fq CSX [] M M')  {M : Mem} (hf : b4_flood_0 k0 k1 rc n  M = some (r, M')) : Fq CSX [] M M' := by
  unfold b4_flood_0 at hf
  exact fqb4_flood_4 hv0 hrc hf
theorem fql4_flood {k0 : Nat} {k1 : Nat} (hv0 : k0 ∉ CSX) {r : Unit} {M' : Mem} (n : Nat) : ∀ pc li lj M, r4_flood k0 k1 n pc li lj M = some (r, M') → Fq CSX [] M M' := by
  induction n with
  | zero => intro pc li lj M hf; cases hf
  | succ n ih =>
    intro pc li lj M hf
    rw [r4_flood] at hf
    dsimp only at hf
    by_cases c4 : pc = 4
    · replace hf := ite_t c4 hf
      split at hf
      · exact fqb4_flood_4 hv0 ih hf
      · cases hf
    replace hf := ite_f c4 hf
    cases hf
theorem fq4_flood {k0 : Nat} {k1 : Nat} (hv0 : k0 ∉ CSX) {n : Nat}  {M M' : Mem} {r : Unit} (hf : f4_flood n k0 k1  M = some (r, M')) : Fq CSX [] M M' := fqb4_flood_0 hv0 (fql4_flood hv0 n) hf
theorem fqb4_sizeWith_0 {k0 : Nat} {k1 : Nat}  {rc : Nat → List Int32 → List Int64 → Mem → Option (Int32 × Mem)} {n : Nat} {r : Int32} {M' : Mem} (hrc : ∀ pc li lj M, rc pc li lj M = some (r, M') → Fq CSX [] M M')  {M : Mem} (hf : b4_sizeWith_0 k0 k1 rc n  M = some (r, M')) : Fq CSX [] M M' := by
  unfold b4_sizeWith_0 at hf
  obtain ⟨r1, M2, g1, hf⟩ := bnd_s hf
  refine Fq.trans (Fq.mono (fqZJ13_bitCount_95d88  g1) (by decide)) ?_
  obtain ⟨r4, M5, g2, hf⟩ := bnd_s hf
  refine Fq.trans (Fq.mono (fqZJ13_bitCount_95d88  g2) (by decide)) ?_
  exact Fq.of hf
theorem fq4_sizeWith {k0 : Nat} {k1 : Nat}  {n : Nat}  {M M' : Mem} {r : Int32} (hf : f4_sizeWith n k0 k1  M = some (r, M')) : Fq CSX [] M M' := fqb4_sizeWith_0  (fun _ _ _ _ h => by cases h) hf
theorem fqb5_placeOf_0   {rc : Nat → List Int32 → List Int64 → Mem → Option (Int32 × Mem)} {n : Nat} {r : Int32} {M' : Mem} (hrc : ∀ pc li lj M, rc pc li lj M = some (r, M') → Fq CSX [] M M') {a1 : Int32} {M : Mem} (hf : b5_placeOf_0  rc n a1 M = some (r, M')) : Fq CSX [] M M' := by
  unfold b5_placeOf_0 at hf
  by_cases c1 : a1 = 0
  · replace hf := ite_t c1 hf
    exact Fq.of hf
  · replace hf := ite_f c1 hf
    replace hf := chk_2 hf
    exact Fq.of hf
theorem fq5_placeOf   {n : Nat} {a1 : Int32} {M M' : Mem} {r : Int32} (hf : f5_placeOf n  a1 M = some (r, M')) : Fq CSX [] M M' := fqb5_placeOf_0  (fun _ _ _ _ h => by cases h) hf
theorem fqb8_spread_137 {k0 : Nat} (hv0 : k0 ∉ CSX) {rc : Nat → List Int32 → List Int64 → Mem → Option (Unit × Mem)} {n : Nat} {r : Unit} {M' : Mem} (hrc : ∀ pc li lj M, rc pc li lj M = some (r, M') → Fq CSX [] M M') {i2 : Int32} {i4 : Int32} {i5 : Int32} {i6 : Int32} {i7 : Int32} {M : Mem} (hf : b8_spread_137 k0 rc n i2 i4 i5 i6 i7 M = some (r, M')) : Fq CSX [] M M' := by
  unfold b8_spread_137 at hf
  obtain ⟨v37, ev37, hf⟩ := lt_x hf
  exact hrc _ _ _ _ hf
theorem fqb8_spread_69 {k0 : Nat} (hv0 : k0 ∉ CSX) {rc : Nat → List Int32 → List Int64 → Mem → Option (Unit × Mem)} {n : Nat} {r : Unit} {M' : Mem} (hrc : ∀ pc li lj M, rc pc li lj M = some (r, M') → Fq CSX [] M M') {i2 : Int32} {i4 : Int32} {i5 : Int32} {i6 : Int32} {i7 : Int32} {M : Mem} (hf : b8_spread_69 k0 rc n i2 i4 i5 i6 i7 M = some (r, M')) : Fq CSX [] M M' := by
  unfold b8_spread_69 at hf
  by_cases c1 : (4 : Int32) ≤ i7
  · replace hf := ite_t c1 hf
    obtain ⟨v19, ev19, hf⟩ := lt_x hf
    exact hrc _ _ _ _ hf
  · replace hf := ite_f c1 hf
    obtain ⟨r20, M21, g2, hf⟩ := bnd_s hf
    refine Fq.trans (Fq.mono (fq11_beside  g2) (by decide)) ?_
    by_cases c3 : r20 < 0
    · replace hf := ite_t c3 hf
      exact fqb8_spread_137 hv0 hrc hf
    · replace hf := ite_f c3 hf
      obtain ⟨r24, M25, g4, hf⟩ := bnd_s hf
      refine Fq.trans (Fq.mono (fq8_kindOf  g4) (by decide)) ?_
      by_cases c5 : r24 < i2
      · replace hf := ite_t c5 hf
        exact fqb8_spread_137 hv0 hrc hf
      · replace hf := ite_f c5 hf
        have h6 := chk_1 hf
        replace hf := chk_2 hf
        by_cases c7 : (M25.1 k0 r20.toNatClampNeg) = (99 : Int32)
        · replace hf := ite_t c7 hf
          by_cases c8 : (96 : Int32) ≤ i4
          · replace hf := ite_t c8 hf
            exact fqb8_spread_137 hv0 hrc hf
          · replace hf := ite_f c8 hf
            have h9 := chk_1 hf
            replace hf := chk_2 hf
            have h10 := chk_1 hf
            replace hf := chk_2 hf
            obtain ⟨M33, eM33, hf⟩ := lt_x hf
            refine Fq_wIn eM33 hv0 ?_
            have h11 := chk_1 hf
            replace hf := chk_2 hf
            obtain ⟨M35, eM35, hf⟩ := lt_x hf
            refine Fq_wIn eM35 (by decide) ?_
            obtain ⟨v36, ev36, hf⟩ := lt_x hf
            exact fqb8_spread_137 hv0 hrc hf
        · replace hf := ite_f c7 hf
          exact fqb8_spread_137 hv0 hrc hf
theorem fqb8_spread_43 {k0 : Nat} (hv0 : k0 ∉ CSX) {rc : Nat → List Int32 → List Int64 → Mem → Option (Unit × Mem)} {n : Nat} {r : Unit} {M' : Mem} (hrc : ∀ pc li lj M, rc pc li lj M = some (r, M') → Fq CSX [] M M') {i2 : Int32} {i4 : Int32} {i5 : Int32} {M : Mem} (hf : b8_spread_43 k0 rc n i2 i4 i5 M = some (r, M')) : Fq CSX [] M M' := by
  unfold b8_spread_43 at hf
  by_cases c1 : i4 ≤ i5
  · replace hf := ite_t c1 hf
    exact Fq.of hf
  · replace hf := ite_f c1 hf
    by_cases c2 : (96 : Int32) ≤ i5
    · replace hf := ite_t c2 hf
      exact Fq.of hf
    · replace hf := ite_f c2 hf
      have h3 := chk_1 hf
      replace hf := chk_2 hf
      obtain ⟨v17, ev17, hf⟩ := lt_x hf
      exact fqb8_spread_69 hv0 hrc hf
theorem fqb8_spread_0 {k0 : Nat} (hv0 : k0 ∉ CSX) {rc : Nat → List Int32 → List Int64 → Mem → Option (Unit × Mem)} {n : Nat} {r : Unit} {M' : Mem} (hrc : ∀ pc li lj M, rc pc li lj M = some (r, M') → Fq CSX [] M M') {a1 : Int32} {a2 : Int32} {M : Mem} (hf : b8_spread_0 k0 rc n a1 a2 M = some (r, M')) : Fq CSX [] M M' := by
  unfold b8_spread_0 at hf
  obtain ⟨r1, M2, g1, hf⟩ := bnd_s hf
  refine Fq.trans (Fq.mono (fqZJ7_fill_53178 hv0 g1) (by decide)) ?_
  by_cases c2 : a1 < 0
  · replace hf := ite_t c2 hf
    exact Fq.of hf
  · replace hf := ite_f c2 hf
    by_cases c3 : (96 : Int32) ≤ a1
    · replace hf := ite_t c3 hf
      exact Fq.of hf
    · replace hf := ite_f c3 hf
      obtain ⟨r6, M7, g4, hf⟩ := bnd_s hf
      refine Fq.trans (Fq.mono (fq8_kindOf  g4) (by decide)) ?_
      by_cases c5 : a2 ≤ r6
      · replace hf := ite_t c5 hf
        have h6 := chk_1 hf
        replace hf := chk_2 hf
        obtain ⟨M11, eM11, hf⟩ := lt_x hf
        refine Fq_wIn eM11 hv0 ?_
        have h7 := chk_1 hf
        replace hf := chk_2 hf
        obtain ⟨M13, eM13, hf⟩ := lt_x hf
        refine Fq_wIn eM13 (by decide) ?_
        exact fqb8_spread_43 hv0 hrc hf
      · replace hf := ite_f c5 hf
        exact Fq.of hf
theorem fql8_spread {k0 : Nat} (hv0 : k0 ∉ CSX) {r : Unit} {M' : Mem} (n : Nat) : ∀ pc li lj M, r8_spread k0 n pc li lj M = some (r, M') → Fq CSX [] M M' := by
  induction n with
  | zero => intro pc li lj M hf; cases hf
  | succ n ih =>
    intro pc li lj M hf
    rw [r8_spread] at hf
    dsimp only at hf
    by_cases c43 : pc = 43
    · replace hf := ite_t c43 hf
      split at hf
      · exact fqb8_spread_43 hv0 ih hf
      · cases hf
    replace hf := ite_f c43 hf
    by_cases c69 : pc = 69
    · replace hf := ite_t c69 hf
      split at hf
      · exact fqb8_spread_69 hv0 ih hf
      · cases hf
    replace hf := ite_f c69 hf
    cases hf
theorem fq8_spread {k0 : Nat} (hv0 : k0 ∉ CSX) {n : Nat} {a1 : Int32} {a2 : Int32} {M M' : Mem} {r : Unit} (hf : f8_spread n k0 a1 a2 M = some (r, M')) : Fq CSX [] M M' := fqb8_spread_0 hv0 (fql8_spread hv0 n) hf
theorem fqb5_measure_64   {rc : Nat → List Int32 → List Int64 → Mem → Option (Unit × Mem)} {n : Nat} {r : Unit} {M' : Mem} (hrc : ∀ pc li lj M, rc pc li lj M = some (r, M') → Fq CSX [] M M') {i1 : Int32} {i2 : Int32} {s1 : Int32} {s2 : Int32} {M : Mem} (hf : b5_measure_64  rc n i1 i2 s1 s2 M = some (r, M')) : Fq CSX [] M M' := by
  unfold b5_measure_64 at hf
  replace hf := chk_2 hf
  obtain ⟨M16, eM16, hf⟩ := lt_x hf
  refine Fq_wIn eM16 (by decide) ?_
  obtain ⟨v17, ev17, hf⟩ := lt_x hf
  exact hrc _ _ _ _ hf
theorem fqb5_measure_27   {rc : Nat → List Int32 → List Int64 → Mem → Option (Unit × Mem)} {n : Nat} {r : Unit} {M' : Mem} (hrc : ∀ pc li lj M, rc pc li lj M = some (r, M') → Fq CSX [] M M') {i1 : Int32} {i2 : Int32} {M : Mem} (hf : b5_measure_27  rc n i1 i2 M = some (r, M')) : Fq CSX [] M M' := by
  unfold b5_measure_27 at hf
  by_cases c1 : (10 : Int32) ≤ i2
  · replace hf := ite_t c1 hf
    obtain ⟨v9, ev9, hf⟩ := lt_x hf
    exact hrc _ _ _ _ hf
  · replace hf := ite_f c1 hf
    obtain ⟨r10, M11, g2, hf⟩ := bnd_s hf
    refine Fq.trans (Fq.mono (fq5_placeOf  g2) (by decide)) ?_
    by_cases c3 : 0 ≤ r10
    · replace hf := ite_t c3 hf
      have h4 := chk_1 hf
      replace hf := chk_2 hf
      exact fqb5_measure_64  hrc hf
    · replace hf := ite_f c3 hf
      exact fqb5_measure_64  hrc hf
theorem fqb5_measure_2   {rc : Nat → List Int32 → List Int64 → Mem → Option (Unit × Mem)} {n : Nat} {r : Unit} {M' : Mem} (hrc : ∀ pc li lj M, rc pc li lj M = some (r, M') → Fq CSX [] M M') {i1 : Int32} {M : Mem} (hf : b5_measure_2  rc n i1 M = some (r, M')) : Fq CSX [] M M' := by
  unfold b5_measure_2 at hf
  by_cases c1 : (10 : Int32) ≤ i1
  · replace hf := ite_t c1 hf
    exact Fq.of hf
  · replace hf := ite_f c1 hf
    obtain ⟨r2, M3, g2, hf⟩ := bnd_s hf
    refine Fq.trans (Fq.mono (fq5_placeOf  g2) (by decide)) ?_
    obtain ⟨r5, M6, g3, hf⟩ := bnd_s hf
    refine Fq.trans (Fq.mono (fq8_spread (by decide) g3) (by decide)) ?_
    exact fqb5_measure_27  hrc hf
theorem fqb5_measure_0   {rc : Nat → List Int32 → List Int64 → Mem → Option (Unit × Mem)} {n : Nat} {r : Unit} {M' : Mem} (hrc : ∀ pc li lj M, rc pc li lj M = some (r, M') → Fq CSX [] M M')  {M : Mem} (hf : b5_measure_0  rc n  M = some (r, M')) : Fq CSX [] M M' := by
  unfold b5_measure_0 at hf
  exact fqb5_measure_2  hrc hf
theorem fql5_measure   {r : Unit} {M' : Mem} (n : Nat) : ∀ pc li lj M, r5_measure  n pc li lj M = some (r, M') → Fq CSX [] M M' := by
  induction n with
  | zero => intro pc li lj M hf; cases hf
  | succ n ih =>
    intro pc li lj M hf
    rw [r5_measure] at hf
    dsimp only at hf
    by_cases c2 : pc = 2
    · replace hf := ite_t c2 hf
      split at hf
      · exact fqb5_measure_2  ih hf
      · cases hf
    replace hf := ite_f c2 hf
    by_cases c27 : pc = 27
    · replace hf := ite_t c27 hf
      split at hf
      · exact fqb5_measure_27  ih hf
      · cases hf
    replace hf := ite_f c27 hf
    cases hf
theorem fq5_measure   {n : Nat}  {M M' : Mem} {r : Unit} (hf : f5_measure n   M = some (r, M')) : Fq CSX [] M M' := fqb5_measure_0  (fql5_measure  n) hf
theorem fqb5_isTold_0   {rc : Nat → List Int32 → List Int64 → Mem → Option (Int32 × Mem)} {n : Nat} {r : Int32} {M' : Mem} (hrc : ∀ pc li lj M, rc pc li lj M = some (r, M') → Fq CSX [] M M') {a1 : Int32} {M : Mem} (hf : b5_isTold_0  rc n a1 M = some (r, M')) : Fq CSX [] M M' := by
  unfold b5_isTold_0 at hf
  by_cases c1 : ((a1 <<< ((1 : Int32) &&& 31)) &&& ((M.1 3 8) ^^^ (-1 : Int32))) = 0
  · replace hf := ite_t c1 hf
    exact Fq.of hf
  · replace hf := ite_f c1 hf
    exact Fq.of hf
theorem fq5_isTold   {n : Nat} {a1 : Int32} {M M' : Mem} {r : Int32} (hf : f5_isTold n  a1 M = some (r, M')) : Fq CSX [] M M' := fqb5_isTold_0  (fun _ _ _ _ h => by cases h) hf
theorem fqbZJ6_bitCount_0f7a4_0   {rc : Nat → List Int32 → List Int64 → Mem → Option (Int32 × Mem)} {n : Nat} {r : Int32} {M' : Mem} (hrc : ∀ pc li lj M, rc pc li lj M = some (r, M') → Fq CSX [] M M') {a0 : Int32} {M : Mem} (hf : bZJ6_bitCount_0f7a4_0  rc n a0 M = some (r, M')) : Fq CSX [] M M' := by
  unfold bZJ6_bitCount_0f7a4_0 at hf
  obtain ⟨v1, ev1, hf⟩ := lt_x hf
  obtain ⟨v2, ev2, hf⟩ := lt_x hf
  obtain ⟨v3, ev3, hf⟩ := lt_x hf
  obtain ⟨v4, ev4, hf⟩ := lt_x hf
  obtain ⟨v5, ev5, hf⟩ := lt_x hf
  exact Fq.of hf
theorem fqZJ6_bitCount_0f7a4   {n : Nat} {a0 : Int32} {M M' : Mem} {r : Int32} (hf : fZJ6_bitCount_0f7a4 n  a0 M = some (r, M')) : Fq CSX [] M M' := fqbZJ6_bitCount_0f7a4_0  (fun _ _ _ _ h => by cases h) hf
theorem fqb5_bestRow_15   {rc : Nat → List Int32 → List Int64 → Mem → Option (Int64 × Mem)} {n : Nat} {r : Int64} {M' : Mem} (hrc : ∀ pc li lj M, rc pc li lj M = some (r, M') → Fq CSX [] M M') {i2 : Int32} {M : Mem} (hf : b5_bestRow_15  rc n i2 M = some (r, M')) : Fq CSX [] M M' := by
  unfold b5_bestRow_15 at hf
  replace hf := chk_2 hf
  exact Fq.of hf
theorem fqb5_bestRow_119   {rc : Nat → List Int32 → List Int64 → Mem → Option (Int64 × Mem)} {n : Nat} {r : Int64} {M' : Mem} (hrc : ∀ pc li lj M, rc pc li lj M = some (r, M') → Fq CSX [] M M') {i1 : Int32} {i2 : Int32} {i3 : Int32} {i6 : Int32} {j4 : Int64} {M : Mem} (hf : b5_bestRow_119  rc n i1 i2 i3 i6 j4 M = some (r, M')) : Fq CSX [] M M' := by
  unfold b5_bestRow_119 at hf
  obtain ⟨v14, ev14, hf⟩ := lt_x hf
  exact hrc _ _ _ _ hf
theorem fqb5_bestRow_38   {rc : Nat → List Int32 → List Int64 → Mem → Option (Int64 × Mem)} {n : Nat} {r : Int64} {M' : Mem} (hrc : ∀ pc li lj M, rc pc li lj M = some (r, M') → Fq CSX [] M M') {i1 : Int32} {i2 : Int32} {i3 : Int32} {i6 : Int32} {j4 : Int64} {M : Mem} (hf : b5_bestRow_38  rc n i1 i2 i3 i6 j4 M = some (r, M')) : Fq CSX [] M M' := by
  unfold b5_bestRow_38 at hf
  by_cases c1 : (10 : Int32) ≤ i6
  · replace hf := ite_t c1 hf
    exact Fq.of hf
  · replace hf := ite_f c1 hf
    obtain ⟨v7, ev7, hf⟩ := lt_x hf
    by_cases c2 : (i1 &&& v7) = 0
    · replace hf := ite_t c2 hf
      exact fqb5_bestRow_119  hrc hf
    · replace hf := ite_f c2 hf
      replace hf := chk_2 hf
      replace hf := chk_2 hf
      obtain ⟨v11, ev11, hf⟩ := lt_x hf
      replace hf := chk_2 hf
      obtain ⟨v13, ev13, hf⟩ := lt_x hf
      exact fqb5_bestRow_119  hrc hf
theorem fqb5_bestRow_0   {rc : Nat → List Int32 → List Int64 → Mem → Option (Int64 × Mem)} {n : Nat} {r : Int64} {M' : Mem} (hrc : ∀ pc li lj M, rc pc li lj M = some (r, M') → Fq CSX [] M M') {a1 : Int32} {a2 : Int32} {M : Mem} (hf : b5_bestRow_0  rc n a1 a2 M = some (r, M')) : Fq CSX [] M M' := by
  unfold b5_bestRow_0 at hf
  obtain ⟨r1, M2, g1, hf⟩ := bnd_s hf
  refine Fq.trans (Fq.mono (fqZJ6_bitCount_0f7a4  g1) (by decide)) ?_
  by_cases c2 : r1 = 0
  · replace hf := ite_t c2 hf
    exact fqb5_bestRow_15  hrc hf
  · replace hf := ite_f c2 hf
    by_cases c3 : r1 ≤ (9 : Int32)
    · replace hf := ite_t c3 hf
      exact fqb5_bestRow_38  hrc hf
    · replace hf := ite_f c3 hf
      exact fqb5_bestRow_15  hrc hf
theorem fql5_bestRow   {r : Int64} {M' : Mem} (n : Nat) : ∀ pc li lj M, r5_bestRow  n pc li lj M = some (r, M') → Fq CSX [] M M' := by
  induction n with
  | zero => intro pc li lj M hf; cases hf
  | succ n ih =>
    intro pc li lj M hf
    rw [r5_bestRow] at hf
    dsimp only at hf
    by_cases c38 : pc = 38
    · replace hf := ite_t c38 hf
      split at hf
      · exact fqb5_bestRow_38  ih hf
      · cases hf
    replace hf := ite_f c38 hf
    cases hf
theorem fq5_bestRow   {n : Nat} {a1 : Int32} {a2 : Int32} {M M' : Mem} {r : Int64} (hf : f5_bestRow n  a1 a2 M = some (r, M')) : Fq CSX [] M M' := fqb5_bestRow_0  (fql5_bestRow  n) hf
theorem fqb5_findRows_11   {rc : Nat → List Int32 → List Int64 → Mem → Option (Unit × Mem)} {n : Nat} {r : Unit} {M' : Mem} (hrc : ∀ pc li lj M, rc pc li lj M = some (r, M') → Fq CSX [] M M') {i1 : Int32} {i2 : Int32} {M : Mem} (hf : b5_findRows_11  rc n i1 i2 M = some (r, M')) : Fq CSX [] M M' := by
  unfold b5_findRows_11 at hf
  by_cases c1 : (10 : Int32) ≤ i2
  · replace hf := ite_t c1 hf
    exact Fq.of hf
  · replace hf := ite_f c1 hf
    obtain ⟨r6, M7, g2, hf⟩ := bnd_s hf
    refine Fq.trans (Fq.mono (fq5_bestRow  g2) (by decide)) ?_
    replace hf := chk_2 hf
    obtain ⟨M10, eM10, hf⟩ := lt_x hf
    refine Fq_wJ eM10 ?_
    obtain ⟨v11, ev11, hf⟩ := lt_x hf
    exact hrc _ _ _ _ hf
theorem fqb5_findRows_0   {rc : Nat → List Int32 → List Int64 → Mem → Option (Unit × Mem)} {n : Nat} {r : Unit} {M' : Mem} (hrc : ∀ pc li lj M, rc pc li lj M = some (r, M') → Fq CSX [] M M') {a1 : Int32} {M : Mem} (hf : b5_findRows_0  rc n a1 M = some (r, M')) : Fq CSX [] M M' := by
  unfold b5_findRows_0 at hf
  obtain ⟨r1, M2, g1, hf⟩ := bnd_s hf
  refine Fq.trans (Fq.mono (fq5_isTold  g1) (by decide)) ?_
  by_cases c2 : r1 = 0
  · replace hf := ite_t c2 hf
    exact Fq.of hf
  · replace hf := ite_f c2 hf
    exact fqb5_findRows_11  hrc hf
theorem fql5_findRows   {r : Unit} {M' : Mem} (n : Nat) : ∀ pc li lj M, r5_findRows  n pc li lj M = some (r, M') → Fq CSX [] M M' := by
  induction n with
  | zero => intro pc li lj M hf; cases hf
  | succ n ih =>
    intro pc li lj M hf
    rw [r5_findRows] at hf
    dsimp only at hf
    by_cases c11 : pc = 11
    · replace hf := ite_t c11 hf
      split at hf
      · exact fqb5_findRows_11  ih hf
      · cases hf
    replace hf := ite_f c11 hf
    cases hf
theorem fq5_findRows   {n : Nat} {a1 : Int32} {M M' : Mem} {r : Unit} (hf : f5_findRows n  a1 M = some (r, M')) : Fq CSX [] M M' := fqb5_findRows_0  (fql5_findRows  n) hf
theorem fqb5_choose_155   {rc : Nat → List Int32 → List Int64 → Mem → Option (Unit × Mem)} {n : Nat} {r : Unit} {M' : Mem} (hrc : ∀ pc li lj M, rc pc li lj M = some (r, M') → Fq CSX [(326, 4), (326, 5)] M M') {i1 : Int32} {i2 : Int32} {M : Mem} (hf : b5_choose_155  rc n i1 i2 M = some (r, M')) : Fq CSX [(326, 4), (326, 5)] M M' := by
  unfold b5_choose_155 at hf
  obtain ⟨v30, ev30, hf⟩ := lt_x hf
  exact hrc _ _ _ _ hf
theorem fqb5_choose_116   {rc : Nat → List Int32 → List Int64 → Mem → Option (Unit × Mem)} {n : Nat} {r : Unit} {M' : Mem} (hrc : ∀ pc li lj M, rc pc li lj M = some (r, M') → Fq CSX [(326, 4), (326, 5)] M M') {i1 : Int32} {i2 : Int32} {i5 : Int32} {s0 : Int32} {j3 : Int64} {M : Mem} (hf : b5_choose_116  rc n i1 i2 i5 s0 j3 M = some (r, M')) : Fq CSX [(326, 4), (326, 5)] M M' := by
  unfold b5_choose_116 at hf
  obtain ⟨r22, M23, g1, hf⟩ := bnd_s hf
  refine Fq.trans (Fq.mono (fq5_isTold  g1) (by decide)) ?_
  by_cases c2 : r22 = 0
  · replace hf := ite_t c2 hf
    exact fqb5_choose_155  hrc hf
  · replace hf := ite_f c2 hf
    by_cases c3 : s0 = 0
    · replace hf := ite_t c3 hf
      exact fqb5_choose_155  hrc hf
    · replace hf := ite_f c3 hf
      by_cases c4 : 0 ≤ (lg_cmp j3 ((i1 + (1 : Int32)).toInt64 * (1000000000 : Int64)))
      · replace hf := ite_t c4 hf
        exact fqb5_choose_155  hrc hf
      · replace hf := ite_f c4 hf
        obtain ⟨M28, eM28, hf⟩ := lt_x hf
        refine Fq_wI eM28 (by decide) ?_
        obtain ⟨M29, eM29, hf⟩ := lt_x hf
        refine Fq_wJ eM29 ?_
        exact fqb5_choose_155  hrc hf
theorem fqb5_choose_111   {rc : Nat → List Int32 → List Int64 → Mem → Option (Unit × Mem)} {n : Nat} {r : Unit} {M' : Mem} (hrc : ∀ pc li lj M, rc pc li lj M = some (r, M') → Fq CSX [(326, 4), (326, 5)] M M') {i1 : Int32} {i2 : Int32} {i5 : Int32} {j3 : Int64} {M : Mem} (hf : b5_choose_111  rc n i1 i2 i5 j3 M = some (r, M')) : Fq CSX [(326, 4), (326, 5)] M M' := by
  unfold b5_choose_111 at hf
  exact fqb5_choose_116  hrc hf
theorem fqb5_choose_115   {rc : Nat → List Int32 → List Int64 → Mem → Option (Unit × Mem)} {n : Nat} {r : Unit} {M' : Mem} (hrc : ∀ pc li lj M, rc pc li lj M = some (r, M') → Fq CSX [(326, 4), (326, 5)] M M') {i1 : Int32} {i2 : Int32} {i5 : Int32} {j3 : Int64} {M : Mem} (hf : b5_choose_115  rc n i1 i2 i5 j3 M = some (r, M')) : Fq CSX [(326, 4), (326, 5)] M M' := by
  unfold b5_choose_115 at hf
  exact fqb5_choose_116  hrc hf
theorem fqb5_choose_61   {rc : Nat → List Int32 → List Int64 → Mem → Option (Unit × Mem)} {n : Nat} {r : Unit} {M' : Mem} (hrc : ∀ pc li lj M, rc pc li lj M = some (r, M') → Fq CSX [(326, 4), (326, 5)] M M') {i1 : Int32} {i2 : Int32} {M : Mem} (hf : b5_choose_61  rc n i1 i2 M = some (r, M')) : Fq CSX [(326, 4), (326, 5)] M M' := by
  unfold b5_choose_61 at hf
  by_cases c1 : (512 : Int32) ≤ i2
  · replace hf := ite_t c1 hf
    exact Fq.of hf
  · replace hf := ite_f c1 hf
    replace hf := chk_2 hf
    obtain ⟨v15, ev15, hf⟩ := lt_x hf
    obtain ⟨r16, M17, g2, hf⟩ := bnd_s hf
    refine Fq.trans (Fq.mono (fqZJ6_bitCount_0f7a4  g2) (by decide)) ?_
    by_cases c3 : (M17.1 326 5) < r16
    · replace hf := ite_t c3 hf
      exact fqb5_choose_111  hrc hf
    · replace hf := ite_f c3 hf
      by_cases c4 : r16 = (M17.1 326 5)
      · replace hf := ite_t c4 hf
        by_cases c5 : 0 ≤ (lg_cmp v15 (M17.2 326 6))
        · replace hf := ite_t c5 hf
          exact fqb5_choose_115  hrc hf
        · replace hf := ite_f c5 hf
          exact fqb5_choose_111  hrc hf
      · replace hf := ite_f c4 hf
        exact fqb5_choose_115  hrc hf
theorem fqb5_choose_49   {rc : Nat → List Int32 → List Int64 → Mem → Option (Unit × Mem)} {n : Nat} {r : Unit} {M' : Mem} (hrc : ∀ pc li lj M, rc pc li lj M = some (r, M') → Fq CSX [(326, 4), (326, 5)] M M') {i1 : Int32} {M : Mem} (hf : b5_choose_49  rc n i1 M = some (r, M')) : Fq CSX [(326, 4), (326, 5)] M M' := by
  unfold b5_choose_49 at hf
  obtain ⟨M11, eM11, hf⟩ := lt_x hf
  refine Fq_wI eM11 (by decide) ?_
  obtain ⟨M12, eM12, hf⟩ := lt_x hf
  refine Fq_wJ eM12 ?_
  exact fqb5_choose_61  hrc hf
theorem fqb5_choose_20   {rc : Nat → List Int32 → List Int64 → Mem → Option (Unit × Mem)} {n : Nat} {r : Unit} {M' : Mem} (hrc : ∀ pc li lj M, rc pc li lj M = some (r, M') → Fq CSX [(326, 4), (326, 5)] M M') {i1 : Int32} {i2 : Int32} {M : Mem} (hf : b5_choose_20  rc n i1 i2 M = some (r, M')) : Fq CSX [(326, 4), (326, 5)] M M' := by
  unfold b5_choose_20 at hf
  by_cases c1 : (512 : Int32) ≤ i2
  · replace hf := ite_t c1 hf
    obtain ⟨M6, eM6, hf⟩ := lt_x hf
    refine Fq_wI eM6 (by decide) ?_
    exact fqb5_choose_49  hrc hf
  · replace hf := ite_f c1 hf
    obtain ⟨r7, M8, g2, hf⟩ := bnd_s hf
    refine Fq.trans (Fq.mono (fq5_findRows  g2) (by decide)) ?_
    obtain ⟨v10, ev10, hf⟩ := lt_x hf
    exact hrc _ _ _ _ hf
theorem fqb5_choose_0   {rc : Nat → List Int32 → List Int64 → Mem → Option (Unit × Mem)} {n : Nat} {r : Unit} {M' : Mem} (hrc : ∀ pc li lj M, rc pc li lj M = some (r, M') → Fq CSX [(326, 4), (326, 5)] M M') {a1 : Int32} {M : Mem} (hf : b5_choose_0  rc n a1 M = some (r, M')) : Fq CSX [(326, 4), (326, 5)] M M' := by
  unfold b5_choose_0 at hf
  by_cases c1 : (M.1 326 4) = (M.1 3 9)
  · replace hf := ite_t c1 hf
    exact fqb5_choose_49  hrc hf
  · replace hf := ite_f c1 hf
    obtain ⟨r2, M3, g2, hf⟩ := bnd_s hf
    refine Fq.trans (Fq.mono (fq5_measure  g2) (by decide)) ?_
    exact fqb5_choose_20  hrc hf
theorem fql5_choose   {r : Unit} {M' : Mem} (n : Nat) : ∀ pc li lj M, r5_choose  n pc li lj M = some (r, M') → Fq CSX [(326, 4), (326, 5)] M M' := by
  induction n with
  | zero => intro pc li lj M hf; cases hf
  | succ n ih =>
    intro pc li lj M hf
    rw [r5_choose] at hf
    dsimp only at hf
    by_cases c20 : pc = 20
    · replace hf := ite_t c20 hf
      split at hf
      · exact fqb5_choose_20  ih hf
      · cases hf
    replace hf := ite_f c20 hf
    by_cases c61 : pc = 61
    · replace hf := ite_t c61 hf
      split at hf
      · exact fqb5_choose_61  ih hf
      · cases hf
    replace hf := ite_f c61 hf
    cases hf
theorem fq5_choose   {n : Nat} {a1 : Int32} {M M' : Mem} {r : Unit} (hf : f5_choose n  a1 M = some (r, M')) : Fq CSX [(326, 4), (326, 5)] M M' := fqb5_choose_0  (fql5_choose  n) hf
theorem fqb5_stepsOfBest_0   {rc : Nat → List Int32 → List Int64 → Mem → Option (Int32 × Mem)} {n : Nat} {r : Int32} {M' : Mem} (hrc : ∀ pc li lj M, rc pc li lj M = some (r, M') → Fq CSX [] M M')  {M : Mem} (hf : b5_stepsOfBest_0  rc n  M = some (r, M')) : Fq CSX [] M M' := by
  unfold b5_stepsOfBest_0 at hf
  exact Fq.of hf
theorem fq5_stepsOfBest   {n : Nat}  {M M' : Mem} {r : Int32} (hf : f5_stepsOfBest n   M = some (r, M')) : Fq CSX [] M M' := fqb5_stepsOfBest_0  (fun _ _ _ _ h => by cases h) hf
theorem fqb5_doorOfBest_21   {rc : Nat → List Int32 → List Int64 → Mem → Option (Int32 × Mem)} {n : Nat} {r : Int32} {M' : Mem} (hrc : ∀ pc li lj M, rc pc li lj M = some (r, M') → Fq CSX [] M M')  {M : Mem} (hf : b5_doorOfBest_21  rc n  M = some (r, M')) : Fq CSX [] M M' := by
  unfold b5_doorOfBest_21 at hf
  exact Fq.of hf
theorem fqb5_doorOfBest_0   {rc : Nat → List Int32 → List Int64 → Mem → Option (Int32 × Mem)} {n : Nat} {r : Int32} {M' : Mem} (hrc : ∀ pc li lj M, rc pc li lj M = some (r, M') → Fq CSX [] M M') {a1 : Int32} {M : Mem} (hf : b5_doorOfBest_0  rc n a1 M = some (r, M')) : Fq CSX [] M M' := by
  unfold b5_doorOfBest_0 at hf
  by_cases c1 : a1 < 0
  · replace hf := ite_t c1 hf
    exact fqb5_doorOfBest_21  hrc hf
  · replace hf := ite_f c1 hf
    by_cases c2 : (M.1 326 5) ≤ a1
    · replace hf := ite_t c2 hf
      exact fqb5_doorOfBest_21  hrc hf
    · replace hf := ite_f c2 hf
      by_cases c3 : (M.1 326 5) ≤ (9 : Int32)
      · replace hf := ite_t c3 hf
        obtain ⟨v4, ev4, hf⟩ := lt_x hf
        replace hf := chk_2 hf
        replace hf := chk_2 hf
        exact Fq.of hf
      · replace hf := ite_f c3 hf
        exact fqb5_doorOfBest_21  hrc hf
theorem fq5_doorOfBest   {n : Nat} {a1 : Int32} {M M' : Mem} {r : Int32} (hf : f5_doorOfBest n  a1 M = some (r, M')) : Fq CSX [] M M' := fqb5_doorOfBest_0  (fun _ _ _ _ h => by cases h) hf
theorem fqb6_stepsByOldMap_0   {rc : Nat → List Int32 → List Int64 → Mem → Option (Int32 × Mem)} {n : Nat} {r : Int32} {M' : Mem} (hrc : ∀ pc li lj M, rc pc li lj M = some (r, M') → Fq CSX [] M M') {a1 : Int32} {M : Mem} (hf : b6_stepsByOldMap_0  rc n a1 M = some (r, M')) : Fq CSX [] M M' := by
  unfold b6_stepsByOldMap_0 at hf
  obtain ⟨r1, M2, g1, hf⟩ := bnd_s hf
  refine Fq.trans (Fq.mono (fq8_spread (by decide) g1) (by decide)) ?_
  have h2 := chk_1 hf
  replace hf := chk_2 hf
  exact Fq.of hf
theorem fq6_stepsByOldMap   {n : Nat} {a1 : Int32} {M M' : Mem} {r : Int32} (hf : f6_stepsByOldMap n  a1 M = some (r, M')) : Fq CSX [] M M' := fqb6_stepsByOldMap_0  (fun _ _ _ _ h => by cases h) hf
theorem fqb6_findFewerWalls_136   {rc : Nat → List Int32 → List Int64 → Mem → Option (Int32 × Mem)} {n : Nat} {r : Int32} {M' : Mem} (hrc : ∀ pc li lj M, rc pc li lj M = some (r, M') → Fq CSX [] M M') {i1 : Int32} {i2 : Int32} {i3 : Int32} {M : Mem} (hf : b6_findFewerWalls_136  rc n i1 i2 i3 M = some (r, M')) : Fq CSX [] M M' := by
  unfold b6_findFewerWalls_136 at hf
  obtain ⟨v29, ev29, hf⟩ := lt_x hf
  exact hrc _ _ _ _ hf
theorem fqb6_findFewerWalls_130   {rc : Nat → List Int32 → List Int64 → Mem → Option (Int32 × Mem)} {n : Nat} {r : Int32} {M' : Mem} (hrc : ∀ pc li lj M, rc pc li lj M = some (r, M') → Fq CSX [] M M') {i1 : Int32} {i2 : Int32} {i3 : Int32} {i4 : Int32} {M : Mem} (hf : b6_findFewerWalls_130  rc n i1 i2 i3 i4 M = some (r, M')) : Fq CSX [] M M' := by
  unfold b6_findFewerWalls_130 at hf
  obtain ⟨v28, ev28, hf⟩ := lt_x hf
  exact hrc _ _ _ _ hf
theorem fqb6_findFewerWalls_104   {rc : Nat → List Int32 → List Int64 → Mem → Option (Int32 × Mem)} {n : Nat} {r : Int32} {M' : Mem} (hrc : ∀ pc li lj M, rc pc li lj M = some (r, M') → Fq CSX [] M M') {i1 : Int32} {i2 : Int32} {i3 : Int32} {i4 : Int32} {i5 : Int32} {s0 : Int32} {s1 : Int32} {M : Mem} (hf : b6_findFewerWalls_104  rc n i1 i2 i3 i4 i5 s0 s1 M = some (r, M')) : Fq CSX [] M M' := by
  unfold b6_findFewerWalls_104 at hf
  obtain ⟨v23, ev23, hf⟩ := lt_x hf
  have h1 := chk_1 hf
  replace hf := chk_2 hf
  by_cases c2 : (M.1 29 i5.toNatClampNeg) ≤ v23
  · replace hf := ite_t c2 hf
    exact fqb6_findFewerWalls_130  hrc hf
  · replace hf := ite_f c2 hf
    have h3 := chk_1 hf
    replace hf := chk_2 hf
    obtain ⟨M27, eM27, hf⟩ := lt_x hf
    refine Fq_wIn eM27 (by decide) ?_
    exact fqb6_findFewerWalls_130  hrc hf
theorem fqb6_findFewerWalls_80   {rc : Nat → List Int32 → List Int64 → Mem → Option (Int32 × Mem)} {n : Nat} {r : Int32} {M' : Mem} (hrc : ∀ pc li lj M, rc pc li lj M = some (r, M') → Fq CSX [] M M') {i1 : Int32} {i2 : Int32} {i3 : Int32} {i4 : Int32} {i5 : Int32} {M : Mem} (hf : b6_findFewerWalls_80  rc n i1 i2 i3 i4 i5 M = some (r, M')) : Fq CSX [] M M' := by
  unfold b6_findFewerWalls_80 at hf
  have h1 := chk_1 hf
  replace hf := chk_2 hf
  obtain ⟨r19, M20, g2, hf⟩ := bnd_s hf
  refine Fq.trans (Fq.mono (fq8_kindOf  g2) (by decide)) ?_
  by_cases c3 : r19 = (1 : Int32)
  · replace hf := ite_t c3 hf
    exact fqb6_findFewerWalls_104  hrc hf
  · replace hf := ite_f c3 hf
    exact fqb6_findFewerWalls_104  hrc hf
theorem fqb6_findFewerWalls_13   {rc : Nat → List Int32 → List Int64 → Mem → Option (Int32 × Mem)} {n : Nat} {r : Int32} {M' : Mem} (hrc : ∀ pc li lj M, rc pc li lj M = some (r, M') → Fq CSX [] M M') {i1 : Int32} {i2 : Int32} {i3 : Int32} {i4 : Int32} {M : Mem} (hf : b6_findFewerWalls_13  rc n i1 i2 i3 i4 M = some (r, M')) : Fq CSX [] M M' := by
  unfold b6_findFewerWalls_13 at hf
  by_cases c1 : (4 : Int32) ≤ i4
  · replace hf := ite_t c1 hf
    exact fqb6_findFewerWalls_136  hrc hf
  · replace hf := ite_f c1 hf
    have h2 := chk_1 hf
    replace hf := chk_2 hf
    by_cases c3 : (99 : Int32) ≤ (M.1 29 i3.toNatClampNeg)
    · replace hf := ite_t c3 hf
      exact fqb6_findFewerWalls_136  hrc hf
    · replace hf := ite_f c3 hf
      obtain ⟨r6, M7, g4, hf⟩ := bnd_s hf
      refine Fq.trans (Fq.mono (fq11_beside  g4) (by decide)) ?_
      by_cases c5 : r6 < 0
      · replace hf := ite_t c5 hf
        exact fqb6_findFewerWalls_130  hrc hf
      · replace hf := ite_f c5 hf
        obtain ⟨r10, M11, g6, hf⟩ := bnd_s hf
        refine Fq.trans (Fq.mono (fq8_kindOf  g6) (by decide)) ?_
        by_cases c7 : r10 = 0
        · replace hf := ite_t c7 hf
          exact fqb6_findFewerWalls_130  hrc hf
        · replace hf := ite_f c7 hf
          by_cases c8 : i1 = 0
          · replace hf := ite_t c8 hf
            exact fqb6_findFewerWalls_80  hrc hf
          · replace hf := ite_f c8 hf
            have h9 := chk_1 hf
            replace hf := chk_2 hf
            have h10 := chk_1 hf
            replace hf := chk_2 hf
            by_cases c11 : (M11.1 28 r6.toNatClampNeg) = ((M11.1 28 i3.toNatClampNeg) + (1 : Int32))
            · replace hf := ite_t c11 hf
              exact fqb6_findFewerWalls_80  hrc hf
            · replace hf := ite_f c11 hf
              exact fqb6_findFewerWalls_130  hrc hf
theorem fqb6_findFewerWalls_4   {rc : Nat → List Int32 → List Int64 → Mem → Option (Int32 × Mem)} {n : Nat} {r : Int32} {M' : Mem} (hrc : ∀ pc li lj M, rc pc li lj M = some (r, M') → Fq CSX [] M M') {i1 : Int32} {i2 : Int32} {i3 : Int32} {M : Mem} (hf : b6_findFewerWalls_4  rc n i1 i2 i3 M = some (r, M')) : Fq CSX [] M M' := by
  unfold b6_findFewerWalls_4 at hf
  by_cases c1 : (96 : Int32) ≤ i3
  · replace hf := ite_t c1 hf
    replace hf := chk_2 hf
    exact Fq.of hf
  · replace hf := ite_f c1 hf
    exact fqb6_findFewerWalls_13  hrc hf
theorem fqb6_findFewerWalls_0   {rc : Nat → List Int32 → List Int64 → Mem → Option (Int32 × Mem)} {n : Nat} {r : Int32} {M' : Mem} (hrc : ∀ pc li lj M, rc pc li lj M = some (r, M') → Fq CSX [] M M') {a1 : Int32} {M : Mem} (hf : b6_findFewerWalls_0  rc n a1 M = some (r, M')) : Fq CSX [] M M' := by
  unfold b6_findFewerWalls_0 at hf
  exact fqb6_findFewerWalls_4  hrc hf
theorem fql6_findFewerWalls   {r : Int32} {M' : Mem} (n : Nat) : ∀ pc li lj M, r6_findFewerWalls  n pc li lj M = some (r, M') → Fq CSX [] M M' := by
  induction n with
  | zero => intro pc li lj M hf; cases hf
  | succ n ih =>
    intro pc li lj M hf
    rw [r6_findFewerWalls] at hf
    dsimp only at hf
    by_cases c4 : pc = 4
    · replace hf := ite_t c4 hf
      split at hf
      · exact fqb6_findFewerWalls_4  ih hf
      · cases hf
    replace hf := ite_f c4 hf
    by_cases c13 : pc = 13
    · replace hf := ite_t c13 hf
      split at hf
      · exact fqb6_findFewerWalls_13  ih hf
      · cases hf
    replace hf := ite_f c13 hf
    cases hf
theorem fq6_findFewerWalls   {n : Nat} {a1 : Int32} {M M' : Mem} {r : Int32} (hf : f6_findFewerWalls n  a1 M = some (r, M')) : Fq CSX [] M M' := fqb6_findFewerWalls_0  (fql6_findFewerWalls  n) hf
