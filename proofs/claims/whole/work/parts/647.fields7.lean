theorem fqb12_readsHour_104   {rc : Nat → List Int32 → List Int64 → Mem → Option (Int32 × Mem)} {n : Nat} {r : Int32} {M' : Mem} (hrc : ∀ pc li lj M, rc pc li lj M = some (r, M') → Fq CSY [(0, 12), (0, 14), (0, 15)] M M')  {M : Mem} (hf : b12_readsHour_104  rc n  M = some (r, M')) : Fq CSY [(0, 12), (0, 14), (0, 15)] M M' := by
  unfold b12_readsHour_104 at hf
  exact Fq.of hf
theorem fqb12_readsHour_27   {rc : Nat → List Int32 → List Int64 → Mem → Option (Int32 × Mem)} {n : Nat} {r : Int32} {M' : Mem} (hrc : ∀ pc li lj M, rc pc li lj M = some (r, M') → Fq CSY [(0, 12), (0, 14), (0, 15)] M M') {i1 : Int32} {M : Mem} (hf : b12_readsHour_27  rc n i1 M = some (r, M')) : Fq CSY [(0, 12), (0, 14), (0, 15)] M M' := by
  unfold b12_readsHour_27 at hf
  obtain ⟨r11, M12, g1, hf⟩ := bnd_s hf
  refine Fq.trans (Fq.mono (fq12_isDigit  g1) (by decide)) ?_
  by_cases c2 : r11 = 0
  · replace hf := ite_t c2 hf
    by_cases c3 : (M12.1 0 15) < (24 : Int32)
    · replace hf := ite_t c3 hf
      exact fqb12_readsHour_104  hrc hf
    · replace hf := ite_f c3 hf
      obtain ⟨r16, M17, g4, hf⟩ := bnd_s hf
      refine Fq.trans (Fq.mono (fq12_wrongAt  g4) (by decide)) ?_
      by_cases c5 : r16 = 0
      · replace hf := ite_t c5 hf
        exact Fq.of hf
      · replace hf := ite_f c5 hf
        exact fqb12_readsHour_104  hrc hf
  · replace hf := ite_f c2 hf
    by_cases c6 : (M12.1 0 12) = (i1 + (2 : Int32))
    · replace hf := ite_t c6 hf
      obtain ⟨r26, M27, g7, hf⟩ := bnd_s hf
      refine Fq.trans (Fq.mono (fq12_wrongAt  g7) (by decide)) ?_
      replace hf := chk_2 hf
      exact Fq.of hf
    · replace hf := ite_f c6 hf
      obtain ⟨r21, M22, g8, hf⟩ := bnd_s hf
      refine Fq.trans (Fq.mono (fq12_here  g8) (by decide)) ?_
      obtain ⟨M24, eM24, hf⟩ := lt_x hf
      refine Fq_wI eM24 (by decide) ?_
      obtain ⟨M25, eM25, hf⟩ := lt_x hf
      refine Fq_wI eM25 (by decide) ?_
      exact hrc _ _ _ _ hf
theorem fqb12_readsHour_0   {rc : Nat → List Int32 → List Int64 → Mem → Option (Int32 × Mem)} {n : Nat} {r : Int32} {M' : Mem} (hrc : ∀ pc li lj M, rc pc li lj M = some (r, M') → Fq CSY [(0, 12), (0, 14), (0, 15)] M M')  {M : Mem} (hf : b12_readsHour_0  rc n  M = some (r, M')) : Fq CSY [(0, 12), (0, 14), (0, 15)] M M' := by
  unfold b12_readsHour_0 at hf
  obtain ⟨v1, ev1, hf⟩ := lt_x hf
  obtain ⟨r2, M3, g1, hf⟩ := bnd_s hf
  refine Fq.trans (Fq.mono (fq12_isDigit  g1) (by decide)) ?_
  by_cases c2 : r2 = 0
  · replace hf := ite_t c2 hf
    obtain ⟨r7, M8, g3, hf⟩ := bnd_s hf
    refine Fq.trans (Fq.mono (fq12_wrongAt  g3) (by decide)) ?_
    replace hf := chk_2 hf
    exact Fq.of hf
  · replace hf := ite_f c2 hf
    obtain ⟨M6, eM6, hf⟩ := lt_x hf
    refine Fq_wI eM6 (by decide) ?_
    exact fqb12_readsHour_27  hrc hf
theorem fql12_readsHour   {r : Int32} {M' : Mem} (n : Nat) : ∀ pc li lj M, r12_readsHour  n pc li lj M = some (r, M') → Fq CSY [(0, 12), (0, 14), (0, 15)] M M' := by
  induction n with
  | zero => intro pc li lj M hf; cases hf
  | succ n ih =>
    intro pc li lj M hf
    rw [r12_readsHour] at hf
    dsimp only at hf
    by_cases c27 : pc = 27
    · replace hf := ite_t c27 hf
      split at hf
      · exact fqb12_readsHour_27  ih hf
      · cases hf
    replace hf := ite_f c27 hf
    cases hf
theorem fq12_readsHour   {n : Nat}  {M M' : Mem} {r : Int32} (hf : f12_readsHour n   M = some (r, M')) : Fq CSY [(0, 12), (0, 14), (0, 15)] M M' := fqb12_readsHour_0  (fql12_readsHour  n) hf
theorem fqb12_readsNote_184   {rc : Nat → List Int32 → List Int64 → Mem → Option (Int32 × Mem)} {n : Nat} {r : Int32} {M' : Mem} (hrc : ∀ pc li lj M, rc pc li lj M = some (r, M') → Fq CSY [(0, 6), (0, 12), (0, 14), (0, 15), (0, 36)] M M') {i1 : Int32} {i2 : Int32} {i3 : Int32} {i4 : Int32} {s1 : Int32} {M : Mem} (hf : b12_readsNote_184  rc n i1 i2 i3 i4 s1 M = some (r, M')) : Fq CSY [(0, 6), (0, 12), (0, 14), (0, 15), (0, 36)] M M' := by
  unfold b12_readsNote_184 at hf
  obtain ⟨M43, eM43, hf⟩ := lt_x hf
  refine Fq_wI eM43 (by decide) ?_
  obtain ⟨v44, ev44, hf⟩ := lt_x hf
  exact hrc _ _ _ _ hf
theorem fqb12_readsNote_141   {rc : Nat → List Int32 → List Int64 → Mem → Option (Int32 × Mem)} {n : Nat} {r : Int32} {M' : Mem} (hrc : ∀ pc li lj M, rc pc li lj M = some (r, M') → Fq CSY [(0, 6), (0, 12), (0, 14), (0, 15), (0, 36)] M M') {i1 : Int32} {i2 : Int32} {i3 : Int32} {i4 : Int32} {M : Mem} (hf : b12_readsNote_141  rc n i1 i2 i3 i4 M = some (r, M')) : Fq CSY [(0, 6), (0, 12), (0, 14), (0, 15), (0, 36)] M M' := by
  unfold b12_readsNote_141 at hf
  by_cases c1 : i3 < i4
  · replace hf := ite_t c1 hf
    exact Fq.of hf
  · replace hf := ite_f c1 hf
    obtain ⟨v41, ev41, hf⟩ := lt_x hf
    by_cases c2 : i2 = (45 : Int32)
    · replace hf := ite_t c2 hf
      exact fqb12_readsNote_184  hrc hf
    · replace hf := ite_f c2 hf
      exact fqb12_readsNote_184  hrc hf
theorem fqb12_readsNote_115   {rc : Nat → List Int32 → List Int64 → Mem → Option (Int32 × Mem)} {n : Nat} {r : Int32} {M' : Mem} (hrc : ∀ pc li lj M, rc pc li lj M = some (r, M') → Fq CSY [(0, 6), (0, 12), (0, 14), (0, 15), (0, 36)] M M') {i1 : Int32} {i2 : Int32} {M : Mem} (hf : b12_readsNote_115  rc n i1 i2 M = some (r, M')) : Fq CSY [(0, 6), (0, 12), (0, 14), (0, 15), (0, 36)] M M' := by
  unfold b12_readsNote_115 at hf
  obtain ⟨M38, eM38, hf⟩ := lt_x hf
  refine Fq_wI eM38 (by decide) ?_
  obtain ⟨v39, ev39, hf⟩ := lt_x hf
  exact fqb12_readsNote_141  hrc hf
theorem fqb12_readsNote_88   {rc : Nat → List Int32 → List Int64 → Mem → Option (Int32 × Mem)} {n : Nat} {r : Int32} {M' : Mem} (hrc : ∀ pc li lj M, rc pc li lj M = some (r, M') → Fq CSY [(0, 6), (0, 12), (0, 14), (0, 15), (0, 36)] M M') {i1 : Int32} {M : Mem} (hf : b12_readsNote_88  rc n i1 M = some (r, M')) : Fq CSY [(0, 6), (0, 12), (0, 14), (0, 15), (0, 36)] M M' := by
  unfold b12_readsNote_88 at hf
  obtain ⟨r29, M30, g1, hf⟩ := bnd_s hf
  refine Fq.trans (Fq.mono (fq12_here  g1) (by decide)) ?_
  by_cases c2 : r29 = (45 : Int32)
  · replace hf := ite_t c2 hf
    exact fqb12_readsNote_115  hrc hf
  · replace hf := ite_f c2 hf
    by_cases c3 : r29 = (63 : Int32)
    · replace hf := ite_t c3 hf
      exact fqb12_readsNote_115  hrc hf
    · replace hf := ite_f c3 hf
      obtain ⟨r34, M35, g4, hf⟩ := bnd_s hf
      refine Fq.trans (Fq.mono (fq12_wrongAt  g4) (by decide)) ?_
      replace hf := chk_2 hf
      exact Fq.of hf
theorem fqb12_readsNote_0   {rc : Nat → List Int32 → List Int64 → Mem → Option (Int32 × Mem)} {n : Nat} {r : Int32} {M' : Mem} (hrc : ∀ pc li lj M, rc pc li lj M = some (r, M') → Fq CSY [(0, 6), (0, 12), (0, 14), (0, 15), (0, 36)] M M')  {M : Mem} (hf : b12_readsNote_0  rc n  M = some (r, M')) : Fq CSY [(0, 6), (0, 12), (0, 14), (0, 15), (0, 36)] M M' := by
  unfold b12_readsNote_0 at hf
  obtain ⟨r1, M2, g1, hf⟩ := bnd_s hf
  refine Fq.trans (Fq.mono (fq12_isDigit  g1) (by decide)) ?_
  by_cases c2 : r1 = 0
  · replace hf := ite_t c2 hf
    obtain ⟨r25, M26, g3, hf⟩ := bnd_s hf
    refine Fq.trans (Fq.mono (fq12_wrongAt  g3) (by decide)) ?_
    replace hf := chk_2 hf
    exact Fq.of hf
  · replace hf := ite_f c2 hf
    by_cases c4 : (M2.1 0 36) = (24 : Int32)
    · replace hf := ite_t c4 hf
      obtain ⟨r21, M22, g5, hf⟩ := bnd_s hf
      refine Fq.trans (Fq.mono (fq12_wrongAt  g5) (by decide)) ?_
      replace hf := chk_2 hf
      exact Fq.of hf
    · replace hf := ite_f c4 hf
      obtain ⟨M6, eM6, hf⟩ := lt_x hf
      refine Fq_wI eM6 (by decide) ?_
      obtain ⟨r7, M8, g6, hf⟩ := bnd_s hf
      refine Fq.trans (Fq.mono (fq12_readsHour  g6) (by decide)) ?_
      by_cases c7 : r7 = 0
      · replace hf := ite_t c7 hf
        exact Fq.of hf
      · replace hf := ite_f c7 hf
        obtain ⟨v11, ev11, hf⟩ := lt_x hf
        obtain ⟨r12, M13, g8, hf⟩ := bnd_s hf
        refine Fq.trans (Fq.mono (fq12_here  g8) (by decide)) ?_
        by_cases c9 : r12 = (58 : Int32)
        · replace hf := ite_t c9 hf
          obtain ⟨M16, eM16, hf⟩ := lt_x hf
          refine Fq_wI eM16 (by decide) ?_
          obtain ⟨r17, M18, g10, hf⟩ := bnd_s hf
          refine Fq.trans (Fq.mono (fq12_readsHour  g10) (by decide)) ?_
          by_cases c11 : r17 = 0
          · replace hf := ite_t c11 hf
            exact Fq.of hf
          · replace hf := ite_f c11 hf
            exact fqb12_readsNote_88  hrc hf
        · replace hf := ite_f c9 hf
          exact fqb12_readsNote_88  hrc hf
theorem fql12_readsNote   {r : Int32} {M' : Mem} (n : Nat) : ∀ pc li lj M, r12_readsNote  n pc li lj M = some (r, M') → Fq CSY [(0, 6), (0, 12), (0, 14), (0, 15), (0, 36)] M M' := by
  induction n with
  | zero => intro pc li lj M hf; cases hf
  | succ n ih =>
    intro pc li lj M hf
    rw [r12_readsNote] at hf
    dsimp only at hf
    by_cases c141 : pc = 141
    · replace hf := ite_t c141 hf
      split at hf
      · exact fqb12_readsNote_141  ih hf
      · cases hf
    replace hf := ite_f c141 hf
    cases hf
theorem fq12_readsNote   {n : Nat}  {M M' : Mem} {r : Int32} (hf : f12_readsNote n   M = some (r, M')) : Fq CSY [(0, 6), (0, 12), (0, 14), (0, 15), (0, 36)] M M' := fqb12_readsNote_0  (fql12_readsNote  n) hf
theorem fqb12_notes_18   {rc : Nat → List Int32 → List Int64 → Mem → Option (Int32 × Mem)} {n : Nat} {r : Int32} {M' : Mem} (hrc : ∀ pc li lj M, rc pc li lj M = some (r, M') → Fq CSY [(0, 6), (0, 11), (0, 12), (0, 13), (0, 14), (0, 15), (0, 17), (0, 19), (0, 36)] M M')  {M : Mem} (hf : b12_notes_18  rc n  M = some (r, M')) : Fq CSY [(0, 6), (0, 11), (0, 12), (0, 13), (0, 14), (0, 15), (0, 17), (0, 19), (0, 36)] M M' := by
  unfold b12_notes_18 at hf
  exact Fq.of hf
theorem fqb12_notes_80   {rc : Nat → List Int32 → List Int64 → Mem → Option (Int32 × Mem)} {n : Nat} {r : Int32} {M' : Mem} (hrc : ∀ pc li lj M, rc pc li lj M = some (r, M') → Fq CSY [(0, 6), (0, 11), (0, 12), (0, 13), (0, 14), (0, 15), (0, 17), (0, 19), (0, 36)] M M') {i2 : Int32} {i3 : Int32} {M : Mem} (hf : b12_notes_80  rc n i2 i3 M = some (r, M')) : Fq CSY [(0, 6), (0, 11), (0, 12), (0, 13), (0, 14), (0, 15), (0, 17), (0, 19), (0, 36)] M M' := by
  unfold b12_notes_80 at hf
  obtain ⟨M24, eM24, hf⟩ := lt_x hf
  refine Fq_wI eM24 (by decide) ?_
  by_cases c1 : i3 = 0
  · replace hf := ite_t c1 hf
    obtain ⟨M26, eM26, hf⟩ := lt_x hf
    refine Fq_wI eM26 (by decide) ?_
    exact Fq.of hf
  · replace hf := ite_f c1 hf
    exact Fq.of hf
theorem fqb12_notes_76   {rc : Nat → List Int32 → List Int64 → Mem → Option (Int32 × Mem)} {n : Nat} {r : Int32} {M' : Mem} (hrc : ∀ pc li lj M, rc pc li lj M = some (r, M') → Fq CSY [(0, 6), (0, 11), (0, 12), (0, 13), (0, 14), (0, 15), (0, 17), (0, 19), (0, 36)] M M') {i2 : Int32} {s0 : Int32} {M : Mem} (hf : b12_notes_76  rc n i2 s0 M = some (r, M')) : Fq CSY [(0, 6), (0, 11), (0, 12), (0, 13), (0, 14), (0, 15), (0, 17), (0, 19), (0, 36)] M M' := by
  unfold b12_notes_76 at hf
  exact hrc _ _ _ _ hf
theorem fqb12_notes_75   {rc : Nat → List Int32 → List Int64 → Mem → Option (Int32 × Mem)} {n : Nat} {r : Int32} {M' : Mem} (hrc : ∀ pc li lj M, rc pc li lj M = some (r, M') → Fq CSY [(0, 6), (0, 11), (0, 12), (0, 13), (0, 14), (0, 15), (0, 17), (0, 19), (0, 36)] M M') {i2 : Int32} {M : Mem} (hf : b12_notes_75  rc n i2 M = some (r, M')) : Fq CSY [(0, 6), (0, 11), (0, 12), (0, 13), (0, 14), (0, 15), (0, 17), (0, 19), (0, 36)] M M' := by
  unfold b12_notes_75 at hf
  exact fqb12_notes_76  hrc hf
theorem fqb12_notes_40   {rc : Nat → List Int32 → List Int64 → Mem → Option (Int32 × Mem)} {n : Nat} {r : Int32} {M' : Mem} (hrc : ∀ pc li lj M, rc pc li lj M = some (r, M') → Fq CSY [(0, 6), (0, 11), (0, 12), (0, 13), (0, 14), (0, 15), (0, 17), (0, 19), (0, 36)] M M') {i2 : Int32} {i3 : Int32} {M : Mem} (hf : b12_notes_40  rc n i2 i3 M = some (r, M')) : Fq CSY [(0, 6), (0, 11), (0, 12), (0, 13), (0, 14), (0, 15), (0, 17), (0, 19), (0, 36)] M M' := by
  unfold b12_notes_40 at hf
  by_cases c1 : i3 = 0
  · replace hf := ite_t c1 hf
    exact fqb12_notes_80  hrc hf
  · replace hf := ite_f c1 hf
    by_cases c2 : (M.1 0 13) ≤ (M.1 0 12)
    · replace hf := ite_t c2 hf
      exact fqb12_notes_80  hrc hf
    · replace hf := ite_f c2 hf
      obtain ⟨r16, M17, g3, hf⟩ := bnd_s hf
      refine Fq.trans (Fq.mono (fq12_takes  g3) (by decide)) ?_
      by_cases c4 : r16 = 0
      · replace hf := ite_t c4 hf
        exact fqb12_notes_75  hrc hf
      · replace hf := ite_f c4 hf
        obtain ⟨r20, M21, g5, hf⟩ := bnd_s hf
        refine Fq.trans (Fq.mono (fq12_readsNote  g5) (by decide)) ?_
        by_cases c6 : r20 = 0
        · replace hf := ite_t c6 hf
          exact fqb12_notes_75  hrc hf
        · replace hf := ite_f c6 hf
          exact fqb12_notes_76  hrc hf
theorem fqb12_notes_0   {rc : Nat → List Int32 → List Int64 → Mem → Option (Int32 × Mem)} {n : Nat} {r : Int32} {M' : Mem} (hrc : ∀ pc li lj M, rc pc li lj M = some (r, M') → Fq CSY [(0, 6), (0, 11), (0, 12), (0, 13), (0, 14), (0, 15), (0, 17), (0, 19), (0, 36)] M M') {a1 : Int32} {M : Mem} (hf : b12_notes_0  rc n a1 M = some (r, M')) : Fq CSY [(0, 6), (0, 11), (0, 12), (0, 13), (0, 14), (0, 15), (0, 17), (0, 19), (0, 36)] M M' := by
  unfold b12_notes_0 at hf
  obtain ⟨r1, M2, g1, hf⟩ := bnd_s hf
  refine Fq.trans (Fq.mono (fq12_in  g1) (by decide)) ?_
  by_cases c2 : r1 = 0
  · replace hf := ite_t c2 hf
    exact fqb12_notes_18  hrc hf
  · replace hf := ite_f c2 hf
    by_cases c3 : a1 ≤ (M2.1 0 11)
    · replace hf := ite_t c3 hf
      obtain ⟨r6, M7, g4, hf⟩ := bnd_s hf
      refine Fq.trans (Fq.mono (fq12_beginsText  g4) (by decide)) ?_
      obtain ⟨M9, eM9, hf⟩ := lt_x hf
      refine Fq_wI eM9 (by decide) ?_
      obtain ⟨v10, ev10, hf⟩ := lt_x hf
      obtain ⟨r11, M12, g5, hf⟩ := bnd_s hf
      refine Fq.trans (Fq.mono (fq12_readsNote  g5) (by decide)) ?_
      exact fqb12_notes_40  hrc hf
    · replace hf := ite_f c3 hf
      exact fqb12_notes_18  hrc hf
theorem fql12_notes   {r : Int32} {M' : Mem} (n : Nat) : ∀ pc li lj M, r12_notes  n pc li lj M = some (r, M') → Fq CSY [(0, 6), (0, 11), (0, 12), (0, 13), (0, 14), (0, 15), (0, 17), (0, 19), (0, 36)] M M' := by
  induction n with
  | zero => intro pc li lj M hf; cases hf
  | succ n ih =>
    intro pc li lj M hf
    rw [r12_notes] at hf
    dsimp only at hf
    by_cases c40 : pc = 40
    · replace hf := ite_t c40 hf
      split at hf
      · exact fqb12_notes_40  ih hf
      · cases hf
    replace hf := ite_f c40 hf
    cases hf
theorem fq12_notes   {n : Nat} {a1 : Int32} {M M' : Mem} {r : Int32} (hf : f12_notes n  a1 M = some (r, M')) : Fq CSY [(0, 6), (0, 11), (0, 12), (0, 13), (0, 14), (0, 15), (0, 17), (0, 19), (0, 36)] M M' := fqb12_notes_0  (fql12_notes  n) hf
theorem fqb12_weightOf_2   {rc : Nat → List Int32 → List Int64 → Mem → Option (Int32 × Mem)} {n : Nat} {r : Int32} {M' : Mem} (hrc : ∀ pc li lj M, rc pc li lj M = some (r, M') → Fq CSY [] M M') {i1 : Int32} {i2 : Int32} {M : Mem} (hf : b12_weightOf_2  rc n i1 i2 M = some (r, M')) : Fq CSY [] M M' := by
  unfold b12_weightOf_2 at hf
  by_cases c1 : (9 : Int32) ≤ i2
  · replace hf := ite_t c1 hf
    replace hf := chk_2 hf
    obtain ⟨M3, eM3, hf⟩ := lt_x hf
    refine Fq_wIn eM3 (by decide) ?_
    replace hf := chk_2 hf
    replace hf := chk_2 hf
    obtain ⟨M6, eM6, hf⟩ := lt_x hf
    refine Fq_wIn eM6 (by decide) ?_
    obtain ⟨r7, M8, g2, hf⟩ := bnd_s hf
    refine Fq.trans (Fq.mono (fq12_byLaw  g2) (by decide)) ?_
    exact Fq.of hf
  · replace hf := ite_f c1 hf
    replace hf := chk_2 hf
    obtain ⟨M11, eM11, hf⟩ := lt_x hf
    refine Fq_wIn eM11 (by decide) ?_
    obtain ⟨v12, ev12, hf⟩ := lt_x hf
    exact hrc _ _ _ _ hf
theorem fqb12_weightOf_0   {rc : Nat → List Int32 → List Int64 → Mem → Option (Int32 × Mem)} {n : Nat} {r : Int32} {M' : Mem} (hrc : ∀ pc li lj M, rc pc li lj M = some (r, M') → Fq CSY [] M M') {a1 : Int32} {M : Mem} (hf : b12_weightOf_0  rc n a1 M = some (r, M')) : Fq CSY [] M M' := by
  unfold b12_weightOf_0 at hf
  exact fqb12_weightOf_2  hrc hf
theorem fql12_weightOf   {r : Int32} {M' : Mem} (n : Nat) : ∀ pc li lj M, r12_weightOf  n pc li lj M = some (r, M') → Fq CSY [] M M' := by
  induction n with
  | zero => intro pc li lj M hf; cases hf
  | succ n ih =>
    intro pc li lj M hf
    rw [r12_weightOf] at hf
    dsimp only at hf
    by_cases c2 : pc = 2
    · replace hf := ite_t c2 hf
      split at hf
      · exact fqb12_weightOf_2  ih hf
      · cases hf
    replace hf := ite_f c2 hf
    cases hf
theorem fq12_weightOf   {n : Nat} {a1 : Int32} {M M' : Mem} {r : Int32} (hf : f12_weightOf n  a1 M = some (r, M')) : Fq CSY [] M M' := fqb12_weightOf_0  (fql12_weightOf  n) hf
theorem fqb12_allWeights_4   {rc : Nat → List Int32 → List Int64 → Mem → Option (Int32 × Mem)} {n : Nat} {r : Int32} {M' : Mem} (hrc : ∀ pc li lj M, rc pc li lj M = some (r, M') → Fq CSY [] M M') {i1 : Int32} {i2 : Int32} {M : Mem} (hf : b12_allWeights_4  rc n i1 i2 M = some (r, M')) : Fq CSY [] M M' := by
  unfold b12_allWeights_4 at hf
  by_cases c1 : (24 : Int32) ≤ i2
  · replace hf := ite_t c1 hf
    exact Fq.of hf
  · replace hf := ite_f c1 hf
    obtain ⟨r2, M3, g2, hf⟩ := bnd_s hf
    refine Fq.trans (Fq.mono (fq12_weightOf  g2) (by decide)) ?_
    obtain ⟨v5, ev5, hf⟩ := lt_x hf
    obtain ⟨v6, ev6, hf⟩ := lt_x hf
    exact hrc _ _ _ _ hf
theorem fqb12_allWeights_0   {rc : Nat → List Int32 → List Int64 → Mem → Option (Int32 × Mem)} {n : Nat} {r : Int32} {M' : Mem} (hrc : ∀ pc li lj M, rc pc li lj M = some (r, M') → Fq CSY [] M M')  {M : Mem} (hf : b12_allWeights_0  rc n  M = some (r, M')) : Fq CSY [] M M' := by
  unfold b12_allWeights_0 at hf
  exact fqb12_allWeights_4  hrc hf
theorem fql12_allWeights   {r : Int32} {M' : Mem} (n : Nat) : ∀ pc li lj M, r12_allWeights  n pc li lj M = some (r, M') → Fq CSY [] M M' := by
  induction n with
  | zero => intro pc li lj M hf; cases hf
  | succ n ih =>
    intro pc li lj M hf
    rw [r12_allWeights] at hf
    dsimp only at hf
    by_cases c4 : pc = 4
    · replace hf := ite_t c4 hf
      split at hf
      · exact fqb12_allWeights_4  ih hf
      · cases hf
    replace hf := ite_f c4 hf
    cases hf
theorem fq12_allWeights   {n : Nat}  {M M' : Mem} {r : Int32} (hf : f12_allWeights n   M = some (r, M')) : Fq CSY [] M M' := fqb12_allWeights_0  (fql12_allWeights  n) hf
theorem fqb12_drawsHour_53   {rc : Nat → List Int32 → List Int64 → Mem → Option (Int32 × Mem)} {n : Nat} {r : Int32} {M' : Mem} (hrc : ∀ pc li lj M, rc pc li lj M = some (r, M') → Fq CSY [] M M') {i2 : Int32} {i3 : Int32} {M : Mem} (hf : b12_drawsHour_53  rc n i2 i3 M = some (r, M')) : Fq CSY [] M M' := by
  unfold b12_drawsHour_53 at hf
  obtain ⟨r11, M12, g1, hf⟩ := bnd_s hf
  refine Fq.trans (Fq.mono (fq12_weightOf  g1) (by decide)) ?_
  by_cases c2 : i2 < r11
  · replace hf := ite_t c2 hf
    exact Fq.of hf
  · replace hf := ite_f c2 hf
    obtain ⟨r15, M16, g3, hf⟩ := bnd_s hf
    refine Fq.trans (Fq.mono (fq12_weightOf  g3) (by decide)) ?_
    obtain ⟨v18, ev18, hf⟩ := lt_x hf
    obtain ⟨v19, ev19, hf⟩ := lt_x hf
    exact hrc _ _ _ _ hf
theorem fqb12_drawsHour_0   {rc : Nat → List Int32 → List Int64 → Mem → Option (Int32 × Mem)} {n : Nat} {r : Int32} {M' : Mem} (hrc : ∀ pc li lj M, rc pc li lj M = some (r, M') → Fq CSY [] M M')  {M : Mem} (hf : b12_drawsHour_0  rc n  M = some (r, M')) : Fq CSY [] M M' := by
  unfold b12_drawsHour_0 at hf
  obtain ⟨r1, M2, g1, hf⟩ := bnd_s hf
  refine Fq.trans (Fq.mono (fq12_allWeights  g1) (by decide)) ?_
  by_cases c2 : r1 = 0
  · replace hf := ite_t c2 hf
    exact Fq.of hf
  · replace hf := ite_f c2 hf
    replace hf := chk_2 hf
    replace hf := chk_2 hf
    obtain ⟨M7, eM7, hf⟩ := lt_x hf
    refine Fq_wIn eM7 (by decide) ?_
    replace hf := chk_2 hf
    replace hf := chk_2 hf
    obtain ⟨v10, ev10, hf⟩ := lt_x hf
    exact fqb12_drawsHour_53  hrc hf
theorem fql12_drawsHour   {r : Int32} {M' : Mem} (n : Nat) : ∀ pc li lj M, r12_drawsHour  n pc li lj M = some (r, M') → Fq CSY [] M M' := by
  induction n with
  | zero => intro pc li lj M hf; cases hf
  | succ n ih =>
    intro pc li lj M hf
    rw [r12_drawsHour] at hf
    dsimp only at hf
    by_cases c53 : pc = 53
    · replace hf := ite_t c53 hf
      split at hf
      · exact fqb12_drawsHour_53  ih hf
      · cases hf
    replace hf := ite_f c53 hf
    cases hf
theorem fq12_drawsHour   {n : Nat}  {M M' : Mem} {r : Int32} (hf : f12_drawsHour n   M = some (r, M')) : Fq CSY [] M M' := fqb12_drawsHour_0  (fql12_drawsHour  n) hf
theorem fqb12_doorsIn_26   {rc : Nat → List Int32 → List Int64 → Mem → Option (Int32 × Mem)} {n : Nat} {r : Int32} {M' : Mem} (hrc : ∀ pc li lj M, rc pc li lj M = some (r, M') → Fq CSY [] M M') {i1 : Int32} {i2 : Int32} {i3 : Int32} {M : Mem} (hf : b12_doorsIn_26  rc n i1 i2 i3 M = some (r, M')) : Fq CSY [] M M' := by
  unfold b12_doorsIn_26 at hf
  obtain ⟨v5, ev5, hf⟩ := lt_x hf
  exact hrc _ _ _ _ hf
theorem fqb12_doorsIn_4   {rc : Nat → List Int32 → List Int64 → Mem → Option (Int32 × Mem)} {n : Nat} {r : Int32} {M' : Mem} (hrc : ∀ pc li lj M, rc pc li lj M = some (r, M') → Fq CSY [] M M') {i1 : Int32} {i2 : Int32} {i3 : Int32} {M : Mem} (hf : b12_doorsIn_4  rc n i1 i2 i3 M = some (r, M')) : Fq CSY [] M M' := by
  unfold b12_doorsIn_4 at hf
  by_cases c1 : (9 : Int32) < i3
  · replace hf := ite_t c1 hf
    exact Fq.of hf
  · replace hf := ite_f c1 hf
    replace hf := chk_2 hf
    by_cases c2 : (M.1 5 i3.toNatClampNeg) = i1
    · replace hf := ite_t c2 hf
      obtain ⟨v4, ev4, hf⟩ := lt_x hf
      exact fqb12_doorsIn_26  hrc hf
    · replace hf := ite_f c2 hf
      exact fqb12_doorsIn_26  hrc hf
theorem fqb12_doorsIn_0   {rc : Nat → List Int32 → List Int64 → Mem → Option (Int32 × Mem)} {n : Nat} {r : Int32} {M' : Mem} (hrc : ∀ pc li lj M, rc pc li lj M = some (r, M') → Fq CSY [] M M') {a1 : Int32} {M : Mem} (hf : b12_doorsIn_0  rc n a1 M = some (r, M')) : Fq CSY [] M M' := by
  unfold b12_doorsIn_0 at hf
  exact fqb12_doorsIn_4  hrc hf
theorem fql12_doorsIn   {r : Int32} {M' : Mem} (n : Nat) : ∀ pc li lj M, r12_doorsIn  n pc li lj M = some (r, M') → Fq CSY [] M M' := by
  induction n with
  | zero => intro pc li lj M hf; cases hf
  | succ n ih =>
    intro pc li lj M hf
    rw [r12_doorsIn] at hf
    dsimp only at hf
    by_cases c4 : pc = 4
    · replace hf := ite_t c4 hf
      split at hf
      · exact fqb12_doorsIn_4  ih hf
      · cases hf
    replace hf := ite_f c4 hf
    cases hf
theorem fq12_doorsIn   {n : Nat} {a1 : Int32} {M M' : Mem} {r : Int32} (hf : f12_doorsIn n  a1 M = some (r, M')) : Fq CSY [] M M' := fqb12_doorsIn_0  (fql12_doorsIn  n) hf
theorem fqb12_feelsAt_0   {rc : Nat → List Int32 → List Int64 → Mem → Option (Unit × Mem)} {n : Nat} {r : Unit} {M' : Mem} (hrc : ∀ pc li lj M, rc pc li lj M = some (r, M') → Fq CSY [(0, 9)] M M') {a1 : Int32} {a2 : Int32} {a3 : Int32} {M : Mem} (hf : b12_feelsAt_0  rc n a1 a2 a3 M = some (r, M')) : Fq CSY [(0, 9)] M M' := by
  unfold b12_feelsAt_0 at hf
  replace hf := chk_2 hf
  obtain ⟨M2, eM2, hf⟩ := lt_x hf
  refine Fq_wIn eM2 (by decide) ?_
  replace hf := chk_2 hf
  replace hf := chk_2 hf
  obtain ⟨M5, eM5, hf⟩ := lt_x hf
  refine Fq_wIn eM5 (by decide) ?_
  replace hf := chk_2 hf
  obtain ⟨M7, eM7, hf⟩ := lt_x hf
  refine Fq_wIn eM7 (by decide) ?_
  replace hf := chk_2 hf
  obtain ⟨M9, eM9, hf⟩ := lt_x hf
  refine Fq_wIn eM9 (by decide) ?_
  replace hf := chk_2 hf
  obtain ⟨M11, eM11, hf⟩ := lt_x hf
  refine Fq_wIn eM11 (by decide) ?_
  replace hf := chk_2 hf
  replace hf := chk_2 hf
  obtain ⟨M14, eM14, hf⟩ := lt_x hf
  refine Fq_wIn eM14 (by decide) ?_
  obtain ⟨r15, M16, g1, hf⟩ := bnd_s hf
  refine Fq.trans (Fq.mono (fq12_toDoorNine  g1) (by decide)) ?_
  replace hf := chk_2 hf
  obtain ⟨M19, eM19, hf⟩ := lt_x hf
  refine Fq_wIn eM19 (by decide) ?_
  obtain ⟨r20, M21, g2, hf⟩ := bnd_s hf
  refine Fq.trans (Fq.mono (fq12_steps  g2) (by decide)) ?_
  replace hf := chk_2 hf
  obtain ⟨M24, eM24, hf⟩ := lt_x hf
  refine Fq_wIn eM24 (by decide) ?_
  replace hf := chk_2 hf
  obtain ⟨r26, M27, g3, hf⟩ := bnd_s hf
  refine Fq.trans (Fq.mono (fq12_bits  g3) (by decide)) ?_
  replace hf := chk_2 hf
  obtain ⟨M30, eM30, hf⟩ := lt_x hf
  refine Fq_wIn eM30 (by decide) ?_
  exact Fq.of hf
theorem fq12_feelsAt   {n : Nat} {a1 : Int32} {a2 : Int32} {a3 : Int32} {M M' : Mem} {r : Unit} (hf : f12_feelsAt n  a1 a2 a3 M = some (r, M')) : Fq CSY [(0, 9)] M M' := fqb12_feelsAt_0  (fun _ _ _ _ h => by cases h) hf
theorem fqb12_goesTo_174   {rc : Nat → List Int32 → List Int64 → Mem → Option (Int32 × Mem)} {n : Nat} {r : Int32} {M' : Mem} (hrc : ∀ pc li lj M, rc pc li lj M = some (r, M') → Fq CSY [(0, 9)] M M') {i1 : Int32} {i2 : Int32} {i3 : Int32} {i5 : Int32} {i6 : Int32} {i7 : Int32} {M : Mem} (hf : b12_goesTo_174  rc n i1 i2 i3 i5 i6 i7 M = some (r, M')) : Fq CSY [(0, 9)] M M' := by
  unfold b12_goesTo_174 at hf
  obtain ⟨v44, ev44, hf⟩ := lt_x hf
  exact hrc _ _ _ _ hf
theorem fqb12_goesTo_105   {rc : Nat → List Int32 → List Int64 → Mem → Option (Int32 × Mem)} {n : Nat} {r : Int32} {M' : Mem} (hrc : ∀ pc li lj M, rc pc li lj M = some (r, M') → Fq CSY [(0, 9)] M M') {i1 : Int32} {i2 : Int32} {i3 : Int32} {i5 : Int32} {i6 : Int32} {i7 : Int32} {M : Mem} (hf : b12_goesTo_105  rc n i1 i2 i3 i5 i6 i7 M = some (r, M')) : Fq CSY [(0, 9)] M M' := by
  unfold b12_goesTo_105 at hf
  by_cases c1 : (4 : Int32) ≤ i7
  · replace hf := ite_t c1 hf
    exact Fq.of hf
  · replace hf := ite_f c1 hf
    obtain ⟨r29, M30, g2, hf⟩ := bnd_s hf
    refine Fq.trans (Fq.mono (fq12_beside  g2) (by decide)) ?_
    by_cases c3 : r29 = (-1 : Int32)
    · replace hf := ite_t c3 hf
      exact fqb12_goesTo_174  hrc hf
    · replace hf := ite_f c3 hf
      obtain ⟨r33, M34, g4, hf⟩ := bnd_s hf
      refine Fq.trans (Fq.mono (fq12_isOpen  g4) (by decide)) ?_
      by_cases c5 : r33 = 0
      · replace hf := ite_t c5 hf
        exact fqb12_goesTo_174  hrc hf
      · replace hf := ite_f c5 hf
        obtain ⟨r37, M38, g6, hf⟩ := bnd_s hf
        refine Fq.trans (Fq.mono (fq12_feelsAt  g6) (by decide)) ?_
        obtain ⟨r40, M41, g7, hf⟩ := bnd_s hf
        refine Fq.trans (Fq.mono (fq12_byLaw  g7) (by decide)) ?_
        by_cases c8 : i6 < r40
        · replace hf := ite_t c8 hf
          exact fqb12_goesTo_174  hrc hf
        · replace hf := ite_f c8 hf
          exact fqb12_goesTo_174  hrc hf
theorem fqb12_goesTo_78   {rc : Nat → List Int32 → List Int64 → Mem → Option (Int32 × Mem)} {n : Nat} {r : Int32} {M' : Mem} (hrc : ∀ pc li lj M, rc pc li lj M = some (r, M') → Fq CSY [(0, 9)] M M') {i1 : Int32} {i2 : Int32} {i3 : Int32} {M : Mem} (hf : b12_goesTo_78  rc n i1 i2 i3 M = some (r, M')) : Fq CSY [(0, 9)] M M' := by
  unfold b12_goesTo_78 at hf
  obtain ⟨r21, M22, g1, hf⟩ := bnd_s hf
  refine Fq.trans (Fq.mono (fq12_feelsAt  g1) (by decide)) ?_
  obtain ⟨r24, M25, g2, hf⟩ := bnd_s hf
  refine Fq.trans (Fq.mono (fq12_holdsAny  g2) (by decide)) ?_
  by_cases c3 : r24 = 0
  · replace hf := ite_t c3 hf
    exact fqb12_goesTo_105  hrc hf
  · replace hf := ite_f c3 hf
    exact Fq.of hf
theorem fqb12_goesTo_62   {rc : Nat → List Int32 → List Int64 → Mem → Option (Int32 × Mem)} {n : Nat} {r : Int32} {M' : Mem} (hrc : ∀ pc li lj M, rc pc li lj M = some (r, M') → Fq CSY [(0, 9)] M M') {i3 : Int32} {i4 : Int32} {i5 : Int32} {M : Mem} (hf : b12_goesTo_62  rc n i3 i4 i5 M = some (r, M')) : Fq CSY [(0, 9)] M M' := by
  unfold b12_goesTo_62 at hf
  obtain ⟨v20, ev20, hf⟩ := lt_x hf
  exact hrc _ _ _ _ hf
theorem fqb12_goesTo_31   {rc : Nat → List Int32 → List Int64 → Mem → Option (Int32 × Mem)} {n : Nat} {r : Int32} {M' : Mem} (hrc : ∀ pc li lj M, rc pc li lj M = some (r, M') → Fq CSY [(0, 9)] M M') {i3 : Int32} {i4 : Int32} {i5 : Int32} {M : Mem} (hf : b12_goesTo_31  rc n i3 i4 i5 M = some (r, M')) : Fq CSY [(0, 9)] M M' := by
  unfold b12_goesTo_31 at hf
  obtain ⟨r6, M7, g1, hf⟩ := bnd_s hf
  refine Fq.trans (Fq.mono (fq12_beside  g1) (by decide)) ?_
  by_cases c2 : r6 = (-1 : Int32)
  · replace hf := ite_t c2 hf
    exact fqb12_goesTo_62  hrc hf
  · replace hf := ite_f c2 hf
    obtain ⟨r10, M11, g3, hf⟩ := bnd_s hf
    refine Fq.trans (Fq.mono (fq12_beside  g3) (by decide)) ?_
    obtain ⟨r13, M14, g4, hf⟩ := bnd_s hf
    refine Fq.trans (Fq.mono (fq12_steps  g4) (by decide)) ?_
    by_cases c5 : r13 = (i4 - (1 : Int32))
    · replace hf := ite_t c5 hf
      obtain ⟨r17, M18, g6, hf⟩ := bnd_s hf
      refine Fq.trans (Fq.mono (fq12_beside  g6) (by decide)) ?_
      exact Fq.of hf
    · replace hf := ite_f c5 hf
      exact fqb12_goesTo_62  hrc hf
theorem fqb12_goesTo_0   {rc : Nat → List Int32 → List Int64 → Mem → Option (Int32 × Mem)} {n : Nat} {r : Int32} {M' : Mem} (hrc : ∀ pc li lj M, rc pc li lj M = some (r, M') → Fq CSY [(0, 9)] M M') {a1 : Int32} {a2 : Int32} {a3 : Int32} {M : Mem} (hf : b12_goesTo_0  rc n a1 a2 a3 M = some (r, M')) : Fq CSY [(0, 9)] M M' := by
  unfold b12_goesTo_0 at hf
  obtain ⟨r1, M2, g1, hf⟩ := bnd_s hf
  refine Fq.trans (Fq.mono (fq12_steps  g1) (by decide)) ?_
  by_cases c2 : a3 = (M2.1 0 5)
  · replace hf := ite_t c2 hf
    exact fqb12_goesTo_78  hrc hf
  · replace hf := ite_f c2 hf
    by_cases c3 : r1 < ((59 : Int32) - a2)
    · replace hf := ite_t c3 hf
      exact fqb12_goesTo_78  hrc hf
    · replace hf := ite_f c3 hf
      exact fqb12_goesTo_31  hrc hf
theorem fql12_goesTo   {r : Int32} {M' : Mem} (n : Nat) : ∀ pc li lj M, r12_goesTo  n pc li lj M = some (r, M') → Fq CSY [(0, 9)] M M' := by
  induction n with
  | zero => intro pc li lj M hf; cases hf
  | succ n ih =>
    intro pc li lj M hf
    rw [r12_goesTo] at hf
    dsimp only at hf
    by_cases c31 : pc = 31
    · replace hf := ite_t c31 hf
      split at hf
      · exact fqb12_goesTo_31  ih hf
      · cases hf
    replace hf := ite_f c31 hf
    by_cases c105 : pc = 105
    · replace hf := ite_t c105 hf
      split at hf
      · exact fqb12_goesTo_105  ih hf
      · cases hf
    replace hf := ite_f c105 hf
    cases hf
theorem fq12_goesTo   {n : Nat} {a1 : Int32} {a2 : Int32} {a3 : Int32} {M M' : Mem} {r : Int32} (hf : f12_goesTo n  a1 a2 a3 M = some (r, M')) : Fq CSY [(0, 9)] M M' := fqb12_goesTo_0  (fql12_goesTo  n) hf
theorem fqb12_dayGoes_243   {rc : Nat → List Int32 → List Int64 → Mem → Option (Unit × Mem)} {n : Nat} {r : Unit} {M' : Mem} (hrc : ∀ pc li lj M, rc pc li lj M = some (r, M') → Fq CSY [(0, 9), (0, 37), (0, 38), (0, 39)] M M')  {M : Mem} (hf : b12_dayGoes_243  rc n  M = some (r, M')) : Fq CSY [(0, 9), (0, 37), (0, 38), (0, 39)] M M' := by
  unfold b12_dayGoes_243 at hf
  replace hf := chk_2 hf
  replace hf := chk_2 hf
  obtain ⟨M57, eM57, hf⟩ := lt_x hf
  refine Fq_wIn eM57 (by decide) ?_
  exact Fq.of hf
theorem fqb12_dayGoes_190   {rc : Nat → List Int32 → List Int64 → Mem → Option (Unit × Mem)} {n : Nat} {r : Unit} {M' : Mem} (hrc : ∀ pc li lj M, rc pc li lj M = some (r, M') → Fq CSY [(0, 9), (0, 37), (0, 38), (0, 39)] M M') {i1 : Int32} {M : Mem} (hf : b12_dayGoes_190  rc n i1 M = some (r, M')) : Fq CSY [(0, 9), (0, 37), (0, 38), (0, 39)] M M' := by
  unfold b12_dayGoes_190 at hf
  replace hf := chk_2 hf
  obtain ⟨M47, eM47, hf⟩ := lt_x hf
  refine Fq_wI eM47 (by decide) ?_
  replace hf := chk_2 hf
  obtain ⟨r49, M50, g1, hf⟩ := bnd_s hf
  refine Fq.trans (Fq.mono (fq12_bits  g1) (by decide)) ?_
  obtain ⟨M52, eM52, hf⟩ := lt_x hf
  refine Fq_wI eM52 (by decide) ?_
  by_cases c2 : i1 = (-2 : Int32)
  · replace hf := ite_t c2 hf
    exact fqb12_dayGoes_243  hrc hf
  · replace hf := ite_f c2 hf
    obtain ⟨M54, eM54, hf⟩ := lt_x hf
    refine Fq_wI eM54 (by decide) ?_
    exact fqb12_dayGoes_243  hrc hf
theorem fqb12_dayGoes_171   {rc : Nat → List Int32 → List Int64 → Mem → Option (Unit × Mem)} {n : Nat} {r : Unit} {M' : Mem} (hrc : ∀ pc li lj M, rc pc li lj M = some (r, M') → Fq CSY [(0, 9), (0, 37), (0, 38), (0, 39)] M M') {i1 : Int32} {i3 : Int32} {i4 : Int32} {M : Mem} (hf : b12_dayGoes_171  rc n i1 i3 i4 M = some (r, M')) : Fq CSY [(0, 9), (0, 37), (0, 38), (0, 39)] M M' := by
  unfold b12_dayGoes_171 at hf
  replace hf := chk_2 hf
  obtain ⟨M44, eM44, hf⟩ := lt_x hf
  refine Fq_wIn eM44 (by decide) ?_
  obtain ⟨v45, ev45, hf⟩ := lt_x hf
  exact hrc _ _ _ _ hf
theorem fqb12_dayGoes_48   {rc : Nat → List Int32 → List Int64 → Mem → Option (Unit × Mem)} {n : Nat} {r : Unit} {M' : Mem} (hrc : ∀ pc li lj M, rc pc li lj M = some (r, M') → Fq CSY [(0, 9), (0, 37), (0, 38), (0, 39)] M M') {i1 : Int32} {i2 : Int32} {i3 : Int32} {M : Mem} (hf : b12_dayGoes_48  rc n i1 i2 i3 M = some (r, M')) : Fq CSY [(0, 9), (0, 37), (0, 38), (0, 39)] M M' := by
  unfold b12_dayGoes_48 at hf
  by_cases c1 : (60 : Int32) ≤ i3
  · replace hf := ite_t c1 hf
    exact fqb12_dayGoes_190  hrc hf
  · replace hf := ite_f c1 hf
    by_cases c2 : i1 = (-2 : Int32)
    · replace hf := ite_t c2 hf
      exact fqb12_dayGoes_190  hrc hf
    · replace hf := ite_f c2 hf
      obtain ⟨r15, M16, g3, hf⟩ := bnd_s hf
      refine Fq.trans (Fq.mono (fq12_goesTo  g3) (by decide)) ?_
      by_cases c4 : r15 = i2
      · replace hf := ite_t c4 hf
        exact fqb12_dayGoes_171  hrc hf
      · replace hf := ite_f c4 hf
        replace hf := chk_2 hf
        replace hf := chk_2 hf
        obtain ⟨M21, eM21, hf⟩ := lt_x hf
        refine Fq_wIn eM21 (by decide) ?_
        replace hf := chk_2 hf
        obtain ⟨r23, M24, g5, hf⟩ := bnd_s hf
        refine Fq.trans (Fq.mono (fq12_min  g5) (by decide)) ?_
        replace hf := chk_2 hf
        obtain ⟨M27, eM27, hf⟩ := lt_x hf
        refine Fq_wIn eM27 (by decide) ?_
        replace hf := chk_2 hf
        obtain ⟨r29, M30, g6, hf⟩ := bnd_s hf
        refine Fq.trans (Fq.mono (fq12_doorsIn  g6) (by decide)) ?_
        replace hf := chk_2 hf
        obtain ⟨M33, eM33, hf⟩ := lt_x hf
        refine Fq_wIn eM33 (by decide) ?_
        replace hf := chk_2 hf
        obtain ⟨r35, M36, g7, hf⟩ := bnd_s hf
        refine Fq.trans (Fq.mono (fq12_steps  g7) (by decide)) ?_
        obtain ⟨r38, M39, g8, hf⟩ := bnd_s hf
        refine Fq.trans (Fq.mono (fq12_max  g8) (by decide)) ?_
        replace hf := chk_2 hf
        obtain ⟨M42, eM42, hf⟩ := lt_x hf
        refine Fq_wIn eM42 (by decide) ?_
        exact fqb12_dayGoes_171  hrc hf
theorem fqb12_dayGoes_0   {rc : Nat → List Int32 → List Int64 → Mem → Option (Unit × Mem)} {n : Nat} {r : Unit} {M' : Mem} (hrc : ∀ pc li lj M, rc pc li lj M = some (r, M') → Fq CSY [(0, 9), (0, 37), (0, 38), (0, 39)] M M')  {M : Mem} (hf : b12_dayGoes_0  rc n  M = some (r, M')) : Fq CSY [(0, 9), (0, 37), (0, 38), (0, 39)] M M' := by
  unfold b12_dayGoes_0 at hf
  obtain ⟨r1, M2, g1, hf⟩ := bnd_s hf
  refine Fq.trans (Fq.mono (fq12_drawsHour  g1) (by decide)) ?_
  replace hf := chk_2 hf
  obtain ⟨M5, eM5, hf⟩ := lt_x hf
  refine Fq_wIn eM5 (by decide) ?_
  replace hf := chk_2 hf
  obtain ⟨M7, eM7, hf⟩ := lt_x hf
  refine Fq_wIn eM7 (by decide) ?_
  replace hf := chk_2 hf
  obtain ⟨M9, eM9, hf⟩ := lt_x hf
  refine Fq_wIn eM9 (by decide) ?_
  replace hf := chk_2 hf
  obtain ⟨M11, eM11, hf⟩ := lt_x hf
  refine Fq_wIn eM11 (by decide) ?_
  obtain ⟨v12, ev12, hf⟩ := lt_x hf
  exact fqb12_dayGoes_48  hrc hf
theorem fql12_dayGoes   {r : Unit} {M' : Mem} (n : Nat) : ∀ pc li lj M, r12_dayGoes  n pc li lj M = some (r, M') → Fq CSY [(0, 9), (0, 37), (0, 38), (0, 39)] M M' := by
  induction n with
  | zero => intro pc li lj M hf; cases hf
  | succ n ih =>
    intro pc li lj M hf
    rw [r12_dayGoes] at hf
    dsimp only at hf
    by_cases c48 : pc = 48
    · replace hf := ite_t c48 hf
      split at hf
      · exact fqb12_dayGoes_48  ih hf
      · cases hf
    replace hf := ite_f c48 hf
    cases hf
theorem fq12_dayGoes   {n : Nat}  {M M' : Mem} {r : Unit} (hf : f12_dayGoes n   M = some (r, M')) : Fq CSY [(0, 9), (0, 37), (0, 38), (0, 39)] M M' := fqb12_dayGoes_0  (fql12_dayGoes  n) hf
theorem fqb12_daysGo_58   {rc : Nat → List Int32 → List Int64 → Mem → Option (Int32 × Mem)} {n : Nat} {r : Int32} {M' : Mem} (hrc : ∀ pc li lj M, rc pc li lj M = some (r, M') → Fq CSY [(0, 9), (0, 37), (0, 38), (0, 39)] M M') {i2 : Int32} {M : Mem} (hf : b12_daysGo_58  rc n i2 M = some (r, M')) : Fq CSY [(0, 9), (0, 37), (0, 38), (0, 39)] M M' := by
  unfold b12_daysGo_58 at hf
  exact Fq.of hf
theorem fqb12_daysGo_20   {rc : Nat → List Int32 → List Int64 → Mem → Option (Int32 × Mem)} {n : Nat} {r : Int32} {M' : Mem} (hrc : ∀ pc li lj M, rc pc li lj M = some (r, M') → Fq CSY [(0, 9), (0, 37), (0, 38), (0, 39)] M M') {i1 : Int32} {i2 : Int32} {i3 : Int32} {M : Mem} (hf : b12_daysGo_20  rc n i1 i2 i3 M = some (r, M')) : Fq CSY [(0, 9), (0, 37), (0, 38), (0, 39)] M M' := by
  unfold b12_daysGo_20 at hf
  by_cases c1 : i1 ≤ i3
  · replace hf := ite_t c1 hf
    exact fqb12_daysGo_58  hrc hf
  · replace hf := ite_f c1 hf
    replace hf := chk_2 hf
    by_cases c2 : (9999 : Int32) ≤ (M.1 1 (160 : Int32).toNatClampNeg)
    · replace hf := ite_t c2 hf
      exact fqb12_daysGo_58  hrc hf
    · replace hf := ite_f c2 hf
      obtain ⟨r7, M8, g3, hf⟩ := bnd_s hf
      refine Fq.trans (Fq.mono (fq12_dayGoes  g3) (by decide)) ?_
      replace hf := chk_2 hf
      obtain ⟨v11, ev11, hf⟩ := lt_x hf
      obtain ⟨v12, ev12, hf⟩ := lt_x hf
      exact hrc _ _ _ _ hf
theorem fqb12_daysGo_0   {rc : Nat → List Int32 → List Int64 → Mem → Option (Int32 × Mem)} {n : Nat} {r : Int32} {M' : Mem} (hrc : ∀ pc li lj M, rc pc li lj M = some (r, M') → Fq CSY [(0, 9), (0, 37), (0, 38), (0, 39)] M M') {a1 : Int32} {M : Mem} (hf : b12_daysGo_0  rc n a1 M = some (r, M')) : Fq CSY [(0, 9), (0, 37), (0, 38), (0, 39)] M M' := by
  unfold b12_daysGo_0 at hf
  obtain ⟨M1, eM1, hf⟩ := lt_x hf
  refine Fq_wI eM1 (by decide) ?_
  obtain ⟨M2, eM2, hf⟩ := lt_x hf
  refine Fq_wI eM2 (by decide) ?_
  obtain ⟨M3, eM3, hf⟩ := lt_x hf
  refine Fq_wI eM3 (by decide) ?_
  exact fqb12_daysGo_20  hrc hf
theorem fql12_daysGo   {r : Int32} {M' : Mem} (n : Nat) : ∀ pc li lj M, r12_daysGo  n pc li lj M = some (r, M') → Fq CSY [(0, 9), (0, 37), (0, 38), (0, 39)] M M' := by
  induction n with
  | zero => intro pc li lj M hf; cases hf
  | succ n ih =>
    intro pc li lj M hf
    rw [r12_daysGo] at hf
    dsimp only at hf
    by_cases c20 : pc = 20
    · replace hf := ite_t c20 hf
      split at hf
      · exact fqb12_daysGo_20  ih hf
      · cases hf
    replace hf := ite_f c20 hf
    cases hf
theorem fq12_daysGo   {n : Nat} {a1 : Int32} {M M' : Mem} {r : Int32} (hf : f12_daysGo n  a1 M = some (r, M')) : Fq CSY [(0, 9), (0, 37), (0, 38), (0, 39)] M M' := fqb12_daysGo_0  (fql12_daysGo  n) hf
theorem fqb12_days_0   {rc : Nat → List Int32 → List Int64 → Mem → Option (Int32 × Mem)} {n : Nat} {r : Int32} {M' : Mem} (hrc : ∀ pc li lj M, rc pc li lj M = some (r, M') → Fq CSY [(0, 9), (0, 37), (0, 38), (0, 39)] M M') {a1 : Int32} {M : Mem} (hf : b12_days_0  rc n a1 M = some (r, M')) : Fq CSY [(0, 9), (0, 37), (0, 38), (0, 39)] M M' := by
  unfold b12_days_0 at hf
  obtain ⟨r1, M2, g1, hf⟩ := bnd_s hf
  refine Fq.trans (Fq.mono (fq12_in  g1) (by decide)) ?_
  by_cases c2 : r1 = 0
  · replace hf := ite_t c2 hf
    exact Fq.of hf
  · replace hf := ite_f c2 hf
    obtain ⟨r5, M6, g3, hf⟩ := bnd_s hf
    refine Fq.trans (Fq.mono (fq12_daysGo  g3) (by decide)) ?_
    exact Fq.of hf
theorem fq12_days   {n : Nat} {a1 : Int32} {M M' : Mem} {r : Int32} (hf : f12_days n  a1 M = some (r, M')) : Fq CSY [(0, 9), (0, 37), (0, 38), (0, 39)] M M' := fqb12_days_0  (fun _ _ _ _ h => by cases h) hf
theorem fqb12_tried_31   {rc : Nat → List Int32 → List Int64 → Mem → Option (Int32 × Mem)} {n : Nat} {r : Int32} {M' : Mem} (hrc : ∀ pc li lj M, rc pc li lj M = some (r, M') → Fq CSY [(0, 9), (0, 37), (0, 38), (0, 39)] M M')  {M : Mem} (hf : b12_tried_31  rc n  M = some (r, M')) : Fq CSY [(0, 9), (0, 37), (0, 38), (0, 39)] M M' := by
  unfold b12_tried_31 at hf
  exact Fq.of hf
theorem fqb12_tried_126   {rc : Nat → List Int32 → List Int64 → Mem → Option (Int32 × Mem)} {n : Nat} {r : Int32} {M' : Mem} (hrc : ∀ pc li lj M, rc pc li lj M = some (r, M') → Fq CSY [(0, 9), (0, 37), (0, 38), (0, 39)] M M') {i4 : Int32} {M : Mem} (hf : b12_tried_126  rc n i4 M = some (r, M')) : Fq CSY [(0, 9), (0, 37), (0, 38), (0, 39)] M M' := by
  unfold b12_tried_126 at hf
  obtain ⟨r28, M29, g1, hf⟩ := bnd_s hf
  refine Fq.trans (Fq.mono (fq12_copies (by decide) g1) (by decide)) ?_
  exact Fq.of hf
theorem fqb12_tried_33   {rc : Nat → List Int32 → List Int64 → Mem → Option (Int32 × Mem)} {n : Nat} {r : Int32} {M' : Mem} (hrc : ∀ pc li lj M, rc pc li lj M = some (r, M') → Fq CSY [(0, 9), (0, 37), (0, 38), (0, 39)] M M') {i1 : Int32} {i2 : Int32} {M : Mem} (hf : b12_tried_33  rc n i1 i2 M = some (r, M')) : Fq CSY [(0, 9), (0, 37), (0, 38), (0, 39)] M M' := by
  unfold b12_tried_33 at hf
  obtain ⟨r13, M14, g1, hf⟩ := bnd_s hf
  refine Fq.trans (Fq.mono (fq12_copies (by decide) g1) (by decide)) ?_
  obtain ⟨r16, M17, g2, hf⟩ := bnd_s hf
  refine Fq.trans (Fq.mono (fq12_daysGo  g2) (by decide)) ?_
  by_cases c3 : i2 = (0 : Int32)
  · replace hf := ite_t c3 hf
    obtain ⟨v20, ev20, hf⟩ := lt_x hf
    exact fqb12_tried_126  hrc hf
  · replace hf := ite_f c3 hf
    by_cases c4 : i2 = (1 : Int32)
    · replace hf := ite_t c4 hf
      obtain ⟨v22, ev22, hf⟩ := lt_x hf
      exact fqb12_tried_126  hrc hf
    · replace hf := ite_f c4 hf
      by_cases c5 : i2 = (2 : Int32)
      · replace hf := ite_t c5 hf
        obtain ⟨v24, ev24, hf⟩ := lt_x hf
        exact fqb12_tried_126  hrc hf
      · replace hf := ite_f c5 hf
        by_cases c6 : i2 = (3 : Int32)
        · replace hf := ite_t c6 hf
          exact fqb12_tried_126  hrc hf
        · replace hf := ite_f c6 hf
          replace hf := chk_2 hf
          obtain ⟨v27, ev27, hf⟩ := lt_x hf
          exact fqb12_tried_126  hrc hf
theorem fqb12_tried_0   {rc : Nat → List Int32 → List Int64 → Mem → Option (Int32 × Mem)} {n : Nat} {r : Int32} {M' : Mem} (hrc : ∀ pc li lj M, rc pc li lj M = some (r, M') → Fq CSY [(0, 9), (0, 37), (0, 38), (0, 39)] M M') {a1 : Int32} {a2 : Int32} {M : Mem} (hf : b12_tried_0  rc n a1 a2 M = some (r, M')) : Fq CSY [(0, 9), (0, 37), (0, 38), (0, 39)] M M' := by
  unfold b12_tried_0 at hf
  obtain ⟨r1, M2, g1, hf⟩ := bnd_s hf
  refine Fq.trans (Fq.mono (fq12_in  g1) (by decide)) ?_
  by_cases c2 : r1 = 0
  · replace hf := ite_t c2 hf
    exact fqb12_tried_31  hrc hf
  · replace hf := ite_f c2 hf
    obtain ⟨r5, M6, g3, hf⟩ := bnd_s hf
    refine Fq.trans (Fq.mono (fq12_in  g3) (by decide)) ?_
    by_cases c4 : r5 = 0
    · replace hf := ite_t c4 hf
      obtain ⟨r9, M10, g5, hf⟩ := bnd_s hf
      refine Fq.trans (Fq.mono (fq12_in  g5) (by decide)) ?_
      by_cases c6 : r9 = 0
      · replace hf := ite_t c6 hf
        exact fqb12_tried_31  hrc hf
      · replace hf := ite_f c6 hf
        exact fqb12_tried_33  hrc hf
    · replace hf := ite_f c4 hf
      exact fqb12_tried_33  hrc hf
theorem fq12_tried   {n : Nat} {a1 : Int32} {a2 : Int32} {M M' : Mem} {r : Int32} (hf : f12_tried n  a1 a2 M = some (r, M')) : Fq CSY [(0, 9), (0, 37), (0, 38), (0, 39)] M M' := fqb12_tried_0  (fun _ _ _ _ h => by cases h) hf
theorem fqb12_placeIs_0   {rc : Nat → List Int32 → List Int64 → Mem → Option (Int32 × Mem)} {n : Nat} {r : Int32} {M' : Mem} (hrc : ∀ pc li lj M, rc pc li lj M = some (r, M') → Fq CSY [(0, 9)] M M') {a1 : Int32} {a2 : Int32} {a3 : Int32} {M : Mem} (hf : b12_placeIs_0  rc n a1 a2 a3 M = some (r, M')) : Fq CSY [(0, 9)] M M' := by
  unfold b12_placeIs_0 at hf
  obtain ⟨r1, M2, g1, hf⟩ := bnd_s hf
  refine Fq.trans (Fq.mono (fq12_isPlace  g1) (by decide)) ?_
  by_cases c2 : r1 = 0
  · replace hf := ite_t c2 hf
    exact Fq.of hf
  · replace hf := ite_f c2 hf
    obtain ⟨v5, ev5, hf⟩ := lt_x hf
    by_cases c3 : a3 = (0 : Int32)
    · replace hf := ite_t c3 hf
      obtain ⟨r7, M8, g4, hf⟩ := bnd_s hf
      refine Fq.trans (Fq.mono (fq12_isOpen  g4) (by decide)) ?_
      by_cases c5 : r7 = 0
      · replace hf := ite_t c5 hf
        have h6 := chk_1 hf
        replace hf := chk_2 hf
        exact Fq.of hf
      · replace hf := ite_f c5 hf
        exact Fq.of hf
    · replace hf := ite_f c3 hf
      by_cases c7 : a3 = (1 : Int32)
      · replace hf := ite_t c7 hf
        replace hf := chk_2 hf
        exact Fq.of hf
      · replace hf := ite_f c7 hf
        by_cases c8 : a3 = (2 : Int32)
        · replace hf := ite_t c8 hf
          obtain ⟨r15, M16, g9, hf⟩ := bnd_s hf
          refine Fq.trans (Fq.mono (fq12_steps  g9) (by decide)) ?_
          exact Fq.of hf
        · replace hf := ite_f c8 hf
          by_cases c10 : a3 = (3 : Int32)
          · replace hf := ite_t c10 hf
            obtain ⟨r19, M20, g11, hf⟩ := bnd_s hf
            refine Fq.trans (Fq.mono (fq12_toDoorNine  g11) (by decide)) ?_
            exact Fq.of hf
          · replace hf := ite_f c10 hf
            by_cases c12 : a3 = (4 : Int32)
            · replace hf := ite_t c12 hf
              obtain ⟨r23, M24, g13, hf⟩ := bnd_s hf
              refine Fq.trans (Fq.mono (fq12_neighbours  g13) (by decide)) ?_
              exact Fq.of hf
            · replace hf := ite_f c12 hf
              exact Fq.of hf
theorem fq12_placeIs   {n : Nat} {a1 : Int32} {a2 : Int32} {a3 : Int32} {M M' : Mem} {r : Int32} (hf : f12_placeIs n  a1 a2 a3 M = some (r, M')) : Fq CSY [(0, 9)] M M' := fqb12_placeIs_0  (fun _ _ _ _ h => by cases h) hf
theorem fqb12_gcd_4   {rc : Nat → List Int32 → List Int64 → Mem → Option (Int32 × Mem)} {n : Nat} {r : Int32} {M' : Mem} (hrc : ∀ pc li lj M, rc pc li lj M = some (r, M') → Fq CSY [] M M') {i2 : Int32} {i3 : Int32} {M : Mem} (hf : b12_gcd_4  rc n i2 i3 M = some (r, M')) : Fq CSY [] M M' := by
  unfold b12_gcd_4 at hf
  by_cases c1 : i3 = 0
  · replace hf := ite_t c1 hf
    exact Fq.of hf
  · replace hf := ite_f c1 hf
    replace hf := chk_2 hf
    obtain ⟨v3, ev3, hf⟩ := lt_x hf
    exact hrc _ _ _ _ hf
theorem fqb12_gcd_0   {rc : Nat → List Int32 → List Int64 → Mem → Option (Int32 × Mem)} {n : Nat} {r : Int32} {M' : Mem} (hrc : ∀ pc li lj M, rc pc li lj M = some (r, M') → Fq CSY [] M M') {a0 : Int32} {a1 : Int32} {M : Mem} (hf : b12_gcd_0  rc n a0 a1 M = some (r, M')) : Fq CSY [] M M' := by
  unfold b12_gcd_0 at hf
  exact fqb12_gcd_4  hrc hf
theorem fql12_gcd   {r : Int32} {M' : Mem} (n : Nat) : ∀ pc li lj M, r12_gcd  n pc li lj M = some (r, M') → Fq CSY [] M M' := by
  induction n with
  | zero => intro pc li lj M hf; cases hf
  | succ n ih =>
    intro pc li lj M hf
    rw [r12_gcd] at hf
    dsimp only at hf
    by_cases c4 : pc = 4
    · replace hf := ite_t c4 hf
      split at hf
      · exact fqb12_gcd_4  ih hf
      · cases hf
    replace hf := ite_f c4 hf
    cases hf
theorem fq12_gcd   {n : Nat} {a0 : Int32} {a1 : Int32} {M M' : Mem} {r : Int32} (hf : f12_gcd n  a0 a1 M = some (r, M')) : Fq CSY [] M M' := fqb12_gcd_0  (fql12_gcd  n) hf
theorem fqb12_laysWeights_35   {rc : Nat → List Int32 → List Int64 → Mem → Option (Int32 × Mem)} {n : Nat} {r : Int32} {M' : Mem} (hrc : ∀ pc li lj M, rc pc li lj M = some (r, M') → Fq CSY [] M M') {i1 : Int32} {i2 : Int32} {s1 : Int32} {s2 : Int32} {M : Mem} (hf : b12_laysWeights_35  rc n i1 i2 s1 s2 M = some (r, M')) : Fq CSY [] M M' := by
  unfold b12_laysWeights_35 at hf
  replace hf := chk_2 hf
  obtain ⟨M10, eM10, hf⟩ := lt_x hf
  refine Fq_wIn eM10 (by decide) ?_
  replace hf := chk_2 hf
  obtain ⟨r12, M13, g1, hf⟩ := bnd_s hf
  refine Fq.trans (Fq.mono (fq12_max  g1) (by decide)) ?_
  obtain ⟨v15, ev15, hf⟩ := lt_x hf
  obtain ⟨v16, ev16, hf⟩ := lt_x hf
  exact hrc _ _ _ _ hf
theorem fqb12_laysWeights_4   {rc : Nat → List Int32 → List Int64 → Mem → Option (Int32 × Mem)} {n : Nat} {r : Int32} {M' : Mem} (hrc : ∀ pc li lj M, rc pc li lj M = some (r, M') → Fq CSY [] M M') {i1 : Int32} {i2 : Int32} {M : Mem} (hf : b12_laysWeights_4  rc n i1 i2 M = some (r, M')) : Fq CSY [] M M' := by
  unfold b12_laysWeights_4 at hf
  by_cases c1 : (24 : Int32) ≤ i2
  · replace hf := ite_t c1 hf
    exact Fq.of hf
  · replace hf := ite_f c1 hf
    obtain ⟨r2, M3, g2, hf⟩ := bnd_s hf
    refine Fq.trans (Fq.mono (fq12_has  g2) (by decide)) ?_
    by_cases c3 : r2 = 0
    · replace hf := ite_t c3 hf
      obtain ⟨r6, M7, g4, hf⟩ := bnd_s hf
      refine Fq.trans (Fq.mono (fq12_weightOf  g4) (by decide)) ?_
      exact fqb12_laysWeights_35  hrc hf
    · replace hf := ite_f c3 hf
      exact fqb12_laysWeights_35  hrc hf
theorem fqb12_laysWeights_0   {rc : Nat → List Int32 → List Int64 → Mem → Option (Int32 × Mem)} {n : Nat} {r : Int32} {M' : Mem} (hrc : ∀ pc li lj M, rc pc li lj M = some (r, M') → Fq CSY [] M M')  {M : Mem} (hf : b12_laysWeights_0  rc n  M = some (r, M')) : Fq CSY [] M M' := by
  unfold b12_laysWeights_0 at hf
  exact fqb12_laysWeights_4  hrc hf
theorem fql12_laysWeights   {r : Int32} {M' : Mem} (n : Nat) : ∀ pc li lj M, r12_laysWeights  n pc li lj M = some (r, M') → Fq CSY [] M M' := by
  induction n with
  | zero => intro pc li lj M hf; cases hf
  | succ n ih =>
    intro pc li lj M hf
    rw [r12_laysWeights] at hf
    dsimp only at hf
    by_cases c4 : pc = 4
    · replace hf := ite_t c4 hf
      split at hf
      · exact fqb12_laysWeights_4  ih hf
      · cases hf
    replace hf := ite_f c4 hf
    cases hf
theorem fq12_laysWeights   {n : Nat}  {M M' : Mem} {r : Int32} (hf : f12_laysWeights n   M = some (r, M')) : Fq CSY [] M M' := fqb12_laysWeights_0  (fql12_laysWeights  n) hf
theorem fqb12_laysFraction_0   {rc : Nat → List Int32 → List Int64 → Mem → Option (Unit × Mem)} {n : Nat} {r : Unit} {M' : Mem} (hrc : ∀ pc li lj M, rc pc li lj M = some (r, M') → Fq CSY [(0, 41), (0, 42)] M M') {a1 : Int32} {a2 : Int32} {M : Mem} (hf : b12_laysFraction_0  rc n a1 a2 M = some (r, M')) : Fq CSY [(0, 41), (0, 42)] M M' := by
  unfold b12_laysFraction_0 at hf
  obtain ⟨r1, M2, g1, hf⟩ := bnd_s hf
  refine Fq.trans (Fq.mono (fq12_gcd  g1) (by decide)) ?_
  replace hf := chk_2 hf
  obtain ⟨M5, eM5, hf⟩ := lt_x hf
  refine Fq_wI eM5 (by decide) ?_
  replace hf := chk_2 hf
  obtain ⟨M7, eM7, hf⟩ := lt_x hf
  refine Fq_wI eM7 (by decide) ?_
  exact Fq.of hf
theorem fq12_laysFraction   {n : Nat} {a1 : Int32} {a2 : Int32} {M M' : Mem} {r : Unit} (hf : f12_laysFraction n  a1 a2 M = some (r, M')) : Fq CSY [(0, 41), (0, 42)] M M' := fqb12_laysFraction_0  (fun _ _ _ _ h => by cases h) hf
theorem fqb12_likely_19   {rc : Nat → List Int32 → List Int64 → Mem → Option (Int32 × Mem)} {n : Nat} {r : Int32} {M' : Mem} (hrc : ∀ pc li lj M, rc pc li lj M = some (r, M') → Fq CSY [(0, 41), (0, 42)] M M')  {M : Mem} (hf : b12_likely_19  rc n  M = some (r, M')) : Fq CSY [(0, 41), (0, 42)] M M' := by
  unfold b12_likely_19 at hf
  exact Fq.of hf
theorem fqb12_likely_40   {rc : Nat → List Int32 → List Int64 → Mem → Option (Int32 × Mem)} {n : Nat} {r : Int32} {M' : Mem} (hrc : ∀ pc li lj M, rc pc li lj M = some (r, M') → Fq CSY [(0, 41), (0, 42)] M M')  {M : Mem} (hf : b12_likely_40  rc n  M = some (r, M')) : Fq CSY [(0, 41), (0, 42)] M M' := by
  unfold b12_likely_40 at hf
  exact Fq.of hf
theorem fqb12_likely_0   {rc : Nat → List Int32 → List Int64 → Mem → Option (Int32 × Mem)} {n : Nat} {r : Int32} {M' : Mem} (hrc : ∀ pc li lj M, rc pc li lj M = some (r, M') → Fq CSY [(0, 41), (0, 42)] M M') {a1 : Int32} {a2 : Int32} {M : Mem} (hf : b12_likely_0  rc n a1 a2 M = some (r, M')) : Fq CSY [(0, 41), (0, 42)] M M' := by
  unfold b12_likely_0 at hf
  obtain ⟨r1, M2, g1, hf⟩ := bnd_s hf
  refine Fq.trans (Fq.mono (fq12_in  g1) (by decide)) ?_
  by_cases c2 : r1 = 0
  · replace hf := ite_t c2 hf
    exact fqb12_likely_19  hrc hf
  · replace hf := ite_f c2 hf
    obtain ⟨r5, M6, g3, hf⟩ := bnd_s hf
    refine Fq.trans (Fq.mono (fq12_in  g3) (by decide)) ?_
    by_cases c4 : r5 = 0
    · replace hf := ite_t c4 hf
      exact fqb12_likely_19  hrc hf
    · replace hf := ite_f c4 hf
      obtain ⟨r9, M10, g5, hf⟩ := bnd_s hf
      refine Fq.trans (Fq.mono (fq12_laysWeights  g5) (by decide)) ?_
      by_cases c6 : r9 = 0
      · replace hf := ite_t c6 hf
        exact fqb12_likely_40  hrc hf
      · replace hf := ite_f c6 hf
        replace hf := chk_2 hf
        by_cases c7 : (M10.1 23 a1.toNatClampNeg) = (-1 : Int32)
        · replace hf := ite_t c7 hf
          exact fqb12_likely_40  hrc hf
        · replace hf := ite_f c7 hf
          replace hf := chk_2 hf
          obtain ⟨r16, M17, g8, hf⟩ := bnd_s hf
          refine Fq.trans (Fq.mono (fq12_laysFraction  g8) (by decide)) ?_
          by_cases c9 : a2 = 0
          · replace hf := ite_t c9 hf
            exact Fq.of hf
          · replace hf := ite_f c9 hf
            exact Fq.of hf
theorem fq12_likely   {n : Nat} {a1 : Int32} {a2 : Int32} {M M' : Mem} {r : Int32} (hf : f12_likely n  a1 a2 M = some (r, M')) : Fq CSY [(0, 41), (0, 42)] M M' := fqb12_likely_0  (fun _ _ _ _ h => by cases h) hf
theorem fqb12_nextHour_53   {rc : Nat → List Int32 → List Int64 → Mem → Option (Int32 × Mem)} {n : Nat} {r : Int32} {M' : Mem} (hrc : ∀ pc li lj M, rc pc li lj M = some (r, M') → Fq CSY [] M M') {i1 : Int32} {i2 : Int32} {i3 : Int32} {M : Mem} (hf : b12_nextHour_53  rc n i1 i2 i3 M = some (r, M')) : Fq CSY [] M M' := by
  unfold b12_nextHour_53 at hf
  obtain ⟨v12, ev12, hf⟩ := lt_x hf
  exact hrc _ _ _ _ hf
theorem fqb12_nextHour_51   {rc : Nat → List Int32 → List Int64 → Mem → Option (Int32 × Mem)} {n : Nat} {r : Int32} {M' : Mem} (hrc : ∀ pc li lj M, rc pc li lj M = some (r, M') → Fq CSY [] M M') {i1 : Int32} {i3 : Int32} {M : Mem} (hf : b12_nextHour_51  rc n i1 i3 M = some (r, M')) : Fq CSY [] M M' := by
  unfold b12_nextHour_51 at hf
  exact fqb12_nextHour_53  hrc hf
theorem fqb12_nextHour_4   {rc : Nat → List Int32 → List Int64 → Mem → Option (Int32 × Mem)} {n : Nat} {r : Int32} {M' : Mem} (hrc : ∀ pc li lj M, rc pc li lj M = some (r, M') → Fq CSY [] M M') {i1 : Int32} {i2 : Int32} {i3 : Int32} {M : Mem} (hf : b12_nextHour_4  rc n i1 i2 i3 M = some (r, M')) : Fq CSY [] M M' := by
  unfold b12_nextHour_4 at hf
  by_cases c1 : (24 : Int32) ≤ i3
  · replace hf := ite_t c1 hf
    exact Fq.of hf
  · replace hf := ite_f c1 hf
    obtain ⟨r2, M3, g2, hf⟩ := bnd_s hf
    refine Fq.trans (Fq.mono (fq12_has  g2) (by decide)) ?_
    by_cases c3 : r2 = 0
    · replace hf := ite_t c3 hf
      replace hf := chk_2 hf
      by_cases c4 : (M3.1 23 i3.toNatClampNeg) = (-1 : Int32)
      · replace hf := ite_t c4 hf
        exact fqb12_nextHour_53  hrc hf
      · replace hf := ite_f c4 hf
        by_cases c5 : i2 = (-1 : Int32)
        · replace hf := ite_t c5 hf
          exact fqb12_nextHour_51  hrc hf
        · replace hf := ite_f c5 hf
          replace hf := chk_2 hf
          replace hf := chk_2 hf
          by_cases c6 : (M3.1 23 i3.toNatClampNeg) ≤ (M3.1 23 i2.toNatClampNeg)
          · replace hf := ite_t c6 hf
            exact fqb12_nextHour_53  hrc hf
          · replace hf := ite_f c6 hf
            exact fqb12_nextHour_51  hrc hf
    · replace hf := ite_f c3 hf
      exact fqb12_nextHour_53  hrc hf
theorem fqb12_nextHour_0   {rc : Nat → List Int32 → List Int64 → Mem → Option (Int32 × Mem)} {n : Nat} {r : Int32} {M' : Mem} (hrc : ∀ pc li lj M, rc pc li lj M = some (r, M') → Fq CSY [] M M') {a1 : Int32} {M : Mem} (hf : b12_nextHour_0  rc n a1 M = some (r, M')) : Fq CSY [] M M' := by
  unfold b12_nextHour_0 at hf
  exact fqb12_nextHour_4  hrc hf
theorem fql12_nextHour   {r : Int32} {M' : Mem} (n : Nat) : ∀ pc li lj M, r12_nextHour  n pc li lj M = some (r, M') → Fq CSY [] M M' := by
  induction n with
  | zero => intro pc li lj M hf; cases hf
  | succ n ih =>
    intro pc li lj M hf
    rw [r12_nextHour] at hf
    dsimp only at hf
    by_cases c4 : pc = 4
    · replace hf := ite_t c4 hf
      split at hf
      · exact fqb12_nextHour_4  ih hf
      · cases hf
    replace hf := ite_f c4 hf
    cases hf
theorem fq12_nextHour   {n : Nat} {a1 : Int32} {M M' : Mem} {r : Int32} (hf : f12_nextHour n  a1 M = some (r, M')) : Fq CSY [] M M' := fqb12_nextHour_0  (fql12_nextHour  n) hf
