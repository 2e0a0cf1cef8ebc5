theorem fb12_readsHour_104  {rc : Nat → List Int32 → List Int64 → Mem → Option (Int32 × Mem)} {n : Nat} {r : Int32} {M' : Mem} (hrc : ∀ pc li lj M, rc pc li lj M = some (r, M') → Fr [0] false M M')  {M : Mem} (hf : b12_readsHour_104  rc n  M = some (r, M')) : Fr [0] false M M' := by
  unfold b12_readsHour_104 at hf
  exact Fr.of hf
theorem fb12_readsHour_27  {rc : Nat → List Int32 → List Int64 → Mem → Option (Int32 × Mem)} {n : Nat} {r : Int32} {M' : Mem} (hrc : ∀ pc li lj M, rc pc li lj M = some (r, M') → Fr [0] false M M') {i1 : Int32} {M : Mem} (hf : b12_readsHour_27  rc n i1 M = some (r, M')) : Fr [0] false M M' := by
  unfold b12_readsHour_27 at hf
  obtain ⟨r11, M12, g1, hf⟩ := bnd_s hf
  refine Fr.trans (Fr.mono (fr12_isDigit g1) (by intro x hx; simp at hx) (by decide)) ?_
  by_cases c2 : r11 = 0
  · replace hf := ite_t c2 hf
    by_cases c3 : (M12.1 0 15) < (24 : Int32)
    · replace hf := ite_t c3 hf
      exact fb12_readsHour_104 hrc hf
    · replace hf := ite_f c3 hf
      obtain ⟨r16, M17, g4, hf⟩ := bnd_s hf
      refine Fr.trans (Fr.mono (fr12_wrongAt g4) (by intro x hx; left; simp at hx ⊢; omega) (by decide)) ?_
      by_cases c5 : r16 = 0
      · replace hf := ite_t c5 hf
        exact Fr.of hf
      · replace hf := ite_f c5 hf
        exact fb12_readsHour_104 hrc hf
  · replace hf := ite_f c2 hf
    by_cases c6 : (M12.1 0 12) = (i1 + (2 : Int32))
    · replace hf := ite_t c6 hf
      obtain ⟨r26, M27, g7, hf⟩ := bnd_s hf
      refine Fr.trans (Fr.mono (fr12_wrongAt g7) (by intro x hx; left; simp at hx ⊢; omega) (by decide)) ?_
      replace hf := chk_2 hf
      exact Fr.of hf
    · replace hf := ite_f c6 hf
      obtain ⟨r21, M22, g8, hf⟩ := bnd_s hf
      refine Fr.trans (Fr.mono (fr12_here g8) (by intro x hx; simp at hx) (by decide)) ?_
      obtain ⟨M24, eM24, hf⟩ := lt_x hf
      refine Fr.wI eM24 (by simp) ?_
      obtain ⟨M25, eM25, hf⟩ := lt_x hf
      refine Fr.wI eM25 (by simp) ?_
      exact hrc _ _ _ _ hf
theorem fb12_readsHour_0  {rc : Nat → List Int32 → List Int64 → Mem → Option (Int32 × Mem)} {n : Nat} {r : Int32} {M' : Mem} (hrc : ∀ pc li lj M, rc pc li lj M = some (r, M') → Fr [0] false M M')  {M : Mem} (hf : b12_readsHour_0  rc n  M = some (r, M')) : Fr [0] false M M' := by
  unfold b12_readsHour_0 at hf
  obtain ⟨v1, ev1, hf⟩ := lt_x hf
  obtain ⟨r2, M3, g1, hf⟩ := bnd_s hf
  refine Fr.trans (Fr.mono (fr12_isDigit g1) (by intro x hx; simp at hx) (by decide)) ?_
  by_cases c2 : r2 = 0
  · replace hf := ite_t c2 hf
    obtain ⟨r7, M8, g3, hf⟩ := bnd_s hf
    refine Fr.trans (Fr.mono (fr12_wrongAt g3) (by intro x hx; left; simp at hx ⊢; omega) (by decide)) ?_
    replace hf := chk_2 hf
    exact Fr.of hf
  · replace hf := ite_f c2 hf
    obtain ⟨M6, eM6, hf⟩ := lt_x hf
    refine Fr.wI eM6 (by simp) ?_
    exact fb12_readsHour_27 hrc hf
theorem fl12_readsHour  {r : Int32} {M' : Mem} (n : Nat) : ∀ pc li lj M, r12_readsHour  n pc li lj M = some (r, M') → Fr [0] false M M' := by
  induction n with
  | zero => intro pc li lj M hf; cases hf
  | succ n ih =>
    intro pc li lj M hf
    rw [r12_readsHour] at hf
    dsimp only at hf
    by_cases c27 : pc = 27
    · replace hf := ite_t c27 hf
      split at hf
      · exact fb12_readsHour_27 ih hf
      · cases hf
    replace hf := ite_f c27 hf
    cases hf
theorem fr12_readsHour  {n : Nat}  {M M' : Mem} {r : Int32} (hf : f12_readsHour n   M = some (r, M')) : Fr [0] false M M' := fb12_readsHour_0 (fl12_readsHour n) hf
theorem fb12_readsNote_184  {rc : Nat → List Int32 → List Int64 → Mem → Option (Int32 × Mem)} {n : Nat} {r : Int32} {M' : Mem} (hrc : ∀ pc li lj M, rc pc li lj M = some (r, M') → Fr [0] false M M') {i1 : Int32} {i2 : Int32} {i3 : Int32} {i4 : Int32} {s1 : Int32} {M : Mem} (hf : b12_readsNote_184  rc n i1 i2 i3 i4 s1 M = some (r, M')) : Fr [0] false M M' := by
  unfold b12_readsNote_184 at hf
  obtain ⟨M43, eM43, hf⟩ := lt_x hf
  refine Fr.wI eM43 (by simp) ?_
  obtain ⟨v44, ev44, hf⟩ := lt_x hf
  exact hrc _ _ _ _ hf
theorem fb12_readsNote_141  {rc : Nat → List Int32 → List Int64 → Mem → Option (Int32 × Mem)} {n : Nat} {r : Int32} {M' : Mem} (hrc : ∀ pc li lj M, rc pc li lj M = some (r, M') → Fr [0] false M M') {i1 : Int32} {i2 : Int32} {i3 : Int32} {i4 : Int32} {M : Mem} (hf : b12_readsNote_141  rc n i1 i2 i3 i4 M = some (r, M')) : Fr [0] false M M' := by
  unfold b12_readsNote_141 at hf
  by_cases c1 : i3 < i4
  · replace hf := ite_t c1 hf
    exact Fr.of hf
  · replace hf := ite_f c1 hf
    obtain ⟨v41, ev41, hf⟩ := lt_x hf
    by_cases c2 : i2 = (45 : Int32)
    · replace hf := ite_t c2 hf
      exact fb12_readsNote_184 hrc hf
    · replace hf := ite_f c2 hf
      exact fb12_readsNote_184 hrc hf
theorem fb12_readsNote_115  {rc : Nat → List Int32 → List Int64 → Mem → Option (Int32 × Mem)} {n : Nat} {r : Int32} {M' : Mem} (hrc : ∀ pc li lj M, rc pc li lj M = some (r, M') → Fr [0] false M M') {i1 : Int32} {i2 : Int32} {M : Mem} (hf : b12_readsNote_115  rc n i1 i2 M = some (r, M')) : Fr [0] false M M' := by
  unfold b12_readsNote_115 at hf
  obtain ⟨M38, eM38, hf⟩ := lt_x hf
  refine Fr.wI eM38 (by simp) ?_
  obtain ⟨v39, ev39, hf⟩ := lt_x hf
  exact fb12_readsNote_141 hrc hf
theorem fb12_readsNote_88  {rc : Nat → List Int32 → List Int64 → Mem → Option (Int32 × Mem)} {n : Nat} {r : Int32} {M' : Mem} (hrc : ∀ pc li lj M, rc pc li lj M = some (r, M') → Fr [0] false M M') {i1 : Int32} {M : Mem} (hf : b12_readsNote_88  rc n i1 M = some (r, M')) : Fr [0] false M M' := by
  unfold b12_readsNote_88 at hf
  obtain ⟨r29, M30, g1, hf⟩ := bnd_s hf
  refine Fr.trans (Fr.mono (fr12_here g1) (by intro x hx; simp at hx) (by decide)) ?_
  by_cases c2 : r29 = (45 : Int32)
  · replace hf := ite_t c2 hf
    exact fb12_readsNote_115 hrc hf
  · replace hf := ite_f c2 hf
    by_cases c3 : r29 = (63 : Int32)
    · replace hf := ite_t c3 hf
      exact fb12_readsNote_115 hrc hf
    · replace hf := ite_f c3 hf
      obtain ⟨r34, M35, g4, hf⟩ := bnd_s hf
      refine Fr.trans (Fr.mono (fr12_wrongAt g4) (by intro x hx; left; simp at hx ⊢; omega) (by decide)) ?_
      replace hf := chk_2 hf
      exact Fr.of hf
theorem fb12_readsNote_0  {rc : Nat → List Int32 → List Int64 → Mem → Option (Int32 × Mem)} {n : Nat} {r : Int32} {M' : Mem} (hrc : ∀ pc li lj M, rc pc li lj M = some (r, M') → Fr [0] false M M')  {M : Mem} (hf : b12_readsNote_0  rc n  M = some (r, M')) : Fr [0] false M M' := by
  unfold b12_readsNote_0 at hf
  obtain ⟨r1, M2, g1, hf⟩ := bnd_s hf
  refine Fr.trans (Fr.mono (fr12_isDigit g1) (by intro x hx; simp at hx) (by decide)) ?_
  by_cases c2 : r1 = 0
  · replace hf := ite_t c2 hf
    obtain ⟨r25, M26, g3, hf⟩ := bnd_s hf
    refine Fr.trans (Fr.mono (fr12_wrongAt g3) (by intro x hx; left; simp at hx ⊢; omega) (by decide)) ?_
    replace hf := chk_2 hf
    exact Fr.of hf
  · replace hf := ite_f c2 hf
    by_cases c4 : (M2.1 0 36) = (24 : Int32)
    · replace hf := ite_t c4 hf
      obtain ⟨r21, M22, g5, hf⟩ := bnd_s hf
      refine Fr.trans (Fr.mono (fr12_wrongAt g5) (by intro x hx; left; simp at hx ⊢; omega) (by decide)) ?_
      replace hf := chk_2 hf
      exact Fr.of hf
    · replace hf := ite_f c4 hf
      obtain ⟨M6, eM6, hf⟩ := lt_x hf
      refine Fr.wI eM6 (by simp) ?_
      obtain ⟨r7, M8, g6, hf⟩ := bnd_s hf
      refine Fr.trans (Fr.mono (fr12_readsHour g6) (by intro x hx; left; simp at hx ⊢; omega) (by decide)) ?_
      by_cases c7 : r7 = 0
      · replace hf := ite_t c7 hf
        exact Fr.of hf
      · replace hf := ite_f c7 hf
        obtain ⟨v11, ev11, hf⟩ := lt_x hf
        obtain ⟨r12, M13, g8, hf⟩ := bnd_s hf
        refine Fr.trans (Fr.mono (fr12_here g8) (by intro x hx; simp at hx) (by decide)) ?_
        by_cases c9 : r12 = (58 : Int32)
        · replace hf := ite_t c9 hf
          obtain ⟨M16, eM16, hf⟩ := lt_x hf
          refine Fr.wI eM16 (by simp) ?_
          obtain ⟨r17, M18, g10, hf⟩ := bnd_s hf
          refine Fr.trans (Fr.mono (fr12_readsHour g10) (by intro x hx; left; simp at hx ⊢; omega) (by decide)) ?_
          by_cases c11 : r17 = 0
          · replace hf := ite_t c11 hf
            exact Fr.of hf
          · replace hf := ite_f c11 hf
            exact fb12_readsNote_88 hrc hf
        · replace hf := ite_f c9 hf
          exact fb12_readsNote_88 hrc hf
theorem fl12_readsNote  {r : Int32} {M' : Mem} (n : Nat) : ∀ pc li lj M, r12_readsNote  n pc li lj M = some (r, M') → Fr [0] false M M' := by
  induction n with
  | zero => intro pc li lj M hf; cases hf
  | succ n ih =>
    intro pc li lj M hf
    rw [r12_readsNote] at hf
    dsimp only at hf
    by_cases c141 : pc = 141
    · replace hf := ite_t c141 hf
      split at hf
      · exact fb12_readsNote_141 ih hf
      · cases hf
    replace hf := ite_f c141 hf
    cases hf
theorem fr12_readsNote  {n : Nat}  {M M' : Mem} {r : Int32} (hf : f12_readsNote n   M = some (r, M')) : Fr [0] false M M' := fb12_readsNote_0 (fl12_readsNote n) hf
theorem fb12_notes_18  {rc : Nat → List Int32 → List Int64 → Mem → Option (Int32 × Mem)} {n : Nat} {r : Int32} {M' : Mem} (hrc : ∀ pc li lj M, rc pc li lj M = some (r, M') → Fr [0] false M M')  {M : Mem} (hf : b12_notes_18  rc n  M = some (r, M')) : Fr [0] false M M' := by
  unfold b12_notes_18 at hf
  exact Fr.of hf
theorem fb12_notes_80  {rc : Nat → List Int32 → List Int64 → Mem → Option (Int32 × Mem)} {n : Nat} {r : Int32} {M' : Mem} (hrc : ∀ pc li lj M, rc pc li lj M = some (r, M') → Fr [0] false M M') {i2 : Int32} {i3 : Int32} {M : Mem} (hf : b12_notes_80  rc n i2 i3 M = some (r, M')) : Fr [0] false M M' := by
  unfold b12_notes_80 at hf
  obtain ⟨M24, eM24, hf⟩ := lt_x hf
  refine Fr.wI eM24 (by simp) ?_
  by_cases c1 : i3 = 0
  · replace hf := ite_t c1 hf
    obtain ⟨M26, eM26, hf⟩ := lt_x hf
    refine Fr.wI eM26 (by simp) ?_
    exact Fr.of hf
  · replace hf := ite_f c1 hf
    exact Fr.of hf
theorem fb12_notes_76  {rc : Nat → List Int32 → List Int64 → Mem → Option (Int32 × Mem)} {n : Nat} {r : Int32} {M' : Mem} (hrc : ∀ pc li lj M, rc pc li lj M = some (r, M') → Fr [0] false M M') {i2 : Int32} {s0 : Int32} {M : Mem} (hf : b12_notes_76  rc n i2 s0 M = some (r, M')) : Fr [0] false M M' := by
  unfold b12_notes_76 at hf
  exact hrc _ _ _ _ hf
theorem fb12_notes_75  {rc : Nat → List Int32 → List Int64 → Mem → Option (Int32 × Mem)} {n : Nat} {r : Int32} {M' : Mem} (hrc : ∀ pc li lj M, rc pc li lj M = some (r, M') → Fr [0] false M M') {i2 : Int32} {M : Mem} (hf : b12_notes_75  rc n i2 M = some (r, M')) : Fr [0] false M M' := by
  unfold b12_notes_75 at hf
  exact fb12_notes_76 hrc hf
theorem fb12_notes_40  {rc : Nat → List Int32 → List Int64 → Mem → Option (Int32 × Mem)} {n : Nat} {r : Int32} {M' : Mem} (hrc : ∀ pc li lj M, rc pc li lj M = some (r, M') → Fr [0] false M M') {i2 : Int32} {i3 : Int32} {M : Mem} (hf : b12_notes_40  rc n i2 i3 M = some (r, M')) : Fr [0] false M M' := by
  unfold b12_notes_40 at hf
  by_cases c1 : i3 = 0
  · replace hf := ite_t c1 hf
    exact fb12_notes_80 hrc hf
  · replace hf := ite_f c1 hf
    by_cases c2 : (M.1 0 13) ≤ (M.1 0 12)
    · replace hf := ite_t c2 hf
      exact fb12_notes_80 hrc hf
    · replace hf := ite_f c2 hf
      obtain ⟨r16, M17, g3, hf⟩ := bnd_s hf
      refine Fr.trans (Fr.mono (fr12_takes g3) (by intro x hx; left; simp at hx ⊢; omega) (by decide)) ?_
      by_cases c4 : r16 = 0
      · replace hf := ite_t c4 hf
        exact fb12_notes_75 hrc hf
      · replace hf := ite_f c4 hf
        obtain ⟨r20, M21, g5, hf⟩ := bnd_s hf
        refine Fr.trans (Fr.mono (fr12_readsNote g5) (by intro x hx; left; simp at hx ⊢; omega) (by decide)) ?_
        by_cases c6 : r20 = 0
        · replace hf := ite_t c6 hf
          exact fb12_notes_75 hrc hf
        · replace hf := ite_f c6 hf
          exact fb12_notes_76 hrc hf
theorem fb12_notes_0  {rc : Nat → List Int32 → List Int64 → Mem → Option (Int32 × Mem)} {n : Nat} {r : Int32} {M' : Mem} (hrc : ∀ pc li lj M, rc pc li lj M = some (r, M') → Fr [0] false M M') {a1 : Int32} {M : Mem} (hf : b12_notes_0  rc n a1 M = some (r, M')) : Fr [0] false M M' := by
  unfold b12_notes_0 at hf
  obtain ⟨r1, M2, g1, hf⟩ := bnd_s hf
  refine Fr.trans (Fr.mono (fr12_in g1) (by intro x hx; simp at hx) (by decide)) ?_
  by_cases c2 : r1 = 0
  · replace hf := ite_t c2 hf
    exact fb12_notes_18 hrc hf
  · replace hf := ite_f c2 hf
    by_cases c3 : a1 ≤ (M2.1 0 11)
    · replace hf := ite_t c3 hf
      obtain ⟨r6, M7, g4, hf⟩ := bnd_s hf
      refine Fr.trans (Fr.mono (fr12_beginsText g4) (by intro x hx; left; simp at hx ⊢; omega) (by decide)) ?_
      obtain ⟨M9, eM9, hf⟩ := lt_x hf
      refine Fr.wI eM9 (by simp) ?_
      obtain ⟨v10, ev10, hf⟩ := lt_x hf
      obtain ⟨r11, M12, g5, hf⟩ := bnd_s hf
      refine Fr.trans (Fr.mono (fr12_readsNote g5) (by intro x hx; left; simp at hx ⊢; omega) (by decide)) ?_
      exact fb12_notes_40 hrc hf
    · replace hf := ite_f c3 hf
      exact fb12_notes_18 hrc hf
theorem fl12_notes  {r : Int32} {M' : Mem} (n : Nat) : ∀ pc li lj M, r12_notes  n pc li lj M = some (r, M') → Fr [0] false M M' := by
  induction n with
  | zero => intro pc li lj M hf; cases hf
  | succ n ih =>
    intro pc li lj M hf
    rw [r12_notes] at hf
    dsimp only at hf
    by_cases c40 : pc = 40
    · replace hf := ite_t c40 hf
      split at hf
      · exact fb12_notes_40 ih hf
      · cases hf
    replace hf := ite_f c40 hf
    cases hf
theorem fr12_notes  {n : Nat} {a1 : Int32} {M M' : Mem} {r : Int32} (hf : f12_notes n  a1 M = some (r, M')) : Fr [0] false M M' := fb12_notes_0 (fl12_notes n) hf
theorem fb12_weightOf_2  {rc : Nat → List Int32 → List Int64 → Mem → Option (Int32 × Mem)} {n : Nat} {r : Int32} {M' : Mem} (hrc : ∀ pc li lj M, rc pc li lj M = some (r, M') → Fr [20, 21] false M M') {i1 : Int32} {i2 : Int32} {M : Mem} (hf : b12_weightOf_2  rc n i1 i2 M = some (r, M')) : Fr [20, 21] false M M' := by
  unfold b12_weightOf_2 at hf
  by_cases c1 : (9 : Int32) ≤ i2
  · replace hf := ite_t c1 hf
    replace hf := chk_2 hf
    obtain ⟨M3, eM3, hf⟩ := lt_x hf
    refine Fr.wI eM3 (by simp) ?_
    replace hf := chk_2 hf
    replace hf := chk_2 hf
    obtain ⟨M6, eM6, hf⟩ := lt_x hf
    refine Fr.wI eM6 (by simp) ?_
    obtain ⟨r7, M8, g2, hf⟩ := bnd_s hf
    refine Fr.trans (Fr.mono (fr12_byLaw g2) (by intro x hx; left; simp at hx ⊢; omega) (by decide)) ?_
    exact Fr.of hf
  · replace hf := ite_f c1 hf
    replace hf := chk_2 hf
    obtain ⟨M11, eM11, hf⟩ := lt_x hf
    refine Fr.wI eM11 (by simp) ?_
    obtain ⟨v12, ev12, hf⟩ := lt_x hf
    exact hrc _ _ _ _ hf
theorem fb12_weightOf_0  {rc : Nat → List Int32 → List Int64 → Mem → Option (Int32 × Mem)} {n : Nat} {r : Int32} {M' : Mem} (hrc : ∀ pc li lj M, rc pc li lj M = some (r, M') → Fr [20, 21] false M M') {a1 : Int32} {M : Mem} (hf : b12_weightOf_0  rc n a1 M = some (r, M')) : Fr [20, 21] false M M' := by
  unfold b12_weightOf_0 at hf
  exact fb12_weightOf_2 hrc hf
theorem fl12_weightOf  {r : Int32} {M' : Mem} (n : Nat) : ∀ pc li lj M, r12_weightOf  n pc li lj M = some (r, M') → Fr [20, 21] false M M' := by
  induction n with
  | zero => intro pc li lj M hf; cases hf
  | succ n ih =>
    intro pc li lj M hf
    rw [r12_weightOf] at hf
    dsimp only at hf
    by_cases c2 : pc = 2
    · replace hf := ite_t c2 hf
      split at hf
      · exact fb12_weightOf_2 ih hf
      · cases hf
    replace hf := ite_f c2 hf
    cases hf
theorem fr12_weightOf  {n : Nat} {a1 : Int32} {M M' : Mem} {r : Int32} (hf : f12_weightOf n  a1 M = some (r, M')) : Fr [20, 21] false M M' := fb12_weightOf_0 (fl12_weightOf n) hf
theorem fb12_allWeights_4  {rc : Nat → List Int32 → List Int64 → Mem → Option (Int32 × Mem)} {n : Nat} {r : Int32} {M' : Mem} (hrc : ∀ pc li lj M, rc pc li lj M = some (r, M') → Fr [20, 21] false M M') {i1 : Int32} {i2 : Int32} {M : Mem} (hf : b12_allWeights_4  rc n i1 i2 M = some (r, M')) : Fr [20, 21] false M M' := by
  unfold b12_allWeights_4 at hf
  by_cases c1 : (24 : Int32) ≤ i2
  · replace hf := ite_t c1 hf
    exact Fr.of hf
  · replace hf := ite_f c1 hf
    obtain ⟨r2, M3, g2, hf⟩ := bnd_s hf
    refine Fr.trans (Fr.mono (fr12_weightOf g2) (by intro x hx; left; simp at hx ⊢; omega) (by decide)) ?_
    obtain ⟨v5, ev5, hf⟩ := lt_x hf
    obtain ⟨v6, ev6, hf⟩ := lt_x hf
    exact hrc _ _ _ _ hf
theorem fb12_allWeights_0  {rc : Nat → List Int32 → List Int64 → Mem → Option (Int32 × Mem)} {n : Nat} {r : Int32} {M' : Mem} (hrc : ∀ pc li lj M, rc pc li lj M = some (r, M') → Fr [20, 21] false M M')  {M : Mem} (hf : b12_allWeights_0  rc n  M = some (r, M')) : Fr [20, 21] false M M' := by
  unfold b12_allWeights_0 at hf
  exact fb12_allWeights_4 hrc hf
theorem fl12_allWeights  {r : Int32} {M' : Mem} (n : Nat) : ∀ pc li lj M, r12_allWeights  n pc li lj M = some (r, M') → Fr [20, 21] false M M' := by
  induction n with
  | zero => intro pc li lj M hf; cases hf
  | succ n ih =>
    intro pc li lj M hf
    rw [r12_allWeights] at hf
    dsimp only at hf
    by_cases c4 : pc = 4
    · replace hf := ite_t c4 hf
      split at hf
      · exact fb12_allWeights_4 ih hf
      · cases hf
    replace hf := ite_f c4 hf
    cases hf
theorem fr12_allWeights  {n : Nat}  {M M' : Mem} {r : Int32} (hf : f12_allWeights n   M = some (r, M')) : Fr [20, 21] false M M' := fb12_allWeights_0 (fl12_allWeights n) hf
theorem fb12_drawsHour_53  {rc : Nat → List Int32 → List Int64 → Mem → Option (Int32 × Mem)} {n : Nat} {r : Int32} {M' : Mem} (hrc : ∀ pc li lj M, rc pc li lj M = some (r, M') → Fr [1, 20, 21] false M M') {i2 : Int32} {i3 : Int32} {M : Mem} (hf : b12_drawsHour_53  rc n i2 i3 M = some (r, M')) : Fr [1, 20, 21] false M M' := by
  unfold b12_drawsHour_53 at hf
  obtain ⟨r11, M12, g1, hf⟩ := bnd_s hf
  refine Fr.trans (Fr.mono (fr12_weightOf g1) (by intro x hx; left; simp at hx ⊢; omega) (by decide)) ?_
  by_cases c2 : i2 < r11
  · replace hf := ite_t c2 hf
    exact Fr.of hf
  · replace hf := ite_f c2 hf
    obtain ⟨r15, M16, g3, hf⟩ := bnd_s hf
    refine Fr.trans (Fr.mono (fr12_weightOf g3) (by intro x hx; left; simp at hx ⊢; omega) (by decide)) ?_
    obtain ⟨v18, ev18, hf⟩ := lt_x hf
    obtain ⟨v19, ev19, hf⟩ := lt_x hf
    exact hrc _ _ _ _ hf
theorem fb12_drawsHour_0  {rc : Nat → List Int32 → List Int64 → Mem → Option (Int32 × Mem)} {n : Nat} {r : Int32} {M' : Mem} (hrc : ∀ pc li lj M, rc pc li lj M = some (r, M') → Fr [1, 20, 21] false M M')  {M : Mem} (hf : b12_drawsHour_0  rc n  M = some (r, M')) : Fr [1, 20, 21] false M M' := by
  unfold b12_drawsHour_0 at hf
  obtain ⟨r1, M2, g1, hf⟩ := bnd_s hf
  refine Fr.trans (Fr.mono (fr12_allWeights g1) (by intro x hx; left; simp at hx ⊢; omega) (by decide)) ?_
  by_cases c2 : r1 = 0
  · replace hf := ite_t c2 hf
    exact Fr.of hf
  · replace hf := ite_f c2 hf
    replace hf := chk_2 hf
    replace hf := chk_2 hf
    obtain ⟨M7, eM7, hf⟩ := lt_x hf
    refine Fr.wI eM7 (by simp) ?_
    replace hf := chk_2 hf
    replace hf := chk_2 hf
    obtain ⟨v10, ev10, hf⟩ := lt_x hf
    exact fb12_drawsHour_53 hrc hf
theorem fl12_drawsHour  {r : Int32} {M' : Mem} (n : Nat) : ∀ pc li lj M, r12_drawsHour  n pc li lj M = some (r, M') → Fr [1, 20, 21] false M M' := by
  induction n with
  | zero => intro pc li lj M hf; cases hf
  | succ n ih =>
    intro pc li lj M hf
    rw [r12_drawsHour] at hf
    dsimp only at hf
    by_cases c53 : pc = 53
    · replace hf := ite_t c53 hf
      split at hf
      · exact fb12_drawsHour_53 ih hf
      · cases hf
    replace hf := ite_f c53 hf
    cases hf
theorem fr12_drawsHour  {n : Nat}  {M M' : Mem} {r : Int32} (hf : f12_drawsHour n   M = some (r, M')) : Fr [1, 20, 21] false M M' := fb12_drawsHour_0 (fl12_drawsHour n) hf
theorem fb12_doorsIn_26  {rc : Nat → List Int32 → List Int64 → Mem → Option (Int32 × Mem)} {n : Nat} {r : Int32} {M' : Mem} (hrc : ∀ pc li lj M, rc pc li lj M = some (r, M') → Fr [] false M M') {i1 : Int32} {i2 : Int32} {i3 : Int32} {M : Mem} (hf : b12_doorsIn_26  rc n i1 i2 i3 M = some (r, M')) : Fr [] false M M' := by
  unfold b12_doorsIn_26 at hf
  obtain ⟨v5, ev5, hf⟩ := lt_x hf
  exact hrc _ _ _ _ hf
theorem fb12_doorsIn_4  {rc : Nat → List Int32 → List Int64 → Mem → Option (Int32 × Mem)} {n : Nat} {r : Int32} {M' : Mem} (hrc : ∀ pc li lj M, rc pc li lj M = some (r, M') → Fr [] false M M') {i1 : Int32} {i2 : Int32} {i3 : Int32} {M : Mem} (hf : b12_doorsIn_4  rc n i1 i2 i3 M = some (r, M')) : Fr [] false M M' := by
  unfold b12_doorsIn_4 at hf
  by_cases c1 : (9 : Int32) < i3
  · replace hf := ite_t c1 hf
    exact Fr.of hf
  · replace hf := ite_f c1 hf
    replace hf := chk_2 hf
    by_cases c2 : (M.1 5 i3.toNatClampNeg) = i1
    · replace hf := ite_t c2 hf
      obtain ⟨v4, ev4, hf⟩ := lt_x hf
      exact fb12_doorsIn_26 hrc hf
    · replace hf := ite_f c2 hf
      exact fb12_doorsIn_26 hrc hf
theorem fb12_doorsIn_0  {rc : Nat → List Int32 → List Int64 → Mem → Option (Int32 × Mem)} {n : Nat} {r : Int32} {M' : Mem} (hrc : ∀ pc li lj M, rc pc li lj M = some (r, M') → Fr [] false M M') {a1 : Int32} {M : Mem} (hf : b12_doorsIn_0  rc n a1 M = some (r, M')) : Fr [] false M M' := by
  unfold b12_doorsIn_0 at hf
  exact fb12_doorsIn_4 hrc hf
theorem fl12_doorsIn  {r : Int32} {M' : Mem} (n : Nat) : ∀ pc li lj M, r12_doorsIn  n pc li lj M = some (r, M') → Fr [] false M M' := by
  induction n with
  | zero => intro pc li lj M hf; cases hf
  | succ n ih =>
    intro pc li lj M hf
    rw [r12_doorsIn] at hf
    dsimp only at hf
    by_cases c4 : pc = 4
    · replace hf := ite_t c4 hf
      split at hf
      · exact fb12_doorsIn_4 ih hf
      · cases hf
    replace hf := ite_f c4 hf
    cases hf
theorem fr12_doorsIn  {n : Nat} {a1 : Int32} {M M' : Mem} {r : Int32} (hf : f12_doorsIn n  a1 M = some (r, M')) : Fr [] false M M' := fb12_doorsIn_0 (fl12_doorsIn n) hf
theorem fb12_feelsAt_0  {rc : Nat → List Int32 → List Int64 → Mem → Option (Unit × Mem)} {n : Nat} {r : Unit} {M' : Mem} (hrc : ∀ pc li lj M, rc pc li lj M = some (r, M') → Fr [0, 6, 7, 21] false M M') {a1 : Int32} {a2 : Int32} {a3 : Int32} {M : Mem} (hf : b12_feelsAt_0  rc n a1 a2 a3 M = some (r, M')) : Fr [0, 6, 7, 21] false M M' := by
  unfold b12_feelsAt_0 at hf
  replace hf := chk_2 hf
  obtain ⟨M2, eM2, hf⟩ := lt_x hf
  refine Fr.wI eM2 (by simp) ?_
  replace hf := chk_2 hf
  replace hf := chk_2 hf
  obtain ⟨M5, eM5, hf⟩ := lt_x hf
  refine Fr.wI eM5 (by simp) ?_
  replace hf := chk_2 hf
  obtain ⟨M7, eM7, hf⟩ := lt_x hf
  refine Fr.wI eM7 (by simp) ?_
  replace hf := chk_2 hf
  obtain ⟨M9, eM9, hf⟩ := lt_x hf
  refine Fr.wI eM9 (by simp) ?_
  replace hf := chk_2 hf
  obtain ⟨M11, eM11, hf⟩ := lt_x hf
  refine Fr.wI eM11 (by simp) ?_
  replace hf := chk_2 hf
  replace hf := chk_2 hf
  obtain ⟨M14, eM14, hf⟩ := lt_x hf
  refine Fr.wI eM14 (by simp) ?_
  obtain ⟨r15, M16, g1, hf⟩ := bnd_s hf
  refine Fr.trans (Fr.mono (fr12_toDoorNine g1) (by intro x hx; left; simp at hx ⊢; omega) (by decide)) ?_
  replace hf := chk_2 hf
  obtain ⟨M19, eM19, hf⟩ := lt_x hf
  refine Fr.wI eM19 (by simp) ?_
  obtain ⟨r20, M21, g2, hf⟩ := bnd_s hf
  refine Fr.trans (Fr.mono (fr12_steps g2) (by intro x hx; left; simp at hx ⊢; omega) (by decide)) ?_
  replace hf := chk_2 hf
  obtain ⟨M24, eM24, hf⟩ := lt_x hf
  refine Fr.wI eM24 (by simp) ?_
  replace hf := chk_2 hf
  obtain ⟨r26, M27, g3, hf⟩ := bnd_s hf
  refine Fr.trans (Fr.mono (fr12_bits g3) (by intro x hx; simp at hx) (by decide)) ?_
  replace hf := chk_2 hf
  obtain ⟨M30, eM30, hf⟩ := lt_x hf
  refine Fr.wI eM30 (by simp) ?_
  exact Fr.of hf
theorem fr12_feelsAt  {n : Nat} {a1 : Int32} {a2 : Int32} {a3 : Int32} {M M' : Mem} {r : Unit} (hf : f12_feelsAt n  a1 a2 a3 M = some (r, M')) : Fr [0, 6, 7, 21] false M M' := fb12_feelsAt_0 (fun _ _ _ _ h => by cases h) hf
theorem fb12_goesTo_174  {rc : Nat → List Int32 → List Int64 → Mem → Option (Int32 × Mem)} {n : Nat} {r : Int32} {M' : Mem} (hrc : ∀ pc li lj M, rc pc li lj M = some (r, M') → Fr [0, 6, 7, 20, 21] false M M') {i1 : Int32} {i2 : Int32} {i3 : Int32} {i5 : Int32} {i6 : Int32} {i7 : Int32} {M : Mem} (hf : b12_goesTo_174  rc n i1 i2 i3 i5 i6 i7 M = some (r, M')) : Fr [0, 6, 7, 20, 21] false M M' := by
  unfold b12_goesTo_174 at hf
  obtain ⟨v44, ev44, hf⟩ := lt_x hf
  exact hrc _ _ _ _ hf
theorem fb12_goesTo_105  {rc : Nat → List Int32 → List Int64 → Mem → Option (Int32 × Mem)} {n : Nat} {r : Int32} {M' : Mem} (hrc : ∀ pc li lj M, rc pc li lj M = some (r, M') → Fr [0, 6, 7, 20, 21] false M M') {i1 : Int32} {i2 : Int32} {i3 : Int32} {i5 : Int32} {i6 : Int32} {i7 : Int32} {M : Mem} (hf : b12_goesTo_105  rc n i1 i2 i3 i5 i6 i7 M = some (r, M')) : Fr [0, 6, 7, 20, 21] false M M' := by
  unfold b12_goesTo_105 at hf
  by_cases c1 : (4 : Int32) ≤ i7
  · replace hf := ite_t c1 hf
    exact Fr.of hf
  · replace hf := ite_f c1 hf
    obtain ⟨r29, M30, g2, hf⟩ := bnd_s hf
    refine Fr.trans (Fr.mono (fr12_beside g2) (by intro x hx; simp at hx) (by decide)) ?_
    by_cases c3 : r29 = (-1 : Int32)
    · replace hf := ite_t c3 hf
      exact fb12_goesTo_174 hrc hf
    · replace hf := ite_f c3 hf
      obtain ⟨r33, M34, g4, hf⟩ := bnd_s hf
      refine Fr.trans (Fr.mono (fr12_isOpen g4) (by intro x hx; simp at hx) (by decide)) ?_
      by_cases c5 : r33 = 0
      · replace hf := ite_t c5 hf
        exact fb12_goesTo_174 hrc hf
      · replace hf := ite_f c5 hf
        obtain ⟨r37, M38, g6, hf⟩ := bnd_s hf
        refine Fr.trans (Fr.mono (fr12_feelsAt g6) (by intro x hx; left; simp at hx ⊢; omega) (by decide)) ?_
        obtain ⟨r40, M41, g7, hf⟩ := bnd_s hf
        refine Fr.trans (Fr.mono (fr12_byLaw g7) (by intro x hx; left; simp at hx ⊢; omega) (by decide)) ?_
        by_cases c8 : i6 < r40
        · replace hf := ite_t c8 hf
          exact fb12_goesTo_174 hrc hf
        · replace hf := ite_f c8 hf
          exact fb12_goesTo_174 hrc hf
theorem fb12_goesTo_78  {rc : Nat → List Int32 → List Int64 → Mem → Option (Int32 × Mem)} {n : Nat} {r : Int32} {M' : Mem} (hrc : ∀ pc li lj M, rc pc li lj M = some (r, M') → Fr [0, 6, 7, 20, 21] false M M') {i1 : Int32} {i2 : Int32} {i3 : Int32} {M : Mem} (hf : b12_goesTo_78  rc n i1 i2 i3 M = some (r, M')) : Fr [0, 6, 7, 20, 21] false M M' := by
  unfold b12_goesTo_78 at hf
  obtain ⟨r21, M22, g1, hf⟩ := bnd_s hf
  refine Fr.trans (Fr.mono (fr12_feelsAt g1) (by intro x hx; left; simp at hx ⊢; omega) (by decide)) ?_
  obtain ⟨r24, M25, g2, hf⟩ := bnd_s hf
  refine Fr.trans (Fr.mono (fr12_holdsAny g2) (by intro x hx; left; simp at hx ⊢; omega) (by decide)) ?_
  by_cases c3 : r24 = 0
  · replace hf := ite_t c3 hf
    exact fb12_goesTo_105 hrc hf
  · replace hf := ite_f c3 hf
    exact Fr.of hf
theorem fb12_goesTo_62  {rc : Nat → List Int32 → List Int64 → Mem → Option (Int32 × Mem)} {n : Nat} {r : Int32} {M' : Mem} (hrc : ∀ pc li lj M, rc pc li lj M = some (r, M') → Fr [0, 6, 7, 20, 21] false M M') {i3 : Int32} {i4 : Int32} {i5 : Int32} {M : Mem} (hf : b12_goesTo_62  rc n i3 i4 i5 M = some (r, M')) : Fr [0, 6, 7, 20, 21] false M M' := by
  unfold b12_goesTo_62 at hf
  obtain ⟨v20, ev20, hf⟩ := lt_x hf
  exact hrc _ _ _ _ hf
theorem fb12_goesTo_31  {rc : Nat → List Int32 → List Int64 → Mem → Option (Int32 × Mem)} {n : Nat} {r : Int32} {M' : Mem} (hrc : ∀ pc li lj M, rc pc li lj M = some (r, M') → Fr [0, 6, 7, 20, 21] false M M') {i3 : Int32} {i4 : Int32} {i5 : Int32} {M : Mem} (hf : b12_goesTo_31  rc n i3 i4 i5 M = some (r, M')) : Fr [0, 6, 7, 20, 21] false M M' := by
  unfold b12_goesTo_31 at hf
  obtain ⟨r6, M7, g1, hf⟩ := bnd_s hf
  refine Fr.trans (Fr.mono (fr12_beside g1) (by intro x hx; simp at hx) (by decide)) ?_
  by_cases c2 : r6 = (-1 : Int32)
  · replace hf := ite_t c2 hf
    exact fb12_goesTo_62 hrc hf
  · replace hf := ite_f c2 hf
    obtain ⟨r10, M11, g3, hf⟩ := bnd_s hf
    refine Fr.trans (Fr.mono (fr12_beside g3) (by intro x hx; simp at hx) (by decide)) ?_
    obtain ⟨r13, M14, g4, hf⟩ := bnd_s hf
    refine Fr.trans (Fr.mono (fr12_steps g4) (by intro x hx; left; simp at hx ⊢; omega) (by decide)) ?_
    by_cases c5 : r13 = (i4 - (1 : Int32))
    · replace hf := ite_t c5 hf
      obtain ⟨r17, M18, g6, hf⟩ := bnd_s hf
      refine Fr.trans (Fr.mono (fr12_beside g6) (by intro x hx; simp at hx) (by decide)) ?_
      exact Fr.of hf
    · replace hf := ite_f c5 hf
      exact fb12_goesTo_62 hrc hf
theorem fb12_goesTo_0  {rc : Nat → List Int32 → List Int64 → Mem → Option (Int32 × Mem)} {n : Nat} {r : Int32} {M' : Mem} (hrc : ∀ pc li lj M, rc pc li lj M = some (r, M') → Fr [0, 6, 7, 20, 21] false M M') {a1 : Int32} {a2 : Int32} {a3 : Int32} {M : Mem} (hf : b12_goesTo_0  rc n a1 a2 a3 M = some (r, M')) : Fr [0, 6, 7, 20, 21] false M M' := by
  unfold b12_goesTo_0 at hf
  obtain ⟨r1, M2, g1, hf⟩ := bnd_s hf
  refine Fr.trans (Fr.mono (fr12_steps g1) (by intro x hx; left; simp at hx ⊢; omega) (by decide)) ?_
  by_cases c2 : a3 = (M2.1 0 5)
  · replace hf := ite_t c2 hf
    exact fb12_goesTo_78 hrc hf
  · replace hf := ite_f c2 hf
    by_cases c3 : r1 < ((59 : Int32) - a2)
    · replace hf := ite_t c3 hf
      exact fb12_goesTo_78 hrc hf
    · replace hf := ite_f c3 hf
      exact fb12_goesTo_31 hrc hf
theorem fl12_goesTo  {r : Int32} {M' : Mem} (n : Nat) : ∀ pc li lj M, r12_goesTo  n pc li lj M = some (r, M') → Fr [0, 6, 7, 20, 21] false M M' := by
  induction n with
  | zero => intro pc li lj M hf; cases hf
  | succ n ih =>
    intro pc li lj M hf
    rw [r12_goesTo] at hf
    dsimp only at hf
    by_cases c31 : pc = 31
    · replace hf := ite_t c31 hf
      split at hf
      · exact fb12_goesTo_31 ih hf
      · cases hf
    replace hf := ite_f c31 hf
    by_cases c105 : pc = 105
    · replace hf := ite_t c105 hf
      split at hf
      · exact fb12_goesTo_105 ih hf
      · cases hf
    replace hf := ite_f c105 hf
    cases hf
theorem fr12_goesTo  {n : Nat} {a1 : Int32} {a2 : Int32} {a3 : Int32} {M M' : Mem} {r : Int32} (hf : f12_goesTo n  a1 a2 a3 M = some (r, M')) : Fr [0, 6, 7, 20, 21] false M M' := fb12_goesTo_0 (fl12_goesTo n) hf
theorem fb12_dayGoes_243  {rc : Nat → List Int32 → List Int64 → Mem → Option (Unit × Mem)} {n : Nat} {r : Unit} {M' : Mem} (hrc : ∀ pc li lj M, rc pc li lj M = some (r, M') → Fr [0, 1, 6, 7, 20, 21] false M M')  {M : Mem} (hf : b12_dayGoes_243  rc n  M = some (r, M')) : Fr [0, 1, 6, 7, 20, 21] false M M' := by
  unfold b12_dayGoes_243 at hf
  replace hf := chk_2 hf
  replace hf := chk_2 hf
  obtain ⟨M57, eM57, hf⟩ := lt_x hf
  refine Fr.wI eM57 (by simp) ?_
  exact Fr.of hf
theorem fb12_dayGoes_190  {rc : Nat → List Int32 → List Int64 → Mem → Option (Unit × Mem)} {n : Nat} {r : Unit} {M' : Mem} (hrc : ∀ pc li lj M, rc pc li lj M = some (r, M') → Fr [0, 1, 6, 7, 20, 21] false M M') {i1 : Int32} {M : Mem} (hf : b12_dayGoes_190  rc n i1 M = some (r, M')) : Fr [0, 1, 6, 7, 20, 21] false M M' := by
  unfold b12_dayGoes_190 at hf
  replace hf := chk_2 hf
  obtain ⟨M47, eM47, hf⟩ := lt_x hf
  refine Fr.wI eM47 (by simp) ?_
  replace hf := chk_2 hf
  obtain ⟨r49, M50, g1, hf⟩ := bnd_s hf
  refine Fr.trans (Fr.mono (fr12_bits g1) (by intro x hx; simp at hx) (by decide)) ?_
  obtain ⟨M52, eM52, hf⟩ := lt_x hf
  refine Fr.wI eM52 (by simp) ?_
  by_cases c2 : i1 = (-2 : Int32)
  · replace hf := ite_t c2 hf
    exact fb12_dayGoes_243 hrc hf
  · replace hf := ite_f c2 hf
    obtain ⟨M54, eM54, hf⟩ := lt_x hf
    refine Fr.wI eM54 (by simp) ?_
    exact fb12_dayGoes_243 hrc hf
theorem fb12_dayGoes_171  {rc : Nat → List Int32 → List Int64 → Mem → Option (Unit × Mem)} {n : Nat} {r : Unit} {M' : Mem} (hrc : ∀ pc li lj M, rc pc li lj M = some (r, M') → Fr [0, 1, 6, 7, 20, 21] false M M') {i1 : Int32} {i3 : Int32} {i4 : Int32} {M : Mem} (hf : b12_dayGoes_171  rc n i1 i3 i4 M = some (r, M')) : Fr [0, 1, 6, 7, 20, 21] false M M' := by
  unfold b12_dayGoes_171 at hf
  replace hf := chk_2 hf
  obtain ⟨M44, eM44, hf⟩ := lt_x hf
  refine Fr.wI eM44 (by simp) ?_
  obtain ⟨v45, ev45, hf⟩ := lt_x hf
  exact hrc _ _ _ _ hf
theorem fb12_dayGoes_48  {rc : Nat → List Int32 → List Int64 → Mem → Option (Unit × Mem)} {n : Nat} {r : Unit} {M' : Mem} (hrc : ∀ pc li lj M, rc pc li lj M = some (r, M') → Fr [0, 1, 6, 7, 20, 21] false M M') {i1 : Int32} {i2 : Int32} {i3 : Int32} {M : Mem} (hf : b12_dayGoes_48  rc n i1 i2 i3 M = some (r, M')) : Fr [0, 1, 6, 7, 20, 21] false M M' := by
  unfold b12_dayGoes_48 at hf
  by_cases c1 : (60 : Int32) ≤ i3
  · replace hf := ite_t c1 hf
    exact fb12_dayGoes_190 hrc hf
  · replace hf := ite_f c1 hf
    by_cases c2 : i1 = (-2 : Int32)
    · replace hf := ite_t c2 hf
      exact fb12_dayGoes_190 hrc hf
    · replace hf := ite_f c2 hf
      obtain ⟨r15, M16, g3, hf⟩ := bnd_s hf
      refine Fr.trans (Fr.mono (fr12_goesTo g3) (by intro x hx; left; simp at hx ⊢; omega) (by decide)) ?_
      by_cases c4 : r15 = i2
      · replace hf := ite_t c4 hf
        exact fb12_dayGoes_171 hrc hf
      · replace hf := ite_f c4 hf
        replace hf := chk_2 hf
        replace hf := chk_2 hf
        obtain ⟨M21, eM21, hf⟩ := lt_x hf
        refine Fr.wI eM21 (by simp) ?_
        replace hf := chk_2 hf
        obtain ⟨r23, M24, g5, hf⟩ := bnd_s hf
        refine Fr.trans (Fr.mono (fr12_min g5) (by intro x hx; simp at hx) (by decide)) ?_
        replace hf := chk_2 hf
        obtain ⟨M27, eM27, hf⟩ := lt_x hf
        refine Fr.wI eM27 (by simp) ?_
        replace hf := chk_2 hf
        obtain ⟨r29, M30, g6, hf⟩ := bnd_s hf
        refine Fr.trans (Fr.mono (fr12_doorsIn g6) (by intro x hx; simp at hx) (by decide)) ?_
        replace hf := chk_2 hf
        obtain ⟨M33, eM33, hf⟩ := lt_x hf
        refine Fr.wI eM33 (by simp) ?_
        replace hf := chk_2 hf
        obtain ⟨r35, M36, g7, hf⟩ := bnd_s hf
        refine Fr.trans (Fr.mono (fr12_steps g7) (by intro x hx; left; simp at hx ⊢; omega) (by decide)) ?_
        obtain ⟨r38, M39, g8, hf⟩ := bnd_s hf
        refine Fr.trans (Fr.mono (fr12_max g8) (by intro x hx; simp at hx) (by decide)) ?_
        replace hf := chk_2 hf
        obtain ⟨M42, eM42, hf⟩ := lt_x hf
        refine Fr.wI eM42 (by simp) ?_
        exact fb12_dayGoes_171 hrc hf
theorem fb12_dayGoes_0  {rc : Nat → List Int32 → List Int64 → Mem → Option (Unit × Mem)} {n : Nat} {r : Unit} {M' : Mem} (hrc : ∀ pc li lj M, rc pc li lj M = some (r, M') → Fr [0, 1, 6, 7, 20, 21] false M M')  {M : Mem} (hf : b12_dayGoes_0  rc n  M = some (r, M')) : Fr [0, 1, 6, 7, 20, 21] false M M' := by
  unfold b12_dayGoes_0 at hf
  obtain ⟨r1, M2, g1, hf⟩ := bnd_s hf
  refine Fr.trans (Fr.mono (fr12_drawsHour g1) (by intro x hx; left; simp at hx ⊢; omega) (by decide)) ?_
  replace hf := chk_2 hf
  obtain ⟨M5, eM5, hf⟩ := lt_x hf
  refine Fr.wI eM5 (by simp) ?_
  replace hf := chk_2 hf
  obtain ⟨M7, eM7, hf⟩ := lt_x hf
  refine Fr.wI eM7 (by simp) ?_
  replace hf := chk_2 hf
  obtain ⟨M9, eM9, hf⟩ := lt_x hf
  refine Fr.wI eM9 (by simp) ?_
  replace hf := chk_2 hf
  obtain ⟨M11, eM11, hf⟩ := lt_x hf
  refine Fr.wI eM11 (by simp) ?_
  obtain ⟨v12, ev12, hf⟩ := lt_x hf
  exact fb12_dayGoes_48 hrc hf
theorem fl12_dayGoes  {r : Unit} {M' : Mem} (n : Nat) : ∀ pc li lj M, r12_dayGoes  n pc li lj M = some (r, M') → Fr [0, 1, 6, 7, 20, 21] false M M' := by
  induction n with
  | zero => intro pc li lj M hf; cases hf
  | succ n ih =>
    intro pc li lj M hf
    rw [r12_dayGoes] at hf
    dsimp only at hf
    by_cases c48 : pc = 48
    · replace hf := ite_t c48 hf
      split at hf
      · exact fb12_dayGoes_48 ih hf
      · cases hf
    replace hf := ite_f c48 hf
    cases hf
theorem fr12_dayGoes  {n : Nat}  {M M' : Mem} {r : Unit} (hf : f12_dayGoes n   M = some (r, M')) : Fr [0, 1, 6, 7, 20, 21] false M M' := fb12_dayGoes_0 (fl12_dayGoes n) hf
theorem fb12_daysGo_58  {rc : Nat → List Int32 → List Int64 → Mem → Option (Int32 × Mem)} {n : Nat} {r : Int32} {M' : Mem} (hrc : ∀ pc li lj M, rc pc li lj M = some (r, M') → Fr [0, 1, 6, 7, 20, 21] false M M') {i2 : Int32} {M : Mem} (hf : b12_daysGo_58  rc n i2 M = some (r, M')) : Fr [0, 1, 6, 7, 20, 21] false M M' := by
  unfold b12_daysGo_58 at hf
  exact Fr.of hf
theorem fb12_daysGo_20  {rc : Nat → List Int32 → List Int64 → Mem → Option (Int32 × Mem)} {n : Nat} {r : Int32} {M' : Mem} (hrc : ∀ pc li lj M, rc pc li lj M = some (r, M') → Fr [0, 1, 6, 7, 20, 21] false M M') {i1 : Int32} {i2 : Int32} {i3 : Int32} {M : Mem} (hf : b12_daysGo_20  rc n i1 i2 i3 M = some (r, M')) : Fr [0, 1, 6, 7, 20, 21] false M M' := by
  unfold b12_daysGo_20 at hf
  by_cases c1 : i1 ≤ i3
  · replace hf := ite_t c1 hf
    exact fb12_daysGo_58 hrc hf
  · replace hf := ite_f c1 hf
    replace hf := chk_2 hf
    by_cases c2 : (9999 : Int32) ≤ (M.1 1 (160 : Int32).toNatClampNeg)
    · replace hf := ite_t c2 hf
      exact fb12_daysGo_58 hrc hf
    · replace hf := ite_f c2 hf
      obtain ⟨r7, M8, g3, hf⟩ := bnd_s hf
      refine Fr.trans (Fr.mono (fr12_dayGoes g3) (by intro x hx; left; simp at hx ⊢; omega) (by decide)) ?_
      replace hf := chk_2 hf
      obtain ⟨v11, ev11, hf⟩ := lt_x hf
      obtain ⟨v12, ev12, hf⟩ := lt_x hf
      exact hrc _ _ _ _ hf
theorem fb12_daysGo_0  {rc : Nat → List Int32 → List Int64 → Mem → Option (Int32 × Mem)} {n : Nat} {r : Int32} {M' : Mem} (hrc : ∀ pc li lj M, rc pc li lj M = some (r, M') → Fr [0, 1, 6, 7, 20, 21] false M M') {a1 : Int32} {M : Mem} (hf : b12_daysGo_0  rc n a1 M = some (r, M')) : Fr [0, 1, 6, 7, 20, 21] false M M' := by
  unfold b12_daysGo_0 at hf
  obtain ⟨M1, eM1, hf⟩ := lt_x hf
  refine Fr.wI eM1 (by simp) ?_
  obtain ⟨M2, eM2, hf⟩ := lt_x hf
  refine Fr.wI eM2 (by simp) ?_
  obtain ⟨M3, eM3, hf⟩ := lt_x hf
  refine Fr.wI eM3 (by simp) ?_
  exact fb12_daysGo_20 hrc hf
theorem fl12_daysGo  {r : Int32} {M' : Mem} (n : Nat) : ∀ pc li lj M, r12_daysGo  n pc li lj M = some (r, M') → Fr [0, 1, 6, 7, 20, 21] false M M' := by
  induction n with
  | zero => intro pc li lj M hf; cases hf
  | succ n ih =>
    intro pc li lj M hf
    rw [r12_daysGo] at hf
    dsimp only at hf
    by_cases c20 : pc = 20
    · replace hf := ite_t c20 hf
      split at hf
      · exact fb12_daysGo_20 ih hf
      · cases hf
    replace hf := ite_f c20 hf
    cases hf
theorem fr12_daysGo  {n : Nat} {a1 : Int32} {M M' : Mem} {r : Int32} (hf : f12_daysGo n  a1 M = some (r, M')) : Fr [0, 1, 6, 7, 20, 21] false M M' := fb12_daysGo_0 (fl12_daysGo n) hf
theorem fb12_days_0  {rc : Nat → List Int32 → List Int64 → Mem → Option (Int32 × Mem)} {n : Nat} {r : Int32} {M' : Mem} (hrc : ∀ pc li lj M, rc pc li lj M = some (r, M') → Fr [0, 1, 6, 7, 20, 21] false M M') {a1 : Int32} {M : Mem} (hf : b12_days_0  rc n a1 M = some (r, M')) : Fr [0, 1, 6, 7, 20, 21] false M M' := by
  unfold b12_days_0 at hf
  obtain ⟨r1, M2, g1, hf⟩ := bnd_s hf
  refine Fr.trans (Fr.mono (fr12_in g1) (by intro x hx; simp at hx) (by decide)) ?_
  by_cases c2 : r1 = 0
  · replace hf := ite_t c2 hf
    exact Fr.of hf
  · replace hf := ite_f c2 hf
    obtain ⟨r5, M6, g3, hf⟩ := bnd_s hf
    refine Fr.trans (Fr.mono (fr12_daysGo g3) (by intro x hx; left; simp at hx ⊢; omega) (by decide)) ?_
    exact Fr.of hf
theorem fr12_days  {n : Nat} {a1 : Int32} {M M' : Mem} {r : Int32} (hf : f12_days n  a1 M = some (r, M')) : Fr [0, 1, 6, 7, 20, 21] false M M' := fb12_days_0 (fun _ _ _ _ h => by cases h) hf
theorem fb12_tried_31  {rc : Nat → List Int32 → List Int64 → Mem → Option (Int32 × Mem)} {n : Nat} {r : Int32} {M' : Mem} (hrc : ∀ pc li lj M, rc pc li lj M = some (r, M') → Fr [0, 1, 2, 6, 7, 20, 21] false M M')  {M : Mem} (hf : b12_tried_31  rc n  M = some (r, M')) : Fr [0, 1, 2, 6, 7, 20, 21] false M M' := by
  unfold b12_tried_31 at hf
  exact Fr.of hf
theorem fb12_tried_126  {rc : Nat → List Int32 → List Int64 → Mem → Option (Int32 × Mem)} {n : Nat} {r : Int32} {M' : Mem} (hrc : ∀ pc li lj M, rc pc li lj M = some (r, M') → Fr [0, 1, 2, 6, 7, 20, 21] false M M') {i4 : Int32} {M : Mem} (hf : b12_tried_126  rc n i4 M = some (r, M')) : Fr [0, 1, 2, 6, 7, 20, 21] false M M' := by
  unfold b12_tried_126 at hf
  obtain ⟨r28, M29, g1, hf⟩ := bnd_s hf
  refine Fr.trans (Fr.mono (fr12_copies g1) (by intro x hx; left; simp at hx ⊢; omega) (by decide)) ?_
  exact Fr.of hf
theorem fb12_tried_33  {rc : Nat → List Int32 → List Int64 → Mem → Option (Int32 × Mem)} {n : Nat} {r : Int32} {M' : Mem} (hrc : ∀ pc li lj M, rc pc li lj M = some (r, M') → Fr [0, 1, 2, 6, 7, 20, 21] false M M') {i1 : Int32} {i2 : Int32} {M : Mem} (hf : b12_tried_33  rc n i1 i2 M = some (r, M')) : Fr [0, 1, 2, 6, 7, 20, 21] false M M' := by
  unfold b12_tried_33 at hf
  obtain ⟨r13, M14, g1, hf⟩ := bnd_s hf
  refine Fr.trans (Fr.mono (fr12_copies g1) (by intro x hx; left; simp at hx ⊢; omega) (by decide)) ?_
  obtain ⟨r16, M17, g2, hf⟩ := bnd_s hf
  refine Fr.trans (Fr.mono (fr12_daysGo g2) (by intro x hx; left; simp at hx ⊢; omega) (by decide)) ?_
  by_cases c3 : i2 = (0 : Int32)
  · replace hf := ite_t c3 hf
    obtain ⟨v20, ev20, hf⟩ := lt_x hf
    exact fb12_tried_126 hrc hf
  · replace hf := ite_f c3 hf
    by_cases c4 : i2 = (1 : Int32)
    · replace hf := ite_t c4 hf
      obtain ⟨v22, ev22, hf⟩ := lt_x hf
      exact fb12_tried_126 hrc hf
    · replace hf := ite_f c4 hf
      by_cases c5 : i2 = (2 : Int32)
      · replace hf := ite_t c5 hf
        obtain ⟨v24, ev24, hf⟩ := lt_x hf
        exact fb12_tried_126 hrc hf
      · replace hf := ite_f c5 hf
        by_cases c6 : i2 = (3 : Int32)
        · replace hf := ite_t c6 hf
          exact fb12_tried_126 hrc hf
        · replace hf := ite_f c6 hf
          replace hf := chk_2 hf
          obtain ⟨v27, ev27, hf⟩ := lt_x hf
          exact fb12_tried_126 hrc hf
theorem fb12_tried_0  {rc : Nat → List Int32 → List Int64 → Mem → Option (Int32 × Mem)} {n : Nat} {r : Int32} {M' : Mem} (hrc : ∀ pc li lj M, rc pc li lj M = some (r, M') → Fr [0, 1, 2, 6, 7, 20, 21] false M M') {a1 : Int32} {a2 : Int32} {M : Mem} (hf : b12_tried_0  rc n a1 a2 M = some (r, M')) : Fr [0, 1, 2, 6, 7, 20, 21] false M M' := by
  unfold b12_tried_0 at hf
  obtain ⟨r1, M2, g1, hf⟩ := bnd_s hf
  refine Fr.trans (Fr.mono (fr12_in g1) (by intro x hx; simp at hx) (by decide)) ?_
  by_cases c2 : r1 = 0
  · replace hf := ite_t c2 hf
    exact fb12_tried_31 hrc hf
  · replace hf := ite_f c2 hf
    obtain ⟨r5, M6, g3, hf⟩ := bnd_s hf
    refine Fr.trans (Fr.mono (fr12_in g3) (by intro x hx; simp at hx) (by decide)) ?_
    by_cases c4 : r5 = 0
    · replace hf := ite_t c4 hf
      obtain ⟨r9, M10, g5, hf⟩ := bnd_s hf
      refine Fr.trans (Fr.mono (fr12_in g5) (by intro x hx; simp at hx) (by decide)) ?_
      by_cases c6 : r9 = 0
      · replace hf := ite_t c6 hf
        exact fb12_tried_31 hrc hf
      · replace hf := ite_f c6 hf
        exact fb12_tried_33 hrc hf
    · replace hf := ite_f c4 hf
      exact fb12_tried_33 hrc hf
theorem fr12_tried  {n : Nat} {a1 : Int32} {a2 : Int32} {M M' : Mem} {r : Int32} (hf : f12_tried n  a1 a2 M = some (r, M')) : Fr [0, 1, 2, 6, 7, 20, 21] false M M' := fb12_tried_0 (fun _ _ _ _ h => by cases h) hf
theorem fb12_placeIs_0  {rc : Nat → List Int32 → List Int64 → Mem → Option (Int32 × Mem)} {n : Nat} {r : Int32} {M' : Mem} (hrc : ∀ pc li lj M, rc pc li lj M = some (r, M') → Fr [0, 6, 7] false M M') {a1 : Int32} {a2 : Int32} {a3 : Int32} {M : Mem} (hf : b12_placeIs_0  rc n a1 a2 a3 M = some (r, M')) : Fr [0, 6, 7] false M M' := by
  unfold b12_placeIs_0 at hf
  obtain ⟨r1, M2, g1, hf⟩ := bnd_s hf
  refine Fr.trans (Fr.mono (fr12_isPlace g1) (by intro x hx; simp at hx) (by decide)) ?_
  by_cases c2 : r1 = 0
  · replace hf := ite_t c2 hf
    exact Fr.of hf
  · replace hf := ite_f c2 hf
    obtain ⟨v5, ev5, hf⟩ := lt_x hf
    by_cases c3 : a3 = (0 : Int32)
    · replace hf := ite_t c3 hf
      obtain ⟨r7, M8, g4, hf⟩ := bnd_s hf
      refine Fr.trans (Fr.mono (fr12_isOpen g4) (by intro x hx; simp at hx) (by decide)) ?_
      by_cases c5 : r7 = 0
      · replace hf := ite_t c5 hf
        have h6 := chk_1 hf
        replace hf := chk_2 hf
        exact Fr.of hf
      · replace hf := ite_f c5 hf
        exact Fr.of hf
    · replace hf := ite_f c3 hf
      by_cases c7 : a3 = (1 : Int32)
      · replace hf := ite_t c7 hf
        replace hf := chk_2 hf
        exact Fr.of hf
      · replace hf := ite_f c7 hf
        by_cases c8 : a3 = (2 : Int32)
        · replace hf := ite_t c8 hf
          obtain ⟨r15, M16, g9, hf⟩ := bnd_s hf
          refine Fr.trans (Fr.mono (fr12_steps g9) (by intro x hx; left; simp at hx ⊢; omega) (by decide)) ?_
          exact Fr.of hf
        · replace hf := ite_f c8 hf
          by_cases c10 : a3 = (3 : Int32)
          · replace hf := ite_t c10 hf
            obtain ⟨r19, M20, g11, hf⟩ := bnd_s hf
            refine Fr.trans (Fr.mono (fr12_toDoorNine g11) (by intro x hx; left; simp at hx ⊢; omega) (by decide)) ?_
            exact Fr.of hf
          · replace hf := ite_f c10 hf
            by_cases c12 : a3 = (4 : Int32)
            · replace hf := ite_t c12 hf
              obtain ⟨r23, M24, g13, hf⟩ := bnd_s hf
              refine Fr.trans (Fr.mono (fr12_neighbours g13) (by intro x hx; simp at hx) (by decide)) ?_
              exact Fr.of hf
            · replace hf := ite_f c12 hf
              exact Fr.of hf
theorem fr12_placeIs  {n : Nat} {a1 : Int32} {a2 : Int32} {a3 : Int32} {M M' : Mem} {r : Int32} (hf : f12_placeIs n  a1 a2 a3 M = some (r, M')) : Fr [0, 6, 7] false M M' := fb12_placeIs_0 (fun _ _ _ _ h => by cases h) hf
theorem fb12_gcd_4  {rc : Nat → List Int32 → List Int64 → Mem → Option (Int32 × Mem)} {n : Nat} {r : Int32} {M' : Mem} (hrc : ∀ pc li lj M, rc pc li lj M = some (r, M') → Fr [] false M M') {i2 : Int32} {i3 : Int32} {M : Mem} (hf : b12_gcd_4  rc n i2 i3 M = some (r, M')) : Fr [] false M M' := by
  unfold b12_gcd_4 at hf
  by_cases c1 : i3 = 0
  · replace hf := ite_t c1 hf
    exact Fr.of hf
  · replace hf := ite_f c1 hf
    replace hf := chk_2 hf
    obtain ⟨v3, ev3, hf⟩ := lt_x hf
    exact hrc _ _ _ _ hf
theorem fb12_gcd_0  {rc : Nat → List Int32 → List Int64 → Mem → Option (Int32 × Mem)} {n : Nat} {r : Int32} {M' : Mem} (hrc : ∀ pc li lj M, rc pc li lj M = some (r, M') → Fr [] false M M') {a0 : Int32} {a1 : Int32} {M : Mem} (hf : b12_gcd_0  rc n a0 a1 M = some (r, M')) : Fr [] false M M' := by
  unfold b12_gcd_0 at hf
  exact fb12_gcd_4 hrc hf
theorem fl12_gcd  {r : Int32} {M' : Mem} (n : Nat) : ∀ pc li lj M, r12_gcd  n pc li lj M = some (r, M') → Fr [] false M M' := by
  induction n with
  | zero => intro pc li lj M hf; cases hf
  | succ n ih =>
    intro pc li lj M hf
    rw [r12_gcd] at hf
    dsimp only at hf
    by_cases c4 : pc = 4
    · replace hf := ite_t c4 hf
      split at hf
      · exact fb12_gcd_4 ih hf
      · cases hf
    replace hf := ite_f c4 hf
    cases hf
theorem fr12_gcd  {n : Nat} {a0 : Int32} {a1 : Int32} {M M' : Mem} {r : Int32} (hf : f12_gcd n  a0 a1 M = some (r, M')) : Fr [] false M M' := fb12_gcd_0 (fl12_gcd n) hf
theorem fb12_laysWeights_35  {rc : Nat → List Int32 → List Int64 → Mem → Option (Int32 × Mem)} {n : Nat} {r : Int32} {M' : Mem} (hrc : ∀ pc li lj M, rc pc li lj M = some (r, M') → Fr [20, 21, 23] false M M') {i1 : Int32} {i2 : Int32} {s1 : Int32} {s2 : Int32} {M : Mem} (hf : b12_laysWeights_35  rc n i1 i2 s1 s2 M = some (r, M')) : Fr [20, 21, 23] false M M' := by
  unfold b12_laysWeights_35 at hf
  replace hf := chk_2 hf
  obtain ⟨M10, eM10, hf⟩ := lt_x hf
  refine Fr.wI eM10 (by simp) ?_
  replace hf := chk_2 hf
  obtain ⟨r12, M13, g1, hf⟩ := bnd_s hf
  refine Fr.trans (Fr.mono (fr12_max g1) (by intro x hx; simp at hx) (by decide)) ?_
  obtain ⟨v15, ev15, hf⟩ := lt_x hf
  obtain ⟨v16, ev16, hf⟩ := lt_x hf
  exact hrc _ _ _ _ hf
theorem fb12_laysWeights_4  {rc : Nat → List Int32 → List Int64 → Mem → Option (Int32 × Mem)} {n : Nat} {r : Int32} {M' : Mem} (hrc : ∀ pc li lj M, rc pc li lj M = some (r, M') → Fr [20, 21, 23] false M M') {i1 : Int32} {i2 : Int32} {M : Mem} (hf : b12_laysWeights_4  rc n i1 i2 M = some (r, M')) : Fr [20, 21, 23] false M M' := by
  unfold b12_laysWeights_4 at hf
  by_cases c1 : (24 : Int32) ≤ i2
  · replace hf := ite_t c1 hf
    exact Fr.of hf
  · replace hf := ite_f c1 hf
    obtain ⟨r2, M3, g2, hf⟩ := bnd_s hf
    refine Fr.trans (Fr.mono (fr12_has g2) (by intro x hx; simp at hx) (by decide)) ?_
    by_cases c3 : r2 = 0
    · replace hf := ite_t c3 hf
      obtain ⟨r6, M7, g4, hf⟩ := bnd_s hf
      refine Fr.trans (Fr.mono (fr12_weightOf g4) (by intro x hx; left; simp at hx ⊢; omega) (by decide)) ?_
      exact fb12_laysWeights_35 hrc hf
    · replace hf := ite_f c3 hf
      exact fb12_laysWeights_35 hrc hf
theorem fb12_laysWeights_0  {rc : Nat → List Int32 → List Int64 → Mem → Option (Int32 × Mem)} {n : Nat} {r : Int32} {M' : Mem} (hrc : ∀ pc li lj M, rc pc li lj M = some (r, M') → Fr [20, 21, 23] false M M')  {M : Mem} (hf : b12_laysWeights_0  rc n  M = some (r, M')) : Fr [20, 21, 23] false M M' := by
  unfold b12_laysWeights_0 at hf
  exact fb12_laysWeights_4 hrc hf
theorem fl12_laysWeights  {r : Int32} {M' : Mem} (n : Nat) : ∀ pc li lj M, r12_laysWeights  n pc li lj M = some (r, M') → Fr [20, 21, 23] false M M' := by
  induction n with
  | zero => intro pc li lj M hf; cases hf
  | succ n ih =>
    intro pc li lj M hf
    rw [r12_laysWeights] at hf
    dsimp only at hf
    by_cases c4 : pc = 4
    · replace hf := ite_t c4 hf
      split at hf
      · exact fb12_laysWeights_4 ih hf
      · cases hf
    replace hf := ite_f c4 hf
    cases hf
theorem fr12_laysWeights  {n : Nat}  {M M' : Mem} {r : Int32} (hf : f12_laysWeights n   M = some (r, M')) : Fr [20, 21, 23] false M M' := fb12_laysWeights_0 (fl12_laysWeights n) hf
theorem fb12_laysFraction_0  {rc : Nat → List Int32 → List Int64 → Mem → Option (Unit × Mem)} {n : Nat} {r : Unit} {M' : Mem} (hrc : ∀ pc li lj M, rc pc li lj M = some (r, M') → Fr [0] false M M') {a1 : Int32} {a2 : Int32} {M : Mem} (hf : b12_laysFraction_0  rc n a1 a2 M = some (r, M')) : Fr [0] false M M' := by
  unfold b12_laysFraction_0 at hf
  obtain ⟨r1, M2, g1, hf⟩ := bnd_s hf
  refine Fr.trans (Fr.mono (fr12_gcd g1) (by intro x hx; simp at hx) (by decide)) ?_
  replace hf := chk_2 hf
  obtain ⟨M5, eM5, hf⟩ := lt_x hf
  refine Fr.wI eM5 (by simp) ?_
  replace hf := chk_2 hf
  obtain ⟨M7, eM7, hf⟩ := lt_x hf
  refine Fr.wI eM7 (by simp) ?_
  exact Fr.of hf
theorem fr12_laysFraction  {n : Nat} {a1 : Int32} {a2 : Int32} {M M' : Mem} {r : Unit} (hf : f12_laysFraction n  a1 a2 M = some (r, M')) : Fr [0] false M M' := fb12_laysFraction_0 (fun _ _ _ _ h => by cases h) hf
theorem fb12_likely_19  {rc : Nat → List Int32 → List Int64 → Mem → Option (Int32 × Mem)} {n : Nat} {r : Int32} {M' : Mem} (hrc : ∀ pc li lj M, rc pc li lj M = some (r, M') → Fr [0, 20, 21, 23] false M M')  {M : Mem} (hf : b12_likely_19  rc n  M = some (r, M')) : Fr [0, 20, 21, 23] false M M' := by
  unfold b12_likely_19 at hf
  exact Fr.of hf
theorem fb12_likely_40  {rc : Nat → List Int32 → List Int64 → Mem → Option (Int32 × Mem)} {n : Nat} {r : Int32} {M' : Mem} (hrc : ∀ pc li lj M, rc pc li lj M = some (r, M') → Fr [0, 20, 21, 23] false M M')  {M : Mem} (hf : b12_likely_40  rc n  M = some (r, M')) : Fr [0, 20, 21, 23] false M M' := by
  unfold b12_likely_40 at hf
  exact Fr.of hf
theorem fb12_likely_0  {rc : Nat → List Int32 → List Int64 → Mem → Option (Int32 × Mem)} {n : Nat} {r : Int32} {M' : Mem} (hrc : ∀ pc li lj M, rc pc li lj M = some (r, M') → Fr [0, 20, 21, 23] false M M') {a1 : Int32} {a2 : Int32} {M : Mem} (hf : b12_likely_0  rc n a1 a2 M = some (r, M')) : Fr [0, 20, 21, 23] false M M' := by
  unfold b12_likely_0 at hf
  obtain ⟨r1, M2, g1, hf⟩ := bnd_s hf
  refine Fr.trans (Fr.mono (fr12_in g1) (by intro x hx; simp at hx) (by decide)) ?_
  by_cases c2 : r1 = 0
  · replace hf := ite_t c2 hf
    exact fb12_likely_19 hrc hf
  · replace hf := ite_f c2 hf
    obtain ⟨r5, M6, g3, hf⟩ := bnd_s hf
    refine Fr.trans (Fr.mono (fr12_in g3) (by intro x hx; simp at hx) (by decide)) ?_
    by_cases c4 : r5 = 0
    · replace hf := ite_t c4 hf
      exact fb12_likely_19 hrc hf
    · replace hf := ite_f c4 hf
      obtain ⟨r9, M10, g5, hf⟩ := bnd_s hf
      refine Fr.trans (Fr.mono (fr12_laysWeights g5) (by intro x hx; left; simp at hx ⊢; omega) (by decide)) ?_
      by_cases c6 : r9 = 0
      · replace hf := ite_t c6 hf
        exact fb12_likely_40 hrc hf
      · replace hf := ite_f c6 hf
        replace hf := chk_2 hf
        by_cases c7 : (M10.1 23 a1.toNatClampNeg) = (-1 : Int32)
        · replace hf := ite_t c7 hf
          exact fb12_likely_40 hrc hf
        · replace hf := ite_f c7 hf
          replace hf := chk_2 hf
          obtain ⟨r16, M17, g8, hf⟩ := bnd_s hf
          refine Fr.trans (Fr.mono (fr12_laysFraction g8) (by intro x hx; left; simp at hx ⊢; omega) (by decide)) ?_
          by_cases c9 : a2 = 0
          · replace hf := ite_t c9 hf
            exact Fr.of hf
          · replace hf := ite_f c9 hf
            exact Fr.of hf
theorem fr12_likely  {n : Nat} {a1 : Int32} {a2 : Int32} {M M' : Mem} {r : Int32} (hf : f12_likely n  a1 a2 M = some (r, M')) : Fr [0, 20, 21, 23] false M M' := fb12_likely_0 (fun _ _ _ _ h => by cases h) hf
theorem fb12_nextHour_53  {rc : Nat → List Int32 → List Int64 → Mem → Option (Int32 × Mem)} {n : Nat} {r : Int32} {M' : Mem} (hrc : ∀ pc li lj M, rc pc li lj M = some (r, M') → Fr [] false M M') {i1 : Int32} {i2 : Int32} {i3 : Int32} {M : Mem} (hf : b12_nextHour_53  rc n i1 i2 i3 M = some (r, M')) : Fr [] false M M' := by
  unfold b12_nextHour_53 at hf
  obtain ⟨v12, ev12, hf⟩ := lt_x hf
  exact hrc _ _ _ _ hf
theorem fb12_nextHour_51  {rc : Nat → List Int32 → List Int64 → Mem → Option (Int32 × Mem)} {n : Nat} {r : Int32} {M' : Mem} (hrc : ∀ pc li lj M, rc pc li lj M = some (r, M') → Fr [] false M M') {i1 : Int32} {i3 : Int32} {M : Mem} (hf : b12_nextHour_51  rc n i1 i3 M = some (r, M')) : Fr [] false M M' := by
  unfold b12_nextHour_51 at hf
  exact fb12_nextHour_53 hrc hf
theorem fb12_nextHour_4  {rc : Nat → List Int32 → List Int64 → Mem → Option (Int32 × Mem)} {n : Nat} {r : Int32} {M' : Mem} (hrc : ∀ pc li lj M, rc pc li lj M = some (r, M') → Fr [] false M M') {i1 : Int32} {i2 : Int32} {i3 : Int32} {M : Mem} (hf : b12_nextHour_4  rc n i1 i2 i3 M = some (r, M')) : Fr [] false M M' := by
  unfold b12_nextHour_4 at hf
  by_cases c1 : (24 : Int32) ≤ i3
  · replace hf := ite_t c1 hf
    exact Fr.of hf
  · replace hf := ite_f c1 hf
    obtain ⟨r2, M3, g2, hf⟩ := bnd_s hf
    refine Fr.trans (Fr.mono (fr12_has g2) (by intro x hx; simp at hx) (by decide)) ?_
    by_cases c3 : r2 = 0
    · replace hf := ite_t c3 hf
      replace hf := chk_2 hf
      by_cases c4 : (M3.1 23 i3.toNatClampNeg) = (-1 : Int32)
      · replace hf := ite_t c4 hf
        exact fb12_nextHour_53 hrc hf
      · replace hf := ite_f c4 hf
        by_cases c5 : i2 = (-1 : Int32)
        · replace hf := ite_t c5 hf
          exact fb12_nextHour_51 hrc hf
        · replace hf := ite_f c5 hf
          replace hf := chk_2 hf
          replace hf := chk_2 hf
          by_cases c6 : (M3.1 23 i3.toNatClampNeg) ≤ (M3.1 23 i2.toNatClampNeg)
          · replace hf := ite_t c6 hf
            exact fb12_nextHour_53 hrc hf
          · replace hf := ite_f c6 hf
            exact fb12_nextHour_51 hrc hf
    · replace hf := ite_f c3 hf
      exact fb12_nextHour_53 hrc hf
theorem fb12_nextHour_0  {rc : Nat → List Int32 → List Int64 → Mem → Option (Int32 × Mem)} {n : Nat} {r : Int32} {M' : Mem} (hrc : ∀ pc li lj M, rc pc li lj M = some (r, M') → Fr [] false M M') {a1 : Int32} {M : Mem} (hf : b12_nextHour_0  rc n a1 M = some (r, M')) : Fr [] false M M' := by
  unfold b12_nextHour_0 at hf
  exact fb12_nextHour_4 hrc hf
theorem fl12_nextHour  {r : Int32} {M' : Mem} (n : Nat) : ∀ pc li lj M, r12_nextHour  n pc li lj M = some (r, M') → Fr [] false M M' := by
  induction n with
  | zero => intro pc li lj M hf; cases hf
  | succ n ih =>
    intro pc li lj M hf
    rw [r12_nextHour] at hf
    dsimp only at hf
    by_cases c4 : pc = 4
    · replace hf := ite_t c4 hf
      split at hf
      · exact fb12_nextHour_4 ih hf
      · cases hf
    replace hf := ite_f c4 hf
    cases hf
theorem fr12_nextHour  {n : Nat} {a1 : Int32} {M M' : Mem} {r : Int32} (hf : f12_nextHour n  a1 M = some (r, M')) : Fr [] false M M' := fb12_nextHour_0 (fl12_nextHour n) hf
