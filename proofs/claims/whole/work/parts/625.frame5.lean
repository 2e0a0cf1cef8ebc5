theorem fb12_copies_2 {k0 : Nat} {k1 : Nat} {rc : Nat → List Int32 → List Int64 → Mem → Option (Unit × Mem)} {n : Nat} {r : Unit} {M' : Mem} (hrc : ∀ pc li lj M, rc pc li lj M = some (r, M') → Fr [k1] false M M') {i2 : Int32} {M : Mem} (hf : b12_copies_2 k0 k1 rc n i2 M = some (r, M')) : Fr [k1] false M M' := by
  unfold b12_copies_2 at hf
  by_cases c1 : (162 : Int32) ≤ i2
  · replace hf := ite_t c1 hf
    exact Fr.of hf
  · replace hf := ite_f c1 hf
    replace hf := chk_2 hf
    replace hf := chk_2 hf
    obtain ⟨M4, eM4, hf⟩ := lt_x hf
    refine Fr.wI eM4 (by simp) ?_
    obtain ⟨v5, ev5, hf⟩ := lt_x hf
    exact hrc _ _ _ _ hf
theorem fb12_copies_0 {k0 : Nat} {k1 : Nat} {rc : Nat → List Int32 → List Int64 → Mem → Option (Unit × Mem)} {n : Nat} {r : Unit} {M' : Mem} (hrc : ∀ pc li lj M, rc pc li lj M = some (r, M') → Fr [k1] false M M')  {M : Mem} (hf : b12_copies_0 k0 k1 rc n  M = some (r, M')) : Fr [k1] false M M' := by
  unfold b12_copies_0 at hf
  exact fb12_copies_2 hrc hf
theorem fl12_copies {k0 : Nat} {k1 : Nat} {r : Unit} {M' : Mem} (n : Nat) : ∀ pc li lj M, r12_copies k0 k1 n pc li lj M = some (r, M') → Fr [k1] false M M' := by
  induction n with
  | zero => intro pc li lj M hf; cases hf
  | succ n ih =>
    intro pc li lj M hf
    rw [r12_copies] at hf
    dsimp only at hf
    by_cases c2 : pc = 2
    · replace hf := ite_t c2 hf
      split at hf
      · exact fb12_copies_2 ih hf
      · cases hf
    replace hf := ite_f c2 hf
    cases hf
theorem fr12_copies {k0 : Nat} {k1 : Nat} {n : Nat}  {M M' : Mem} {r : Unit} (hf : f12_copies n k0 k1  M = some (r, M')) : Fr [k1] false M M' := fb12_copies_0 (fl12_copies n) hf
theorem fb12_isPlace_24  {rc : Nat → List Int32 → List Int64 → Mem → Option (Int32 × Mem)} {n : Nat} {r : Int32} {M' : Mem} (hrc : ∀ pc li lj M, rc pc li lj M = some (r, M') → Fr [] false M M')  {M : Mem} (hf : b12_isPlace_24  rc n  M = some (r, M')) : Fr [] false M M' := by
  unfold b12_isPlace_24 at hf
  exact Fr.of hf
theorem fb12_isPlace_0  {rc : Nat → List Int32 → List Int64 → Mem → Option (Int32 × Mem)} {n : Nat} {r : Int32} {M' : Mem} (hrc : ∀ pc li lj M, rc pc li lj M = some (r, M') → Fr [] false M M') {a0 : Int32} {a1 : Int32} {M : Mem} (hf : b12_isPlace_0  rc n a0 a1 M = some (r, M')) : Fr [] false M M' := by
  unfold b12_isPlace_0 at hf
  obtain ⟨r1, M2, g1, hf⟩ := bnd_s hf
  refine Fr.trans (Fr.mono (fr12_in g1) (by intro x hx; simp at hx) (by decide)) ?_
  by_cases c2 : r1 = 0
  · replace hf := ite_t c2 hf
    exact fb12_isPlace_24 hrc hf
  · replace hf := ite_f c2 hf
    obtain ⟨r5, M6, g3, hf⟩ := bnd_s hf
    refine Fr.trans (Fr.mono (fr12_in g3) (by intro x hx; simp at hx) (by decide)) ?_
    by_cases c4 : r5 = 0
    · replace hf := ite_t c4 hf
      exact fb12_isPlace_24 hrc hf
    · replace hf := ite_f c4 hf
      exact Fr.of hf
theorem fr12_isPlace  {n : Nat} {a0 : Int32} {a1 : Int32} {M M' : Mem} {r : Int32} (hf : f12_isPlace n  a0 a1 M = some (r, M')) : Fr [] false M M' := fb12_isPlace_0 (fun _ _ _ _ h => by cases h) hf
theorem fb12_isOpen_18  {rc : Nat → List Int32 → List Int64 → Mem → Option (Int32 × Mem)} {n : Nat} {r : Int32} {M' : Mem} (hrc : ∀ pc li lj M, rc pc li lj M = some (r, M') → Fr [] false M M')  {M : Mem} (hf : b12_isOpen_18  rc n  M = some (r, M')) : Fr [] false M M' := by
  unfold b12_isOpen_18 at hf
  exact Fr.of hf
theorem fb12_isOpen_0  {rc : Nat → List Int32 → List Int64 → Mem → Option (Int32 × Mem)} {n : Nat} {r : Int32} {M' : Mem} (hrc : ∀ pc li lj M, rc pc li lj M = some (r, M') → Fr [] false M M') {a1 : Int32} {M : Mem} (hf : b12_isOpen_0  rc n a1 M = some (r, M')) : Fr [] false M M' := by
  unfold b12_isOpen_0 at hf
  by_cases c1 : a1 = (M.1 0 5)
  · replace hf := ite_t c1 hf
    exact fb12_isOpen_18 hrc hf
  · replace hf := ite_f c1 hf
    have h2 := chk_1 hf
    replace hf := chk_2 hf
    by_cases c3 : (M.1 4 a1.toNatClampNeg) = (2 : Int32)
    · replace hf := ite_t c3 hf
      exact fb12_isOpen_18 hrc hf
    · replace hf := ite_f c3 hf
      exact Fr.of hf
theorem fr12_isOpen  {n : Nat} {a1 : Int32} {M M' : Mem} {r : Int32} (hf : f12_isOpen n  a1 M = some (r, M')) : Fr [] false M M' := fb12_isOpen_0 (fun _ _ _ _ h => by cases h) hf
theorem fb12_square_0  {rc : Nat → List Int32 → List Int64 → Mem → Option (Int32 × Mem)} {n : Nat} {r : Int32} {M' : Mem} (hrc : ∀ pc li lj M, rc pc li lj M = some (r, M') → Fr [0] false M M') {a1 : Int32} {a2 : Int32} {M : Mem} (hf : b12_square_0  rc n a1 a2 M = some (r, M')) : Fr [0] false M M' := by
  unfold b12_square_0 at hf
  obtain ⟨r1, M2, g1, hf⟩ := bnd_s hf
  refine Fr.trans (Fr.mono (fr12_isPlace g1) (by intro x hx; simp at hx) (by decide)) ?_
  by_cases c2 : r1 = 0
  · replace hf := ite_t c2 hf
    exact Fr.of hf
  · replace hf := ite_f c2 hf
    obtain ⟨M5, eM5, hf⟩ := lt_x hf
    refine Fr.wI eM5 (by simp) ?_
    obtain ⟨M6, eM6, hf⟩ := lt_x hf
    refine Fr.wI eM6 (by simp) ?_
    exact Fr.of hf
theorem fr12_square  {n : Nat} {a1 : Int32} {a2 : Int32} {M M' : Mem} {r : Int32} (hf : f12_square n  a1 a2 M = some (r, M')) : Fr [0] false M M' := fb12_square_0 (fun _ _ _ _ h => by cases h) hf
theorem fb12_door_18  {rc : Nat → List Int32 → List Int64 → Mem → Option (Int32 × Mem)} {n : Nat} {r : Int32} {M' : Mem} (hrc : ∀ pc li lj M, rc pc li lj M = some (r, M') → Fr [5] false M M')  {M : Mem} (hf : b12_door_18  rc n  M = some (r, M')) : Fr [5] false M M' := by
  unfold b12_door_18 at hf
  exact Fr.of hf
theorem fb12_door_0  {rc : Nat → List Int32 → List Int64 → Mem → Option (Int32 × Mem)} {n : Nat} {r : Int32} {M' : Mem} (hrc : ∀ pc li lj M, rc pc li lj M = some (r, M') → Fr [5] false M M') {a1 : Int32} {a2 : Int32} {a3 : Int32} {M : Mem} (hf : b12_door_0  rc n a1 a2 a3 M = some (r, M')) : Fr [5] false M M' := by
  unfold b12_door_0 at hf
  obtain ⟨r1, M2, g1, hf⟩ := bnd_s hf
  refine Fr.trans (Fr.mono (fr12_in g1) (by intro x hx; simp at hx) (by decide)) ?_
  by_cases c2 : r1 = 0
  · replace hf := ite_t c2 hf
    exact fb12_door_18 hrc hf
  · replace hf := ite_f c2 hf
    obtain ⟨r5, M6, g3, hf⟩ := bnd_s hf
    refine Fr.trans (Fr.mono (fr12_isPlace g3) (by intro x hx; simp at hx) (by decide)) ?_
    by_cases c4 : r5 = 0
    · replace hf := ite_t c4 hf
      exact fb12_door_18 hrc hf
    · replace hf := ite_f c4 hf
      replace hf := chk_2 hf
      obtain ⟨M10, eM10, hf⟩ := lt_x hf
      refine Fr.wI eM10 (by simp) ?_
      exact Fr.of hf
theorem fr12_door  {n : Nat} {a1 : Int32} {a2 : Int32} {a3 : Int32} {M M' : Mem} {r : Int32} (hf : f12_door n  a1 a2 a3 M = some (r, M')) : Fr [5] false M M' := fb12_door_0 (fun _ _ _ _ h => by cases h) hf
theorem fb12_beside_47  {rc : Nat → List Int32 → List Int64 → Mem → Option (Int32 × Mem)} {n : Nat} {r : Int32} {M' : Mem} (hrc : ∀ pc li lj M, rc pc li lj M = some (r, M') → Fr [] false M M') {i2 : Int32} {s0 : Int32} {s1 : Int32} {M : Mem} (hf : b12_beside_47  rc n i2 s0 s1 M = some (r, M')) : Fr [] false M M' := by
  unfold b12_beside_47 at hf
  obtain ⟨v6, ev6, hf⟩ := lt_x hf
  obtain ⟨r7, M8, g1, hf⟩ := bnd_s hf
  refine Fr.trans (Fr.mono (fr12_isPlace g1) (by intro x hx; simp at hx) (by decide)) ?_
  by_cases c2 : r7 = 0
  · replace hf := ite_t c2 hf
    exact Fr.of hf
  · replace hf := ite_f c2 hf
    exact Fr.of hf
theorem fb12_beside_23  {rc : Nat → List Int32 → List Int64 → Mem → Option (Int32 × Mem)} {n : Nat} {r : Int32} {M' : Mem} (hrc : ∀ pc li lj M, rc pc li lj M = some (r, M') → Fr [] false M M') {i0 : Int32} {i1 : Int32} {s0 : Int32} {s1 : Int32} {M : Mem} (hf : b12_beside_23  rc n i0 i1 s0 s1 M = some (r, M')) : Fr [] false M M' := by
  unfold b12_beside_23 at hf
  obtain ⟨v3, ev3, hf⟩ := lt_x hf
  by_cases c1 : i1 = (2 : Int32)
  · replace hf := ite_t c1 hf
    exact fb12_beside_47 hrc hf
  · replace hf := ite_f c1 hf
    by_cases c2 : i1 = 0
    · replace hf := ite_t c2 hf
      exact fb12_beside_47 hrc hf
    · replace hf := ite_f c2 hf
      exact fb12_beside_47 hrc hf
theorem fb12_beside_0  {rc : Nat → List Int32 → List Int64 → Mem → Option (Int32 × Mem)} {n : Nat} {r : Int32} {M' : Mem} (hrc : ∀ pc li lj M, rc pc li lj M = some (r, M') → Fr [] false M M') {a0 : Int32} {a1 : Int32} {M : Mem} (hf : b12_beside_0  rc n a0 a1 M = some (r, M')) : Fr [] false M M' := by
  unfold b12_beside_0 at hf
  by_cases c1 : a1 = (1 : Int32)
  · replace hf := ite_t c1 hf
    exact fb12_beside_23 hrc hf
  · replace hf := ite_f c1 hf
    by_cases c2 : a1 = (3 : Int32)
    · replace hf := ite_t c2 hf
      exact fb12_beside_23 hrc hf
    · replace hf := ite_f c2 hf
      exact fb12_beside_23 hrc hf
theorem fr12_beside  {n : Nat} {a0 : Int32} {a1 : Int32} {M M' : Mem} {r : Int32} (hf : f12_beside n  a0 a1 M = some (r, M')) : Fr [] false M M' := fb12_beside_0 (fun _ _ _ _ h => by cases h) hf
theorem fb12_laysFrom_164  {rc : Nat → List Int32 → List Int64 → Mem → Option (Unit × Mem)} {n : Nat} {r : Unit} {M' : Mem} (hrc : ∀ pc li lj M, rc pc li lj M = some (r, M') → Fr [6, 7] false M M') {i1 : Int32} {i2 : Int32} {i3 : Int32} {i4 : Int32} {M : Mem} (hf : b12_laysFrom_164  rc n i1 i2 i3 i4 M = some (r, M')) : Fr [6, 7] false M M' := by
  unfold b12_laysFrom_164 at hf
  obtain ⟨v34, ev34, hf⟩ := lt_x hf
  exact hrc _ _ _ _ hf
theorem fb12_laysFrom_67  {rc : Nat → List Int32 → List Int64 → Mem → Option (Unit × Mem)} {n : Nat} {r : Unit} {M' : Mem} (hrc : ∀ pc li lj M, rc pc li lj M = some (r, M') → Fr [6, 7] false M M') {i1 : Int32} {i2 : Int32} {i3 : Int32} {i4 : Int32} {M : Mem} (hf : b12_laysFrom_67  rc n i1 i2 i3 i4 M = some (r, M')) : Fr [6, 7] false M M' := by
  unfold b12_laysFrom_67 at hf
  by_cases c1 : (4 : Int32) ≤ i4
  · replace hf := ite_t c1 hf
    obtain ⟨v15, ev15, hf⟩ := lt_x hf
    exact hrc _ _ _ _ hf
  · replace hf := ite_f c1 hf
    have h2 := chk_1 hf
    replace hf := chk_2 hf
    obtain ⟨r17, M18, g3, hf⟩ := bnd_s hf
    refine Fr.trans (Fr.mono (fr12_beside g3) (by intro x hx; simp at hx) (by decide)) ?_
    by_cases c4 : r17 = (-1 : Int32)
    · replace hf := ite_t c4 hf
      exact fb12_laysFrom_164 hrc hf
    · replace hf := ite_f c4 hf
      obtain ⟨r21, M22, g5, hf⟩ := bnd_s hf
      refine Fr.trans (Fr.mono (fr12_isOpen g5) (by intro x hx; simp at hx) (by decide)) ?_
      by_cases c6 : r21 = 0
      · replace hf := ite_t c6 hf
        exact fb12_laysFrom_164 hrc hf
      · replace hf := ite_f c6 hf
        replace hf := chk_2 hf
        by_cases c7 : (M22.1 6 (((96 : Int32) * i1) + r17).toNatClampNeg) = (99 : Int32)
        · replace hf := ite_t c7 hf
          have h8 := chk_1 hf
          replace hf := chk_2 hf
          replace hf := chk_2 hf
          replace hf := chk_2 hf
          obtain ⟨M30, eM30, hf⟩ := lt_x hf
          refine Fr.wI eM30 (by simp) ?_
          have h9 := chk_1 hf
          replace hf := chk_2 hf
          obtain ⟨M32, eM32, hf⟩ := lt_x hf
          refine Fr.wI eM32 (by simp) ?_
          obtain ⟨v33, ev33, hf⟩ := lt_x hf
          exact fb12_laysFrom_164 hrc hf
        · replace hf := ite_f c7 hf
          exact fb12_laysFrom_164 hrc hf
theorem fb12_laysFrom_59  {rc : Nat → List Int32 → List Int64 → Mem → Option (Unit × Mem)} {n : Nat} {r : Unit} {M' : Mem} (hrc : ∀ pc li lj M, rc pc li lj M = some (r, M') → Fr [6, 7] false M M') {i1 : Int32} {i2 : Int32} {i3 : Int32} {M : Mem} (hf : b12_laysFrom_59  rc n i1 i2 i3 M = some (r, M')) : Fr [6, 7] false M M' := by
  unfold b12_laysFrom_59 at hf
  by_cases c1 : i2 ≤ i3
  · replace hf := ite_t c1 hf
    exact Fr.of hf
  · replace hf := ite_f c1 hf
    exact fb12_laysFrom_67 hrc hf
theorem fb12_laysFrom_2  {rc : Nat → List Int32 → List Int64 → Mem → Option (Unit × Mem)} {n : Nat} {r : Unit} {M' : Mem} (hrc : ∀ pc li lj M, rc pc li lj M = some (r, M') → Fr [6, 7] false M M') {i1 : Int32} {i2 : Int32} {M : Mem} (hf : b12_laysFrom_2  rc n i1 i2 M = some (r, M')) : Fr [6, 7] false M M' := by
  unfold b12_laysFrom_2 at hf
  by_cases c1 : (96 : Int32) ≤ i2
  · replace hf := ite_t c1 hf
    obtain ⟨r2, M3, g2, hf⟩ := bnd_s hf
    refine Fr.trans (Fr.mono (fr12_isOpen g2) (by intro x hx; simp at hx) (by decide)) ?_
    by_cases c3 : r2 = 0
    · replace hf := ite_t c3 hf
      exact Fr.of hf
    · replace hf := ite_f c3 hf
      replace hf := chk_2 hf
      obtain ⟨M7, eM7, hf⟩ := lt_x hf
      refine Fr.wI eM7 (by simp) ?_
      have h4 := chk_1 hf
      replace hf := chk_2 hf
      obtain ⟨M9, eM9, hf⟩ := lt_x hf
      refine Fr.wI eM9 (by simp) ?_
      exact fb12_laysFrom_59 hrc hf
  · replace hf := ite_f c1 hf
    replace hf := chk_2 hf
    obtain ⟨M11, eM11, hf⟩ := lt_x hf
    refine Fr.wI eM11 (by simp) ?_
    obtain ⟨v12, ev12, hf⟩ := lt_x hf
    exact hrc _ _ _ _ hf
theorem fb12_laysFrom_0  {rc : Nat → List Int32 → List Int64 → Mem → Option (Unit × Mem)} {n : Nat} {r : Unit} {M' : Mem} (hrc : ∀ pc li lj M, rc pc li lj M = some (r, M') → Fr [6, 7] false M M') {a1 : Int32} {M : Mem} (hf : b12_laysFrom_0  rc n a1 M = some (r, M')) : Fr [6, 7] false M M' := by
  unfold b12_laysFrom_0 at hf
  exact fb12_laysFrom_2 hrc hf
theorem fl12_laysFrom  {r : Unit} {M' : Mem} (n : Nat) : ∀ pc li lj M, r12_laysFrom  n pc li lj M = some (r, M') → Fr [6, 7] false M M' := by
  induction n with
  | zero => intro pc li lj M hf; cases hf
  | succ n ih =>
    intro pc li lj M hf
    rw [r12_laysFrom] at hf
    dsimp only at hf
    by_cases c2 : pc = 2
    · replace hf := ite_t c2 hf
      split at hf
      · exact fb12_laysFrom_2 ih hf
      · cases hf
    replace hf := ite_f c2 hf
    by_cases c59 : pc = 59
    · replace hf := ite_t c59 hf
      split at hf
      · exact fb12_laysFrom_59 ih hf
      · cases hf
    replace hf := ite_f c59 hf
    by_cases c67 : pc = 67
    · replace hf := ite_t c67 hf
      split at hf
      · exact fb12_laysFrom_67 ih hf
      · cases hf
    replace hf := ite_f c67 hf
    cases hf
theorem fr12_laysFrom  {n : Nat} {a1 : Int32} {M M' : Mem} {r : Unit} (hf : f12_laysFrom n  a1 M = some (r, M')) : Fr [6, 7] false M M' := fb12_laysFrom_0 (fl12_laysFrom n) hf
theorem fb12_steps_31  {rc : Nat → List Int32 → List Int64 → Mem → Option (Int32 × Mem)} {n : Nat} {r : Int32} {M' : Mem} (hrc : ∀ pc li lj M, rc pc li lj M = some (r, M') → Fr [0, 6, 7] false M M') {i1 : Int32} {i2 : Int32} {M : Mem} (hf : b12_steps_31  rc n i1 i2 M = some (r, M')) : Fr [0, 6, 7] false M M' := by
  unfold b12_steps_31 at hf
  replace hf := chk_2 hf
  exact Fr.of hf
theorem fb12_steps_9  {rc : Nat → List Int32 → List Int64 → Mem → Option (Int32 × Mem)} {n : Nat} {r : Int32} {M' : Mem} (hrc : ∀ pc li lj M, rc pc li lj M = some (r, M') → Fr [0, 6, 7] false M M') {i1 : Int32} {i2 : Int32} {i3 : Int32} {M : Mem} (hf : b12_steps_9  rc n i1 i2 i3 M = some (r, M')) : Fr [0, 6, 7] false M M' := by
  unfold b12_steps_9 at hf
  by_cases c1 : (96 : Int32) ≤ i3
  · replace hf := ite_t c1 hf
    obtain ⟨M3, eM3, hf⟩ := lt_x hf
    refine Fr.wI eM3 (by simp) ?_
    exact fb12_steps_31 hrc hf
  · replace hf := ite_f c1 hf
    obtain ⟨r4, M5, g2, hf⟩ := bnd_s hf
    refine Fr.trans (Fr.mono (fr12_laysFrom g2) (by intro x hx; left; simp at hx ⊢; omega) (by decide)) ?_
    obtain ⟨v7, ev7, hf⟩ := lt_x hf
    exact hrc _ _ _ _ hf
theorem fb12_steps_0  {rc : Nat → List Int32 → List Int64 → Mem → Option (Int32 × Mem)} {n : Nat} {r : Int32} {M' : Mem} (hrc : ∀ pc li lj M, rc pc li lj M = some (r, M') → Fr [0, 6, 7] false M M') {a1 : Int32} {a2 : Int32} {M : Mem} (hf : b12_steps_0  rc n a1 a2 M = some (r, M')) : Fr [0, 6, 7] false M M' := by
  unfold b12_steps_0 at hf
  by_cases c1 : (M.1 0 9) = 0
  · replace hf := ite_t c1 hf
    exact fb12_steps_9 hrc hf
  · replace hf := ite_f c1 hf
    exact fb12_steps_31 hrc hf
theorem fl12_steps  {r : Int32} {M' : Mem} (n : Nat) : ∀ pc li lj M, r12_steps  n pc li lj M = some (r, M') → Fr [0, 6, 7] false M M' := by
  induction n with
  | zero => intro pc li lj M hf; cases hf
  | succ n ih =>
    intro pc li lj M hf
    rw [r12_steps] at hf
    dsimp only at hf
    by_cases c9 : pc = 9
    · replace hf := ite_t c9 hf
      split at hf
      · exact fb12_steps_9 ih hf
      · cases hf
    replace hf := ite_f c9 hf
    cases hf
theorem fr12_steps  {n : Nat} {a1 : Int32} {a2 : Int32} {M M' : Mem} {r : Int32} (hf : f12_steps n  a1 a2 M = some (r, M')) : Fr [0, 6, 7] false M M' := fb12_steps_0 (fl12_steps n) hf
theorem fb12_toDoorNine_0  {rc : Nat → List Int32 → List Int64 → Mem → Option (Int32 × Mem)} {n : Nat} {r : Int32} {M' : Mem} (hrc : ∀ pc li lj M, rc pc li lj M = some (r, M') → Fr [0, 6, 7] false M M') {a1 : Int32} {M : Mem} (hf : b12_toDoorNine_0  rc n a1 M = some (r, M')) : Fr [0, 6, 7] false M M' := by
  unfold b12_toDoorNine_0 at hf
  replace hf := chk_2 hf
  by_cases c1 : (M.1 5 (9 : Int32).toNatClampNeg) = (-1 : Int32)
  · replace hf := ite_t c1 hf
    exact Fr.of hf
  · replace hf := ite_f c1 hf
    replace hf := chk_2 hf
    obtain ⟨r4, M5, g2, hf⟩ := bnd_s hf
    refine Fr.trans (Fr.mono (fr12_steps g2) (by intro x hx; left; simp at hx ⊢; omega) (by decide)) ?_
    exact Fr.of hf
theorem fr12_toDoorNine  {n : Nat} {a1 : Int32} {M M' : Mem} {r : Int32} (hf : f12_toDoorNine n  a1 M = some (r, M')) : Fr [0, 6, 7] false M M' := fb12_toDoorNine_0 (fun _ _ _ _ h => by cases h) hf
theorem fb12_neighbours_34  {rc : Nat → List Int32 → List Int64 → Mem → Option (Int32 × Mem)} {n : Nat} {r : Int32} {M' : Mem} (hrc : ∀ pc li lj M, rc pc li lj M = some (r, M') → Fr [] false M M') {i1 : Int32} {i2 : Int32} {i3 : Int32} {M : Mem} (hf : b12_neighbours_34  rc n i1 i2 i3 M = some (r, M')) : Fr [] false M M' := by
  unfold b12_neighbours_34 at hf
  obtain ⟨v14, ev14, hf⟩ := lt_x hf
  exact hrc _ _ _ _ hf
theorem fb12_neighbours_4  {rc : Nat → List Int32 → List Int64 → Mem → Option (Int32 × Mem)} {n : Nat} {r : Int32} {M' : Mem} (hrc : ∀ pc li lj M, rc pc li lj M = some (r, M') → Fr [] false M M') {i1 : Int32} {i2 : Int32} {i3 : Int32} {M : Mem} (hf : b12_neighbours_4  rc n i1 i2 i3 M = some (r, M')) : Fr [] false M M' := by
  unfold b12_neighbours_4 at hf
  by_cases c1 : (4 : Int32) ≤ i3
  · replace hf := ite_t c1 hf
    exact Fr.of hf
  · replace hf := ite_f c1 hf
    obtain ⟨r2, M3, g2, hf⟩ := bnd_s hf
    refine Fr.trans (Fr.mono (fr12_beside g2) (by intro x hx; simp at hx) (by decide)) ?_
    by_cases c3 : r2 = (-1 : Int32)
    · replace hf := ite_t c3 hf
      exact fb12_neighbours_34 hrc hf
    · replace hf := ite_f c3 hf
      obtain ⟨r6, M7, g4, hf⟩ := bnd_s hf
      refine Fr.trans (Fr.mono (fr12_beside g4) (by intro x hx; simp at hx) (by decide)) ?_
      obtain ⟨r9, M10, g5, hf⟩ := bnd_s hf
      refine Fr.trans (Fr.mono (fr12_isOpen g5) (by intro x hx; simp at hx) (by decide)) ?_
      by_cases c6 : r9 = 0
      · replace hf := ite_t c6 hf
        exact fb12_neighbours_34 hrc hf
      · replace hf := ite_f c6 hf
        obtain ⟨v13, ev13, hf⟩ := lt_x hf
        exact fb12_neighbours_34 hrc hf
theorem fb12_neighbours_0  {rc : Nat → List Int32 → List Int64 → Mem → Option (Int32 × Mem)} {n : Nat} {r : Int32} {M' : Mem} (hrc : ∀ pc li lj M, rc pc li lj M = some (r, M') → Fr [] false M M') {a1 : Int32} {M : Mem} (hf : b12_neighbours_0  rc n a1 M = some (r, M')) : Fr [] false M M' := by
  unfold b12_neighbours_0 at hf
  exact fb12_neighbours_4 hrc hf
theorem fl12_neighbours  {r : Int32} {M' : Mem} (n : Nat) : ∀ pc li lj M, r12_neighbours  n pc li lj M = some (r, M') → Fr [] false M M' := by
  induction n with
  | zero => intro pc li lj M hf; cases hf
  | succ n ih =>
    intro pc li lj M hf
    rw [r12_neighbours] at hf
    dsimp only at hf
    by_cases c4 : pc = 4
    · replace hf := ite_t c4 hf
      split at hf
      · exact fb12_neighbours_4 ih hf
      · cases hf
    replace hf := ite_f c4 hf
    cases hf
theorem fr12_neighbours  {n : Nat} {a1 : Int32} {M M' : Mem} {r : Int32} (hf : f12_neighbours n  a1 M = some (r, M')) : Fr [] false M M' := fb12_neighbours_0 (fl12_neighbours n) hf
theorem fb12_types_2  {rc : Nat → List Int32 → List Int64 → Mem → Option (Unit × Mem)} {n : Nat} {r : Unit} {M' : Mem} (hrc : ∀ pc li lj M, rc pc li lj M = some (r, M') → Fr [0, 8] false M M') {i1 : Int32} {i2 : Int32} {M : Mem} (hf : b12_types_2  rc n i1 i2 M = some (r, M')) : Fr [0, 8] false M M' := by
  unfold b12_types_2 at hf
  by_cases c1 : i2 < 0
  · replace hf := ite_t c1 hf
    exact Fr.of hf
  · replace hf := ite_f c1 hf
    replace hf := chk_2 hf
    obtain ⟨M3, eM3, hf⟩ := lt_x hf
    refine Fr.wI eM3 (by simp) ?_
    obtain ⟨M4, eM4, hf⟩ := lt_x hf
    refine Fr.wI eM4 (by simp) ?_
    obtain ⟨v5, ev5, hf⟩ := lt_x hf
    exact hrc _ _ _ _ hf
theorem fb12_types_0  {rc : Nat → List Int32 → List Int64 → Mem → Option (Unit × Mem)} {n : Nat} {r : Unit} {M' : Mem} (hrc : ∀ pc li lj M, rc pc li lj M = some (r, M') → Fr [0, 8] false M M') {a1 : Int32} {M : Mem} (hf : b12_types_0  rc n a1 M = some (r, M')) : Fr [0, 8] false M M' := by
  unfold b12_types_0 at hf
  exact fb12_types_2 hrc hf
theorem fl12_types  {r : Unit} {M' : Mem} (n : Nat) : ∀ pc li lj M, r12_types  n pc li lj M = some (r, M') → Fr [0, 8] false M M' := by
  induction n with
  | zero => intro pc li lj M hf; cases hf
  | succ n ih =>
    intro pc li lj M hf
    rw [r12_types] at hf
    dsimp only at hf
    by_cases c2 : pc = 2
    · replace hf := ite_t c2 hf
      split at hf
      · exact fb12_types_2 ih hf
      · cases hf
    replace hf := ite_f c2 hf
    cases hf
theorem fr12_types  {n : Nat} {a1 : Int32} {M M' : Mem} {r : Unit} (hf : f12_types n  a1 M = some (r, M')) : Fr [0, 8] false M M' := fb12_types_0 (fl12_types n) hf
theorem fb12_feed_0  {rc : Nat → List Int32 → List Int64 → Mem → Option (Int32 × Mem)} {n : Nat} {r : Int32} {M' : Mem} (hrc : ∀ pc li lj M, rc pc li lj M = some (r, M') → Fr [0, 8] false M M') {a1 : Int32} {a2 : Int32} {a3 : Int32} {a4 : Int32} {a5 : Int32} {M : Mem} (hf : b12_feed_0  rc n a1 a2 a3 a4 a5 M = some (r, M')) : Fr [0, 8] false M M' := by
  unfold b12_feed_0 at hf
  by_cases c1 : ((M.1 0 11) + (20 : Int32)) ≤ (260 : Int32)
  · replace hf := ite_t c1 hf
    obtain ⟨r2, M3, g2, hf⟩ := bnd_s hf
    refine Fr.trans (Fr.mono (fr12_types g2) (by intro x hx; left; simp at hx ⊢; omega) (by decide)) ?_
    obtain ⟨r5, M6, g3, hf⟩ := bnd_s hf
    refine Fr.trans (Fr.mono (fr12_types g3) (by intro x hx; left; simp at hx ⊢; omega) (by decide)) ?_
    obtain ⟨r8, M9, g4, hf⟩ := bnd_s hf
    refine Fr.trans (Fr.mono (fr12_types g4) (by intro x hx; left; simp at hx ⊢; omega) (by decide)) ?_
    obtain ⟨r11, M12, g5, hf⟩ := bnd_s hf
    refine Fr.trans (Fr.mono (fr12_types g5) (by intro x hx; left; simp at hx ⊢; omega) (by decide)) ?_
    obtain ⟨r14, M15, g6, hf⟩ := bnd_s hf
    refine Fr.trans (Fr.mono (fr12_types g6) (by intro x hx; left; simp at hx ⊢; omega) (by decide)) ?_
    exact Fr.of hf
  · replace hf := ite_f c1 hf
    exact Fr.of hf
theorem fr12_feed  {n : Nat} {a1 : Int32} {a2 : Int32} {a3 : Int32} {a4 : Int32} {a5 : Int32} {M M' : Mem} {r : Int32} (hf : f12_feed n  a1 a2 a3 a4 a5 M = some (r, M')) : Fr [0, 8] false M M' := fb12_feed_0 (fun _ _ _ _ h => by cases h) hf
theorem fb12_octet_0  {rc : Nat → List Int32 → List Int64 → Mem → Option (Int32 × Mem)} {n : Nat} {r : Int32} {M' : Mem} (hrc : ∀ pc li lj M, rc pc li lj M = some (r, M') → Fr [] false M M') {a1 : Int32} {M : Mem} (hf : b12_octet_0  rc n a1 M = some (r, M')) : Fr [] false M M' := by
  unfold b12_octet_0 at hf
  replace hf := chk_2 hf
  exact Fr.of hf
theorem fr12_octet  {n : Nat} {a1 : Int32} {M M' : Mem} {r : Int32} (hf : f12_octet n  a1 M = some (r, M')) : Fr [] false M M' := fb12_octet_0 (fun _ _ _ _ h => by cases h) hf
theorem fb12_here_0  {rc : Nat → List Int32 → List Int64 → Mem → Option (Int32 × Mem)} {n : Nat} {r : Int32} {M' : Mem} (hrc : ∀ pc li lj M, rc pc li lj M = some (r, M') → Fr [] false M M')  {M : Mem} (hf : b12_here_0  rc n  M = some (r, M')) : Fr [] false M M' := by
  unfold b12_here_0 at hf
  by_cases c1 : (M.1 0 13) ≤ (M.1 0 12)
  · replace hf := ite_t c1 hf
    exact Fr.of hf
  · replace hf := ite_f c1 hf
    replace hf := chk_2 hf
    exact Fr.of hf
theorem fr12_here  {n : Nat}  {M M' : Mem} {r : Int32} (hf : f12_here n   M = some (r, M')) : Fr [] false M M' := fb12_here_0 (fun _ _ _ _ h => by cases h) hf
theorem fb12_isDigit_22  {rc : Nat → List Int32 → List Int64 → Mem → Option (Int32 × Mem)} {n : Nat} {r : Int32} {M' : Mem} (hrc : ∀ pc li lj M, rc pc li lj M = some (r, M') → Fr [] false M M')  {M : Mem} (hf : b12_isDigit_22  rc n  M = some (r, M')) : Fr [] false M M' := by
  unfold b12_isDigit_22 at hf
  exact Fr.of hf
theorem fb12_isDigit_0  {rc : Nat → List Int32 → List Int64 → Mem → Option (Int32 × Mem)} {n : Nat} {r : Int32} {M' : Mem} (hrc : ∀ pc li lj M, rc pc li lj M = some (r, M') → Fr [] false M M')  {M : Mem} (hf : b12_isDigit_0  rc n  M = some (r, M')) : Fr [] false M M' := by
  unfold b12_isDigit_0 at hf
  obtain ⟨r1, M2, g1, hf⟩ := bnd_s hf
  refine Fr.trans (Fr.mono (fr12_here g1) (by intro x hx; simp at hx) (by decide)) ?_
  by_cases c2 : r1 < (48 : Int32)
  · replace hf := ite_t c2 hf
    exact fb12_isDigit_22 hrc hf
  · replace hf := ite_f c2 hf
    obtain ⟨r5, M6, g3, hf⟩ := bnd_s hf
    refine Fr.trans (Fr.mono (fr12_here g3) (by intro x hx; simp at hx) (by decide)) ?_
    by_cases c4 : (57 : Int32) < r5
    · replace hf := ite_t c4 hf
      exact fb12_isDigit_22 hrc hf
    · replace hf := ite_f c4 hf
      exact Fr.of hf
theorem fr12_isDigit  {n : Nat}  {M M' : Mem} {r : Int32} (hf : f12_isDigit n   M = some (r, M')) : Fr [] false M M' := fb12_isDigit_0 (fun _ _ _ _ h => by cases h) hf
theorem fb12_wrongAt_0  {rc : Nat → List Int32 → List Int64 → Mem → Option (Int32 × Mem)} {n : Nat} {r : Int32} {M' : Mem} (hrc : ∀ pc li lj M, rc pc li lj M = some (r, M') → Fr [0] false M M') {a1 : Int32} {a2 : Int32} {M : Mem} (hf : b12_wrongAt_0  rc n a1 a2 M = some (r, M')) : Fr [0] false M M' := by
  unfold b12_wrongAt_0 at hf
  obtain ⟨M1, eM1, hf⟩ := lt_x hf
  refine Fr.wI eM1 (by simp) ?_
  exact Fr.of hf
theorem fr12_wrongAt  {n : Nat} {a1 : Int32} {a2 : Int32} {M M' : Mem} {r : Int32} (hf : f12_wrongAt n  a1 a2 M = some (r, M')) : Fr [0] false M M' := fb12_wrongAt_0 (fun _ _ _ _ h => by cases h) hf
theorem fb12_takes_0  {rc : Nat → List Int32 → List Int64 → Mem → Option (Int32 × Mem)} {n : Nat} {r : Int32} {M' : Mem} (hrc : ∀ pc li lj M, rc pc li lj M = some (r, M') → Fr [0] false M M') {a1 : Int32} {M : Mem} (hf : b12_takes_0  rc n a1 M = some (r, M')) : Fr [0] false M M' := by
  unfold b12_takes_0 at hf
  obtain ⟨r1, M2, g1, hf⟩ := bnd_s hf
  refine Fr.trans (Fr.mono (fr12_here g1) (by intro x hx; simp at hx) (by decide)) ?_
  by_cases c2 : r1 = a1
  · replace hf := ite_t c2 hf
    obtain ⟨M5, eM5, hf⟩ := lt_x hf
    refine Fr.wI eM5 (by simp) ?_
    exact Fr.of hf
  · replace hf := ite_f c2 hf
    obtain ⟨r6, M7, g3, hf⟩ := bnd_s hf
    refine Fr.trans (Fr.mono (fr12_wrongAt g3) (by intro x hx; left; simp at hx ⊢; omega) (by decide)) ?_
    replace hf := chk_2 hf
    exact Fr.of hf
theorem fr12_takes  {n : Nat} {a1 : Int32} {M M' : Mem} {r : Int32} (hf : f12_takes n  a1 M = some (r, M')) : Fr [0] false M M' := fb12_takes_0 (fun _ _ _ _ h => by cases h) hf
theorem fb12_readsNumber_10  {rc : Nat → List Int32 → List Int64 → Mem → Option (Int32 × Mem)} {n : Nat} {r : Int32} {M' : Mem} (hrc : ∀ pc li lj M, rc pc li lj M = some (r, M') → Fr [0] false M M') {i1 : Int32} {M : Mem} (hf : b12_readsNumber_10  rc n i1 M = some (r, M')) : Fr [0] false M M' := by
  unfold b12_readsNumber_10 at hf
  obtain ⟨r3, M4, g1, hf⟩ := bnd_s hf
  refine Fr.trans (Fr.mono (fr12_isDigit g1) (by intro x hx; simp at hx) (by decide)) ?_
  by_cases c2 : r3 = 0
  · replace hf := ite_t c2 hf
    exact Fr.of hf
  · replace hf := ite_f c2 hf
    by_cases c3 : (M4.1 0 12) = (i1 + (5 : Int32))
    · replace hf := ite_t c3 hf
      obtain ⟨r13, M14, g4, hf⟩ := bnd_s hf
      refine Fr.trans (Fr.mono (fr12_wrongAt g4) (by intro x hx; left; simp at hx ⊢; omega) (by decide)) ?_
      replace hf := chk_2 hf
      exact Fr.of hf
    · replace hf := ite_f c3 hf
      obtain ⟨r8, M9, g5, hf⟩ := bnd_s hf
      refine Fr.trans (Fr.mono (fr12_here g5) (by intro x hx; simp at hx) (by decide)) ?_
      obtain ⟨M11, eM11, hf⟩ := lt_x hf
      refine Fr.wI eM11 (by simp) ?_
      obtain ⟨M12, eM12, hf⟩ := lt_x hf
      refine Fr.wI eM12 (by simp) ?_
      exact hrc _ _ _ _ hf
theorem fb12_readsNumber_0  {rc : Nat → List Int32 → List Int64 → Mem → Option (Int32 × Mem)} {n : Nat} {r : Int32} {M' : Mem} (hrc : ∀ pc li lj M, rc pc li lj M = some (r, M') → Fr [0] false M M')  {M : Mem} (hf : b12_readsNumber_0  rc n  M = some (r, M')) : Fr [0] false M M' := by
  unfold b12_readsNumber_0 at hf
  obtain ⟨v1, ev1, hf⟩ := lt_x hf
  obtain ⟨M2, eM2, hf⟩ := lt_x hf
  refine Fr.wI eM2 (by simp) ?_
  exact fb12_readsNumber_10 hrc hf
theorem fl12_readsNumber  {r : Int32} {M' : Mem} (n : Nat) : ∀ pc li lj M, r12_readsNumber  n pc li lj M = some (r, M') → Fr [0] false M M' := by
  induction n with
  | zero => intro pc li lj M hf; cases hf
  | succ n ih =>
    intro pc li lj M hf
    rw [r12_readsNumber] at hf
    dsimp only at hf
    by_cases c10 : pc = 10
    · replace hf := ite_t c10 hf
      split at hf
      · exact fb12_readsNumber_10 ih hf
      · cases hf
    replace hf := ite_f c10 hf
    cases hf
theorem fr12_readsNumber  {n : Nat}  {M M' : Mem} {r : Int32} (hf : f12_readsNumber n   M = some (r, M')) : Fr [0] false M M' := fb12_readsNumber_0 (fl12_readsNumber n) hf
theorem fb12_codesOf_0  {rc : Nat → List Int32 → List Int64 → Mem → Option (Unit × Mem)} {n : Nat} {r : Unit} {M' : Mem} (hrc : ∀ pc li lj M, rc pc li lj M = some (r, M') → Fr [0, 9] false M M') {a1 : Int32} {a2 : Int32} {M : Mem} (hf : b12_codesOf_0  rc n a1 a2 M = some (r, M')) : Fr [0, 9] false M M' := by
  unfold b12_codesOf_0 at hf
  replace hf := chk_2 hf
  obtain ⟨M2, eM2, hf⟩ := lt_x hf
  refine Fr.wI eM2 (by simp) ?_
  obtain ⟨M3, eM3, hf⟩ := lt_x hf
  refine Fr.wI eM3 (by simp) ?_
  exact Fr.of hf
theorem fr12_codesOf  {n : Nat} {a1 : Int32} {a2 : Int32} {M M' : Mem} {r : Unit} (hf : f12_codesOf n  a1 a2 M = some (r, M')) : Fr [0, 9] false M M' := fb12_codesOf_0 (fun _ _ _ _ h => by cases h) hf
theorem fb12_opens_0  {rc : Nat → List Int32 → List Int64 → Mem → Option (Int32 × Mem)} {n : Nat} {r : Int32} {M' : Mem} (hrc : ∀ pc li lj M, rc pc li lj M = some (r, M') → Fr [0, 10] false M M') {a1 : Int32} {M : Mem} (hf : b12_opens_0  rc n a1 M = some (r, M')) : Fr [0, 10] false M M' := by
  unfold b12_opens_0 at hf
  by_cases c1 : (M.1 0 16) = (6 : Int32)
  · replace hf := ite_t c1 hf
    obtain ⟨r7, M8, g2, hf⟩ := bnd_s hf
    refine Fr.trans (Fr.mono (fr12_wrongAt g2) (by intro x hx; left; simp at hx ⊢; omega) (by decide)) ?_
    replace hf := chk_2 hf
    exact Fr.of hf
  · replace hf := ite_f c1 hf
    obtain ⟨M2, eM2, hf⟩ := lt_x hf
    refine Fr.wI eM2 (by simp) ?_
    replace hf := chk_2 hf
    obtain ⟨M4, eM4, hf⟩ := lt_x hf
    refine Fr.wI eM4 (by simp) ?_
    obtain ⟨M5, eM5, hf⟩ := lt_x hf
    refine Fr.wI eM5 (by simp) ?_
    obtain ⟨M6, eM6, hf⟩ := lt_x hf
    refine Fr.wI eM6 (by simp) ?_
    exact Fr.of hf
theorem fr12_opens  {n : Nat} {a1 : Int32} {M M' : Mem} {r : Int32} (hf : f12_opens n  a1 M = some (r, M')) : Fr [0, 10] false M M' := fb12_opens_0 (fun _ _ _ _ h => by cases h) hf
theorem fb12_waitTop_0  {rc : Nat → List Int32 → List Int64 → Mem → Option (Int32 × Mem)} {n : Nat} {r : Int32} {M' : Mem} (hrc : ∀ pc li lj M, rc pc li lj M = some (r, M') → Fr [] false M M')  {M : Mem} (hf : b12_waitTop_0  rc n  M = some (r, M')) : Fr [] false M M' := by
  unfold b12_waitTop_0 at hf
  by_cases c1 : (M.1 0 18) = 0
  · replace hf := ite_t c1 hf
    exact Fr.of hf
  · replace hf := ite_f c1 hf
    replace hf := chk_2 hf
    exact Fr.of hf
theorem fr12_waitTop  {n : Nat}  {M M' : Mem} {r : Int32} (hf : f12_waitTop n   M = some (r, M')) : Fr [] false M M' := fb12_waitTop_0 (fun _ _ _ _ h => by cases h) hf
theorem fb12_factOf_0  {rc : Nat → List Int32 → List Int64 → Mem → Option (Int32 × Mem)} {n : Nat} {r : Int32} {M' : Mem} (hrc : ∀ pc li lj M, rc pc li lj M = some (r, M') → Fr [] false M M') {a0 : Int32} {M : Mem} (hf : b12_factOf_0  rc n a0 M = some (r, M')) : Fr [] false M M' := by
  unfold b12_factOf_0 at hf
  by_cases c1 : a0 = (98 : Int32)
  · replace hf := ite_t c1 hf
    exact Fr.of hf
  · replace hf := ite_f c1 hf
    by_cases c2 : a0 = (99 : Int32)
    · replace hf := ite_t c2 hf
      exact Fr.of hf
    · replace hf := ite_f c2 hf
      by_cases c3 : a0 = (100 : Int32)
      · replace hf := ite_t c3 hf
        exact Fr.of hf
      · replace hf := ite_f c3 hf
        by_cases c4 : a0 = (101 : Int32)
        · replace hf := ite_t c4 hf
          exact Fr.of hf
        · replace hf := ite_f c4 hf
          by_cases c5 : a0 = (102 : Int32)
          · replace hf := ite_t c5 hf
            exact Fr.of hf
          · replace hf := ite_f c5 hf
            by_cases c6 : a0 = (103 : Int32)
            · replace hf := ite_t c6 hf
              exact Fr.of hf
            · replace hf := ite_f c6 hf
              by_cases c7 : a0 = (104 : Int32)
              · replace hf := ite_t c7 hf
                exact Fr.of hf
              · replace hf := ite_f c7 hf
                by_cases c8 : a0 = (105 : Int32)
                · replace hf := ite_t c8 hf
                  exact Fr.of hf
                · replace hf := ite_f c8 hf
                  by_cases c9 : a0 = (106 : Int32)
                  · replace hf := ite_t c9 hf
                    exact Fr.of hf
                  · replace hf := ite_f c9 hf
                    by_cases c10 : a0 = (107 : Int32)
                    · replace hf := ite_t c10 hf
                      exact Fr.of hf
                    · replace hf := ite_f c10 hf
                      by_cases c11 : a0 = (108 : Int32)
                      · replace hf := ite_t c11 hf
                        exact Fr.of hf
                      · replace hf := ite_f c11 hf
                        by_cases c12 : a0 = (109 : Int32)
                        · replace hf := ite_t c12 hf
                          exact Fr.of hf
                        · replace hf := ite_f c12 hf
                          by_cases c13 : a0 = (110 : Int32)
                          · replace hf := ite_t c13 hf
                            exact Fr.of hf
                          · replace hf := ite_f c13 hf
                            by_cases c14 : a0 = (111 : Int32)
                            · replace hf := ite_t c14 hf
                              exact Fr.of hf
                            · replace hf := ite_f c14 hf
                              by_cases c15 : a0 = (112 : Int32)
                              · replace hf := ite_t c15 hf
                                exact Fr.of hf
                              · replace hf := ite_f c15 hf
                                by_cases c16 : a0 = (113 : Int32)
                                · replace hf := ite_t c16 hf
                                  exact Fr.of hf
                                · replace hf := ite_f c16 hf
                                  by_cases c17 : a0 = (114 : Int32)
                                  · replace hf := ite_t c17 hf
                                    exact Fr.of hf
                                  · replace hf := ite_f c17 hf
                                    by_cases c18 : a0 = (115 : Int32)
                                    · replace hf := ite_t c18 hf
                                      exact Fr.of hf
                                    · replace hf := ite_f c18 hf
                                      by_cases c19 : a0 = (116 : Int32)
                                      · replace hf := ite_t c19 hf
                                        exact Fr.of hf
                                      · replace hf := ite_f c19 hf
                                        by_cases c20 : a0 = (117 : Int32)
                                        · replace hf := ite_t c20 hf
                                          exact Fr.of hf
                                        · replace hf := ite_f c20 hf
                                          by_cases c21 : a0 = (118 : Int32)
                                          · replace hf := ite_t c21 hf
                                            exact Fr.of hf
                                          · replace hf := ite_f c21 hf
                                            by_cases c22 : a0 = (119 : Int32)
                                            · replace hf := ite_t c22 hf
                                              exact Fr.of hf
                                            · replace hf := ite_f c22 hf
                                              by_cases c23 : a0 = (120 : Int32)
                                              · replace hf := ite_t c23 hf
                                                exact Fr.of hf
                                              · replace hf := ite_f c23 hf
                                                by_cases c24 : a0 = (121 : Int32)
                                                · replace hf := ite_t c24 hf
                                                  exact Fr.of hf
                                                · replace hf := ite_f c24 hf
                                                  exact Fr.of hf
theorem fr12_factOf  {n : Nat} {a0 : Int32} {M M' : Mem} {r : Int32} (hf : f12_factOf n  a0 M = some (r, M')) : Fr [] false M M' := fb12_factOf_0 (fun _ _ _ _ h => by cases h) hf
theorem fb12_sumSign_0  {rc : Nat → List Int32 → List Int64 → Mem → Option (Int32 × Mem)} {n : Nat} {r : Int32} {M' : Mem} (hrc : ∀ pc li lj M, rc pc li lj M = some (r, M') → Fr [] false M M') {a0 : Int32} {M : Mem} (hf : b12_sumSign_0  rc n a0 M = some (r, M')) : Fr [] false M M' := by
  unfold b12_sumSign_0 at hf
  by_cases c1 : a0 = (43 : Int32)
  · replace hf := ite_t c1 hf
    exact Fr.of hf
  · replace hf := ite_f c1 hf
    by_cases c2 : a0 = (45 : Int32)
    · replace hf := ite_t c2 hf
      exact Fr.of hf
    · replace hf := ite_f c2 hf
      by_cases c3 : a0 = (42 : Int32)
      · replace hf := ite_t c3 hf
        exact Fr.of hf
      · replace hf := ite_f c3 hf
        by_cases c4 : a0 = (47 : Int32)
        · replace hf := ite_t c4 hf
          exact Fr.of hf
        · replace hf := ite_f c4 hf
          by_cases c5 : a0 = (37 : Int32)
          · replace hf := ite_t c5 hf
            exact Fr.of hf
          · replace hf := ite_f c5 hf
            exact Fr.of hf
theorem fr12_sumSign  {n : Nat} {a0 : Int32} {M M' : Mem} {r : Int32} (hf : f12_sumSign n  a0 M = some (r, M')) : Fr [] false M M' := fb12_sumSign_0 (fun _ _ _ _ h => by cases h) hf
theorem fb12_closesSums_37  {rc : Nat → List Int32 → List Int64 → Mem → Option (Unit × Mem)} {n : Nat} {r : Unit} {M' : Mem} (hrc : ∀ pc li lj M, rc pc li lj M = some (r, M') → Fr [0, 9] false M M') {i1 : Int32} {M : Mem} (hf : b12_closesSums_37  rc n i1 M = some (r, M')) : Fr [0, 9] false M M' := by
  unfold b12_closesSums_37 at hf
  obtain ⟨r9, M10, g1, hf⟩ := bnd_s hf
  refine Fr.trans (Fr.mono (fr12_waitTop g1) (by intro x hx; simp at hx) (by decide)) ?_
  obtain ⟨r12, M13, g2, hf⟩ := bnd_s hf
  refine Fr.trans (Fr.mono (fr12_codesOf g2) (by intro x hx; left; simp at hx ⊢; omega) (by decide)) ?_
  obtain ⟨M15, eM15, hf⟩ := lt_x hf
  refine Fr.wI eM15 (by simp) ?_
  exact hrc _ _ _ _ hf
theorem fb12_closesSums_17  {rc : Nat → List Int32 → List Int64 → Mem → Option (Unit × Mem)} {n : Nat} {r : Unit} {M' : Mem} (hrc : ∀ pc li lj M, rc pc li lj M = some (r, M') → Fr [0, 9] false M M') {i1 : Int32} {M : Mem} (hf : b12_closesSums_17  rc n i1 M = some (r, M')) : Fr [0, 9] false M M' := by
  unfold b12_closesSums_17 at hf
  by_cases c1 : i1 = 0
  · replace hf := ite_t c1 hf
    exact Fr.of hf
  · replace hf := ite_f c1 hf
    obtain ⟨r17, M18, g2, hf⟩ := bnd_s hf
    refine Fr.trans (Fr.mono (fr12_waitTop g2) (by intro x hx; simp at hx) (by decide)) ?_
    by_cases c3 : r17 = (2 : Int32)
    · replace hf := ite_t c3 hf
      exact fb12_closesSums_37 hrc hf
    · replace hf := ite_f c3 hf
      obtain ⟨r21, M22, g4, hf⟩ := bnd_s hf
      refine Fr.trans (Fr.mono (fr12_waitTop g4) (by intro x hx; simp at hx) (by decide)) ?_
      by_cases c5 : r21 = (3 : Int32)
      · replace hf := ite_t c5 hf
        exact fb12_closesSums_37 hrc hf
      · replace hf := ite_f c5 hf
        exact Fr.of hf
theorem fb12_closesSums_0  {rc : Nat → List Int32 → List Int64 → Mem → Option (Unit × Mem)} {n : Nat} {r : Unit} {M' : Mem} (hrc : ∀ pc li lj M, rc pc li lj M = some (r, M') → Fr [0, 9] false M M') {i1 : Int32} {M : Mem} (hf : b12_closesSums_0  rc n i1 M = some (r, M')) : Fr [0, 9] false M M' := by
  unfold b12_closesSums_0 at hf
  obtain ⟨r1, M2, g1, hf⟩ := bnd_s hf
  refine Fr.trans (Fr.mono (fr12_waitTop g1) (by intro x hx; simp at hx) (by decide)) ?_
  by_cases c2 : r1 < (4 : Int32)
  · replace hf := ite_t c2 hf
    exact fb12_closesSums_17 hrc hf
  · replace hf := ite_f c2 hf
    obtain ⟨r5, M6, g3, hf⟩ := bnd_s hf
    refine Fr.trans (Fr.mono (fr12_waitTop g3) (by intro x hx; simp at hx) (by decide)) ?_
    by_cases c4 : r5 ≤ (6 : Int32)
    · replace hf := ite_t c4 hf
      exact fb12_closesSums_37 hrc hf
    · replace hf := ite_f c4 hf
      exact fb12_closesSums_17 hrc hf
theorem fl12_closesSums  {r : Unit} {M' : Mem} (n : Nat) : ∀ pc li lj M, r12_closesSums  n pc li lj M = some (r, M') → Fr [0, 9] false M M' := by
  induction n with
  | zero => intro pc li lj M hf; cases hf
  | succ n ih =>
    intro pc li lj M hf
    rw [r12_closesSums] at hf
    dsimp only at hf
    by_cases c0 : pc = 0
    · replace hf := ite_t c0 hf
      split at hf
      · exact fb12_closesSums_0 ih hf
      · cases hf
    replace hf := ite_f c0 hf
    cases hf
theorem fr12_closesSums  {n : Nat} {a1 : Int32} {M M' : Mem} {r : Unit} (hf : f12_closesSums n  a1 M = some (r, M')) : Fr [0, 9] false M M' := fb12_closesSums_0 (fl12_closesSums n) hf
theorem fb12_readsFactor_0  {rc : Nat → List Int32 → List Int64 → Mem → Option (Int32 × Mem)} {n : Nat} {r : Int32} {M' : Mem} (hrc : ∀ pc li lj M, rc pc li lj M = some (r, M') → Fr [0, 9, 10] false M M')  {M : Mem} (hf : b12_readsFactor_0  rc n  M = some (r, M')) : Fr [0, 9, 10] false M M' := by
  unfold b12_readsFactor_0 at hf
  obtain ⟨r1, M2, g1, hf⟩ := bnd_s hf
  refine Fr.trans (Fr.mono (fr12_here g1) (by intro x hx; simp at hx) (by decide)) ?_
  by_cases c2 : r1 = (91 : Int32)
  · replace hf := ite_t c2 hf
    obtain ⟨r31, M32, g3, hf⟩ := bnd_s hf
    refine Fr.trans (Fr.mono (fr12_opens g3) (by intro x hx; left; simp at hx ⊢; omega) (by decide)) ?_
    by_cases c4 : r31 = 0
    · replace hf := ite_t c4 hf
      exact Fr.of hf
    · replace hf := ite_f c4 hf
      exact hrc _ _ _ _ hf
  · replace hf := ite_f c2 hf
    obtain ⟨r5, M6, g5, hf⟩ := bnd_s hf
    refine Fr.trans (Fr.mono (fr12_isDigit g5) (by intro x hx; simp at hx) (by decide)) ?_
    by_cases c6 : r5 = 0
    · replace hf := ite_t c6 hf
      obtain ⟨r9, M10, g7, hf⟩ := bnd_s hf
      refine Fr.trans (Fr.mono (fr12_here g7) (by intro x hx; simp at hx) (by decide)) ?_
      obtain ⟨r12, M13, g8, hf⟩ := bnd_s hf
      refine Fr.trans (Fr.mono (fr12_factOf g8) (by intro x hx; simp at hx) (by decide)) ?_
      by_cases c9 : r12 = (-1 : Int32)
      · replace hf := ite_t c9 hf
        obtain ⟨r20, M21, g10, hf⟩ := bnd_s hf
        refine Fr.trans (Fr.mono (fr12_wrongAt g10) (by intro x hx; left; simp at hx ⊢; omega) (by decide)) ?_
        replace hf := chk_2 hf
        exact Fr.of hf
      · replace hf := ite_f c9 hf
        obtain ⟨r16, M17, g11, hf⟩ := bnd_s hf
        refine Fr.trans (Fr.mono (fr12_codesOf g11) (by intro x hx; left; simp at hx ⊢; omega) (by decide)) ?_
        obtain ⟨M19, eM19, hf⟩ := lt_x hf
        refine Fr.wI eM19 (by simp) ?_
        exact Fr.of hf
    · replace hf := ite_f c6 hf
      obtain ⟨r24, M25, g12, hf⟩ := bnd_s hf
      refine Fr.trans (Fr.mono (fr12_readsNumber g12) (by intro x hx; left; simp at hx ⊢; omega) (by decide)) ?_
      by_cases c13 : r24 = 0
      · replace hf := ite_t c13 hf
        exact Fr.of hf
      · replace hf := ite_f c13 hf
        obtain ⟨r28, M29, g14, hf⟩ := bnd_s hf
        refine Fr.trans (Fr.mono (fr12_codesOf g14) (by intro x hx; left; simp at hx ⊢; omega) (by decide)) ?_
        exact Fr.of hf
theorem fl12_readsFactor  {r : Int32} {M' : Mem} (n : Nat) : ∀ pc li lj M, r12_readsFactor  n pc li lj M = some (r, M') → Fr [0, 9, 10] false M M' := by
  induction n with
  | zero => intro pc li lj M hf; cases hf
  | succ n ih =>
    intro pc li lj M hf
    rw [r12_readsFactor] at hf
    dsimp only at hf
    by_cases c0 : pc = 0
    · replace hf := ite_t c0 hf
      split at hf
      · exact fb12_readsFactor_0 ih hf
      · cases hf
    replace hf := ite_f c0 hf
    cases hf
theorem fr12_readsFactor  {n : Nat}  {M M' : Mem} {r : Int32} (hf : f12_readsFactor n   M = some (r, M')) : Fr [0, 9, 10] false M M' := fb12_readsFactor_0 (fl12_readsFactor n) hf
theorem fb12_hasOpenSum_2  {rc : Nat → List Int32 → List Int64 → Mem → Option (Int32 × Mem)} {n : Nat} {r : Int32} {M' : Mem} (hrc : ∀ pc li lj M, rc pc li lj M = some (r, M') → Fr [] false M M') {i2 : Int32} {M : Mem} (hf : b12_hasOpenSum_2  rc n i2 M = some (r, M')) : Fr [] false M M' := by
  unfold b12_hasOpenSum_2 at hf
  by_cases c1 : (M.1 0 18) ≤ i2
  · replace hf := ite_t c1 hf
    exact Fr.of hf
  · replace hf := ite_f c1 hf
    replace hf := chk_2 hf
    by_cases c2 : ((M.1 10 i2.toNatClampNeg) / (1048576 : Int32)) = (14 : Int32)
    · replace hf := ite_t c2 hf
      exact Fr.of hf
    · replace hf := ite_f c2 hf
      obtain ⟨v4, ev4, hf⟩ := lt_x hf
      exact hrc _ _ _ _ hf
theorem fb12_hasOpenSum_0  {rc : Nat → List Int32 → List Int64 → Mem → Option (Int32 × Mem)} {n : Nat} {r : Int32} {M' : Mem} (hrc : ∀ pc li lj M, rc pc li lj M = some (r, M') → Fr [] false M M') {a1 : Int32} {M : Mem} (hf : b12_hasOpenSum_0  rc n a1 M = some (r, M')) : Fr [] false M M' := by
  unfold b12_hasOpenSum_0 at hf
  exact fb12_hasOpenSum_2 hrc hf
theorem fl12_hasOpenSum  {r : Int32} {M' : Mem} (n : Nat) : ∀ pc li lj M, r12_hasOpenSum  n pc li lj M = some (r, M') → Fr [] false M M' := by
  induction n with
  | zero => intro pc li lj M hf; cases hf
  | succ n ih =>
    intro pc li lj M hf
    rw [r12_hasOpenSum] at hf
    dsimp only at hf
    by_cases c2 : pc = 2
    · replace hf := ite_t c2 hf
      split at hf
      · exact fb12_hasOpenSum_2 ih hf
      · cases hf
    replace hf := ite_f c2 hf
    cases hf
theorem fr12_hasOpenSum  {n : Nat} {a1 : Int32} {M M' : Mem} {r : Int32} (hf : f12_hasOpenSum n  a1 M = some (r, M')) : Fr [] false M M' := fb12_hasOpenSum_0 (fl12_hasOpenSum n) hf
theorem fb12_readsSum_138  {rc : Nat → List Int32 → List Int64 → Mem → Option (Int32 × Mem)} {n : Nat} {r : Int32} {M' : Mem} (hrc : ∀ pc li lj M, rc pc li lj M = some (r, M') → Fr [0, 9, 10] false M M') {i1 : Int32} {M : Mem} (hf : b12_readsSum_138  rc n i1 M = some (r, M')) : Fr [0, 9, 10] false M M' := by
  unfold b12_readsSum_138 at hf
  obtain ⟨r39, M40, g1, hf⟩ := bnd_s hf
  refine Fr.trans (Fr.mono (fr12_hasOpenSum g1) (by intro x hx; simp at hx) (by decide)) ?_
  by_cases c2 : r39 = 0
  · replace hf := ite_t c2 hf
    obtain ⟨r43, M44, g3, hf⟩ := bnd_s hf
    refine Fr.trans (Fr.mono (fr12_closesSums g3) (by intro x hx; left; simp at hx ⊢; omega) (by decide)) ?_
    exact Fr.of hf
  · replace hf := ite_f c2 hf
    obtain ⟨r46, M47, g4, hf⟩ := bnd_s hf
    refine Fr.trans (Fr.mono (fr12_wrongAt g4) (by intro x hx; left; simp at hx ⊢; omega) (by decide)) ?_
    replace hf := chk_2 hf
    exact Fr.of hf
theorem fb12_readsSum_163  {rc : Nat → List Int32 → List Int64 → Mem → Option (Int32 × Mem)} {n : Nat} {r : Int32} {M' : Mem} (hrc : ∀ pc li lj M, rc pc li lj M = some (r, M') → Fr [0, 9, 10] false M M') {i1 : Int32} {M : Mem} (hf : b12_readsSum_163  rc n i1 M = some (r, M')) : Fr [0, 9, 10] false M M' := by
  unfold b12_readsSum_163 at hf
  exact hrc _ _ _ _ hf
theorem fb12_readsSum_38  {rc : Nat → List Int32 → List Int64 → Mem → Option (Int32 × Mem)} {n : Nat} {r : Int32} {M' : Mem} (hrc : ∀ pc li lj M, rc pc li lj M = some (r, M') → Fr [0, 9, 10] false M M') {i1 : Int32} {i2 : Int32} {s1 : Int32} {M : Mem} (hf : b12_readsSum_38  rc n i1 i2 s1 M = some (r, M')) : Fr [0, 9, 10] false M M' := by
  unfold b12_readsSum_38 at hf
  obtain ⟨r28, M29, g1, hf⟩ := bnd_s hf
  refine Fr.trans (Fr.mono (fr12_closesSums g1) (by intro x hx; left; simp at hx ⊢; omega) (by decide)) ?_
  replace hf := chk_2 hf
  obtain ⟨M32, eM32, hf⟩ := lt_x hf
  refine Fr.wI eM32 (by simp) ?_
  obtain ⟨M33, eM33, hf⟩ := lt_x hf
  refine Fr.wI eM33 (by simp) ?_
  obtain ⟨M34, eM34, hf⟩ := lt_x hf
  refine Fr.wI eM34 (by simp) ?_
  obtain ⟨r35, M36, g2, hf⟩ := bnd_s hf
  refine Fr.trans (Fr.mono (fr12_readsFactor g2) (by intro x hx; left; simp at hx ⊢; omega) (by decide)) ?_
  by_cases c3 : r35 = 0
  · replace hf := ite_t c3 hf
    exact Fr.of hf
  · replace hf := ite_f c3 hf
    exact fb12_readsSum_163 hrc hf
theorem fb12_readsSum_14  {rc : Nat → List Int32 → List Int64 → Mem → Option (Int32 × Mem)} {n : Nat} {r : Int32} {M' : Mem} (hrc : ∀ pc li lj M, rc pc li lj M = some (r, M') → Fr [0, 9, 10] false M M') {i1 : Int32} {M : Mem} (hf : b12_readsSum_14  rc n i1 M = some (r, M')) : Fr [0, 9, 10] false M M' := by
  unfold b12_readsSum_14 at hf
  obtain ⟨r6, M7, g1, hf⟩ := bnd_s hf
  refine Fr.trans (Fr.mono (fr12_here g1) (by intro x hx; simp at hx) (by decide)) ?_
  obtain ⟨r9, M10, g2, hf⟩ := bnd_s hf
  refine Fr.trans (Fr.mono (fr12_sumSign g2) (by intro x hx; simp at hx) (by decide)) ?_
  by_cases c3 : r9 = (-1 : Int32)
  · replace hf := ite_t c3 hf
    obtain ⟨r13, M14, g4, hf⟩ := bnd_s hf
    refine Fr.trans (Fr.mono (fr12_here g4) (by intro x hx; simp at hx) (by decide)) ?_
    by_cases c5 : r13 = (93 : Int32)
    · replace hf := ite_t c5 hf
      obtain ⟨r17, M18, g6, hf⟩ := bnd_s hf
      refine Fr.trans (Fr.mono (fr12_hasOpenSum g6) (by intro x hx; simp at hx) (by decide)) ?_
      by_cases c7 : r17 = 0
      · replace hf := ite_t c7 hf
        exact fb12_readsSum_138 hrc hf
      · replace hf := ite_f c7 hf
        obtain ⟨r21, M22, g8, hf⟩ := bnd_s hf
        refine Fr.trans (Fr.mono (fr12_closesSums g8) (by intro x hx; left; simp at hx ⊢; omega) (by decide)) ?_
        obtain ⟨M24, eM24, hf⟩ := lt_x hf
        refine Fr.wI eM24 (by simp) ?_
        obtain ⟨M25, eM25, hf⟩ := lt_x hf
        refine Fr.wI eM25 (by simp) ?_
        obtain ⟨M26, eM26, hf⟩ := lt_x hf
        refine Fr.wI eM26 (by simp) ?_
        exact fb12_readsSum_163 hrc hf
    · replace hf := ite_f c5 hf
      exact fb12_readsSum_138 hrc hf
  · replace hf := ite_f c3 hf
    by_cases c9 : (4 : Int32) ≤ r9
    · replace hf := ite_t c9 hf
      exact fb12_readsSum_38 hrc hf
    · replace hf := ite_f c9 hf
      exact fb12_readsSum_38 hrc hf
theorem fb12_readsSum_0  {rc : Nat → List Int32 → List Int64 → Mem → Option (Int32 × Mem)} {n : Nat} {r : Int32} {M' : Mem} (hrc : ∀ pc li lj M, rc pc li lj M = some (r, M') → Fr [0, 9, 10] false M M')  {M : Mem} (hf : b12_readsSum_0  rc n  M = some (r, M')) : Fr [0, 9, 10] false M M' := by
  unfold b12_readsSum_0 at hf
  obtain ⟨v1, ev1, hf⟩ := lt_x hf
  obtain ⟨r2, M3, g1, hf⟩ := bnd_s hf
  refine Fr.trans (Fr.mono (fr12_readsFactor g1) (by intro x hx; left; simp at hx ⊢; omega) (by decide)) ?_
  by_cases c2 : r2 = 0
  · replace hf := ite_t c2 hf
    exact Fr.of hf
  · replace hf := ite_f c2 hf
    exact fb12_readsSum_14 hrc hf
theorem fl12_readsSum  {r : Int32} {M' : Mem} (n : Nat) : ∀ pc li lj M, r12_readsSum  n pc li lj M = some (r, M') → Fr [0, 9, 10] false M M' := by
  induction n with
  | zero => intro pc li lj M hf; cases hf
  | succ n ih =>
    intro pc li lj M hf
    rw [r12_readsSum] at hf
    dsimp only at hf
    by_cases c14 : pc = 14
    · replace hf := ite_t c14 hf
      split at hf
      · exact fb12_readsSum_14 ih hf
      · cases hf
    replace hf := ite_f c14 hf
    cases hf
theorem fr12_readsSum  {n : Nat}  {M M' : Mem} {r : Int32} (hf : f12_readsSum n   M = some (r, M')) : Fr [0, 9, 10] false M M' := fb12_readsSum_0 (fl12_readsSum n) hf
theorem fb12_endsPiece_0  {rc : Nat → List Int32 → List Int64 → Mem → Option (Unit × Mem)} {n : Nat} {r : Unit} {M' : Mem} (hrc : ∀ pc li lj M, rc pc li lj M = some (r, M') → Fr [0, 9] false M M')  {M : Mem} (hf : b12_endsPiece_0  rc n  M = some (r, M')) : Fr [0, 9] false M M' := by
  unfold b12_endsPiece_0 at hf
  obtain ⟨r1, M2, g1, hf⟩ := bnd_s hf
  refine Fr.trans (Fr.mono (fr12_waitTop g1) (by intro x hx; simp at hx) (by decide)) ?_
  by_cases c2 : r1 = (10 : Int32)
  · replace hf := ite_t c2 hf
    obtain ⟨r5, M6, g3, hf⟩ := bnd_s hf
    refine Fr.trans (Fr.mono (fr12_codesOf g3) (by intro x hx; left; simp at hx ⊢; omega) (by decide)) ?_
    obtain ⟨M8, eM8, hf⟩ := lt_x hf
    refine Fr.wI eM8 (by simp) ?_
    obtain ⟨M9, eM9, hf⟩ := lt_x hf
    refine Fr.wI eM9 (by simp) ?_
    exact hrc _ _ _ _ hf
  · replace hf := ite_f c2 hf
    exact Fr.of hf
theorem fl12_endsPiece  {r : Unit} {M' : Mem} (n : Nat) : ∀ pc li lj M, r12_endsPiece  n pc li lj M = some (r, M') → Fr [0, 9] false M M' := by
  induction n with
  | zero => intro pc li lj M hf; cases hf
  | succ n ih =>
    intro pc li lj M hf
    rw [r12_endsPiece] at hf
    dsimp only at hf
    by_cases c0 : pc = 0
    · replace hf := ite_t c0 hf
      split at hf
      · exact fb12_endsPiece_0 ih hf
      · cases hf
    replace hf := ite_f c0 hf
    cases hf
theorem fr12_endsPiece  {n : Nat}  {M M' : Mem} {r : Unit} (hf : f12_endsPiece n   M = some (r, M')) : Fr [0, 9] false M M' := fb12_endsPiece_0 (fl12_endsPiece n) hf
theorem fb12_lands_22  {rc : Nat → List Int32 → List Int64 → Mem → Option (Unit × Mem)} {n : Nat} {r : Unit} {M' : Mem} (hrc : ∀ pc li lj M, rc pc li lj M = some (r, M') → Fr [0, 9] false M M') {i1 : Int32} {M : Mem} (hf : b12_lands_22  rc n i1 M = some (r, M')) : Fr [0, 9] false M M' := by
  unfold b12_lands_22 at hf
  replace hf := chk_2 hf
  obtain ⟨v11, ev11, hf⟩ := lt_x hf
  replace hf := chk_2 hf
  replace hf := chk_2 hf
  obtain ⟨M14, eM14, hf⟩ := lt_x hf
  refine Fr.wI eM14 (by simp) ?_
  obtain ⟨M15, eM15, hf⟩ := lt_x hf
  refine Fr.wI eM15 (by simp) ?_
  exact hrc _ _ _ _ hf
theorem fb12_lands_0  {rc : Nat → List Int32 → List Int64 → Mem → Option (Unit × Mem)} {n : Nat} {r : Unit} {M' : Mem} (hrc : ∀ pc li lj M, rc pc li lj M = some (r, M') → Fr [0, 9] false M M') {i1 : Int32} {M : Mem} (hf : b12_lands_0  rc n i1 M = some (r, M')) : Fr [0, 9] false M M' := by
  unfold b12_lands_0 at hf
  obtain ⟨r1, M2, g1, hf⟩ := bnd_s hf
  refine Fr.trans (Fr.mono (fr12_waitTop g1) (by intro x hx; simp at hx) (by decide)) ?_
  by_cases c2 : r1 = (11 : Int32)
  · replace hf := ite_t c2 hf
    exact fb12_lands_22 hrc hf
  · replace hf := ite_f c2 hf
    by_cases c3 : i1 = 0
    · replace hf := ite_t c3 hf
      exact Fr.of hf
    · replace hf := ite_f c3 hf
      obtain ⟨r6, M7, g4, hf⟩ := bnd_s hf
      refine Fr.trans (Fr.mono (fr12_waitTop g4) (by intro x hx; simp at hx) (by decide)) ?_
      by_cases c5 : r6 = (12 : Int32)
      · replace hf := ite_t c5 hf
        exact fb12_lands_22 hrc hf
      · replace hf := ite_f c5 hf
        exact Fr.of hf
theorem fl12_lands  {r : Unit} {M' : Mem} (n : Nat) : ∀ pc li lj M, r12_lands  n pc li lj M = some (r, M') → Fr [0, 9] false M M' := by
  induction n with
  | zero => intro pc li lj M hf; cases hf
  | succ n ih =>
    intro pc li lj M hf
    rw [r12_lands] at hf
    dsimp only at hf
    by_cases c0 : pc = 0
    · replace hf := ite_t c0 hf
      split at hf
      · exact fb12_lands_0 ih hf
      · cases hf
    replace hf := ite_f c0 hf
    cases hf
theorem fr12_lands  {n : Nat} {a1 : Int32} {M M' : Mem} {r : Unit} (hf : f12_lands n  a1 M = some (r, M')) : Fr [0, 9] false M M' := fb12_lands_0 (fl12_lands n) hf
