abbrev CSX : List Nat := [0, 1, 3, 11, 17, 25, 27, 326]
abbrev CSY : List Nat := [0]
/-- of the objects Cs only the fields L have changed -/
def Fq (Cs : List Nat) (L : List (Nat × Nat)) (M M' : Mem) : Prop := ∀ k j, k ∈ Cs → (k, j) ∉ L → M'.1 k j = M.1 k j
theorem Fq.refl {Cs : List Nat} {L : List (Nat × Nat)} {M : Mem} : Fq Cs L M M := fun _ _ _ _ => rfl
theorem Fq.trans {Cs : List Nat} {L : List (Nat × Nat)} {M M1 M2 : Mem} (h1 : Fq Cs L M M1) (h2 : Fq Cs L M1 M2) : Fq Cs L M M2 := fun k j a b => (h2 k j a b).trans (h1 k j a b)
theorem Fq.mono {Cs : List Nat} {L L2 : List (Nat × Nat)} {M M1 : Mem} (h : Fq Cs L M M1) (hL : ∀ x, x ∈ L → x ∈ L2) : Fq Cs L2 M M1 := fun k j a b => h k j a (fun hh => b (hL _ hh))
theorem Fq_wI {Cs : List Nat} {L : List (Nat × Nat)} {M M1 M2 : Mem} {k j : Nat} {v : Int32} (e : M1 = wI M k j v) (hk : (k, j) ∈ L) (h : Fq Cs L M1 M2) : Fq Cs L M M2 := by
  subst e
  intro a i h1 h2
  rw [h a i h1 h2, wI_at]
  by_cases ha : a = k
  · subst ha
    by_cases hi : i = j
    · subst hi; exact absurd hk h2
    · rw [if_pos rfl, if_neg hi]
  · rw [if_neg ha]
theorem Fq_wIn {Cs : List Nat} {L : List (Nat × Nat)} {M M1 M2 : Mem} {k j : Nat} {v : Int32} (e : M1 = wI M k j v) (hk : k ∉ Cs) (h : Fq Cs L M1 M2) : Fq Cs L M M2 := by
  subst e
  intro a i h1 h2
  rw [h a i h1 h2, wI_at, if_neg (fun e : a = k => hk (e ▸ h1))]
theorem Fq_wRn {Cs : List Nat} {L : List (Nat × Nat)} {M M1 M2 : Mem} {k : Nat} {f : Nat → Int32} (e : M1 = wR M k f) (hk : k ∉ Cs) (h : Fq Cs L M1 M2) : Fq Cs L M M2 := by
  subst e
  intro a i h1 h2
  rw [h a i h1 h2, wR_at, if_neg (fun e : a = k => hk (e ▸ h1))]
theorem Fq_wJ {Cs : List Nat} {L : List (Nat × Nat)} {M M1 M2 : Mem} {k j : Nat} {v : Int64} (e : M1 = wJ M k j v) (h : Fq Cs L M1 M2) : Fq Cs L M M2 := by
  subst e
  exact h
theorem Fq.of {α : Type} {Cs : List Nat} {L : List (Nat × Nat)} {M M' : Mem} {v r : α} (h : some (v, M) = some (r, M')) : Fq Cs L M M' := by
  obtain ⟨-, rfl⟩ := ret_s h
  exact Fq.refl
theorem fqb0_take_0 {k0 : Nat} {k1 : Nat} (hv0 : k0 ∉ CSX) (hv1 : k0 + 1 ∉ CSX) (hv2 : k0 + 2 ∉ CSX) {rc : Nat → List Int32 → List Int64 → Mem → Option (Unit × Mem)} {n : Nat} {r : Unit} {M' : Mem} (hrc : ∀ pc li lj M, rc pc li lj M = some (r, M') → Fq CSX [] M M')  {M : Mem} (hf : b0_take_0 k0 k1 rc n  M = some (r, M')) : Fq CSX [] M M' := by
  unfold b0_take_0 at hf
  obtain ⟨M1, eM1, hf⟩ := lt_x hf
  refine Fq_wRn eM1 hv1 ?_
  obtain ⟨M2, eM2, hf⟩ := lt_x hf
  refine Fq_wRn eM2 hv2 ?_
  obtain ⟨M3, eM3, hf⟩ := lt_x hf
  refine Fq_wIn eM3 hv0 ?_
  obtain ⟨M4, eM4, hf⟩ := lt_x hf
  refine Fq_wIn eM4 hv0 ?_
  obtain ⟨M5, eM5, hf⟩ := lt_x hf
  refine Fq_wIn eM5 hv0 ?_
  obtain ⟨M6, eM6, hf⟩ := lt_x hf
  refine Fq_wIn eM6 hv0 ?_
  obtain ⟨M7, eM7, hf⟩ := lt_x hf
  refine Fq_wIn eM7 hv0 ?_
  obtain ⟨M8, eM8, hf⟩ := lt_x hf
  refine Fq_wIn eM8 hv0 ?_
  exact Fq.of hf
theorem fq0_take {k0 : Nat} {k1 : Nat} (hv0 : k0 ∉ CSX) (hv1 : k0 + 1 ∉ CSX) (hv2 : k0 + 2 ∉ CSX) {n : Nat}  {M M' : Mem} {r : Unit} (hf : f0_take n k0 k1  M = some (r, M')) : Fq CSX [] M M' := fqb0_take_0 hv0 hv1 hv2 (fun _ _ _ _ h => by cases h) hf
theorem fqb0_forgetWalk_0 {k0 : Nat} (hv0 : k0 ∉ CSX) {rc : Nat → List Int32 → List Int64 → Mem → Option (Unit × Mem)} {n : Nat} {r : Unit} {M' : Mem} (hrc : ∀ pc li lj M, rc pc li lj M = some (r, M') → Fq CSX [] M M')  {M : Mem} (hf : b0_forgetWalk_0 k0 rc n  M = some (r, M')) : Fq CSX [] M M' := by
  unfold b0_forgetWalk_0 at hf
  obtain ⟨M1, eM1, hf⟩ := lt_x hf
  refine Fq_wIn eM1 hv0 ?_
  obtain ⟨M2, eM2, hf⟩ := lt_x hf
  refine Fq_wIn eM2 hv0 ?_
  obtain ⟨M3, eM3, hf⟩ := lt_x hf
  refine Fq_wIn eM3 hv0 ?_
  obtain ⟨M4, eM4, hf⟩ := lt_x hf
  refine Fq_wIn eM4 hv0 ?_
  exact Fq.of hf
theorem fq0_forgetWalk {k0 : Nat} (hv0 : k0 ∉ CSX) {n : Nat}  {M M' : Mem} {r : Unit} (hf : f0_forgetWalk n k0  M = some (r, M')) : Fq CSX [] M M' := fqb0_forgetWalk_0 hv0 (fun _ _ _ _ h => by cases h) hf
theorem fqb0_draw_0 {k0 : Nat} (hv0 : k0 ∉ CSX) {rc : Nat → List Int32 → List Int64 → Mem → Option (Int32 × Mem)} {n : Nat} {r : Int32} {M' : Mem} (hrc : ∀ pc li lj M, rc pc li lj M = some (r, M') → Fq CSX [] M M')  {M : Mem} (hf : b0_draw_0 k0 rc n  M = some (r, M')) : Fq CSX [] M M' := by
  unfold b0_draw_0 at hf
  obtain ⟨M1, eM1, hf⟩ := lt_x hf
  refine Fq_wIn eM1 hv0 ?_
  exact Fq.of hf
theorem fq0_draw {k0 : Nat} (hv0 : k0 ∉ CSX) {n : Nat}  {M M' : Mem} {r : Int32} (hf : f0_draw n k0  M = some (r, M')) : Fq CSX [] M M' := fqb0_draw_0 hv0 (fun _ _ _ _ h => by cases h) hf
theorem fqb0_wearOfAll_4 {k0 : Nat}  {rc : Nat → List Int32 → List Int64 → Mem → Option (Int32 × Mem)} {n : Nat} {r : Int32} {M' : Mem} (hrc : ∀ pc li lj M, rc pc li lj M = some (r, M') → Fq CSX [] M M') {i1 : Int32} {i2 : Int32} {M : Mem} (hf : b0_wearOfAll_4 k0 rc n i1 i2 M = some (r, M')) : Fq CSX [] M M' := by
  unfold b0_wearOfAll_4 at hf
  by_cases c1 : (96 : Int32) ≤ i2
  · replace hf := ite_t c1 hf
    exact Fq.of hf
  · replace hf := ite_f c1 hf
    have h2 := chk_1 hf
    replace hf := chk_2 hf
    obtain ⟨v3, ev3, hf⟩ := lt_x hf
    obtain ⟨v4, ev4, hf⟩ := lt_x hf
    exact hrc _ _ _ _ hf
theorem fqb0_wearOfAll_0 {k0 : Nat}  {rc : Nat → List Int32 → List Int64 → Mem → Option (Int32 × Mem)} {n : Nat} {r : Int32} {M' : Mem} (hrc : ∀ pc li lj M, rc pc li lj M = some (r, M') → Fq CSX [] M M')  {M : Mem} (hf : b0_wearOfAll_0 k0 rc n  M = some (r, M')) : Fq CSX [] M M' := by
  unfold b0_wearOfAll_0 at hf
  exact fqb0_wearOfAll_4  hrc hf
theorem fql0_wearOfAll {k0 : Nat}  {r : Int32} {M' : Mem} (n : Nat) : ∀ pc li lj M, r0_wearOfAll k0 n pc li lj M = some (r, M') → Fq CSX [] M M' := by
  induction n with
  | zero => intro pc li lj M hf; cases hf
  | succ n ih =>
    intro pc li lj M hf
    rw [r0_wearOfAll] at hf
    dsimp only at hf
    by_cases c4 : pc = 4
    · replace hf := ite_t c4 hf
      split at hf
      · exact fqb0_wearOfAll_4  ih hf
      · cases hf
    replace hf := ite_f c4 hf
    cases hf
theorem fq0_wearOfAll {k0 : Nat}  {n : Nat}  {M M' : Mem} {r : Int32} (hf : f0_wearOfAll n k0  M = some (r, M')) : Fq CSX [] M M' := fqb0_wearOfAll_0  (fql0_wearOfAll  n) hf
theorem fqb4_clear_0 {k0 : Nat} (hv0 : k0 ∉ CSX) {rc : Nat → List Int32 → List Int64 → Mem → Option (Unit × Mem)} {n : Nat} {r : Unit} {M' : Mem} (hrc : ∀ pc li lj M, rc pc li lj M = some (r, M') → Fq CSX [] M M')  {M : Mem} (hf : b4_clear_0 k0 rc n  M = some (r, M')) : Fq CSX [] M M' := by
  unfold b4_clear_0 at hf
  obtain ⟨M1, eM1, hf⟩ := lt_x hf
  refine Fq_wJ eM1 ?_
  obtain ⟨M2, eM2, hf⟩ := lt_x hf
  refine Fq_wJ eM2 ?_
  exact Fq.of hf
theorem fq4_clear {k0 : Nat} (hv0 : k0 ∉ CSX) {n : Nat}  {M M' : Mem} {r : Unit} (hf : f4_clear n k0  M = some (r, M')) : Fq CSX [] M M' := fqb4_clear_0 hv0 (fun _ _ _ _ h => by cases h) hf
theorem fqb4_add_0 {k0 : Nat} (hv0 : k0 ∉ CSX) {rc : Nat → List Int32 → List Int64 → Mem → Option (Unit × Mem)} {n : Nat} {r : Unit} {M' : Mem} (hrc : ∀ pc li lj M, rc pc li lj M = some (r, M') → Fq CSX [] M M') {a1 : Int32} {M : Mem} (hf : b4_add_0 k0 rc n a1 M = some (r, M')) : Fq CSX [] M M' := by
  unfold b4_add_0 at hf
  by_cases c1 : (48 : Int32) ≤ a1
  · replace hf := ite_t c1 hf
    obtain ⟨M2, eM2, hf⟩ := lt_x hf
    refine Fq_wJ eM2 ?_
    exact Fq.of hf
  · replace hf := ite_f c1 hf
    obtain ⟨M3, eM3, hf⟩ := lt_x hf
    refine Fq_wJ eM3 ?_
    exact Fq.of hf
theorem fq4_add {k0 : Nat} (hv0 : k0 ∉ CSX) {n : Nat} {a1 : Int32} {M M' : Mem} {r : Unit} (hf : f4_add n k0 a1 M = some (r, M')) : Fq CSX [] M M' := fqb4_add_0 hv0 (fun _ _ _ _ h => by cases h) hf
theorem fqb4_has_24 {k0 : Nat}  {rc : Nat → List Int32 → List Int64 → Mem → Option (Int32 × Mem)} {n : Nat} {r : Int32} {M' : Mem} (hrc : ∀ pc li lj M, rc pc li lj M = some (r, M') → Fq CSX [] M M') {t0 : Int64} {M : Mem} (hf : b4_has_24 k0 rc n t0 M = some (r, M')) : Fq CSX [] M M' := by
  unfold b4_has_24 at hf
  by_cases c1 : (lg_cmp (t0 &&& (1 : Int64)) (0 : Int64)) = 0
  · replace hf := ite_t c1 hf
    exact Fq.of hf
  · replace hf := ite_f c1 hf
    exact Fq.of hf
theorem fqb4_has_0 {k0 : Nat}  {rc : Nat → List Int32 → List Int64 → Mem → Option (Int32 × Mem)} {n : Nat} {r : Int32} {M' : Mem} (hrc : ∀ pc li lj M, rc pc li lj M = some (r, M') → Fq CSX [] M M') {a1 : Int32} {M : Mem} (hf : b4_has_0 k0 rc n a1 M = some (r, M')) : Fq CSX [] M M' := by
  unfold b4_has_0 at hf
  by_cases c1 : (48 : Int32) ≤ a1
  · replace hf := ite_t c1 hf
    exact fqb4_has_24  hrc hf
  · replace hf := ite_f c1 hf
    exact fqb4_has_24  hrc hf
theorem fq4_has {k0 : Nat}  {n : Nat} {a1 : Int32} {M M' : Mem} {r : Int32} (hf : f4_has n k0 a1 M = some (r, M')) : Fq CSX [] M M' := fqb4_has_0  (fun _ _ _ _ h => by cases h) hf
theorem fqb4_take_0 {k0 : Nat} {k1 : Nat} (hv0 : k0 ∉ CSX) {rc : Nat → List Int32 → List Int64 → Mem → Option (Unit × Mem)} {n : Nat} {r : Unit} {M' : Mem} (hrc : ∀ pc li lj M, rc pc li lj M = some (r, M') → Fq CSX [] M M')  {M : Mem} (hf : b4_take_0 k0 k1 rc n  M = some (r, M')) : Fq CSX [] M M' := by
  unfold b4_take_0 at hf
  obtain ⟨M1, eM1, hf⟩ := lt_x hf
  refine Fq_wJ eM1 ?_
  obtain ⟨M2, eM2, hf⟩ := lt_x hf
  refine Fq_wJ eM2 ?_
  exact Fq.of hf
theorem fq4_take {k0 : Nat} {k1 : Nat} (hv0 : k0 ∉ CSX) {n : Nat}  {M M' : Mem} {r : Unit} (hf : f4_take n k0 k1  M = some (r, M')) : Fq CSX [] M M' := fqb4_take_0 hv0 (fun _ _ _ _ h => by cases h) hf
theorem fqb4_turnWithin_0 {k0 : Nat} {k1 : Nat} (hv0 : k0 ∉ CSX) {rc : Nat → List Int32 → List Int64 → Mem → Option (Unit × Mem)} {n : Nat} {r : Unit} {M' : Mem} (hrc : ∀ pc li lj M, rc pc li lj M = some (r, M') → Fq CSX [] M M')  {M : Mem} (hf : b4_turnWithin_0 k0 k1 rc n  M = some (r, M')) : Fq CSX [] M M' := by
  unfold b4_turnWithin_0 at hf
  obtain ⟨M1, eM1, hf⟩ := lt_x hf
  refine Fq_wJ eM1 ?_
  obtain ⟨M2, eM2, hf⟩ := lt_x hf
  refine Fq_wJ eM2 ?_
  exact Fq.of hf
theorem fq4_turnWithin {k0 : Nat} {k1 : Nat} (hv0 : k0 ∉ CSX) {n : Nat}  {M M' : Mem} {r : Unit} (hf : f4_turnWithin n k0 k1  M = some (r, M')) : Fq CSX [] M M' := fqb4_turnWithin_0 hv0 (fun _ _ _ _ h => by cases h) hf
theorem fqb4_besideInRows_0   {rc : Nat → List Int32 → List Int64 → Mem → Option (Int64 × Mem)} {n : Nat} {r : Int64} {M' : Mem} (hrc : ∀ pc li lj M, rc pc li lj M = some (r, M') → Fq CSX [] M M') {a0 : Int64} {M : Mem} (hf : b4_besideInRows_0  rc n a0 M = some (r, M')) : Fq CSX [] M M' := by
  unfold b4_besideInRows_0 at hf
  exact Fq.of hf
theorem fq4_besideInRows   {n : Nat} {a0 : Int64} {M M' : Mem} {r : Int64} (hf : f4_besideInRows n  a0 M = some (r, M')) : Fq CSX [] M M' := fqb4_besideInRows_0  (fun _ _ _ _ h => by cases h) hf
theorem fqb4_grow_0 {k0 : Nat} (hv0 : k0 ∉ CSX) {rc : Nat → List Int32 → List Int64 → Mem → Option (Unit × Mem)} {n : Nat} {r : Unit} {M' : Mem} (hrc : ∀ pc li lj M, rc pc li lj M = some (r, M') → Fq CSX [] M M')  {M : Mem} (hf : b4_grow_0 k0 rc n  M = some (r, M')) : Fq CSX [] M M' := by
  unfold b4_grow_0 at hf
  obtain ⟨v1, ev1, hf⟩ := lt_x hf
  obtain ⟨v2, ev2, hf⟩ := lt_x hf
  obtain ⟨r3, M4, g1, hf⟩ := bnd_s hf
  refine Fq.trans (Fq.mono (fq4_besideInRows  g1) (by decide)) ?_
  obtain ⟨M6, eM6, hf⟩ := lt_x hf
  refine Fq_wJ eM6 ?_
  obtain ⟨r7, M8, g2, hf⟩ := bnd_s hf
  refine Fq.trans (Fq.mono (fq4_besideInRows  g2) (by decide)) ?_
  obtain ⟨M10, eM10, hf⟩ := lt_x hf
  refine Fq_wJ eM10 ?_
  exact Fq.of hf
theorem fq4_grow {k0 : Nat} (hv0 : k0 ∉ CSX) {n : Nat}  {M M' : Mem} {r : Unit} (hf : f4_grow n k0  M = some (r, M')) : Fq CSX [] M M' := fqb4_grow_0 hv0 (fun _ _ _ _ h => by cases h) hf
theorem fqb1_trapThief_2   {rc : Nat → List Int32 → List Int64 → Mem → Option (Unit × Mem)} {n : Nat} {r : Unit} {M' : Mem} (hrc : ∀ pc li lj M, rc pc li lj M = some (r, M') → Fq CSX [] M M') {i1 : Int32} {M : Mem} (hf : b1_trapThief_2  rc n i1 M = some (r, M')) : Fq CSX [] M M' := by
  unfold b1_trapThief_2 at hf
  by_cases c1 : (96 : Int32) ≤ i1
  · replace hf := ite_t c1 hf
    exact Fq.of hf
  · replace hf := ite_f c1 hf
    have h2 := chk_1 hf
    replace hf := chk_2 hf
    have h3 := chk_1 hf
    replace hf := chk_2 hf
    obtain ⟨r4, M5, g4, hf⟩ := bnd_s hf
    refine Fq.trans (Fq.mono (fq4_take (by have := inb_lt h3; simp [CSX]; omega) g4) (by decide)) ?_
    obtain ⟨r7, M8, g5, hf⟩ := bnd_s hf
    refine Fq.trans (Fq.mono (fq4_turnWithin (by have := inb_lt h3; simp [CSX]; omega) g5) (by decide)) ?_
    obtain ⟨r10, M11, g6, hf⟩ := bnd_s hf
    refine Fq.trans (Fq.mono (fq4_grow (by have := inb_lt h3; simp [CSX]; omega) g6) (by decide)) ?_
    obtain ⟨r13, M14, g7, hf⟩ := bnd_s hf
    refine Fq.trans (Fq.mono (fq4_turnWithin (by have := inb_lt h3; simp [CSX]; omega) g7) (by decide)) ?_
    obtain ⟨r16, M17, g8, hf⟩ := bnd_s hf
    refine Fq.trans (Fq.mono (fq4_add (by have := inb_lt h3; simp [CSX]; omega) g8) (by decide)) ?_
    obtain ⟨v19, ev19, hf⟩ := lt_x hf
    exact hrc _ _ _ _ hf
theorem fqb1_trapThief_0   {rc : Nat → List Int32 → List Int64 → Mem → Option (Unit × Mem)} {n : Nat} {r : Unit} {M' : Mem} (hrc : ∀ pc li lj M, rc pc li lj M = some (r, M') → Fq CSX [] M M')  {M : Mem} (hf : b1_trapThief_0  rc n  M = some (r, M')) : Fq CSX [] M M' := by
  unfold b1_trapThief_0 at hf
  exact fqb1_trapThief_2  hrc hf
theorem fql1_trapThief   {r : Unit} {M' : Mem} (n : Nat) : ∀ pc li lj M, r1_trapThief  n pc li lj M = some (r, M') → Fq CSX [] M M' := by
  induction n with
  | zero => intro pc li lj M hf; cases hf
  | succ n ih =>
    intro pc li lj M hf
    rw [r1_trapThief] at hf
    dsimp only at hf
    by_cases c2 : pc = 2
    · replace hf := ite_t c2 hf
      split at hf
      · exact fqb1_trapThief_2  ih hf
      · cases hf
    replace hf := ite_f c2 hf
    cases hf
theorem fq1_trapThief   {n : Nat}  {M M' : Mem} {r : Unit} (hf : f1_trapThief n   M = some (r, M')) : Fq CSX [] M M' := fqb1_trapThief_0  (fql1_trapThief  n) hf
theorem fqb8_kindOf_10   {rc : Nat → List Int32 → List Int64 → Mem → Option (Int32 × Mem)} {n : Nat} {r : Int32} {M' : Mem} (hrc : ∀ pc li lj M, rc pc li lj M = some (r, M') → Fq CSX [] M M')  {M : Mem} (hf : b8_kindOf_10  rc n  M = some (r, M')) : Fq CSX [] M M' := by
  unfold b8_kindOf_10 at hf
  exact Fq.of hf
theorem fqb8_kindOf_0   {rc : Nat → List Int32 → List Int64 → Mem → Option (Int32 × Mem)} {n : Nat} {r : Int32} {M' : Mem} (hrc : ∀ pc li lj M, rc pc li lj M = some (r, M') → Fq CSX [] M M') {a1 : Int32} {M : Mem} (hf : b8_kindOf_0  rc n a1 M = some (r, M')) : Fq CSX [] M M' := by
  unfold b8_kindOf_0 at hf
  by_cases c1 : a1 < 0
  · replace hf := ite_t c1 hf
    exact fqb8_kindOf_10  hrc hf
  · replace hf := ite_f c1 hf
    by_cases c2 : a1 < (96 : Int32)
    · replace hf := ite_t c2 hf
      by_cases c3 : a1 = (M.1 3 7)
      · replace hf := ite_t c3 hf
        exact Fq.of hf
      · replace hf := ite_f c3 hf
        have h4 := chk_1 hf
        replace hf := chk_2 hf
        exact Fq.of hf
    · replace hf := ite_f c2 hf
      exact fqb8_kindOf_10  hrc hf
theorem fq8_kindOf   {n : Nat} {a1 : Int32} {M M' : Mem} {r : Int32} (hf : f8_kindOf n  a1 M = some (r, M')) : Fq CSX [] M M' := fqb8_kindOf_0  (fun _ _ _ _ h => by cases h) hf
theorem fqb8_isOpen_0   {rc : Nat → List Int32 → List Int64 → Mem → Option (Int32 × Mem)} {n : Nat} {r : Int32} {M' : Mem} (hrc : ∀ pc li lj M, rc pc li lj M = some (r, M') → Fq CSX [] M M') {a1 : Int32} {M : Mem} (hf : b8_isOpen_0  rc n a1 M = some (r, M')) : Fq CSX [] M M' := by
  unfold b8_isOpen_0 at hf
  obtain ⟨r1, M2, g1, hf⟩ := bnd_s hf
  refine Fq.trans (Fq.mono (fq8_kindOf  g1) (by decide)) ?_
  by_cases c2 : r1 = (2 : Int32)
  · replace hf := ite_t c2 hf
    exact Fq.of hf
  · replace hf := ite_f c2 hf
    exact Fq.of hf
theorem fq8_isOpen   {n : Nat} {a1 : Int32} {M M' : Mem} {r : Int32} (hf : f8_isOpen n  a1 M = some (r, M')) : Fq CSX [] M M' := fqb8_isOpen_0  (fun _ _ _ _ h => by cases h) hf
theorem fqbZJ13_bitCount_95d88_0   {rc : Nat → List Int32 → List Int64 → Mem → Option (Int32 × Mem)} {n : Nat} {r : Int32} {M' : Mem} (hrc : ∀ pc li lj M, rc pc li lj M = some (r, M') → Fq CSX [] M M') {a0 : Int64} {M : Mem} (hf : bZJ13_bitCount_95d88_0  rc n a0 M = some (r, M')) : Fq CSX [] M M' := by
  unfold bZJ13_bitCount_95d88_0 at hf
  obtain ⟨v1, ev1, hf⟩ := lt_x hf
  obtain ⟨v2, ev2, hf⟩ := lt_x hf
  obtain ⟨v3, ev3, hf⟩ := lt_x hf
  obtain ⟨v4, ev4, hf⟩ := lt_x hf
  obtain ⟨v5, ev5, hf⟩ := lt_x hf
  obtain ⟨v6, ev6, hf⟩ := lt_x hf
  exact Fq.of hf
theorem fqZJ13_bitCount_95d88   {n : Nat} {a0 : Int64} {M M' : Mem} {r : Int32} (hf : fZJ13_bitCount_95d88 n  a0 M = some (r, M')) : Fq CSX [] M M' := fqbZJ13_bitCount_95d88_0  (fun _ _ _ _ h => by cases h) hf
theorem fqb4_size_0 {k0 : Nat}  {rc : Nat → List Int32 → List Int64 → Mem → Option (Int32 × Mem)} {n : Nat} {r : Int32} {M' : Mem} (hrc : ∀ pc li lj M, rc pc li lj M = some (r, M') → Fq CSX [] M M')  {M : Mem} (hf : b4_size_0 k0 rc n  M = some (r, M')) : Fq CSX [] M M' := by
  unfold b4_size_0 at hf
  obtain ⟨r1, M2, g1, hf⟩ := bnd_s hf
  refine Fq.trans (Fq.mono (fqZJ13_bitCount_95d88  g1) (by decide)) ?_
  obtain ⟨r4, M5, g2, hf⟩ := bnd_s hf
  refine Fq.trans (Fq.mono (fqZJ13_bitCount_95d88  g2) (by decide)) ?_
  exact Fq.of hf
theorem fq4_size {k0 : Nat}  {n : Nat}  {M M' : Mem} {r : Int32} (hf : f4_size n k0  M = some (r, M')) : Fq CSX [] M M' := fqb4_size_0  (fun _ _ _ _ h => by cases h) hf
theorem fqb4_join_0 {k0 : Nat} {k1 : Nat} (hv0 : k0 ∉ CSX) {rc : Nat → List Int32 → List Int64 → Mem → Option (Unit × Mem)} {n : Nat} {r : Unit} {M' : Mem} (hrc : ∀ pc li lj M, rc pc li lj M = some (r, M') → Fq CSX [] M M')  {M : Mem} (hf : b4_join_0 k0 k1 rc n  M = some (r, M')) : Fq CSX [] M M' := by
  unfold b4_join_0 at hf
  obtain ⟨M1, eM1, hf⟩ := lt_x hf
  refine Fq_wJ eM1 ?_
  obtain ⟨M2, eM2, hf⟩ := lt_x hf
  refine Fq_wJ eM2 ?_
  exact Fq.of hf
theorem fq4_join {k0 : Nat} {k1 : Nat} (hv0 : k0 ∉ CSX) {n : Nat}  {M M' : Mem} {r : Unit} (hf : f4_join n k0 k1  M = some (r, M')) : Fq CSX [] M M' := fqb4_join_0 hv0 (fun _ _ _ _ h => by cases h) hf
theorem fqb11_beside_0   {rc : Nat → List Int32 → List Int64 → Mem → Option (Int32 × Mem)} {n : Nat} {r : Int32} {M' : Mem} (hrc : ∀ pc li lj M, rc pc li lj M = some (r, M') → Fq CSX [] M M') {a0 : Int32} {a1 : Int32} {M : Mem} (hf : b11_beside_0  rc n a0 a1 M = some (r, M')) : Fq CSX [] M M' := by
  unfold b11_beside_0 at hf
  obtain ⟨v1, ev1, hf⟩ := lt_x hf
  by_cases c1 : a1 = (0 : Int32)
  · replace hf := ite_t c1 hf
    by_cases c2 : a0 < (12 : Int32)
    · replace hf := ite_t c2 hf
      exact Fq.of hf
    · replace hf := ite_f c2 hf
      exact Fq.of hf
  · replace hf := ite_f c1 hf
    by_cases c3 : a1 = (1 : Int32)
    · replace hf := ite_t c3 hf
      by_cases c4 : (11 : Int32) ≤ v1
      · replace hf := ite_t c4 hf
        exact Fq.of hf
      · replace hf := ite_f c4 hf
        exact Fq.of hf
    · replace hf := ite_f c3 hf
      by_cases c5 : a1 = (2 : Int32)
      · replace hf := ite_t c5 hf
        by_cases c6 : (84 : Int32) ≤ a0
        · replace hf := ite_t c6 hf
          exact Fq.of hf
        · replace hf := ite_f c6 hf
          exact Fq.of hf
      · replace hf := ite_f c5 hf
        by_cases c7 : v1 ≤ 0
        · replace hf := ite_t c7 hf
          exact Fq.of hf
        · replace hf := ite_f c7 hf
          exact Fq.of hf
theorem fq11_beside   {n : Nat} {a0 : Int32} {a1 : Int32} {M M' : Mem} {r : Int32} (hf : f11_beside n  a0 a1 M = some (r, M')) : Fq CSX [] M M' := fqb11_beside_0  (fun _ _ _ _ h => by cases h) hf
theorem fqb1_moveKing_125   {rc : Nat → List Int32 → List Int64 → Mem → Option (Int32 × Mem)} {n : Nat} {r : Int32} {M' : Mem} (hrc : ∀ pc li lj M, rc pc li lj M = some (r, M') → Fq CSX [] M M') {i1 : Int32} {i2 : Int32} {M : Mem} (hf : b1_moveKing_125  rc n i1 i2 M = some (r, M')) : Fq CSX [] M M' := by
  unfold b1_moveKing_125 at hf
  obtain ⟨v37, ev37, hf⟩ := lt_x hf
  exact hrc _ _ _ _ hf
theorem fqb1_moveKing_124   {rc : Nat → List Int32 → List Int64 → Mem → Option (Int32 × Mem)} {n : Nat} {r : Int32} {M' : Mem} (hrc : ∀ pc li lj M, rc pc li lj M = some (r, M') → Fq CSX [] M M') {i2 : Int32} {s0 : Int32} {M : Mem} (hf : b1_moveKing_124  rc n i2 s0 M = some (r, M')) : Fq CSX [] M M' := by
  unfold b1_moveKing_124 at hf
  exact fqb1_moveKing_125  hrc hf
theorem fqb1_moveKing_119   {rc : Nat → List Int32 → List Int64 → Mem → Option (Int32 × Mem)} {n : Nat} {r : Int32} {M' : Mem} (hrc : ∀ pc li lj M, rc pc li lj M = some (r, M') → Fq CSX [] M M') {i2 : Int32} {M : Mem} (hf : b1_moveKing_119  rc n i2 M = some (r, M')) : Fq CSX [] M M' := by
  unfold b1_moveKing_119 at hf
  exact fqb1_moveKing_124  hrc hf
theorem fqb1_moveKing_96   {rc : Nat → List Int32 → List Int64 → Mem → Option (Int32 × Mem)} {n : Nat} {r : Int32} {M' : Mem} (hrc : ∀ pc li lj M, rc pc li lj M = some (r, M') → Fq CSX [] M M') {i1 : Int32} {i2 : Int32} {i3 : Int32} {i4 : Int32} {M : Mem} (hf : b1_moveKing_96  rc n i1 i2 i3 i4 M = some (r, M')) : Fq CSX [] M M' := by
  unfold b1_moveKing_96 at hf
  obtain ⟨v36, ev36, hf⟩ := lt_x hf
  exact hrc _ _ _ _ hf
theorem fqb1_moveKing_49   {rc : Nat → List Int32 → List Int64 → Mem → Option (Int32 × Mem)} {n : Nat} {r : Int32} {M' : Mem} (hrc : ∀ pc li lj M, rc pc li lj M = some (r, M') → Fq CSX [] M M') {i1 : Int32} {i2 : Int32} {i3 : Int32} {i4 : Int32} {M : Mem} (hf : b1_moveKing_49  rc n i1 i2 i3 i4 M = some (r, M')) : Fq CSX [] M M' := by
  unfold b1_moveKing_49 at hf
  by_cases c1 : (4 : Int32) ≤ i4
  · replace hf := ite_t c1 hf
    by_cases c2 : i1 = 0
    · replace hf := ite_t c2 hf
      have h3 := chk_1 hf
      replace hf := chk_2 hf
      obtain ⟨r19, M20, g4, hf⟩ := bnd_s hf
      refine Fq.trans (Fq.mono (fq4_size  g4) (by decide)) ?_
      by_cases c5 : r19 ≤ i3
      · replace hf := ite_t c5 hf
        exact fqb1_moveKing_124  hrc hf
      · replace hf := ite_f c5 hf
        exact fqb1_moveKing_119  hrc hf
    · replace hf := ite_f c2 hf
      exact fqb1_moveKing_119  hrc hf
  · replace hf := ite_f c1 hf
    obtain ⟨r23, M24, g6, hf⟩ := bnd_s hf
    refine Fq.trans (Fq.mono (fq11_beside  g6) (by decide)) ?_
    by_cases c7 : r23 < 0
    · replace hf := ite_t c7 hf
      exact fqb1_moveKing_96  hrc hf
    · replace hf := ite_f c7 hf
      obtain ⟨r27, M28, g8, hf⟩ := bnd_s hf
      refine Fq.trans (Fq.mono (fq8_isOpen  g8) (by decide)) ?_
      by_cases c9 : r27 = 0
      · replace hf := ite_t c9 hf
        exact fqb1_moveKing_96  hrc hf
      · replace hf := ite_f c9 hf
        have h10 := chk_1 hf
        replace hf := chk_2 hf
        have h11 := chk_1 hf
        replace hf := chk_2 hf
        obtain ⟨r33, M34, g12, hf⟩ := bnd_s hf
        refine Fq.trans (Fq.mono (fq4_join (by have := inb_lt h10; simp [CSX]; omega) g12) (by decide)) ?_
        exact fqb1_moveKing_96  hrc hf
theorem fqb1_moveKing_4   {rc : Nat → List Int32 → List Int64 → Mem → Option (Int32 × Mem)} {n : Nat} {r : Int32} {M' : Mem} (hrc : ∀ pc li lj M, rc pc li lj M = some (r, M') → Fq CSX [] M M') {i1 : Int32} {i2 : Int32} {M : Mem} (hf : b1_moveKing_4  rc n i1 i2 M = some (r, M')) : Fq CSX [] M M' := by
  unfold b1_moveKing_4 at hf
  by_cases c1 : (96 : Int32) ≤ i2
  · replace hf := ite_t c1 hf
    replace hf := chk_2 hf
    exact Fq.of hf
  · replace hf := ite_f c1 hf
    obtain ⟨r3, M4, g2, hf⟩ := bnd_s hf
    refine Fq.trans (Fq.mono (fq8_isOpen  g2) (by decide)) ?_
    by_cases c3 : r3 = 0
    · replace hf := ite_t c3 hf
      exact fqb1_moveKing_125  hrc hf
    · replace hf := ite_f c3 hf
      have h4 := chk_1 hf
      replace hf := chk_2 hf
      obtain ⟨r8, M9, g5, hf⟩ := bnd_s hf
      refine Fq.trans (Fq.mono (fq4_size  g5) (by decide)) ?_
      have h6 := chk_1 hf
      replace hf := chk_2 hf
      have h7 := chk_1 hf
      replace hf := chk_2 hf
      obtain ⟨r13, M14, g8, hf⟩ := bnd_s hf
      refine Fq.trans (Fq.mono (fq4_join (by have := inb_lt h7; simp [CSX]; omega) g8) (by decide)) ?_
      exact fqb1_moveKing_49  hrc hf
theorem fqb1_moveKing_0   {rc : Nat → List Int32 → List Int64 → Mem → Option (Int32 × Mem)} {n : Nat} {r : Int32} {M' : Mem} (hrc : ∀ pc li lj M, rc pc li lj M = some (r, M') → Fq CSX [] M M')  {M : Mem} (hf : b1_moveKing_0  rc n  M = some (r, M')) : Fq CSX [] M M' := by
  unfold b1_moveKing_0 at hf
  exact fqb1_moveKing_4  hrc hf
theorem fql1_moveKing   {r : Int32} {M' : Mem} (n : Nat) : ∀ pc li lj M, r1_moveKing  n pc li lj M = some (r, M') → Fq CSX [] M M' := by
  induction n with
  | zero => intro pc li lj M hf; cases hf
  | succ n ih =>
    intro pc li lj M hf
    rw [r1_moveKing] at hf
    dsimp only at hf
    by_cases c4 : pc = 4
    · replace hf := ite_t c4 hf
      split at hf
      · exact fqb1_moveKing_4  ih hf
      · cases hf
    replace hf := ite_f c4 hf
    by_cases c49 : pc = 49
    · replace hf := ite_t c49 hf
      split at hf
      · exact fqb1_moveKing_49  ih hf
      · cases hf
    replace hf := ite_f c49 hf
    cases hf
theorem fq1_moveKing   {n : Nat}  {M M' : Mem} {r : Int32} (hf : f1_moveKing n   M = some (r, M')) : Fq CSX [] M M' := fqb1_moveKing_0  (fql1_moveKing  n) hf
theorem fqb1_movesToCatch_80   {rc : Nat → List Int32 → List Int64 → Mem → Option (Int32 × Mem)} {n : Nat} {r : Int32} {M' : Mem} (hrc : ∀ pc li lj M, rc pc li lj M = some (r, M') → Fq CSX [] M M')  {M : Mem} (hf : b1_movesToCatch_80  rc n  M = some (r, M')) : Fq CSX [] M M' := by
  unfold b1_movesToCatch_80 at hf
  exact Fq.of hf
theorem fqb1_movesToCatch_38   {rc : Nat → List Int32 → List Int64 → Mem → Option (Int32 × Mem)} {n : Nat} {r : Int32} {M' : Mem} (hrc : ∀ pc li lj M, rc pc li lj M = some (r, M') → Fq CSX [] M M') {i1 : Int32} {i2 : Int32} {i3 : Int32} {i4 : Int32} {M : Mem} (hf : b1_movesToCatch_38  rc n i1 i2 i3 i4 M = some (r, M')) : Fq CSX [] M M' := by
  unfold b1_movesToCatch_38 at hf
  by_cases c1 : (60 : Int32) < i4
  · replace hf := ite_t c1 hf
    exact fqb1_movesToCatch_80  hrc hf
  · replace hf := ite_f c1 hf
    by_cases c2 : i3 = 0
    · replace hf := ite_t c2 hf
      exact fqb1_movesToCatch_80  hrc hf
    · replace hf := ite_f c2 hf
      have h3 := chk_1 hf
      replace hf := chk_2 hf
      obtain ⟨r14, M15, g4, hf⟩ := bnd_s hf
      refine Fq.trans (Fq.mono (fq4_has  g4) (by decide)) ?_
      by_cases c5 : r14 = 0
      · replace hf := ite_t c5 hf
        obtain ⟨r18, M19, g6, hf⟩ := bnd_s hf
        refine Fq.trans (Fq.mono (fq1_trapThief  g6) (by decide)) ?_
        obtain ⟨r21, M22, g7, hf⟩ := bnd_s hf
        refine Fq.trans (Fq.mono (fq1_moveKing  g7) (by decide)) ?_
        obtain ⟨v24, ev24, hf⟩ := lt_x hf
        exact hrc _ _ _ _ hf
      · replace hf := ite_f c5 hf
        exact Fq.of hf
theorem fqb1_movesToCatch_2   {rc : Nat → List Int32 → List Int64 → Mem → Option (Int32 × Mem)} {n : Nat} {r : Int32} {M' : Mem} (hrc : ∀ pc li lj M, rc pc li lj M = some (r, M') → Fq CSX [] M M') {i1 : Int32} {i2 : Int32} {i3 : Int32} {M : Mem} (hf : b1_movesToCatch_2  rc n i1 i2 i3 M = some (r, M')) : Fq CSX [] M M' := by
  unfold b1_movesToCatch_2 at hf
  by_cases c1 : (96 : Int32) ≤ i3
  · replace hf := ite_t c1 hf
    exact fqb1_movesToCatch_38  hrc hf
  · replace hf := ite_f c1 hf
    have h2 := chk_1 hf
    replace hf := chk_2 hf
    obtain ⟨r3, M4, g3, hf⟩ := bnd_s hf
    refine Fq.trans (Fq.mono (fq4_clear (by have := inb_lt h2; simp [CSX]; omega) g3) (by decide)) ?_
    have h4 := chk_1 hf
    replace hf := chk_2 hf
    obtain ⟨r7, M8, g5, hf⟩ := bnd_s hf
    refine Fq.trans (Fq.mono (fq4_add (by have := inb_lt h4; simp [CSX]; omega) g5) (by decide)) ?_
    obtain ⟨v10, ev10, hf⟩ := lt_x hf
    exact hrc _ _ _ _ hf
theorem fqb1_movesToCatch_0   {rc : Nat → List Int32 → List Int64 → Mem → Option (Int32 × Mem)} {n : Nat} {r : Int32} {M' : Mem} (hrc : ∀ pc li lj M, rc pc li lj M = some (r, M') → Fq CSX [] M M') {a1 : Int32} {a2 : Int32} {M : Mem} (hf : b1_movesToCatch_0  rc n a1 a2 M = some (r, M')) : Fq CSX [] M M' := by
  unfold b1_movesToCatch_0 at hf
  exact fqb1_movesToCatch_2  hrc hf
theorem fql1_movesToCatch   {r : Int32} {M' : Mem} (n : Nat) : ∀ pc li lj M, r1_movesToCatch  n pc li lj M = some (r, M') → Fq CSX [] M M' := by
  induction n with
  | zero => intro pc li lj M hf; cases hf
  | succ n ih =>
    intro pc li lj M hf
    rw [r1_movesToCatch] at hf
    dsimp only at hf
    by_cases c2 : pc = 2
    · replace hf := ite_t c2 hf
      split at hf
      · exact fqb1_movesToCatch_2  ih hf
      · cases hf
    replace hf := ite_f c2 hf
    by_cases c38 : pc = 38
    · replace hf := ite_t c38 hf
      split at hf
      · exact fqb1_movesToCatch_38  ih hf
      · cases hf
    replace hf := ite_f c38 hf
    cases hf
theorem fq1_movesToCatch   {n : Nat} {a1 : Int32} {a2 : Int32} {M M' : Mem} {r : Int32} (hf : f1_movesToCatch n  a1 a2 M = some (r, M')) : Fq CSX [] M M' := fqb1_movesToCatch_0  (fql1_movesToCatch  n) hf
theorem fqb2_take_0   {rc : Nat → List Int32 → List Int64 → Mem → Option (Unit × Mem)} {n : Nat} {r : Unit} {M' : Mem} (hrc : ∀ pc li lj M, rc pc li lj M = some (r, M') → Fq CSX [(11, 3)] M M')  {M : Mem} (hf : b2_take_0  rc n  M = some (r, M')) : Fq CSX [(11, 3)] M M' := by
  unfold b2_take_0 at hf
  obtain ⟨M1, eM1, hf⟩ := lt_x hf
  refine Fq_wRn eM1 (by decide) ?_
  obtain ⟨M2, eM2, hf⟩ := lt_x hf
  refine Fq_wRn eM2 (by decide) ?_
  obtain ⟨M3, eM3, hf⟩ := lt_x hf
  refine Fq_wRn eM3 (by decide) ?_
  obtain ⟨M4, eM4, hf⟩ := lt_x hf
  refine Fq_wI eM4 (by decide) ?_
  exact Fq.of hf
theorem fq2_take   {n : Nat}  {M M' : Mem} {r : Unit} (hf : f2_take n   M = some (r, M')) : Fq CSX [(11, 3)] M M' := fqb2_take_0  (fun _ _ _ _ h => by cases h) hf
theorem fqbZJ7_fill_53178_5 {k0 : Nat} {L0 : Nat} (hv0 : k0 ∉ CSX) {rc : Nat → List Int32 → List Int64 → Mem → Option (Unit × Mem)} {n : Nat} {r : Unit} {M' : Mem} (hrc : ∀ pc li lj M, rc pc li lj M = some (r, M') → Fq CSX [] M M') {i1 : Int32} {i2 : Int32} {i3 : Int32} {M : Mem} (hf : bZJ7_fill_53178_5 k0 L0 rc n i1 i2 i3 M = some (r, M')) : Fq CSX [] M M' := by
  unfold bZJ7_fill_53178_5 at hf
  by_cases c1 : i3 ≤ i2
  · replace hf := ite_t c1 hf
    exact Fq.of hf
  · replace hf := ite_f c1 hf
    replace hf := chk_2 hf
    obtain ⟨M4, eM4, hf⟩ := lt_x hf
    refine Fq_wIn eM4 hv0 ?_
    obtain ⟨v5, ev5, hf⟩ := lt_x hf
    exact hrc _ _ _ _ hf
theorem fqbZJ7_fill_53178_0 {k0 : Nat} {L0 : Nat} (hv0 : k0 ∉ CSX) {rc : Nat → List Int32 → List Int64 → Mem → Option (Unit × Mem)} {n : Nat} {r : Unit} {M' : Mem} (hrc : ∀ pc li lj M, rc pc li lj M = some (r, M') → Fq CSX [] M M') {a1 : Int32} {M : Mem} (hf : bZJ7_fill_53178_0 k0 L0 rc n a1 M = some (r, M')) : Fq CSX [] M M' := by
  unfold bZJ7_fill_53178_0 at hf
  obtain ⟨v1, ev1, hf⟩ := lt_x hf
  exact fqbZJ7_fill_53178_5 hv0 hrc hf
theorem fqlZJ7_fill_53178 {k0 : Nat} {L0 : Nat} (hv0 : k0 ∉ CSX) {r : Unit} {M' : Mem} (n : Nat) : ∀ pc li lj M, rZJ7_fill_53178 k0 L0 n pc li lj M = some (r, M') → Fq CSX [] M M' := by
  induction n with
  | zero => intro pc li lj M hf; cases hf
  | succ n ih =>
    intro pc li lj M hf
    rw [rZJ7_fill_53178] at hf
    dsimp only at hf
    by_cases c5 : pc = 5
    · replace hf := ite_t c5 hf
      split at hf
      · exact fqbZJ7_fill_53178_5 hv0 ih hf
      · cases hf
    replace hf := ite_f c5 hf
    cases hf
theorem fqZJ7_fill_53178 {k0 : Nat} {L0 : Nat} (hv0 : k0 ∉ CSX) {n : Nat} {a1 : Int32} {M M' : Mem} {r : Unit} (hf : fZJ7_fill_53178 n k0 L0 a1 M = some (r, M')) : Fq CSX [] M M' := fqbZJ7_fill_53178_0 hv0 (fqlZJ7_fill_53178 hv0 n) hf
theorem fqb2_setHour_0   {rc : Nat → List Int32 → List Int64 → Mem → Option (Unit × Mem)} {n : Nat} {r : Unit} {M' : Mem} (hrc : ∀ pc li lj M, rc pc li lj M = some (r, M') → Fq CSX [] M M') {a1 : Int32} {a2 : Int32} {M : Mem} (hf : b2_setHour_0  rc n a1 a2 M = some (r, M')) : Fq CSX [] M M' := by
  unfold b2_setHour_0 at hf
  replace hf := chk_2 hf
  obtain ⟨M2, eM2, hf⟩ := lt_x hf
  refine Fq_wIn eM2 (by decide) ?_
  replace hf := chk_2 hf
  obtain ⟨M4, eM4, hf⟩ := lt_x hf
  refine Fq_wIn eM4 (by decide) ?_
  exact Fq.of hf
theorem fq2_setHour   {n : Nat} {a1 : Int32} {a2 : Int32} {M M' : Mem} {r : Unit} (hf : f2_setHour n  a1 a2 M = some (r, M')) : Fq CSX [] M M' := fqb2_setHour_0  (fun _ _ _ _ h => by cases h) hf
theorem fqb2_isDivision_11   {rc : Nat → List Int32 → List Int64 → Mem → Option (Int32 × Mem)} {n : Nat} {r : Int32} {M' : Mem} (hrc : ∀ pc li lj M, rc pc li lj M = some (r, M') → Fq CSX [] M M')  {M : Mem} (hf : b2_isDivision_11  rc n  M = some (r, M')) : Fq CSX [] M M' := by
  unfold b2_isDivision_11 at hf
  exact Fq.of hf
theorem fqb2_isDivision_0   {rc : Nat → List Int32 → List Int64 → Mem → Option (Int32 × Mem)} {n : Nat} {r : Int32} {M' : Mem} (hrc : ∀ pc li lj M, rc pc li lj M = some (r, M') → Fq CSX [] M M') {a0 : Int32} {M : Mem} (hf : b2_isDivision_0  rc n a0 M = some (r, M')) : Fq CSX [] M M' := by
  unfold b2_isDivision_0 at hf
  by_cases c1 : a0 = (5 : Int32)
  · replace hf := ite_t c1 hf
    exact fqb2_isDivision_11  hrc hf
  · replace hf := ite_f c1 hf
    by_cases c2 : a0 = (6 : Int32)
    · replace hf := ite_t c2 hf
      exact fqb2_isDivision_11  hrc hf
    · replace hf := ite_f c2 hf
      exact Fq.of hf
theorem fq2_isDivision   {n : Nat} {a0 : Int32} {M M' : Mem} {r : Int32} (hf : f2_isDivision n  a0 M = some (r, M')) : Fq CSX [] M M' := fqb2_isDivision_0  (fun _ _ _ _ h => by cases h) hf
theorem fqb2_joined_0   {rc : Nat → List Int32 → List Int64 → Mem → Option (Int32 × Mem)} {n : Nat} {r : Int32} {M' : Mem} (hrc : ∀ pc li lj M, rc pc li lj M = some (r, M') → Fq CSX [] M M') {a0 : Int32} {a1 : Int32} {a2 : Int32} {M : Mem} (hf : b2_joined_0  rc n a0 a1 a2 M = some (r, M')) : Fq CSX [] M M' := by
  unfold b2_joined_0 at hf
  by_cases c1 : a0 = (2 : Int32)
  · replace hf := ite_t c1 hf
    exact Fq.of hf
  · replace hf := ite_f c1 hf
    by_cases c2 : a0 = (3 : Int32)
    · replace hf := ite_t c2 hf
      exact Fq.of hf
    · replace hf := ite_f c2 hf
      by_cases c3 : a0 = (4 : Int32)
      · replace hf := ite_t c3 hf
        exact Fq.of hf
      · replace hf := ite_f c3 hf
        by_cases c4 : a0 = (5 : Int32)
        · replace hf := ite_t c4 hf
          by_cases c5 : a2 = 0
          · replace hf := ite_t c5 hf
            exact Fq.of hf
          · replace hf := ite_f c5 hf
            replace hf := chk_2 hf
            exact Fq.of hf
        · replace hf := ite_f c4 hf
          by_cases c6 : a0 = (6 : Int32)
          · replace hf := ite_t c6 hf
            by_cases c7 : a2 = 0
            · replace hf := ite_t c7 hf
              exact Fq.of hf
            · replace hf := ite_f c7 hf
              replace hf := chk_2 hf
              exact Fq.of hf
          · replace hf := ite_f c6 hf
            by_cases c8 : a0 = (7 : Int32)
            · replace hf := ite_t c8 hf
              by_cases c9 : a2 ≤ a1
              · replace hf := ite_t c9 hf
                exact Fq.of hf
              · replace hf := ite_f c9 hf
                exact Fq.of hf
            · replace hf := ite_f c8 hf
              by_cases c10 : a0 = (8 : Int32)
              · replace hf := ite_t c10 hf
                by_cases c11 : a1 ≤ a2
                · replace hf := ite_t c11 hf
                  exact Fq.of hf
                · replace hf := ite_f c11 hf
                  exact Fq.of hf
              · replace hf := ite_f c10 hf
                by_cases c12 : a1 = a2
                · replace hf := ite_t c12 hf
                  exact Fq.of hf
                · replace hf := ite_f c12 hf
                  exact Fq.of hf
theorem fq2_joined   {n : Nat} {a0 : Int32} {a1 : Int32} {a2 : Int32} {M M' : Mem} {r : Int32} (hf : f2_joined n  a0 a1 a2 M = some (r, M')) : Fq CSX [] M M' := fqb2_joined_0  (fun _ _ _ _ h => by cases h) hf
theorem fqb2_reckon_87   {rc : Nat → List Int32 → List Int64 → Mem → Option (Int32 × Mem)} {n : Nat} {r : Int32} {M' : Mem} (hrc : ∀ pc li lj M, rc pc li lj M = some (r, M') → Fq CSX [] M M')  {M : Mem} (hf : b2_reckon_87  rc n  M = some (r, M')) : Fq CSX [] M M' := by
  unfold b2_reckon_87 at hf
  exact Fq.of hf
theorem fqb2_reckon_298   {rc : Nat → List Int32 → List Int64 → Mem → Option (Int32 × Mem)} {n : Nat} {r : Int32} {M' : Mem} (hrc : ∀ pc li lj M, rc pc li lj M = some (r, M') → Fq CSX [] M M') {i2 : Int32} {i3 : Int32} {i4 : Int32} {M : Mem} (hf : b2_reckon_298  rc n i2 i3 i4 M = some (r, M')) : Fq CSX [] M M' := by
  unfold b2_reckon_298 at hf
  obtain ⟨v28, ev28, hf⟩ := lt_x hf
  exact hrc _ _ _ _ hf
theorem fqb2_reckon_111   {rc : Nat → List Int32 → List Int64 → Mem → Option (Int32 × Mem)} {n : Nat} {r : Int32} {M' : Mem} (hrc : ∀ pc li lj M, rc pc li lj M = some (r, M') → Fq CSX [] M M') {i2 : Int32} {i3 : Int32} {i4 : Int32} {s1 : Int32} {s2 : Int32} {M : Mem} (hf : b2_reckon_111  rc n i2 i3 i4 s1 s2 M = some (r, M')) : Fq CSX [] M M' := by
  unfold b2_reckon_111 at hf
  replace hf := chk_2 hf
  obtain ⟨M49, eM49, hf⟩ := lt_x hf
  refine Fq_wIn eM49 (by decide) ?_
  obtain ⟨v50, ev50, hf⟩ := lt_x hf
  exact fqb2_reckon_298  hrc hf
theorem fqb2_reckon_89   {rc : Nat → List Int32 → List Int64 → Mem → Option (Int32 × Mem)} {n : Nat} {r : Int32} {M' : Mem} (hrc : ∀ pc li lj M, rc pc li lj M = some (r, M') → Fq CSX [] M M') {i2 : Int32} {i3 : Int32} {i4 : Int32} {i5 : Int32} {i6 : Int32} {M : Mem} (hf : b2_reckon_89  rc n i2 i3 i4 i5 i6 M = some (r, M')) : Fq CSX [] M M' := by
  unfold b2_reckon_89 at hf
  by_cases c1 : i5 = 0
  · replace hf := ite_t c1 hf
    exact fqb2_reckon_111  hrc hf
  · replace hf := ite_f c1 hf
    replace hf := chk_2 hf
    exact fqb2_reckon_111  hrc hf
theorem fqb2_reckon_65   {rc : Nat → List Int32 → List Int64 → Mem → Option (Int32 × Mem)} {n : Nat} {r : Int32} {M' : Mem} (hrc : ∀ pc li lj M, rc pc li lj M = some (r, M') → Fq CSX [] M M') {i2 : Int32} {i3 : Int32} {i4 : Int32} {i5 : Int32} {i6 : Int32} {M : Mem} (hf : b2_reckon_65  rc n i2 i3 i4 i5 i6 M = some (r, M')) : Fq CSX [] M M' := by
  unfold b2_reckon_65 at hf
  by_cases c1 : (64 : Int32) ≤ i2
  · replace hf := ite_t c1 hf
    exact fqb2_reckon_87  hrc hf
  · replace hf := ite_f c1 hf
    by_cases c2 : i5 = (1 : Int32)
    · replace hf := ite_t c2 hf
      by_cases c3 : i6 < (9 : Int32)
      · replace hf := ite_t c3 hf
        exact fqb2_reckon_89  hrc hf
      · replace hf := ite_f c3 hf
        exact fqb2_reckon_87  hrc hf
    · replace hf := ite_f c2 hf
      exact fqb2_reckon_89  hrc hf
theorem fqb2_reckon_210   {rc : Nat → List Int32 → List Int64 → Mem → Option (Int32 × Mem)} {n : Nat} {r : Int32} {M' : Mem} (hrc : ∀ pc li lj M, rc pc li lj M = some (r, M') → Fq CSX [] M M') {i3 : Int32} {i4 : Int32} {s0 : Int32} {M : Mem} (hf : b2_reckon_210  rc n i3 i4 s0 M = some (r, M')) : Fq CSX [] M M' := by
  unfold b2_reckon_210 at hf
  exact fqb2_reckon_298  hrc hf
theorem fqb2_reckon_196   {rc : Nat → List Int32 → List Int64 → Mem → Option (Int32 × Mem)} {n : Nat} {r : Int32} {M' : Mem} (hrc : ∀ pc li lj M, rc pc li lj M = some (r, M') → Fq CSX [] M M') {i2 : Int32} {i3 : Int32} {i7 : Int32} {s0 : Int32} {M : Mem} (hf : b2_reckon_196  rc n i2 i3 i7 s0 M = some (r, M')) : Fq CSX [] M M' := by
  unfold b2_reckon_196 at hf
  by_cases c1 : i7 = 0
  · replace hf := ite_t c1 hf
    exact fqb2_reckon_210  hrc hf
  · replace hf := ite_f c1 hf
    exact fqb2_reckon_210  hrc hf
theorem fqb2_reckon_175   {rc : Nat → List Int32 → List Int64 → Mem → Option (Int32 × Mem)} {n : Nat} {r : Int32} {M' : Mem} (hrc : ∀ pc li lj M, rc pc li lj M = some (r, M') → Fq CSX [] M M') {i2 : Int32} {i3 : Int32} {i4 : Int32} {i6 : Int32} {s0 : Int32} {M : Mem} (hf : b2_reckon_175  rc n i2 i3 i4 i6 s0 M = some (r, M')) : Fq CSX [] M M' := by
  unfold b2_reckon_175 at hf
  by_cases c1 : s0 = 0
  · replace hf := ite_t c1 hf
    exact fqb2_reckon_196  hrc hf
  · replace hf := ite_f c1 hf
    exact fqb2_reckon_196  hrc hf
theorem fqb2_reckon_167   {rc : Nat → List Int32 → List Int64 → Mem → Option (Int32 × Mem)} {n : Nat} {r : Int32} {M' : Mem} (hrc : ∀ pc li lj M, rc pc li lj M = some (r, M') → Fq CSX [] M M') {i2 : Int32} {i3 : Int32} {i4 : Int32} {i6 : Int32} {s0 : Int32} {s1 : Int32} {M : Mem} (hf : b2_reckon_167  rc n i2 i3 i4 i6 s0 s1 M = some (r, M')) : Fq CSX [] M M' := by
  unfold b2_reckon_167 at hf
  by_cases c1 : s0 = s1
  · replace hf := ite_t c1 hf
    exact fqb2_reckon_175  hrc hf
  · replace hf := ite_f c1 hf
    exact fqb2_reckon_175  hrc hf
theorem fqb2_reckon_155   {rc : Nat → List Int32 → List Int64 → Mem → Option (Int32 × Mem)} {n : Nat} {r : Int32} {M' : Mem} (hrc : ∀ pc li lj M, rc pc li lj M = some (r, M') → Fq CSX [] M M') {i2 : Int32} {i3 : Int32} {i4 : Int32} {i5 : Int32} {i6 : Int32} {s0 : Int32} {M : Mem} (hf : b2_reckon_155  rc n i2 i3 i4 i5 i6 s0 M = some (r, M')) : Fq CSX [] M M' := by
  unfold b2_reckon_155 at hf
  by_cases c1 : i5 = (12 : Int32)
  · replace hf := ite_t c1 hf
    exact fqb2_reckon_167  hrc hf
  · replace hf := ite_f c1 hf
    exact fqb2_reckon_167  hrc hf
theorem fqb2_reckon_139   {rc : Nat → List Int32 → List Int64 → Mem → Option (Int32 × Mem)} {n : Nat} {r : Int32} {M' : Mem} (hrc : ∀ pc li lj M, rc pc li lj M = some (r, M') → Fq CSX [] M M') {i2 : Int32} {i3 : Int32} {i4 : Int32} {i5 : Int32} {i6 : Int32} {M : Mem} (hf : b2_reckon_139  rc n i2 i3 i4 i5 i6 M = some (r, M')) : Fq CSX [] M M' := by
  unfold b2_reckon_139 at hf
  replace hf := chk_2 hf
  by_cases c1 : (M.1 16 (i2 - (1 : Int32)).toNatClampNeg) = 0
  · replace hf := ite_t c1 hf
    exact fqb2_reckon_155  hrc hf
  · replace hf := ite_f c1 hf
    exact fqb2_reckon_155  hrc hf
theorem fqb2_reckon_266   {rc : Nat → List Int32 → List Int64 → Mem → Option (Int32 × Mem)} {n : Nat} {r : Int32} {M' : Mem} (hrc : ∀ pc li lj M, rc pc li lj M = some (r, M') → Fq CSX [] M M')  {M : Mem} (hf : b2_reckon_266  rc n  M = some (r, M')) : Fq CSX [] M M' := by
  unfold b2_reckon_266 at hf
  exact Fq.of hf
theorem fqb2_reckon_268   {rc : Nat → List Int32 → List Int64 → Mem → Option (Int32 × Mem)} {n : Nat} {r : Int32} {M' : Mem} (hrc : ∀ pc li lj M, rc pc li lj M = some (r, M') → Fq CSX [] M M') {i2 : Int32} {i3 : Int32} {i4 : Int32} {i5 : Int32} {M : Mem} (hf : b2_reckon_268  rc n i2 i3 i4 i5 M = some (r, M')) : Fq CSX [] M M' := by
  unfold b2_reckon_268 at hf
  obtain ⟨v29, ev29, hf⟩ := lt_x hf
  replace hf := chk_2 hf
  replace hf := chk_2 hf
  obtain ⟨r32, M33, g1, hf⟩ := bnd_s hf
  refine Fq.trans (Fq.mono (fq2_joined  g1) (by decide)) ?_
  replace hf := chk_2 hf
  obtain ⟨M36, eM36, hf⟩ := lt_x hf
  refine Fq_wIn eM36 (by decide) ?_
  exact fqb2_reckon_298  hrc hf
theorem fqb2_reckon_25   {rc : Nat → List Int32 → List Int64 → Mem → Option (Int32 × Mem)} {n : Nat} {r : Int32} {M' : Mem} (hrc : ∀ pc li lj M, rc pc li lj M = some (r, M') → Fq CSX [] M M') {i2 : Int32} {i3 : Int32} {i4 : Int32} {M : Mem} (hf : b2_reckon_25  rc n i2 i3 i4 M = some (r, M')) : Fq CSX [] M M' := by
  unfold b2_reckon_25 at hf
  by_cases c1 : i3 ≤ i4
  · replace hf := ite_t c1 hf
    by_cases c2 : i2 ≤ 0
    · replace hf := ite_t c2 hf
      exact Fq.of hf
    · replace hf := ite_f c2 hf
      replace hf := chk_2 hf
      exact Fq.of hf
  · replace hf := ite_f c1 hf
    replace hf := chk_2 hf
    obtain ⟨v9, ev9, hf⟩ := lt_x hf
    replace hf := chk_2 hf
    obtain ⟨v11, ev11, hf⟩ := lt_x hf
    by_cases c3 : v9 = 0
    · replace hf := ite_t c3 hf
      exact fqb2_reckon_65  hrc hf
    · replace hf := ite_f c3 hf
      by_cases c4 : v9 = (1 : Int32)
      · replace hf := ite_t c4 hf
        exact fqb2_reckon_65  hrc hf
      · replace hf := ite_f c4 hf
        by_cases c5 : (1 : Int32) ≤ i2
        · replace hf := ite_t c5 hf
          by_cases c6 : v9 = (11 : Int32)
          · replace hf := ite_t c6 hf
            exact fqb2_reckon_139  hrc hf
          · replace hf := ite_f c6 hf
            by_cases c7 : v9 = (12 : Int32)
            · replace hf := ite_t c7 hf
              exact fqb2_reckon_139  hrc hf
            · replace hf := ite_f c7 hf
              by_cases c8 : v9 = (10 : Int32)
              · replace hf := ite_t c8 hf
                replace hf := chk_2 hf
                replace hf := chk_2 hf
                obtain ⟨M27, eM27, hf⟩ := lt_x hf
                refine Fq_wIn eM27 (by decide) ?_
                exact fqb2_reckon_298  hrc hf
              · replace hf := ite_f c8 hf
                by_cases c9 : i2 < (2 : Int32)
                · replace hf := ite_t c9 hf
                  exact fqb2_reckon_266  hrc hf
                · replace hf := ite_f c9 hf
                  obtain ⟨r19, M20, g10, hf⟩ := bnd_s hf
                  refine Fq.trans (Fq.mono (fq2_isDivision  g10) (by decide)) ?_
                  by_cases c11 : r19 = 0
                  · replace hf := ite_t c11 hf
                    exact fqb2_reckon_268  hrc hf
                  · replace hf := ite_f c11 hf
                    replace hf := chk_2 hf
                    by_cases c12 : (M20.1 16 (i2 - (1 : Int32)).toNatClampNeg) = 0
                    · replace hf := ite_t c12 hf
                      exact fqb2_reckon_266  hrc hf
                    · replace hf := ite_f c12 hf
                      exact fqb2_reckon_268  hrc hf
        · replace hf := ite_f c5 hf
          exact Fq.of hf
theorem fqb2_reckon_0   {rc : Nat → List Int32 → List Int64 → Mem → Option (Int32 × Mem)} {n : Nat} {r : Int32} {M' : Mem} (hrc : ∀ pc li lj M, rc pc li lj M = some (r, M') → Fq CSX [] M M') {a1 : Int32} {M : Mem} (hf : b2_reckon_0  rc n a1 M = some (r, M')) : Fq CSX [] M M' := by
  unfold b2_reckon_0 at hf
  replace hf := chk_2 hf
  obtain ⟨v2, ev2, hf⟩ := lt_x hf
  replace hf := chk_2 hf
  obtain ⟨v4, ev4, hf⟩ := lt_x hf
  exact fqb2_reckon_25  hrc hf
theorem fql2_reckon   {r : Int32} {M' : Mem} (n : Nat) : ∀ pc li lj M, r2_reckon  n pc li lj M = some (r, M') → Fq CSX [] M M' := by
  induction n with
  | zero => intro pc li lj M hf; cases hf
  | succ n ih =>
    intro pc li lj M hf
    rw [r2_reckon] at hf
    dsimp only at hf
    by_cases c25 : pc = 25
    · replace hf := ite_t c25 hf
      split at hf
      · exact fqb2_reckon_25  ih hf
      · cases hf
    replace hf := ite_f c25 hf
    cases hf
theorem fq2_reckon   {n : Nat} {a1 : Int32} {M M' : Mem} {r : Int32} (hf : f2_reckon n  a1 M = some (r, M')) : Fq CSX [] M M' := fqb2_reckon_0  (fql2_reckon  n) hf
theorem fqb2_valueOf_60   {rc : Nat → List Int32 → List Int64 → Mem → Option (Int32 × Mem)} {n : Nat} {r : Int32} {M' : Mem} (hrc : ∀ pc li lj M, rc pc li lj M = some (r, M') → Fq CSX [] M M')  {M : Mem} (hf : b2_valueOf_60  rc n  M = some (r, M')) : Fq CSX [] M M' := by
  unfold b2_valueOf_60 at hf
  exact Fq.of hf
theorem fqb2_valueOf_54   {rc : Nat → List Int32 → List Int64 → Mem → Option (Int32 × Mem)} {n : Nat} {r : Int32} {M' : Mem} (hrc : ∀ pc li lj M, rc pc li lj M = some (r, M') → Fq CSX [] M M') {i1 : Int32} {i2 : Int32} {i3 : Int32} {M : Mem} (hf : b2_valueOf_54  rc n i1 i2 i3 M = some (r, M')) : Fq CSX [] M M' := by
  unfold b2_valueOf_54 at hf
  obtain ⟨v12, ev12, hf⟩ := lt_x hf
  exact hrc _ _ _ _ hf
theorem fqb2_valueOf_2   {rc : Nat → List Int32 → List Int64 → Mem → Option (Int32 × Mem)} {n : Nat} {r : Int32} {M' : Mem} (hrc : ∀ pc li lj M, rc pc li lj M = some (r, M') → Fq CSX [] M M') {i1 : Int32} {i2 : Int32} {i3 : Int32} {M : Mem} (hf : b2_valueOf_2  rc n i1 i2 i3 M = some (r, M')) : Fq CSX [] M M' := by
  unfold b2_valueOf_2 at hf
  by_cases c1 : (M.1 11 3) ≤ i3
  · replace hf := ite_t c1 hf
    exact fqb2_valueOf_60  hrc hf
  · replace hf := ite_f c1 hf
    by_cases c2 : (16 : Int32) ≤ i3
    · replace hf := ite_t c2 hf
      exact fqb2_valueOf_60  hrc hf
    · replace hf := ite_f c2 hf
      replace hf := chk_2 hf
      by_cases c3 : (M.1 14 i3.toNatClampNeg) = i1
      · replace hf := ite_t c3 hf
        obtain ⟨r5, M6, g4, hf⟩ := bnd_s hf
        refine Fq.trans (Fq.mono (fq2_reckon  g4) (by decide)) ?_
        by_cases c5 : r5 = 0
        · replace hf := ite_t c5 hf
          exact fqb2_valueOf_54  hrc hf
        · replace hf := ite_f c5 hf
          obtain ⟨r9, M10, g6, hf⟩ := bnd_s hf
          refine Fq.trans (Fq.mono (fq2_reckon  g6) (by decide)) ?_
          exact Fq.of hf
      · replace hf := ite_f c3 hf
        exact fqb2_valueOf_54  hrc hf
theorem fqb2_valueOf_0   {rc : Nat → List Int32 → List Int64 → Mem → Option (Int32 × Mem)} {n : Nat} {r : Int32} {M' : Mem} (hrc : ∀ pc li lj M, rc pc li lj M = some (r, M') → Fq CSX [] M M') {a1 : Int32} {a2 : Int32} {M : Mem} (hf : b2_valueOf_0  rc n a1 a2 M = some (r, M')) : Fq CSX [] M M' := by
  unfold b2_valueOf_0 at hf
  exact fqb2_valueOf_2  hrc hf
theorem fql2_valueOf   {r : Int32} {M' : Mem} (n : Nat) : ∀ pc li lj M, r2_valueOf  n pc li lj M = some (r, M') → Fq CSX [] M M' := by
  induction n with
  | zero => intro pc li lj M hf; cases hf
  | succ n ih =>
    intro pc li lj M hf
    rw [r2_valueOf] at hf
    dsimp only at hf
    by_cases c2 : pc = 2
    · replace hf := ite_t c2 hf
      split at hf
      · exact fqb2_valueOf_2  ih hf
      · cases hf
    replace hf := ite_f c2 hf
    cases hf
theorem fq2_valueOf   {n : Nat} {a1 : Int32} {a2 : Int32} {M M' : Mem} {r : Int32} (hf : f2_valueOf n  a1 a2 M = some (r, M')) : Fq CSX [] M M' := fqb2_valueOf_0  (fql2_valueOf  n) hf
theorem fqb2_weightOf_0   {rc : Nat → List Int32 → List Int64 → Mem → Option (Int32 × Mem)} {n : Nat} {r : Int32} {M' : Mem} (hrc : ∀ pc li lj M, rc pc li lj M = some (r, M') → Fq CSX [] M M') {a1 : Int32} {a2 : Int32} {M : Mem} (hf : b2_weightOf_0  rc n a1 a2 M = some (r, M')) : Fq CSX [] M M' := by
  unfold b2_weightOf_0 at hf
  obtain ⟨r1, M2, g1, hf⟩ := bnd_s hf
  refine Fq.trans (Fq.mono (fqZJ7_fill_53178 (by decide) g1) (by decide)) ?_
  obtain ⟨r4, M5, g2, hf⟩ := bnd_s hf
  refine Fq.trans (Fq.mono (fq2_setHour  g2) (by decide)) ?_
  obtain ⟨r7, M8, g3, hf⟩ := bnd_s hf
  refine Fq.trans (Fq.mono (fq2_valueOf  g3) (by decide)) ?_
  exact Fq.of hf
theorem fq2_weightOf   {n : Nat} {a1 : Int32} {a2 : Int32} {M M' : Mem} {r : Int32} (hf : f2_weightOf n  a1 a2 M = some (r, M')) : Fq CSX [] M M' := fqb2_weightOf_0  (fun _ _ _ _ h => by cases h) hf
theorem fqb2_weightOfAll_4   {rc : Nat → List Int32 → List Int64 → Mem → Option (Int32 × Mem)} {n : Nat} {r : Int32} {M' : Mem} (hrc : ∀ pc li lj M, rc pc li lj M = some (r, M') → Fq CSX [] M M') {i1 : Int32} {i2 : Int32} {i3 : Int32} {M : Mem} (hf : b2_weightOfAll_4  rc n i1 i2 i3 M = some (r, M')) : Fq CSX [] M M' := by
  unfold b2_weightOfAll_4 at hf
  by_cases c1 : (24 : Int32) ≤ i3
  · replace hf := ite_t c1 hf
    exact Fq.of hf
  · replace hf := ite_f c1 hf
    obtain ⟨r2, M3, g2, hf⟩ := bnd_s hf
    refine Fq.trans (Fq.mono (fq2_weightOf  g2) (by decide)) ?_
    obtain ⟨v5, ev5, hf⟩ := lt_x hf
    obtain ⟨v6, ev6, hf⟩ := lt_x hf
    exact hrc _ _ _ _ hf
theorem fqb2_weightOfAll_0   {rc : Nat → List Int32 → List Int64 → Mem → Option (Int32 × Mem)} {n : Nat} {r : Int32} {M' : Mem} (hrc : ∀ pc li lj M, rc pc li lj M = some (r, M') → Fq CSX [] M M') {a1 : Int32} {M : Mem} (hf : b2_weightOfAll_0  rc n a1 M = some (r, M')) : Fq CSX [] M M' := by
  unfold b2_weightOfAll_0 at hf
  exact fqb2_weightOfAll_4  hrc hf
theorem fql2_weightOfAll   {r : Int32} {M' : Mem} (n : Nat) : ∀ pc li lj M, r2_weightOfAll  n pc li lj M = some (r, M') → Fq CSX [] M M' := by
  induction n with
  | zero => intro pc li lj M hf; cases hf
  | succ n ih =>
    intro pc li lj M hf
    rw [r2_weightOfAll] at hf
    dsimp only at hf
    by_cases c4 : pc = 4
    · replace hf := ite_t c4 hf
      split at hf
      · exact fqb2_weightOfAll_4  ih hf
      · cases hf
    replace hf := ite_f c4 hf
    cases hf
theorem fq2_weightOfAll   {n : Nat} {a1 : Int32} {M M' : Mem} {r : Int32} (hf : f2_weightOfAll n  a1 M = some (r, M')) : Fq CSX [] M M' := fqb2_weightOfAll_0  (fql2_weightOfAll  n) hf
theorem fqb2_standsStill_47   {rc : Nat → List Int32 → List Int64 → Mem → Option (Int32 × Mem)} {n : Nat} {r : Int32} {M' : Mem} (hrc : ∀ pc li lj M, rc pc li lj M = some (r, M') → Fq CSX [] M M')  {M : Mem} (hf : b2_standsStill_47  rc n  M = some (r, M')) : Fq CSX [] M M' := by
  unfold b2_standsStill_47 at hf
  exact Fq.of hf
theorem fqb2_standsStill_41   {rc : Nat → List Int32 → List Int64 → Mem → Option (Int32 × Mem)} {n : Nat} {r : Int32} {M' : Mem} (hrc : ∀ pc li lj M, rc pc li lj M = some (r, M') → Fq CSX [] M M') {i1 : Int32} {M : Mem} (hf : b2_standsStill_41  rc n i1 M = some (r, M')) : Fq CSX [] M M' := by
  unfold b2_standsStill_41 at hf
  obtain ⟨v9, ev9, hf⟩ := lt_x hf
  exact hrc _ _ _ _ hf
theorem fqb2_standsStill_2   {rc : Nat → List Int32 → List Int64 → Mem → Option (Int32 × Mem)} {n : Nat} {r : Int32} {M' : Mem} (hrc : ∀ pc li lj M, rc pc li lj M = some (r, M') → Fq CSX [] M M') {i1 : Int32} {M : Mem} (hf : b2_standsStill_2  rc n i1 M = some (r, M')) : Fq CSX [] M M' := by
  unfold b2_standsStill_2 at hf
  by_cases c1 : (M.1 11 3) ≤ i1
  · replace hf := ite_t c1 hf
    exact fqb2_standsStill_47  hrc hf
  · replace hf := ite_f c1 hf
    by_cases c2 : (16 : Int32) ≤ i1
    · replace hf := ite_t c2 hf
      exact fqb2_standsStill_47  hrc hf
    · replace hf := ite_f c2 hf
      replace hf := chk_2 hf
      by_cases c3 : (M.1 14 i1.toNatClampNeg) = (115 : Int32)
      · replace hf := ite_t c3 hf
        obtain ⟨r5, M6, g4, hf⟩ := bnd_s hf
        refine Fq.trans (Fq.mono (fq2_reckon  g4) (by decide)) ?_
        by_cases c5 : r5 = 0
        · replace hf := ite_t c5 hf
          exact fqb2_standsStill_41  hrc hf
        · replace hf := ite_f c5 hf
          exact Fq.of hf
      · replace hf := ite_f c3 hf
        exact fqb2_standsStill_41  hrc hf
theorem fqb2_standsStill_0   {rc : Nat → List Int32 → List Int64 → Mem → Option (Int32 × Mem)} {n : Nat} {r : Int32} {M' : Mem} (hrc : ∀ pc li lj M, rc pc li lj M = some (r, M') → Fq CSX [] M M')  {M : Mem} (hf : b2_standsStill_0  rc n  M = some (r, M')) : Fq CSX [] M M' := by
  unfold b2_standsStill_0 at hf
  exact fqb2_standsStill_2  hrc hf
theorem fql2_standsStill   {r : Int32} {M' : Mem} (n : Nat) : ∀ pc li lj M, r2_standsStill  n pc li lj M = some (r, M') → Fq CSX [] M M' := by
  induction n with
  | zero => intro pc li lj M hf; cases hf
  | succ n ih =>
    intro pc li lj M hf
    rw [r2_standsStill] at hf
    dsimp only at hf
    by_cases c2 : pc = 2
    · replace hf := ite_t c2 hf
      split at hf
      · exact fqb2_standsStill_2  ih hf
      · cases hf
    replace hf := ite_f c2 hf
    cases hf
theorem fq2_standsStill   {n : Nat}  {M M' : Mem} {r : Int32} (hf : f2_standsStill n   M = some (r, M')) : Fq CSX [] M M' := fqb2_standsStill_0  (fql2_standsStill  n) hf
theorem fqb2_setMinute_0   {rc : Nat → List Int32 → List Int64 → Mem → Option (Unit × Mem)} {n : Nat} {r : Unit} {M' : Mem} (hrc : ∀ pc li lj M, rc pc li lj M = some (r, M') → Fq CSX [] M M') {a1 : Int32} {a2 : Int32} {M : Mem} (hf : b2_setMinute_0  rc n a1 a2 M = some (r, M')) : Fq CSX [] M M' := by
  unfold b2_setMinute_0 at hf
  replace hf := chk_2 hf
  obtain ⟨M2, eM2, hf⟩ := lt_x hf
  refine Fq_wIn eM2 (by decide) ?_
  replace hf := chk_2 hf
  obtain ⟨M4, eM4, hf⟩ := lt_x hf
  refine Fq_wIn eM4 (by decide) ?_
  exact Fq.of hf
theorem fq2_setMinute   {n : Nat} {a1 : Int32} {a2 : Int32} {M M' : Mem} {r : Unit} (hf : f2_setMinute n  a1 a2 M = some (r, M')) : Fq CSX [] M M' := fqb2_setMinute_0  (fun _ _ _ _ h => by cases h) hf
theorem fqb2_setPlace_0   {rc : Nat → List Int32 → List Int64 → Mem → Option (Unit × Mem)} {n : Nat} {r : Unit} {M' : Mem} (hrc : ∀ pc li lj M, rc pc li lj M = some (r, M') → Fq CSX [] M M') {a1 : Int32} {a2 : Int32} {a3 : Int32} {a4 : Int32} {M : Mem} (hf : b2_setPlace_0  rc n a1 a2 a3 a4 M = some (r, M')) : Fq CSX [] M M' := by
  unfold b2_setPlace_0 at hf
  replace hf := chk_2 hf
  obtain ⟨M2, eM2, hf⟩ := lt_x hf
  refine Fq_wIn eM2 (by decide) ?_
  replace hf := chk_2 hf
  obtain ⟨M4, eM4, hf⟩ := lt_x hf
  refine Fq_wIn eM4 (by decide) ?_
  replace hf := chk_2 hf
  obtain ⟨M6, eM6, hf⟩ := lt_x hf
  refine Fq_wIn eM6 (by decide) ?_
  replace hf := chk_2 hf
  obtain ⟨M8, eM8, hf⟩ := lt_x hf
  refine Fq_wIn eM8 (by decide) ?_
  replace hf := chk_2 hf
  obtain ⟨M10, eM10, hf⟩ := lt_x hf
  refine Fq_wIn eM10 (by decide) ?_
  exact Fq.of hf
theorem fq2_setPlace   {n : Nat} {a1 : Int32} {a2 : Int32} {a3 : Int32} {a4 : Int32} {M M' : Mem} {r : Unit} (hf : f2_setPlace n  a1 a2 a3 a4 M = some (r, M')) : Fq CSX [] M M' := fqb2_setPlace_0  (fun _ _ _ _ h => by cases h) hf
theorem fqb7_at_25   {rc : Nat → List Int32 → List Int64 → Mem → Option (Int32 × Mem)} {n : Nat} {r : Int32} {M' : Mem} (hrc : ∀ pc li lj M, rc pc li lj M = some (r, M') → Fq CSX [] M M')  {M : Mem} (hf : b7_at_25  rc n  M = some (r, M')) : Fq CSX [] M M' := by
  unfold b7_at_25 at hf
  exact Fq.of hf
theorem fqb7_at_0   {rc : Nat → List Int32 → List Int64 → Mem → Option (Int32 × Mem)} {n : Nat} {r : Int32} {M' : Mem} (hrc : ∀ pc li lj M, rc pc li lj M = some (r, M') → Fq CSX [] M M') {a1 : Int32} {a2 : Int32} {M : Mem} (hf : b7_at_0  rc n a1 a2 M = some (r, M')) : Fq CSX [] M M' := by
  unfold b7_at_0 at hf
  by_cases c1 : a1 < 0
  · replace hf := ite_t c1 hf
    exact fqb7_at_25  hrc hf
  · replace hf := ite_f c1 hf
    by_cases c2 : a2 ≤ a1
    · replace hf := ite_t c2 hf
      exact fqb7_at_25  hrc hf
    · replace hf := ite_f c2 hf
      by_cases c3 : (260 : Int32) ≤ a1
      · replace hf := ite_t c3 hf
        exact fqb7_at_25  hrc hf
      · replace hf := ite_f c3 hf
        replace hf := chk_2 hf
        exact Fq.of hf
theorem fq7_at   {n : Nat} {a1 : Int32} {a2 : Int32} {M M' : Mem} {r : Int32} (hf : f7_at n  a1 a2 M = some (r, M')) : Fq CSX [] M M' := fqb7_at_0  (fun _ _ _ _ h => by cases h) hf
theorem fqb11_isDigit_16   {rc : Nat → List Int32 → List Int64 → Mem → Option (Int32 × Mem)} {n : Nat} {r : Int32} {M' : Mem} (hrc : ∀ pc li lj M, rc pc li lj M = some (r, M') → Fq CSX [] M M')  {M : Mem} (hf : b11_isDigit_16  rc n  M = some (r, M')) : Fq CSX [] M M' := by
  unfold b11_isDigit_16 at hf
  exact Fq.of hf
theorem fqb11_isDigit_0   {rc : Nat → List Int32 → List Int64 → Mem → Option (Int32 × Mem)} {n : Nat} {r : Int32} {M' : Mem} (hrc : ∀ pc li lj M, rc pc li lj M = some (r, M') → Fq CSX [] M M') {a0 : Int32} {M : Mem} (hf : b11_isDigit_0  rc n a0 M = some (r, M')) : Fq CSX [] M M' := by
  unfold b11_isDigit_0 at hf
  by_cases c1 : a0 < (48 : Int32)
  · replace hf := ite_t c1 hf
    exact fqb11_isDigit_16  hrc hf
  · replace hf := ite_f c1 hf
    by_cases c2 : (57 : Int32) < a0
    · replace hf := ite_t c2 hf
      exact fqb11_isDigit_16  hrc hf
    · replace hf := ite_f c2 hf
      exact Fq.of hf
theorem fq11_isDigit   {n : Nat} {a0 : Int32} {M M' : Mem} {r : Int32} (hf : f11_isDigit n  a0 M = some (r, M')) : Fq CSX [] M M' := fqb11_isDigit_0  (fun _ _ _ _ h => by cases h) hf
theorem fqb3_add_0   {rc : Nat → List Int32 → List Int64 → Mem → Option (Unit × Mem)} {n : Nat} {r : Unit} {M' : Mem} (hrc : ∀ pc li lj M, rc pc li lj M = some (r, M') → Fq CSX [(17, 6)] M M') {a1 : Int32} {a2 : Int32} {M : Mem} (hf : b3_add_0  rc n a1 a2 M = some (r, M')) : Fq CSX [(17, 6)] M M' := by
  unfold b3_add_0 at hf
  by_cases c1 : (240 : Int32) ≤ (M.1 17 6)
  · replace hf := ite_t c1 hf
    exact Fq.of hf
  · replace hf := ite_f c1 hf
    replace hf := chk_2 hf
    obtain ⟨M3, eM3, hf⟩ := lt_x hf
    refine Fq_wIn eM3 (by decide) ?_
    obtain ⟨M4, eM4, hf⟩ := lt_x hf
    refine Fq_wI eM4 (by decide) ?_
    exact Fq.of hf
theorem fq3_add   {n : Nat} {a1 : Int32} {a2 : Int32} {M M' : Mem} {r : Unit} (hf : f3_add n  a1 a2 M = some (r, M')) : Fq CSX [(17, 6)] M M' := fqb3_add_0  (fun _ _ _ _ h => by cases h) hf
