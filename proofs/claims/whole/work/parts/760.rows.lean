/-! CALLS: rows of doors, by numbers -/
theorem mnf_le {z : Nat} {f : Nat → Nat} {set : Nat} : ∀ {j b : Nat}, 1 ≤ b → b ≤ j → set.testBit (b - 1) = true → mnf z f set j ≤ f b := by
  intro j
  induction j with
  | zero => intro b h1 h2; omega
  | succ j ih =>
    intro b h1 h2 h3
    simp only [mnf]
    by_cases e : b = j + 1
    · subst e
      rw [show j + 1 - 1 = j by omega] at h3
      rw [if_pos h3]
      split <;> omega
    · have := ih h1 (by omega) h3
      split
      · split <;> omega
      · exact this
theorem mnf_z {z : Nat} {f : Nat → Nat} {set : Nat} : ∀ j, mnf z f set j ≤ z := by
  intro j
  induction j with
  | zero => exact Nat.le_refl _
  | succ j ih =>
    simp only [mnf]
    split
    · split <;> omega
    · exact ih
theorem mnf_at {z : Nat} {f : Nat → Nat} {set : Nat} : ∀ j, mnf z f set j = z ∨ ∃ b, 1 ≤ b ∧ b ≤ j ∧ set.testBit (b - 1) = true ∧ mnf z f set j = f b := by
  intro j
  induction j with
  | zero => exact Or.inl rfl
  | succ j ih =>
    simp only [mnf]
    have old : mnf z f set j = z ∨ ∃ b, 1 ≤ b ∧ b ≤ j + 1 ∧ set.testBit (b - 1) = true ∧ mnf z f set j = f b := ih.imp id (fun ⟨b, h1, h2, h3⟩ => ⟨b, h1, by omega, h3⟩)
    split
    · rename_i h
      split
      · exact Or.inr ⟨j + 1, by omega, by omega, by rw [show j + 1 - 1 = j by omega]; exact h, rfl⟩
      · exact old
    · exact old
theorem flip_bit (set j i : Nat) (h : set.testBit j = true) : (set ^^^ 2 ^ j).testBit i = (set.testBit i && !decide (i = j)) := by
  rw [fb_bit_flip]
  by_cases e : i = j
  · rw [e, h]; simp
  · simp [e]
theorem flip_lt {set j : Nat} (hs : set < 512) (hj : j < 9) : set ^^^ 2 ^ j < 512 := Nat.xor_lt_two_pow (n := 9) hs (Nat.pow_lt_pow_right (by decide) hj)
theorem flip_less {set j : Nat} (h : set.testBit j = true) : set ^^^ 2 ^ j < set := by
  have e : set = (set ^^^ 2 ^ j) ||| 2 ^ j := Nat.eq_of_testBit_eq fun i => by
    rw [fb_bit_set, flip_bit _ _ _ h]
    by_cases c : i = j
    · rw [c, h]; simp
    · simp [c]
  have l : set ^^^ 2 ^ j ≤ (set ^^^ 2 ^ j) ||| 2 ^ j := Nat.left_le_or
  rw [← e] at l
  refine Nat.lt_of_le_of_ne l fun q => ?_
  have := flip_bit set j j h
  rw [q, h] at this
  simp at this
theorem pcn_flip {set j : Nat} (hj : j < 9) (h : set.testBit j = true) : pcn (set ^^^ 2 ^ j) + 1 = pcn set := by
  have e1 := fb_ct_upd (fun i => set.testBit i) false (i := j) (n := 9) hj
  have e1 : fb_ct (fun k => if k = j then false else set.testBit k) 9 + (if set.testBit j = true then 1 else 0) = pcn set + (if false = true then 1 else 0) := e1
  rw [if_pos h, if_neg (by decide)] at e1
  have e2 : pcn (set ^^^ 2 ^ j) = fb_ct (fun k => if k = j then false else set.testBit k) 9 := fb_ct_cong fun k _ => by
    rw [flip_bit _ _ _ h]
    by_cases e : k = j
    · rw [if_pos e]; simp [e]
    · rw [if_neg e]; simp [e]
  omega
theorem pcn_pos {set m : Nat} (h : pcn set = m + 1) : ∃ j, j < 9 ∧ set.testBit j = true := fb_ct_pos.mp (show 0 < pcn set by omega)
theorem pcn_le (set : Nat) : pcn set ≤ 9 := fb_ct_le _ _
theorem bv_form {w : Nat → Nat → Nat} (hw : ∀ a b, w a b ≤ 99) : ∀ (m set a : Nat), set < 512 → pcn set = m → ∃ C R, bvN w m set a = C * 1000000000 + R ∧ R < 10 ^ m ∧ C ≤ 99 * (m + 1) := by
  intro m
  induction m with
  | zero =>
    intro set a hs hp
    have := hw a 0
    exact ⟨w a 0, 0, by rw [Nat.add_zero, bvN], by decide, by omega⟩
  | succ m ih =>
    intro set a hs hp
    have hm : m + 1 ≤ 9 := by rw [← hp]; exact pcn_le set
    have hp10 : 10 ^ m ≤ 100000000 := Nat.le_trans (Nat.pow_le_pow_right (by decide) (show m ≤ 8 by omega)) (by decide)
    obtain ⟨j, hj, hb⟩ := pcn_pos hp
    have sub : ∀ b, 1 ≤ b → b ≤ 9 → set.testBit (b - 1) = true → ∃ C R, w a b * 1000000000 + b * 10 ^ m + bvN w m (set ^^^ 2 ^ (b - 1)) b = C * 1000000000 + R ∧ R < 10 ^ (m + 1) ∧ C ≤ 99 * (m + 1 + 1) := by
      intro b h1 h2 h3
      have := pcn_flip (show b - 1 < 9 by omega) h3
      obtain ⟨C, R, e1, e2, e3⟩ := ih (set ^^^ 2 ^ (b - 1)) b (flip_lt hs (by omega)) (by omega)
      have h4 := hw a b
      refine ⟨w a b + C, b * 10 ^ m + R, by rw [e1, Nat.add_mul]; omega, ?_, by omega⟩
      rw [Nat.pow_succ]
      have : b * 10 ^ m ≤ 9 * 10 ^ m := Nat.mul_le_mul_right _ h2
      omega
    simp only [bvN]
    rcases mnf_at (z := 1000000000000000) (f := fun b => w a b * 1000000000 + b * 10 ^ m + bvN w m (set ^^^ 2 ^ (b - 1)) b) (set := set) 9 with e | ⟨b, h1, h2, h3, e⟩
    · exfalso
      have l := mnf_le (z := 1000000000000000) (f := fun b => w a b * 1000000000 + b * 10 ^ m + bvN w m (set ^^^ 2 ^ (b - 1)) b) (set := set) (j := 9) (b := j + 1) (by omega) (by omega) (by rw [show j + 1 - 1 = j by omega]; exact hb)
      rw [e] at l
      obtain ⟨C, R, e1, e2, e3⟩ := sub (j + 1) (by omega) (by omega) (by rw [show j + 1 - 1 = j by omega]; exact hb)
      have l : 1000000000000000 ≤ w a (j + 1) * 1000000000 + (j + 1) * 10 ^ m + bvN w m (set ^^^ 2 ^ (j + 1 - 1)) (j + 1) := l
      rw [e1] at l
      have : 10 ^ (m + 1) ≤ 1000000000 := Nat.le_trans (Nat.pow_le_pow_right (by decide) hm) (by decide)
      omega
    · obtain ⟨C, R, e1, e2, e3⟩ := sub b h1 h2 h3
      exact ⟨C, R, by rw [e]; exact e1, e2, e3⟩
def csN (w : Nat → Nat → Nat) (m set a : Nat) : Nat := bvN w m set a / 1000000000
def rwN (w : Nat → Nat → Nat) (m set a : Nat) : Nat := bvN w m set a % 1000000000
theorem bv_split {w : Nat → Nat → Nat} (hw : ∀ a b, w a b ≤ 99) {m set a : Nat} (hs : set < 512) (hp : pcn set = m) : bvN w m set a = csN w m set a * 1000000000 + rwN w m set a ∧ rwN w m set a < 10 ^ m ∧ csN w m set a ≤ 99 * (m + 1) := by
  obtain ⟨C, R, e1, e2, e3⟩ := bv_form hw m set a hs hp
  have hm : m ≤ 9 := by rw [← hp]; exact pcn_le set
  have : 10 ^ m ≤ 1000000000 := Nat.le_trans (Nat.pow_le_pow_right (by decide) hm) (by decide)
  unfold csN rwN
  have d1 : bvN w m set a / 1000000000 = C := by omega
  have d2 : bvN w m set a % 1000000000 = R := by omega
  rw [d1, d2]
  exact ⟨e1, e2, e3⟩
/-- one door on -/
theorem bv_step {w : Nat → Nat → Nat} (hw : ∀ a b, w a b ≤ 99) {m set a : Nat} (hs : set < 512) (hp : pcn set = m + 1) : (∀ b, 1 ≤ b → b ≤ 9 → set.testBit (b - 1) = true → csN w (m + 1) set a ≤ w a b + csN w m (set ^^^ 2 ^ (b - 1)) b) ∧ ∃ b, 1 ≤ b ∧ b ≤ 9 ∧ set.testBit (b - 1) = true ∧ csN w (m + 1) set a = w a b + csN w m (set ^^^ 2 ^ (b - 1)) b ∧ rwN w (m + 1) set a = b * 10 ^ m + rwN w m (set ^^^ 2 ^ (b - 1)) b ∧ ∀ b', 1 ≤ b' → b' < b → set.testBit (b' - 1) = true → csN w (m + 1) set a ≠ w a b' + csN w m (set ^^^ 2 ^ (b' - 1)) b' := by
  have hm : m + 1 ≤ 9 := by rw [← hp]; exact pcn_le set
  have hp10 : 10 ^ m ≤ 100000000 := Nat.le_trans (Nat.pow_le_pow_right (by decide) (show m ≤ 8 by omega)) (by decide)
  obtain ⟨j, hj, hb⟩ := pcn_pos hp
  have F : ∀ b, 1 ≤ b → b ≤ 9 → set.testBit (b - 1) = true → w a b * 1000000000 + b * 10 ^ m + bvN w m (set ^^^ 2 ^ (b - 1)) b = (w a b + csN w m (set ^^^ 2 ^ (b - 1)) b) * 1000000000 + (b * 10 ^ m + rwN w m (set ^^^ 2 ^ (b - 1)) b) ∧ rwN w m (set ^^^ 2 ^ (b - 1)) b < 10 ^ m ∧ b * 10 ^ m ≤ 9 * 10 ^ m := by
    intro b h1 h2 h3
    have := pcn_flip (show b - 1 < 9 by omega) h3
    obtain ⟨e1, e2, e3⟩ := bv_split hw (a := b) (flip_lt hs (show b - 1 < 9 by omega)) (show pcn (set ^^^ 2 ^ (b - 1)) = m by omega)
    exact ⟨by rw [Nat.add_mul]; omega, e2, Nat.mul_le_mul_right _ h2⟩
  have L : ∀ b, 1 ≤ b → b ≤ 9 → set.testBit (b - 1) = true → bvN w (m + 1) set a ≤ w a b * 1000000000 + b * 10 ^ m + bvN w m (set ^^^ 2 ^ (b - 1)) b := fun b h1 h2 h3 => mnf_le (z := 1000000000000000) (f := fun b => w a b * 1000000000 + b * 10 ^ m + bvN w m (set ^^^ 2 ^ (b - 1)) b) h1 h2 h3
  have V := bv_split hw (a := a) hs hp
  have hb' : set.testBit (j + 1 - 1) = true := by rw [show j + 1 - 1 = j by omega]; exact hb
  have At : ∃ b, 1 ≤ b ∧ b ≤ 9 ∧ set.testBit (b - 1) = true ∧ bvN w (m + 1) set a = w a b * 1000000000 + b * 10 ^ m + bvN w m (set ^^^ 2 ^ (b - 1)) b := by
    rcases mnf_at (z := 1000000000000000) (f := fun b => w a b * 1000000000 + b * 10 ^ m + bvN w m (set ^^^ 2 ^ (b - 1)) b) (set := set) 9 with e | ⟨b, h1, h2, h3, e⟩
    · exfalso
      have e : bvN w (m + 1) set a = 1000000000000000 := e
      have : 10 ^ (m + 1) ≤ 1000000000 := Nat.le_trans (Nat.pow_le_pow_right (by decide) hm) (by decide)
      omega
    · exact ⟨b, h1, h2, h3, e⟩
  obtain ⟨b, h1, h2, h3, e⟩ := At
  obtain ⟨f1, f2, f3⟩ := F b h1 h2 h3
  have hpow : 10 ^ (m + 1) ≤ 1000000000 := Nat.le_trans (Nat.pow_le_pow_right (by decide) hm) (by decide)
  have hC : csN w (m + 1) set a = w a b + csN w m (set ^^^ 2 ^ (b - 1)) b := by
    unfold csN at *
    rw [e, f1]
    omega
  have hR : rwN w (m + 1) set a = b * 10 ^ m + rwN w m (set ^^^ 2 ^ (b - 1)) b := by
    have := V.1
    rw [hC] at this
    omega
  refine ⟨fun b' k1 k2 k3 => ?_, b, h1, h2, h3, hC, hR, fun b' k1 k2 k3 hne => ?_⟩
  · obtain ⟨g1, g2, g3⟩ := F b' k1 k2 k3
    have l := L b' k1 k2 k3
    rw [g1, V.1] at l
    omega
  · obtain ⟨g1, g2, g3⟩ := F b' k1 (by omega) k3
    have l := L b' k1 (by omega) k3
    rw [g1, V.1, hne] at l
    have : (b' + 1) * 10 ^ m ≤ b * 10 ^ m := Nat.mul_le_mul_right _ (by omega)
    rw [Nat.add_mul] at this
    omega
/-! the reference's steps -/
def ydw (w : Nat → Nat → Nat) (a b : Nat) : Nat := if w a b = 99 then 1000000 else w a b
def yv (w : Nat → Nat → Nat) : Nat → Nat → Nat → Nat
  | 0, _, a => ydw w a 0
  | m + 1, set, a => mnf 1000000 (fun b => ydw w a b + yv w m (set ^^^ 2 ^ (b - 1)) b) set 9
theorem yv_le {w : Nat → Nat → Nat} (hw : ∀ a b, w a b ≤ 99) : ∀ m set a, yv w m set a ≤ 1000000
  | 0, _, a => by
    have := hw a 0
    simp only [yv, ydw]
    split <;> omega
  | m + 1, set, a => mnf_z 9
theorem yv_cs {w : Nat → Nat → Nat} (hw : ∀ a b, w a b ≤ 99) : ∀ (m set a : Nat), set < 512 → pcn set = m → (csN w m set a < 99 ∨ yv w m set a < 99) → yv w m set a = csN w m set a := by
  intro m
  induction m with
  | zero =>
    intro set a hs hp h
    have e : csN w 0 set a = w a 0 := by
      unfold csN
      show w a 0 * 1000000000 / 1000000000 = _
      rw [Nat.mul_div_cancel _ (by decide)]
    have := hw a 0
    simp only [yv, ydw] at h ⊢
    rw [e] at h ⊢
    by_cases c : w a 0 = 99
    · rw [if_pos c] at h
      omega
    · rw [if_neg c]
  | succ m ih =>
    intro set a hs hp h
    obtain ⟨s1, b, h1, h2, h3, h4, h5, h6⟩ := bv_step hw (a := a) hs hp
    have sub : ∀ b, 1 ≤ b → b ≤ 9 → set.testBit (b - 1) = true → (csN w m (set ^^^ 2 ^ (b - 1)) b < 99 ∨ yv w m (set ^^^ 2 ^ (b - 1)) b < 99) → yv w m (set ^^^ 2 ^ (b - 1)) b = csN w m (set ^^^ 2 ^ (b - 1)) b := fun b k1 k2 k3 => ih _ b (flip_lt hs (by omega)) (by have := pcn_flip (show b - 1 < 9 by omega) k3; omega)
    have low : yv w (m + 1) set a < 99 → csN w (m + 1) set a ≤ yv w (m + 1) set a := by
      intro hy
      rcases mnf_at (z := 1000000) (f := fun b => ydw w a b + yv w m (set ^^^ 2 ^ (b - 1)) b) (set := set) 9 with e | ⟨b', k1, k2, k3, e⟩
      · have e : yv w (m + 1) set a = 1000000 := e
        omega
      · have e : yv w (m + 1) set a = ydw w a b' + yv w m (set ^^^ 2 ^ (b' - 1)) b' := e
        have c1 := s1 b' k1 k2 k3
        have c2 := sub b' k1 k2 k3 (Or.inr (by omega))
        have c3 : ydw w a b' = w a b' := by
          unfold ydw at e ⊢
          by_cases c : w a b' = 99
          · rw [if_pos c] at e; omega
          · rw [if_neg c]
        omega
    have up : csN w (m + 1) set a < 99 → yv w (m + 1) set a ≤ csN w (m + 1) set a := by
      intro hc
      have c2 := sub b h1 h2 h3 (Or.inl (by omega))
      have c3 : ydw w a b = w a b := by unfold ydw; rw [if_neg (by omega)]
      have l : yv w (m + 1) set a ≤ ydw w a b + yv w m (set ^^^ 2 ^ (b - 1)) b := mnf_le (z := 1000000) (f := fun b => ydw w a b + yv w m (set ^^^ 2 ^ (b - 1)) b) h1 h2 h3
      omega
    rcases h with h | h
    · have := up h
      have := low (by omega)
      omega
    · have := low h
      have := up (by omega)
      omega
/-- a door not told: no way -/
theorem untold_cs {w : Nat → Nat → Nat} (hw : ∀ a b, w a b ≤ 99) {j : Nat} (hj : j < 9) (hn : ∀ a, w a (j + 1) = 99) : ∀ (m set a : Nat), set < 512 → pcn set = m → set.testBit j = true → 99 ≤ csN w m set a := by
  intro m
  induction m with
  | zero =>
    intro set a hs hp hb
    exfalso
    have : 0 < pcn set := fb_ct_pos.mpr ⟨j, hj, hb⟩
    omega
  | succ m ih =>
    intro set a hs hp hb
    obtain ⟨s1, b, h1, h2, h3, h4, h5, h6⟩ := bv_step hw (a := a) hs hp
    by_cases e : b = j + 1
    · rw [h4, e, hn]; omega
    · have := ih (set ^^^ 2 ^ (b - 1)) b (flip_lt hs (by omega)) (by have := pcn_flip (show b - 1 < 9 by omega) h3; omega) (by rw [flip_bit _ _ _ h3, hb]; simp; omega)
      omega
/-- digits of a row -/
def dg (L R i : Nat) : Nat := R / 10 ^ (L - 1 - i) % 10
theorem dg_0 {L b R : Nat} (hb : b ≤ 9) (hR : R < 10 ^ L) : dg (L + 1) (b * 10 ^ L + R) 0 = b := by
  unfold dg
  rw [show L + 1 - 1 - 0 = L by omega, Nat.add_comm, Nat.add_mul_div_right _ _ (Nat.pow_pos (by decide)), Nat.div_eq_of_lt hR]
  omega
theorem dg_s {L b R i : Nat} (hi : i < L) : dg (L + 1) (b * 10 ^ L + R) (i + 1) = dg L R i := by
  unfold dg
  rw [show L + 1 - 1 - (i + 1) = L - 1 - i by omega]
  have e : b * 10 ^ L = 10 ^ (L - 1 - i) * (10 * (b * 10 ^ i)) := by
    rw [show L = (L - 1 - i) + 1 + i by omega, Nat.pow_add, Nat.pow_add]
    have : L - 1 - i + 1 + i - 1 - i = L - 1 - i := by omega
    rw [this, Nat.pow_one]
    generalize 10 ^ (L - 1 - i) = x
    generalize 10 ^ i = y
    rw [Nat.mul_comm b, Nat.mul_assoc, Nat.mul_assoc, Nat.mul_comm y b]
  rw [e, Nat.add_comm, Nat.add_mul_div_left _ _ (Nat.pow_pos (by decide)), Nat.add_mul_mod_self_left]
theorem dg_le (L R i : Nat) : dg L R i ≤ 9 := by unfold dg; omega
theorem dg_front {L R : Nat} (h : R < 10 ^ (L + 1)) : R = dg (L + 1) R 0 * 10 ^ L + R % 10 ^ L ∧ R % 10 ^ L < 10 ^ L := by
  have hp : 0 < 10 ^ L := Nat.pow_pos (by decide)
  refine ⟨?_, Nat.mod_lt _ hp⟩
  unfold dg
  rw [show L + 1 - 1 - 0 = L by omega, Nat.mod_eq_of_lt (show R / 10 ^ L < 10 by rw [Nat.div_lt_iff_lt_mul hp]; rw [Nat.pow_succ] at h; omega)]
  have := Nat.div_add_mod R (10 ^ L)
  rw [Nat.mul_comm] at this
  exact this.symm
