/-! EUCLID, both at a time -/
theorem euclid : ∀ (k a b r nX nY : Nat) (i0 i1 : Int32), b < 2 ^ k → a < 2 ^ 31 → k < 31 → 0 < a → r + 2 * k + 1 ≤ 64 → 2 * k + 2 < nX → 2 * k + 2 < nY → ∃ g, 0 < g ∧ g < 2 ^ 31 ∧ (∀ i2 M, r11_partOfFraction nX 8 [i0, i1, i2, nI a, nI b, nI r] [] M = some (if i2 = 0 then i1 / nI g else i0 / nI g, M)) ∧ ∀ N, r12_gcd nY 4 [nI a, nI b] [] N = some (nI g, N) := by
  intro k
  induction k with
  | zero =>
    intro a b r nX nY i0 i1 h1 h2 hk h3 h4 h5 h6
    obtain ⟨nX, rfl⟩ : ∃ n', nX = n' + 1 := ⟨nX - 1, by omega⟩
    obtain ⟨nY, rfl⟩ : ∃ n', nY = n' + 1 := ⟨nY - 1, by omega⟩
    have : b = 0 := by simpa using h1
    subst this
    have hd := nI_ne0 h3 h2
    refine ⟨a, h3, h2, fun i2 M => ?_, fun N => ?_⟩
    · rw [e11_partOfFraction_8]
      unfold b11_partOfFraction_8 b11_partOfFraction_39 b11_partOfFraction_54
      rw [if_neg (show ¬ (64 : Int32) ≤ nI r from nI_ge (b := 64) (by omega) (by decide)), if_pos nI_0, if_neg hd, chk_t (decide_eq_true hd), chk_t (decide_eq_true hd)]
      split <;> rfl
    · rw [e12_gcd_4]
      unfold b12_gcd_4
      rw [if_pos nI_0]
  | succ k ih =>
    intro a b r nX nY i0 i1 h1 h2 hk h3 h4 h5 h6
    have p31 : (2 : Nat) ^ (k + 1) ≤ 2 ^ 30 := Nat.pow_le_pow_right (by decide) (by omega)
    have pk : (2 : Nat) ^ (k + 1) = 2 * 2 ^ k := by rw [Nat.pow_succ, Nat.mul_comm]
    obtain ⟨nX, rfl⟩ : ∃ n', nX = n' + 1 := ⟨nX - 1, by omega⟩
    obtain ⟨nY, rfl⟩ : ∃ n', nY = n' + 1 := ⟨nY - 1, by omega⟩
    have fin : ∀ (a r nX nY : Nat), 0 < a → a < 2 ^ 31 → r < 64 → ∃ g, 0 < g ∧ g < 2 ^ 31 ∧ (∀ i2 M, r11_partOfFraction (nX + 1) 8 [i0, i1, i2, nI a, nI 0, nI r] [] M = some (if i2 = 0 then i1 / nI g else i0 / nI g, M)) ∧ ∀ N, r12_gcd (nY + 1) 4 [nI a, nI 0] [] N = some (nI g, N) := by
      intro a r nX nY h3 h2 h4
      have hd := nI_ne0 h3 h2
      refine ⟨a, h3, h2, fun i2 M => ?_, fun N => ?_⟩
      · rw [e11_partOfFraction_8]
        unfold b11_partOfFraction_8 b11_partOfFraction_39 b11_partOfFraction_54
        rw [if_neg (show ¬ (64 : Int32) ≤ nI r from nI_ge (b := 64) (by omega) (by decide)), if_pos nI_0, if_neg hd, chk_t (decide_eq_true hd), chk_t (decide_eq_true hd)]
        split <;> rfl
      · rw [e12_gcd_4]
        unfold b12_gcd_4
        rw [if_pos nI_0]
    have step : ∀ (a b r nX nY : Nat), 0 < b → b < 2 ^ 31 → a < 2 ^ 31 → r < 64 → (∀ i2 M, r11_partOfFraction (nX + 1) 8 [i0, i1, i2, nI a, nI b, nI r] [] M = r11_partOfFraction nX 8 [i0, i1, i2, nI b, nI (a % b), nI (r + 1)] [] M) ∧ ∀ N, r12_gcd (nY + 1) 4 [nI a, nI b] [] N = r12_gcd nY 4 [nI b, nI (a % b)] [] N := by
      intro a b r nX nY hb hb2 ha hr
      have hd := nI_ne0 hb hb2
      refine ⟨fun i2 M => ?_, fun N => ?_⟩
      · rw [e11_partOfFraction_8]
        unfold b11_partOfFraction_8
        rw [if_neg (show ¬ (64 : Int32) ≤ nI r from nI_ge (b := 64) (by omega) (by decide)), if_neg hd, chk_t (decide_eq_true hd), lt_v, lt_v, pk_rem ha hb hb2, nI_1]
      · rw [e12_gcd_4]
        unfold b12_gcd_4
        rw [if_neg hd, chk_t (decide_eq_true hd), lt_v, pk_rem ha hb hb2]
    rcases Nat.eq_zero_or_pos b with hb | hb
    · subst hb
      exact fin a r nX nY h3 h2 (by omega)
    · obtain ⟨nX, rfl⟩ : ∃ n', nX = n' + 1 := ⟨nX - 1, by omega⟩
      obtain ⟨nY, rfl⟩ : ∃ n', nY = n' + 1 := ⟨nY - 1, by omega⟩
      have s1 := step a b r (nX + 1) (nY + 1) hb (by omega) h2 (by omega)
      simp only [s1.1, s1.2]
      have hm := Nat.mod_lt a hb
      rcases Nat.eq_zero_or_pos (a % b) with hz | hz
      · simp only [hz]
        exact fin b (r + 1) nX nY hb (by omega) (by omega)
      · have s2 := step b (a % b) (r + 1) nX nY hz (by omega) (by omega) (by omega)
        simp only [s2.1, s2.2]
        have hm2 := Nat.mod_lt b hz
        have hm3 : b % (a % b) + a % b ≤ b := by
          have e1 := Nat.div_add_mod b (a % b)
          have e2 : 1 ≤ b / (a % b) := (Nat.one_le_div_iff hz).mpr (by omega)
          have e3 : a % b * 1 ≤ a % b * (b / (a % b)) := Nat.mul_le_mul_left _ e2
          omega
        exact ih (a % b) (b % (a % b)) (r + 1 + 1) nX nY i0 i1 (by omega) (by omega) (by omega) hz (by omega) (by omega) (by omega)
theorem frac {n a b : Nat} (hn : 1000 ≤ n) (ha : a < 4096) (hb : 0 < b) (hb2 : b < 4096) : ∃ u v : Int32, (∀ M, f11_partOfFraction n (nI a) (nI b) 1 M = some (u, M)) ∧ (∀ M, f11_partOfFraction n (nI a) (nI b) 0 M = some (v, M)) ∧ ∀ M, f12_laysFraction n (nI a) (nI b) M = some ((), wI (wI M 0 41 u) 0 42 v) := by
  obtain ⟨g, g1, g2, g3, g4⟩ := euclid 12 b a 0 (n + 1) (n + 1) (nI a) (nI b) (by omega) (by omega) (by decide) hb (by decide) (by omega) (by omega)
  have hd := nI_ne0 g1 g2
  have g3' : ∀ i2 M, f11_partOfFraction n (nI a) (nI b) i2 M = some (if i2 = 0 then nI b / nI g else nI a / nI g, M) := by
    intro i2 M
    have := g3 i2 M
    rw [e11_partOfFraction_8, nI_0] at this
    exact this
  have g4' : ∀ N, f12_gcd n (nI b) (nI a) N = some (nI g, N) := by
    intro N
    have := g4 N
    rw [e12_gcd_4] at this
    exact this
  refine ⟨nI a / nI g, nI b / nI g, fun M => ?_, fun M => ?_, fun M => ?_⟩
  · rw [g3', if_neg (by decide)]
  · rw [g3', if_pos rfl]
  · unfold f12_laysFraction b12_laysFraction_0
    rw [bnd_e (g4' M), chk_t (decide_eq_true hd), lt_v, chk_t (decide_eq_true hd), lt_v]
