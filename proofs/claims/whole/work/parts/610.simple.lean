/-! the calls that need least: class and reference side by side -/
theorem in_t {n : Nat} {v lo hi : Int32} {M : Mem} (h1 : ¬ v < lo) (h2 : ¬ hi < v) : f12_in n v lo hi M = some (1, M) := by
  simp only [f12_in, b12_in_0, if_neg h1, if_neg h2]
theorem in_f {n : Nat} {v lo hi : Int32} {M : Mem} (h : v < lo ∨ hi < v) : f12_in n v lo hi M = some (0, M) := by
  simp only [f12_in, b12_in_0, b12_in_14]
  by_cases h1 : v < lo
  · rw [if_pos h1]
  · rw [if_neg h1, if_pos (h.resolve_left h1)]
/-- a course of the class against a row of the reference -/
def CR (c r : Nat) (Mx My : Mem) : Prop := (∀ j, j < 96 → Mx.1 (c + 1) j = My.1 r j) ∧ (∀ j, j < 60 → Mx.1 (c + 2) j = My.1 r (96 + j)) ∧ Mx.1 c 4 = My.1 r 156 ∧ Mx.1 c 5 = My.1 r 157 ∧ Mx.1 c 6 = My.1 r 158 ∧ Mx.1 c 7 = My.1 r 159 ∧ Mx.1 c 2 = My.1 r 160 ∧ Mx.1 c 3 = My.1 r 161
theorem seed_X (n : Nat) (a : Int32) (M : Mem) : f11_seed n a M = if a < 0 then some (0, M) else if a ≤ 65535 then some (1, wI M 330 3 a) else some (0, M) := by
  simp only [f11_seed, b11_seed_0, b11_seed_11, lt]
theorem seed_Y (n : Nat) (a : Int32) (M : Mem) : f12_seed n a M = if a < 0 then some (0, M) else if a ≤ 65535 then some (1, wI M 1 161 a) else some (0, M) := by
  simp only [f12_seed, b12_seed_0, lt]
  by_cases h1 : a < 0
  · rw [bnd_e (in_f (Or.inl h1)), if_pos rfl, if_pos h1]
  · by_cases h2 : a ≤ 65535
    · rw [bnd_e (in_t h1 (Int32.not_lt.mpr h2)), if_neg (by decide), chk_t (by decide), if_neg h1, if_pos h2]
      rfl
    · rw [bnd_e (in_f (Or.inr (Int32.not_le.mp h2))), if_pos rfl, if_neg h1, if_neg h2]
/-- WORN, both at once -/
theorem worn_loop {Mx My : Mem} (h : ∀ j, j < 96 → Mx.1 331 j = My.1 1 j) : ∀ (d i : Nat) (m a : Int32) (n : Nat), i + d = 96 → d < n → ∃ r, r11_worn n 7 [m, a, nI i] [] Mx = some (r, Mx) ∧ r12_worn n 7 [a, m, nI i] [] My = some (r, My) := by
  intro d
  induction d with
  | zero =>
    intro i m a n h1 h2
    obtain ⟨n, rfl⟩ : ∃ n', n = n' + 1 := ⟨n - 1, by omega⟩
    have hi : i = 96 := by omega
    subst hi
    rw [e11_worn_7, e12_worn_7]
    simp only [b11_worn_7, b12_worn_7]
    rw [if_pos (by decide), if_pos (by decide)]
    exact ⟨a, rfl, rfl⟩
  | succ d ih =>
    intro i m a n h1 h2
    obtain ⟨n, rfl⟩ : ∃ n', n = n' + 1 := ⟨n - 1, by omega⟩
    rw [e11_worn_7, e12_worn_7]
    have e0 : (0 : Int32) + nI i = nI i := by rw [← nI_0, nI_add, Nat.zero_add]
    simp only [b11_worn_7, b12_worn_7, b11_worn_38, b12_worn_39, lt, e0]
    rw [if_neg (show ¬ (96 : Int32) ≤ nI i from nI_ge (b := 96) (by omega) (by decide)), if_neg (show ¬ (96 : Int32) ≤ nI i from nI_ge (b := 96) (by omega) (by decide)), chk_t (inb_nI (by omega) (by decide)), chk_t (inb_nI (by omega) (by decide)), chk_t (inb_nI (by omega) (by decide)), chk_t (inb_nI (by omega) (by decide)), nI_clamp (by omega), nI_1]
    have e := h i (by omega)
    rw [show (330 + 1 : Nat) = 331 from rfl, e]
    by_cases hc : My.1 1 i ≤ m
    · rw [if_pos hc, if_neg (Int32.not_lt.mpr hc)]
      exact ih (i + 1) m a n (by omega) (by omega)
    · rw [if_neg hc, if_pos (Int32.not_le.mp hc)]
      exact ih (i + 1) _ _ n (by omega) (by omega)
theorem worn_XY {Mx My : Mem} {n : Nat} (h : ∀ j, j < 96 → Mx.1 331 j = My.1 1 j) (hn : 100 ≤ n) : ∃ r, f11_worn n Mx = some (r, Mx) ∧ f12_worn n My = some (r, My) := by
  obtain ⟨r, h1, h2⟩ := worn_loop h 96 0 0 (-2) (n + 1) (by omega) (by omega)
  rw [nI_0, e11_worn_7] at h1
  rw [nI_0, e12_worn_7] at h2
  exact ⟨r, h1, h2⟩
/-- KEPT and UNDONE -/
theorem copies_loop (k0 k1 : Nat) (hk : k0 ≠ k1) : ∀ (d i : Nat) (M : Mem) (n : Nat), i + d = 162 → d < n → r12_copies k0 k1 n 2 [nI i] [] M = some ((), wR M k1 (fun j => if i ≤ j ∧ j < 162 then M.1 k0 j else M.1 k1 j)) := by
  intro d
  induction d with
  | zero =>
    intro i M n h1 h2
    obtain ⟨n, rfl⟩ : ∃ n', n = n' + 1 := ⟨n - 1, by omega⟩
    rw [e12_copies_2]
    simp only [b12_copies_2]
    rw [if_pos (show (162 : Int32) ≤ nI i from nI_le (a := 162) (by omega) (by omega))]
    congr 2
    refine mem_ext (fun a j => ?_) (fun a j => rfl)
    rw [wR_at]
    by_cases h : a = k1
    · subst h
      rw [if_pos rfl, if_neg (by omega)]
    · rw [if_neg h]
  | succ d ih =>
    intro i M n h1 h2
    obtain ⟨n, rfl⟩ : ∃ n', n = n' + 1 := ⟨n - 1, by omega⟩
    rw [e12_copies_2]
    simp only [b12_copies_2, lt]
    rw [if_neg (show ¬ (162 : Int32) ≤ nI i from nI_ge (b := 162) (by omega) (by decide)), chk_t (inb_nI (by omega) (by decide)), chk_t (inb_nI (by omega) (by decide)), nI_1, nI_clamp (by omega), ih (i + 1) _ n (by omega) (by omega)]
    congr 2
    refine mem_ext (fun a j => ?_) (fun a j => rfl)
    simp only [wR_at, wI_at, if_neg hk, if_true]
    repeat' split
    all_goals first | rfl | (exfalso; omega) | (subst_vars; rfl) | (subst_vars; exfalso; omega)
theorem copies_spec {n : Nat} (k0 k1 : Nat) (hk : k0 ≠ k1) (M : Mem) (hn : 200 ≤ n) : f12_copies n k0 k1 M = some ((), wR M k1 (fun j => if j < 162 then M.1 k0 j else M.1 k1 j)) := by
  simp only [f12_copies, b12_copies_0]
  rw [← e12_copies_2]
  have h := copies_loop k0 k1 hk 162 0 M (n + 1) (by omega) (by omega)
  rw [nI_0] at h
  simp only [Nat.zero_le, true_and] at h
  exact h
