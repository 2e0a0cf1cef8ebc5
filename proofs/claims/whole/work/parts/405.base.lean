/-! pure rows: what the functions come to -/
theorem chk_t {α : Type} {b : Bool} {k : Option α} (h : b = true) : chk b k = k := by simp [chk, h]
theorem bnd_e {α β : Type} {o : Option (α × Mem)} {k : α → Mem → Option β} {r : α} {M : Mem} (h : o = some (r, M)) : bnd o k = k r M := by rw [h]; rfl
theorem inb_nI {i L : Nat} (h : i < L) (hL : L < 2 ^ 31) : inb (nI i) L = true := by
  unfold inb
  exact decide_eq_true (nI_in h hL)
theorem wI_at {M : Mem} {k j a i : Nat} {v : Int32} : (wI M k j v).1 a i = if a = k then (if i = j then v else M.1 a i) else M.1 a i := rfl
theorem wR_at {M : Mem} {k a i : Nat} {f : Nat → Int32} : (wR M k f).1 a i = if a = k then f i else M.1 a i := rfl
theorem wJ_at {M : Mem} {k j a i : Nat} {v : Int64} : (wJ M k j v).2 a i = if a = k then (if i = j then v else M.2 a i) else M.2 a i := rfl
theorem mem_ext {M M' : Mem} (h1 : ∀ a i, M.1 a i = M'.1 a i) (h2 : ∀ a i, M.2 a i = M'.2 a i) : M = M' := Prod.ext (funext fun a => funext fun i => h1 a i) (funext fun a => funext fun i => h2 a i)
theorem fill_loop (k L : Nat) (v : Int32) (hL : L < 2 ^ 31) : ∀ (d i : Nat) (M : Mem) (n : Nat), i + d = L → d < n → rZJ7_fill_53178 k L n 5 [v, nI i, nI L] [] M = some ((), wR M k (fun j => if i ≤ j ∧ j < L then v else M.1 k j)) := by
  intro d
  induction d with
  | zero =>
    intro i M n h1 h2
    obtain ⟨n, rfl⟩ : ∃ n', n = n' + 1 := ⟨n - 1, by omega⟩
    rw [eZJ7_fill_53178_5]
    unfold bZJ7_fill_53178_5
    rw [if_pos (nI_le (by omega) (by omega))]
    congr 2
    refine mem_ext (fun a j => ?_) (fun a j => rfl)
    rw [wR_at]
    by_cases h : a = k
    · subst h
      rw [if_pos rfl, if_neg (by omega)]
    · rw [if_neg h]
  | succ d ih =>
    intro i M n h1 h2
    obtain ⟨n, rfl⟩ : ∃ n', n = n' + 1 := ⟨n - 1, by omega⟩
    rw [eZJ7_fill_53178_5]
    unfold bZJ7_fill_53178_5
    rw [if_neg (nI_ge (by omega) (by omega)), chk_t (inb_nI (by omega) hL)]
    simp only [lt]
    rw [nI_1, nI_clamp (by omega), ih (i + 1) _ n (by omega) (by omega)]
    congr 2
    refine mem_ext (fun a j => ?_) (fun a j => rfl)
    simp only [wR_at, wI_at]
    by_cases h : a = k
    · subst h
      simp only [if_true]
      repeat' split
      all_goals first | rfl | (exfalso; omega)
    · simp [h]
theorem fill_spec {n : Nat} (k L : Nat) (v : Int32) (M : Mem) (hn : L < n) (hL : L < 2 ^ 31) : fZJ7_fill_53178 n k L v M = some ((), wR M k (fun j => if j < L then v else M.1 k j)) := by
  simp only [fZJ7_fill_53178, bZJ7_fill_53178_0, lt]
  rw [← eZJ7_fill_53178_5]
  have h := fill_loop k L v hL L 0 M (n + 1) (by omega) (by omega)
  rw [nI_0] at h
  simp only [Nat.zero_le, true_and] at h
  exact h
