/-! MAP: the class's reader, sign by sign -/
theorem t10 : ((1 : Int32) = 0) = False := eq_false (by decide)
theorem lit_eq {c : Nat} (hc : c < 2 ^ 31) (k : Nat) (hk : k < 2 ^ 31) : (nI c = nI k) = (c = k) := propext (nI_eq hc hk)
/-- a text of the tape, and what lies where -/
def TT1 (T : Nat → Nat) (N : Nat) (X : Mem) : Prop := N ≤ 260 ∧ ∀ j, j < N → T j < 256 ∧ X.1 2 j = nI (T j)
theorem at_X {T : Nat → Nat} {N n i : Nat} {X : Mem} (h : TT1 T N X) (hi : i < N) : f7_at n (nI i) (nI N) X = some (nI (T i), X) := by
  have := h.1
  unfold f7_at b7_at_0
  rw [if_neg (nI_pos (by omega)), if_neg (nI_ge hi (by omega)), if_neg (show ¬ (260 : Int32) ≤ nI i from nI_ge (b := 260) (by omega) (by decide)), chk_in (by omega) (by decide), nI_clamp (by omega), (h.2 i hi).2]
theorem at_end {T : Nat → Nat} {N n : Nat} {X : Mem} (h : TT1 T N X) : f7_at n (nI N) (nI N) X = some (-1, X) := by
  have := h.1
  unfold f7_at b7_at_0 b7_at_25
  rw [if_neg (nI_pos (by omega)), if_pos (Int32.le_refl _)]
def ks (c : Nat) : Nat := if c = 35 then 0 else if c = 43 then 1 else if c = 46 then 2 else 9
theorem kind_X {n c : Nat} {X : Mem} (hc : c < 256) : f8_kindBySign n (nI c) X = some (if ks c < 3 then nI (ks c) else -1, X) := by
  unfold f8_kindBySign b8_kindBySign_0 ks
  by_cases h1 : c = 35
  · rw [h1]; rfl
  · by_cases h2 : c = 43
    · rw [h2]; rfl
    · by_cases h3 : c = 46
      · rw [h3]; rfl
      · rw [if_neg (show ¬ nI c = (35 : Int32) from fun e => h1 ((nI_eq (b := 35) (by omega) (by decide)).mp e)), if_neg (show ¬ nI c = (43 : Int32) from fun e => h2 ((nI_eq (b := 43) (by omega) (by decide)).mp e)), if_neg (show ¬ nI c = (46 : Int32) from fun e => h3 ((nI_eq (b := 46) (by omega) (by decide)).mp e)), if_neg h1, if_neg h2, if_neg h3]
        rfl
theorem ks_lt {c : Nat} (h : ks c < 3) : (c = 35 ∨ c = 43 ∨ c = 46) ∧ ks c ≤ 2 := by
  unfold ks at h ⊢
  repeat' split at h
  all_goals first | omega | (refine ⟨by omega, ?_⟩; simp [*])
theorem ks_none {c : Nat} (h : ¬ ks c < 3) : c ≠ 35 ∧ c ≠ 43 ∧ c ≠ 46 := by
  unfold ks at h
  refine ⟨?_, ?_, ?_⟩
  all_goals (intro e; subst e; simp at h)
theorem fault_X (n : Nat) (k i : Nat) (X : Mem) : f11_faultAt n (nI k) (nI i) X = some ((-1000 : Int32) * nI k - nI i, X) := rfl
section MX
variable {T : Nat → Nat} {N row across many sg i n : Nat} {X : Mem}
/-- a number before a sign -/
theorem mx_digit (h : TT1 T N X) (hi : i < N) (hc1 : 50 ≤ T i) (hc2 : T i ≤ 57) : r8_readMap (n + 1) 22 [nI N, nI row, nI across, nI 0, nI sg, nI i] [] X = if nI row = 8 then some ((-1000 : Int32) * nI 4 - nI i, X) else r8_readMap n 22 [nI N, nI row, nI across, nI (T i - 48), nI i, nI (i + 1)] [] X := by
  have hN := h.1
  have hT := (h.2 i hi).1
  have hk : ¬ ks (T i) < 3 := fun e => by have := (ks_lt e).1; omega
  rw [e8_readMap_22]
  unfold b8_readMap_22 b8_readMap_67 b8_readMap_68 b8_readMap_91 b8_readMap_92 b8_readMap_117 b8_readMap_156 b8_readMap_229
  rw [if_neg (nI_ge hi (by omega)), bnd_e (at_X h hi), bnd_e (kind_X hT), if_neg hk, if_pos nI_0, if_neg (show ¬ nI (T i) < (50 : Int32) from nI_nlt (b := 50) hc1 (by omega)), if_neg (show ¬ (57 : Int32) < nI (T i) from nI_nlt (a := 57) hc2 (by decide)), if_neg (show ¬ nI (T i) = (47 : Int32) from fun e => by rw [show (47 : Int32) = nI 47 from rfl, nI_eq (by omega) (by decide)] at e; omega)]
  simp only [if_true, t10, if_false, lt_v, nI_0, nI_1]
  by_cases c : nI row = 8
  · rw [if_pos c, if_pos c]
    rfl
  · rw [if_neg c, if_neg c, show nI (T i) - (48 : Int32) = nI (T i - 48) from pk_sub (b := 48) (by omega)]
/-- a sign: its places are written, or it is a fault -/
theorem mx_kind (h : TT1 T N X) (hi : i < N) (hk : ks (T i) < 3) (hm : many ≤ 9) (ha : across ≤ 12) : r8_readMap (n + 1) 22 [nI N, nI row, nI across, nI many, nI sg, nI i] [] X = if nI row = 8 then some ((-1000 : Int32) * nI 4 - nI i, X) else if across + max many 1 ≤ 12 then b8_readMap_199 (r8_readMap n) n (nI N) (nI row) (nI across) (nI (if many = 0 then i else sg)) (nI i) (nI (ks (T i))) (nI (across + max many 1)) X else some ((-1000 : Int32) * nI 6 - nI (if many = 0 then i else sg), X) := by
  have hN := h.1
  have hT := (h.2 i hi).1
  obtain ⟨hcs, hk2⟩ := ks_lt hk
  have h47 : ¬ nI (T i) = (47 : Int32) := fun e => by rw [show (47 : Int32) = nI 47 from rfl, nI_eq (by omega) (by decide)] at e; omega
  have h50 : nI (T i) < (50 : Int32) := nI_lt (b := 50) (by omega) (by decide)
  have hkm : ¬ nI (ks (T i)) = -1 := nI_m1 (by omega)
  rw [e8_readMap_22]
  unfold b8_readMap_22 b8_readMap_67 b8_readMap_68 b8_readMap_91 b8_readMap_92 b8_readMap_117 b8_readMap_156
  rw [if_neg (nI_ge hi (by omega)), bnd_e (at_X h hi), bnd_e (kind_X hT), if_pos hk]
  simp only [h47, h50, hkm, if_true, if_false, lt_v]
  have e1 : (if nI many < (1 : Int32) then (1 : Int32) else nI many) = nI (max many 1) := by
    by_cases c : many = 0
    · rw [c]; rfl
    · rw [if_neg (show ¬ nI many < (1 : Int32) from nI_nlt (b := 1) (by omega) (by omega)), show max many 1 = many by omega]
  have hmx : max many 1 ≤ 9 := by omega
  rw [e1, nI_add]
  have e2 : ∀ {α : Type} (p : Prop) [Decidable p] (x : α), (if p then x else x) = x := fun p _ x => by split <;> rfl
  rw [e2]
  by_cases c : nI row = 8
  · rw [if_pos c, if_pos c]
    rfl
  · rw [if_neg c, if_neg c]
    by_cases c2 : many = 0
    · subst c2
      rw [if_pos nI_0, if_pos rfl]
      by_cases c3 : across + max 0 1 ≤ 12
      · rw [if_pos (show nI (across + max 0 1) ≤ (12 : Int32) from nI_le (b := 12) c3 (by decide)), if_pos c3]
      · rw [if_neg (show ¬ nI (across + max 0 1) ≤ (12 : Int32) from nI_ge (a := 12) (by omega) (by omega)), if_neg c3]
        rfl
    · rw [if_neg (nI_ne0 (by omega) (by omega)), if_neg c2]
      by_cases c3 : across + max many 1 ≤ 12
      · rw [if_pos (show nI (across + max many 1) ≤ (12 : Int32) from nI_le (b := 12) c3 (by decide)), if_pos c3]
      · rw [if_neg (show ¬ nI (across + max many 1) ≤ (12 : Int32) from nI_ge (a := 12) (by omega) (by omega)), if_neg c3]
        rfl
/-- the end of a row -/
theorem mx_slash (h : TT1 T N X) (hi : i < N) (hc : T i = 47) (ha : 0 < across) (ha2 : across ≤ 12) : r8_readMap (n + 1) 22 [nI N, nI row, nI across, nI 0, nI sg, nI i] [] X = r8_readMap n 22 [nI N, nI (row + 1), nI 0, nI 0, nI sg, nI (i + 1)] [] X := by
  have hN := h.1
  have hT := (h.2 i hi).1
  have hk : ¬ ks (T i) < 3 := by rw [hc]; decide
  rw [e8_readMap_22]
  unfold b8_readMap_22 b8_readMap_67 b8_readMap_68 b8_readMap_91 b8_readMap_92 b8_readMap_117 b8_readMap_229
  rw [if_neg (nI_ge hi (by omega)), bnd_e (at_X h hi), bnd_e (kind_X hT), if_neg hk, hc, if_pos nI_0, if_pos (show nI 47 < (50 : Int32) by decide), if_pos (show nI 47 = (47 : Int32) from rfl), if_neg (nI_nle ha (by omega)), if_pos nI_0]
  simp only [if_true, t10, if_false, lt_v, nI_0, nI_1]
/-- no sign of a map -/
theorem mx_wrong (h : TT1 T N X) (hi : i < N) (hk : ¬ ks (T i) < 3) (hd : many ≠ 0 ∨ ¬ (50 ≤ T i ∧ T i ≤ 57)) (hs : many ≠ 0 ∨ across = 0 ∨ T i ≠ 47) (hm : many ≤ 9) (ha : across ≤ 12) : r8_readMap (n + 1) 22 [nI N, nI row, nI across, nI many, nI sg, nI i] [] X = some ((-1000 : Int32) * nI 1 - nI i, X) := by
  have hN := h.1
  have hT := (h.2 i hi).1
  rw [e8_readMap_22]
  unfold b8_readMap_22 b8_readMap_67 b8_readMap_68 b8_readMap_91 b8_readMap_92
  rw [if_neg (nI_ge hi (by omega)), bnd_e (at_X h hi), bnd_e (kind_X hT), if_neg hk]
  simp only [if_true, t10, if_false]
  have fin : (bnd (f11_faultAt n 1 (nI i) X) fun r26 M27 => some (r26, M27)) = some ((-1000 : Int32) * nI 1 - nI i, X) := rfl
  rw [fin]
  by_cases c1 : many = 0
  · subst c1
    have hd := hd.resolve_left (fun e => e rfl)
    have hs := hs.resolve_left (fun e => e rfl)
    have tail : (if nI (T i) = (47 : Int32) then (if nI across ≤ 0 then some ((-1000 : Int32) * nI 1 - nI i, X) else if nI 0 = 0 then b8_readMap_117 (r8_readMap n) n (nI N) (nI row) (nI across) (nI 0) (nI sg) (nI i) (nI (T i)) (-1) 0 1 X else some ((-1000 : Int32) * nI 1 - nI i, X)) else some ((-1000 : Int32) * nI 1 - nI i, X)) = some ((-1000 : Int32) * nI 1 - nI i, X) := by
      by_cases c2 : T i = 47
      · have : across = 0 := hs.resolve_right (fun e => e c2)
        subst this
        rw [if_pos (show nI (T i) = (47 : Int32) by rw [c2]; rfl), if_pos (by decide)]
      · rw [if_neg (fun e => by rw [show (47 : Int32) = nI 47 from rfl, nI_eq (by omega) (by decide)] at e; exact c2 e)]
    rw [tail, if_pos nI_0]
    by_cases c3 : T i < 50
    · rw [if_pos (show nI (T i) < (50 : Int32) from nI_lt (b := 50) c3 (by decide))]
    · rw [if_neg (show ¬ nI (T i) < (50 : Int32) from nI_nlt (b := 50) (by omega) (by omega)), if_pos (show (57 : Int32) < nI (T i) from nI_lt (a := 57) (by omega) (by omega))]
  · have n0 : ¬ nI many = 0 := nI_ne0 (by omega) (by omega)
    simp only [n0, if_false]
    split
    · split <;> rfl
    · rfl
/-- the places of a sign are written -/
theorem mx_write {k e : Nat} (he : e ≤ 12) (hr : row < 8) : ∀ (d a n : Nat) (X : Mem), a + d = e → d < n → ∃ X', r8_readMap n 199 [nI N, nI row, nI a, nI sg, nI i, nI k, nI e] [] X = r8_readMap (n - d - 1) 22 [nI N, nI row, nI e, nI 0, nI sg, nI (i + 1)] [] X' ∧ (∀ j, X'.1 5 j = if 12 * row + a ≤ j ∧ j < 12 * row + e then nI k else X.1 5 j) ∧ ∀ c, c ≠ 5 → X'.1 c = X.1 c ∧ X'.2 c = X.2 c := by
  intro d
  induction d with
  | zero =>
    intro a n X h1 h2
    obtain ⟨n, rfl⟩ : ∃ n', n = n' + 1 := ⟨n - 1, by omega⟩
    have : a = e := by omega
    subst this
    rw [e8_readMap_199]
    unfold b8_readMap_199 b8_readMap_229
    rw [if_pos (Int32.le_refl _), lt_v, nI_1, nI_0]
    exact ⟨X, rfl, fun j => by rw [if_neg (by omega)], fun _ _ => ⟨rfl, rfl⟩⟩
  | succ d ih =>
    intro a n X h1 h2
    obtain ⟨n, rfl⟩ : ∃ n', n = n' + 1 := ⟨n - 1, by omega⟩
    rw [e8_readMap_199]
    unfold b8_readMap_199
    rw [if_neg (nI_ge (show a < e by omega) (by omega)), show nI row * (12 : Int32) + nI a = nI (12 * row + a) by rw [show (12 : Int32) = nI 12 from rfl, pk_mul, nI_add, Nat.mul_comm], chk_in (by omega) (by decide), lt_v, lt_v, nI_1, nI_clamp (by omega)]
    obtain ⟨X', a1, a2, a3⟩ := ih (a + 1) n (wI X 5 (12 * row + a) (nI k)) (by omega) (by omega)
    refine ⟨X', by rw [a1]; congr 1; omega, fun j => ?_, fun c hc => ⟨(a3 c hc).1.trans (wI_o c hc).1, (a3 c hc).2.trans (wI_o c hc).2⟩⟩
    rw [a2 j, wI_at, if_pos rfl]
    by_cases q : j = 12 * row + a
    · rw [if_neg (by omega), if_pos q, if_pos (by omega)]
    · rw [if_neg q]
      by_cases q2 : 12 * row + (a + 1) ≤ j ∧ j < 12 * row + e
      · rw [if_pos q2, if_pos (by omega)]
      · rw [if_neg q2, if_neg (by omega)]
end MX
