/-! NOTES -/
def VX (T : Nat → Nat) (N i w : Nat) (X : Mem) : Prop := TT1 T N X ∧ X.1 25 4 = nI i ∧ X.1 25 3 = nI w
def VY (T : Nat → Nat) (N i w l : Nat) (Y : Mem) : Prop := (∀ j, j < N → Y.1 8 j &&& 255 = nI (T j)) ∧ Y.1 0 12 = nI i ∧ Y.1 0 13 = nI N ∧ Y.1 0 6 = nI w ∧ Y.1 0 36 = nI l
def dgt (c : Nat) : Bool := decide (48 ≤ c) && decide (c ≤ 57)
theorem digit_X {n c : Nat} {X : Mem} (hc : c < 256) : f11_isDigit n (nI c) X = some (if dgt c = true then 1 else 0, X) := by
  unfold f11_isDigit b11_isDigit_0 b11_isDigit_16
  by_cases h1 : c < 48
  · rw [if_pos (show nI c < (48 : Int32) from nI_lt (b := 48) h1 (by decide)), if_neg]
    simp only [dgt, Bool.and_eq_true, decide_eq_true_eq]; omega
  · rw [if_neg (show ¬ nI c < (48 : Int32) from nI_nlt (b := 48) (by omega) (by omega))]
    by_cases h2 : c ≤ 57
    · rw [if_neg (show ¬ (57 : Int32) < nI c from nI_nlt (a := 57) h2 (by decide)), if_pos]
      simp only [dgt, Bool.and_eq_true, decide_eq_true_eq]; omega
    · rw [if_pos (show (57 : Int32) < nI c from nI_lt (a := 57) (by omega) (by omega)), if_neg]
      simp only [dgt, Bool.and_eq_true, decide_eq_true_eq]; omega
theorem digit_m1 {n : Nat} {X : Mem} : f11_isDigit n (-1) X = some (0, X) := rfl
theorem digit_Y {n N i : Nat} {T : Nat → Nat} {Y : Mem} (hN : N ≤ 260) (hT : ∀ j, j < N → T j < 256) (h8 : ∀ j, j < N → Y.1 8 j &&& 255 = nI (T j)) (h12 : Y.1 0 12 = nI i) (h13 : Y.1 0 13 = nI N) (hi : i ≤ N) : f12_isDigit n Y = some (if i < N ∧ dgt (T i) = true then 1 else 0, Y) := by
  have hh := here_e (n := n) hN h8 h12 h13 hi
  unfold f12_isDigit b12_isDigit_0 b12_isDigit_22
  rw [bnd_e hh]
  by_cases c : i < N
  · have hc := hT i c
    rw [if_pos c] at hh ⊢
    by_cases h1 : T i < 48
    · rw [if_pos (show nI (T i) < (48 : Int32) from nI_lt (b := 48) h1 (by decide)), if_neg]
      simp only [dgt, Bool.and_eq_true, decide_eq_true_eq]; omega
    · rw [if_neg (show ¬ nI (T i) < (48 : Int32) from nI_nlt (b := 48) (by omega) (by omega)), bnd_e hh]
      by_cases h2 : T i ≤ 57
      · rw [if_neg (show ¬ (57 : Int32) < nI (T i) from nI_nlt (a := 57) h2 (by decide)), if_pos]
        simp only [dgt, Bool.and_eq_true, decide_eq_true_eq]; omega
      · rw [if_pos (show (57 : Int32) < nI (T i) from nI_lt (a := 57) (by omega) (by omega)), if_neg]
        simp only [dgt, Bool.and_eq_true, decide_eq_true_eq]; omega
  · rw [if_neg c, if_pos (by decide), if_neg (fun e => c e.1)]
/-- the sign of a FAULT -/
theorem fault_neg {k i : Nat} (hk : 1 ≤ k) (hk2 : k ≤ 9) (hi : i ≤ 260) : ¬ 0 ≤ (-1000 : Int32) * nI k - nI i ∧ ¬ (-1000 : Int32) * nI k - nI i = 0 := by
  have hm : ((-1000 : Int32) * nI k).toInt = -1000 * (k : Int) := by
    rw [fb_mulI] <;> rw [show (-1000 : Int32).toInt = -1000 by decide, nI_toInt (by omega)] <;> omega
  have hv : ((-1000 : Int32) * nI k - nI i).toInt = -1000 * (k : Int) - i := by
    rw [fb_subI] <;> rw [hm, nI_toInt (by omega)] <;> omega
  refine ⟨fun e => ?_, fun e => ?_⟩
  · rw [fa_le, hv, show (0 : Int32).toInt = 0 by decide] at e; omega
  · rw [fa_eq, hv, show (0 : Int32).toInt = 0 by decide] at e; omega
def Flt (v : Int32) : Prop := ¬ 0 ≤ v ∧ ¬ v = 0
section HR
variable {T : Nat → Nat} {N st i w l h n : Nat} {X Y : Mem}
theorem xh_stop (hX : VX T N i w X) (hi : i ≤ N) (hc : ¬ (i < N ∧ dgt (T i) = true)) : r9_readHour (n + 1) 8 [nI N, nI st, nI h] [] X = if nI i = nI st then some ((-1000 : Int32) * nI 1 - nI i, X) else if nI h < 24 then some (nI h, X) else some ((-1000 : Int32) * nI 3 - nI st, X) := by
  obtain ⟨x1, x2, x3⟩ := hX
  have hN := x1.1
  rw [e9_readHour_8]
  unfold b9_readHour_8 b9_readHour_83
  rw [x2]
  have fin : ∀ X0 : Mem, X0.1 25 4 = nI i → (if X0.1 25 4 = nI st then bnd (f11_faultAt n 1 (X0.1 25 4) X0) fun r24 M25 => some (r24, M25) else if nI h < 24 then some (nI h, X0) else bnd (f11_faultAt n 3 (nI st) X0) fun r21 M22 => some (r21, M22)) = if nI i = nI st then some ((-1000 : Int32) * nI 1 - nI i, X0) else if nI h < 24 then some (nI h, X0) else some ((-1000 : Int32) * nI 3 - nI st, X0) := fun X0 e => by
    rw [e]
    rfl
  by_cases c0 : i < N
  · have c1 : ¬ dgt (T i) = true := fun e => hc ⟨c0, e⟩
    have hd := digit_X (n := n) (X := X) (x1.2 i c0).1
    rw [if_neg c1] at hd
    rw [if_neg (nI_ge c0 (by omega)), bnd_e (at_X x1 c0), bnd_e hd, if_pos rfl]
    exact fin X x2
  · rw [if_pos (nI_le (by omega) (by omega))]
    rw [← x2]
    have := fin X x2
    rw [x2] at this ⊢
    exact this
theorem xh_two (hX : VX T N i w X) (hi : i < N) (hc : dgt (T i) = true) (he : i = st + 2) : r9_readHour (n + 1) 8 [nI N, nI st, nI h] [] X = some ((-1000 : Int32) * nI 2 - nI i, X) := by
  obtain ⟨x1, x2, x3⟩ := hX
  have hN := x1.1
  have hd := digit_X (n := n) (X := X) (x1.2 i hi).1
  rw [if_pos hc] at hd
  rw [e9_readHour_8]
  unfold b9_readHour_8
  rw [x2, if_neg (nI_ge hi (by omega)), bnd_e (at_X x1 hi), bnd_e hd, if_neg (by decide), x2, show nI st + (2 : Int32) = nI (st + 2) from nI_add st 2, if_pos (by rw [he])]
  rfl
theorem xh_go (hX : VX T N i w X) (hi : i < N) (hc : dgt (T i) = true) (he : i ≠ st + 2) (hst : st ≤ 260) : r9_readHour (n + 1) 8 [nI N, nI st, nI h] [] X = r9_readHour n 8 [nI N, nI st, nI (10 * h + (T i - 48))] [] (wI X 25 4 (nI (i + 1))) := by
  obtain ⟨x1, x2, x3⟩ := hX
  have hN := x1.1
  have hd := digit_X (n := n) (X := X) (x1.2 i hi).1
  rw [if_pos hc] at hd
  have hc1 := hc
  simp only [dgt, Bool.and_eq_true, decide_eq_true_eq] at hc1
  rw [e9_readHour_8]
  unfold b9_readHour_8
  rw [x2, if_neg (nI_ge hi (by omega)), bnd_e (at_X x1 hi), bnd_e hd, if_neg (by decide), x2, show nI st + (2 : Int32) = nI (st + 2) from nI_add st 2, if_neg (fun e => by rw [nI_eq (by omega) (by omega)] at e; exact he e), bnd_e (at_X x1 hi), lt_v, lt_v, x2, nI_1, show (10 : Int32) * nI h + nI (T i) - (48 : Int32) = nI (10 * h + (T i - 48)) by
    rw [show (10 : Int32) = nI 10 from rfl, pk_mul, nI_add, show (48 : Int32) = nI 48 from rfl, pk_sub (by omega)]
    congr 1
    omega]
theorem yh_stop (hN : N ≤ 260) (hT : ∀ j, j < N → T j < 256) (hY : VY T N i w l Y) (hi : i ≤ N) (hc : ¬ (i < N ∧ dgt (T i) = true)) (h15 : Y.1 0 15 = nI h) : r12_readsHour (n + 1) 27 [nI st] [] Y = if nI h < 24 then some (1, Y) else some (0, wI Y 0 14 ((-1000 : Int32) * nI 3 - nI st)) := by
  obtain ⟨y1, y2, y3, y4, y5⟩ := hY
  have hdy := digit_Y (n := n) hN hT y1 y2 y3 hi
  rw [if_neg hc] at hdy
  rw [e12_readsHour_27]
  unfold b12_readsHour_27 b12_readsHour_104
  rw [bnd_e hdy, if_pos rfl, h15]
  by_cases c : nI h < (24 : Int32)
  · rw [if_pos c, if_pos c]
  · rw [if_neg c, if_neg c, wrong_e, bnd_s', if_pos rfl]
    rfl
theorem yh_two (hN : N ≤ 260) (hT : ∀ j, j < N → T j < 256) (hY : VY T N i w l Y) (hi : i < N) (hc : dgt (T i) = true) (he : i = st + 2) : r12_readsHour (n + 1) 27 [nI st] [] Y = some (0, wI Y 0 14 ((-1000 : Int32) * nI 2 - nI i)) := by
  obtain ⟨y1, y2, y3, y4, y5⟩ := hY
  have hdy := digit_Y (n := n) hN hT y1 y2 y3 (by omega : i ≤ N)
  rw [if_pos ⟨hi, hc⟩] at hdy
  rw [e12_readsHour_27]
  unfold b12_readsHour_27
  rw [bnd_e hdy, if_neg (by decide), y2, show nI st + (2 : Int32) = nI (st + 2) from nI_add st 2, if_pos (by rw [he]), wrong_e, bnd_s', chk_t (by decide)]
  rfl
theorem yh_go (hN : N ≤ 260) (hT : ∀ j, j < N → T j < 256) (hY : VY T N i w l Y) (hi : i < N) (hc : dgt (T i) = true) (he : i ≠ st + 2) (hst : st ≤ 260) (h15 : Y.1 0 15 = nI h) : r12_readsHour (n + 1) 27 [nI st] [] Y = r12_readsHour n 27 [nI st] [] (wI (wI Y 0 15 (nI (10 * h + (T i - 48)))) 0 12 (nI (i + 1))) := by
  obtain ⟨y1, y2, y3, y4, y5⟩ := hY
  have hdy := digit_Y (n := n) hN hT y1 y2 y3 (by omega : i ≤ N)
  rw [if_pos ⟨hi, hc⟩] at hdy
  have hh2 := here_e (n := n) hN y1 y2 y3 (by omega : i ≤ N)
  rw [if_pos hi] at hh2
  have hc1 := hc
  simp only [dgt, Bool.and_eq_true, decide_eq_true_eq] at hc1
  have hTi := hT i hi
  rw [e12_readsHour_27]
  unfold b12_readsHour_27
  rw [bnd_e hdy, if_neg (by decide), y2, show nI st + (2 : Int32) = nI (st + 2) from nI_add st 2, if_neg (fun e => by rw [nI_eq (by omega) (by omega)] at e; exact he e), bnd_e hh2, lt_v, lt_v, h15, show (10 : Int32) * nI h + nI (T i) - (48 : Int32) = nI (10 * h + (T i - 48)) by
    rw [show (10 : Int32) = nI 10 from rfl, pk_mul, nI_add, show (48 : Int32) = nI 48 from rfl, pk_sub (by omega)]
    congr 1
    omega]
  rw [show (wI Y 0 15 (nI (10 * h + (T i - 48)))).1 0 12 = nI i from y2, nI_1]
end HR
theorem hour_loop {T : Nat → Nat} {N st w l : Nat} (hN : N ≤ 260) : ∀ (d k h n n2 : Nat) (X Y : Mem), k + d = 2 → d + 10 < n → d + 10 < n2 → VX T N (st + k) w X → VY T N (st + k) w l Y → st + k ≤ N → h < 10 ^ k → Y.1 0 15 = nI h → (k = 0 → st < N ∧ dgt (T st) = true) → (∃ v X' Y', r9_readHour n 8 [nI N, nI st, nI h] [] X = some (v, X') ∧ r12_readsHour n2 27 [nI st] [] Y = some (0, Y') ∧ Y'.1 0 14 = v ∧ Flt v) ∨ ∃ h' i' X' Y', r9_readHour n 8 [nI N, nI st, nI h] [] X = some (nI h', X') ∧ r12_readsHour n2 27 [nI st] [] Y = some (1, Y') ∧ h' < 24 ∧ i' ≤ N ∧ VX T N i' w X' ∧ VY T N i' w l Y' ∧ Y'.1 0 15 = nI h' := by
  intro d
  have stop : ∀ (k h n n2 : Nat) (X Y : Mem), 0 < k → h < 100 → VX T N (st + k) w X → VY T N (st + k) w l Y → st + k ≤ N → Y.1 0 15 = nI h → ¬ (st + k < N ∧ dgt (T (st + k)) = true) → (∃ v X' Y', r9_readHour (n + 1) 8 [nI N, nI st, nI h] [] X = some (v, X') ∧ r12_readsHour (n2 + 1) 27 [nI st] [] Y = some (0, Y') ∧ Y'.1 0 14 = v ∧ Flt v) ∨ ∃ h' i' X' Y', r9_readHour (n + 1) 8 [nI N, nI st, nI h] [] X = some (nI h', X') ∧ r12_readsHour (n2 + 1) 27 [nI st] [] Y = some (1, Y') ∧ h' < 24 ∧ i' ≤ N ∧ VX T N i' w X' ∧ VY T N i' w l Y' ∧ Y'.1 0 15 = nI h' := by
    intro k h n n2 X Y hk hh hX hY hi h15 c
    have ex := xh_stop (st := st) (h := h) (n := n) hX hi c
    have ey := yh_stop (st := st) (n := n2) hN (fun j hj => (hX.1.2 j hj).1) hY hi c h15
    rw [if_neg (fun e => by rw [nI_eq (by omega) (by omega)] at e; omega)] at ex
    by_cases c2 : h < 24
    · rw [if_pos (show nI h < (24 : Int32) from nI_lt (b := 24) c2 (by decide))] at ex ey
      exact Or.inr ⟨h, st + k, X, Y, ex, ey, c2, hi, hX, hY, h15⟩
    · rw [if_neg (show ¬ nI h < (24 : Int32) from nI_nlt (b := 24) (by omega) (by omega))] at ex ey
      exact Or.inl ⟨_, X, _, ex, ey, rfl, fault_neg (by decide) (by decide) (by omega)⟩
  induction d with
  | zero =>
    intro k h n n2 X Y hd hn hn2 hX hY hi hh h15 hk
    obtain ⟨n, rfl⟩ : ∃ n', n = n' + 1 := ⟨n - 1, by omega⟩
    obtain ⟨n2, rfl⟩ : ∃ n', n2 = n' + 1 := ⟨n2 - 1, by omega⟩
    have : k = 2 := by omega
    subst this
    by_cases c : st + 2 < N ∧ dgt (T (st + 2)) = true
    · exact Or.inl ⟨_, X, _, xh_two hX c.1 c.2 rfl, yh_two hN (fun j hj => (hX.1.2 j hj).1) hY c.1 c.2 rfl, rfl, fault_neg (by decide) (by decide) (by omega)⟩
    · exact stop 2 h n n2 X Y (by decide) hh hX hY hi h15 c
  | succ d ih =>
    intro k h n n2 X Y hd hn hn2 hX hY hi hh h15 hk
    obtain ⟨n, rfl⟩ : ∃ n', n = n' + 1 := ⟨n - 1, by omega⟩
    obtain ⟨n2, rfl⟩ : ∃ n', n2 = n' + 1 := ⟨n2 - 1, by omega⟩
    have hk1 : k ≤ 1 := by omega
    have hh10 : h < 10 := Nat.lt_of_lt_of_le hh (Nat.le_trans (Nat.pow_le_pow_right (by decide) hk1) (by decide))
    by_cases c : st + k < N ∧ dgt (T (st + k)) = true
    · obtain ⟨c0, c1⟩ := c
      have hc1 := c1
      simp only [dgt, Bool.and_eq_true, decide_eq_true_eq] at hc1
      rw [xh_go hX c0 c1 (by omega) (by omega), yh_go hN (fun j hj => (hX.1.2 j hj).1) hY c0 c1 (by omega) (by omega) h15]
      exact ih (k + 1) (10 * h + (T (st + k) - 48)) n n2 (wI X 25 4 (nI (st + k + 1))) (wI (wI Y 0 15 (nI (10 * h + (T (st + k) - 48)))) 0 12 (nI (st + k + 1))) (by omega) (by omega) (by omega) ⟨hX.1, rfl, hX.2.2⟩ ⟨hY.1, rfl, hY.2.2⟩ (by omega) (by
        rw [Nat.pow_succ]
        have : 0 < 10 ^ k := Nat.pow_pos (by decide)
        omega) rfl (fun e => by omega)
    · have hk0 : k ≠ 0 := fun e => c (by have := hk e; rw [e]; exact this)
      exact stop k h n n2 X Y (by omega) (by omega) hX hY hi h15 c
theorem hour_XY {T : Nat → Nat} {N i w l n n2 : Nat} {X Y : Mem} (hN : N ≤ 260) (hn : 100 ≤ n) (hn2 : 100 ≤ n2) (hX : VX T N i w X) (hY : VY T N i w l Y) (hi : i ≤ N) : (∃ v X' Y', f9_readHour n (nI N) X = some (v, X') ∧ f12_readsHour n2 Y = some (0, Y') ∧ Y'.1 0 14 = v ∧ Flt v) ∨ ∃ h' i' X' Y', f9_readHour n (nI N) X = some (nI h', X') ∧ f12_readsHour n2 Y = some (1, Y') ∧ h' < 24 ∧ i' ≤ N ∧ VX T N i' w X' ∧ VY T N i' w l Y' ∧ Y'.1 0 15 = nI h' := by
  have ex : f9_readHour n (nI N) X = r9_readHour (n + 1) 8 [nI N, nI i, nI 0] [] X := by
    unfold f9_readHour b9_readHour_0
    rw [lt_v, hX.2.1, e9_readHour_8, nI_0]
  have hdy := digit_Y (n := n2) hN (fun j hj => (hX.1.2 j hj).1) hY.1 hY.2.1 hY.2.2.1 hi
  by_cases c : i < N ∧ dgt (T i) = true
  · rw [if_pos c] at hdy
    have ey : f12_readsHour n2 Y = r12_readsHour (n2 + 1) 27 [nI i] [] (wI Y 0 15 0) := by
      unfold f12_readsHour b12_readsHour_0
      rw [lt_v, bnd_e hdy, if_neg (by decide), lt_v, hY.2.1, e12_readsHour_27]
    rw [ex, ey]
    exact hour_loop (T := T) (st := i) (w := w) (l := l) hN 2 0 0 (n + 1) (n2 + 1) X (wI Y 0 15 0) (by omega) (by omega) (by omega) hX ⟨hY.1, hY.2.1, hY.2.2.1, hY.2.2.2.1, hY.2.2.2.2⟩ hi (by decide) rfl (fun _ => c)
  · rw [if_neg c] at hdy
    left
    refine ⟨(-1000 : Int32) * nI 1 - nI i, X, wI Y 0 14 ((-1000 : Int32) * nI 1 - nI i), ?_, ?_, rfl, fault_neg (by decide) (by decide) (by omega)⟩
    · rw [ex, xh_stop hX hi c, if_pos rfl]
    · unfold f12_readsHour b12_readsHour_0
      rw [lt_v, bnd_e hdy, if_pos rfl, wrong_e, bnd_s', chk_t (by decide), hY.2.1]
      rfl
