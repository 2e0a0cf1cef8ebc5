/-! NOTES: lines -/
def flM (a b : Int32) : Int32 := if 0 ≤ (a ^^^ b) then a - a / b * b else if a - a / b * b = 0 then a - a / b * b else a - a / b * b + b
theorem floor_e (n : Nat) (a : Int32) (M : Mem) : fZJ9_floorMod_7cf53 n a 24 M = some (flM a 24, M) := by
  unfold fZJ9_floorMod_7cf53 bZJ9_floorMod_7cf53_0 bZJ9_floorMod_7cf53_18 flM
  rw [chk_t (by decide), lt_v]
  by_cases c : 0 ≤ (a ^^^ 24)
  · rw [if_pos c, if_pos c]
  · rw [if_neg c, if_neg c]
    by_cases c2 : a - a / 24 * 24 = 0
    · rw [if_pos c2, if_pos c2]
    · rw [if_neg c2, if_neg c2]
theorem floor_n : ∀ a, a < 24 → ∀ b, b < 24 → flM (nI b - nI a) 24 = nI ((b + 24 - a) % 24) := by decide +kernel
theorem drop_none {v k : Nat} (h : v.testBit k = false) : nI v &&& (nI (2 ^ k) ^^^ (-1 : Int32)) = nI v := by
  refine b_ext fun i hi => ?_
  rw [b_and, b_xor, b_m1 i hi, bt_nI, bt_nI, Nat.testBit_two_pow]
  simp only [hi, decide_true, Bool.true_and, Bool.xor_true]
  by_cases c : k = i
  · rw [← c, h]; rfl
  · simp [c]
/-- one hour more -/
def mk1 (isW : Bool) (w j : Nat) : Nat := if isW = true then w ||| 2 ^ j else if w.testBit j = true then w ^^^ 2 ^ j else w
theorem mk1_lt {isW : Bool} {w j : Nat} (hw : w < 2 ^ 24) (hj : j < 24) : mk1 isW w j < 2 ^ 24 := by
  have hp : 2 ^ j < 2 ^ 24 := Nat.pow_lt_pow_right (by decide) hj
  unfold mk1
  split
  · exact Nat.or_lt_two_pow hw hp
  · split
    · exact Nat.xor_lt_two_pow hw hp
    · exact hw
theorem mk1_or {w j : Nat} (hj : j < 24) : nI w ||| (1 : Int32) <<< (nI j &&& 31) = nI (mk1 true w j) := by
  rw [shl1 (by omega), fa_or]; rfl
theorem mk1_and {w j : Nat} (hj : j < 24) : nI w &&& (((1 : Int32) <<< (nI j &&& 31)) ^^^ (-1 : Int32)) = nI (mk1 false w j) := by
  rw [shl1 (by omega)]
  unfold mk1
  rw [if_neg (by decide)]
  by_cases c : w.testBit j = true
  · rw [if_pos c, drop_bit (by omega) c]
  · rw [if_neg c, drop_none (ts_nt c)]
theorem mark_loop {T : Nat → Nat} {N i l a m : Nat} {isW : Bool} (ha : a < 24) (hm : m < 24) : ∀ (d k w n n2 : Nat) (X Y : Mem), k + d = m + 1 → d < n → d < n2 → w < 2 ^ 24 → VX T N i w X → VY T N i w l Y → ∃ w' X' Y', w' < 2 ^ 24 ∧ r9_mark n 15 [nI a, (if isW = true then 1 else 0), nI (m + 1), nI k] [] X = some ((), X') ∧ r12_readsNote n2 141 [nI a, (if isW = true then 45 else 63), nI m, nI k] [] Y = some (1, Y') ∧ VX T N i w' X' ∧ VY T N i w' l Y' := by
  intro d
  induction d with
  | zero =>
    intro k w n n2 X Y h1 h2 h2' hw hX hY
    obtain ⟨n, rfl⟩ : ∃ n', n = n' + 1 := ⟨n - 1, by omega⟩
    obtain ⟨n2, rfl⟩ : ∃ n', n2 = n' + 1 := ⟨n2 - 1, by omega⟩
    have : k = m + 1 := by omega
    subst this
    rw [e9_mark_15, e12_readsNote_141]
    unfold b9_mark_15 b12_readsNote_141
    rw [if_pos (Int32.le_refl _), if_pos (nI_lt (by omega) (by omega))]
    exact ⟨w, X, Y, hw, rfl, rfl, hX, hY⟩
  | succ d ih =>
    intro k w n n2 X Y h1 h2 h2' hw hX hY
    obtain ⟨n, rfl⟩ : ∃ n', n = n' + 1 := ⟨n - 1, by omega⟩
    obtain ⟨n2, rfl⟩ : ∃ n', n2 = n' + 1 := ⟨n2 - 1, by omega⟩
    have hj : (a + k) % 24 < 24 := by omega
    rw [e9_mark_15, e12_readsNote_141]
    unfold b9_mark_15 b12_readsNote_141 b9_mark_57 b12_readsNote_184
    rw [if_neg (nI_ge (by omega) (by omega)), if_neg (nI_nlt (by omega) (by omega)), nI_add, show nI (a + k) - nI (a + k) / (24 : Int32) * (24 : Int32) = nI ((a + k) % 24) from pk_rem (d := 24) (by omega) (by decide) (by decide), lt_v, lt_v, hX.2.2, hY.2.2.2.1]
    cases isW with
    | true =>
      rw [if_neg (by decide), if_pos (by decide), lt_v, lt_v, lt_v, lt_v, nI_1, mk1_or hj]
      exact ih (k + 1) _ n n2 _ _ (by omega) (by omega) (by omega) (mk1_lt hw hj) ⟨hX.1, hX.2.1, rfl⟩ ⟨hY.1, hY.2.1, hY.2.2.1, rfl, hY.2.2.2.2⟩
    | false =>
      rw [if_pos (by decide), if_neg (by decide), lt_v, lt_v, lt_v, lt_v, nI_1, mk1_and hj]
      exact ih (k + 1) _ n n2 _ _ (by omega) (by omega) (by omega) (mk1_lt hw hj) ⟨hX.1, hX.2.1, rfl⟩ ⟨hY.1, hY.2.1, hY.2.2.1, rfl, hY.2.2.2.2⟩
/-- the end of a line: its sign -/
theorem sign2_XY {T : Nat → Nat} {N i w l a b n n2 : Nat} {X Y : Mem} (hN : N ≤ 260) (hn : 100 ≤ n) (hn2 : 100 ≤ n2) (ha : a < 24) (hb : b < 24) (hw : w < 2 ^ 24) (hX : VX T N i w X) (hY : VY T N i w l Y) (h15 : Y.1 0 15 = nI b) (hi : i ≤ N) : (∃ v X' Y', b9_readLine_56 (fun _ _ _ _ => none) n (nI N) (nI a) (nI b) X = some (v, X') ∧ b12_readsNote_88 (r12_readsNote n2) n2 (nI a) Y = some (0, Y') ∧ Y'.1 0 14 = v ∧ Flt v) ∨ ∃ i' w' X' Y', b9_readLine_56 (fun _ _ _ _ => none) n (nI N) (nI a) (nI b) X = some (0, X') ∧ b12_readsNote_88 (r12_readsNote n2) n2 (nI a) Y = some (1, Y') ∧ i' ≤ N ∧ w' < 2 ^ 24 ∧ VX T N i' w' X' ∧ VY T N i' w' l Y' := by
  have hh := here_e (n := n2) hN hY.1 hY.2.1 hY.2.2.1 hi
  have wrong : (∃ c : Int32, f7_at n (nI i) (nI N) X = some (c, X) ∧ f12_here n2 Y = some (c, Y) ∧ ¬ c = 45 ∧ ¬ c = 63) → (∃ v X' Y', b9_readLine_56 (fun _ _ _ _ => none) n (nI N) (nI a) (nI b) X = some (v, X') ∧ b12_readsNote_88 (r12_readsNote n2) n2 (nI a) Y = some (0, Y') ∧ Y'.1 0 14 = v ∧ Flt v) := by
    rintro ⟨c, e1, e2, e3, e4⟩
    refine ⟨(-1000 : Int32) * nI 1 - nI i, X, wI Y 0 14 ((-1000 : Int32) * nI 1 - nI i), ?_, ?_, rfl, fault_neg (by decide) (by decide) (by omega)⟩
    · unfold b9_readLine_56
      rw [hX.2.1, bnd_e e1, if_neg e3, if_neg e4, hX.2.1]
      rfl
    · unfold b12_readsNote_88
      rw [bnd_e e2, if_neg e3, if_neg e4, wrong_e, bnd_s', chk_t (by decide), hY.2.1]
      rfl
  have good : ∀ isW : Bool, i < N → T i = (if isW = true then 45 else 63) → ∃ i' w' X' Y', b9_readLine_56 (fun _ _ _ _ => none) n (nI N) (nI a) (nI b) X = some (0, X') ∧ b12_readsNote_88 (r12_readsNote n2) n2 (nI a) Y = some (1, Y') ∧ i' ≤ N ∧ w' < 2 ^ 24 ∧ VX T N i' w' X' ∧ VY T N i' w' l Y' := by
    intro isW c0 hc
    rw [if_pos c0] at hh
    have hm : (b + 24 - a) % 24 < 24 := by omega
    obtain ⟨w', X', Y', r0, r1, r2, r3, r4⟩ := mark_loop (T := T) (N := N) (i := i + 1) (l := l) (isW := isW) ha hm ((b + 24 - a) % 24 + 1) 0 w (n + 1) (n2 + 1) (wI X 25 4 (nI (i + 1))) (wI Y 0 12 (nI (i + 1))) (by omega) (by omega) (by omega) hw ⟨hX.1, rfl, hX.2.2⟩ ⟨hY.1, rfl, hY.2.2⟩
    rw [nI_0, e9_mark_15] at r1
    rw [nI_0, e12_readsNote_141] at r2
    refine ⟨i + 1, w', X', Y', ?_, ?_, by omega, r0, r3, r4⟩
    · have mk : f9_mark n (nI a) (nI b) (if isW = true then 1 else 0) (wI X 25 4 (nI (i + 1))) = some ((), X') := by
        unfold f9_mark b9_mark_0
        rw [floor_e, bnd_s', floor_n a ha b hb, nI_1, lt_v]
        exact r1
      unfold b9_readLine_56 b9_readLine_90 b9_readLine_116
      rw [hX.2.1, bnd_e (at_X hX.1 c0), hc]
      cases isW with
      | true =>
        rw [if_pos (by decide), lt_v, hX.2.1, nI_1, if_pos (by decide), bnd_e (show f9_mark n (nI a) (nI b) 1 (wI X 25 4 (nI (i + 1))) = some ((), X') from mk)]
      | false =>
        rw [if_neg (by decide), if_pos (by decide), lt_v, hX.2.1, nI_1, if_neg (by decide), bnd_e (show f9_mark n (nI a) (nI b) 0 (wI X 25 4 (nI (i + 1))) = some ((), X') from mk)]
    · unfold b12_readsNote_88 b12_readsNote_115
      have e1 : nI b - nI a + (24 : Int32) - (nI b - nI a + (24 : Int32)) / (24 : Int32) * (24 : Int32) = nI ((b + 24 - a) % 24) := by
        have e2 : nI b - nI a + (24 : Int32) = nI (b + 24 - a) := by
          rw [show (24 : Int32) = nI 24 from rfl, Int32.sub_eq_add_neg, Int32.add_assoc, Int32.add_comm (-nI a), ← Int32.add_assoc, ← Int32.sub_eq_add_neg, nI_add, pk_sub (by omega)]
        rw [e2]
        exact pk_rem (d := 24) (by omega) (by decide) (by decide)
      rw [bnd_e hh, hc]
      cases isW with
      | true =>
        rw [if_pos (by decide), lt_v, hY.2.1, nI_1, lt_v, show (wI Y 0 12 (nI (i + 1))).1 0 15 = nI b from h15, e1]
        exact r2
      | false =>
        rw [if_neg (by decide), if_pos (by decide), lt_v, hY.2.1, nI_1, lt_v, show (wI Y 0 12 (nI (i + 1))).1 0 15 = nI b from h15, e1]
        exact r2
  by_cases c0 : i < N
  · have hTi := (hX.1.2 i c0).1
    by_cases c1 : T i = 45
    · exact Or.inr (good true c0 c1)
    · by_cases c2 : T i = 63
      · exact Or.inr (good false c0 c2)
      · rw [if_pos c0] at hh
        exact Or.inl (wrong ⟨nI (T i), at_X hX.1 c0, hh, fun e => c1 ((nI_eq (b := 45) (by omega) (by decide)).mp e), fun e => c2 ((nI_eq (b := 63) (by omega) (by decide)).mp e)⟩)
  · rw [if_neg c0] at hh
    have : i = N := by omega
    subst this
    exact Or.inl (wrong ⟨-1, at_end hX.1, hh, by decide, by decide⟩)
/-- a line -/
theorem line_XY {T : Nat → Nat} {N i w l n n2 : Nat} {X Y : Mem} (hN : N ≤ 260) (hn : 200 ≤ n) (hn2 : 200 ≤ n2) (hl : l < 24) (hw : w < 2 ^ 24) (hX : VX T N i w X) (hY : VY T N i w l Y) (hi : i ≤ N) : (∃ v X' Y', f9_readLine n (nI N) X = some (v, X') ∧ f12_readsNote n2 Y = some (0, Y') ∧ Y'.1 0 14 = v ∧ Flt v) ∨ ∃ i' w' X' Y', f9_readLine n (nI N) X = some (0, X') ∧ f12_readsNote n2 Y = some (1, Y') ∧ i' ≤ N ∧ w' < 2 ^ 24 ∧ VX T N i' w' X' ∧ VY T N i' w' (l + 1) Y' := by
  have hT := fun j hj => (hX.1.2 j hj).1
  have hdy := digit_Y (n := n2) hN hT hY.1 hY.2.1 hY.2.2.1 hi
  by_cases c : i < N ∧ dgt (T i) = true
  · rw [if_pos c] at hdy
    have hY1 : VY T N i w (l + 1) (wI Y 0 36 (nI (l + 1))) := ⟨hY.1, hY.2.1, hY.2.2.1, hY.2.2.2.1, rfl⟩
    have ey : f12_readsNote n2 Y = bnd (f12_readsHour n2 (wI Y 0 36 (nI (l + 1)))) fun r7 M8 => if r7 = 0 then some (0, M8) else lt (M8.1 0 15) fun v11 => bnd (f12_here n2 M8) fun r12 M13 => if r12 = (58 : Int32) then (lt (wI M13 0 12 ((M13.1 0 12) + (1 : Int32))) fun M16 => bnd (f12_readsHour n2 M16) fun r17 M18 => if r17 = 0 then some (0, M18) else b12_readsNote_88 (r12_readsNote n2) n2 v11 M18) else b12_readsNote_88 (r12_readsNote n2) n2 v11 M13 := by
      unfold f12_readsNote b12_readsNote_0
      rw [bnd_e hdy, if_neg (by decide), hY.2.2.2.2, if_neg (show ¬ nI l = (24 : Int32) from fun e => by rw [show (24 : Int32) = nI 24 from rfl, nI_eq (by omega) (by decide)] at e; omega), lt_v, nI_1]
    rcases hour_XY (n := n) (n2 := n2) hN (by omega) (by omega) hX hY1 hi with ⟨v, X', Y', g1, g2, g3, g4⟩ | ⟨a, i1, X1, Y1, g1, g2, g3, g4, g5, g6, g7⟩
    · left
      refine ⟨v, X', Y', ?_, ?_, g3, g4⟩
      · unfold f9_readLine b9_readLine_0
        rw [bnd_e g1, if_neg g4.1]
      · rw [ey, bnd_e g2, if_pos rfl]
    · have hh := here_e (n := n2) hN g6.1 g6.2.1 g6.2.2.1 g4
      by_cases c1 : i1 < N ∧ T i1 = 58
      · obtain ⟨c2, c3⟩ := c1
        rw [if_pos c2, c3] at hh
        have ex : f9_readLine n (nI N) X = bnd (f9_readHour n (nI N) (wI X1 25 4 (nI (i1 + 1)))) fun r10 M11 => if 0 ≤ r10 then b9_readLine_56 (fun _ _ _ _ => none) n (nI N) (nI a) r10 M11 else some (r10, M11) := by
          unfold f9_readLine b9_readLine_0
          rw [bnd_e g1, if_pos (nI_pos' (by omega)), g5.2.1, bnd_e (at_X g5.1 c2), c3, if_pos (by decide), lt_v, g5.2.1, nI_1]
        have ey2 : f12_readsNote n2 Y = bnd (f12_readsHour n2 (wI Y1 0 12 (nI (i1 + 1)))) fun r17 M18 => if r17 = 0 then some (0, M18) else b12_readsNote_88 (r12_readsNote n2) n2 (nI a) M18 := by
          rw [ey, bnd_e g2, if_neg (by decide), lt_v, g7, bnd_e hh, if_pos (by decide), lt_v, g6.2.1, nI_1]
        rcases hour_XY (n := n) (n2 := n2) (X := wI X1 25 4 (nI (i1 + 1))) (Y := wI Y1 0 12 (nI (i1 + 1))) hN (by omega) (by omega) ⟨g5.1, rfl, g5.2.2⟩ ⟨g6.1, rfl, g6.2.2⟩ (show i1 + 1 ≤ N by omega) with ⟨v, X', Y', q1, q2, q3, q4⟩ | ⟨b, i2, X2, Y2, q1, q2, q3, q4, q5, q6, q7⟩
        · left
          exact ⟨v, X', Y', by rw [ex, bnd_e q1, if_neg q4.1], by rw [ey2, bnd_e q2, if_pos rfl], q3, q4⟩
        · rw [ex, ey2, bnd_e q1, bnd_e q2, if_pos (nI_pos' (by omega)), if_neg (by decide)]
          exact sign2_XY hN (by omega) (by omega) g3 q3 hw q5 q6 q7 q4
      · have ex : f9_readLine n (nI N) X = b9_readLine_56 (fun _ _ _ _ => none) n (nI N) (nI a) (nI a) X1 := by
          unfold f9_readLine b9_readLine_0
          rw [bnd_e g1, if_pos (nI_pos' (by omega)), g5.2.1]
          by_cases c2 : i1 < N
          · have := (g5.1.2 i1 c2).1
            rw [bnd_e (at_X g5.1 c2), if_neg (show ¬ nI (T i1) = (58 : Int32) from fun e => c1 ⟨c2, (nI_eq (b := 58) (by omega) (by decide)).mp e⟩)]
          · have : i1 = N := by omega
            subst this
            rw [bnd_e (at_end g5.1), if_neg (by decide)]
        have ey2 : f12_readsNote n2 Y = b12_readsNote_88 (r12_readsNote n2) n2 (nI a) Y1 := by
          rw [ey, bnd_e g2, if_neg (by decide), lt_v, g7, bnd_e hh]
          by_cases c2 : i1 < N
          · have := (g5.1.2 i1 c2).1
            rw [if_pos c2, if_neg (show ¬ nI (T i1) = (58 : Int32) from fun e => c1 ⟨c2, (nI_eq (b := 58) (by omega) (by decide)).mp e⟩)]
          · rw [if_neg c2, if_neg (by decide)]
        rw [ex, ey2]
        exact sign2_XY hN (by omega) (by omega) g3 g3 hw g5 g6 g7 g4
  · rw [if_neg c] at hdy
    left
    refine ⟨(-1000 : Int32) * nI 1 - nI i, X, wI Y 0 14 ((-1000 : Int32) * nI 1 - nI i), ?_, ?_, rfl, fault_neg (by decide) (by decide) (by omega)⟩
    · have e1 : f9_readHour n (nI N) X = some ((-1000 : Int32) * nI 1 - nI i, X) := by
        unfold f9_readHour b9_readHour_0
        rw [lt_v, hX.2.1, show (0 : Int32) = nI 0 from nI_0.symm, ← e9_readHour_8, xh_stop hX hi c, if_pos rfl]
      unfold f9_readLine b9_readLine_0
      rw [bnd_e e1, if_neg (fault_neg (by decide) (by decide) (by omega)).1]
    · unfold f12_readsNote b12_readsNote_0
      rw [bnd_e hdy, if_pos rfl, wrong_e, bnd_s', chk_t (by decide), hY.2.1]
      rfl
theorem notesfault_Y {n : Nat} {Y : Mem} {h v : Int32} (e : Y.1 0 14 = v) : r12_notes (n + 1) 40 [h, 0] [] Y = some (v, wI (wI Y 0 11 0) 0 6 h) := by
  rw [e12_notes_40]
  unfold b12_notes_40 b12_notes_80
  rw [if_pos rfl, lt_v, if_pos rfl, lt_v]
  rw [show (wI (wI Y 0 11 0) 0 6 h).1 0 14 = v from e]
/-- line after line; l lines stand -/
theorem lines_loop {T : Nat → Nat} {N : Nat} {w0 : Int32} (hN : N ≤ 260) : ∀ (d l i w n n2 n3 : Nat) (X Y : Mem), l + d = 24 → d + 300 < n → d + 300 < n2 → d + 300 < n3 → w < 2 ^ 24 → VX T N i w X → VY T N i w l Y → i ≤ N → ∃ v X' Y', r9_read n 15 [nI N, nI (l + 1)] [] X = some (v, X') ∧ (bnd (f12_readsNote n2 Y) fun r20 M21 => if r20 = 0 then r12_notes n3 40 [w0, 0] [] M21 else r12_notes n3 40 [w0, 1] [] M21) = some (v, Y') ∧ Y'.1 0 11 = 0 ∧ ((Y'.1 0 6 = w0 ∧ X'.1 25 2 = X.1 25 2) ∨ ∃ w', w' < 2 ^ 24 ∧ Y'.1 0 6 = nI w' ∧ X'.1 25 2 = nI w') := by
  intro d
  induction d with
  | zero =>
    intro l i w n n2 n3 X Y h1 hn hn2 hn3 hw hX hY hi
    obtain ⟨n, rfl⟩ : ∃ n', n = n' + 1 := ⟨n - 1, by omega⟩
    obtain ⟨n3, rfl⟩ : ∃ n', n3 = n' + 1 := ⟨n3 - 1, by omega⟩
    have : l = 24 := by omega
    subst this
    have hT := fun j hj => (hX.1.2 j hj).1
    have hdy := digit_Y (n := n2) hN hT hY.1 hY.2.1 hY.2.2.1 hi
    have ex : ∀ k : Nat, (k = if i < N ∧ dgt (T i) = true then 4 else 1) → r9_read (n + 1) 15 [nI N, nI 25] [] X = some ((-1000 : Int32) * nI k - nI i, X) := by
      intro k hk
      rw [e9_read_15]
      unfold b9_read_15 b9_read_114
      rw [if_pos (by decide), hX.2.1]
      by_cases c0 : i < N
      · have hd := digit_X (n := n) (X := X) (hT i c0)
        rw [bnd_e (at_X hX.1 c0), bnd_e hd]
        by_cases c1 : dgt (T i) = true
        · rw [if_pos ⟨c0, c1⟩] at hk
          rw [if_pos c1, if_neg (by decide), hX.2.1, hk]
          rfl
        · rw [if_neg (fun e => c1 e.2)] at hk
          rw [if_neg c1, if_pos rfl, hX.2.1, hk]
          rfl
      · rw [if_neg (fun e => c0 e.1)] at hk
        have : i = N := by omega
        subst this
        rw [bnd_e (at_end hX.1), digit_m1, bnd_s', if_pos rfl, hX.2.1, hk]
        rfl
    by_cases c : i < N ∧ dgt (T i) = true
    · rw [if_pos c] at hdy
      have ex := ex 4 (by rw [if_pos c])
      have ey : f12_readsNote n2 Y = some (0, wI Y 0 14 ((-1000 : Int32) * nI 4 - nI i)) := by
        unfold f12_readsNote b12_readsNote_0
        rw [bnd_e hdy, if_neg (by decide), hY.2.2.2.2, if_pos (show nI 24 = (24 : Int32) from rfl), wrong_e, bnd_s', chk_t (by decide), hY.2.1]
        rfl
      exact ⟨_, X, _, ex, by rw [bnd_e ey, if_pos rfl]; exact notesfault_Y rfl, rfl, Or.inl ⟨rfl, rfl⟩⟩
    · rw [if_neg c] at hdy
      have ex := ex 1 (by rw [if_neg c])
      have ey : f12_readsNote n2 Y = some (0, wI Y 0 14 ((-1000 : Int32) * nI 1 - nI i)) := by
        unfold f12_readsNote b12_readsNote_0
        rw [bnd_e hdy, if_pos rfl, wrong_e, bnd_s', chk_t (by decide), hY.2.1]
        rfl
      exact ⟨_, X, _, ex, by rw [bnd_e ey, if_pos rfl]; exact notesfault_Y rfl, rfl, Or.inl ⟨rfl, rfl⟩⟩
  | succ d ih =>
    intro l i w n n2 n3 X Y h1 hn hn2 hn3 hw hX hY hi
    obtain ⟨n, rfl⟩ : ∃ n', n = n' + 1 := ⟨n - 1, by omega⟩
    obtain ⟨n3, rfl⟩ : ∃ n', n3 = n' + 1 := ⟨n3 - 1, by omega⟩
    rw [e9_read_15]
    unfold b9_read_15
    rw [if_neg (show ¬ (24 : Int32) < nI (l + 1) from nI_nlt (a := 24) (by omega) (by decide))]
    rcases line_XY (n := n) (n2 := n2) hN (by omega) (by omega) (show l < 24 by omega) hw hX hY hi with ⟨v, X', Y', g1, g2, g3, g4⟩ | ⟨i1, w1, X1, Y1, g1, g2, g3, g4, g5, g6⟩
    · have q := fq9_readLine g1
      exact ⟨v, X', _, by rw [bnd_e g1, if_neg g4.2], by rw [bnd_e g2, if_pos rfl]; exact notesfault_Y g3, rfl, Or.inl ⟨rfl, q 25 2 (by decide) (by decide)⟩⟩
    · have q := fq9_readLine g1
      rw [bnd_e g1, if_pos rfl, bnd_e g2, if_neg (show ¬ (1 : Int32) = 0 by decide), g5.2.1, e12_notes_40]
      unfold b12_notes_40 b12_notes_80 b12_notes_75 b12_notes_76
      rw [if_neg (show ¬ (1 : Int32) = 0 by decide), g6.2.1, g6.2.2.1]
      by_cases c0 : i1 < N
      · rw [if_pos (nI_lt c0 (by omega)), if_neg (nI_ge c0 (by omega)), bnd_e (at_X g5.1 c0)]
        have hh := here_e (n := n3) hN g6.1 g6.2.1 g6.2.2.1 g3
        rw [if_pos c0] at hh
        have hTi := (g5.1.2 i1 c0).1
        unfold f12_takes b12_takes_0
        rw [bnd_e hh]
        by_cases c1 : T i1 = 59
        · rw [if_pos (show nI (T i1) = (59 : Int32) by rw [c1]; rfl), lt_v, lt_v, g5.2.1, nI_1, if_pos (show nI (T i1) = (59 : Int32) by rw [c1]; rfl), lt_v, g6.2.1, nI_1, bnd_s', if_neg (by decide)]
          obtain ⟨v, X', Y', r1, r2, r3, r4⟩ := ih (l + 1) (i1 + 1) w1 n n3 n3 (wI X1 25 4 (nI (i1 + 1))) (wI Y1 0 12 (nI (i1 + 1))) (by omega) (by omega) (by omega) (by omega) g4 ⟨g5.1, rfl, g5.2.2⟩ ⟨g6.1, rfl, g6.2.2⟩ (by omega)
          refine ⟨v, X', Y', ?_, r2, r3, r4.imp (fun ⟨a, b⟩ => ⟨a, b.trans (q 25 2 (by decide) (by decide))⟩) id⟩
          rw [show l + 1 + 1 = l + 1 + 1 from rfl] at r1
          exact r1
        · rw [if_neg (show ¬ nI (T i1) = (59 : Int32) from fun e => c1 ((nI_eq (b := 59) (by omega) (by decide)).mp e)), if_neg (show ¬ nI (T i1) = (59 : Int32) from fun e => c1 ((nI_eq (b := 59) (by omega) (by decide)).mp e)), wrong_e, bnd_s', chk_t (by decide), bnd_s', if_pos rfl, g5.2.1, g6.2.1]
          obtain ⟨n3, rfl⟩ : ∃ n', n3 = n' + 1 := ⟨n3 - 1, by omega⟩
          exact ⟨(-1000 : Int32) * nI 1 - nI i1, X1, _, rfl, notesfault_Y rfl, rfl, Or.inl ⟨rfl, q 25 2 (by decide) (by decide)⟩⟩
      · rw [if_neg (nI_nlt (by omega) (by omega)), if_pos (nI_le (by omega) (by omega)), lt_v, lt_v, if_neg (show ¬ (1 : Int32) = 0 by decide)]
        refine ⟨nI (l + 1), _, wI Y1 0 11 0, rfl, ?_, rfl, Or.inr ⟨w1, g4, ?_, ?_⟩⟩
        · rw [show (wI Y1 0 11 0).1 0 36 = nI (l + 1) from g6.2.2.2.2]
        · exact g6.2.2.2.1
        · rw [wI_at, if_pos rfl, if_pos rfl]; exact g5.2.2
/-- PROMISE 7: notes -/
theorem st_notes {Rs : Nat → Mem → Mem → Prop} (hR : RsOk Rs) {FU : Nat} (hFU : 10000000 ≤ FU) (t : Nat) (Mx My : Mem) (a0 : Int32) (ht : t < 3072) (h : InvOf Rs t Mx My) : ∃ (r : Int32) (Mx' My' : Mem), f11_notes FU a0 Mx = some (r, Mx') ∧ f12_notes FU a0 My = some (r, My') ∧ InvOf Rs (t + 6) Mx' My' := by
  have h0 := h
  obtain ⟨h1, ⟨n, b1, b2, b3, b4⟩, ⟨w1, w, w2, w3⟩, h5⟩ := h
  by_cases g : a0 < 1 ∨ 90 < a0 ∨ nI n < a0
  · refine ⟨-1, Mx, My, ?_, ?_, h0.same hR⟩
    · unfold f11_notes b11_notes_0
      rw [canGive_e, bnd_s', b2, if_pos g, if_pos rfl]
    · unfold f12_notes b12_notes_0 b12_notes_18
      rw [in_e, bnd_s', b3]
      by_cases g1 : a0 < 1 ∨ 90 < a0
      · rw [if_pos g1, if_pos rfl]
      · rw [if_neg g1, if_neg (by decide), if_neg]
        intro e
        rcases g with g | g | g
        · exact g1 (Or.inl g)
        · exact g1 (Or.inr g)
        · exact Int32.lt_irrefl (Int32.lt_of_le_of_lt e g)
  · have g3 : ¬ a0 < 1 := fun e => g (Or.inl e)
    have g4 : ¬ 90 < a0 := fun e => g (Or.inr (Or.inl e))
    have g5 : ¬ nI n < a0 := fun e => g (Or.inr (Or.inr e))
    obtain ⟨N, hN, rfl⟩ : ∃ m : Nat, m ≤ 90 ∧ a0 = nI m := by
      have c0 : ¬ a0 < 0 := fun e => g3 (Int32.lt_trans e (by decide))
      obtain ⟨k, hk, rfl⟩ := nI_of c0
      exact ⟨k, Nat.le_of_not_lt fun e => g4 (nI_lt (a := 90) e hk), rfl⟩
    obtain ⟨T, hT, hT8⟩ := tape_T b4 (show N ≤ 260 by omega)
    obtain ⟨v, X', Y', r1, r2, r3, r4⟩ := lines_loop (T := T) (N := N) (w0 := My.1 0 6) (by omega) 24 0 0 w (FU + 1) FU (FU + 1) (wI (wI Mx 25 3 (nI w)) 25 4 0) (wI (wI (wI (wI (wI My 0 12 0) 0 13 (nI N)) 0 17 0) 0 19 0) 0 36 0) (by omega) (by omega) (by omega) (by omega) w2 ⟨hT, rfl, rfl⟩ ⟨hT8, rfl, rfl, by show My.1 0 6 = _; rw [← w1]; exact w3, rfl⟩ (by omega)
    rw [e9_read_15] at r1
    have x1 : f9_read FU (nI N) Mx = some (v, X') := by
      unfold f9_read b9_read_0
      rw [lt_v, lt_v, w3]
      exact r1
    have x : f11_notes FU (nI N) Mx = some (v, wI X' 1 1 0) := by
      unfold f11_notes b11_notes_0
      rw [canGive_e, bnd_s', b2, if_neg g, if_neg (by decide), bnd_e x1, lt_v]
    have y : f12_notes FU (nI N) My = some (v, Y') := by
      unfold f12_notes b12_notes_0 f12_beginsText b12_beginsText_0
      rw [in_e, bnd_s', b3, if_neg (show ¬ (nI N < 1 ∨ 90 < nI N) from fun e => e.elim g3 g4), if_neg (by decide), if_pos (Int32.not_lt.mp g5)]
      simp only [lt_v]
      rw [bnd_s', ← r2]
      rw [show (wI (wI (wI (wI (wI My 0 12 0) 0 13 (nI N)) 0 17 0) 0 19 0) 0 36 0).1 0 6 = My.1 0 6 from rfl]
      rcases line_XY (T := T) (N := N) (i := 0) (w := w) (l := 0) (n := FU) (n2 := FU) (X := wI (wI Mx 25 3 (nI w)) 25 4 0) (Y := wI (wI (wI (wI (wI My 0 12 0) 0 13 (nI N)) 0 17 0) 0 19 0) 0 36 0) (by omega) (by omega) (by omega) (by decide) w2 ⟨hT, rfl, rfl⟩ ⟨hT8, rfl, rfl, by show My.1 0 6 = _; rw [← w1]; exact w3, rfl⟩ (by omega) with ⟨v, X', Y', q1, q2, q3, q4⟩ | ⟨i1, w1, X1, Y1, q1, q2, q3⟩
      · rw [bnd_e q2, bnd_e q2, if_pos rfl, e12_notes_40]
      · rw [bnd_e q2, bnd_e q2, if_neg (by decide), e12_notes_40]
    have fx := fr11_notes x
    have qx := fq11_notes x
    have fy := fr12_notes y
    have qy := fq12_notes y
    refine ⟨v, wI X' 1 1 0, Y', x, y, hR _ _ _ _ _ h1 (AgX.of fx (by decide)) (AgY.of fy qy (by decide) (by decide)), ⟨0, by decide, rfl, by rw [r3]; rfl, fun j hj => ?_⟩, ?_, h5.keep (fun k hk => (fx k (by revert hk; revert k; decide) (fun e => by cases e)).1) (by rw [(fx 0 (by decide) (fun e => by cases e)).1]) (fun k hk => (fy k (by revert hk; revert k; decide) (fun e => by cases e)).1) (qy 0 53 (by decide) (by decide))⟩
    · rw [(fx 2 (by decide) (fun e => by cases e)).1, (fy 8 (by decide) (fun e => by cases e)).1]
      exact b4 j hj
    · have e25 : (wI X' 1 1 0).1 25 2 = X'.1 25 2 := rfl
      rcases r4 with ⟨q1, q2⟩ | ⟨w', q1, q2, q3⟩
      · exact ⟨by rw [e25, q1, q2]; exact w1, w, w2, by rw [e25, q2]; exact w3⟩
      · exact ⟨by rw [e25, q2, q3], w', q1, by rw [e25, q3]⟩
