/-! PROMISE 29: count -/
def tds (dr : Nat → Nat) : Nat → Nat
  | 0 => 0
  | k + 1 => tds dr k ||| (if 1 ≤ k ∧ dr k < 96 then 2 ^ k else 0)
theorem tds_bit (dr : Nat → Nat) : ∀ k i, (tds dr k).testBit i = (decide (i < k) && (decide (1 ≤ i) && decide (dr i < 96)))
  | 0, i => by simp [tds]
  | k + 1, i => by
    rw [tds]
    by_cases c : 1 ≤ k ∧ dr k < 96
    · rw [if_pos c, fb_bit_set, tds_bit dr k i]
      by_cases e : i = k
      · subst e
        simp [c.1, c.2]
      · have : decide (i < k + 1) = decide (i < k) := decide_eq_decide.mpr (by omega)
        simp [e, this]
    · rw [if_neg c, Nat.or_zero, tds_bit dr k i]
      by_cases e : i = k
      · subst e
        by_cases d1 : 1 ≤ i
        · have : ¬ dr i < 96 := fun q => c ⟨d1, q⟩
          simp [this]
        · simp [d1]
      · have : decide (i < k + 1) = decide (i < k) := decide_eq_decide.mpr (by omega)
        simp [this]
theorem told_Y {dr : Nat → Nat} {M : Mem} (hD : DY dr M) : ∀ (d k n : Nat), k + d = 10 → 1 ≤ k → d < n → r12_count n 68 [nI (tds dr k), nI k] [] M = some (nI (tds dr 10), M) := by
  intro d
  induction d with
  | zero =>
    intro k n h1 h2 h3
    obtain ⟨n, rfl⟩ : ∃ n', n = n' + 1 := ⟨n - 1, by omega⟩
    have : k = 10 := by omega
    subst this
    rw [e12_count_68]
    unfold b12_count_68
    rw [if_pos (by decide)]
  | succ d ih =>
    intro k n h1 h2 h3
    obtain ⟨n, rfl⟩ : ∃ n', n = n' + 1 := ⟨n - 1, by omega⟩
    rw [e12_count_68]
    unfold b12_count_68 b12_count_92
    rw [if_neg (show ¬ (9 : Int32) < nI k from nI_nlt (a := 9) (by omega) (by decide)), chk_in (by omega) (by decide), nI_clamp (by omega), hD k (by omega) (by omega)]
    simp only [lt_v, nI_1]
    have g := ih (k + 1) n (by omega) (by omega) (by omega)
    unfold dI
    by_cases c : dr k < 96
    · rw [tds, if_pos ⟨by omega, c⟩] at g
      rw [if_pos c, if_neg (nI_m1 (by omega)), shl1 (by omega), fa_or]
      exact g
    · rw [tds, if_neg (fun q => c q.2), Nat.or_zero] at g
      rw [if_neg c, if_pos rfl, ← nI_0, fa_or, Nat.or_zero]
      exact g
theorem wear_loop {X Y : Mem} (h : ∀ j, j < 96 → X.1 331 j = Y.1 1 j) : ∀ (d i nX nY : Nat) (v : Int32), i + d = 96 → d < nX → d < nY → ∃ r, r0_wearOfAll 330 nX 4 [v, nI i] [] X = some (r, X) ∧ r12_count nY 128 [v, nI i] [] Y = some (r, Y) := by
  intro d
  induction d with
  | zero =>
    intro i nX nY v h1 h2 h3
    obtain ⟨nX, rfl⟩ : ∃ n', nX = n' + 1 := ⟨nX - 1, by omega⟩
    obtain ⟨nY, rfl⟩ : ∃ n', nY = n' + 1 := ⟨nY - 1, by omega⟩
    have : i = 96 := by omega
    subst this
    rw [e0_wearOfAll_4, e12_count_128]
    unfold b0_wearOfAll_4 b12_count_128
    rw [if_pos (by decide), if_pos (by decide)]
    exact ⟨v, rfl, rfl⟩
  | succ d ih =>
    intro i nX nY v h1 h2 h3
    obtain ⟨nX, rfl⟩ : ∃ n', nX = n' + 1 := ⟨nX - 1, by omega⟩
    obtain ⟨nY, rfl⟩ : ∃ n', nY = n' + 1 := ⟨nY - 1, by omega⟩
    have e0 : (0 : Int32) + nI i = nI i := by rw [← nI_0, nI_add, Nat.zero_add]
    rw [e0_wearOfAll_4, e12_count_128]
    unfold b0_wearOfAll_4 b12_count_128
    rw [if_neg (show ¬ (96 : Int32) ≤ nI i from nI_ge (b := 96) (by omega) (by decide)), if_neg (show ¬ (96 : Int32) ≤ nI i from nI_ge (b := 96) (by omega) (by decide)), chk_in (by omega) (by decide), e0, chk_in (by omega) (by decide), lt_v, lt_v, lt_v, lt_v, nI_1, nI_clamp (by omega), show X.1 (330 + 1) i = Y.1 1 i from h i (by omega)]
    exact ih (i + 1) nX nY _ (by omega) (by omega) (by omega)
theorem wall_loop {w : Nat → Nat} {day : Nat} {X : Mem} (hw : ∀ h, w h ≤ 99 ∧ WtX X day h (w h)) : ∀ (d i n : Nat) (M : Mem), i + d = 24 → d + 3000 < n → sLX X M → ∃ M', r2_weightOfAll n 4 [nI day, nI (tot w tt i), nI i] [] M = some (nI (tot w tt 24), M') := by
  intro d
  induction d with
  | zero =>
    intro i n M h1 h2 h3
    obtain ⟨n, rfl⟩ : ∃ n', n = n' + 1 := ⟨n - 1, by omega⟩
    have : i = 24 := by omega
    subst this
    rw [e2_weightOfAll_4]
    unfold b2_weightOfAll_4
    rw [if_pos (by decide)]
    exact ⟨M, rfl⟩
  | succ d ih =>
    intro i n M h1 h2 h3
    obtain ⟨n, rfl⟩ : ∃ n', n = n' + 1 := ⟨n - 1, by omega⟩
    obtain ⟨M1, e1, o1⟩ := (hw i).2 n M (by omega) h3
    obtain ⟨M', q1⟩ := ih (i + 1) n M1 (by omega) (by omega) (h3.trans o1.s)
    refine ⟨M', ?_⟩
    rw [e2_weightOfAll_4]
    unfold b2_weightOfAll_4
    rw [if_neg (show ¬ (24 : Int32) ≤ nI i from nI_ge (b := 24) (by omega) (by decide)), bnd_e e1, lt_v, lt_v, nI_1, nI_add, show tot w tt i + w i = tot w tt (i + 1) by rw [tot]; rfl]
    exact q1
/-- PROMISE 29: count -/
theorem st_count {FU : Nat} (hFU : 10000000 ≤ FU) (t : Nat) (Mx My : Mem) (a0 : Int32) (ht : t < 3072) (h : Inv Lw t Mx My) : ∃ (r : Int32) (Mx' My' : Mem), f11_count FU a0 Mx = some (r, Mx') ∧ f12_count FU a0 My = some (r, My') ∧ Inv Lw (t + 6) Mx' My' := by
  have key : ∃ r Mx' My', f11_count FU a0 Mx = some (r, Mx') ∧ f12_count FU a0 My = some (r, My') := by
    obtain ⟨⟨⟨sq, kd, dr, h1⟩, ⟨q, op, vl, ks, st, hf, en, h2⟩⟩, ⟨n, b1, b2, b3, b4⟩, ⟨h4, W, h4a, h4b⟩, h5⟩ := h
    obtain ⟨day, d1, d2⟩ := h5.2.1.2.2.2.2.2.2.1
    have d3 : My.1 1 160 = nI day := by rw [← d2]; exact h5.1.2.2.2.2.2.2.1.symm
    obtain ⟨w, hw⟩ := weights2 h2 (by omega) d3
    have z160 : (160 : Int32).toNatClampNeg = 160 := by decide
    have z161 : (161 : Int32).toNatClampNeg = 161 := by decide
    by_cases k0 : a0 = 0
    · subst k0
      refine ⟨Mx.1 330 2, Mx, My, rfl, ?_⟩
      unfold f12_count b12_count_0
      rw [if_pos rfl, chk_t (by decide), z160, d2, d3]
    · by_cases k1 : a0 = 1
      · subst k1
        exact ⟨Mx.1 25 2, Mx, My, rfl, by rw [h4]; rfl⟩
      · by_cases k2 : a0 = 2
        · subst k2
          obtain ⟨v, v1, v2, v3⟩ := h1.2.2.2.1.2
          have ev : v = tds dr 10 := Nat.eq_of_testBit_eq fun i => by
            rw [v3 i, tds_bit]
            by_cases c1 : 1 ≤ i
            · have : decide (i ≤ 9) = decide (i < 10) := decide_eq_decide.mpr (by omega)
              simp [c1, this]
            · simp [c1]
          refine ⟨Mx.1 3 8, Mx, My, rfl, ?_⟩
          have g := told_Y h1.2.2.2.2.1 9 1 (FU + 1) (by omega) (by omega) (by omega)
          have e1 : tds dr 1 = 0 := by rw [tds, tds, if_neg (by omega)]; rfl
          rw [e12_count_68, e1, nI_0] at g
          unfold f12_count b12_count_0
          rw [if_neg (by decide), if_neg (by decide), if_pos rfl, v2, ev]
          exact g
        · by_cases k3 : a0 = 3
          · subst k3
            refine ⟨Mx.1 3 7, Mx, My, rfl, ?_⟩
            rw [h1.1.2.1, ← h1.2.1.1.2.1]
            rfl
          · by_cases k4 : a0 = 4
            · subst k4
              refine ⟨Mx.1 11 3, Mx, My, rfl, ?_⟩
              rw [h2.2.1, ← h2.2.2.1]
              rfl
            · by_cases k5 : a0 = 5
              · subst k5
                refine ⟨Mx.1 1 1, Mx, My, rfl, ?_⟩
                rw [b2, ← b3]
                rfl
              · by_cases k6 : a0 = 6
                · subst k6
                  refine ⟨Mx.1 330 3, Mx, My, rfl, ?_⟩
                  rw [h5.1.2.2.2.2.2.2.2]
                  rfl
                · by_cases k7 : a0 = 7
                  · subst k7
                    obtain ⟨r, r1, r2⟩ := wear_loop (X := Mx) (Y := My) h5.1.1 96 0 (FU + 1) (FU + 1) 0 (by omega) (by omega) (by omega)
                    rw [e0_wearOfAll_4, nI_0] at r1
                    rw [e12_count_128, nI_0] at r2
                    refine ⟨r, Mx, My, ?_, ?_⟩
                    · unfold f11_count b11_count_0 b11_count_25 b11_count_56
                      rw [if_pos (by decide), if_pos (by decide), if_neg (by decide), if_neg (by decide), if_neg (by decide), if_neg (by decide), if_neg (by decide), if_neg (by decide), if_neg (by decide), if_pos rfl, bnd_id]
                      exact r1
                    · unfold f12_count b12_count_0
                      rw [if_neg (by decide), if_neg (by decide), if_neg (by decide), if_neg (by decide), if_neg (by decide), if_neg (by decide), if_neg (by decide), if_pos rfl]
                      exact r2
                  · by_cases k8 : a0 = 8
                    · subst k8
                      obtain ⟨X', x1⟩ := wall_loop (w := w) (day := day) (X := Mx) (fun h => ⟨(hw h).1, (hw h).2.1⟩) 24 0 (FU + 1) Mx (by omega) (by omega) sLX.refl
                      rw [e2_weightOfAll_4, show tot w tt 0 = 0 from rfl, nI_0] at x1
                      obtain ⟨Y', y1, _⟩ := all_Y (n := FU) (w := w) (Y := My) (M := My) (by omega) (fun h => ⟨(hw h).1, (hw h).2.2⟩) sLY.refl
                      refine ⟨nI (tot w tt 24), X', Y', ?_, ?_⟩
                      · unfold f11_count b11_count_0 b11_count_25 b11_count_56
                        rw [if_pos (by decide), if_pos (by decide), if_neg (by decide), if_neg (by decide), if_neg (by decide), if_neg (by decide), if_neg (by decide), if_neg (by decide), if_neg (by decide), if_neg (by decide), if_pos rfl, bnd_id, d2]
                        exact x1
                      · unfold f12_count b12_count_0
                        rw [if_neg (by decide), if_neg (by decide), if_neg (by decide), if_neg (by decide), if_neg (by decide), if_neg (by decide), if_neg (by decide), if_neg (by decide), if_pos rfl, bnd_id]
                        exact y1
                    · have e56 : b11_count_56 (fun _ _ _ _ => none) FU a0 Mx = some (-1, Mx) := by
                        unfold b11_count_56
                        rw [if_neg k0, if_neg k1, if_neg k2, if_neg k3, if_neg k4, if_neg k5, if_neg k6, if_neg k7, if_neg k8]
                      unfold f11_count b11_count_0 b11_count_25 f12_count b12_count_0
                      rw [if_neg k0, if_neg k1, if_neg k2, if_neg k3, if_neg k4, if_neg k5, if_neg k6, if_neg k7, if_neg k8, in_e, bnd_s', e56]
                      have i10 : ∀ b : Int32, (b ≤ 10) = (b < 11) := fun b => propext (by
                        rw [fa_le, fa_lt, lt_lit (show 10 < 2 ^ 31 by decide), lt_lit (show 11 < 2 ^ 31 by decide)]
                        omega)
                      have i124 : ∀ b : Int32, ((124 : Int32) ≤ b) = (123 < b) := fun b => propext (by
                        rw [fa_le, fa_lt, lt_lit (show 124 < 2 ^ 31 by decide), lt_lit (show 123 < 2 ^ 31 by decide)]
                        omega)
                      simp only [i10, i124]
                      by_cases c1 : a0 < 11 ∨ 19 < a0
                      · rw [if_pos c1, if_pos rfl, in_e, bnd_s', bnd_id]
                        have toX : (if a0 < 11 then (if a0 < 100 then some ((-1 : Int32), Mx) else if 123 < a0 then some (-1, Mx) else f2_weightOf FU (a0 - 100) (Mx.1 330 2) Mx) else if 19 < a0 then (if a0 < 100 then some (-1, Mx) else if 123 < a0 then some (-1, Mx) else f2_weightOf FU (a0 - 100) (Mx.1 330 2) Mx) else chk (inb (a0 - 10) 10) (some (Mx.1 6 (a0 - 10).toNatClampNeg, Mx))) = if a0 < 100 then some (-1, Mx) else if 123 < a0 then some (-1, Mx) else f2_weightOf FU (a0 - 100) (Mx.1 330 2) Mx := by
                          by_cases q : a0 < 11
                          · rw [if_pos q]
                          · rw [if_neg q, if_pos (c1.resolve_left q)]
                        rw [toX]
                        by_cases c2 : a0 < 100 ∨ 123 < a0
                        · rw [if_pos c2, if_pos rfl]
                          refine ⟨-1, Mx, My, ?_, rfl⟩
                          by_cases q : a0 < 100
                          · rw [if_pos q]
                          · rw [if_neg q, if_pos (c2.resolve_left q)]
                        · have p1 : ¬ a0 < 100 := fun e => c2 (Or.inl e)
                          have p2 : ¬ 123 < a0 := fun e => c2 (Or.inr e)
                          obtain ⟨k, hk1, hk2, rfl⟩ := nI_in0 (lo := 100) (hi := 123) (by decide) p1 p2 (by decide)
                          rw [if_neg c2, if_neg p1, if_neg p2, if_neg (show ¬ (1 : Int32) = 0 by decide), show nI k - (100 : Int32) = nI (k - 100) from pk_sub (b := 100) hk1, d2, bnd_id]
                          obtain ⟨X', x1, _⟩ := (hw (k - 100)).2.1 FU Mx (by omega) sLX.refl
                          obtain ⟨Y', y1, _⟩ := (hw (k - 100)).2.2 FU My (by omega) sLY.refl
                          exact ⟨_, X', Y', x1, y1⟩
                      · have p1 : ¬ a0 < 11 := fun e => c1 (Or.inl e)
                        have p2 : ¬ 19 < a0 := fun e => c1 (Or.inr e)
                        obtain ⟨k, hk1, hk2, rfl⟩ := nI_in0 (lo := 11) (hi := 19) (by decide) p1 p2 (by decide)
                        rw [if_neg c1, if_neg p1, if_neg p2, if_neg (show ¬ (1 : Int32) = 0 by decide), show nI k - (10 : Int32) = nI (k - 10) from pk_sub (b := 10) (by omega), chk_in (by omega) (by decide), chk_in (by omega) (by decide), nI_clamp (by omega), h1.2.2.2.1.1 (k - 10) (by omega) (by omega), h1.2.2.2.2.1 (k - 10) (by omega) (by omega)]
                        exact ⟨_, Mx, My, rfl, rfl⟩
  obtain ⟨r, Mx', My', x, y⟩ := key
  exact ⟨r, Mx', My', x, y, InvOf.ask2 (RsT.ok Lw.ok) h (fr11_count x) (fq11_count x) (fr12_count y) (fq12_count y) (by decide) (by decide) (by decide) (by decide)⟩
