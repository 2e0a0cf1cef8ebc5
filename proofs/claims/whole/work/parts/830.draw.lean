/-! DAYS: the hour is drawn -/
def x1n (x : Nat) : Nat := (25173 * x + 13849) % 65536
theorem x1n_lt (x : Nat) : x1n x < 65536 := Nat.mod_lt _ (by decide)
theorem draw_e {x : Nat} (hx : x < 65536) : (25173 : Int32) * nI x + (13849 : Int32) - ((25173 : Int32) * nI x + (13849 : Int32)) / (65536 : Int32) * (65536 : Int32) = nI (x1n x) := by
  rw [show (25173 : Int32) = nI 25173 from rfl, pk_mul, show (13849 : Int32) = nI 13849 from rfl, nI_add, show (65536 : Int32) = nI 65536 from rfl, pk_rem (by omega) (by decide) (by decide)]
  rfl
def tt : Nat → Bool := fun _ => true
def pkh (w : Nat → Nat) : Nat → Nat → Nat → Nat
  | 0, h, _ => h
  | d + 1, h, l => if l < w h then h else pkh w d (h + 1) (l - w h)
theorem pkh_le (w : Nat → Nat) : ∀ d h l, pkh w d h l ≤ h + d
  | 0, h, l => Nat.le_refl _
  | d + 1, h, l => by
    rw [pkh]
    split
    · omega
    · have := pkh_le w d (h + 1) (l - w h)
      omega
theorem pkh_lt {w : Nat → Nat} : ∀ {d h l : Nat}, h + d = 24 → l + tot w tt h < tot w tt 24 → pkh w d h l < 24
  | 0, h, l, h1, h2 => by
    have : h = 24 := by omega
    subst this
    omega
  | d + 1, h, l, h1, h2 => by
    rw [pkh]
    by_cases c : l < w h
    · rw [if_pos c]; omega
    · rw [if_neg c]
      refine pkh_lt (by omega) ?_
      have e : tot w tt (h + 1) = tot w tt h + w h := by rw [tot]; rfl
      omega
section DR
variable {w : Nat → Nat} {day c : Nat}
theorem drawX_pick (hw : ∀ h, w h ≤ 99) {M : Mem} (h24 : ∀ j, j < 24 → M.1 24 j = nI (w j)) : ∀ (d h l n : Nat), h + d = 24 → d < n → l < 100000 → l + tot w tt h < tot w tt 24 → r10_drawHour c n 60 [nI l, nI h] [] M = some (nI (pkh w d h l), M) := by
  intro d
  induction d with
  | zero =>
    intro h l n h1 h2 h3 h4
    have : h = 24 := by omega
    subst this
    omega
  | succ d ih =>
    intro h l n h1 h2 h3 h4
    obtain ⟨n, rfl⟩ : ∃ n', n = n' + 1 := ⟨n - 1, by omega⟩
    have hwh := hw h
    rw [e10_drawHour_60]
    unfold b10_drawHour_60
    rw [if_neg (show ¬ (24 : Int32) ≤ nI h from nI_ge (b := 24) (by omega) (by decide)), chk_in (by omega) (by decide), nI_clamp (by omega), h24 h (by omega), lt_v, pkh]
    by_cases cl : l < w h
    · rw [if_pos cl, if_neg (Int32.not_le.mpr (pk_sneg (by omega) cl))]
    · have e : tot w tt (h + 1) = tot w tt h + w h := by rw [tot]; rfl
      rw [if_neg cl, pk_sub (by omega), if_pos (nI_pos' (by omega)), lt_v, nI_1]
      exact ih (h + 1) (l - w h) n (by omega) (by omega) (by omega) (by omega)
theorem drawX_loop {X : Mem} (hc : 100 ≤ c) (hw : ∀ h, w h ≤ 99 ∧ WtX X day h (w h)) : ∀ (d i n : Nat) (M : Mem), i + d = 24 → d + 3000 < n → sLX X M → M.1 c = X.1 c → X.1 c 2 = nI day → (∀ j, j < i → M.1 24 j = nI (w j)) → ∃ n' M', n' + d + 1 = n ∧ r10_drawHour c n 4 [nI (tot w tt i), nI i] [] M = b10_drawHour_4 c (r10_drawHour c n') n' (nI (tot w tt 24)) (nI 24) M' ∧ M'.1 c = X.1 c ∧ ∀ j, j < 24 → M'.1 24 j = nI (w j) := by
  intro d
  induction d with
  | zero =>
    intro i n M h1 h2 h3 h4 h5 h6
    obtain ⟨n, rfl⟩ : ∃ n', n = n' + 1 := ⟨n - 1, by omega⟩
    have : i = 24 := by omega
    subst this
    exact ⟨n, M, rfl, by rw [e10_drawHour_4], h4, h6⟩
  | succ d ih =>
    intro i n M h1 h2 h3 h4 h5 h6
    obtain ⟨n, rfl⟩ : ∃ n', n = n' + 1 := ⟨n - 1, by omega⟩
    obtain ⟨M1, e1, o1⟩ := (hw i).2 n M (by omega) h3
    have g24 := (o1 24 (by decide) (by decide)).1
    have gc := (o1 c (by omega) (by omega)).1
    obtain ⟨n', M', q1, q2, q3⟩ := ih (i + 1) n (wI M1 24 i (nI (w i))) (by omega) (by omega) (fun k hk => by
      rw [(wI_o k (by rintro rfl; revert hk; decide)).1]
      exact (h3.trans o1.s) k hk) (by rw [(wI_o c (by omega)).1, gc, h4]) h5 (fun j hj => by
      rw [wI_at, if_pos rfl]
      by_cases e : j = i
      · rw [if_pos e, e]
      · rw [if_neg e, g24]; exact h6 j (by omega))
    refine ⟨n', M', by omega, ?_, q3⟩
    rw [e10_drawHour_4]
    unfold b10_drawHour_4
    rw [if_neg (show ¬ (24 : Int32) ≤ nI i from nI_ge (b := 24) (by omega) (by decide)), h4, h5, bnd_e e1, chk_in (by omega) (by decide), lt_v, chk_in (by omega) (by decide), nI_clamp (by omega), show (wI M1 24 i (nI (w i))).1 24 i = nI (w i) by rw [wI_at, if_pos rfl, if_pos rfl], nI_add, lt_v, lt_v, nI_1, show tot w tt i + w i = tot w tt (i + 1) by rw [tot]; rfl, q2]
    unfold b10_drawHour_4
    rfl
theorem drawX {x n : Nat} {X : Mem} (hn : 10000 ≤ n) (hc : 100 ≤ c) (hw : ∀ h, w h ≤ 99 ∧ WtX X day h (w h)) (h2 : X.1 c 2 = nI day) (h3 : X.1 c 3 = nI x) (hx : x < 65536) : ∃ X', f10_drawHour n c X = some (if tot w tt 24 = 0 then -2 else nI (pkh w 24 0 (x1n x % tot w tt 24)), X') ∧ ∀ j, X'.1 c j = if j = 3 ∧ ¬ tot w tt 24 = 0 then nI (x1n x) else X.1 c j := by
  have hT := tot_le (w := w) (F := tt) (fun h => (hw h).1) 24
  obtain ⟨n', M', q1, q2, q3, q4⟩ := drawX_loop hc hw 24 0 (n + 1) X (by omega) (by omega) sLX.refl rfl h2 (fun j hj => by omega)
  rw [e10_drawHour_4, show tot w tt 0 = 0 from rfl, nI_0] at q2
  unfold f10_drawHour b10_drawHour_0
  rw [q2]
  unfold b10_drawHour_4
  rw [if_pos (show (24 : Int32) ≤ nI 24 by decide)]
  by_cases e0 : tot w tt 24 = 0
  · rw [e0, if_neg (show ¬ 0 < nI 0 by decide), if_pos rfl]
    exact ⟨M', rfl, fun j => by rw [if_neg (by simp), q3]⟩
  · have hx1 := x1n_lt x
    have hm : x1n x % tot w tt 24 < tot w tt 24 := Nat.mod_lt _ (by omega)
    rw [if_pos (show 0 < nI (tot w tt 24) from nI_lt (a := 0) (by omega) (by omega)), if_neg e0]
    refine ⟨wI M' c 3 (nI (x1n x)), ?_, fun j => ?_⟩
    · unfold f0_draw b0_draw_0
      rw [q3, h3, draw_e hx, lt_v, bnd_s', show (wI M' c 3 (nI (x1n x))).1 c 3 = nI (x1n x) by rw [wI_at, if_pos rfl, if_pos rfl], chk_t (decide_eq_true (nI_ne0 (by omega) (by omega))), lt_v, pk_rem (by omega) (by omega) (by omega)]
      have g := drawX_pick (c := c) (fun h => (hw h).1) (M := wI M' c 3 (nI (x1n x))) (fun j hj => by rw [(wI_o 24 (by omega)).1]; exact q4 j hj) 24 0 (x1n x % tot w tt 24) (n' + 1) (by omega) (by omega) (by omega) (by show _ + 0 < _; omega)
      rw [e10_drawHour_60, nI_0] at g
      exact g
    · rw [wI_at, if_pos rfl, q3]
      by_cases e : j = 3
      · rw [if_pos e, if_pos ⟨e, e0⟩]
      · rw [if_neg e, if_neg (fun q => e q.1)]
theorem allW_Y {Y : Mem} (hw : ∀ h, w h ≤ 99 ∧ WtY Y h (w h)) : ∀ (d i n : Nat) (M : Mem), i + d = 24 → d + 3000 < n → sLY Y M → ∃ M', r12_allWeights n 4 [nI (tot w tt i), nI i] [] M = some (nI (tot w tt 24), M') ∧ O21 M M' := by
  intro d
  induction d with
  | zero =>
    intro i n M h1 h2 h3
    obtain ⟨n, rfl⟩ : ∃ n', n = n' + 1 := ⟨n - 1, by omega⟩
    have : i = 24 := by omega
    subst this
    rw [e12_allWeights_4]
    unfold b12_allWeights_4
    rw [if_pos (by decide)]
    exact ⟨M, rfl, O21.refl⟩
  | succ d ih =>
    intro i n M h1 h2 h3
    obtain ⟨n, rfl⟩ : ∃ n', n = n' + 1 := ⟨n - 1, by omega⟩
    obtain ⟨M1, e1, o1⟩ := (hw i).2 n M (by omega) h3
    obtain ⟨M', q1, q2⟩ := ih (i + 1) n M1 (by omega) (by omega) (h3.trans o1.s)
    refine ⟨M', ?_, o1.trans q2⟩
    rw [e12_allWeights_4]
    unfold b12_allWeights_4
    rw [if_neg (show ¬ (24 : Int32) ≤ nI i from nI_ge (b := 24) (by omega) (by decide)), bnd_e e1, lt_v, lt_v, nI_1, nI_add, show tot w tt i + w i = tot w tt (i + 1) by rw [tot]; rfl]
    exact q1
theorem all_Y {n : Nat} {Y M : Mem} (hn : 5000 ≤ n) (hw : ∀ h, w h ≤ 99 ∧ WtY Y h (w h)) (hs : sLY Y M) : ∃ M', f12_allWeights n M = some (nI (tot w tt 24), M') ∧ O21 M M' := by
  have g := allW_Y hw 24 0 (n + 1) M (by omega) (by omega) hs
  rw [e12_allWeights_4, show tot w tt 0 = 0 from rfl, nI_0] at g
  exact g
theorem drawY_pick {Y : Mem} (hw : ∀ h, w h ≤ 99 ∧ WtY Y h (w h)) : ∀ (d h l n : Nat) (M : Mem), h + d = 24 → d + 3000 < n → l < 100000 → l + tot w tt h < tot w tt 24 → sLY Y M → ∃ M', r12_drawsHour n 53 [nI l, nI h] [] M = some (nI (pkh w d h l), M') ∧ O21 M M' := by
  intro d
  induction d with
  | zero =>
    intro h l n M h1 h2 h3 h4 h5
    have : h = 24 := by omega
    subst this
    omega
  | succ d ih =>
    intro h l n M h1 h2 h3 h4 h5
    obtain ⟨n, rfl⟩ : ∃ n', n = n' + 1 := ⟨n - 1, by omega⟩
    have hwh := (hw h).1
    obtain ⟨M1, e1, o1⟩ := (hw h).2 n M (by omega) h5
    rw [e12_drawsHour_53]
    unfold b12_drawsHour_53
    rw [bnd_e e1, pkh]
    by_cases cl : l < w h
    · rw [if_pos (nI_lt cl (by omega)), if_pos cl]
      exact ⟨M1, rfl, o1⟩
    · have e : tot w tt (h + 1) = tot w tt h + w h := by rw [tot]; rfl
      obtain ⟨M2, e2, o2⟩ := (hw h).2 n M1 (by omega) (h5.trans o1.s)
      rw [if_neg (nI_nlt (by omega) (by omega)), if_neg cl, bnd_e e2, lt_v, lt_v, pk_sub (by omega), nI_1]
      obtain ⟨M3, q1, q2⟩ := ih (h + 1) (l - w h) n M2 (by omega) (by omega) (by omega) (by omega) ((h5.trans o1.s).trans o2.s)
      exact ⟨M3, q1, (o1.trans o2).trans q2⟩
theorem drawY {x n : Nat} {Y : Mem} (hn : 10000 ≤ n) (hw : ∀ h, w h ≤ 99 ∧ WtY Y h (w h)) (h3 : Y.1 1 161 = nI x) (hx : x < 65536) : ∃ Y', f12_drawsHour n Y = some (if tot w tt 24 = 0 then -2 else nI (pkh w 24 0 (x1n x % tot w tt 24)), Y') ∧ (∀ j, Y'.1 1 j = if j = 161 ∧ ¬ tot w tt 24 = 0 then nI (x1n x) else Y.1 1 j) ∧ ∀ k, k ≠ 1 → k ≠ 20 → k ≠ 21 → Y'.1 k = Y.1 k := by
  have hT := tot_le (w := w) (F := tt) (fun h => (hw h).1) 24
  obtain ⟨M1, e1, o1⟩ := all_Y (n := n) (by omega) hw sLY.refl
  have k1 := (o1 1 (by decide) (by decide)).1
  unfold f12_drawsHour b12_drawsHour_0
  rw [bnd_e e1]
  have z161 : (161 : Int32).toNatClampNeg = 161 := by decide
  by_cases e0 : tot w tt 24 = 0
  · rw [e0, if_pos nI_0, if_pos rfl]
    exact ⟨M1, rfl, fun j => by rw [if_neg (by simp), k1], fun k _ a b => (o1 k a b).1⟩
  · have hx1 := x1n_lt x
    have hm : x1n x % tot w tt 24 < tot w tt 24 := Nat.mod_lt _ (by omega)
    rw [if_neg (nI_ne0 (by omega) (by omega)), if_neg e0, chk_t (by decide), chk_t (by decide), z161, k1, h3, draw_e hx, lt_v, chk_t (by decide), chk_t (decide_eq_true (nI_ne0 (by omega) (by omega))), show (wI M1 1 161 (nI (x1n x))).1 1 161 = nI (x1n x) from rfl, lt_v, pk_rem (by omega) (by omega) (by omega)]
    have s1 : sLY Y (wI M1 1 161 (nI (x1n x))) := by
      have w1 := o1.s
      exact ⟨w1.1, w1.2.1, fun k hk => by rw [(wI_o k (by rintro rfl; revert hk; decide)).1]; exact w1.2.2 k hk⟩
    obtain ⟨M2, g1, g2⟩ := drawY_pick hw 24 0 (x1n x % tot w tt 24) (n + 1) (wI M1 1 161 (nI (x1n x))) (by omega) (by omega) (by omega) (by show _ + 0 < _; omega) s1
    rw [e12_drawsHour_53, nI_0] at g1
    refine ⟨M2, g1, fun j => ?_, fun k a b d => ?_⟩
    · rw [(g2 1 (by decide) (by decide)).1, wI_at, if_pos rfl, k1]
      by_cases e : j = 161
      · rw [if_pos e, if_pos ⟨e, e0⟩]
      · rw [if_neg e, if_neg (fun q => e q.1)]
    · rw [(g2 k b d).1, (wI_o k a).1, (o1 k b d).1]
end DR
