/-! THE VIGIL: likely, watch, sure -/
theorem InvOf.ask2 {Rs : Nat → Mem → Mem → Prop} (hR : RsOk Rs) {t : Nat} {Mx My Mx' My' : Mem} (h : InvOf Rs t Mx My) {LX LY : List Nat} {OX OY : List (Nat × Nat)} (fx : Fr LX false Mx Mx') (qx : Fq CSX OX Mx Mx') (fy : Fr LY false My My') (qy : Fq CSY OY My My') (c1 : ∀ k, k ∈ ([0, 1, 2, 3, 4, 6, 7, 8, 10, 11, 12, 13, 14, 326, 327, 330, 331, 332, 333, 334, 335] : List Nat) → k ∉ LX) (c2 : (25, 2) ∉ OX) (c3 : ∀ k, k ∈ ([1, 3, 4, 5, 6, 8, 15, 16, 17, 18, 19] : List Nat) → k ∉ LY) (c4 : ∀ j, j ∈ ([5, 6, 9, 11, 20, 53] : List Nat) → (0, j) ∉ OY) : InvOf Rs (t + 6) Mx' My' := by
  obtain ⟨h1, h2, h3, h4⟩ := h
  have gx : ∀ k, k ∈ ([0, 1, 2, 3, 4, 6, 7, 8, 10, 11, 12, 13, 14, 326, 327, 330, 331, 332, 333, 334, 335] : List Nat) → Mx'.1 k = Mx.1 k ∧ Mx'.2 k = Mx.2 k := fun k hk => fx k (c1 k hk) (fun e => by cases e)
  have gy : ∀ k, k ∈ ([1, 3, 4, 5, 6, 8, 15, 16, 17, 18, 19] : List Nat) → My'.1 k = My.1 k := fun k hk => (fy k (c3 k hk) (fun e => by cases e)).1
  have gz : ∀ j, j ∈ ([5, 6, 9, 11, 20, 53] : List Nat) → My'.1 0 j = My.1 0 j := fun j hj => qy 0 j (by decide) (c4 j hj)
  refine ⟨hR _ _ _ _ _ h1 (fun k hk => gx k (by revert hk; revert k; decide)) ⟨fun j hj => gz j (by revert hj; revert j; decide), fun k hk => gy k (by revert hk; revert k; decide)⟩, h2.keep (by rw [(gx 1 (by decide)).1]) (gx 2 (by decide)).1 (gz 11 (by decide)) (gy 8 (by decide)), h3.keep (qx 25 2 (by decide) c2) (gz 6 (by decide)), h4.keep (fun k hk => (gx k (by revert hk; revert k; decide)).1) (by rw [(gx 0 (by decide)).1]) (fun k hk => gy k (by revert hk; revert k; decide)) (gz 53 (by decide))⟩
/-- the weights of a day, whatever else has changed -/
def sLX (X X' : Mem) : Prop := ∀ k, k ∈ ([11, 12, 13, 14] : List Nat) → X'.1 k = X.1 k
def sLY (Y Y' : Mem) : Prop := Y'.1 0 20 = Y.1 0 20 ∧ Y'.1 1 160 = Y.1 1 160 ∧ ∀ k, k ∈ ([15, 16, 17, 18, 19] : List Nat) → Y'.1 k = Y.1 k
theorem sLX.refl {X : Mem} : sLX X X := fun _ _ => rfl
theorem sLY.refl {X : Mem} : sLY X X := ⟨rfl, rfl, fun _ _ => rfl⟩
theorem sLX.trans {X Y Z : Mem} (h : sLX X Y) (g : sLX Y Z) : sLX X Z := fun k hk => (g k hk).trans (h k hk)
theorem sLY.trans {X Y Z : Mem} (h : sLY X Y) (g : sLY Y Z) : sLY X Z := ⟨g.1.trans h.1, g.2.1.trans h.2.1, fun k hk => (g.2.2 k hk).trans (h.2.2 k hk)⟩
theorem O15.s {X X' : Mem} (h : O15 X X') : sLX X X' := fun k hk => (h k (by rintro rfl; revert hk; decide) (by rintro rfl; revert hk; decide)).1
theorem O21.s {X X' : Mem} (h : O21 X X') : sLY X X' := ⟨by rw [(h 0 (by decide) (by decide)).1], by rw [(h 1 (by decide) (by decide)).1], fun k hk => (h k (by rintro rfl; revert hk; decide) (by rintro rfl; revert hk; decide)).1⟩
def WtX (X : Mem) (day h v : Nat) : Prop := ∀ n X', 2000 ≤ n → sLX X X' → ∃ X'', f2_weightOf n (nI h) (nI day) X' = some (nI v, X'') ∧ O15 X' X''
def WtY (Y : Mem) (h v : Nat) : Prop := ∀ n Y', 2000 ≤ n → sLY Y Y' → ∃ Y'', f12_weightOf n (nI h) Y' = some (nI v, Y'') ∧ O21 Y' Y''
theorem weights2 {q day : Nat} {op vl kd st hf en : Nat → Nat} {X Y : Mem} (hl : LawOf q op vl kd st hf en X Y) (hd : day < 2 ^ 31) (hy : Y.1 1 160 = nI day) : ∃ w : Nat → Nat, ∀ h, w h ≤ 99 ∧ WtX X day h (w h) ∧ WtY Y h (w h) := by
  have key : ∀ h, ∃ v, v ≤ 99 ∧ WtX X day h v ∧ WtY Y h v := by
    intro h
    obtain ⟨v, X0, Y0, q1, q2, q3, q4, q5⟩ := weight_XY (h := h) (nX := 2000) (nY := 2000) (by decide) (by decide) hl hd hy
    refine ⟨v, q3, fun n X' hn ox => ?_, fun n Y' hn oy => ?_⟩
    · obtain ⟨v', X1, Y1, r1, r2, r3, r4, r5⟩ := weight_XY (h := h) (nX := n) (nY := 2000) hn (by decide) (hl.keep ox rfl (fun _ _ => rfl)) hd hy
      rw [q2] at r2
      have e : nI v = nI v' := congrArg Prod.fst (Option.some.inj r2)
      rw [← e] at r1
      exact ⟨X1, r1, r4⟩
    · obtain ⟨v', X1, Y1, r1, r2, r3, r4, r5⟩ := weight_XY (h := h) (nX := 2000) (nY := n) (Y := Y') (by decide) hn (hl.keep (fun _ _ => rfl) oy.1 oy.2.2) hd (by rw [oy.2.1]; exact hy)
      rw [q1] at r1
      have e : nI v = nI v' := congrArg Prod.fst (Option.some.inj r1)
      rw [← e] at r2
      exact ⟨Y1, r2, r5⟩
  exact Classical.axiomOfChoice key
def tot (w : Nat → Nat) (F : Nat → Bool) : Nat → Nat
  | 0 => 0
  | n + 1 => tot w F n + (if F n then w n else 0)
theorem tot_le {w : Nat → Nat} {F : Nat → Bool} (hw : ∀ h, w h ≤ 99) : ∀ n, tot w F n ≤ 99 * n
  | 0 => Nat.le_refl _
  | n + 1 => by
    have := tot_le (w := w) (F := F) hw n
    have := hw n
    rw [tot]
    split <;> omega
theorem tot_cong {w : Nat → Nat} {F G : Nat → Bool} : ∀ {n : Nat}, (∀ k, k < n → F k = G k) → tot w F n = tot w G n
  | 0, _ => rfl
  | n + 1, h => by rw [tot, tot, tot_cong (fun k hk => h k (by omega)), h n (by omega)]
theorem tot_take {w : Nat → Nat} {F G : Nat → Bool} {b : Nat} (hF : F b = true) (hG : G b = false) (hne : ∀ k, k ≠ b → F k = G k) : ∀ {n : Nat}, b < n → tot w F n = tot w G n + w b
  | 0, h => by omega
  | n + 1, h => by
    rw [tot, tot]
    by_cases c : b = n
    · subst c
      rw [hF, hG, tot_cong (F := F) (G := G) (fun k hk => hne k (by omega))]
      simp
    · rw [tot_take hF hG hne (by omega), hne n (by omega)]
      omega
theorem tot_none {w : Nat → Nat} {F : Nat → Bool} : ∀ {n : Nat}, (∀ k, k < n → F k = false) → tot w F n = 0
  | 0, _ => rfl
  | n + 1, h => by rw [tot, tot_none (fun k hk => h k (by omega)), h n (by omega)]; rfl
theorem watched_X {n W i : Nat} {M : Mem} (h : M.1 25 2 = nI W) (hW : W < 2 ^ 24) (hi : i < 31) : f9_isWatched n (nI i) M = some (if W.testBit i = true then 1 else 0, M) := by
  unfold f9_isWatched b9_isWatched_0
  rw [h, pk_shrN (by omega) _ i (s_l i (by omega)), show (1 : Int32) = nI (2 ^ 1 - 1) from rfl, fa_mask, Nat.testBit_eq_decide_div_mod_eq]
  have : W / 2 ^ i % 2 = 0 ∨ W / 2 ^ i % 2 = 1 := by omega
  rw [show (2 : Nat) ^ 1 = 2 from rfl]
  rcases this with e | e <;> rw [e]
  · rw [if_pos (by decide), if_neg (by decide)]
  · rw [if_neg (by decide), if_pos (by decide)]
theorem max_m1 {n : Nat} {M : Mem} : f12_max n 0 (-1) M = some (nI 0, M) := by
  unfold f12_max b12_max_0
  simp only [show ((-1 : Int32) ≤ 0) = True from eq_true (by decide), show ((0 : Int32) ≤ -1) = False from eq_false (by decide), show ((-1 : Int32) < 0) = True from eq_true (by decide), show ((0 : Int32) < -1) = False from eq_false (by decide), if_true, if_false, nI_0]
section VG
variable {W day : Nat} {w : Nat → Nat}
def VgX (W : Nat) (w : Nat → Nat) (i : Nat) (M : Mem) : Prop := M.1 25 2 = nI W ∧ M.1 25 5 = nI (tot w (fun h => !W.testBit h) i) ∧ M.1 25 6 = 0 ∧ M.1 25 7 = 0 ∧ ∀ h, h < i → M.1 26 h = nI (w h)
theorem weigh_loop {X : Mem} (hW : W < 2 ^ 24) (hw : ∀ h, w h ≤ 99 ∧ WtX X day h (w h)) : ∀ (d i n : Nat) (M : Mem), i + d = 24 → d + 3000 < n → sLX X M → VgX W w i M → ∃ M', r9_weigh n 17 [nI day, nI i] [] M = some ((), M') ∧ VgX W w 24 M' := by
  intro d
  induction d with
  | zero =>
    intro i n M h1 h2 h3 h4
    obtain ⟨n, rfl⟩ : ∃ n', n = n' + 1 := ⟨n - 1, by omega⟩
    have : i = 24 := by omega
    subst this
    rw [e9_weigh_17]
    unfold b9_weigh_17
    rw [if_pos (by decide)]
    exact ⟨M, rfl, h4⟩
  | succ d ih =>
    intro i n M h1 h2 h3 h4
    obtain ⟨n, rfl⟩ : ∃ n', n = n' + 1 := ⟨n - 1, by omega⟩
    obtain ⟨M1, e1, o1⟩ := (hw i).2 n M (by omega) h3
    have g25 := o1 25 (by decide) (by decide)
    have g26 := o1 26 (by decide) (by decide)
    obtain ⟨a1, a2, a3, a4, a5⟩ := h4
    rw [e9_weigh_17]
    unfold b9_weigh_17 b9_weigh_61
    rw [if_neg (show ¬ (24 : Int32) ≤ nI i from nI_ge (b := 24) (by omega) (by decide)), bnd_e e1, chk_in (by omega) (by decide), lt_v, nI_clamp (by omega), watched_X (M := wI M1 26 i (nI (w i))) (W := W) (by rw [wI_at, if_neg (by decide), g25.1]; exact a1) hW (by omega), bnd_s']
    have fin : ∀ v : Nat, v = (if (!W.testBit i) = true then w i else 0) → ∃ M', (lt (wI (wI M1 26 i (nI (w i))) 25 5 ((wI M1 26 i (nI (w i))).1 25 5 + nI v)) fun M15 => lt (nI i + (1 : Int32)) fun v16 => r9_weigh n 17 [nI day, v16] [] M15) = some ((), M') ∧ VgX W w 24 M' := by
      intro v hv
      rw [lt_v, lt_v, nI_1, show (wI M1 26 i (nI (w i))).1 25 5 = nI (tot w (fun h => !W.testBit h) i) by rw [wI_at, if_neg (by decide), g25.1]; exact a2, nI_add]
      refine ih (i + 1) n _ (by omega) (by omega) (fun k hk => ?_) ⟨?_, ?_, ?_, ?_, fun h hh => ?_⟩
      · rw [(wI_o k (by rintro rfl; revert hk; decide)).1, (wI_o k (by rintro rfl; revert hk; decide)).1]
        exact (h3.trans o1.s) k hk
      · rw [wI_at, if_pos rfl, if_neg (by decide), wI_at, if_neg (by decide), g25.1]; exact a1
      · rw [wI_at, if_pos rfl, if_pos rfl, tot, hv]
      · rw [wI_at, if_pos rfl, if_neg (by decide), wI_at, if_neg (by decide), g25.1]; exact a3
      · rw [wI_at, if_pos rfl, if_neg (by decide), wI_at, if_neg (by decide), g25.1]; exact a4
      · rw [wI_at, if_neg (by decide), wI_at, if_pos rfl]
        by_cases q : h = i
        · rw [if_pos q, q]
        · rw [if_neg q, g26.1]; exact a5 h (by omega)
    by_cases c : W.testBit i = true
    · rw [if_pos c, if_neg (show ¬ (1 : Int32) = 0 by decide)]
      exact fin 0 (by rw [c]; rfl)
    · rw [if_neg c, if_pos rfl, chk_in (by omega) (by decide), show (wI M1 26 i (nI (w i))).1 26 i = nI (w i) by rw [wI_at, if_pos rfl, if_pos rfl]]
      exact fin (w i) (by simp only [Bool.not_eq_true] at c; rw [c]; rfl)
theorem weigh_X {n : Nat} {X : Mem} (hn : 5000 ≤ n) (hW : W < 2 ^ 24) (h2 : X.1 25 2 = nI W) (hw : ∀ h, w h ≤ 99 ∧ WtX X day h (w h)) : ∃ M', f9_weigh n (nI day) X = some ((), M') ∧ VgX W w 24 M' := by
  have g := weigh_loop (X := X) hW hw 24 0 (n + 1) (wI (wI (wI X 25 6 0) 25 7 0) 25 5 0) (by omega) (by omega) (fun k hk => by
    rw [(wI_o k (by rintro rfl; revert hk; decide)).1, (wI_o k (by rintro rfl; revert hk; decide)).1, (wI_o k (by rintro rfl; revert hk; decide)).1]) ⟨h2, rfl, rfl, rfl, fun h hh => by omega⟩
  rw [e9_weigh_17, nI_0] at g
  unfold f9_weigh b9_weigh_0
  rw [lt_v, lt_v, lt_v]
  exact g
def VgY (W : Nat) (w : Nat → Nat) (i : Nat) (M : Mem) : Prop := M.1 0 6 = nI W ∧ ∀ h, h < i → M.1 23 h = if W.testBit h = true then -1 else nI (w h)
theorem wlay_loop {Y : Mem} (hW : W < 2 ^ 24) (hw : ∀ h, w h ≤ 99 ∧ WtY Y h (w h)) : ∀ (d i n : Nat) (M : Mem), i + d = 24 → d + 3000 < n → sLY Y M → VgY W w i M → ∃ M', r12_laysWeights n 4 [nI (tot w (fun h => !W.testBit h) i), nI i] [] M = some (nI (tot w (fun h => !W.testBit h) 24), M') ∧ VgY W w 24 M' := by
  intro d
  induction d with
  | zero =>
    intro i n M h1 h2 h3 h4
    obtain ⟨n, rfl⟩ : ∃ n', n = n' + 1 := ⟨n - 1, by omega⟩
    have : i = 24 := by omega
    subst this
    rw [e12_laysWeights_4]
    unfold b12_laysWeights_4
    rw [if_pos (by decide)]
    exact ⟨M, rfl, h4⟩
  | succ d ih =>
    intro i n M h1 h2 h3 h4
    obtain ⟨n, rfl⟩ : ∃ n', n = n' + 1 := ⟨n - 1, by omega⟩
    obtain ⟨a1, a2⟩ := h4
    have z : (24 : Nat) < 2 ^ 31 := by decide
    have h99 := (hw i).1
    have fin : ∀ (M1 : Mem) (x : Int32) (v : Nat), O21 M M1 → x = (if W.testBit i = true then -1 else nI (w i)) → v = (if (!W.testBit i) = true then w i else 0) → (∀ M2, f12_max n 0 x M2 = some (nI v, M2)) → ∃ M', b12_laysWeights_35 (r12_laysWeights n) n (nI (tot w (fun h => !W.testBit h) i)) (nI i) (nI i) x M1 = some (nI (tot w (fun h => !W.testBit h) 24), M') ∧ VgY W w 24 M' := by
      intro M1 x v o1 hx hv hm
      unfold b12_laysWeights_35
      rw [chk_in (by omega) z, lt_v, chk_in (by omega) z, nI_clamp (by omega), show (wI M1 23 i x).1 23 i = x by rw [wI_at, if_pos rfl, if_pos rfl], hm, bnd_s', lt_v, lt_v, nI_1, nI_add]
      have e : tot w (fun h => !W.testBit h) i + v = tot w (fun h => !W.testBit h) (i + 1) := by rw [tot, hv]
      rw [e]
      refine ih (i + 1) n _ (by omega) (by omega) ?_ ⟨?_, fun h hh => ?_⟩
      · have s1 := h3.trans o1.s
        refine ⟨by rw [wI_at, if_neg (by decide)]; exact s1.1, by rw [wI_at, if_neg (by decide)]; exact s1.2.1, fun k hk => ?_⟩
        rw [(wI_o k (by rintro rfl; revert hk; decide)).1]
        exact s1.2.2 k hk
      · rw [wI_at, if_neg (by decide), (o1 0 (by decide) (by decide)).1]; exact a1
      · rw [wI_at, if_pos rfl]
        by_cases q : h = i
        · rw [if_pos q, q, hx]
        · rw [if_neg q, (o1 23 (by decide) (by decide)).1]; exact a2 h (by omega)
    rw [e12_laysWeights_4]
    unfold b12_laysWeights_4
    rw [if_neg (show ¬ (24 : Int32) ≤ nI i from nI_ge (b := 24) (by omega) (by decide)), a1, has_Y (by omega) (by omega), bnd_s']
    by_cases c : W.testBit i = true
    · rw [if_pos c, if_neg (show ¬ (1 : Int32) = 0 by decide)]
      refine fin M _ 0 O21.refl (by rw [if_pos c]) (by rw [c]; rfl) (fun M2 => ?_)
      exact max_m1
    · obtain ⟨M1, e1, o1⟩ := (hw i).2 n M (by omega) h3
      rw [if_neg c, if_pos rfl, bnd_e e1]
      simp only [Bool.not_eq_true] at c
      refine fin M1 _ (w i) o1 (by rw [c]; rfl) (by rw [c]; rfl) (fun M2 => ?_)
      rw [← nI_0, max_n (by decide) (by omega)]
      congr 3
      split <;> omega
theorem wlay_Y {n : Nat} {Y : Mem} (hn : 5000 ≤ n) (hW : W < 2 ^ 24) (h6 : Y.1 0 6 = nI W) (hw : ∀ h, w h ≤ 99 ∧ WtY Y h (w h)) : ∃ M', f12_laysWeights n Y = some (nI (tot w (fun h => !W.testBit h) 24), M') ∧ VgY W w 24 M' := by
  have g := wlay_loop (Y := Y) hW hw 24 0 (n + 1) Y (by omega) (by omega) sLY.refl ⟨h6, fun h hh => by omega⟩
  rw [e12_laysWeights_4, show tot w (fun h => !W.testBit h) 0 = 0 from rfl, nI_0] at g
  exact g
end VG
