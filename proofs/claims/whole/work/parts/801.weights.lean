/-! THE LAW: values, weights -/
def FV (X Y : Mem) : Prop := ∀ j, j < 9 → X.1 15 j = Y.1 21 j
theorem LawOf.keep {q : Nat} {op vl kd st hf en : Nat → Nat} {X Y X' Y' : Mem} (h : LawOf q op vl kd st hf en X Y) (hx : ∀ k, k ∈ ([11, 12, 13, 14] : List Nat) → X'.1 k = X.1 k) (h0 : Y'.1 0 20 = Y.1 0 20) (hy : ∀ k, k ∈ ([15, 16, 17, 18, 19] : List Nat) → Y'.1 k = Y.1 k) : LawOf q op vl kd st hf en X' Y' := by
  obtain ⟨h1, h2, h3, h4⟩ := h
  refine ⟨h1, by rw [hx 11 (by decide)]; exact h2, by rw [h0]; exact h3, fun r hr => ?_⟩
  rw [hx 14 (by decide), hx 13 (by decide), hx 12 (by decide), hy 16 (by decide), hy 17 (by decide), hy 18 (by decide), hy 19 (by decide), hy 15 (by decide)]
  exact h4 r hr
theorem LawOf.stk {q : Nat} {op vl kd st hf en : Nat → Nat} {X Y X' Y' : Mem} (h : LawOf q op vl kd st hf en X Y) (hx : O16 X X') (hy : O20 Y Y') : LawOf q op vl kd st hf en X' Y' := h.keep (fun k hk => (hx k (by rintro rfl; revert hk; decide)).1) (by rw [(hy 0 (by decide)).1]) (fun k hk => (hy k (by rintro rfl; revert hk; decide)).1)
theorem part_XY {op vl : Nat → Nat} {a e p nX nY : Nat} {t : Bool} {X Y : Mem} (hnX : 500 ≤ nX) (hnY : 500 ≤ nY) (hp : p < 32) (hae : a ≤ e) (he : e ≤ 240) (h0 : X.1 13 p = nI a) (h1 : X.1 13 (p + 1) = nI e) (hC : CodeR op vl a e X Y) (hT : Typ op vl a e t) (hV : FV X Y) : ∃ r X' Y', f2_reckon nX (nI p) X = some (r, X') ∧ f12_comesTo nY (nI a) (nI e) Y = some (r, Y') ∧ (t = true → r = 0 ∨ r = 1) ∧ O16 X X' ∧ O20 Y Y' := by
  obtain ⟨dep, isB, d0, b0, d1, b1, hs⟩ := hT
  obtain ⟨r, X', Y', q1, q2, q3, q4, q5⟩ := eval_loop (op := op) (vl := vl) he d1 hs (e - a) a (nX + 1) (nY + 1) X Y (Nat.le_refl _) (Nat.le_refl _) hae (by omega) (by omega) hC hV (fun j hj => by omega) (fun q => by rw [b0] at q; cases q)
  rw [d0, nI_0, e2_reckon_25] at q1
  rw [d0, nI_0, e12_comesTo_16] at q2
  refine ⟨r, X', Y', ?_, ?_, by rw [b1] at q3; exact q3, q4, q5⟩
  · unfold f2_reckon b2_reckon_0
    rw [nI_1, chk_in (by omega) (by decide), nI_clamp (by omega), h1, if_neg (show ¬ (240 : Int32) < nI e from nI_nlt (a := 240) he (by decide)), lt_v, chk_in (by omega) (by decide), lt_v, nI_clamp (by omega), h0]
    exact q1
  · unfold f12_comesTo b12_comesTo_0
    rw [show (260 : Int32) * (nI a / (260 : Int32)) = 0 by
      rw [show (260 : Int32) = nI 260 from rfl, pk_div (by omega) (by decide) (by decide), show a / 260 = 0 by omega]
      decide, lt_v]
    exact q2
section RU
variable {q : Nat} {op vl kd st hf en : Nat → Nat} {X Y : Mem}
theorem cond_XY {r nX nY : Nat} (hnX : 500 ≤ nX) (hnY : 500 ≤ nY) (h : LawOf q op vl kd st hf en X Y) (hr : r < q) (hV : FV X Y) : ∃ v X' Y', f2_reckon nX (nI (2 * r + 1)) X = some (v, X') ∧ f12_comesTo nY (nI (hf r)) (nI (en r)) Y = some (v, Y') ∧ (v = 0 ∨ v = 1) ∧ O16 X X' ∧ O20 Y Y' := by
  obtain ⟨h1, h2, h3, h4⟩ := h
  obtain ⟨a1, ⟨b1, b2, b3⟩, ⟨c1, c2, c3⟩, a4, a5, a6, a7⟩ := h4 r hr
  obtain ⟨v, X', Y', q1, q2, q3, q4⟩ := part_XY (op := op) (vl := vl) (p := 2 * r + 1) hnX hnY (by omega) b2 b3 c2 (by rw [show 2 * r + 1 + 1 = 2 * r + 2 by omega]; exact c3) (fun i hi hi2 => a5 i (by omega) hi2) a7 hV
  exact ⟨v, X', Y', q1, q2, q3 rfl, q4⟩
theorem expr_XY {r nX nY : Nat} (hnX : 500 ≤ nX) (hnY : 500 ≤ nY) (h : LawOf q op vl kd st hf en X Y) (hr : r < q) (hk : kd r ≠ 115) (hV : FV X Y) : ∃ v X' Y', f2_reckon nX (nI (2 * r)) X = some (v, X') ∧ f12_comesTo nY (nI (st r)) (nI (hf r)) Y = some (v, Y') ∧ O16 X X' ∧ O20 Y Y' := by
  obtain ⟨h1, h2, h3, h4⟩ := h
  obtain ⟨a1, ⟨b1, b2, b3⟩, ⟨c1, c2, c3⟩, a4, a5, a6, a7⟩ := h4 r hr
  obtain ⟨v, X', Y', q1, q2, q3, q4⟩ := part_XY (op := op) (vl := vl) (p := 2 * r) hnX hnY (by omega) b1 (by omega) c1 c2 (fun i hi hi2 => a5 i hi (by omega)) (a6 hk) hV
  exact ⟨v, X', Y', q1, q2, q4⟩
end RU
theorem FV.stk {X Y X' Y' : Mem} (h : FV X Y) (hx : O16 X X') (hy : O20 Y Y') : FV X' Y' := fun j hj => by rw [(hx 15 (by decide)).1, (hy 21 (by decide)).1]; exact h j hj
theorem clampXY {v : Int32} {m : Nat} (hm : m < 2 ^ 31) (hm0 : 0 < m) : (if (0 : Int32) < (if v < nI m then v else nI m) then (if v < nI m then v else nI m) else (0 : Int32)) = (if 0 ≤ v then (if v ≤ nI m then v else nI m) else 0) ∧ ∃ k, k ≤ m ∧ (if 0 ≤ v then (if v ≤ nI m then v else nI m) else 0) = nI k := by
  by_cases c1 : 0 ≤ v
  · obtain ⟨k, hk, rfl⟩ := nI_of (Int32.not_lt.mpr c1)
    rw [if_pos c1]
    by_cases c2 : k ≤ m
    · rw [if_pos (nI_le c2 hm)]
      refine ⟨?_, k, c2, rfl⟩
      by_cases c3 : k = m
      · subst c3
        rw [if_neg Int32.lt_irrefl]
        by_cases c4 : k = 0
        · subst c4; decide
        · rw [if_pos (show (0 : Int32) < nI k from nI_lt (a := 0) (by omega) hk)]
      · rw [if_pos (nI_lt (by omega) hm)]
        by_cases c4 : k = 0
        · subst c4; decide
        · rw [if_pos (show (0 : Int32) < nI k from nI_lt (a := 0) (by omega) hk)]
    · rw [if_neg (nI_ge (by omega) hk), if_neg (nI_nlt (by omega) hk), if_pos]
      · exact ⟨rfl, m, Nat.le_refl _, rfl⟩
      · exact nI_lt (a := 0) hm0 hm
  · rw [if_neg c1]
    refine ⟨?_, 0, Nat.zero_le _, rfl⟩
    have hv : v < 0 := Int32.not_le.mp c1
    rw [if_pos (Int32.lt_of_lt_of_le hv (nI_pos' hm)), if_neg (Int32.lt_asymm hv)]
theorem value_loop {q : Nat} {op vl kd st hf en : Nat → Nat} {L m : Nat} (hL : L < 256) (hL2 : L ≠ 115) (hm : m < 2 ^ 31) (hm0 : 0 < m) : ∀ (d r nX nY : Nat) (X Y : Mem), r + d = q → d + 600 < nX → d + 600 < nY → LawOf q op vl kd st hf en X Y → FV X Y → ∃ v X' Y', r2_valueOf nX 2 [nI L, nI m, nI r] [] X = some (nI v, X') ∧ r12_byLaw nY 2 [nI L, nI m, nI r] [] Y = some (nI v, Y') ∧ v ≤ m ∧ O16 X X' ∧ O20 Y Y' := by
  intro d
  induction d with
  | zero =>
    intro r nX nY X Y h1 h2 h2' h hV
    obtain ⟨nX, rfl⟩ : ∃ n', nX = n' + 1 := ⟨nX - 1, by omega⟩
    obtain ⟨nY, rfl⟩ : ∃ n', nY = n' + 1 := ⟨nY - 1, by omega⟩
    have : r = q := by omega
    subst this
    rw [e2_valueOf_2, e12_byLaw_2]
    unfold b2_valueOf_2 b2_valueOf_60 b12_byLaw_2
    rw [h.2.1, h.2.2.1, if_pos (Int32.le_refl _), if_pos (Int32.le_refl _), ← nI_0]
    exact ⟨0, X, Y, rfl, rfl, Nat.zero_le _, O16.refl, O20.refl⟩
  | succ d ih =>
    intro r nX nY X Y h1 h2 h2' h hV
    obtain ⟨nX, rfl⟩ : ∃ n', nX = n' + 1 := ⟨nX - 1, by omega⟩
    obtain ⟨nY, rfl⟩ : ∃ n', nY = n' + 1 := ⟨nY - 1, by omega⟩
    have hr : r < q := by omega
    have hq := h.1
    obtain ⟨⟨a1, a2, a3⟩, a4, a5, ⟨b1, b2, b3⟩, a6⟩ := h.2.2.2 r hr
    have next : ∀ X1 Y1, O16 X X1 → O20 Y Y1 → ∃ v X' Y', (lt (nI r + (1 : Int32)) fun v12 => r2_valueOf nX 2 [nI L, nI m, v12] [] X1) = some (nI v, X') ∧ (lt (nI r + (1 : Int32)) fun v17 => r12_byLaw nY 2 [nI L, nI m, v17] [] Y1) = some (nI v, Y') ∧ v ≤ m ∧ O16 X X' ∧ O20 Y Y' := by
      intro X1 Y1 ox oy
      rw [lt_v, lt_v, nI_1]
      obtain ⟨v, X', Y', q1, q2, q3, q4, q5⟩ := ih (r + 1) nX nY X1 Y1 (by omega) (by omega) (by omega) (h.stk ox oy) (hV.stk ox oy)
      exact ⟨v, X', Y', q1, q2, q3, ox.trans q4, oy.trans q5⟩
    have ckk : ∀ {α : Type} (k : Option α), chk (inb (nI r) 16) k = k := fun k => chk_in (by omega) (by decide)
    rw [e2_valueOf_2, e12_byLaw_2]
    unfold b2_valueOf_2 b2_valueOf_54 b12_byLaw_2 b12_byLaw_83
    rw [h.2.1, h.2.2.1, if_neg (nI_ge hr (by omega)), if_neg (nI_ge hr (by omega)), if_neg (show ¬ (16 : Int32) ≤ nI r from nI_ge (b := 16) (by omega) (by decide))]
    simp only [ckk, nI_clamp (show r < 2 ^ 31 by omega), a2, a3, b2, b3]
    by_cases c : kd r = L
    · rw [if_pos (by rw [c]), if_pos (by rw [c])]
      obtain ⟨v, X1, Y1, q1, q2, q3, q4, q5⟩ := cond_XY (nX := nX) (nY := nY) (by omega) (by omega) h hr hV
      rw [show (2 : Int32) * nI r + (1 : Int32) = nI (2 * r + 1) by rw [show (2 : Int32) = nI 2 from rfl, pk_mul, nI_1], bnd_e q1, bnd_e q2]
      rcases q3 with q3 | q3
      · rw [q3, if_pos rfl, if_neg (by decide)]
        exact next X1 Y1 q4 q5
      · obtain ⟨u, X2, Y2, r1, r2, r3, r4⟩ := expr_XY (nX := nX) (nY := nY) (by omega) (by omega) (h.stk q4 q5) hr (by omega) (hV.stk q4 q5)
        have e17 : Y1.1 17 r = nI (st r) := by rw [(q5 17 (by decide)).1]; exact b1
        have e18 : Y1.1 18 r = nI (hf r) := by rw [(q5 18 (by decide)).1]; exact b2
        rw [q3, if_neg (by decide), if_pos rfl, show (2 : Int32) * nI r = nI (2 * r) from pk_mul 2 r, bnd_e r1, e17, e18, bnd_e r2]
        obtain ⟨k1, k, k2, k3⟩ := clampXY (v := u) hm hm0
        refine ⟨k, X2, Y2, ?_, ?_, k2, q4.trans r3, q5.trans r4⟩
        · rw [k1, k3]
        · rw [← k3]
          by_cases c0 : 0 ≤ u
          · rw [if_pos c0, if_pos c0]
            by_cases c1 : u ≤ nI m
            · rw [if_pos c1, if_pos c1]
            · rw [if_neg c1, if_neg c1]
          · rw [if_neg c0, if_neg c0]
    · have c' : ¬ nI (kd r) = nI L := fun e => c ((nI_eq (by omega) (by omega)).mp e)
      rw [if_neg c', if_neg c']
      exact next X Y O16.refl O20.refl
theorem value_XY {q L m nX nY : Nat} {op vl kd st hf en : Nat → Nat} {X Y : Mem} (hnX : 1000 ≤ nX) (hnY : 1000 ≤ nY) (hL : L < 256) (hL2 : L ≠ 115) (hm : m < 2 ^ 31) (hm0 : 0 < m) (h : LawOf q op vl kd st hf en X Y) (hV : FV X Y) : ∃ v X' Y', f2_valueOf nX (nI L) (nI m) X = some (nI v, X') ∧ f12_byLaw nY (nI L) (nI m) Y = some (nI v, Y') ∧ v ≤ m ∧ O16 X X' ∧ O20 Y Y' := by
  have := h.1
  obtain ⟨v, X', Y', q1, q2, q3⟩ := value_loop hL hL2 hm hm0 q 0 (nX + 1) (nY + 1) X Y (by omega) (by omega) (by omega) h hV
  rw [nI_0, e2_valueOf_2] at q1
  rw [nI_0, e12_byLaw_2] at q2
  exact ⟨v, X', Y', q1, q2, q3⟩
theorem still_loop {q : Nat} {op vl kd st hf en : Nat → Nat} : ∀ (d r nX nY : Nat) (X Y : Mem), r + d = q → d + 600 < nX → d + 600 < nY → LawOf q op vl kd st hf en X Y → FV X Y → ∃ v X' Y', r2_standsStill nX 2 [nI r] [] X = some (v, X') ∧ r12_holdsAny nY 2 [115, nI r] [] Y = some (v, Y') ∧ (v = 0 ∨ v = 1) ∧ O16 X X' ∧ O20 Y Y' := by
  intro d
  induction d with
  | zero =>
    intro r nX nY X Y h1 h2 h2' h hV
    obtain ⟨nX, rfl⟩ : ∃ n', nX = n' + 1 := ⟨nX - 1, by omega⟩
    obtain ⟨nY, rfl⟩ : ∃ n', nY = n' + 1 := ⟨nY - 1, by omega⟩
    have : r = q := by omega
    subst this
    rw [e2_standsStill_2, e12_holdsAny_2]
    unfold b2_standsStill_2 b2_standsStill_47 b12_holdsAny_2
    rw [h.2.1, h.2.2.1, if_pos (Int32.le_refl _), if_pos (Int32.le_refl _)]
    exact ⟨0, X, Y, rfl, rfl, Or.inl rfl, O16.refl, O20.refl⟩
  | succ d ih =>
    intro r nX nY X Y h1 h2 h2' h hV
    obtain ⟨nX, rfl⟩ : ∃ n', nX = n' + 1 := ⟨nX - 1, by omega⟩
    obtain ⟨nY, rfl⟩ : ∃ n', nY = n' + 1 := ⟨nY - 1, by omega⟩
    have hr : r < q := by omega
    have hq := h.1
    obtain ⟨⟨a1, a2, a3⟩, a4, a5, ⟨b1, b2, b3⟩, a6⟩ := h.2.2.2 r hr
    have next : ∀ X1 Y1, O16 X X1 → O20 Y Y1 → ∃ v X' Y', (lt (nI r + (1 : Int32)) fun v9 => r2_standsStill nX 2 [v9] [] X1) = some (v, X') ∧ (lt (nI r + (1 : Int32)) fun v10 => r12_holdsAny nY 2 [115, v10] [] Y1) = some (v, Y') ∧ (v = 0 ∨ v = 1) ∧ O16 X X' ∧ O20 Y Y' := by
      intro X1 Y1 ox oy
      rw [lt_v, lt_v, nI_1]
      obtain ⟨v, X', Y', q1, q2, q3, q4, q5⟩ := ih (r + 1) nX nY X1 Y1 (by omega) (by omega) (by omega) (h.stk ox oy) (hV.stk ox oy)
      exact ⟨v, X', Y', q1, q2, q3, ox.trans q4, oy.trans q5⟩
    have ckk : ∀ {α : Type} (k : Option α), chk (inb (nI r) 16) k = k := fun k => chk_in (by omega) (by decide)
    rw [e2_standsStill_2, e12_holdsAny_2]
    unfold b2_standsStill_2 b2_standsStill_41 b12_holdsAny_2 b12_holdsAny_42
    rw [h.2.1, h.2.2.1, if_neg (nI_ge hr (by omega)), if_neg (nI_ge hr (by omega)), if_neg (show ¬ (16 : Int32) ≤ nI r from nI_ge (b := 16) (by omega) (by decide))]
    simp only [ckk, nI_clamp (show r < 2 ^ 31 by omega), a2, a3, b2, b3]
    by_cases c : kd r = 115
    · rw [if_pos (show nI (kd r) = (115 : Int32) by rw [c]; rfl), if_pos (show nI (kd r) = (115 : Int32) by rw [c]; rfl)]
      obtain ⟨v, X1, Y1, q1, q2, q3, q4, q5⟩ := cond_XY (nX := nX) (nY := nY) (by omega) (by omega) h hr hV
      rw [show (2 : Int32) * nI r + (1 : Int32) = nI (2 * r + 1) by rw [show (2 : Int32) = nI 2 from rfl, pk_mul, nI_1], bnd_e q1, bnd_e q2]
      rcases q3 with q3 | q3
      · rw [q3, if_pos rfl, if_neg (by decide)]
        exact next X1 Y1 q4 q5
      · rw [q3, if_neg (by decide), if_pos rfl]
        exact ⟨1, X1, Y1, rfl, rfl, Or.inr rfl, q4, q5⟩
    · have c' : ¬ nI (kd r) = (115 : Int32) := fun e => c ((nI_eq (b := 115) (by omega) (by decide)).mp e)
      rw [if_neg c', if_neg c']
      exact next X Y O16.refl O20.refl
theorem still_XY {q nX nY : Nat} {op vl kd st hf en : Nat → Nat} {X Y : Mem} (hnX : 1000 ≤ nX) (hnY : 1000 ≤ nY) (h : LawOf q op vl kd st hf en X Y) (hV : FV X Y) : ∃ v X' Y', f2_standsStill nX X = some (v, X') ∧ f12_holdsAny nY 115 Y = some (v, Y') ∧ (v = 0 ∨ v = 1) ∧ O16 X X' ∧ O20 Y Y' := by
  have := h.1
  obtain ⟨v, X', Y', q1, q2, q3⟩ := still_loop q 0 (nX + 1) (nY + 1) X Y (by omega) (by omega) (by omega) h hV
  rw [nI_0, e2_standsStill_2] at q1
  rw [nI_0, e12_holdsAny_2] at q2
  exact ⟨v, X', Y', q1, q2, q3⟩
/-! weights -/
def O15 (X X' : Mem) : Prop := ∀ k, k ≠ 15 → k ≠ 16 → X'.1 k = X.1 k ∧ X'.2 k = X.2 k
def O21 (Y Y' : Mem) : Prop := ∀ k, k ≠ 20 → k ≠ 21 → Y'.1 k = Y.1 k ∧ Y'.2 k = Y.2 k
theorem O15.refl {X : Mem} : O15 X X := fun _ _ _ => ⟨rfl, rfl⟩
theorem O21.refl {X : Mem} : O21 X X := fun _ _ _ => ⟨rfl, rfl⟩
theorem O15.trans {X X1 X2 : Mem} (h : O15 X X1) (g : O15 X1 X2) : O15 X X2 := fun c a b => ⟨(g c a b).1.trans (h c a b).1, (g c a b).2.trans (h c a b).2⟩
theorem O21.trans {X X1 X2 : Mem} (h : O21 X X1) (g : O21 X1 X2) : O21 X X2 := fun c a b => ⟨(g c a b).1.trans (h c a b).1, (g c a b).2.trans (h c a b).2⟩
theorem O16.o15 {X X' : Mem} (h : O16 X X') : O15 X X' := fun c _ b => h c b
theorem O20.o21 {X X' : Mem} (h : O20 X X') : O21 X X' := fun c a _ => h c a
theorem LawOf.vals {q : Nat} {op vl kd st hf en : Nat → Nat} {X Y X' Y' : Mem} (h : LawOf q op vl kd st hf en X Y) (hx : O15 X X') (hy : O21 Y Y') : LawOf q op vl kd st hf en X' Y' := h.keep (fun k hk => (hx k (by rintro rfl; revert hk; decide) (by rintro rfl; revert hk; decide)).1) (by rw [(hy 0 (by decide) (by decide)).1]) (fun k hk => (hy k (by rintro rfl; revert hk; decide) (by rintro rfl; revert hk; decide)).1)
theorem wfill_Y : ∀ (d k n : Nat) (a : Int32) (Y : Mem), k + d = 9 → d < n → ∃ n' Y', n' + d + 1 = n ∧ r12_weightOf n 2 [a, nI k] [] Y = r12_weightOf (n' + 1) 2 [a, nI 9] [] Y' ∧ (∀ j, Y'.1 21 j = if k ≤ j ∧ j < 9 then 0 else Y.1 21 j) ∧ ∀ c, c ≠ 21 → Y'.1 c = Y.1 c ∧ Y'.2 c = Y.2 c := by
  intro d
  induction d with
  | zero =>
    intro k n a Y h1 h2
    obtain ⟨n, rfl⟩ : ∃ n', n = n' + 1 := ⟨n - 1, by omega⟩
    have : k = 9 := by omega
    subst this
    exact ⟨n, Y, rfl, rfl, fun j => by rw [if_neg (by omega)], fun _ _ => ⟨rfl, rfl⟩⟩
  | succ d ih =>
    intro k n a Y h1 h2
    obtain ⟨n, rfl⟩ : ∃ n', n = n' + 1 := ⟨n - 1, by omega⟩
    rw [e12_weightOf_2]
    unfold b12_weightOf_2
    rw [if_neg (show ¬ (9 : Int32) ≤ nI k from nI_ge (b := 9) (by omega) (by decide)), chk_in (by omega) (by decide), lt_v, lt_v, nI_1, nI_clamp (by omega)]
    obtain ⟨n', Y', a0, a1, a2, a3⟩ := ih (k + 1) n a (wI Y 21 k 0) (by omega) (by omega)
    refine ⟨n', Y', by omega, a1, fun j => ?_, fun c hc => ⟨(a3 c hc).1.trans (wI_o c hc).1, (a3 c hc).2.trans (wI_o c hc).2⟩⟩
    rw [a2 j, wI_at, if_pos rfl]
    by_cases q1 : j = k
    · rw [if_neg (by omega), if_pos q1, if_pos (by omega)]
    · rw [if_neg q1]
      by_cases q2 : k + 1 ≤ j ∧ j < 9
      · rw [if_pos q2, if_pos (by omega)]
      · rw [if_neg q2, if_neg (by omega)]
theorem weight_XY {q nX nY h day : Nat} {op vl kd st hf en : Nat → Nat} {X Y : Mem} (hnX : 2000 ≤ nX) (hnY : 2000 ≤ nY) (hl : LawOf q op vl kd st hf en X Y) (hd : day < 2 ^ 31) (hy : Y.1 1 160 = nI day) : ∃ v X' Y', f2_weightOf nX (nI h) (nI day) X = some (nI v, X') ∧ f12_weightOf nY (nI h) Y = some (nI v, Y') ∧ v ≤ 99 ∧ O15 X X' ∧ O21 Y Y' := by
  have fe := fill_spec (n := nX) 15 9 0 X (by omega) (by decide)
  generalize hX1 : wR X 15 (fun j => if j < 9 then 0 else X.1 15 j) = X1 at fe
  have ox1 : O15 X X1 := fun c a b => by rw [← hX1]; exact wR_o c a
  obtain ⟨n', Y1, a0, a1, a2, a3⟩ := wfill_Y 9 0 (nY + 1) (nI h) Y (by omega) (by omega)
  rw [nI_0, e12_weightOf_2] at a1
  have oy1 : O21 Y Y1 := fun c _ b => a3 c b
  have z0 : (0 : Int32).toNatClampNeg = 0 := by decide
  have z1 : (1 : Int32).toNatClampNeg = 1 := by decide
  have z160 : (160 : Int32).toNatClampNeg = 160 := by decide
  have e7 : nI day - nI day / (7 : Int32) * (7 : Int32) = nI (day % 7) := pk_rem (d := 7) hd (by decide) (by decide)
  have ey : f12_weightOf nY (nI h) Y = bnd (f12_byLaw n' (nI 99) (nI 99) (wI (wI Y1 21 0 (nI h)) 21 1 (nI (day % 7)))) fun r7 M8 => some (r7, M8) := by
    unfold f12_weightOf b12_weightOf_0
    rw [a1, e12_weightOf_2]
    unfold b12_weightOf_2
    rw [if_pos (show (9 : Int32) ≤ nI 9 by decide), chk_t (b := inb 0 9) (by decide), lt_v, chk_t (b := inb 160 162) (by decide), chk_t (b := inb 1 9) (by decide), lt_v, z0, z1, z160, show (wI Y1 21 0 (nI h)).1 1 160 = nI day by rw [wI_at, if_neg (by decide), (a3 1 (by decide)).1]; exact hy, e7]
    rfl
  have ex : f2_weightOf nX (nI h) (nI day) X = bnd (f2_valueOf nX (nI 99) (nI 99) (wI (wI X1 15 0 (nI h)) 15 1 (nI (day % 7)))) fun r7 M8 => some (r7, M8) := by
    unfold f2_weightOf b2_weightOf_0 f2_setHour b2_setHour_0
    rw [bnd_e fe, chk_t (b := inb 0 9) (by decide), lt_v, chk_t (b := inb 1 9) (by decide), lt_v, z0, z1, e7, bnd_s']
    rfl
  have ox2 : O15 X (wI (wI X1 15 0 (nI h)) 15 1 (nI (day % 7))) := fun c a b => ⟨(wI_o c a).1.trans ((wI_o c a).1.trans (ox1 c a b).1), (wI_o c a).2.trans ((wI_o c a).2.trans (ox1 c a b).2)⟩
  have oy2 : O21 Y (wI (wI Y1 21 0 (nI h)) 21 1 (nI (day % 7))) := fun c a b => ⟨(wI_o c b).1.trans ((wI_o c b).1.trans (oy1 c a b).1), (wI_o c b).2.trans ((wI_o c b).2.trans (oy1 c a b).2)⟩
  obtain ⟨v, X', Y', q1, q2, q3, q4, q5⟩ := value_XY (L := 99) (m := 99) (nX := nX) (nY := n') (by omega) (by omega) (by decide) (by decide) (by decide) (by decide) (hl.vals ox2 oy2) (fun j hj => by
    have eX : (wI (wI X1 15 0 (nI h)) 15 1 (nI (day % 7))).1 15 j = if j = 1 then nI (day % 7) else if j = 0 then nI h else X1.1 15 j := rfl
    have eY : (wI (wI Y1 21 0 (nI h)) 21 1 (nI (day % 7))).1 21 j = if j = 1 then nI (day % 7) else if j = 0 then nI h else Y1.1 21 j := rfl
    rw [eX, eY, a2 j, if_pos (show 0 ≤ j ∧ j < 9 by omega), show X1.1 15 j = 0 by rw [← hX1, wR_at, if_pos rfl, if_pos hj]])
  exact ⟨v, X', Y', by rw [ex, bnd_e q1], by rw [ey, bnd_e q2], q3, ox2.trans q4.o15, oy2.trans q5.o21⟩
/-- the weights of a day: always the same -/
def isWX (X : Mem) (day h v : Nat) : Prop := ∀ n X', 2000 ≤ n → O15 X X' → ∃ X'', f2_weightOf n (nI h) (nI day) X' = some (nI v, X'') ∧ O15 X X''
def isWY (Y : Mem) (h v : Nat) : Prop := ∀ n Y', 2000 ≤ n → O21 Y Y' → ∃ Y'', f12_weightOf n (nI h) Y' = some (nI v, Y'') ∧ O21 Y Y''
theorem weights {q day : Nat} {op vl kd st hf en : Nat → Nat} {X Y : Mem} (hl : LawOf q op vl kd st hf en X Y) (hd : day < 2 ^ 31) (hy : Y.1 1 160 = nI day) : ∃ w : Nat → Nat, ∀ h, w h ≤ 99 ∧ isWX X day h (w h) ∧ isWY Y h (w h) := by
  have key : ∀ h, ∃ v, v ≤ 99 ∧ isWX X day h v ∧ isWY Y h v := by
    intro h
    obtain ⟨v, X0, Y0, q1, q2, q3, q4, q5⟩ := weight_XY (h := h) (nX := 2000) (nY := 2000) (by decide) (by decide) hl hd hy
    refine ⟨v, q3, fun n X' hn ox => ?_, fun n Y' hn oy => ?_⟩
    · obtain ⟨v', X1, Y1, r1, r2, r3, r4, r5⟩ := weight_XY (h := h) (nX := n) (nY := 2000) hn (by decide) (hl.vals ox O21.refl) hd hy
      rw [q2] at r2
      have e : nI v = nI v' := by
        have := Option.some.inj r2
        exact congrArg Prod.fst this
      rw [← e] at r1
      exact ⟨X1, r1, ox.trans r4⟩
    · obtain ⟨v', X1, Y1, r1, r2, r3, r4, r5⟩ := weight_XY (h := h) (nX := 2000) (nY := n) (Y := Y') (by decide) hn (hl.vals O15.refl oy) hd (by rw [(oy 1 (by decide) (by decide)).1]; exact hy)
      rw [q1] at r1
      have e : nI v = nI v' := by
        have := Option.some.inj r1
        exact congrArg Prod.fst this
      rw [← e] at r2
      exact ⟨Y1, r2, oy.trans r5⟩
  exact Classical.axiomOfChoice key
