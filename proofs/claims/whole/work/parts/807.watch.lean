/-! LIKELY, WATCH, SURE -/
section PK
variable {W P : Nat} {w : Nat → Nat}
theorem pbit {M : Mem} {i : Nat} (h : M.1 25 6 = nI P) (hP : P < 2 ^ 24) (hi : i < 31) : ((((M.1 25 6) >>> (nI i &&& 31)) &&& (1 : Int32)) = 0) = (P.testBit i = false) := by
  rw [h, pk_shrN (by omega) _ i (s_l i (by omega)), show (1 : Int32) = nI (2 ^ 1 - 1) from rfl, fa_mask, Nat.testBit_eq_decide_div_mod_eq]
  have : P / 2 ^ i % 2 = 0 ∨ P / 2 ^ i % 2 = 1 := by omega
  rw [show (2 : Nat) ^ 1 = 2 from rfl]
  rcases this with e | e <;> rw [e]
  · exact propext ⟨fun _ => by decide, fun _ => nI_0⟩
  · exact propext ⟨fun q => absurd q (by decide), fun q => absurd q (by decide)⟩
/-- where the search for the heaviest hour stands -/
def PkAt (W P : Nat) (w : Nat → Nat) (i : Nat) (most ans best : Int32) : Prop := (most = -1 ∧ ans = 0 ∧ best = -1 ∧ ∀ h, h < i → W.testBit h = true ∨ P.testBit h = true) ∨ ∃ b, b < i ∧ W.testBit b = false ∧ P.testBit b = false ∧ most = nI (w b) ∧ ans = nI b ∧ best = nI b
theorem pick_loop {X Y : Mem} (hw : ∀ h, w h ≤ 99) (hW : W < 2 ^ 24) (hP : P < 2 ^ 24) (x2 : X.1 25 2 = nI W) (x6 : X.1 25 6 = nI P) (x26 : ∀ h, h < 24 → X.1 26 h = nI (w h)) (y23 : ∀ h, h < 24 → Y.1 23 h = if W.testBit h = true then -1 else nI (w h)) : ∀ (d i nX nY : Nat) (most ans best : Int32), i + d = 24 → d < nX → d < nY → PkAt W P w i most ans best → ((∀ h, h < 24 → W.testBit h = true ∨ P.testBit h = true) ∧ r9_pickHeaviest nX 6 [most, ans, nI i] [] X = some ((), X) ∧ r12_nextHour nY 4 [nI P, best, nI i] [] Y = some (-1, Y)) ∨ ∃ b, b < 24 ∧ W.testBit b = false ∧ P.testBit b = false ∧ r9_pickHeaviest nX 6 [most, ans, nI i] [] X = some ((), wI (wI X 25 6 (nI (P ||| 2 ^ b))) 25 7 (X.1 25 7 + nI (w b))) ∧ r12_nextHour nY 4 [nI P, best, nI i] [] Y = some (nI b, Y) := by
  intro d
  induction d with
  | zero =>
    intro i nX nY most ans best h1 h2 h3 h
    obtain ⟨nX, rfl⟩ : ∃ n', nX = n' + 1 := ⟨nX - 1, by omega⟩
    obtain ⟨nY, rfl⟩ : ∃ n', nY = n' + 1 := ⟨nY - 1, by omega⟩
    have : i = 24 := by omega
    subst this
    rw [e9_pickHeaviest_6, e12_nextHour_4]
    unfold b9_pickHeaviest_6 b12_nextHour_4
    simp only [show ((24 : Int32) ≤ nI 24) = True from eq_true (by decide), if_true]
    rcases h with ⟨rfl, rfl, rfl, h⟩ | ⟨b, b1, b2, b3, rfl, rfl, rfl⟩
    · rw [if_pos (by decide)]
      exact Or.inl ⟨h, rfl, rfl⟩
    · have := hw b
      rw [if_neg (nI_pos (by omega)), lt_v, lt_v, x6, shl1 (by omega), fa_or]
      exact Or.inr ⟨b, b1, b2, b3, rfl, rfl⟩
  | succ d ih =>
    intro i nX nY most ans best h1 h2 h3 h
    obtain ⟨nX, rfl⟩ : ∃ n', nX = n' + 1 := ⟨nX - 1, by omega⟩
    obtain ⟨nY, rfl⟩ : ∃ n', nY = n' + 1 := ⟨nY - 1, by omega⟩
    have z : (24 : Nat) < 2 ^ 31 := by decide
    have hwi := hw i
    rw [e9_pickHeaviest_6, e12_nextHour_4]
    unfold b9_pickHeaviest_6 b12_nextHour_4 b9_pickHeaviest_35 b9_pickHeaviest_36 b9_pickHeaviest_62 b12_nextHour_51 b12_nextHour_53
    rw [if_neg (show ¬ (24 : Int32) ≤ nI i from nI_ge (b := 24) (by omega) (by decide)), if_neg (show ¬ (24 : Int32) ≤ nI i from nI_ge (b := 24) (by omega) (by decide)), watched_X x2 hW (by omega), bnd_s', has_Y (by omega) (by omega), bnd_s']
    simp only [pbit x6 hP (show i < 31 by omega), lt_v, nI_1, chk_in (show i < 24 by omega) z, nI_clamp (show i < 2 ^ 31 by omega), x26 i (by omega), y23 i (by omega), if_true, show ((1 : Int32) = 0) = False from eq_false (by decide), if_false]
    have skip : (W.testBit i = true ∨ P.testBit i = true) → PkAt W P w (i + 1) most ans best := by
      intro q
      rcases h with ⟨a, b, c, h⟩ | ⟨b, b1, b2⟩
      · refine Or.inl ⟨a, b, c, fun h' hh => ?_⟩
        by_cases e : h' = i
        · rw [e]; exact q
        · exact h h' (by omega)
      · exact Or.inr ⟨b, by omega, b2⟩
    by_cases cW : W.testBit i = true
    · simp only [cW, if_true, show ((1 : Int32) = 0) = False from eq_false (by decide), if_false]
      by_cases cP : P.testBit i = true
      · rw [if_pos cP, if_neg (by decide)]
        exact ih (i + 1) nX nY most ans best (by omega) (by omega) (by omega) (skip (Or.inl cW))
      · rw [if_neg cP, if_pos rfl]
        exact ih (i + 1) nX nY most ans best (by omega) (by omega) (by omega) (skip (Or.inl cW))
    · rw [if_neg cW, if_pos rfl]
      by_cases cP : P.testBit i = true
      · rw [if_neg (by rw [cP]; decide), if_pos cP, if_neg (by decide)]
        exact ih (i + 1) nX nY most ans best (by omega) (by omega) (by omega) (skip (Or.inr cP))
      · have cP' : P.testBit i = false := by simpa using cP
        have cW' : W.testBit i = false := by simpa using cW
        rw [if_pos cP', if_neg cP, if_pos rfl, if_neg cW, if_neg (nI_m1 (by omega))]
        rcases h with ⟨rfl, rfl, rfl, h⟩ | ⟨b, b1, b2, b3, rfl, rfl, rfl⟩
        · rw [if_neg (show ¬ nI (w i) ≤ (-1 : Int32) from fun q => by
            rw [Int32.le_iff_toInt_le, nI_toInt (by omega), i_m1] at q
            omega), if_pos rfl]
          exact ih (i + 1) nX nY _ _ _ (by omega) (by omega) (by omega) (Or.inr ⟨i, by omega, cW', cP', rfl, rfl, rfl⟩)
        · rw [if_neg (nI_m1 (by omega)), chk_in (by omega) z, nI_clamp (by omega), y23 b (by omega), if_neg (show ¬ W.testBit b = true by rw [b2]; decide)]
          by_cases c : nI (w i) ≤ nI (w b)
          · rw [if_pos c, if_pos c]
            exact ih (i + 1) nX nY _ _ _ (by omega) (by omega) (by omega) (Or.inr ⟨b, by omega, b2, b3, rfl, rfl, rfl⟩)
          · rw [if_neg c, if_neg c]
            exact ih (i + 1) nX nY _ _ _ (by omega) (by omega) (by omega) (Or.inr ⟨i, by omega, cW', cP', rfl, rfl, rfl⟩)
theorem pick_XY {n : Nat} {X Y : Mem} (hn : 100 ≤ n) (hw : ∀ h, w h ≤ 99) (hW : W < 2 ^ 24) (hP : P < 2 ^ 24) (x2 : X.1 25 2 = nI W) (x6 : X.1 25 6 = nI P) (x26 : ∀ h, h < 24 → X.1 26 h = nI (w h)) (y23 : ∀ h, h < 24 → Y.1 23 h = if W.testBit h = true then -1 else nI (w h)) (hf : ∃ h, h < 24 ∧ W.testBit h = false ∧ P.testBit h = false) : ∃ b, b < 24 ∧ W.testBit b = false ∧ P.testBit b = false ∧ f9_pickHeaviest n X = some ((), wI (wI X 25 6 (nI (P ||| 2 ^ b))) 25 7 (X.1 25 7 + nI (w b))) ∧ f12_nextHour n (nI P) Y = some (nI b, Y) := by
  have g := pick_loop hw hW hP x2 x6 x26 y23 24 0 (n + 1) (n + 1) (-1) 0 (-1) (by omega) (by omega) (by omega) (Or.inl ⟨rfl, rfl, rfl, fun h hh => by omega⟩)
  rw [e9_pickHeaviest_6, e12_nextHour_4, nI_0] at g
  refine g.resolve_left (fun ⟨q, _⟩ => ?_)
  obtain ⟨h, h1, h2, h3⟩ := hf
  have := q h h1
  rw [h2, h3] at this
  simp at this
end PK
/-- how the picking stands: P picked, up their weight, c hours are free -/
def PkX (W P up c : Nat) (w : Nat → Nat) (X : Mem) : Prop := P < 2 ^ 24 ∧ X.1 25 2 = nI W ∧ X.1 25 5 = nI (tot w (fun h => !W.testBit h) 24) ∧ X.1 25 6 = nI P ∧ X.1 25 7 = nI up ∧ (∀ h, h < 24 → X.1 26 h = nI (w h)) ∧ up + tot w (fun h => !W.testBit h && !P.testBit h) 24 = tot w (fun h => !W.testBit h) 24 ∧ fb_ct (fun h => !W.testBit h && !P.testBit h) 24 = c
theorem PkX.next {W P up c b : Nat} {w : Nat → Nat} {X : Mem} (h : PkX W P up c w X) (hb : b < 24) (hW : W.testBit b = false) (hP : P.testBit b = false) : PkX W (P ||| 2 ^ b) (up + w b) (c - 1) w (wI (wI X 25 6 (nI (P ||| 2 ^ b))) 25 7 (X.1 25 7 + nI (w b))) ∧ 1 ≤ c := by
  obtain ⟨a1, a2, a3, a4, a5, a6, a7, a8⟩ := h
  have hbit : ∀ h, (P ||| 2 ^ b).testBit h = (P.testBit h || decide (h = b)) := fun h => by
    rw [fb_bit_set]
  have e0 : (!W.testBit b && !P.testBit b) = true := by rw [hW, hP]; rfl
  have e1 := tot_take (w := w) (F := fun h => !W.testBit h && !P.testBit h) (G := fun h => !W.testBit h && !(P ||| 2 ^ b).testBit h) (b := b) e0 (by simp [hbit]) (fun k hk => by simp [hbit, hk]) hb
  have e2 := fb_ct_upd (fun h => !W.testBit h && !P.testBit h) false (i := b) hb
  have e3 : fb_ct (fun k => if k = b then false else (!W.testBit k && !P.testBit k)) 24 = fb_ct (fun h => !W.testBit h && !(P ||| 2 ^ b).testBit h) 24 := fb_ct_cong (fun k hk => by
    rw [hbit]
    by_cases e : k = b <;> simp [e])
  rw [e0] at e2
  simp only [if_true] at e2
  rw [e3, a8] at e2
  simp only [Bool.false_eq_true, if_false] at e2
  refine ⟨⟨Nat.or_lt_two_pow a1 (Nat.pow_lt_pow_right (by decide) hb), a2, a3, ?_, ?_, a6, ?_, by omega⟩, by omega⟩
  · rw [wI_at, if_pos rfl, if_neg (by decide), wI_at, if_pos rfl, if_pos rfl]
  · rw [wI_at, if_pos rfl, if_pos rfl, a5, nI_add]
  · omega
