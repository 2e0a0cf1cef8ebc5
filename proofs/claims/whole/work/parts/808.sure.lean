/-! LIKELY, WATCH, SURE: the calls -/
section WS
variable {W : Nat} {w : Nat → Nat}
theorem PkX.start {X : Mem} (h : VgX W w 24 X) : PkX W 0 0 (24 - fb_ct (fun h => W.testBit h) 24) w X := by
  obtain ⟨a1, a2, a3, a4, a5⟩ := h
  have e : ∀ k, (!W.testBit k && !(0 : Nat).testBit k) = !W.testBit k := fun k => by simp
  refine ⟨by decide, a1, a2, a3.trans nI_0.symm, a4.trans nI_0.symm, a5, ?_, ?_⟩
  · rw [Nat.zero_add]
    exact tot_cong (fun k _ => e k)
  · rw [fb_ct_cong (q := fun k => !W.testBit k) (fun k _ => e k)]
    have := fb_ct_not (fun h => W.testBit h) 24
    omega
theorem PkX.up_le {P up c : Nat} {X : Mem} (h : PkX W P up c w X) (hw : ∀ h, w h ≤ 99) : up ≤ tot w (fun h => !W.testBit h) 24 ∧ tot w (fun h => !W.testBit h) 24 ≤ 2376 := by
  have := tot_le (w := w) (F := fun h => !W.testBit h) hw 24
  have := h.2.2.2.2.2.2.1
  omega
theorem PkX.free {P up c : Nat} {X : Mem} (h : PkX W P up c w X) (hc : 0 < c) : ∃ h, h < 24 ∧ W.testBit h = false ∧ P.testBit h = false := by
  have := h.2.2.2.2.2.2.2
  obtain ⟨k, k1, k2⟩ := fb_ct_pos.mp (show 0 < fb_ct (fun h => !W.testBit h && !P.testBit h) 24 by omega)
  simp at k2
  exact ⟨k, k1, k2⟩
theorem PkX.none {P up : Nat} {X : Mem} (h : PkX W P up 0 w X) : up = tot w (fun h => !W.testBit h) 24 := by
  obtain ⟨_, _, _, _, _, _, a7, a8⟩ := h
  rw [tot_none (F := fun h => !W.testBit h && !P.testBit h) (fun k hk => fb_ct_zero.mp a8 k hk)] at a7
  omega
theorem watch_loop {k : Nat} {i2 : Int32} (hk : k ≤ 6) (hw : ∀ h, w h ≤ 99) (hW : W < 2 ^ 24) (h0 : 0 < tot w (fun h => !W.testBit h) 24) : ∀ (d i n P up c : Nat) (X Y : Mem), i + d = k → d + 1000 < n → PkX W P up c w X → d ≤ c → VgY W w 24 Y → ∃ r X' Y', r11_watch n 68 [nI k, i2, nI i] [] X = some (r, X') ∧ r12_watch n 56 [nI k, i2, nI (tot w (fun h => !W.testBit h) 24), nI P, nI up, nI i] [] Y = some (r, Y') := by
  intro d
  induction d with
  | zero =>
    intro i n P up c X Y h1 h2 hX hc hY
    obtain ⟨n, rfl⟩ : ∃ n', n = n' + 1 := ⟨n - 1, by omega⟩
    have : i = k := by omega
    subst this
    have hu := hX.up_le hw
    obtain ⟨u, v, g1, g2, g3⟩ := frac (n := n) (a := up) (b := tot w (fun h => !W.testBit h) 24) (by omega) (by omega) h0 (by omega)
    rw [e11_watch_68, e12_watch_56]
    unfold b11_watch_68 b12_watch_56 b11_watch_122
    rw [if_pos (Int32.le_refl _), if_pos (Int32.le_refl _), bnd_e (g3 Y), hX.2.2.1, hX.2.2.2.1, hX.2.2.2.2.1, g1, g2, bnd_s', bnd_s']
    by_cases c0 : i2 = 0
    · rw [if_pos c0, if_pos c0]
      exact ⟨_, _, _, rfl, rfl⟩
    · rw [if_neg c0, if_neg c0]
      by_cases c1 : i2 = 1
      · rw [if_pos c1, if_pos c1, show (wI (wI Y 0 41 u) 0 42 v).1 0 41 = u from rfl]
        exact ⟨_, _, _, rfl, rfl⟩
      · rw [if_neg c1, if_neg c1, show (wI (wI Y 0 41 u) 0 42 v).1 0 42 = v from rfl]
        exact ⟨_, _, _, rfl, rfl⟩
  | succ d ih =>
    intro i n P up c X Y h1 h2 hX hc hY
    obtain ⟨n, rfl⟩ : ∃ n', n = n' + 1 := ⟨n - 1, by omega⟩
    obtain ⟨b, b1, b2, b3, b4, b5⟩ := pick_XY (n := n) (X := X) (Y := Y) (by omega) hw hW hX.1 hX.2.1 hX.2.2.2.1 hX.2.2.2.2.2.1 hY.2 (hX.free (by omega))
    obtain ⟨n1, n2⟩ := hX.next b1 b2 b3
    rw [e11_watch_68, e12_watch_56]
    unfold b11_watch_68 b12_watch_56
    rw [if_neg (nI_ge (by omega) (by omega)), if_neg (nI_ge (by omega) (by omega)), bnd_e b4, bnd_e b5, lt_v, lt_v, chk_in b1 (by decide), lt_v, lt_v, nI_1, shl1 (by omega), fa_or, nI_clamp (by omega), hY.2 b b1, if_neg (show ¬ W.testBit b = true by rw [b2]; decide), nI_add]
    exact ih (i + 1) n _ _ _ _ Y (by omega) (by omega) n1 (by omega) hY
theorem vsure_loop {a : Nat} (ha : a ≤ 100) (hw : ∀ h, w h ≤ 99) (hW : W < 2 ^ 24) : ∀ (d i n P up c : Nat) (X Y : Mem), i + d = 24 → d + 1000 < n → PkX W P up c w X → c + i ≤ 24 → VgY W w 24 Y → ∃ r X' Y', r11_sure n 42 [nI a, nI i] [] X = some (r, X') ∧ r12_sure n 32 [nI a, nI (tot w (fun h => !W.testBit h) 24), nI P, nI up, nI i] [] Y = some (r, Y') := by
  intro d
  induction d with
  | zero =>
    intro i n P up c X Y h1 h2 hX hc hY
    obtain ⟨n, rfl⟩ : ∃ n', n = n' + 1 := ⟨n - 1, by omega⟩
    have : i = 24 := by omega
    subst this
    have : c = 0 := by omega
    subst this
    have hu := hX.up_le hw
    have hn := hX.none
    have hm := Nat.mul_le_mul_right (tot w (fun h => !W.testBit h) 24) ha
    rw [e11_sure_42, e12_sure_32]
    unfold b11_sure_42 b12_sure_32 b11_sure_83
    rw [if_pos (show (24 : Int32) ≤ nI 24 by decide), pk_mul, show (100 : Int32) = nI 100 from rfl, pk_mul, if_pos (nI_le (by omega) (by omega))]
    exact ⟨_, _, _, rfl, rfl⟩
  | succ d ih =>
    intro i n P up c X Y h1 h2 hX hc hY
    obtain ⟨n, rfl⟩ : ∃ n', n = n' + 1 := ⟨n - 1, by omega⟩
    have hu := hX.up_le hw
    have hm := Nat.mul_le_mul_right (tot w (fun h => !W.testBit h) 24) ha
    rw [e11_sure_42, e12_sure_32]
    unfold b11_sure_42 b12_sure_32 b11_sure_83
    rw [if_neg (show ¬ (24 : Int32) ≤ nI i from nI_ge (b := 24) (by omega) (by decide)), hX.2.2.1, hX.2.2.2.2.1, pk_mul, show (100 : Int32) = nI 100 from rfl, pk_mul, pk_mul, Nat.mul_comm up 100]
    by_cases q : a * tot w (fun h => !W.testBit h) 24 ≤ 100 * up
    · rw [if_pos (nI_le q (by omega)), if_pos (nI_le q (by omega))]
      exact ⟨_, _, _, rfl, rfl⟩
    · rcases Nat.eq_zero_or_pos c with c0 | c0
      · subst c0
        have := hX.none
        exfalso
        rw [this] at q
        omega
      · obtain ⟨b, b1, b2, b3, b4, b5⟩ := pick_XY (n := n) (X := X) (Y := Y) (by omega) hw hW hX.1 hX.2.1 hX.2.2.2.1 hX.2.2.2.2.2.1 hY.2 (hX.free c0)
        obtain ⟨n1, n2⟩ := hX.next b1 b2 b3
        rw [if_neg (nI_ge (by omega) (by omega)), if_neg (nI_ge (by omega) (by omega)), bnd_e b4, bnd_e b5, lt_v, lt_v, chk_in b1 (by decide), lt_v, lt_v, nI_1, shl1 (by omega), fa_or, nI_clamp (by omega), hY.2 b b1, if_neg (show ¬ W.testBit b = true by rw [b2]; decide), nI_add]
        exact ih (i + 1) n _ _ _ _ Y (by omega) (by omega) n1 (by omega) hY
end WS
theorem vig_start {FU t : Nat} {Mx My : Mem} (hFU : 10000000 ≤ FU) (h : Inv Lw t Mx My) : ∃ (W day : Nat) (w : Nat → Nat) (X Y : Mem), W < 2 ^ 24 ∧ (∀ h, w h ≤ 99) ∧ Mx.1 330 2 = nI day ∧ day ≤ 9999 ∧ My.1 1 160 = nI day ∧ (∀ h, WtX Mx day h (w h)) ∧ (∀ h, WtY My h (w h)) ∧ f9_weigh FU (Mx.1 330 2) Mx = some ((), X) ∧ VgX W w 24 X ∧ f12_laysWeights FU My = some (nI (tot w (fun h => !W.testBit h) 24), Y) ∧ VgY W w 24 Y ∧ tot w (fun h => !W.testBit h) 24 ≤ 2376 := by
  obtain ⟨⟨⟨sq, kd, dr, h1⟩, ⟨q, op, vl, ks, st, hf, en, h2⟩⟩, h3, ⟨h4, W, h4a, h4b⟩, h5⟩ := h
  obtain ⟨day, d1, d2⟩ := h5.2.1.2.2.2.2.2.2.1
  have d3 : My.1 1 160 = nI day := by rw [← d2]; exact h5.1.2.2.2.2.2.2.1.symm
  obtain ⟨w, hw⟩ := weights2 h2 (by omega) d3
  obtain ⟨X, x1, x2⟩ := weigh_X (n := FU) (W := W) (w := w) (by omega) h4a h4b (fun h => ⟨(hw h).1, (hw h).2.1⟩)
  obtain ⟨Y, y1, y2⟩ := wlay_Y (n := FU) (W := W) (w := w) (by omega) h4a (h4.symm.trans h4b) (fun h => ⟨(hw h).1, (hw h).2.2⟩)
  have := tot_le (w := w) (F := fun h => !W.testBit h) (fun h => (hw h).1) 24
  exact ⟨W, day, w, X, Y, h4a, fun h => (hw h).1, d2, d1, d3, fun h => (hw h).2.1, fun h => (hw h).2.2, by rw [d2]; exact x1, x2, y1, y2, by omega⟩
theorem nI_in0 {a : Int32} {lo hi : Nat} (hh : hi < 2 ^ 31) (c1 : ¬ a < nI lo) (c2 : ¬ nI hi < a) (hlo : lo ≤ hi) : ∃ k, lo ≤ k ∧ k ≤ hi ∧ a = nI k := by
  have c0 : ¬ a < 0 := fun e => c1 (Int32.lt_of_lt_of_le e (nI_pos' (by omega)))
  obtain ⟨k, hk, rfl⟩ := nI_of c0
  refine ⟨k, Nat.le_of_not_lt fun e => c1 (nI_lt e (by omega)), Nat.le_of_not_lt fun e => c2 (nI_lt e hk), rfl⟩
/-- PROMISE 11: likely -/
theorem st_likely {FU : Nat} (hFU : 10000000 ≤ FU) (t : Nat) (Mx My : Mem) (a0 a1 : Int32) (ht : t < 3072) (h : Inv Lw t Mx My) : ∃ (r : Int32) (Mx' My' : Mem), f11_likely FU a0 a1 Mx = some (r, Mx') ∧ f12_likely FU a0 a1 My = some (r, My') ∧ Inv Lw (t + 6) Mx' My' := by
  have key : ∃ r Mx' My', f11_likely FU a0 a1 Mx = some (r, Mx') ∧ f12_likely FU a0 a1 My = some (r, My') := by
    obtain ⟨W, day, w, X, Y, p1, p2, p3, p4, p5, p6, p7, p8, p9, p10, p11, p12⟩ := vig_start hFU h
    unfold f11_likely b11_likely_0 b11_likely_19 b11_likely_56 b11_likely_84 f12_likely b12_likely_0 b12_likely_19 b12_likely_40
    rw [in_e, bnd_s', in_e, bnd_s']
    by_cases c1 : a0 < 0
    · rw [if_pos c1, if_pos (Or.inl c1), if_pos rfl]
      exact ⟨_, _, _, rfl, rfl⟩
    · by_cases c2 : (24 : Int32) ≤ a0
      · rw [if_neg c1, if_pos c2, if_pos (Or.inr (Int32.lt_of_lt_of_le (by decide) c2)), if_pos rfl]
        exact ⟨_, _, _, rfl, rfl⟩
      · have c2' : ¬ (23 : Int32) < a0 := fun q => by
          obtain ⟨k, hk, rfl⟩ := nI_of c1
          have : nI 23 < nI k := q
          rw [nI_ltI (by decide) hk] at this
          exact c2 (nI_le (a := 24) this hk)
        obtain ⟨k, _, hk, rfl⟩ := nI_in0 (lo := 0) (hi := 23) (by decide) c1 c2' (by decide)
        rw [if_neg c1, if_neg c2, if_neg (show ¬ (nI k < 0 ∨ 23 < nI k) from fun q => q.elim c1 c2'), if_neg (show ¬ (1 : Int32) = 0 by decide)]
        by_cases c3 : a1 < 0
        · rw [if_pos c3, if_pos (Or.inl c3), if_pos rfl]
          exact ⟨_, _, _, rfl, rfl⟩
        · by_cases c4 : a1 ≤ 1
          · rw [if_neg c3, if_pos c4, if_neg (show ¬ (a1 < 0 ∨ 1 < a1) from fun q => q.elim c3 (Int32.not_lt.mpr c4)), if_neg (show ¬ (1 : Int32) = 0 by decide), bnd_e p8, watched_X p9.1 p1 (by omega), bnd_s', bnd_e p10, p9.2.1, chk_in (show k < 24 by omega) (by decide), chk_in (show k < 24 by omega) (by decide), chk_in (show k < 24 by omega) (by decide), nI_clamp (by omega), p11.2 k (by omega), p9.2.2.2.2 k (by omega)]
            rcases Nat.eq_zero_or_pos (tot w (fun h => !W.testBit h) 24) with e0 | e0
            · rw [e0, nI_0, if_pos rfl, if_pos rfl]
              refine ⟨-2, X, Y, ?_, rfl⟩
              split <;> rfl
            · rw [if_neg (nI_ne0 e0 (by omega)), if_neg (nI_ne0 e0 (by omega))]
              by_cases cW : W.testBit k = true
              · rw [if_pos cW, if_neg (show ¬ (1 : Int32) = 0 by decide), if_pos cW, if_pos rfl]
                exact ⟨_, _, _, rfl, rfl⟩
              · have := p2 k
                obtain ⟨u, v, g1, g2, g3⟩ := frac (n := FU) (a := w k) (b := tot w (fun h => !W.testBit h) 24) (by omega) (by omega) e0 (by omega)
                rw [if_neg cW, if_pos rfl, if_neg cW, if_neg (nI_m1 (by omega)), bnd_e (g3 Y), g1, g2, bnd_s', bnd_s']
                by_cases c0 : a1 = 0
                · rw [if_pos c0, if_pos c0, show (wI (wI Y 0 41 u) 0 42 v).1 0 41 = u from rfl]
                  exact ⟨_, _, _, rfl, rfl⟩
                · rw [if_neg c0, if_neg c0, show (wI (wI Y 0 41 u) 0 42 v).1 0 42 = v from rfl]
                  exact ⟨_, _, _, rfl, rfl⟩
          · rw [if_neg c3, if_neg c4, if_pos (show (a1 < 0 ∨ 1 < a1) from Or.inr (Int32.not_le.mp c4)), if_pos rfl]
            exact ⟨_, _, _, rfl, rfl⟩
  obtain ⟨r, Mx', My', x, y⟩ := key
  exact ⟨r, Mx', My', x, y, InvOf.ask2 (RsT.ok Lw.ok) h (fr11_likely x) (fq11_likely x) (fr12_likely y) (fq12_likely y) (by decide) (by decide) (by decide) (by decide)⟩
/-- PROMISE 12: watch -/
theorem st_watch {FU : Nat} (hFU : 10000000 ≤ FU) (t : Nat) (Mx My : Mem) (a0 a1 : Int32) (ht : t < 3072) (h : Inv Lw t Mx My) : ∃ (r : Int32) (Mx' My' : Mem), f11_watch FU a0 a1 Mx = some (r, Mx') ∧ f12_watch FU a0 a1 My = some (r, My') ∧ Inv Lw (t + 6) Mx' My' := by
  have key : ∃ r Mx' My', f11_watch FU a0 a1 Mx = some (r, Mx') ∧ f12_watch FU a0 a1 My = some (r, My') := by
    obtain ⟨W, day, w, X, Y, p1, p2, p3, p4, p5, p6, p7, p8, p9, p10, p11, p12⟩ := vig_start hFU h
    unfold f11_watch b11_watch_0 b11_watch_20 b11_watch_63 f12_watch b12_watch_0 b12_watch_19 b12_watch_44
    rw [in_e, bnd_s', in_e, bnd_s']
    by_cases c1 : a0 < 1
    · rw [if_pos c1, if_pos (Or.inl c1), if_pos rfl]
      exact ⟨_, _, _, rfl, rfl⟩
    · by_cases c2 : 6 < a0
      · rw [if_neg c1, if_pos c2, if_pos (Or.inr c2), if_pos rfl]
        exact ⟨_, _, _, rfl, rfl⟩
      · obtain ⟨k, _, hk, rfl⟩ := nI_in0 (lo := 1) (hi := 6) (by decide) c1 c2 (by decide)
        rw [if_neg c1, if_neg c2, if_neg (show ¬ (nI k < 1 ∨ 6 < nI k) from fun q => q.elim c1 c2), if_neg (show ¬ (1 : Int32) = 0 by decide)]
        by_cases c3 : a1 < 0
        · rw [if_pos c3, if_pos (Or.inl c3), if_pos rfl]
          exact ⟨_, _, _, rfl, rfl⟩
        · by_cases c4 : a1 ≤ 2
          · have e32 : fb_ct (fun i => W.testBit i) 32 = fb_ct (fun i => W.testBit i) 24 := by
              have hz : fb_ct (fun k => W.testBit (24 + k)) 8 = 0 := fb_ct_zero.mpr (fun j _ => Nat.testBit_lt_two_pow (Nat.lt_of_lt_of_le p1 (Nat.pow_le_pow_right (by decide) (Nat.le_add_right 24 j))))
              rw [show (32 : Nat) = 24 + 8 from rfl, fb_ct_split, hz, Nat.add_zero]
            have hb := fb_ct_le (fun i => W.testBit i) 24
            rw [if_neg c3, if_pos c4, if_neg (show ¬ (a1 < 0 ∨ 2 < a1) from fun q => q.elim c3 (Int32.not_lt.mpr c4)), if_neg (show ¬ (1 : Int32) = 0 by decide), bnd_e p8, p9.1, bitI (by omega), bnd_s', e32, bnd_e p10, p11.1, bits_Y (by omega) (by omega), bnd_s', p9.2.1, show (24 : Int32) = nI 24 from rfl, pk_sub hb]
            rcases Nat.eq_zero_or_pos (tot w (fun h => !W.testBit h) 24) with e0 | e0
            · rw [e0, nI_0, if_pos rfl, if_pos rfl]
              refine ⟨-2, X, Y, ?_, rfl⟩
              split <;> rfl
            · rw [if_neg (nI_ne0 e0 (by omega)), if_neg (nI_ne0 e0 (by omega))]
              by_cases c5 : k ≤ 24 - fb_ct (fun i => W.testBit i) 24
              · rw [if_neg (nI_nlt c5 (by omega)), if_pos (nI_le c5 (by omega))]
                have g := watch_loop (i2 := a1) hk p2 p1 e0 k 0 (FU + 1) 0 0 _ X Y (by omega) (by omega) (PkX.start p9) c5 p11
                rw [e11_watch_68, e12_watch_56, nI_0] at g
                exact g
              · rw [if_pos (nI_lt (by omega) (by omega)), if_neg (nI_ge (by omega) (by omega))]
                exact ⟨_, _, _, rfl, rfl⟩
          · rw [if_neg c3, if_neg c4, if_pos (show (a1 < 0 ∨ 2 < a1) from Or.inr (Int32.not_le.mp c4)), if_pos rfl]
            exact ⟨_, _, _, rfl, rfl⟩
  obtain ⟨r, Mx', My', x, y⟩ := key
  exact ⟨r, Mx', My', x, y, InvOf.ask2 (RsT.ok Lw.ok) h (fr11_watch x) (fq11_watch x) (fr12_watch y) (fq12_watch y) (by decide) (by decide) (by decide) (by decide)⟩
/-- PROMISE 13: sure -/
theorem st_sure {FU : Nat} (hFU : 10000000 ≤ FU) (t : Nat) (Mx My : Mem) (a0 : Int32) (ht : t < 3072) (h : Inv Lw t Mx My) : ∃ (r : Int32) (Mx' My' : Mem), f11_sure FU a0 Mx = some (r, Mx') ∧ f12_sure FU a0 My = some (r, My') ∧ Inv Lw (t + 6) Mx' My' := by
  have key : ∃ r Mx' My', f11_sure FU a0 Mx = some (r, Mx') ∧ f12_sure FU a0 My = some (r, My') := by
    obtain ⟨W, day, w, X, Y, p1, p2, p3, p4, p5, p6, p7, p8, p9, p10, p11, p12⟩ := vig_start hFU h
    unfold f11_sure b11_sure_0 b11_sure_11 f12_sure b12_sure_0
    rw [in_e, bnd_s']
    by_cases c1 : a0 < 1
    · rw [if_pos c1, if_pos (Or.inl c1), if_pos rfl]
      exact ⟨_, _, _, rfl, rfl⟩
    · by_cases c2 : a0 ≤ 100
      · obtain ⟨k, _, hk, rfl⟩ := nI_in0 (lo := 1) (hi := 100) (by decide) c1 (Int32.not_lt.mpr c2) (by decide)
        rw [if_neg c1, if_pos c2, if_neg (show ¬ (nI k < 1 ∨ 100 < nI k) from fun q => q.elim c1 (Int32.not_lt.mpr c2)), if_neg (show ¬ (1 : Int32) = 0 by decide), bnd_e p8, bnd_e p10, p9.2.1]
        rcases Nat.eq_zero_or_pos (tot w (fun h => !W.testBit h) 24) with e0 | e0
        · rw [e0, nI_0, if_pos rfl, if_pos rfl]
          exact ⟨_, _, _, rfl, rfl⟩
        · rw [if_neg (nI_ne0 e0 (by omega)), if_neg (nI_ne0 e0 (by omega))]
          have g := vsure_loop hk p2 p1 24 0 (FU + 1) 0 0 _ X Y (by omega) (by omega) (PkX.start p9) (by omega) p11
          rw [e11_sure_42, e12_sure_32, nI_0] at g
          exact g
      · rw [if_neg c1, if_neg c2, if_pos (Or.inr (Int32.not_le.mp c2)), if_pos rfl]
        exact ⟨_, _, _, rfl, rfl⟩
  obtain ⟨r, Mx', My', x, y⟩ := key
  exact ⟨r, Mx', My', x, y, InvOf.ask2 (RsT.ok Lw.ok) h (fr11_sure x) (fq11_sure x) (fr12_sure y) (fq12_sure y) (by decide) (by decide) (by decide) (by decide)⟩
