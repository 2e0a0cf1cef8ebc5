/-! PROMISES 8, 9, 29: days, tried, count -/
theorem GW.of {sq t : Nat} {kd dr : Nat → Nat} {Mx My : Mem} (h1 : TownOf sq kd dr t Mx My) (h2 : Lw Mx My) : GW sq kd dr Mx My := ⟨h1.1, h1.2.1, h1.2.2.1.2.1, h1.2.2.1.2.2, h1.2.2.2.1.1, h1.2.2.2.2.1, h2⟩
theorem Inv.walk {sq t : Nat} {kd dr : Nat → Nat} {Mx My Mx' My' : Mem} (h1 : TownOf sq kd dr t Mx My) (h3 : Tp Mx My) (h4 : Wt Mx My) (hG : GW sq kd dr Mx' My') (hC : Cs Mx' My') (fx : ∀ k, k ∈ ([1, 2, 3, 4, 6, 7, 8, 10, 25, 326, 327] : List Nat) → Mx'.1 k = Mx.1 k ∧ Mx'.2 k = Mx.2 k) (f8 : My'.1 8 = My.1 8) (f5 : My'.1 5 = My.1 5) (q11 : My'.1 0 11 = My.1 0 11) (q6 : My'.1 0 6 = My.1 0 6) : Inv Lw (t + 6) Mx' My' :=
  ⟨⟨⟨sq, kd, dr, h1.keep (by omega) (fun k hk => fx k (by revert hk; revert k; decide)) (h1.2.2.1.1.keep (fx 10 (by decide)).2) hG.2.1 f5⟩, hG.2.2.2.2.2.2⟩, h3.keep (by rw [(fx 1 (by decide)).1]) (fx 2 (by decide)).1 q11 f8, h4.keep (by rw [(fx 25 (by decide)).1]) q6, hC⟩
/-- PROMISE 8: days -/
theorem st_days {FU : Nat} (hFU : 10000000 ≤ FU) (t : Nat) (Mx My : Mem) (a0 : Int32) (ht : t < 3072) (h : Inv Lw t Mx My) : ∃ (r : Int32) (Mx' My' : Mem), f11_days FU a0 Mx = some (r, Mx') ∧ f12_days FU a0 My = some (r, My') ∧ Inv Lw (t + 6) Mx' My' := by
  have h0 := h
  obtain ⟨⟨⟨sq, kd, dr, h1⟩, h2⟩, h3, h4, h5⟩ := h
  by_cases c1 : a0 < 1 ∨ 30 < a0
  · refine ⟨-1, Mx, My, ?_, ?_, h0.same Lw.ok⟩
    · unfold f11_days b11_days_0 b11_days_11
      by_cases q : a0 < 1
      · rw [if_pos q]
      · rw [if_neg q, if_neg (Int32.not_le.mpr (c1.resolve_left q))]
    · unfold f12_days b12_days_0
      rw [in_e, bnd_s', if_pos c1, if_pos rfl]
  · have q1 : ¬ a0 < 1 := fun e => c1 (Or.inl e)
    have q2 : ¬ 30 < a0 := fun e => c1 (Or.inr e)
    obtain ⟨N, _, hN, rfl⟩ := nI_in0 (lo := 1) (hi := 30) (by decide) q1 q2 (by decide)
    obtain ⟨wr, wa, d, x, hv, s, cl, f, k1, k2, k3⟩ := of_CR h5.1 h5.2.1
    have g0 : GW sq kd dr Mx (wI (wI (wI My 0 37 0) 0 38 0) 0 39 0) := (GW.of h1 h2).o (((OY.w0 (Or.inl rfl)).trans (OY.w0 (Or.inr (Or.inl rfl)))).trans (OY.w0 (Or.inr (Or.inr rfl))))
    obtain ⟨S, X', Y', hv', r1, r2, r3, ⟨wr', wa', d', x', h', s', cl', f', r4, r4', r4''⟩, r5⟩ := days_loop hN N 0 0 (FU + 1) (FU + 1) (-2) Mx _ (by omega) (by omega) (by omega) g0 ⟨wr, wa, d, x, hv, s, cl, f, k1, k2.keep rfl, k3⟩ rfl
    rw [e11_days_17, nI_0] at r1
    rw [e12_daysGo_20, nI_0] at r2
    have x : f11_days FU (nI N) Mx = some (nI S, X') := by
      unfold f11_days b11_days_0
      rw [if_neg q1, if_pos (Int32.not_lt.mp q2)]
      exact r1
    have ydg : f12_daysGo FU (nI N) My = some (hv', Y') := by
      unfold f12_daysGo b12_daysGo_0
      rw [lt_v, lt_v, lt_v]
      exact r2
    have y : f12_days FU (nI N) My = some (nI S, Y') := by
      unfold f12_days b12_days_0
      rw [in_e, bnd_s', if_neg c1, if_neg (by decide), bnd_e ydg, r5]
    have fx := fr11_days x
    have fy := fr12_days y
    have qy := fq12_days y
    obtain ⟨u1, u2⟩ := to_CR r4 r4' r4''
    refine ⟨_, X', Y', x, y, Inv.walk h1 h3 h4 r3 ⟨u1, u2, ?_, ?_⟩ (fun k hk => fx k (by revert hk; revert k; decide) (fun e => by cases e)) (fy 8 (by decide) (fun e => by cases e)).1 (fy 5 (by decide) (fun e => by cases e)).1 (qy 0 11 (by decide) (by decide)) (qy 0 6 (by decide) (by decide))⟩
    · rw [(fx 0 (by decide) (fun e => by cases e)).1, qy 0 53 (by decide) (by decide)]
      exact h5.2.2.1
    · rw [(fx 0 (by decide) (fun e => by cases e)).1]
      refine h5.2.2.2.imp id (fun ⟨v1, v2⟩ => ⟨v1.keep (fun j _ => by rw [(fx 333 (by decide) (fun e => by cases e)).1]) (fx 334 (by decide) (fun e => by cases e)).1 (fx 335 (by decide) (fun e => by cases e)).1 (fy 3 (by decide) (fun e => by cases e)).1, v2.keep (fun j _ => by rw [(fx 333 (by decide) (fun e => by cases e)).1]) (fx 334 (by decide) (fun e => by cases e)).1 (fx 335 (by decide) (fun e => by cases e)).1⟩)
theorem OY.r {Y : Mem} {k : Nat} {g : Nat → Int32} (hk : k = 1 ∨ k = 2) : OY Y (wR Y k g) := by
  have h0 : 0 ≠ k := by omega
  refine ⟨by rw [(wR_o 0 h0).1], by rw [(wR_o 0 h0).1], by rw [(wR_o 0 h0).1], fun a ha => (wR_o a (by rintro rfl; revert ha; rcases hk with rfl | rfl <;> decide)).1⟩
/-- PROMISE 9: tried -/
theorem st_tried {FU : Nat} (hFU : 10000000 ≤ FU) (t : Nat) (Mx My : Mem) (a0 a1 : Int32) (ht : t < 3072) (h : Inv Lw t Mx My) : ∃ (r : Int32) (Mx' My' : Mem), f11_tried FU a0 a1 Mx = some (r, Mx') ∧ f12_tried FU a0 a1 My = some (r, My') ∧ Inv Lw (t + 6) Mx' My' := by
  obtain ⟨⟨⟨sq, kd, dr, h1⟩, h2⟩, h3, h4, h5⟩ := h
  have g00 := GW.of h1 h2
  have key : ∃ r X' Y', f11_tried FU a0 a1 Mx = some (r, X') ∧ f12_tried FU a0 a1 My = some (r, Y') ∧ GW sq kd dr X' Y' ∧ ∀ j, j < 162 → Y'.1 1 j = My.1 1 j := by
    by_cases c1 : a0 < 1 ∨ 30 < a0
    · refine ⟨-1, Mx, My, ?_, ?_, g00, fun _ _ => rfl⟩
      · have e18 : ∀ s0, b11_tried_18 (r11_tried FU) FU a0 a1 s0 Mx = some (-1, Mx) := fun s0 => by
          unfold b11_tried_18 b11_tried_43
          by_cases q : a0 < 1
          · rw [if_pos q]
          · rw [if_neg q, if_pos (c1.resolve_left q)]
        unfold f11_tried b11_tried_0 b11_tried_17
        rw [e18, e18]
        repeat' split
        all_goals rfl
      · unfold f12_tried b12_tried_0 b12_tried_31
        rw [in_e, bnd_s', if_pos c1, if_pos rfl]
    · have q1 : ¬ a0 < 1 := fun e => c1 (Or.inl e)
      have q2 : ¬ 30 < a0 := fun e => c1 (Or.inr e)
      obtain ⟨N, _, hN, rfl⟩ := nI_in0 (lo := 1) (hi := 30) (by decide) q1 q2 (by decide)
      -- what both do
      obtain ⟨X1, e1, t1, t2, t3⟩ := take_spec (n := FU) co_336 co_330 (by decide) Mx
      have ft := fr0_take e1
      have e2 := copies_spec (n := FU) 1 2 (by decide) My (by omega)
      generalize hY1 : wR My 2 (fun j => if j < 162 then My.1 1 j else My.1 2 j) = Y1 at e2
      have o1 : OY My Y1 := by rw [← hY1]; exact OY.r (Or.inr rfl)
      have y11 : Y1.1 1 = My.1 1 := by rw [← hY1]; exact (wR_o 1 (by decide)).1
      obtain ⟨wr, wa, d, x, hv, s, cl, f, k1, k2, k3⟩ := of_CR (h5.1.copied (c' := 336) (Mx' := X1) (My' := Y1) (r' := 1) t1 t2 t3 (fun j _ => by rw [y11])) (h5.2.1.copied (c' := 336) t1 t2 t3)
      have g0 : GW sq kd dr X1 (wI (wI (wI Y1 0 37 0) 0 38 0) 0 39 0) := (((GW.of h1 h2).x (fun k hk => by
        have : k ≤ 14 := by revert hk; revert k; decide
        exact (ft k (by simp; omega) (fun e => by cases e)).1)).o o1).o (((OY.w0 (Or.inl rfl)).trans (OY.w0 (Or.inr (Or.inl rfl)))).trans (OY.w0 (Or.inr (Or.inr rfl))))
      have both : ∀ pl0 : Int32, ∃ n' S C K X' Y' hv', b11_tried_45 (r11_tried FU) FU (nI N) a1 pl0 Mx = b11_tried_154 (r11_tried n') n' a1 pl0 (nI S) (nI C) (nI K) hv' X' ∧ f12_daysGo FU (nI N) Y1 = some (hv', Y') ∧ GW sq kd dr X' Y' ∧ CO 336 X' Y' ∧ Y'.1 0 37 = nI S ∧ Y'.1 0 38 = nI C ∧ Y'.1 0 39 = nI K := by
        intro pl0
        obtain ⟨n', S, C, K, X', Y', hv', r1, r2, r3⟩ := tried_loop (wt0 := a1) (pl0 := pl0) hN N 0 0 0 0 (FU + 1) (FU + 1) (-2) X1 _ (by omega) (by omega) (by omega) g0 ⟨wr, wa, d, x, hv, s, cl, f, k1, k2.keep rfl, k3⟩ rfl rfl rfl
        rw [e11_tried_72, nI_0] at r1
        rw [e12_daysGo_20, nI_0] at r2
        refine ⟨n', S, C, K, X', Y', hv', ?_, ?_, r3⟩
        · unfold b11_tried_45
          rw [bnd_e e1]
          exact r1
        · unfold f12_daysGo b12_daysGo_0
          rw [lt_v, lt_v, lt_v]
          exact r2
      have back : ∀ {v : Int32} {Y' : Mem} {hv' : Int32} {X' : Mem}, f12_daysGo FU (nI N) Y1 = some (hv', Y') → GW sq kd dr X' Y' → ∃ Y'', b12_tried_126 (fun _ _ _ _ => none) FU v Y' = some (v, Y'') ∧ GW sq kd dr X' Y'' ∧ ∀ j, j < 162 → Y''.1 1 j = My.1 1 j := by
        intro v Y' hv' X' e3 g3
        have fy := fr12_daysGo e3
        have e4 := copies_spec (n := FU) 2 1 (by decide) Y' (by omega)
        refine ⟨wR Y' 1 (fun j => if j < 162 then Y'.1 2 j else Y'.1 1 j), ?_, g3.o (OY.r (Or.inl rfl)), fun j hj => ?_⟩
        · unfold b12_tried_126
          rw [bnd_e e4]
        · rw [wR_at, if_pos rfl, if_pos hj, (fy 2 (by decide) (fun e => by cases e)).1, ← hY1, wR_at, if_pos rfl, if_pos hj]
      by_cases c2 : a1 < 0 ∨ 3 < a1
      · by_cases c3 : a1 < 100 ∨ 195 < a1
        · refine ⟨-1, Mx, My, ?_, ?_, g00, fun _ _ => rfl⟩
          · have e18 : b11_tried_18 (r11_tried FU) FU (nI N) a1 0 Mx = some (-1, Mx) := by
              unfold b11_tried_18 b11_tried_43
              rw [if_neg q1, if_neg q2]
              by_cases q : a1 < 0
              · rw [if_pos q]
              · rw [if_neg q, if_neg (Int32.not_le.mpr (c2.resolve_left q)), if_pos rfl]
            unfold f11_tried b11_tried_0 b11_tried_17
            by_cases q : a1 < 100
            · rw [if_pos q, e18]
            · have q' : (196 : Int32) ≤ a1 := by
                have := c3.resolve_left q
                rw [fa_lt, lt_lit (show 195 < 2 ^ 31 by decide)] at this
                rw [fa_le, lt_lit (show 196 < 2 ^ 31 by decide)]
                omega
              rw [if_neg q, if_pos q', e18]
          · unfold f12_tried b12_tried_0 b12_tried_31
            rw [in_e, bnd_s', if_neg c1, if_neg (by decide), in_e, bnd_s', if_pos c2, if_pos rfl, in_e, bnd_s', if_pos c3, if_pos rfl]
        · have p1 : ¬ a1 < 100 := fun e => c3 (Or.inl e)
          have p2 : ¬ 195 < a1 := fun e => c3 (Or.inr e)
          obtain ⟨k, hk1, hk2, rfl⟩ := nI_in0 (lo := 100) (hi := 195) (by decide) p1 p2 (by decide)
          obtain ⟨n', S, C, K, X', Y', hv', r1, r2, r3, ⟨wr', wa', d', x', h', s', cl', f', v1, v2, v3⟩, r5⟩ := both 1
          have ek : nI k - (100 : Int32) = nI (k - 100) := pk_sub (b := 100) hk1
          have ek' : (0 : Int32) + nI k - (100 : Int32) = nI (k - 100) := by rw [show (0 : Int32) + nI k = nI k by rw [← nI_0, nI_add, Nat.zero_add], ek]
          obtain ⟨Y'', w1, w2, w3⟩ := back (v := nI (wr' (k - 100))) r2 r3
          refine ⟨nI (wr' (k - 100)), X', Y'', ?_, ?_, w2, w3⟩
          · unfold f11_tried b11_tried_0 b11_tried_18
            rw [if_neg p1, if_neg (show ¬ (196 : Int32) ≤ nI k from nI_ge (b := 196) (by omega) (by decide)), if_neg q1, if_neg q2, if_neg (nI_pos (by omega)), if_neg (show ¬ nI k ≤ (3 : Int32) from nI_ge (a := 3) (by omega) (by omega)), if_neg (by decide), r1]
            unfold b11_tried_154
            rw [if_neg (by decide), ek, chk_in (by omega) (by decide), nI_clamp (by omega)]
            exact congrArg (fun v => some (v, X')) (v1.1 (k - 100) (by omega))
          · unfold f12_tried b12_tried_0 b12_tried_33
            rw [in_e, bnd_s', if_neg c1, if_neg (by decide), in_e, bnd_s', if_pos c2, if_pos rfl, in_e, bnd_s', if_neg c3, if_neg (by decide), bnd_e e2, bnd_e r2, if_neg (show ¬ nI k = (0 : Int32) from fun e => by have := (nI_eq (b := 0) (by omega) (by decide)).mp e; omega), if_neg (show ¬ nI k = (1 : Int32) from fun e => by have := (nI_eq (b := 1) (by omega) (by decide)).mp e; omega), if_neg (show ¬ nI k = (2 : Int32) from fun e => by have := (nI_eq (b := 2) (by omega) (by decide)).mp e; omega), if_neg (show ¬ nI k = (3 : Int32) from fun e => by have := (nI_eq (b := 3) (by omega) (by decide)).mp e; omega), ek', chk_in (by omega) (by decide), nI_clamp (by omega), lt_v, v2.1 (k - 100) (by omega)]
            exact w1
      · have p1 : ¬ a1 < 0 := fun e => c2 (Or.inl e)
        have p2 : ¬ 3 < a1 := fun e => c2 (Or.inr e)
        obtain ⟨k, hk1, hk2, rfl⟩ := nI_in0 (lo := 0) (hi := 3) (by decide) p1 p2 (by decide)
        obtain ⟨n', S, C, K, X', Y', hv', r1, r2, r3, r4, r5, r6, r7⟩ := both 0
        obtain ⟨v, ev1, ev2⟩ : ∃ v : Int32, b11_tried_154 (r11_tried n') n' (nI k) 0 (nI S) (nI C) (nI K) hv' X' = some (v, X') ∧ (if nI k = (0 : Int32) then lt (Y'.1 0 37) fun v20 => b12_tried_126 (fun _ _ _ _ => none) FU v20 Y' else if nI k = (1 : Int32) then lt (Y'.1 0 38) fun v22 => b12_tried_126 (fun _ _ _ _ => none) FU v22 Y' else if nI k = (2 : Int32) then lt (Y'.1 0 39) fun v24 => b12_tried_126 (fun _ _ _ _ => none) FU v24 Y' else if nI k = (3 : Int32) then b12_tried_126 (fun _ _ _ _ => none) FU hv' Y' else chk (inb ((0 : Int32) + nI k - (100 : Int32)) 162) (lt (Y'.1 1 ((0 : Int32) + nI k - (100 : Int32)).toNatClampNeg) fun v27 => b12_tried_126 (fun _ _ _ _ => none) FU v27 Y')) = b12_tried_126 (fun _ _ _ _ => none) FU v Y' := by
          have hk : k = 0 ∨ k = 1 ∨ k = 2 ∨ k = 3 := by omega
          unfold b11_tried_154
          rcases hk with rfl | rfl | rfl | rfl
          · exact ⟨nI S, rfl, by rw [if_pos (by decide), lt_v, r5]⟩
          · exact ⟨nI C, rfl, by rw [if_neg (by decide), if_pos (by decide), lt_v, r6]⟩
          · exact ⟨nI K, rfl, by rw [if_neg (by decide), if_neg (by decide), if_pos (by decide), lt_v, r7]⟩
          · exact ⟨hv', rfl, by rw [if_neg (by decide), if_neg (by decide), if_neg (by decide), if_pos (by decide)]⟩
        obtain ⟨Y'', w1, w2, w3⟩ := back (v := v) r2 r3
        refine ⟨v, X', Y'', ?_, ?_, w2, w3⟩
        · unfold f11_tried b11_tried_0 b11_tried_17 b11_tried_18
          rw [if_pos (show nI k < (100 : Int32) from nI_lt (b := 100) (by omega) (by decide)), if_neg q1, if_neg q2, if_neg p1, if_pos (Int32.not_lt.mp p2), r1]
          exact ev1
        · unfold f12_tried b12_tried_0 b12_tried_33
          rw [in_e, bnd_s', if_neg c1, if_neg (by decide), in_e, bnd_s', if_neg c2, if_neg (by decide), bnd_e e2, bnd_e r2, ev2]
          exact w1
  obtain ⟨r, X', Y', x, y, hG, hr⟩ := key
  have fx := fr11_tried x
  have fy := fr12_tried y
  have qy := fq12_tried y
  refine ⟨r, X', Y', x, y, Inv.walk h1 h3 h4 hG ⟨?_, ?_, ?_, ?_⟩ (fun k hk => fx k (by revert hk; revert k; decide) (fun e => by cases e)) (fy 8 (by decide) (fun e => by cases e)).1 (fy 5 (by decide) (fun e => by cases e)).1 (qy 0 11 (by decide) (by decide)) (qy 0 6 (by decide) (by decide))⟩
  · exact h5.1.copied (fun j _ => by rw [(fx 331 (by decide) (fun e => by cases e)).1]) (fun j _ => by rw [(fx 332 (by decide) (fun e => by cases e)).1]) (fun j _ _ => by rw [(fx 330 (by decide) (fun e => by cases e)).1]) hr
  · exact h5.2.1.keep (fun j _ => by rw [(fx 330 (by decide) (fun e => by cases e)).1]) (fx 331 (by decide) (fun e => by cases e)).1 (fx 332 (by decide) (fun e => by cases e)).1
  · rw [(fx 0 (by decide) (fun e => by cases e)).1, qy 0 53 (by decide) (by decide)]
    exact h5.2.2.1
  · rw [(fx 0 (by decide) (fun e => by cases e)).1]
    refine h5.2.2.2.imp id (fun ⟨v1, v2⟩ => ⟨v1.keep (fun j _ => by rw [(fx 333 (by decide) (fun e => by cases e)).1]) (fx 334 (by decide) (fun e => by cases e)).1 (fx 335 (by decide) (fun e => by cases e)).1 (fy 3 (by decide) (fun e => by cases e)).1, v2.keep (fun j _ => by rw [(fx 333 (by decide) (fun e => by cases e)).1]) (fx 334 (by decide) (fun e => by cases e)).1 (fx 335 (by decide) (fun e => by cases e)).1⟩)
