/-! DAYS: a day, days, what is tried -/
section DA
variable {sq : Nat} {kd dr : Nat → Nat} {c : Nat}
theorem OY.w0 {Y : Mem} {j : Nat} {v : Int32} (hj : j = 37 ∨ j = 38 ∨ j = 39) : OY Y (wI Y 0 j v) := by
  have e : ∀ i, (wI Y 0 j v).1 0 i = if i = j then v else Y.1 0 i := fun i => rfl
  exact ⟨by rw [e, if_neg (by omega)], by rw [e, if_neg (by omega)], by rw [e, if_neg (by omega)], fun k hk => (wI_o k (by rintro rfl; revert hk; decide)).1⟩
theorem end_Y {n d x s cl f : Nat} {wr wa : Nat → Nat} {h : Int32} {Y : Mem} (rc : Nat → List Int32 → List Int64 → Mem → Option (Unit × Mem)) (hn : 100 ≤ n) (hY : YF Y wr wa d x h s cl f) (hcl : cl < 1024) : ∃ Y', b12_dayGoes_190 rc n h Y = some ((), Y') ∧ YF Y' wr wa (d + 1) x h s cl f ∧ OY Y Y' ∧ Y'.1 0 37 = Y.1 0 37 + nI s ∧ Y'.1 0 39 = Y.1 0 39 + nI (cnt cl) ∧ Y'.1 0 38 = if h = -2 then Y.1 0 38 else Y.1 0 38 + 1 := by
  obtain ⟨a1, a2, a3, a4, a5, a6, a7, a8⟩ := hY
  have z157 : (157 : Int32).toNatClampNeg = 157 := by decide
  have z158 : (158 : Int32).toNatClampNeg = 158 := by decide
  have z160 : (160 : Int32).toNatClampNeg = 160 := by decide
  have hb : ∀ M, f12_bits n (nI cl) M = some (nI (cnt cl), M) := fun M => bits_Y (by omega) (by omega)
  have fin : ∀ M : Mem, M.1 1 = Y.1 1 → YF (wI M 1 160 (nI (d + 1))) wr wa (d + 1) x h s cl f := by
    intro M hM
    have ec : ∀ j, (wI M 1 160 (nI (d + 1))).1 1 j = if j = 160 then nI (d + 1) else Y.1 1 j := fun j => by
      rw [← hM]; rfl
    refine ⟨fun j hj => ?_, fun j hj => ?_, ?_, ?_, ?_, ?_, ?_, ?_⟩
    · rw [ec, if_neg (by omega)]; exact a1 j hj
    · rw [ec, if_neg (by omega)]; exact a2 j hj
    · rw [ec, if_pos rfl]
    · rw [ec, if_neg (by omega)]; exact a4
    · rw [ec, if_neg (by omega)]; exact a5
    · rw [ec, if_neg (by omega)]; exact a6
    · rw [ec, if_neg (by omega)]; exact a7
    · rw [ec, if_neg (by omega)]; exact a8
  unfold b12_dayGoes_190 b12_dayGoes_243
  rw [chk_t (by decide), lt_v, chk_t (by decide), z157, z158, a6, show (wI Y 0 37 (Y.1 0 37 + nI s)).1 1 158 = nI cl from a7, hb, bnd_s', lt_v]
  by_cases e : h = -2
  · rw [if_pos e, chk_t (by decide), chk_t (by decide), z160, show (wI (wI Y 0 37 (Y.1 0 37 + nI s)) 0 39 ((wI Y 0 37 (Y.1 0 37 + nI s)).1 0 39 + nI (cnt cl))).1 1 160 = nI d from a3, nI_1, lt_v, if_pos e]
    exact ⟨_, rfl, fin _ rfl, ((OY.w0 (Or.inl rfl)).trans (OY.w0 (Or.inr (Or.inr rfl)))).trans (OY.w (Or.inl rfl)), rfl, rfl, rfl⟩
  · rw [if_neg e, lt_v, chk_t (by decide), chk_t (by decide), z160, show (wI (wI (wI Y 0 37 (Y.1 0 37 + nI s)) 0 39 ((wI Y 0 37 (Y.1 0 37 + nI s)).1 0 39 + nI (cnt cl))) 0 38 ((wI (wI Y 0 37 (Y.1 0 37 + nI s)) 0 39 ((wI Y 0 37 (Y.1 0 37 + nI s)).1 0 39 + nI (cnt cl))).1 0 38 + 1)).1 1 160 = nI d from a3, nI_1, lt_v, if_neg e]
    exact ⟨_, rfl, fin _ rfl, (((OY.w0 (Or.inl rfl)).trans (OY.w0 (Or.inr (Or.inr rfl)))).trans (OY.w0 (Or.inr (Or.inl rfl)))).trans (OY.w (Or.inl rfl)), rfl, rfl, rfl⟩
theorem end_X {d x s cl f : Nat} {wr wa : Nat → Nat} {h : Int32} {X : Mem} (hX : CF c X wr wa d x h s cl f) : CF c (wI X c 2 (nI (d + 1))) wr wa (d + 1) x h s cl f := by
  obtain ⟨a1, a2, a3, a4, a5, a6, a7, a8⟩ := hX
  have ec : ∀ j, (wI X c 2 (nI (d + 1))).1 c j = if j = 2 then nI (d + 1) else X.1 c j := fun j => by rw [wI_at, if_pos rfl]
  refine ⟨fun j hj => ?_, fun j hj => ?_, ?_, ?_, ?_, ?_, ?_, ?_⟩
  · rw [(wI_o (c + 1) (by omega)).1]; exact a1 j hj
  · rw [(wI_o (c + 2) (by omega)).1]; exact a2 j hj
  · rw [ec, if_pos rfl]
  · rw [ec, if_neg (by decide)]; exact a4
  · rw [ec, if_neg (by decide)]; exact a5
  · rw [ec, if_neg (by decide)]; exact a6
  · rw [ec, if_neg (by decide)]; exact a7
  · rw [ec, if_neg (by decide)]; exact a8
theorem day_XY {d x s cl f nX nY : Nat} {wr wa : Nat → Nat} {h : Int32} {X Y : Mem} (hc : 100 ≤ c) (hnX : 2000000 ≤ nX) (hnY : 2000000 ≤ nY) (hG : GW sq kd dr X Y) (hX : CF c X wr wa d x h s cl f) (hY : YF Y wr wa d x h s cl f) (hB : BF wr wa d x h s cl f) (hd : d < 9999) : ∃ X' Y' wr' wa' x' h' s' cl' f', f10_goDay nX c X = some (1, X') ∧ f12_dayGoes nY Y = some ((), Y') ∧ GW sq kd dr X' Y' ∧ CF c X' wr' wa' (d + 1) x' h' s' cl' f' ∧ YF Y' wr' wa' (d + 1) x' h' s' cl' f' ∧ BF wr' wa' (d + 1) x' h' s' cl' f' ∧ Y'.1 0 37 = Y.1 0 37 + nI s' ∧ Y'.1 0 39 = Y.1 0 39 + nI (cnt cl') ∧ Y'.1 0 38 = if h' = -2 then Y.1 0 38 else Y.1 0 38 + 1 := by
  obtain ⟨w1, w2, w3, w4, w5, w6, w7, w8⟩ := hB
  obtain ⟨a1, a2, a3, a4, a5, a6, a7, a8⟩ := hX
  obtain ⟨b1, b2, b3, b4, b5, b6, b7, b8⟩ := hY
  have hsq := hG.1.1
  generalize hX1 : wI (wI (wI (wI X c 4 (-2)) c 5 0) c 6 0) c 7 0 = X1
  have c1 : ∀ j, X1.1 c j = if j = 7 then 0 else if j = 6 then 0 else if j = 5 then 0 else if j = 4 then -2 else X.1 c j := fun j => by
    rw [← hX1, wI_at, if_pos rfl, wI_at, if_pos rfl, wI_at, if_pos rfl, wI_at, if_pos rfl]
  have o1 : ∀ a, a ≠ c → X1.1 a = X.1 a := fun a ha => by rw [← hX1, (wI_o a ha).1, (wI_o a ha).1, (wI_o a ha).1, (wI_o a ha).1]
  have efw : f0_forgetWalk nX c X = some ((), X1) := by rw [← hX1]; rfl
  have g1 : GW sq kd dr X1 Y := hG.x (fun k hk => o1 k (by
    have : k ≤ 14 := by revert hk; revert k; decide
    omega))
  obtain ⟨q, op, vl, ks, st, hf, en, hl⟩ := g1.2.2.2.2.2.2
  obtain ⟨w, hw⟩ := weights2 hl (show d < 2 ^ 31 by omega) b3
  have tle := tot_le (w := w) (F := tt) (fun h => (hw h).1) 24
  obtain ⟨X2, e2, c2⟩ := drawX (n := nX) (w := w) (x := x) (by omega) hc (fun h => ⟨(hw h).1, (hw h).2.1⟩) (by rw [c1]; exact a3) (by rw [c1]; exact a4) w8
  obtain ⟨Y2, e2', y2, k2⟩ := drawY (n := nY) (w := w) (x := x) (by omega) (fun h => ⟨(hw h).1, (hw h).2.2⟩) b4 w8
  have f2 := fr10_drawHour e2
  have o2 : ∀ a, a ≠ 15 → a ≠ 16 → a ≠ 24 → a ≠ c → X2.1 a = X1.1 a := fun a p1 p2 p3 p4 => (f2 a (by simp [p1, p2, p3, p4]) (fun e => by cases e)).1
  generalize hhv : (if tot w tt 24 = 0 then (-2 : Int32) else nI (pkh w 24 0 (x1n x % tot w tt 24))) = hv at e2 e2'
  obtain ⟨x', ex', lx'⟩ : ∃ x', x' = (if tot w tt 24 = 0 then x else x1n x) ∧ x' < 65536 := ⟨_, rfl, by
    split
    · exact w8
    · exact x1n_lt x⟩
  have cx3 : CF c (wI X2 c 4 hv) wr wa d x' hv 0 0 0 := by
    have ec : ∀ j, (wI X2 c 4 hv).1 c j = if j = 4 then hv else if j = 3 ∧ ¬ tot w tt 24 = 0 then nI (x1n x) else X1.1 c j := fun j => by rw [wI_at, if_pos rfl, c2]
    refine ⟨fun j hj => ?_, fun j hj => ?_, ?_, ?_, ?_, ?_, ?_, ?_⟩
    · rw [(wI_o (c + 1) (by omega)).1, o2 (c + 1) (by omega) (by omega) (by omega) (by omega), o1 (c + 1) (by omega)]; exact a1 j hj
    · rw [(wI_o (c + 2) (by omega)).1, o2 (c + 2) (by omega) (by omega) (by omega) (by omega), o1 (c + 2) (by omega)]; exact a2 j hj
    · rw [ec, if_neg (by decide), if_neg (by simp), c1]; exact a3
    · rw [ec, if_neg (by decide), ex']
      by_cases e0 : tot w tt 24 = 0
      · rw [if_neg (by simp [e0]), if_pos e0, c1]; exact a4
      · rw [if_pos ⟨rfl, e0⟩, if_neg e0]
    · rw [ec, if_pos rfl]
    · rw [ec, if_neg (by decide), if_neg (by simp), c1]; rfl
    · rw [ec, if_neg (by decide), if_neg (by simp), c1]; rfl
    · rw [ec, if_neg (by decide), if_neg (by simp), c1]; rfl
  have cy3 : YF (wI (wI (wI (wI Y2 1 156 hv) 1 157 0) 1 158 0) 1 159 0) wr wa d x' hv 0 0 0 := by
    have ec : ∀ j, (wI (wI (wI (wI Y2 1 156 hv) 1 157 0) 1 158 0) 1 159 0).1 1 j = if j = 159 then 0 else if j = 158 then 0 else if j = 157 then 0 else if j = 156 then hv else if j = 161 ∧ ¬ tot w tt 24 = 0 then nI (x1n x) else Y.1 1 j := fun j => by
      rw [← y2]; rfl
    refine ⟨fun j hj => ?_, fun j hj => ?_, ?_, ?_, ?_, ?_, ?_, ?_⟩
    · rw [ec, if_neg (by omega), if_neg (by omega), if_neg (by omega), if_neg (by omega), if_neg (by omega)]; exact b1 j hj
    · rw [ec, if_neg (by omega), if_neg (by omega), if_neg (by omega), if_neg (by omega), if_neg (by omega)]; exact b2 j hj
    · rw [ec]; exact b3
    · rw [ec, if_neg (by decide), if_neg (by decide), if_neg (by decide), if_neg (by decide), ex']
      by_cases e0 : tot w tt 24 = 0
      · rw [if_neg (by simp [e0]), if_pos e0]; exact b4
      · rw [if_pos ⟨rfl, e0⟩, if_neg e0]
    · rw [ec, if_neg (by decide), if_neg (by decide), if_neg (by decide), if_pos rfl]
    · rw [ec]; rfl
    · rw [ec]; rfl
    · rw [ec]; rfl
  have oy2 : OY Y Y2 := ⟨by rw [k2 0 (by decide) (by decide) (by decide)], by rw [k2 0 (by decide) (by decide) (by decide)], by rw [k2 0 (by decide) (by decide) (by decide)], fun k hk => k2 k (by rintro rfl; revert hk; decide) (by rintro rfl; revert hk; decide) (by rintro rfl; revert hk; decide)⟩
  have oy5 : OY Y (wI (wI (wI (wI Y2 1 156 hv) 1 157 0) 1 158 0) 1 159 0) := (((oy2.trans (OY.w (Or.inl rfl))).trans (OY.w (Or.inl rfl))).trans (OY.w (Or.inl rfl))).trans (OY.w (Or.inl rfl))
  have g3 : GW sq kd dr (wI X2 c 4 hv) (wI (wI (wI (wI Y2 1 156 hv) 1 157 0) 1 158 0) 1 159 0) := (g1.x (fun k hk => by
    have : k ≤ 14 := by revert hk; revert k; decide
    rw [(wI_o k (by omega)).1, o2 k (by omega) (by omega) (by omega) (by omega)])).o oy5
  have y0 : ∀ j, (wI (wI (wI (wI Y2 1 156 hv) 1 157 0) 1 158 0) 1 159 0).1 0 j = Y.1 0 j := fun j => congrFun (k2 0 (by decide) (by decide) (by decide)) j
  have z156 : (156 : Int32).toNatClampNeg = 156 := by decide
  have z157 : (157 : Int32).toNatClampNeg = 157 := by decide
  have z158 : (158 : Int32).toNatClampNeg = 158 := by decide
  have z159 : (159 : Int32).toNatClampNeg = 159 := by decide
  have ey : f12_dayGoes nY Y = r12_dayGoes (nY + 1) 48 [hv, nI sq, nI 0] [] (wI (wI (wI (wI Y2 1 156 hv) 1 157 0) 1 158 0) 1 159 0) := by
    unfold f12_dayGoes b12_dayGoes_0
    rw [bnd_e e2', chk_t (by decide), lt_v, chk_t (by decide), lt_v, chk_t (by decide), lt_v, chk_t (by decide), lt_v, z156, z157, z158, z159, lt_v, g3.2.1.1.2.1, e12_dayGoes_48]
    rfl
  have exx : f10_goDay nX c X = if hv < 0 then b10_goDay_37 c (fun _ _ _ _ => none) nX (wI X2 c 4 hv) else bnd (f10_goHour nX c (wI X2 c 4 hv)) fun r10 M11 => b10_goDay_37 c (fun _ _ _ _ => none) nX M11 := by
    unfold f10_goDay b10_goDay_0
    rw [a3, if_pos (show nI d < (9999 : Int32) from nI_lt (b := 9999) hd (by decide)), bnd_e efw, bnd_e e2, lt_v, show (wI X2 c 4 hv).1 c 4 = hv by rw [wI_at, if_pos rfl, if_pos rfl]]
  have fin : ∀ (X4 Y4 : Mem) (rc : Nat → List Int32 → List Int64 → Mem → Option (Unit × Mem)) (n' : Nat) (wr' wa' : Nat → Nat) (s' cl' f' : Nat), 100 ≤ n' → GW sq kd dr X4 Y4 → CF c X4 wr' wa' d x' hv s' cl' f' → YF Y4 wr' wa' d x' hv s' cl' f' → (∀ j, j < 96 → wr' j ≤ 9999) → (∀ j, j < 60 → wa' j < 96) → (hv = -2 ∨ ∃ k, k < 24 ∧ hv = nI k) → s' ≤ 60 → cl' < 1024 → f' ≤ 99 → (∀ j, j ≠ 9 → Y4.1 0 j = Y.1 0 j) → ∃ X' Y' wr' wa' x' h' s' cl' f', b10_goDay_37 c (fun _ _ _ _ => none) nX X4 = some (1, X') ∧ b12_dayGoes_190 rc n' hv Y4 = some ((), Y') ∧ GW sq kd dr X' Y' ∧ CF c X' wr' wa' (d + 1) x' h' s' cl' f' ∧ YF Y' wr' wa' (d + 1) x' h' s' cl' f' ∧ BF wr' wa' (d + 1) x' h' s' cl' f' ∧ Y'.1 0 37 = Y.1 0 37 + nI s' ∧ Y'.1 0 39 = Y.1 0 39 + nI (cnt cl') ∧ Y'.1 0 38 = if h' = -2 then Y.1 0 38 else Y.1 0 38 + 1 := by
    intro X4 Y4 rc n' wr' wa' s' cl' f' r1 r2 r3 r4 r5 r6 r7 r8 r9 r10 r11
    obtain ⟨Y', t1, t2, t3, t4, t5, t6⟩ := end_Y rc r1 r4 r9
    refine ⟨wI X4 c 2 (nI (d + 1)), Y', wr', wa', x', hv, s', cl', f', ?_, t1, (r2.x (fun k hk => ?_)).o t3, end_X r3, t2, ⟨r5, r6, r7, r8, r9, r10, by omega, lx'⟩, ?_, ?_, ?_⟩
    · unfold b10_goDay_37
      rw [lt_v, r3.2.2.1, nI_1]
    · have : k ≤ 14 := by revert hk; revert k; decide
      rw [(wI_o k (by omega)).1]
    · rw [t4, r11 37 (by decide)]
    · rw [t5, r11 39 (by decide)]
    · rw [t6, r11 38 (by decide)]
  rw [exx, ey]
  by_cases e0 : tot w tt 24 = 0
  · have hv2 : hv = -2 := by rw [← hhv, if_pos e0]
    have e48 : r12_dayGoes (nY + 1) 48 [hv, nI sq, nI 0] [] (wI (wI (wI (wI Y2 1 156 hv) 1 157 0) 1 158 0) 1 159 0) = b12_dayGoes_190 (r12_dayGoes nY) nY hv (wI (wI (wI (wI Y2 1 156 hv) 1 157 0) 1 158 0) 1 159 0) := by
      rw [e12_dayGoes_48]
      unfold b12_dayGoes_48
      rw [if_neg (by decide), if_pos hv2]
    rw [e48, if_pos (show hv < 0 by rw [hv2]; decide)]
    exact fin _ _ _ nY wr wa 0 0 0 (by omega) g3 cx3 cy3 w1 w2 (Or.inl hv2) (by decide) (by decide) (by decide) (fun j _ => y0 j)
  · have hlt : pkh w 24 0 (x1n x % tot w tt 24) < 24 := pkh_lt (by omega) (by
      show _ + 0 < _
      have := Nat.mod_lt (x1n x) (show 0 < tot w tt 24 by omega)
      omega)
    obtain ⟨h0, eh0, lh0⟩ : ∃ h0, hv = nI h0 ∧ h0 < 24 := ⟨_, by rw [← hhv, if_neg e0], hlt⟩
    subst eh0
    have z0 : (0 : Int32).toNatClampNeg = 0 := by decide
    have z1 : (1 : Int32).toNatClampNeg = 1 := by decide
    generalize hX4 : wI (wI (wI X2 c 4 (nI h0)) 15 0 (nI h0)) 15 1 (nI (d % 7)) = X4
    have o4 : ∀ k, k ≠ 15 → X4.1 k = (wI X2 c 4 (nI h0)).1 k := fun k hk => by rw [← hX4, (wI_o k hk).1, (wI_o k hk).1]
    have cx4 : CF c X4 wr wa d x' (nI h0) 0 0 0 := cx3.keep (o4 c (by omega)) (o4 (c + 1) (by omega)) (o4 (c + 2) (by omega))
    have g4 : GW sq kd dr X4 (wI (wI (wI (wI Y2 1 156 (nI h0)) 1 157 0) 1 158 0) 1 159 0) := g3.x (fun k hk => o4 k (by rintro rfl; revert hk; decide))
    have d0 : ds (opn sq kd) sq sq ≤ 0 := (ds_zero hsq hsq (opn_sq (kd := kd))).mpr rfl
    obtain ⟨n', X5, Y5, wr', wa', s', cl', f', r1, r2, r3, r4, r5, r6, r7, r8, r9, r10, r11, r12⟩ := hourd_loop (h := h0) (d := d) (x := x') lh0 (by omega) hc 60 0 sq (nX + 1) (nY + 1) X4 _ wr wa 0 0 0 (by omega) (by omega) (by omega) g4 (At.sqr hsq) cx4 cy3 w1 w2 (by decide) (by decide) (by decide) d0 (by rw [← hX4]; rfl) (by rw [← hX4]; rfl)
    have egh : f10_goHour nX c (wI X2 c 4 (nI h0)) = some ((), X5) := by
      unfold f10_goHour b10_goHour_0 f2_setHour b2_setHour_0
      rw [lt_v, g3.1.2.1, chk_t (by decide), lt_v, chk_t (by decide), lt_v, bnd_s', z0, z1, cx3.2.2.2.2.1, cx3.2.2.1, show nI d - nI d / (7 : Int32) * (7 : Int32) = nI (d % 7) from pk_rem (d := 7) (by omega) (by decide) (by decide), hX4]
      rw [e10_goHour_25, nI_0] at r2
      exact r2
    rw [if_neg (nI_pos (by omega)), bnd_e egh, r3]
    exact fin X5 Y5 _ n' wr' wa' s' cl' f' (by omega) r4 r5 r6 r7 r8 (Or.inr ⟨h0, lh0, rfl⟩) r9 r10 (by omega) (fun j hj => by rw [r12 j, if_neg hj, y0 j])
/-- where a course stands, both -/
def CO (c : Nat) (X Y : Mem) : Prop := ∃ wr wa d x h s cl f, CF c X wr wa d x h s cl f ∧ YF Y wr wa d x h s cl f ∧ BF wr wa d x h s cl f
theorem days_loop {N : Nat} (hN : N ≤ 30) : ∀ (e i S nX nY : Nat) (hv : Int32) (X Y : Mem), i + e = N → e + 3000000 < nX → e + 3000000 < nY → GW sq kd dr X Y → CO 330 X Y → Y.1 0 37 = nI S → ∃ S' X' Y' hv', r11_days nX 17 [nI N, nI S, nI i] [] X = some (nI S', X') ∧ r12_daysGo nY 20 [nI N, hv, nI i] [] Y = some (hv', Y') ∧ GW sq kd dr X' Y' ∧ CO 330 X' Y' ∧ Y'.1 0 37 = nI S' := by
  intro e
  induction e with
  | zero =>
    intro i S nX nY hv X Y h1 h2 h3 hG hC h37
    obtain ⟨nX, rfl⟩ : ∃ n', nX = n' + 1 := ⟨nX - 1, by omega⟩
    obtain ⟨nY, rfl⟩ : ∃ n', nY = n' + 1 := ⟨nY - 1, by omega⟩
    have : i = N := by omega
    subst this
    rw [e11_days_17, e12_daysGo_20]
    unfold b11_days_17 b11_days_52 b12_daysGo_20 b12_daysGo_58
    rw [if_pos (Int32.le_refl _), if_pos (Int32.le_refl _)]
    exact ⟨S, X, Y, hv, rfl, rfl, hG, hC, h37⟩
  | succ e ih =>
    intro i S nX nY hv X Y h1 h2 h3 hG hC h37
    obtain ⟨nX, rfl⟩ : ∃ n', nX = n' + 1 := ⟨nX - 1, by omega⟩
    obtain ⟨nY, rfl⟩ : ∃ n', nY = n' + 1 := ⟨nY - 1, by omega⟩
    obtain ⟨wr, wa, d, x, h, s, cl, f, c1, c2, c3⟩ := hC
    have z160 : (160 : Int32).toNatClampNeg = 160 := by decide
    have z156 : (156 : Int32).toNatClampNeg = 156 := by decide
    have hd := c3.2.2.2.2.2.2.1
    rw [e11_days_17, e12_daysGo_20]
    unfold b11_days_17 b11_days_52 b12_daysGo_20 b12_daysGo_58
    rw [if_neg (nI_ge (by omega) (by omega)), if_neg (nI_ge (by omega) (by omega)), chk_t (by decide), z160, c2.2.2.1]
    by_cases cd : d < 9999
    · obtain ⟨X', Y', wr', wa', x', h', s', cl', f', r1, r2, r3, r4, r5, r6, r7, r8, r9⟩ := day_XY (c := 330) (nX := nX) (nY := nY) (by decide) (by omega) (by omega) hG c1 c2 c3 cd
      rw [bnd_e r1, if_neg (by decide), if_neg (show ¬ (9999 : Int32) ≤ nI d from nI_ge (b := 9999) cd (by decide)), bnd_e r2, chk_t (by decide), z156, lt_v, lt_v, lt_v, lt_v, nI_1, r4.2.2.2.2.2.1, nI_add]
      exact ih (i + 1) (S + s') nX nY _ X' Y' (by omega) (by omega) (by omega) r3 ⟨wr', wa', d + 1, x', h', s', cl', f', r4, r5, r6⟩ (by rw [r7, h37, nI_add])
    · have e0 : f10_goDay nX 330 X = some (0, X) := by
        unfold f10_goDay b10_goDay_0
        rw [c1.2.2.1, if_neg (show ¬ nI d < (9999 : Int32) from nI_nlt (b := 9999) (by omega) (by omega))]
      rw [bnd_e e0, if_pos rfl, if_pos (show (9999 : Int32) ≤ nI d from nI_le (a := 9999) (by omega) (by omega))]
      exact ⟨S, X, Y, hv, rfl, rfl, hG, ⟨wr, wa, d, x, h, s, cl, f, c1, c2, c3⟩, h37⟩
theorem tried_loop {N : Nat} {wt0 pl0 : Int32} (hN : N ≤ 30) : ∀ (e i S C K nX nY : Nat) (hv : Int32) (X Y : Mem), i + e = N → e + 3000000 < nX → e + 3000000 < nY → GW sq kd dr X Y → CO 336 X Y → Y.1 0 37 = nI S → Y.1 0 38 = nI C → Y.1 0 39 = nI K → ∃ n' S' C' K' X' Y' hv', r11_tried nX 72 [nI N, wt0, pl0, nI S, nI C, nI K, hv, nI i] [] X = b11_tried_154 (r11_tried n') n' wt0 pl0 (nI S') (nI C') (nI K') hv' X' ∧ r12_daysGo nY 20 [nI N, hv, nI i] [] Y = some (hv', Y') ∧ GW sq kd dr X' Y' ∧ CO 336 X' Y' ∧ Y'.1 0 37 = nI S' ∧ Y'.1 0 38 = nI C' ∧ Y'.1 0 39 = nI K' := by
  intro e
  induction e with
  | zero =>
    intro i S C K nX nY hv X Y h1 h2 h3 hG hC h37 h38 h39
    obtain ⟨nX, rfl⟩ : ∃ n', nX = n' + 1 := ⟨nX - 1, by omega⟩
    obtain ⟨nY, rfl⟩ : ∃ n', nY = n' + 1 := ⟨nY - 1, by omega⟩
    have : i = N := by omega
    subst this
    rw [e11_tried_72, e12_daysGo_20]
    unfold b11_tried_72 b12_daysGo_20 b12_daysGo_58
    rw [if_pos (Int32.le_refl _), if_pos (Int32.le_refl _)]
    exact ⟨nX, S, C, K, X, Y, hv, rfl, rfl, hG, hC, h37, h38, h39⟩
  | succ e ih =>
    intro i S C K nX nY hv X Y h1 h2 h3 hG hC h37 h38 h39
    obtain ⟨nX, rfl⟩ : ∃ n', nX = n' + 1 := ⟨nX - 1, by omega⟩
    obtain ⟨nY, rfl⟩ : ∃ n', nY = n' + 1 := ⟨nY - 1, by omega⟩
    obtain ⟨wr, wa, d, x, h, s, cl, f, c1, c2, c3⟩ := hC
    have z160 : (160 : Int32).toNatClampNeg = 160 := by decide
    have z156 : (156 : Int32).toNatClampNeg = 156 := by decide
    have hd := c3.2.2.2.2.2.2.1
    rw [e11_tried_72, e12_daysGo_20]
    unfold b11_tried_72 b12_daysGo_20 b12_daysGo_58
    rw [if_neg (nI_ge (by omega) (by omega)), if_neg (nI_ge (by omega) (by omega)), chk_t (by decide), z160, c2.2.2.1]
    by_cases cd : d < 9999
    · obtain ⟨X', Y', wr', wa', x', h', s', cl', f', r1, r2, r3, r4, r5, r6, r7, r8, r9⟩ := day_XY (c := 336) (nX := nX) (nY := nY) (by decide) (by omega) (by omega) hG c1 c2 c3 cd
      have hcl := r6.2.2.2.2.1
      have hbx : fZJ6_bitCount_0f7a4 nX (nI cl') X' = some (nI (cnt cl'), X') := by rw [bitI (by omega), cnt24 hcl]; rfl
      rw [bnd_e r1, if_neg (by decide), if_neg (show ¬ (9999 : Int32) ≤ nI d from nI_ge (b := 9999) cd (by decide)), bnd_e r2, chk_t (by decide), z156, lt_v, lt_v, lt_v, nI_1, r4.2.2.2.2.2.1, nI_add, r5.2.2.2.2.1, r4.2.2.2.2.1]
      have co' : CO 336 X' Y' := ⟨wr', wa', d + 1, x', h', s', cl', f', r4, r5, r6⟩
      have go : ∀ b : Nat, (h' = -2 ∧ b = 0 ∨ ¬ h' = -2 ∧ b = 1) → ∃ n' S' C' K' X'' Y'' hv', b11_tried_121 (r11_tried nX) nX (nI N) wt0 pl0 (nI (S + s')) (nI K) (nI i) (nI C) (nI b) X' = b11_tried_154 (r11_tried n') n' wt0 pl0 (nI S') (nI C') (nI K') hv' X'' ∧ r12_daysGo nY 20 [nI N, h', nI (i + 1)] [] Y' = some (hv', Y'') ∧ GW sq kd dr X'' Y'' ∧ CO 336 X'' Y'' ∧ Y''.1 0 37 = nI S' ∧ Y''.1 0 38 = nI C' ∧ Y''.1 0 39 = nI K' := by
        intro b hb
        unfold b11_tried_121
        rw [nI_add, lt_v, r4.2.2.2.2.2.2.1, bnd_e hbx, lt_v, nI_add, lt_v, lt_v, nI_1, r4.2.2.2.2.1]
        refine ih (i + 1) (S + s') (C + b) (K + cnt cl') nX nY h' X' Y' (by omega) (by omega) (by omega) r3 co' (by rw [r7, h37, nI_add]) ?_ (by rw [r8, h39, nI_add])
        rw [r9, h38]
        rcases hb with ⟨q1, rfl⟩ | ⟨q1, rfl⟩
        · rw [if_pos q1]; rfl
        · rw [if_neg q1, nI_1]
      rcases r6.2.2.1 with q | ⟨k, k1, k2⟩
      · rw [if_pos (show h' < 0 by rw [q]; decide), show (0 : Int32) = nI 0 from rfl]
        exact go 0 (Or.inl ⟨q, rfl⟩)
      · rw [if_neg (show ¬ h' < 0 by rw [k2]; exact nI_pos (by omega)), show (1 : Int32) = nI 1 from rfl]
        exact go 1 (Or.inr ⟨by rw [k2]; exact nI_m2 (by omega), rfl⟩)
    · have e0 : f10_goDay nX 336 X = some (0, X) := by
        unfold f10_goDay b10_goDay_0
        rw [c1.2.2.1, if_neg (show ¬ nI d < (9999 : Int32) from nI_nlt (b := 9999) (by omega) (by omega))]
      rw [bnd_e e0, if_pos rfl, if_pos (show (9999 : Int32) ≤ nI d from nI_le (a := 9999) (by omega) (by omega))]
      exact ⟨nX, S, C, K, X, Y, hv, rfl, rfl, hG, ⟨wr, wa, d, x, h, s, cl, f, c1, c2, c3⟩, h37, h38, h39⟩
end DA
