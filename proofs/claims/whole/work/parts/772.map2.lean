/-! MAP: row after row -/
def OYm (Y Y' : Mem) : Prop := (∀ c, c ≠ 0 → c ≠ 22 → Y'.1 c = Y.1 c) ∧ ∀ j, j ∉ ([11, 12, 14, 35] : List Nat) → Y'.1 0 j = Y.1 0 j
theorem OYm.trans {Y Y1 Y2 : Mem} (h : OYm Y Y1) (g : OYm Y1 Y2) : OYm Y Y2 := ⟨fun c a b => (g.1 c a b).trans (h.1 c a b), fun j hj => (g.2 j hj).trans (h.2 j hj)⟩
theorem OYm.refl {Y : Mem} : OYm Y Y := ⟨fun _ _ _ => rfl, fun _ _ => rfl⟩
theorem OYm.of {L : List Nat} {O : List (Nat × Nat)} {Y Y' : Mem} (h : Fr L false Y Y') (q : Fq CSY O Y Y') (hL : ∀ k, k ∈ L → k = 0 ∨ k = 22) (hO : ∀ x, x ∈ O → x.2 ∈ ([11, 12, 14, 35] : List Nat)) : OYm Y Y' := ⟨fun c a b => (h c (fun e => by rcases hL c e with q | q <;> omega) (fun e => by cases e)).1, fun j hj => q 0 j (by decide) (fun e => hj (hO _ e))⟩
theorem OYm.w {Y : Mem} {j : Nat} {v : Int32} (hj : j ∈ ([11, 12, 14, 35] : List Nat)) : OYm Y (wI Y 0 j v) := ⟨fun c a _ => (wI_o c a).1, fun k hk => by
  rw [wI_at, if_pos rfl, if_neg]
  rintro rfl
  exact hk hj⟩
theorem mapend_X {N row across sg n : Nat} {X : Mem} (ha : 0 < across) (ha2 : across ≤ 12) : r8_readMap (n + 1) 22 [nI N, nI row, nI across, nI 0, nI sg, nI N] [] X = bnd (f8_refresh n (wR X 4 (va_cpy (X.1 5) (X.1 4) (0 : Int32).toNatClampNeg (0 : Int32).toNatClampNeg (96 : Int32).toNatClampNeg))) fun _ M9 => some (nI (row + 1), M9) := by
  rw [e8_readMap_22]
  unfold b8_readMap_22
  rw [if_pos (Int32.le_refl _), if_neg (nI_ne0 ha (by omega)), if_pos (show nI 0 ≤ 0 by decide), lt_v, nI_1]
theorem mapcopy_Y : ∀ (d p n : Nat) (Y : Mem), p + d = 96 → d < n → ∃ Y', r12_map n 112 [nI p] [] Y = some (Y.1 0 35, Y') ∧ (∀ q, Y'.1 4 q = if p ≤ q ∧ q < 96 then Y.1 22 q else Y.1 4 q) ∧ (∀ c, c ≠ 0 → c ≠ 4 → Y'.1 c = Y.1 c) ∧ Y'.1 0 9 = 0 ∧ ∀ j, j ≠ 9 → Y'.1 0 j = Y.1 0 j := by
  intro d
  induction d with
  | zero =>
    intro p n Y h1 h2
    obtain ⟨n, rfl⟩ : ∃ n', n = n' + 1 := ⟨n - 1, by omega⟩
    have : p = 96 := by omega
    subst this
    rw [e12_map_112]
    unfold b12_map_112
    rw [if_pos (by decide), lt_v]
    refine ⟨_, rfl, fun q => ?_, fun c a _ => (wI_o c a).1, rfl, fun j hj => ?_⟩
    · rw [if_neg (by omega), (wI_o 4 (by decide)).1]
    · rw [wI_at, if_pos rfl, if_neg hj]
  | succ d ih =>
    intro p n Y h1 h2
    obtain ⟨n, rfl⟩ : ∃ n', n = n' + 1 := ⟨n - 1, by omega⟩
    rw [e12_map_112]
    unfold b12_map_112
    rw [if_neg (show ¬ (96 : Int32) ≤ nI p from nI_ge (b := 96) (by omega) (by decide)), chk_in (by omega) (by decide), chk_in (by omega) (by decide), lt_v, lt_v, nI_1, nI_clamp (by omega)]
    obtain ⟨Y', a1, a2, a3, a4, a5⟩ := ih (p + 1) n (wI Y 4 p (Y.1 22 p)) (by omega) (by omega)
    refine ⟨Y', a1, fun q => ?_, fun c a b => (a3 c a b).trans (wI_o c b).1, a4, fun j hj => (a5 j hj).trans ?_⟩
    · rw [a2 q, (wI_o 22 (by decide)).1, wI_at, if_pos rfl]
      by_cases q1 : q = p
      · rw [if_neg (by omega), if_pos q1, if_pos (by omega), q1]
      · rw [if_neg q1]
        by_cases q2 : p + 1 ≤ q ∧ q < 96
        · rw [if_pos q2, if_pos (by omega)]
        · rw [if_neg q2, if_neg (by omega)]
    · rw [(wI_o 0 (by decide)).1]
/-- what the two come to -/
def EndM (x : Option (Int32 × Mem)) (y : Option (Int32 × Mem)) (X Y : Mem) : Prop := (∃ v X' Y', x = some (v, X') ∧ y = some (v, Y') ∧ O5 X X' ∧ OYm Y Y' ∧ Y'.1 0 11 = 0) ∨ ∃ n' row D X1 Y', 30000 ≤ n' ∧ x = (bnd (f8_refresh n' (wR X1 4 (va_cpy (X1.1 5) (X1.1 4) (0 : Int32).toNatClampNeg (0 : Int32).toNatClampNeg (96 : Int32).toNatClampNeg))) fun _ M9 => some (nI (row + 1), M9)) ∧ y = some (nI (row + 1), Y') ∧ XD D X1 ∧ O5 X X1 ∧ (∀ p, p < 96 → Y'.1 4 p = nI (D p)) ∧ Y'.1 0 9 = 0 ∧ Y'.1 0 11 = 0 ∧ (∀ c, c ≠ 0 → c ≠ 22 → c ≠ 4 → Y'.1 c = Y.1 c) ∧ ∀ j, j ∉ ([9, 11, 12, 14, 35] : List Nat) → Y'.1 0 j = Y.1 0 j
theorem EndM.from {x y : Option (Int32 × Mem)} {X Y X1 Y1 : Mem} (h : EndM x y X1 Y1) (hx : O5 X X1) (hy : OYm Y Y1) : EndM x y X Y := by
  rcases h with ⟨v, X', Y', h1, h2, h3, h4, h5⟩ | ⟨n', row, D, X2, Y', h1, h2, h3, h4, h5, h6, h7, h8, h9, h10⟩
  · exact Or.inl ⟨v, X', Y', h1, h2, hx.trans h3, hy.trans h4, h5⟩
  · refine Or.inr ⟨n', row, D, X2, Y', h1, h2, h3, h4, hx.trans h5, h6, h7, h8, fun c a b d => (h9 c a b d).trans (hy.1 c a b), fun j hj => (h10 j hj).trans (hy.2 j (fun e => hj ?_))⟩
    simp only [List.mem_cons, List.not_mem_nil, or_false] at e ⊢
    omega
theorem mapfault_Y {n : Nat} {Y : Mem} {v : Int32} (h : Y.1 0 14 = v) : ∃ Y', r12_map (n + 1) 56 [0] [] Y = some (v, Y') ∧ OYm Y Y' ∧ Y'.1 0 11 = 0 := by
  rw [e12_map_56]
  unfold b12_map_56 b12_map_96
  rw [if_pos rfl, lt_v, if_pos rfl]
  exact ⟨_, by rw [show (wI Y 0 11 0).1 0 14 = v from h], OYm.w (by decide), rfl⟩
theorem maploop_XY {T : Nat → Nat} {N : Nat} (hN : N ≤ 110) : ∀ (d row across sg i n n2 : Nat) (D : Nat → Nat) (X Y : Mem), N - i ≤ d → 5000 * d + 50000 < n → 10 * d + 1000 < n2 → TT1 T N X → XD D X → YS T N D i (row + 1) Y → i ≤ N → row < 8 → 0 < across → across ≤ 12 → (i < N → cb (T i) = false) → EndM (r8_readMap n 22 [nI N, nI row, nI across, nI 0, nI sg, nI i] [] X) (r12_map n2 56 [1] [] Y) X Y := by
  intro d
  induction d with
  | zero =>
    intro row across sg i n n2 D X Y hd hn hn2 hT hX hY hi hr ha ha2 hcb
    obtain ⟨n, rfl⟩ : ∃ n', n = n' + 1 := ⟨n - 1, by omega⟩
    obtain ⟨n2, rfl⟩ : ∃ n', n2 = n' + 1 := ⟨n2 - 1, by omega⟩
    have : i = N := by omega
    subst this
    obtain ⟨y1, y2, y3, y4, y5⟩ := hY
    right
    obtain ⟨Y', a1, a2, a3, a4, a5⟩ := mapcopy_Y 96 0 (n2 + 1) (wI Y 0 11 0) (by omega) (by omega)
    rw [nI_0, e12_map_112] at a1
    refine ⟨n, row, D, X, Y', by omega, mapend_X ha ha2, ?_, hX, O5.refl, fun p hp => ?_, a4, ?_, fun c a b e => ?_, fun j hj => ?_⟩
    · rw [e12_map_56]
      unfold b12_map_56 b12_map_96
      rw [if_neg (by decide), y2, y3, if_pos (Int32.le_refl _), lt_v, if_neg (by decide), a1]
      rw [show (wI Y 0 11 0).1 0 35 = nI (row + 1) from y4]
    · rw [a2 p, if_pos (by omega)]; exact y5 p hp
    · rw [a5 11 (by decide)]; rfl
    · rw [a3 c a e, (wI_o c a).1]
    · rw [a5 j (by rintro rfl; exact hj (by decide)), wI_at, if_pos rfl, if_neg (by rintro rfl; exact hj (by decide))]
  | succ d ih =>
    intro row across sg i n n2 D X Y hd hn hn2 hT hX hY hi hr ha ha2 hcb
    by_cases ci : i = N
    · exact (fun q => q) (by
        subst ci
        obtain ⟨n, rfl⟩ : ∃ n', n = n' + 1 := ⟨n - 1, by omega⟩
        obtain ⟨n2, rfl⟩ : ∃ n', n2 = n' + 1 := ⟨n2 - 1, by omega⟩
        obtain ⟨y1, y2, y3, y4, y5⟩ := hY
        right
        obtain ⟨Y', a1, a2, a3, a4, a5⟩ := mapcopy_Y 96 0 (n2 + 1) (wI Y 0 11 0) (by omega) (by omega)
        rw [nI_0, e12_map_112] at a1
        refine ⟨n, row, D, X, Y', by omega, mapend_X ha ha2, ?_, hX, O5.refl, fun p hp => ?_, a4, ?_, fun c a b e => ?_, fun j hj => ?_⟩
        · rw [e12_map_56]
          unfold b12_map_56 b12_map_96
          rw [if_neg (by decide), y2, y3, if_pos (Int32.le_refl _), lt_v, if_neg (by decide), a1]
          rw [show (wI Y 0 11 0).1 0 35 = nI (row + 1) from y4]
        · rw [a2 p, if_pos (by omega)]; exact y5 p hp
        · rw [a5 11 (by decide)]; rfl
        · rw [a3 c a e, (wI_o c a).1]
        · rw [a5 j (by rintro rfl; exact hj (by decide)), wI_at, if_pos rfl, if_neg (by rintro rfl; exact hj (by decide))])
    · have hlt : i < N := by omega
      obtain ⟨n, rfl⟩ : ∃ n', n = n' + 1 := ⟨n - 1, by omega⟩
      obtain ⟨n2, rfl⟩ : ∃ n', n2 = n' + 1 := ⟨n2 - 1, by omega⟩
      obtain ⟨y1, y2, y3, y4, y5⟩ := hY
      have hcb := hcb hlt
      simp only [cb, Bool.or_eq_false_iff, Bool.and_eq_false_iff, decide_eq_false_iff_not] at hcb
      have hh := here_e (n := n2) (by omega) y1 y2 y3 hi
      rw [if_pos hlt] at hh
      have hTi := (hT.2 i hlt).1
      rw [e12_map_56]
      unfold b12_map_56 b12_map_91 b12_map_92 f12_takes b12_takes_0
      rw [if_neg (by decide), y2, y3, if_neg (nI_ge hlt (by omega)), bnd_e hh]
      by_cases c : T i = 47
      · rw [if_pos (show nI (T i) = (47 : Int32) by rw [c]; rfl), lt_v, y2, nI_1, bnd_s', if_neg (by decide), mx_slash hT hlt c ha ha2]
        have hO1 : OYm Y (wI Y 0 12 (nI (i + 1))) := OYm.w (by decide)
        rcases row_XY (T := T) (N := N) (row := row + 1) (sg := sg) (i := i + 1) (n := n) (n2 := n2) (X := X) (Y := wI Y 0 12 (nI (i + 1))) (by omega) (by omega) (by omega) hT hX ⟨y1, rfl, y3, y4, y5⟩ (by omega) with ⟨v, X', Y', g1, g2, g3, g4⟩ | ⟨n', X', Y', across', i', sg', D', g1, g2, g3, g4, g5, g6, g7, g8, g9, g10, g11, g12⟩
        · have hO2 : OYm (wI Y 0 12 (nI (i + 1))) Y' := OYm.of (fr12_readsRow g2) (fq12_readsRow g2) (by decide) (by decide)
          rw [bnd_e g2, if_pos rfl, g1]
          obtain ⟨n2, rfl⟩ : ∃ n', n2 = n' + 1 := ⟨n2 - 1, by omega⟩
          obtain ⟨Y2, z1, z2, z3⟩ := mapfault_Y (n := n2) g3
          rw [z1]
          exact Or.inl ⟨v, X', Y2, rfl, rfl, g4, (hO1.trans hO2).trans z2, z3⟩
        · have hO2 : OYm (wI Y 0 12 (nI (i + 1))) Y' := OYm.of (fr12_readsRow g3) (fq12_readsRow g3) (by decide) (by decide)
          rw [bnd_e g3, if_neg (by decide), g2]
          exact (ih (row + 1) across' sg' i' n' n2 D' X' Y' (by omega) (by omega) (by omega) (g12.tt hT) g10 g11 g8 g4 g5 g6 g9).from g12 (hO1.trans hO2)
      · rw [if_neg (show ¬ nI (T i) = (47 : Int32) from fun e => c ((nI_eq (b := 47) (by omega) (by decide)).mp e)), wrong_e, bnd_s', chk_t (by decide), bnd_s', if_pos rfl, y2, mx_wrong hT hlt hcb.1 (Or.inr (fun e => by rcases hcb.2 with q | q <;> omega)) (Or.inr (Or.inr c)) (by decide) ha2]
        obtain ⟨n2, rfl⟩ : ∃ n', n2 = n' + 1 := ⟨n2 - 1, by omega⟩
        obtain ⟨Y2, z1, z2, z3⟩ := mapfault_Y (n := n2) (Y := wI Y 0 14 ((-1000 : Int32) * 1 - nI i)) (v := (-1000 : Int32) * nI 1 - nI i) rfl
        rw [z1]
        exact Or.inl ⟨_, X, Y2, rfl, rfl, O5.refl, (OYm.w (by decide)).trans z2, z3⟩
theorem mapfill_Y : ∀ (d p n : Nat) (Y : Mem), p + d = 96 → d < n → ∃ n' Y', n' + d + 1 = n ∧ r12_map n 32 [nI p] [] Y = r12_map (n' + 1) 32 [nI 96] [] Y' ∧ (∀ q, Y'.1 22 q = if p ≤ q ∧ q < 96 then nI 2 else Y.1 22 q) ∧ ∀ c, c ≠ 22 → Y'.1 c = Y.1 c := by
  intro d
  induction d with
  | zero =>
    intro p n Y h1 h2
    obtain ⟨n, rfl⟩ : ∃ n', n = n' + 1 := ⟨n - 1, by omega⟩
    have : p = 96 := by omega
    subst this
    exact ⟨n, Y, rfl, rfl, fun q => by rw [if_neg (by omega)], fun _ _ => rfl⟩
  | succ d ih =>
    intro p n Y h1 h2
    obtain ⟨n, rfl⟩ : ∃ n', n = n' + 1 := ⟨n - 1, by omega⟩
    rw [e12_map_32]
    unfold b12_map_32
    rw [if_neg (show ¬ (96 : Int32) ≤ nI p from nI_ge (b := 96) (by omega) (by decide)), chk_in (by omega) (by decide), lt_v, lt_v, nI_1, nI_clamp (by omega)]
    obtain ⟨n', Y', a0, a1, a2, a3⟩ := ih (p + 1) n (wI Y 22 p (2 : Int32)) (by omega) (by omega)
    refine ⟨n', Y', by omega, a1, fun q => ?_, fun c hc => (a3 c hc).trans (wI_o c hc).1⟩
    rw [a2 q, wI_at, if_pos rfl]
    by_cases q1 : q = p
    · rw [if_neg (by omega), if_pos q1, if_pos (by omega)]
      rfl
    · rw [if_neg q1]
      by_cases q2 : p + 1 ≤ q ∧ q < 96
      · rw [if_pos q2, if_pos (by omega)]
      · rw [if_neg q2, if_neg (by omega)]
/-- the bytes of the tape as numbers -/
theorem tape_T {Mx My : Mem} (h : ∀ j, j < 260 → Mx.1 2 j = My.1 8 j &&& 255) {N : Nat} (hN : N ≤ 260) : ∃ T : Nat → Nat, TT1 T N Mx ∧ ∀ j, j < N → My.1 8 j &&& 255 = nI (T j) := by
  have hbd : ∀ k, ∃ j, j < 256 ∧ My.1 8 k &&& 255 = nI j := fun k => pk_andE _ 8 (by decide)
  obtain ⟨T, hT⟩ := Classical.axiomOfChoice hbd
  exact ⟨T, ⟨hN, fun j hj => ⟨(hT j).1, by rw [h j (by omega)]; exact (hT j).2⟩⟩, fun j _ => (hT j).2⟩
/-- PROMISE 6: map -/
theorem st_map {Lw : Mem → Mem → Prop} (hL : LwOk Lw) {FU : Nat} (hFU : 10000000 ≤ FU) (t : Nat) (Mx My : Mem) (a0 : Int32) (ht : t < 3072) (h : Inv Lw t Mx My) : ∃ (r : Int32) (Mx' My' : Mem), f11_map FU a0 Mx = some (r, Mx') ∧ f12_map FU a0 My = some (r, My') ∧ Inv Lw (t + 6) Mx' My' := by
  have h0 := h
  obtain ⟨⟨⟨sq, kd, dr, h1⟩, h2⟩, ⟨n, b1, b2, b3, b4⟩, h4, h5⟩ := h
  by_cases g : a0 < 1 ∨ 110 < a0 ∨ nI n < a0
  · refine ⟨-1, Mx, My, ?_, ?_, h0.same hL⟩
    · unfold f11_map b11_map_0
      rw [canGive_e, bnd_s', b2, if_pos g, if_pos rfl]
    · unfold f12_map b12_map_0 b12_map_18
      rw [in_e, bnd_s', b3]
      by_cases g1 : a0 < 1 ∨ 110 < a0
      · rw [if_pos g1, if_pos rfl]
      · rw [if_neg g1, if_neg (by decide), if_neg]
        intro e
        rcases g with g | g | g
        · exact g1 (Or.inl g)
        · exact g1 (Or.inr g)
        · exact Int32.lt_irrefl (Int32.lt_of_le_of_lt e g)
  · have g3 : ¬ a0 < 1 := fun e => g (Or.inl e)
    have g4 : ¬ 110 < a0 := fun e => g (Or.inr (Or.inl e))
    have g5 : ¬ nI n < a0 := fun e => g (Or.inr (Or.inr e))
    obtain ⟨N, hN, rfl⟩ : ∃ m : Nat, m ≤ 110 ∧ a0 = nI m := by
      have c0 : ¬ a0 < 0 := fun e => g3 (Int32.lt_trans e (by decide))
      obtain ⟨k, hk, rfl⟩ := nI_of c0
      exact ⟨k, Nat.le_of_not_lt fun e => g4 (nI_lt (a := 110) e hk), rfl⟩
    obtain ⟨T, hT, hT8⟩ := tape_T b4 (show N ≤ 260 by omega)
    -- the class begins
    have fe := fill_spec (n := FU) 5 96 2 Mx (by omega) (by decide)
    generalize hX : wR Mx 5 (fun j => if j < 96 then 2 else Mx.1 5 j) = X at fe
    have o5 : O5 Mx X := fun c hc => by rw [← hX]; exact wR_o c hc
    have xd : XD (fun _ => 2) X := fun p hp => ⟨by rw [← hX, wR_at, if_pos rfl, if_pos hp]; rfl, Nat.le_refl _⟩
    -- the reference begins
    obtain ⟨n1, Y1, a0, a1, a2, a3⟩ := mapfill_Y 96 0 (FU + 1) (wI (wI (wI (wI (wI My 0 12 0) 0 13 (nI N)) 0 17 0) 0 19 0) 0 35 0) (by omega) (by omega)
    rw [nI_0, e12_map_32] at a1
    have ys : YS T N (fun _ => 2) 0 0 Y1 := ⟨fun j hj => by rw [a3 8 (by decide)]; exact hT8 j hj, by rw [a3 0 (by decide)]; rfl, by rw [a3 0 (by decide)]; rfl, by rw [a3 0 (by decide)]; rfl, fun p hp => by rw [a2 p, if_pos (by omega)]⟩
    have key : EndM (f8_readMap FU (nI N) Mx) (f12_map FU (nI N) My) X Y1 := by
      have ex : f8_readMap FU (nI N) Mx = r8_readMap (FU + 1) 22 [nI N, nI 0, nI 0, nI 0, nI 0, nI 0] [] X := by
        unfold f8_readMap b8_readMap_0
        rw [bnd_e fe, e8_readMap_22, nI_0]
      have ey : f12_map FU (nI N) My = bnd (f12_readsRow n1 Y1) fun r11 M12 => b12_map_56 (r12_map n1) n1 r11 M12 := by
        unfold f12_map b12_map_0 f12_beginsText b12_beginsText_0
        rw [in_e, bnd_s', b3, if_neg (show ¬ (nI N < 1 ∨ 110 < nI N) from fun e => e.elim g3 g4), if_neg (by decide), if_pos (Int32.not_lt.mp g5)]
        simp only [lt_v]
        rw [bnd_s', a1, e12_map_32]
        unfold b12_map_32
        rw [if_pos (show (96 : Int32) ≤ nI 96 by decide)]
      rw [ex, ey]
      rcases row_XY (T := T) (N := N) (row := 0) (sg := 0) (i := 0) (n := FU + 1) (n2 := n1) (X := X) (Y := Y1) (by omega) (by omega) (by omega) (o5.tt hT) xd ys (by omega) with ⟨v, X', Y', q1, q2, q3, q4⟩ | ⟨n', X', Y', across', i', sg', D', q1, q2, q3, q4, q5, q6, q7, q8, q9, q10, q11, q12⟩
      · have hO2 : OYm Y1 Y' := OYm.of (fr12_readsRow q2) (fq12_readsRow q2) (by decide) (by decide)
        rw [bnd_e q2, q1, ← e12_map_56]
        obtain ⟨Y2, z1, z2, z3⟩ := mapfault_Y (n := n1) q3
        rw [z1]
        exact Or.inl ⟨v, X', Y2, rfl, rfl, q4, hO2.trans z2, z3⟩
      · have hO2 : OYm Y1 Y' := OYm.of (fr12_readsRow q3) (fq12_readsRow q3) (by decide) (by decide)
        rw [bnd_e q3, q2, ← e12_map_56]
        exact (maploop_XY (T := T) (N := N) hN (N - i') 0 across' sg' i' n' (n1 + 1) D' X' Y' (Nat.le_refl _) (by omega) (by omega) (q12.tt (o5.tt hT)) q10 q11 q8 (by decide) q5 q6 q9).from q12 hO2
    have ymy : ∀ c, c ≠ 0 → c ≠ 22 → Y1.1 c = My.1 c := fun c e1 e2 => by rw [a3 c e2, (wI_o c e1).1, (wI_o c e1).1, (wI_o c e1).1, (wI_o c e1).1, (wI_o c e1).1]
    have ymy0 : ∀ j, j ∉ ([12, 13, 17, 19, 35] : List Nat) → Y1.1 0 j = My.1 0 j := fun j hj => by
      rw [a3 0 (by decide)]
      simp only [List.mem_cons, List.not_mem_nil, or_false, not_or] at hj
      simp only [wI_at, if_true]
      rw [if_neg (by omega), if_neg (by omega), if_neg (by omega), if_neg (by omega), if_neg (by omega)]
    have xof : ∀ v X', f8_readMap FU (nI N) Mx = some (v, X') → f11_map FU (nI N) Mx = some (v, wI X' 1 1 0) := fun v X' e => by
      unfold f11_map b11_map_0
      rw [canGive_e, bnd_s', b2, if_neg (show ¬ (nI N < 1 ∨ 110 < nI N ∨ nI n < nI N) from g), if_neg (by decide), bnd_e e, lt_v]
    rcases key with ⟨v, X', Y', k1, k2, k3, k4, k5⟩ | ⟨n', row, D, X1, Y', k1, k2, k3, k4, k5, k6, k7, k8, k9, k10⟩
    · -- a fault
      have x := xof v X' k1
      have fy := fr12_map k2
      have qy := fq12_map k2
      have o5' : O5 Mx X' := o5.trans k3
      have fx : ∀ c, c ≠ 5 → c ≠ 1 → (wI X' 1 1 0).1 c = Mx.1 c ∧ (wI X' 1 1 0).2 c = Mx.2 c := fun c e1 e2 => ⟨(wI_o c e2).1.trans (o5' c e1).1, (wI_o c e2).2.trans (o5' c e1).2⟩
      refine ⟨v, wI X' 1 1 0, Y', x, k2, Inv.ask hL h1 h2 ⟨0, by decide, rfl, by rw [k5]; rfl, fun j hj => ?_⟩ h4 h5 (fun c hc => fx c (by rintro rfl; revert hc; decide) (by rintro rfl; revert hc; decide)) (h1.2.2.1.1.keep (fx 10 (by decide) (by decide)).2) ⟨fun c hc => (fx c (by rintro rfl; revert hc; decide) (by rintro rfl; revert hc; decide)).1, by rw [(fx 25 (by decide) (by decide)).1]⟩ (QY.of fy qy (by decide) (by decide)) ⟨h1.2.1.1.keep (by rw [k4.2 5 (by decide), ymy0 5 (by decide)]) (by rw [k4.1 4 (by decide) (by decide), ymy 4 (by decide) (by decide)]), ?_⟩ (by rw [k4.1 5 (by decide) (by decide), ymy 5 (by decide) (by decide)])⟩
      · rw [(fx 2 (by decide) (by decide)).1, k4.1 8 (by decide) (by decide), ymy 8 (by decide) (by decide)]
        exact b4 j hj
      · unfold LY LD
        rw [k4.2 9 (by decide), ymy0 9 (by decide), k4.1 6 (by decide) (by decide), ymy 6 (by decide) (by decide)]
        exact h1.2.1.2
    · -- a map
      obtain ⟨c1, c2, c3, c4, c5, cc, d1, d2, d3⟩ := h1
      have o5' : O5 Mx X1 := o5.trans k5
      have z0 : (0 : Int32).toNatClampNeg = 0 := by decide
      have z96 : (96 : Int32).toNatClampNeg = 96 := by decide
      have hT4 : TX sq D (wR X1 4 (va_cpy (X1.1 5) (X1.1 4) (0 : Int32).toNatClampNeg (0 : Int32).toNatClampNeg (96 : Int32).toNatClampNeg)) := by
        refine ⟨c1.1, ?_, fun p hp => ⟨?_, (k4 p hp).2⟩⟩
        · rw [wR_at, if_neg (by decide), (o5' 3 (by decide)).1]; exact c1.2.1
        · rw [wR_at, if_pos rfl, z0, z96, pk_cpy_in (by omega) (by omega), Nat.sub_zero, Nat.zero_add]
          exact (k4 p hp).1
      obtain ⟨M2, e1, r1, r2⟩ := refresh_X (n := n') (dr := dr) k1 hT4 (by
        rw [(wR_o 6 (by decide)).1, (o5' 6 (by decide)).1]
        exact c4.1 9 (by decide) (by decide))
      rw [bnd_e e1] at k2
      have x := xof _ M2 k2
      have fr := fr8_refresh e1
      have qr := fq8_refresh e1
      have fx := fr11_map x
      have qx := fq11_map x
      have fy := fr12_map k3
      have qy := fq12_map k3
      have m3 : ∀ j, j ≠ 9 → (wI M2 1 1 0).1 3 j = Mx.1 3 j := fun j hj => by
        rw [wI_at, if_neg (by decide), qr 3 j (by decide) (by simp [hj]), wR_at, if_neg (by decide), (o5' 3 (by decide)).1]
      have m6 : (wI M2 1 1 0).1 6 = Mx.1 6 := by
        rw [(wI_o 6 (by decide)).1, (fr 6 (by decide) (fun e => by cases e)).1, (wR_o 6 (by decide)).1, (o5' 6 (by decide)).1]
      refine ⟨_, wI M2 1 1 0, Y', x, k3, Inv.town hL (sq := sq) (kd := D) (dr := dr) ⟨?_, ⟨⟨c1.1, ?_, fun p hp => ⟨k6 p hp, (k4 p hp).2⟩⟩, Or.inl k7⟩, ⟨r1.1, r1.2.1, r1.2.2⟩, c4.keep m6 (m3 8 (by decide)), fun k a b => ?_, cc + 1, by omega, ?_, ?_⟩ h2 ⟨0, by decide, rfl, by rw [k8]; rfl, fun j hj => ?_⟩ h4 h5 (QXr.of fx (by decide)) (QY.of fy qy (by decide) (by decide))⟩
      · refine ⟨c1.1, by rw [m3 7 (by decide)]; exact c1.2.1, fun p hp => ?_⟩
        rw [wI_at, if_neg (by decide), (fr 4 (by decide) (fun e => by cases e)).1]
        exact hT4.2.2 p hp
      · rw [k10 5 (by decide), ymy0 5 (by decide)]; exact c2.1.2.1
      · rw [k9 5 (by decide) (by decide) (by decide), ymy 5 (by decide) (by decide)]; exact c5 k a b
      · rw [wI_at, if_neg (by decide), r2, wR_at, if_neg (by decide), (o5' 3 (by decide)).1, d2, nI_1]
      · rw [(fx 326 (by decide) (fun e => by cases e)).1]
        exact d3.imp id (fun ⟨a, q1, q2, q3⟩ => ⟨a, by omega, q2, fun e => by omega⟩)
      · rw [(fx 2 (by decide) (fun e => by cases e)).1, k9 8 (by decide) (by decide) (by decide), ymy 8 (by decide) (by decide)]
        exact b4 j hj
