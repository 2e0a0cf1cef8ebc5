/-! feed, check, pigeons -/
theorem lt_v {α β : Type} (a : α) (k : α → β) : lt a k = k a := Eq.trans rfl rfl
def TpR (t : Nat) (Mx My : Mem) : Prop := Mx.1 1 1 = nI t ∧ My.1 0 11 = nI t ∧ ∀ j, j < 260 → Mx.1 2 j = My.1 8 j &&& 255
theorem nI_m8 (a : Nat) : nI (8 * (a + 1)) + (-8) = nI (8 * a) := by
  rw [show 8 * (a + 1) = 8 * a + 8 by omega, ← nI_add]
  rw [Int32.add_assoc, show nI 8 + (-8) = 0 by decide, Int32.add_zero]
theorem byte_sh (x : Int32) {s : Nat} (hs : s ≤ 24) : (x.toUInt32 >>> ((nI s).toUInt32 &&& Int32.toUInt32 31)).toInt32 &&& 255 = (x >>> (nI s &&& 31)) &&& 255 := by
  refine b_ext fun i hi => ?_
  rw [b_and, b_and, b_255, b_ushr s (by omega), b_sshr s (by omega) x hi]
  by_cases h : i < 8
  · rw [if_pos (by omega)]
  · simp [h]
theorem add_loop (a : Int32) : ∀ (k : Nat) (Mx My : Mem) (t n : Nat), k ≤ 4 → t + k ≤ 260 → TpR t Mx My → k < n → ∃ Mx' My', r7_addInt n 3 [a, nI (8 * k) + (-8)] [] Mx = some ((), Mx') ∧ r12_types n 2 [a, nI k + (-1)] [] My = some ((), My') ∧ TpR (t + k) Mx' My' := by
  intro k
  induction k with
  | zero =>
    intro Mx My t n h0 h1 h2 h3
    obtain ⟨n, rfl⟩ : ∃ n', n = n' + 1 := ⟨n - 1, by omega⟩
    refine ⟨Mx, My, ?_, ?_, h2⟩
    · rw [e7_addInt_3]; simp only [b7_addInt_3]; rw [if_pos (by decide)]
    · rw [e12_types_2]; simp only [b12_types_2]; rw [if_pos (by decide)]
  | succ k ih =>
    intro Mx My t n h0 h1 h2 h3
    obtain ⟨n, rfl⟩ : ∃ n', n = n' + 1 := ⟨n - 1, by omega⟩
    obtain ⟨a1, a2, a3⟩ := h2
    have hb : (wI (wI Mx 2 t ((a.toUInt32 >>> ((nI (8 * k)).toUInt32 &&& Int32.toUInt32 31)).toInt32 &&& 255)) 1 1 (nI (t + 1))).1 1 1 = nI (t + 1) := rfl
    obtain ⟨Mx', My', e1, e2, e3⟩ := ih (wI (wI Mx 2 t ((a.toUInt32 >>> ((nI (8 * k)).toUInt32 &&& Int32.toUInt32 31)).toInt32 &&& 255)) 1 1 (nI (t + 1))) (wI (wI My 8 t ((a >>> (((8 : Int32) * nI k) &&& 31)).toInt8.toInt32).toInt8.toInt32) 0 11 (nI (t + 1))) (t + 1) n (by omega) (by omega) ⟨rfl, rfl, fun j hj => by
      simp only [wI_at]
      rw [if_neg (show ¬ (2 : Nat) = 1 by decide), if_neg (show ¬ (8 : Nat) = 0 by decide)]
      simp only [if_true]
      by_cases hjt : j = t
      · rw [if_pos hjt, if_pos hjt, bp_b, bp_b, byte_sh a (by omega), show (8 : Int32) * nI k = nI (8 * k) from pk_mul 8 k]
      · rw [if_neg hjt, if_neg hjt]; exact a3 j hj⟩ (by omega)
    refine ⟨Mx', My', ?_, ?_, by rw [show t + (k + 1) = t + 1 + k by omega]; exact e3⟩
    · rw [nI_m8, e7_addInt_3]
      simp only [b7_addInt_3, lt]
      rw [if_neg (nI_pos (by omega)), a1, if_neg (show ¬ (260 : Int32) ≤ nI t from nI_ge (b := 260) (by omega) (by decide)), chk_in (by omega) (by decide), nI_clamp (by omega)]
      rw [← e1]
      congr 1
      · simp only [wI_at]; rw [if_neg (by decide), a1, nI_1]
    · rw [pk_m1, e12_types_2]
      simp only [b12_types_2, lt]
      rw [if_neg (nI_pos (by omega)), a2, chk_in (by omega) (by decide), nI_clamp (by omega)]
      rw [← e2]
      congr 1
      · simp only [wI_at]; rw [if_neg (by decide), a2, nI_1]
theorem add_XY {n t : Nat} (hn : 10 ≤ n) (a : Int32) {Mx My : Mem} (h : TpR t Mx My) (ht : t + 4 ≤ 260) : ∃ Mx' My', f7_addInt n a Mx = some ((), Mx') ∧ f12_types n a My = some ((), My') ∧ TpR (t + 4) Mx' My' := by
  obtain ⟨Mx', My', e1, e2, e3⟩ := add_loop a 4 Mx My t (n + 1) (by decide) ht h (by omega)
  rw [show nI (8 * 4) + (-8) = 24 by decide, e7_addInt_3] at e1
  rw [show nI 4 + (-1) = 3 by decide, e12_types_2] at e2
  exact ⟨Mx', My', e1, e2, e3⟩
/-- PROMISE 4: feed -/
theorem st_feed {Rs : Nat → Mem → Mem → Prop} (hR : RsOk Rs) {FU : Nat} (hFU : 10000000 ≤ FU) (t : Nat) (Mx My : Mem) (a0 a1 a2 a3 a4 : Int32) (ht : t < 3072) (h : InvOf Rs t Mx My) : ∃ (r : Int32) (Mx' My' : Mem), f11_feed FU a0 a1 a2 a3 a4 Mx = some (r, Mx') ∧ f12_feed FU a0 a1 a2 a3 a4 My = some (r, My') ∧ InvOf Rs (t + 6) Mx' My' := by
  have h0 := h
  obtain ⟨h1, ⟨n, b1, b2, b3, b4⟩, h3, h4⟩ := h
  by_cases hc : n + 20 ≤ 260
  · obtain ⟨X1, Y1, x1, y1, q⟩ := add_XY (n := FU) (by omega) a0 (t := n) ⟨b2, b3, b4⟩ (by omega)
    obtain ⟨X2, Y2, x2, y2, q⟩ := add_XY (n := FU) (by omega) a1 q (by omega)
    obtain ⟨X3, Y3, x3, y3, q⟩ := add_XY (n := FU) (by omega) a2 q (by omega)
    obtain ⟨X4, Y4, x4, y4, q⟩ := add_XY (n := FU) (by omega) a3 q (by omega)
    obtain ⟨X5, Y5, x5, y5, q⟩ := add_XY (n := FU) (by omega) a4 q (by omega)
    have x : f11_feed FU a0 a1 a2 a3 a4 Mx = some (X5.1 1 1, X5) := by
      simp only [f11_feed, b11_feed_0, f7_hasRoomForFive, b7_hasRoomForFive_0, b2, show nI n + 20 = nI (n + 20) from nI_add n 20]
      rw [if_neg (show ¬ (260 : Int32) < nI (n + 20) from nI_nlt (a := 260) hc (by decide)), bnd_s', if_neg (by decide), bnd_e x1, bnd_e x2, bnd_e x3, bnd_e x4, bnd_e x5]
    have y : f12_feed FU a0 a1 a2 a3 a4 My = some (X5.1 1 1, Y5) := by
      simp only [f12_feed, b12_feed_0, b3, show nI n + 20 = nI (n + 20) from nI_add n 20]
      rw [if_pos (show nI (n + 20) ≤ (260 : Int32) from nI_le (b := 260) hc (by decide)), bnd_e y1, bnd_e y2, bnd_e y3, bnd_e y4, bnd_e y5, q.1, q.2.1]
    have fx := fr11_feed x
    have fy := fr12_feed y
    have qy := fq12_feed y
    refine ⟨_, X5, Y5, x, y, hR _ _ _ _ _ h1 (AgX.of fx (by decide)) (AgY.of fy qy (by decide) (by decide)), ⟨_, by omega, q.1, q.2.1, q.2.2⟩, h3.keep (by rw [(fx 25 (by decide) (fun e => by cases e)).1]) (qy 0 6 (by decide) (by decide)), h4.keep (fun k hk => (fx k (by revert hk; revert k; decide) (fun e => by cases e)).1) (by rw [(fx 0 (by decide) (fun e => by cases e)).1]) (fun k hk => (fy k (by revert hk; revert k; decide) (fun e => by cases e)).1) (qy 0 53 (by decide) (by decide))⟩
  · refine ⟨-1, Mx, My, ?_, ?_, h0.same hR⟩
    · simp only [f11_feed, b11_feed_0, f7_hasRoomForFive, b7_hasRoomForFive_0, b2, show nI n + 20 = nI (n + 20) from nI_add n 20]
      rw [if_pos (show (260 : Int32) < nI (n + 20) from nI_lt (a := 260) (by omega) (by omega)), bnd_s', if_pos rfl]
    · simp only [f12_feed, b12_feed_0, b3, show nI n + 20 = nI (n + 20) from nI_add n 20]
      rw [if_neg (show ¬ nI (n + 20) ≤ (260 : Int32) from nI_ge (a := 260) (by omega) (by omega))]
/-- can the tape give so many -/
theorem canGive_e (n : Nat) (a lo hi : Int32) (M : Mem) : f7_canGive n a lo hi M = some (if a < lo ∨ hi < a ∨ M.1 1 1 < a then 0 else 1, M) := by
  simp only [f7_canGive, b7_canGive_0, b7_canGive_22]
  by_cases h1 : a < lo
  · rw [if_pos h1, if_pos (Or.inl h1)]
  · by_cases h2 : hi < a
    · rw [if_neg h1, if_pos h2, if_pos (Or.inr (Or.inl h2))]
    · by_cases h3 : M.1 1 1 < a
      · rw [if_neg h1, if_neg h2, if_pos h3, if_pos (Or.inr (Or.inr h3))]
      · rw [if_neg h1, if_neg h2, if_neg h3, if_neg (by simp [h1, h2, h3])]
theorem octet_e {n j : Nat} (h : j < 260) (M : Mem) : f12_octet n (nI j) M = some (M.1 8 j &&& 255, M) := by
  simp only [f12_octet, b12_octet_0]
  rw [chk_in h (by decide), nI_clamp (by omega)]
/-- CHECK, both at once -/
theorem check_loop {Mx My : Mem} (h1 : ∀ j, j < 96 → Mx.1 331 j = My.1 1 j) (h2 : ∀ j, j < 260 → Mx.1 2 j = My.1 8 j &&& 255) (y m : Nat) (hy : y < 8) (hm : m ≤ 12) : ∀ (d i n : Nat), i + d = m → d < n → ∃ r, r11_check n 37 [nI y, nI m, nI i] [] Mx = some (r, Mx) ∧ r12_check n 38 [nI y, nI m, nI i] [] My = some (r, My) := by
  intro d
  induction d with
  | zero =>
    intro i n e hn
    obtain ⟨n, rfl⟩ : ∃ n', n = n' + 1 := ⟨n - 1, by omega⟩
    have : i = m := by omega
    subst this
    rw [e11_check_37, e12_check_38]
    simp only [b11_check_37, b12_check_38]
    rw [if_pos (Int32.le_refl _), if_pos (Int32.le_refl _)]
    exact ⟨_, rfl, rfl⟩
  | succ d ih =>
    intro i n e hn
    obtain ⟨n, rfl⟩ : ∃ n', n = n' + 1 := ⟨n - 1, by omega⟩
    rw [e11_check_37, e12_check_38]
    simp only [b11_check_37, b12_check_38, lt]
    rw [if_neg (nI_ge (by omega) (by omega)), if_neg (nI_ge (by omega) (by omega)), bnd_e (octet_e (by omega) My)]
    rw [show nI y * (12 : Int32) + nI i = nI (12 * y + i) by rw [show (12 : Int32) = nI 12 from rfl, pk_mul, nI_add, Nat.mul_comm], show (0 : Int32) + (12 : Int32) * nI y + nI i = nI (12 * y + i) by rw [Int32.zero_add, show (12 : Int32) = nI 12 from rfl, pk_mul, nI_add]]
    rw [chk_in (by omega) (by decide), chk_in (by omega) (by decide), chk_in (by omega) (by decide), nI_clamp (by omega), nI_clamp (by omega), h2 i (by omega), show (330 + 1 : Nat) = 331 from rfl, h1 _ (by omega), nI_1]
    by_cases hc : My.1 1 (12 * y + i) - My.1 1 (12 * y + i) / 256 * 256 = My.1 8 i &&& 255
    · rw [if_pos hc, if_pos hc.symm]
      exact ih (i + 1) n (by omega) (by omega)
    · rw [if_neg hc, if_neg (fun e => hc e.symm)]
      exact ⟨_, rfl, rfl⟩
/-- PROMISE 28: check -/
theorem st_check {Rs : Nat → Mem → Mem → Prop} (hR : RsOk Rs) {FU : Nat} (hFU : 10000000 ≤ FU) (t : Nat) (Mx My : Mem) (a0 a1 : Int32) (ht : t < 3072) (h : InvOf Rs t Mx My) : ∃ (r : Int32) (Mx' My' : Mem), f11_check FU a0 a1 Mx = some (r, Mx') ∧ f12_check FU a0 a1 My = some (r, My') ∧ InvOf Rs (t + 6) Mx' My' := by
  have h0 := h
  obtain ⟨h1, ⟨n, b1, b2, b3, b4⟩, h3, h4⟩ := h
  by_cases g : a0 < 0 ∨ (8 : Int32) ≤ a0 ∨ a1 < 0 ∨ (12 : Int32) < a1 ∨ nI n < a1
  · have g7 : (7 : Int32) < a0 ↔ (8 : Int32) ≤ a0 := by
      simp only [fa_lt, fa_le, lt_lit (show 7 < 2 ^ 31 by decide), lt_lit (show 8 < 2 ^ 31 by decide)]
      omega
    refine ⟨-2, Mx, My, ?_, ?_, h0.same hR⟩
    · simp only [f11_check, b11_check_0, b11_check_24, canGive_e, bnd_s', b2]
      by_cases g1 : a0 < 0
      · rw [if_pos g1]
      · by_cases g2 : (8 : Int32) ≤ a0
        · rw [if_neg g1, if_pos g2]
        · have g3 : a1 < 0 ∨ (12 : Int32) < a1 ∨ nI n < a1 := (g.resolve_left g1).resolve_left g2
          rw [if_neg g1, if_neg g2, if_pos g3, if_pos rfl]
    · simp only [f12_check, b12_check_0, b12_check_28, in_e, bnd_s', b3]
      by_cases g1 : a0 < 0 ∨ (7 : Int32) < a0
      · rw [if_pos g1, if_pos rfl]
      · rw [if_neg g1, if_neg (show ¬ (1 : Int32) = 0 by decide)]
        have g2 : a1 < 0 ∨ (12 : Int32) < a1 ∨ nI n < a1 := (g.resolve_left (fun e => g1 (Or.inl e))).resolve_left (fun e => g1 (Or.inr (g7.mpr e)))
        by_cases g3 : a1 < 0 ∨ (12 : Int32) < a1
        · rw [if_pos g3, if_pos rfl]
        · rw [if_neg g3, if_neg (show ¬ (1 : Int32) = 0 by decide), if_neg]
          intro e
          rcases g2 with e2 | e2 | e2
          · exact g3 (Or.inl e2)
          · exact g3 (Or.inr e2)
          · exact Int32.lt_irrefl (Int32.lt_of_le_of_lt e e2)
  · have g1 : ¬ a0 < 0 := fun e => g (Or.inl e)
    have g2 : ¬ (8 : Int32) ≤ a0 := fun e => g (Or.inr (Or.inl e))
    have g3 : ¬ a1 < 0 := fun e => g (Or.inr (Or.inr (Or.inl e)))
    have g4 : ¬ (12 : Int32) < a1 := fun e => g (Or.inr (Or.inr (Or.inr (Or.inl e))))
    have g5 : ¬ nI n < a1 := fun e => g (Or.inr (Or.inr (Or.inr (Or.inr e))))
    obtain ⟨y, hy, rfl⟩ := nI_of g1
    obtain ⟨m, hm, rfl⟩ := nI_of g3
    rw [show (8 : Int32) = nI 8 from rfl, nI_leI (by decide) hy] at g2
    rw [show (12 : Int32) = nI 12 from rfl, nI_ltI (by decide) hm] at g4
    obtain ⟨r, e1, e2⟩ := check_loop (Mx := wI Mx 1 1 0) (My := wI My 0 11 0) (fun j hj => h4.1.1 j hj) (fun j hj => b4 j hj) y m (by omega) (by omega) m 0 (FU + 1) (by omega) (by omega)
    rw [nI_0, e11_check_37] at e1
    rw [nI_0, e12_check_38] at e2
    refine ⟨r, _, _, ?_, ?_, h0.tape0 hR⟩
    · simp only [f11_check, b11_check_0, b11_check_24, canGive_e, bnd_s', b2, lt]
      have q1 : ¬ (nI m < 0 ∨ (12 : Int32) < nI m ∨ nI n < nI m) := by
        rintro (e | e | e)
        · exact g3 e
        · exact nI_nlt (a := 12) (by omega) (by decide) e
        · exact g5 e
      rw [if_neg g1, if_neg (show ¬ (8 : Int32) ≤ nI y from nI_ge (b := 8) (by omega) (by decide)), if_neg q1, if_neg (show ¬ (1 : Int32) = 0 by decide)]
      exact e1
    · simp only [f12_check, b12_check_0, b12_check_28, in_e, bnd_s', b3, lt]
      have q1 : ¬ (nI y < 0 ∨ (7 : Int32) < nI y) := by
        rintro (e | e)
        · exact g1 e
        · exact nI_nlt (a := 7) (by omega) (by decide) e
      have q2 : ¬ (nI m < 0 ∨ (12 : Int32) < nI m) := by
        rintro (e | e)
        · exact g3 e
        · exact nI_nlt (a := 12) (by omega) (by decide) e
      rw [if_neg q1, if_neg (show ¬ (1 : Int32) = 0 by decide), if_neg q2, if_neg (show ¬ (1 : Int32) = 0 by decide), if_pos (Int32.not_lt.mp g5)]
      exact e2
/-- PIGEONS, both at once -/
theorem pig_loop {Mx My : Mem} (h2 : ∀ j, j < 260 → Mx.1 2 j = My.1 8 j &&& 255) (w : Int32) : ∀ (d i n : Nat) (m a : Int32), i + d = 24 → d < n → ∃ r, r11_pigeons n 38 [w, m, a, nI i] [] Mx = some (r, Mx) ∧ r12_pigeons n 32 [w, a, m, nI i] [] My = some (r, My) := by
  intro d
  induction d with
  | zero =>
    intro i n m a e hn
    obtain ⟨n, rfl⟩ : ∃ n', n = n' + 1 := ⟨n - 1, by omega⟩
    have : i = 24 := by omega
    subst this
    rw [e11_pigeons_38, e12_pigeons_32]
    simp only [b11_pigeons_38, b12_pigeons_32]
    rw [if_pos (show (24 : Int32) ≤ nI 24 by decide), if_pos (show (24 : Int32) ≤ nI 24 by decide)]
    by_cases hw : w = 0
    · rw [if_pos hw, if_pos hw]; exact ⟨_, rfl, rfl⟩
    · rw [if_neg hw, if_neg hw]; exact ⟨_, rfl, rfl⟩
  | succ d ih =>
    intro i n m a e hn
    obtain ⟨n, rfl⟩ : ∃ n', n = n' + 1 := ⟨n - 1, by omega⟩
    rw [e11_pigeons_38, e12_pigeons_32]
    simp only [b11_pigeons_38, b12_pigeons_32, b11_pigeons_117, b12_pigeons_92, lt]
    rw [if_neg (show ¬ (24 : Int32) ≤ nI i from nI_ge (b := 24) (by omega) (by decide)), if_neg (show ¬ (24 : Int32) ≤ nI i from nI_ge (b := 24) (by omega) (by decide))]
    have z1 : nI i + 24 - 1 - (nI i + 24 - 1) / 24 * 24 = nI ((i + 23) % 24) := by
      rw [show nI i + 24 - 1 = nI (i + 23) by rw [show nI i + 24 = nI (i + 23 + 1) from nI_add i 24, nI_pred]]
      exact pk_rem (by omega) (by decide) (by decide)
    have z2 : nI i + 1 - (nI i + 1) / 24 * 24 = nI ((i + 1) % 24) := by
      rw [nI_1]
      exact pk_rem (by omega) (by decide) (by decide)
    have z3 : nI i + 23 - (nI i + 23) / 24 * 24 = nI ((i + 23) % 24) := by
      rw [show nI i + 23 = nI (i + 23) from nI_add i 23]
      exact pk_rem (by omega) (by decide) (by decide)
    rw [z1, z2, z3, chk_in (by omega) (by decide), chk_in (by omega) (by decide), chk_in (by omega) (by decide), nI_clamp (by omega), nI_clamp (by omega), nI_clamp (by omega), bnd_e (octet_e (by omega) My), bnd_e (octet_e (by omega) My), bnd_e (octet_e (by omega) My), h2 _ (by omega), h2 _ (by omega), h2 _ (by omega)]
    obtain ⟨A, hA⟩ : ∃ A, A = My.1 8 i &&& 255 := ⟨_, rfl⟩
    obtain ⟨B, hB⟩ : ∃ B, B = My.1 8 ((i + 23) % 24) &&& 255 := ⟨_, rfl⟩
    obtain ⟨C, hC⟩ : ∃ C, C = My.1 8 ((i + 1) % 24) &&& 255 := ⟨_, rfl⟩
    rw [← hA, ← hB, ← hC, nI_1]
    simp only [f12_size, b12_size_0]
    have z4 : 2 * A - C - B = 2 * A - B - C := by
      rw [Int32.sub_eq_add_neg, Int32.sub_eq_add_neg, Int32.sub_eq_add_neg, Int32.sub_eq_add_neg, Int32.add_assoc, Int32.add_comm (-C), ← Int32.add_assoc]
    rw [z4]
    have z5 : ∀ v : Int32, bnd (if 0 ≤ v then some (v, My) else some (-v, My)) (fun r18 M19 => if m < r18 then r12_pigeons n 32 [w, nI i, r18, nI (i + 1)] [] M19 else r12_pigeons n 32 [w, a, m, nI (i + 1)] [] M19) = (if m < (if 0 ≤ v then v else 0 - v) then r12_pigeons n 32 [w, nI i, (if 0 ≤ v then v else 0 - v), nI (i + 1)] [] My else r12_pigeons n 32 [w, a, m, nI (i + 1)] [] My) := by
      intro v
      by_cases hv : 0 ≤ v
      · simp only [if_pos hv, bnd_s']
      · simp only [if_neg hv, bnd_s', Int32.zero_sub]
    rw [z5]
    obtain ⟨V, hV⟩ : ∃ V, V = if 0 ≤ 2 * A - B - C then 2 * A - B - C else 0 - (2 * A - B - C) := ⟨_, rfl⟩
    rw [← hV]
    by_cases hc : V ≤ m
    · rw [if_pos hc, if_neg (Int32.not_lt.mpr hc)]
      exact ih (i + 1) n _ _ (by omega) (by omega)
    · rw [if_neg hc, if_pos (Int32.not_le.mp hc)]
      exact ih (i + 1) n _ _ (by omega) (by omega)
theorem pig_Y {n FU : Nat} {a0 : Int32} {My : Mem} (hc : (24 : Int32) ≤ nI n) (g : ¬ (a0 < 0 ∨ (1 : Int32) < a0)) (b3 : My.1 0 11 = nI n) : f12_pigeons FU a0 My = b12_pigeons_32 (r12_pigeons FU) FU a0 0 (-1) 0 (wI My 0 11 0) := by
  unfold f12_pigeons b12_pigeons_0
  rw [in_e, if_neg g, bnd_s', if_neg (show ¬ (1 : Int32) = 0 by decide), b3, if_pos hc, lt_v]
/-- PROMISE 23: pigeons -/
theorem st_pigeons {Rs : Nat → Mem → Mem → Prop} (hR : RsOk Rs) {FU : Nat} (hFU : 10000000 ≤ FU) (t : Nat) (Mx My : Mem) (a0 : Int32) (ht : t < 3072) (h : InvOf Rs t Mx My) : ∃ (r : Int32) (Mx' My' : Mem), f11_pigeons FU a0 Mx = some (r, Mx') ∧ f12_pigeons FU a0 My = some (r, My') ∧ InvOf Rs (t + 6) Mx' My' := by
  have h0 := h
  obtain ⟨h1, ⟨n, b1, b2, b3, b4⟩, h3, h4⟩ := h
  by_cases g : a0 < 0 ∨ (1 : Int32) < a0
  · refine ⟨-1, Mx, My, ?_, ?_, h0.same hR⟩
    · simp only [f11_pigeons, b11_pigeons_0, b11_pigeons_21]
      rw [ite2 g]
    · simp only [f12_pigeons, b12_pigeons_0, b12_pigeons_18, in_e, bnd_s']
      rw [if_pos g, if_pos rfl]
  · have g1 : ¬ a0 < 0 := fun e => g (Or.inl e)
    have g2 : ¬ (1 : Int32) < a0 := fun e => g (Or.inr e)
    by_cases hc : (24 : Int32) ≤ nI n
    · obtain ⟨r, e1, e2⟩ := pig_loop (Mx := wI Mx 1 1 0) (My := wI My 0 11 0) (fun j hj => b4 j hj) a0 24 0 (FU + 1) (-1) 0 rfl (Nat.lt_of_lt_of_le (by decide) (Nat.le_succ_of_le hFU))
      rw [nI_0, e11_pigeons_38] at e1
      rw [nI_0, e12_pigeons_32] at e2
      refine ⟨r, _, _, ?_, ?_, h0.tape0 hR⟩
      · unfold f11_pigeons b11_pigeons_0
        rw [if_neg g1, if_neg g2, b2, if_pos hc, lt_v]
        exact e1
      · exact (pig_Y hc g b3).trans e2
    · refine ⟨-1, Mx, My, ?_, ?_, h0.same hR⟩
      · simp only [f11_pigeons, b11_pigeons_0, b11_pigeons_21, b2]
        rw [if_neg g1, if_neg g2, if_neg hc]
      · simp only [f12_pigeons, b12_pigeons_0, b12_pigeons_18, in_e, bnd_s', b3]
        rw [if_neg g, if_neg (show ¬ (1 : Int32) = 0 by decide), if_neg hc]
