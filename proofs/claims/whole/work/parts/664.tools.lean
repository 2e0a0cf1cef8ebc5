/-! tools: literals as nI, comparisons, walks over the functions -/
theorem lt_lit {n : Nat} (h : n < 2 ^ 31) : (OfNat.ofNat n : Int32).toInt = (n : Int) := nI_toInt h
theorem chk_in {α : Type} {i L : Nat} {k : Option α} (h : i < L) (hL : L < 2 ^ 31) : chk (inb (nI i) L) k = k := chk_t (inb_nI h hL)
theorem i_m1 : (-1 : Int32).toInt = -1 := by decide
theorem i_m2 : (-2 : Int32).toInt = -2 := by decide
theorem nI_m1 {a : Nat} (h : a < 2 ^ 31) : ¬ nI a = -1 := fun e => by
  have := congrArg Int32.toInt e
  rw [nI_toInt h, i_m1] at this
  omega
theorem nI_m2 {a : Nat} (h : a < 2 ^ 31) : ¬ nI a = -2 := fun e => by
  have := congrArg Int32.toInt e
  rw [nI_toInt h, i_m2] at this
  omega
theorem in_e (n : Nat) (v lo hi : Int32) (M : Mem) : f12_in n v lo hi M = some (if v < lo ∨ hi < v then 0 else 1, M) := by
  by_cases h : v < lo ∨ hi < v
  · rw [in_f h, if_pos h]
  · rw [in_t (fun e => h (Or.inl e)) (fun e => h (Or.inr e)), if_neg h]
theorem bnd_s' {α β : Type} {r : α} {M : Mem} {k : α → Mem → Option β} : bnd (some (r, M)) k = k r M := rfl
theorem ite2 {α : Type} {p q : Prop} [Decidable p] [Decidable q] {x y : α} (h : p ∨ q) : (if p then x else if q then x else y) = x := by
  by_cases hp : p
  · rw [if_pos hp]
  · rw [if_neg hp, if_pos (h.resolve_left hp)]
/-- what a call leaves as it was -/
theorem InvOf.same {Rs : Nat → Mem → Mem → Prop} (hR : RsOk Rs) {t : Nat} {Mx My : Mem} (h : InvOf Rs t Mx My) : InvOf Rs (t + 6) Mx My := ⟨hR _ _ _ _ _ h.1 AgX.refl AgY.refl, h.2⟩
theorem InvOf.tape0 {Rs : Nat → Mem → Mem → Prop} (hR : RsOk Rs) {t : Nat} {Mx My : Mem} (h : InvOf Rs t Mx My) : InvOf Rs (t + 6) (wI Mx 1 1 0) (wI My 0 11 0) := by
  obtain ⟨h1, ⟨n, a1, a2, a3, a4⟩, h3, h4⟩ := h
  refine ⟨hR _ _ _ _ _ h1 (fun k hk => wI_o k (by rintro rfl; revert hk; decide)) ⟨fun j hj => ?_, fun k hk => (wI_o k (by rintro rfl; revert hk; decide)).1⟩, ⟨0, by decide, rfl, rfl, a4⟩, h3.keep rfl rfl, h4.keep (fun k hk => (wI_o k (by rintro rfl; revert hk; decide)).1) rfl (fun k hk => (wI_o k (by rintro rfl; revert hk; decide)).1) rfl⟩
  rw [wI_at, if_pos rfl, if_neg (by rintro rfl; revert hj; decide)]
/-- PROMISE 27: undo -/
theorem st_undo {Rs : Nat → Mem → Mem → Prop} (hR : RsOk Rs) {FU : Nat} (hFU : 10000000 ≤ FU) (t : Nat) (Mx My : Mem) (ht : t < 3072) (h : InvOf Rs t Mx My) : ∃ (r : Int32) (Mx' My' : Mem), f11_undo FU Mx = some (r, Mx') ∧ f12_undo FU My = some (r, My') ∧ InvOf Rs (t + 6) Mx' My' := by
  have h0 := h
  obtain ⟨h1, h2, h3, h4⟩ := h
  obtain ⟨c1, c2, c3, c4⟩ := h4
  by_cases hc : Mx.1 0 12 = 0
  · refine ⟨0, Mx, My, ?_, ?_, h0.same hR⟩
    · simp only [f11_undo, b11_undo_0, if_pos hc]
    · simp only [f12_undo, b12_undo_0, ← c3, if_pos hc]
  · obtain ⟨d1, d2⟩ := c4.resolve_left hc
    obtain ⟨M1, e1, a1, a2, a3⟩ := take_spec (n := FU) co_330 co_333 (by decide) Mx
    have f1 := fr0_take e1
    have e2 := copies_spec (n := FU) 3 1 (by decide) My (by omega)
    have x : f11_undo FU Mx = some (1, M1) := by
      simp only [f11_undo, b11_undo_0, if_neg hc, bnd_e e1]
    have y : f12_undo FU My = some (1, wR My 1 (fun j => if j < 162 then My.1 3 j else My.1 1 j)) := by
      simp only [f12_undo, b12_undo_0, ← c3, if_neg hc, bnd_e e2]
    have k333 : M1.1 333 = Mx.1 333 := (f1 333 (by decide) (fun e => by cases e)).1
    have k334 : M1.1 334 = Mx.1 334 := (f1 334 (by decide) (fun e => by cases e)).1
    have k335 : M1.1 335 = Mx.1 335 := (f1 335 (by decide) (fun e => by cases e)).1
    have k0 : M1.1 0 = Mx.1 0 := (f1 0 (by decide) (fun e => by cases e)).1
    have k1 : M1.1 1 = Mx.1 1 := (f1 1 (by decide) (fun e => by cases e)).1
    have k2 : M1.1 2 = Mx.1 2 := (f1 2 (by decide) (fun e => by cases e)).1
    have k25 : M1.1 25 = Mx.1 25 := (f1 25 (by decide) (fun e => by cases e)).1
    refine ⟨_, _, _, x, y, hR _ _ _ _ _ h1 (fun k hk => ?_) ⟨fun j hj => ?_, fun k hk => ?_⟩, ?_, ?_, ?_, ?_, ?_, Or.inr ⟨?_, ?_⟩⟩
    · exact f1 k (by revert hk; revert k; decide) (fun e => by cases e)
    · rw [wR_at, if_neg (by decide)]
    · rw [(wR_o k (by rintro rfl; revert hk; decide)).1]
    · exact h2.keep (by rw [k1]) k2 (by rw [wR_at, if_neg (by decide)]) (by rw [(wR_o 8 (by decide)).1])
    · exact h3.keep (by rw [k25]) (by rw [wR_at, if_neg (by decide)])
    · exact d1.copied a1 a2 a3 (fun j hj => by rw [wR_at, if_pos rfl, if_pos hj])
    · exact d2.copied a1 a2 a3
    · rw [k0, wR_at, if_neg (by decide)]; exact c3
    · exact d1.keep (fun j _ => by rw [k333]) k334 k335 (by rw [(wR_o 3 (by decide)).1])
    · exact d2.keep (fun j _ => by rw [k333]) k334 k335
/-- PROMISE 14: walk -/
theorem st_walk {Rs : Nat → Mem → Mem → Prop} (hR : RsOk Rs) {FU : Nat} (hFU : 10000000 ≤ FU) (t : Nat) (Mx My : Mem) (a0 : Int32) (ht : t < 3072) (h : InvOf Rs t Mx My) : ∃ (r : Int32) (Mx' My' : Mem), f11_walk FU a0 Mx = some (r, Mx') ∧ f12_walk FU a0 My = some (r, My') ∧ InvOf Rs (t + 6) Mx' My' := by
  have h0 := h
  obtain ⟨h1, h2, h3, h4⟩ := h
  obtain ⟨⟨e1, e2, e3, e4, e5, e6, e7, e8⟩, ⟨b1, b2, b3, b4, b5, b6, b7, b8⟩, c3, c4⟩ := h4
  have h9 := h0.same hR
  have L60 : (60 : Int32) = nI 60 := rfl
  have key : ∃ r, f11_walk FU a0 Mx = some (r, Mx) ∧ f12_walk FU a0 My = some (r, My) := by
    simp only [f11_walk, b11_walk_0, b11_walk_14, b11_walk_15, b11_walk_32, f12_walk, b12_walk_0, in_e, bnd_s']
    by_cases g : a0 < 0 ∨ (60 : Int32) ≤ a0
    · rw [ite2 g, if_pos trivial]
      have gy : a0 < 0 ∨ (59 : Int32) < a0 := by
        simp only [fa_lt, fa_le, lt_lit (show 59 < 2 ^ 31 by decide), lt_lit (show 60 < 2 ^ 31 by decide)] at g ⊢
        omega
      rw [if_pos gy, if_pos rfl]
      by_cases g2 : a0 < 100 ∨ (103 : Int32) < a0
      · rw [if_pos g2, if_pos rfl]
        refine ⟨-1, ?_, rfl⟩
        rcases g2 with g2 | g2
        · rw [if_pos g2]
        · rw [if_neg (fun e => Int32.lt_asymm g2 (Int32.lt_of_lt_of_le e (by decide))), if_neg (Int32.not_le.mpr g2)]
      · rw [if_neg g2, if_neg (show ¬ (1 : Int32) = 0 by decide), if_neg (fun e => g2 (Or.inl e)), if_pos (Int32.not_lt.mp (fun e => g2 (Or.inr e)))]
        have g3 : a0 = 100 ∨ a0 = 101 ∨ a0 = 102 ∨ a0 = 103 := by
          simp only [fa_lt, fa_eq, lt_lit (show 100 < 2 ^ 31 by decide), lt_lit (show 101 < 2 ^ 31 by decide), lt_lit (show 102 < 2 ^ 31 by decide), lt_lit (show 103 < 2 ^ 31 by decide)] at g2 ⊢
          omega
        have z1 : (156 : Int32).toNatClampNeg = 156 := by decide
        simp only [b11_walk_34, b12_walk_23]
        rw [chk_t (b := inb 156 162) (by decide), z1, ← e3]
        rcases b3 with b3 | ⟨hh, b3, b3'⟩
        · rw [b3, if_neg (by decide), if_pos rfl]
          exact ⟨_, rfl, rfl⟩
        · rw [b3', if_pos (nI_pos' (by omega)), if_pos trivial, if_neg (nI_m2 (by omega))]
          rcases g3 with rfl | rfl | rfl | rfl
          · refine ⟨_, rfl, ?_⟩
            rw [if_pos (by decide), chk_t (by decide), show ((156 : Int32) + 100 - 100).toNatClampNeg = 156 by decide, ← e3, b3']
          · refine ⟨_, rfl, ?_⟩
            rw [if_pos (by decide), chk_t (by decide), show ((156 : Int32) + 101 - 100).toNatClampNeg = 157 by decide, ← e4]
          · refine ⟨_, rfl, ?_⟩
            rw [if_pos (by decide), chk_t (by decide), show ((156 : Int32) + 102 - 100).toNatClampNeg = 158 by decide, ← e5]
          · refine ⟨_, rfl, ?_⟩
            rw [if_pos (by decide), chk_t (by decide), show ((156 : Int32) + 103 - 100).toNatClampNeg = 159 by decide, ← e6]
    · have g1 : ¬ a0 < 0 := fun e => g (Or.inl e)
      have g2 : ¬ (60 : Int32) ≤ a0 := fun e => g (Or.inr e)
      obtain ⟨j, hj, rfl⟩ := nI_of g1
      rw [L60, nI_leI (by decide) hj] at g2
      have gy : ¬ (nI j < 0 ∨ (59 : Int32) < nI j) := by
        rintro (e | e)
        · exact g1 e
        · have : nI 59 < nI j := e
          rw [nI_ltI (by decide) hj] at this
          omega
      rw [if_neg g1, if_neg (show ¬ (60 : Int32) ≤ nI j from nI_ge (b := 60) (by omega) (by decide)), if_neg (by decide), if_neg gy, if_neg (by decide)]
      have z1 : (156 : Int32).toNatClampNeg = 156 := by decide
      simp only [b11_walk_34, b12_walk_23]
      rw [chk_t (b := inb 156 162) (by decide), z1, ← e3]
      rcases b3 with b3 | ⟨hh, b3, b3'⟩
      · rw [b3, if_neg (by decide), if_pos rfl]
        exact ⟨_, rfl, rfl⟩
      · rw [b3', if_pos (nI_pos' (by omega)), if_neg (by decide), if_neg (nI_m2 (by omega)), chk_in (by omega) (by decide), if_neg (show ¬ (60 : Int32) ≤ nI j from nI_ge (b := 60) (by omega) (by decide)), show (96 : Int32) + nI j = nI (96 + j) from nI_add 96 j, chk_in (by omega) (by decide), nI_clamp (by omega), nI_clamp (by omega)]
        exact ⟨_, rfl, by rw [← e2 j (by omega)]⟩
  obtain ⟨r, k1, k2⟩ := key
  exact ⟨r, Mx, My, k1, k2, h9⟩
