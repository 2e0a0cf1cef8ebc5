/-! MAP: both -/
def YS (T : Nat → Nat) (N : Nat) (D : Nat → Nat) (i rows : Nat) (Y : Mem) : Prop := (∀ j, j < N → Y.1 8 j &&& 255 = nI (T j)) ∧ Y.1 0 12 = nI i ∧ Y.1 0 13 = nI N ∧ Y.1 0 35 = nI rows ∧ ∀ p, p < 96 → Y.1 22 p = nI (D p)
def XD (D : Nat → Nat) (X : Mem) : Prop := ∀ p, p < 96 → X.1 5 p = nI (D p) ∧ D p ≤ 2
def O5 (X X' : Mem) : Prop := ∀ c, c ≠ 5 → X'.1 c = X.1 c ∧ X'.2 c = X.2 c
theorem O5.refl {X : Mem} : O5 X X := fun _ _ => ⟨rfl, rfl⟩
theorem O5.trans {X X1 X2 : Mem} (h : O5 X X1) (g : O5 X1 X2) : O5 X X2 := fun c hc => ⟨(g c hc).1.trans (h c hc).1, (g c hc).2.trans (h c hc).2⟩
theorem O5.tt {T : Nat → Nat} {N : Nat} {X X' : Mem} (h : O5 X X') (g : TT1 T N X) : TT1 T N X' := ⟨g.1, fun j hj => ⟨(g.2 j hj).1, by rw [(h 2 (by decide)).1]; exact (g.2 j hj).2⟩⟩
theorem here_e {n N i : Nat} {T : Nat → Nat} {Y : Mem} (hN : N ≤ 260) (h8 : ∀ j, j < N → Y.1 8 j &&& 255 = nI (T j)) (h12 : Y.1 0 12 = nI i) (h13 : Y.1 0 13 = nI N) (hi : i ≤ N) : f12_here n Y = some (if i < N then nI (T i) else -1, Y) := by
  unfold f12_here b12_here_0
  rw [h12, h13]
  by_cases c : i < N
  · rw [if_neg (nI_ge c (by omega)), chk_in (by omega) (by decide), nI_clamp (by omega), h8 i c, if_pos c]
  · rw [if_pos (nI_le (by omega) (by omega)), if_neg c]
def cb (c : Nat) : Bool := decide (ks c < 3) || (decide (50 ≤ c) && decide (c ≤ 57))
theorem canBegin_e {n c : Nat} {Y : Mem} (hc : c < 256) : f12_canBeginSign n (nI c) Y = some (if cb c = true then 1 else 0, Y) := by
  unfold f12_canBeginSign b12_canBeginSign_0 b12_canBeginSign_29
  by_cases h1 : c = 46
  · subst h1; rfl
  by_cases h2 : c = 35
  · subst h2; rfl
  by_cases h3 : c = 43
  · subst h3; rfl
  rw [if_neg (show ¬ nI c = (46 : Int32) from fun e => h1 ((nI_eq (b := 46) (by omega) (by decide)).mp e)), if_neg (show ¬ nI c = (35 : Int32) from fun e => h2 ((nI_eq (b := 35) (by omega) (by decide)).mp e)), if_neg (show ¬ nI c = (43 : Int32) from fun e => h3 ((nI_eq (b := 43) (by omega) (by decide)).mp e)), in_e, bnd_s']
  have hk : ¬ ks c < 3 := fun e => by have := (ks_lt e).1; omega
  by_cases h4 : 50 ≤ c ∧ c ≤ 57
  · rw [if_neg (show ¬ (nI c < (50 : Int32) ∨ (57 : Int32) < nI c) from fun e => e.elim (nI_nlt (b := 50) h4.1 (by omega)) (nI_nlt (a := 57) h4.2 (by decide))), if_neg (by decide), if_pos (by simp [cb, h4])]
  · have h5 : nI c < (50 : Int32) ∨ (57 : Int32) < nI c := by
      by_cases q : c < 50
      · exact Or.inl (nI_lt (b := 50) q (by decide))
      · exact Or.inr (nI_lt (a := 57) (by omega) (by omega))
    rw [if_pos h5, if_pos rfl, if_neg]
    simp only [cb, hk, decide_false, Bool.false_or, Bool.and_eq_true, decide_eq_true_eq]
    exact h4
theorem canBegin_m1 {n : Nat} {Y : Mem} : f12_canBeginSign n (-1) Y = some (0, Y) := rfl
theorem wrong_e (n : Nat) (k a : Int32) (Y : Mem) : f12_wrongAt n k a Y = some (0, wI Y 0 14 ((-1000 : Int32) * k - a)) := rfl
/-- the text has ended -/
theorem mx_end {N row across many sg n : Nat} {X : Mem} (hm : many ≤ 9) (ha : across ≤ 12) (h : across = 0 ∨ many ≠ 0) : r8_readMap (n + 1) 22 [nI N, nI row, nI across, nI many, nI sg, nI N] [] X = some ((-1000 : Int32) * nI 1 - nI N, X) := by
  rw [e8_readMap_22]
  unfold b8_readMap_22 b8_readMap_245
  rw [if_pos (Int32.le_refl _)]
  have fin : (bnd (f11_faultAt n 1 (nI N) X) fun r48 M49 => some (r48, M49)) = some ((-1000 : Int32) * nI 1 - nI N, X) := rfl
  rw [fin]
  by_cases c : across = 0
  · rw [c, if_pos nI_0]
  · rw [if_neg (nI_ne0 (by omega) (by omega)), if_neg (nI_nle (by have := h.resolve_left c; omega) (by omega))]
/-- the reference writes a sign's places -/
theorem my_write {row across e k : Nat} (he : e ≤ 12) (hr : row < 8) {m : Nat} (hm : across + m = e) : ∀ (d j n : Nat) (Y : Mem), j + d = m → d < n → Y.1 0 35 = nI row → ∃ Y', r12_readsSign n 130 [nI across, nI m, nI k, nI j] [] Y = some (nI e, Y') ∧ (∀ q, Y'.1 22 q = if 12 * row + across + j ≤ q ∧ q < 12 * row + e then nI k else Y.1 22 q) ∧ (∀ c, c ≠ 22 → Y'.1 c = Y.1 c) := by
  intro d
  induction d with
  | zero =>
    intro j n Y h1 h2 h35
    obtain ⟨n, rfl⟩ : ∃ n', n = n' + 1 := ⟨n - 1, by omega⟩
    have : j = m := by omega
    subst this
    rw [e12_readsSign_130]
    unfold b12_readsSign_130
    rw [if_pos (Int32.le_refl _), nI_add, hm]
    exact ⟨Y, rfl, fun q => by rw [if_neg (by omega)], fun _ _ => rfl⟩
  | succ d ih =>
    intro j n Y h1 h2 h35
    obtain ⟨n, rfl⟩ : ∃ n', n = n' + 1 := ⟨n - 1, by omega⟩
    rw [e12_readsSign_130]
    unfold b12_readsSign_130
    rw [if_neg (nI_ge (show j < m by omega) (by omega)), h35, show (12 : Int32) * nI row + nI across + nI j = nI (12 * row + across + j) by rw [show (12 : Int32) = nI 12 from rfl, pk_mul, nI_add, nI_add], chk_in (by omega) (by decide), lt_v, lt_v, nI_1, nI_clamp (by omega)]
    obtain ⟨Y', a1, a2, a3⟩ := ih (j + 1) n (wI Y 22 (12 * row + across + j) (nI k)) (by omega) (by omega) h35
    refine ⟨Y', a1, fun q => ?_, fun c hc => (a3 c hc).trans (wI_o c hc).1⟩
    rw [a2 q, wI_at, if_pos rfl]
    by_cases q1 : q = 12 * row + across + j
    · rw [if_neg (by omega), if_pos q1, if_pos (by omega)]
    · rw [if_neg q1]
      by_cases q2 : 12 * row + across + (j + 1) ≤ q ∧ q < 12 * row + e
      · rw [if_pos q2, if_pos (by omega)]
      · rw [if_neg q2, if_neg (by omega)]
def FaultM (n n2 N row across many sg i : Nat) (X : Mem) (y : Option (Int32 × Mem)) (r : Int32) : Prop := ∃ v X' Y', r8_readMap n 22 [nI N, nI row, nI across, nI many, nI sg, nI i] [] X = some (v, X') ∧ y = some (r, Y') ∧ Y'.1 0 14 = v ∧ O5 X X'
/-- the second half of a sign -/
theorem half_XY {T : Nat → Nat} {N row across many sg i from0 n n2 : Nat} {D : Nat → Nat} {X Y : Mem} (hn : 100 ≤ n) (hn2 : 100 ≤ n2) (hT : TT1 T N X) (hX : XD D X) (hY : YS T N D i row Y) (hi : i ≤ N) (hr : row < 8) (ha : across ≤ 12) (hm : many ≤ 9) (hfr : from0 = if many = 0 then i else sg) (hc : many ≠ 0 ∨ (i < N ∧ ks (T i) < 3)) : FaultM n n2 N row across many sg i X (b12_readsSign_39 (r12_readsSign n2) n2 (nI across) (nI from0) (nI (max many 1)) Y) (-1) ∨ ∃ n' X' Y' across' i' sg' D', n ≤ n' + 30 ∧ r8_readMap n 22 [nI N, nI row, nI across, nI many, nI sg, nI i] [] X = r8_readMap n' 22 [nI N, nI row, nI across', nI 0, nI sg', nI i'] [] X' ∧ b12_readsSign_39 (r12_readsSign n2) n2 (nI across) (nI from0) (nI (max many 1)) Y = some (nI across', Y') ∧ across < across' ∧ across' ≤ 12 ∧ i < i' ∧ i' ≤ N ∧ XD D' X' ∧ YS T N D' i' row Y' ∧ O5 X X' := by
  obtain ⟨y1, y2, y3, y4, y5⟩ := hY
  have hN := hT.1
  obtain ⟨n, rfl⟩ : ∃ n', n = n' + 1 := ⟨n - 1, by omega⟩
  have hh := here_e (n := n2) hN y1 y2 y3 hi
  unfold b12_readsSign_39
  rw [bnd_e hh]
  have wrongY : ∀ Y0 : Mem, b12_readsSign_79 (r12_readsSign n2) n2 (nI across) (nI from0) (nI (max many 1)) (-1) Y0 = some (-1, wI Y0 0 14 ((-1000 : Int32) * 1 - Y0.1 0 12)) := fun Y0 => by
    unfold b12_readsSign_79
    rw [if_pos rfl, wrong_e, bnd_s']
  by_cases c0 : i < N
  · rw [if_pos c0]
    have hTi := (hT.2 i c0).1
    by_cases c1 : ks (T i) < 3
    · -- a kind
      have e79 : (if nI (T i) = (46 : Int32) then b12_readsSign_79 (r12_readsSign n2) n2 (nI across) (nI from0) (nI (max many 1)) 2 Y else if nI (T i) = (35 : Int32) then b12_readsSign_79 (r12_readsSign n2) n2 (nI across) (nI from0) (nI (max many 1)) 0 Y else if nI (T i) = (43 : Int32) then b12_readsSign_79 (r12_readsSign n2) n2 (nI across) (nI from0) (nI (max many 1)) 1 Y else b12_readsSign_79 (r12_readsSign n2) n2 (nI across) (nI from0) (nI (max many 1)) (-1) Y) = b12_readsSign_79 (r12_readsSign n2) n2 (nI across) (nI from0) (nI (max many 1)) (nI (ks (T i))) Y := by
        rcases (ks_lt c1).1 with e | e | e <;> rw [e] <;> rfl
      have hk2 := (ks_lt c1).2
      have hrow : ¬ nI row = (8 : Int32) := fun e => by rw [show (8 : Int32) = nI 8 from rfl, nI_eq (by omega) (by decide)] at e; omega
      rw [e79, show r8_readMap (n + 1) 22 [nI N, nI row, nI across, nI many, nI sg, nI i] [] X = _ from mx_kind hT c0 c1 hm ha, if_neg hrow, ← hfr]
      unfold b12_readsSign_79
      rw [if_neg (nI_m1 (by omega)), lt_v, y2, nI_1, nI_add]
      by_cases c2 : across + max many 1 ≤ 12
      · right
        rw [if_pos c2, if_pos (show nI (across + max many 1) ≤ (12 : Int32) from nI_le (b := 12) c2 (by decide)), ← e8_readMap_199]
        obtain ⟨X', a1, a2, a3⟩ := mx_write (N := N) (sg := from0) (i := i) (k := ks (T i)) (e := across + max many 1) c2 hr (max many 1) across (n + 1) X rfl (by omega)
        obtain ⟨Y', b1, b2, b3⟩ := my_write (row := row) (across := across) (k := ks (T i)) c2 hr rfl (max many 1) 0 (n2 + 1) (wI Y 0 12 (nI (i + 1))) (by omega) (by omega) y4
        rw [nI_0, e12_readsSign_130] at b1
        refine ⟨_, X', Y', across + max many 1, i + 1, from0, fun p => if 12 * row + across ≤ p ∧ p < 12 * row + (across + max many 1) then ks (T i) else D p, ?_, a1, b1, by omega, c2, by omega, by omega, fun p hp => ?_, ⟨fun j hj => ?_, ?_, ?_, ?_, fun p hp => ?_⟩, a3⟩
        · omega
        · refine ⟨?_, ?_⟩
          · rw [a2 p]
            by_cases q : 12 * row + across ≤ p ∧ p < 12 * row + (across + max many 1)
            · rw [if_pos q]; show _ = nI (if _ then _ else _); rw [if_pos q]
            · rw [if_neg q]; show _ = nI (if _ then _ else _); rw [if_neg q]; exact (hX p hp).1
          · show (if _ then _ else _) ≤ 2
            split
            · exact hk2
            · exact (hX p hp).2
        · rw [b3 8 (by decide)]; exact y1 j hj
        · rw [b3 0 (by decide)]; rfl
        · rw [b3 0 (by decide)]; exact y3
        · rw [b3 0 (by decide)]; exact y4
        · rw [b2 p, Nat.add_zero]
          by_cases q : 12 * row + across ≤ p ∧ p < 12 * row + (across + max many 1)
          · rw [if_pos q]; show _ = nI (if _ then _ else _); rw [if_pos q]
          · rw [if_neg q]; show _ = nI (if _ then _ else _); rw [if_neg q]; exact y5 p hp
      · left
        refine ⟨(-1000 : Int32) * nI 6 - nI from0, X, wI (wI Y 0 12 (nI (i + 1))) 0 14 ((-1000 : Int32) * 6 - nI from0), ?_, ?_, ?_, O5.refl⟩
        · rw [show r8_readMap (n + 1) 22 [nI N, nI row, nI across, nI many, nI sg, nI i] [] X = _ from mx_kind hT c0 c1 hm ha, if_neg hrow, ← hfr, if_neg c2]
        · rw [if_neg (show ¬ nI (across + max many 1) ≤ (12 : Int32) from nI_ge (a := 12) (by omega) (by omega)), wrong_e, bnd_s']
        · rfl
    · -- no kind: then a number stood before it
      have hmz : many ≠ 0 := hc.resolve_right (fun e => c1 e.2)
      obtain ⟨k1, k2, k3⟩ := ks_none c1
      left
      refine ⟨(-1000 : Int32) * nI 1 - nI i, X, wI Y 0 14 ((-1000 : Int32) * 1 - Y.1 0 12), mx_wrong hT c0 c1 (Or.inl hmz) (Or.inl hmz) hm ha, ?_, ?_, O5.refl⟩
      · rw [if_neg (show ¬ nI (T i) = (46 : Int32) from fun e => k3 ((nI_eq (b := 46) (by omega) (by decide)).mp e)), if_neg (show ¬ nI (T i) = (35 : Int32) from fun e => k1 ((nI_eq (b := 35) (by omega) (by decide)).mp e)), if_neg (show ¬ nI (T i) = (43 : Int32) from fun e => k2 ((nI_eq (b := 43) (by omega) (by decide)).mp e)), wrongY]
      · rw [wI_at, if_pos rfl, if_pos rfl, y2]
        rfl
  · have hmz : many ≠ 0 := hc.resolve_right (fun e => c0 e.1)
    have hiN : i = N := by omega
    subst hiN
    left
    refine ⟨(-1000 : Int32) * nI 1 - nI i, X, wI Y 0 14 ((-1000 : Int32) * 1 - Y.1 0 12), mx_end hm ha (Or.inr hmz), ?_, ?_, O5.refl⟩
    · rw [if_neg c0, if_neg (show ¬ (-1 : Int32) = 46 by decide), if_neg (show ¬ (-1 : Int32) = 35 by decide), if_neg (show ¬ (-1 : Int32) = 43 by decide), wrongY]
    · rw [wI_at, if_pos rfl, if_pos rfl, y2]
      rfl
/-- a sign -/
theorem sign_XY {T : Nat → Nat} {N row across sg i n n2 : Nat} {D : Nat → Nat} {X Y : Mem} (hn : 110 ≤ n) (hn2 : 110 ≤ n2) (hT : TT1 T N X) (hX : XD D X) (hY : YS T N D i row Y) (hi : i < N) (hcb : cb (T i) = true) (hr : row < 8) (ha : across ≤ 12) : FaultM n n2 N row across 0 sg i X (f12_readsSign n2 (nI across) Y) (-1) ∨ ∃ n' X' Y' across' i' sg' D', n ≤ n' + 40 ∧ r8_readMap n 22 [nI N, nI row, nI across, nI 0, nI sg, nI i] [] X = r8_readMap n' 22 [nI N, nI row, nI across', nI 0, nI sg', nI i'] [] X' ∧ f12_readsSign n2 (nI across) Y = some (nI across', Y') ∧ across < across' ∧ across' ≤ 12 ∧ i < i' ∧ i' ≤ N ∧ XD D' X' ∧ YS T N D' i' row Y' ∧ O5 X X' := by
  have hY0 := hY
  obtain ⟨y1, y2, y3, y4, y5⟩ := hY
  have hN := hT.1
  have hTi := (hT.2 i hi).1
  have hh := here_e (n := n2) hN y1 y2 y3 (by omega : i ≤ N)
  rw [if_pos hi] at hh
  unfold f12_readsSign b12_readsSign_0
  rw [lt_v, bnd_e hh, in_e, bnd_s', y2]
  by_cases c : 50 ≤ T i ∧ T i ≤ 57
  · -- a number
    rw [if_neg (show ¬ (nI (T i) < (50 : Int32) ∨ (57 : Int32) < nI (T i)) from fun e => e.elim (nI_nlt (b := 50) c.1 (by omega)) (nI_nlt (a := 57) c.2 (by decide))), if_neg (by decide), bnd_e hh, lt_v, lt_v, y2, nI_1, show nI (T i) - (48 : Int32) = nI (T i - 48) from pk_sub (b := 48) (by omega)]
    have hrow : ¬ nI row = (8 : Int32) := fun e => by rw [show (8 : Int32) = nI 8 from rfl, nI_eq (by omega) (by decide)] at e; omega
    obtain ⟨n, rfl⟩ : ∃ n', n = n' + 1 := ⟨n - 1, by omega⟩
    have hd : r8_readMap (n + 1) 22 [nI N, nI row, nI across, nI 0, nI sg, nI i] [] X = r8_readMap n 22 [nI N, nI row, nI across, nI (T i - 48), nI i, nI (i + 1)] [] X := by
      rw [mx_digit hT hi c.1 c.2, if_neg hrow]
    have g := half_XY (n := n) (n2 := n2) (many := T i - 48) (sg := i) (i := i + 1) (from0 := i) (Y := wI Y 0 12 (nI (i + 1))) (by omega) (by omega) hT hX ⟨y1, rfl, y3, y4, y5⟩ (by omega) hr ha (by omega) (by rw [if_neg (by omega)]) (Or.inl (by omega))
    rw [show max (T i - 48) 1 = T i - 48 by omega] at g
    rcases g with ⟨v, X', Y', g1, g2, g3, g4⟩ | ⟨n', X', Y', across', i', sg', D', g1, g2, g3, g4, g5, g6, g7⟩
    · exact Or.inl ⟨v, X', Y', by rw [hd]; exact g1, g2, g3, g4⟩
    · exact Or.inr ⟨n', X', Y', across', i', sg', D', by omega, by rw [hd]; exact g2, g3, g4, g5, by omega, g7⟩
  · have hk : ks (T i) < 3 := by
      simp only [cb, Bool.or_eq_true, Bool.and_eq_true, decide_eq_true_eq] at hcb
      exact hcb.resolve_right c
    have h5 : nI (T i) < (50 : Int32) ∨ (57 : Int32) < nI (T i) := by
      by_cases q : T i < 50
      · exact Or.inl (nI_lt (b := 50) q (by decide))
      · exact Or.inr (nI_lt (a := 57) (by omega) (by omega))
    rw [if_pos h5, if_pos rfl]
    have g := half_XY (n := n) (n2 := n2) (many := 0) (sg := sg) (i := i) (from0 := i) (Y := Y) (by omega) (by omega) hT hX hY0 (by omega) hr ha (by omega) (by rw [if_pos rfl]) (Or.inr ⟨hi, hk⟩)
    rcases g with ⟨v, X', Y', g1, g2, g3, g4⟩ | ⟨n', X', Y', across', i', sg', D', g1, g2⟩
    · exact Or.inl ⟨v, X', Y', g1, g2, g3, g4⟩
    · exact Or.inr ⟨n', X', Y', across', i', sg', D', by omega, g2⟩
/-- the rest of a row -/
theorem rowrest_XY {T : Nat → Nat} {N row : Nat} (hr : row < 8) : ∀ (d across sg i n n2 : Nat) (D : Nat → Nat) (X Y : Mem), N - i ≤ d → 40 * d + 200 < n → d + 200 < n2 → TT1 T N X → XD D X → YS T N D i row Y → i ≤ N → 0 < across → across ≤ 12 → FaultM n n2 N row across 0 sg i X (r12_readsRow n2 45 [nI across] [] Y) 0 ∨ ∃ n' X' Y' across' i' sg' D', n ≤ n' + 40 * d ∧ r8_readMap n 22 [nI N, nI row, nI across, nI 0, nI sg, nI i] [] X = r8_readMap n' 22 [nI N, nI row, nI across', nI 0, nI sg', nI i'] [] X' ∧ r12_readsRow n2 45 [nI across] [] Y = some (1, Y') ∧ 0 < across' ∧ across' ≤ 12 ∧ i ≤ i' ∧ i' ≤ N ∧ (i' < N → cb (T i') = false) ∧ XD D' X' ∧ YS T N D' i' (row + 1) Y' ∧ O5 X X' := by
  intro d
  induction d with
  | zero =>
    intro across sg i n n2 D X Y hd hn hn2 hT hX hY hi ha ha2
    obtain ⟨n2, rfl⟩ : ∃ n', n2 = n' + 1 := ⟨n2 - 1, by omega⟩
    obtain ⟨y1, y2, y3, y4, y5⟩ := hY
    have hN := hT.1
    have hh := here_e (n := n2) hN y1 y2 y3 hi
    rw [if_neg (by omega)] at hh
    right
    refine ⟨n, X, wI Y 0 35 (nI (row + 1)), across, i, sg, D, by omega, rfl, ?_, ha, ha2, Nat.le_refl _, hi, fun e => by omega, hX, ⟨y1, y2, y3, rfl, y5⟩, O5.refl⟩
    rw [e12_readsRow_45]
    unfold b12_readsRow_45 b12_readsRow_69
    rw [if_neg (nI_m1 (by omega)), bnd_e hh, canBegin_m1, bnd_s', if_pos rfl, lt_v, y4, nI_1, if_neg (nI_m1 (by omega))]
  | succ d ih =>
    intro across sg i n n2 D X Y hd hn hn2 hT hX hY hi ha ha2
    obtain ⟨n2, rfl⟩ : ∃ n', n2 = n' + 1 := ⟨n2 - 1, by omega⟩
    have hY0 := hY
    obtain ⟨y1, y2, y3, y4, y5⟩ := hY
    have hN := hT.1
    have hh := here_e (n := n2) hN y1 y2 y3 hi
    by_cases c : i < N ∧ cb (T i) = true
    · obtain ⟨c1, c2⟩ := c
      rw [if_pos c1] at hh
      have hstep : r12_readsRow (n2 + 1) 45 [nI across] [] Y = bnd (f12_readsSign n2 (nI across) Y) fun r28 M29 => r12_readsRow n2 45 [r28] [] M29 := by
        rw [e12_readsRow_45]
        unfold b12_readsRow_45
        rw [if_neg (nI_m1 (by omega)), bnd_e hh, bnd_e (canBegin_e (hT.2 i c1).1), if_pos c2, if_neg (by decide)]
      rcases sign_XY (n := n) (n2 := n2) (sg := sg) (across := across) (by omega) (by omega) hT hX hY0 c1 c2 hr ha2 with ⟨v, X', Y', g1, g2, g3, g4⟩ | ⟨n', X', Y', across', i', sg', D', g1, g2, g3, g4, g5, g6, g7, g8, g9, g10⟩
      · left
        refine ⟨v, X', wI Y' 0 35 (Y'.1 0 35 + 1), g1, ?_, ?_, g4⟩
        · obtain ⟨n2, rfl⟩ : ∃ n', n2 = n' + 1 := ⟨n2 - 1, by omega⟩
          rw [hstep, bnd_e g2, e12_readsRow_45]
          unfold b12_readsRow_45 b12_readsRow_69
          rw [if_pos rfl, lt_v, if_pos rfl]
        · rw [wI_at, if_pos rfl, if_neg (by decide)]; exact g3
      · rw [hstep, bnd_e g3]
        have r := ih across' sg' i' n' n2 D' X' Y' (by omega) (by omega) (by omega) (g10.tt hT) g8 g9 g7 (by omega) g5
        rcases r with ⟨v, X2, Y2, q1, q2, q3, q4⟩ | ⟨n3, X2, Y2, a3, i3, s3, D3, q1, q2, q3, q4, q5, q6, q7, q8, q9, q10, q11⟩
        · exact Or.inl ⟨v, X2, Y2, by rw [g2]; exact q1, q2, q3, g10.trans q4⟩
        · exact Or.inr ⟨n3, X2, Y2, a3, i3, s3, D3, by omega, by rw [g2]; exact q2, q3, q4, q5, by omega, q7, q8, q9, q10, g10.trans q11⟩
    · right
      refine ⟨n, X, wI Y 0 35 (nI (row + 1)), across, i, sg, D, by omega, rfl, ?_, ha, ha2, Nat.le_refl _, hi, fun e => ts_nt fun q => c ⟨e, q⟩, hX, ⟨y1, y2, y3, rfl, y5⟩, O5.refl⟩
      rw [e12_readsRow_45]
      unfold b12_readsRow_45 b12_readsRow_69
      rw [if_neg (nI_m1 (by omega)), bnd_e hh]
      by_cases c1 : i < N
      · rw [if_pos c1, bnd_e (canBegin_e (hT.2 i c1).1), if_neg (fun q => c ⟨c1, q⟩), if_pos rfl, lt_v, y4, nI_1, if_neg (nI_m1 (by omega))]
      · rw [if_neg c1, canBegin_m1, bnd_s', if_pos rfl, lt_v, y4, nI_1, if_neg (nI_m1 (by omega))]
/-- a row -/
theorem row_XY {T : Nat → Nat} {N row sg i n n2 : Nat} {D : Nat → Nat} {X Y : Mem} (hr : row ≤ 8) (hn : 40 * (N - i) + 300 < n) (hn2 : (N - i) + 300 < n2) (hT : TT1 T N X) (hX : XD D X) (hY : YS T N D i row Y) (hi : i ≤ N) : FaultM n n2 N row 0 0 sg i X (f12_readsRow n2 Y) 0 ∨ ∃ n' X' Y' across' i' sg' D', n ≤ n' + 40 * (N - i) + 40 ∧ r8_readMap n 22 [nI N, nI row, nI 0, nI 0, nI sg, nI i] [] X = r8_readMap n' 22 [nI N, nI row, nI across', nI 0, nI sg', nI i'] [] X' ∧ f12_readsRow n2 Y = some (1, Y') ∧ row < 8 ∧ 0 < across' ∧ across' ≤ 12 ∧ i < i' ∧ i' ≤ N ∧ (i' < N → cb (T i') = false) ∧ XD D' X' ∧ YS T N D' i' (row + 1) Y' ∧ O5 X X' := by
  have hY0 := hY
  obtain ⟨y1, y2, y3, y4, y5⟩ := hY
  have hN := hT.1
  have hh := here_e (n := n2) hN y1 y2 y3 hi
  obtain ⟨n, rfl⟩ : ∃ n', n = n' + 1 := ⟨n - 1, by omega⟩
  unfold f12_readsRow b12_readsRow_0
  rw [bnd_e hh]
  by_cases c : i < N ∧ cb (T i) = true
  · obtain ⟨c1, c2⟩ := c
    rw [if_pos c1, bnd_e (canBegin_e (hT.2 i c1).1), if_pos c2, if_neg (by decide), y4]
    by_cases c3 : row = 8
    · subst c3
      left
      refine ⟨(-1000 : Int32) * nI 4 - nI i, X, wI Y 0 14 ((-1000 : Int32) * 4 - nI i), ?_, ?_, rfl, O5.refl⟩
      · by_cases c4 : 50 ≤ T i ∧ T i ≤ 57
        · rw [mx_digit hT c1 c4.1 c4.2, if_pos (show nI 8 = (8 : Int32) from rfl)]
        · have hk : ks (T i) < 3 := by
            simp only [cb, Bool.or_eq_true, Bool.and_eq_true, decide_eq_true_eq] at c2
            exact c2.resolve_right c4
          rw [mx_kind hT c1 hk (by decide) (by decide), if_pos (show nI 8 = (8 : Int32) from rfl)]
      · rw [if_pos (show nI 8 = (8 : Int32) from rfl), wrong_e, bnd_s', chk_t (by decide), y2]
    · have hr8 : row < 8 := by omega
      rw [if_neg (show ¬ nI row = (8 : Int32) from fun e => c3 ((nI_eq (b := 8) (by omega) (by decide)).mp e))]
      rcases sign_XY (n := n + 1) (n2 := n2) (sg := sg) (across := 0) (by omega) (by omega) hT hX hY0 c1 c2 hr8 (by decide) with ⟨v, X', Y', g1, g2, g3, g4⟩ | ⟨n', X', Y', across', i', sg', D', g1, g2, g3, g4, g5, g6, g7, g8, g9, g10⟩
      · left
        refine ⟨v, X', wI Y' 0 35 (Y'.1 0 35 + 1), g1, ?_, ?_, g4⟩
        · rw [nI_0] at g2
          rw [bnd_e g2]
          unfold b12_readsRow_45 b12_readsRow_69
          rw [if_pos rfl, lt_v, if_pos rfl]
        · rw [wI_at, if_pos rfl, if_neg (by decide)]; exact g3
      · rw [nI_0] at g3
        rw [bnd_e g3, ← e12_readsRow_45]
        have r := rowrest_XY (T := T) (N := N) (row := row) hr8 (N - i') across' sg' i' n' (n2 + 1) D' X' Y' (Nat.le_refl _) (by omega) (by omega) (g10.tt hT) g8 g9 g7 (by omega) g5
        rcases r with ⟨v, X2, Y2, q1, q2, q3, q4⟩ | ⟨n3, X2, Y2, a3, i3, s3, D3, q1, q2, q3, q4, q5, q6, q7, q8, q9, q10, q11⟩
        · exact Or.inl ⟨v, X2, Y2, by rw [g2]; exact q1, q2, q3, g10.trans q4⟩
        · exact Or.inr ⟨n3, X2, Y2, a3, i3, s3, D3, by omega, by rw [g2]; exact q2, q3, hr8, q4, q5, by omega, q7, q8, q9, q10, g10.trans q11⟩
  · left
    refine ⟨(-1000 : Int32) * nI 1 - nI i, X, wI Y 0 14 ((-1000 : Int32) * 1 - nI i), ?_, ?_, rfl, O5.refl⟩
    · by_cases c1 : i < N
      · have hcb : ¬ cb (T i) = true := fun e => c ⟨c1, e⟩
        simp only [cb, Bool.or_eq_true, Bool.and_eq_true, decide_eq_true_eq] at hcb
        exact mx_wrong hT c1 (fun e => hcb (Or.inl e)) (Or.inr (fun e => hcb (Or.inr e))) (Or.inr (Or.inl rfl)) (by decide) (by decide)
      · have : i = N := by omega
        subst this
        exact mx_end (by decide) (by decide) (Or.inl rfl)
    · by_cases c1 : i < N
      · rw [if_pos c1, bnd_e (canBegin_e (hT.2 i c1).1), if_neg (fun q => c ⟨c1, q⟩), if_pos rfl, wrong_e, bnd_s', chk_t (by decide), y2]
      · rw [if_neg c1, canBegin_m1, bnd_s', if_pos rfl, wrong_e, bnd_s', chk_t (by decide), y2]
