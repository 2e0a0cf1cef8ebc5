/-! BARRED: the class's side -/
noncomputable def AX (sq : Nat) (kd : Nat → Nat) (sh : Bool) (q p : Nat) : Bool := fl sq kd 1 p && (!sh || decide (ds (fl sq kd 1) sq p = ds (fl sq kd 1) sq q + 1))
def CX (A : Nat → Nat → Bool) (f : Nat → Nat) (s : Nat) (W : Nat → Nat) : Prop := ∀ p, p < 96 → W p = 99 ∨ (W p < 99 ∧ ∃ d, cwd A f s d (W p) p)
def WX (A : Nat → Nat → Bool) (f : Nat → Nat) (s : Nat) (W0 W : Nat → Nat) (g i w : Nat) : Prop := CX A f s W ∧ (∀ p, p < 96 → W p ≤ W0 p) ∧ (g = 0 ∨ g = 1) ∧ (g = 0 → ∀ p, p < 96 → W p = W0 p) ∧ (∀ p, p < i → ∀ v, v < 4 → W0 p < 99 → bes p v < 96 → A p (bes p v) = true → W (bes p v) ≤ W0 p + f (bes p v)) ∧ ∀ v, v < w → W0 i < 99 → bes i v < 96 → A i (bes i v) = true → W (bes i v) ≤ W0 i + f (bes i v)
section WXs
variable {A : Nat → Nat → Bool} {f : Nat → Nat} {s : Nat} {W0 W : Nat → Nat} {g i w : Nat}
theorem WX.pass (h : WX A f s W0 W g i w) (hi : i < 96) (hc : ¬ bes i w < 96 ∨ A i (bes i w) = false ∨ W (bes i w) ≤ W i + f (bes i w)) : WX A f s W0 W g i (w + 1) := by
  obtain ⟨h1, h2, h3, h4, h5, h6⟩ := h
  refine ⟨h1, h2, h3, h4, h5, fun v hv a1 a2 a3 => ?_⟩
  by_cases e : v = w
  · subst e
    rcases hc with c | c | c
    · exact absurd a2 c
    · rw [c] at a3; cases a3
    · have := h2 i hi; omega
  · exact h6 v (by omega) a1 a2 a3
theorem WX.next (h : WX A f s W0 W g i 4) : WX A f s W0 W g (i + 1) 0 := by
  obtain ⟨h1, h2, h3, h4, h5, h6⟩ := h
  refine ⟨h1, h2, h3, h4, fun p hp v hv => ?_, fun v hv => by omega⟩
  by_cases e : p = i
  · subst e; exact h6 v hv
  · exact h5 p (by omega) v hv
theorem WX.skip (h : WX A f s W0 W g i w) (hi : i < 96) (hc : ¬ W i < 99) : WX A f s W0 W g (i + 1) 0 := by
  obtain ⟨h1, h2, h3, h4, h5, h6⟩ := h
  refine ⟨h1, h2, h3, h4, fun p hp v hv a1 => ?_, fun v hv => by omega⟩
  by_cases e : p = i
  · subst e; have := h2 p hi; omega
  · exact h5 p (by omega) v hv a1
theorem WX.put (h : WX A f s W0 W g i w) (hi : i < 96) (hw : w < 4) (hb : bes i w < 96) (ha : A i (bes i w) = true) (hc : W i < 99) (hl : W i + f (bes i w) < W (bes i w)) : WX A f s W0 (up W (bes i w) (W i + f (bes i w))) 1 i (w + 1) := by
  obtain ⟨h1, h2, h3, h4, h5, h6⟩ := h
  have hle : ∀ x, up W (bes i w) (W i + f (bes i w)) x ≤ W x := fun x => by
    by_cases e : x = bes i w
    · rw [e, up_eq]; omega
    · rw [up_ne e]; exact Nat.le_refl _
  refine ⟨fun p hp => ?_, fun p hp => Nat.le_trans (hle p) (h2 p hp), Or.inr rfl, (fun e => by cases e), fun p hp v hv a1 a2 a3 => Nat.le_trans (hle _) (h5 p hp v hv a1 a2 a3), fun v hv a1 a2 a3 => ?_⟩
  · by_cases e : p = bes i w
    · subst e
      rw [up_eq]
      obtain ⟨d, hd⟩ := ((h1 i hi).resolve_left (by omega)).2
      have := h1 (bes i w) hp
      exact Or.inr ⟨by omega, d + 1, i, w, W i, hw, hi, hd, rfl, hb, ha, rfl⟩
    · rw [up_ne e]; exact h1 p hp
  · by_cases e : v = w
    · subst e
      rw [up_eq]
      have := h2 i hi
      omega
    · exact Nat.le_trans (hle _) (h6 v (by omega) a1 a2 a3)
end WXs
theorem fewer_loop {sq : Nat} {kd : Nat → Nat} {sh : Bool} (W0 : Nat → Nat) : ∀ (m : Nat) (W : Nat → Nat) (g i w n : Nat) (M : Mem), WX (AX sq kd sh) (fc sq kd 0 1) sq W0 W g i w → i < 96 → w ≤ 4 → 5 * (96 - i) - w ≤ m → 2 * m + 2 < n → TX sq kd M → (∀ p, p < 96 → M.1 29 p = nI (W p)) → (∀ p, p < 96 → M.1 28 p = nI (ds (fl sq kd 1) sq p)) → ∃ W' g' M', r6_findFewerWalls n 13 [(if sh then 1 else 0), nI g, nI i, nI w] [] M = some (nI g', M') ∧ WX (AX sq kd sh) (fc sq kd 0 1) sq W0 W' g' 96 0 ∧ TX sq kd M' ∧ (∀ p, p < 96 → M'.1 29 p = nI (W' p)) ∧ ∀ p, p < 96 → M'.1 28 p = nI (ds (fl sq kd 1) sq p) := by
  intro m
  induction m with
  | zero => intro W g i w n M h hi hw hm; omega
  | succ m ih =>
    intro W g i w n M h hi hw hm hn hT hM hS
    obtain ⟨n, rfl⟩ : ∃ n', n = n' + 1 := ⟨n - 1, by omega⟩
    have tonext : WX (AX sq kd sh) (fc sq kd 0 1) sq W0 W g (i + 1) 0 → 5 * (96 - (i + 1)) ≤ m → ∃ W' g' M', r6_findFewerWalls n 4 [(if sh then 1 else 0), nI g, nI (i + 1)] [] M = some (nI g', M') ∧ WX (AX sq kd sh) (fc sq kd 0 1) sq W0 W' g' 96 0 ∧ TX sq kd M' ∧ (∀ p, p < 96 → M'.1 29 p = nI (W' p)) ∧ ∀ p, p < 96 → M'.1 28 p = nI (ds (fl sq kd 1) sq p) := by
      intro h2 hm2
      obtain ⟨n, rfl⟩ : ∃ n', n = n' + 1 := ⟨n - 1, by omega⟩
      rw [e6_findFewerWalls_4]
      unfold b6_findFewerWalls_4
      by_cases e2 : i + 1 < 96
      · rw [if_neg (show ¬ (96 : Int32) ≤ nI (i + 1) from nI_ge (b := 96) e2 (by decide)), ← e6_findFewerWalls_13, ← nI_0]
        exact ih W g (i + 1) 0 (n + 1) M h2 e2 (by omega) (by omega) (by omega) hT hM hS
      · have : i + 1 = 96 := by omega
        rw [this] at h2 ⊢
        rw [if_pos (by decide), chk_t (by rcases h2.2.2.1 with e | e <;> rw [e] <;> decide)]
        exact ⟨W, g, M, rfl, h2, hT, hM, hS⟩
    rw [e6_findFewerWalls_13]
    unfold b6_findFewerWalls_13 b6_findFewerWalls_136 b6_findFewerWalls_130
    by_cases e : w = 4
    · subst e
      rw [if_pos (by decide), lt_v, nI_1]
      exact tonext h.next (by omega)
    · have skip : WX (AX sq kd sh) (fc sq kd 0 1) sq W0 W g i (w + 1) → ∃ W' g' M', (lt (nI w + (1 : Int32)) fun v28 => r6_findFewerWalls n 13 [(if sh then 1 else 0), nI g, nI i, v28] [] M) = some (nI g', M') ∧ WX (AX sq kd sh) (fc sq kd 0 1) sq W0 W' g' 96 0 ∧ TX sq kd M' ∧ (∀ p, p < 96 → M'.1 29 p = nI (W' p)) ∧ ∀ p, p < 96 → M'.1 28 p = nI (ds (fl sq kd 1) sq p) := by
        intro h2
        rw [lt_v, nI_1]
        exact ih W g i (w + 1) n M h2 hi (by omega) (by omega) (by omega) hT hM hS
      rw [if_neg (show ¬ (4 : Int32) ≤ nI w from nI_ge (b := 4) (by omega) (by decide)), chk_in hi (by decide), nI_clamp (by omega), hM i hi]
      have hWi : W i ≤ 99 := by rcases h.1 i hi with e | e <;> omega
      by_cases hc : W i < 99
      · rw [if_neg (show ¬ (99 : Int32) ≤ nI (W i) from nI_ge (b := 99) hc (by decide)), bnd_e (bes_X hi (by omega))]
        by_cases hb : bes i w < 96
        · rw [bI_in hb, if_neg (nI_pos (by omega)), bnd_e (kindOf_X hT hb)]
          have hk2 : kof sq kd (bes i w) ≤ 2 := kof_le (hT.2.2 _ hb).2
          by_cases hk : kof sq kd (bes i w) = 0
          · rw [hk, if_pos nI_0]
            exact skip (h.pass hi (Or.inr (Or.inl (by simp [AX, fl, hk]))))
          · rw [if_neg (nI_ne0 (by omega) (by omega))]
            have hfl : fl sq kd 1 (bes i w) = true := by simp [fl]; omega
            have hWb : W (bes i w) ≤ 99 := by rcases h.1 _ hb with e | e <;> omega
            have tail : AX sq kd sh i (bes i w) = true → ∃ W' g' M', b6_findFewerWalls_80 (r6_findFewerWalls n) n (if sh then 1 else 0) (nI g) (nI i) (nI w) (nI (bes i w)) M = some (nI g', M') ∧ WX (AX sq kd sh) (fc sq kd 0 1) sq W0 W' g' 96 0 ∧ TX sq kd M' ∧ (∀ p, p < 96 → M'.1 29 p = nI (W' p)) ∧ ∀ p, p < 96 → M'.1 28 p = nI (ds (fl sq kd 1) sq p) := by
              intro ha
              have hs : b6_findFewerWalls_80 (r6_findFewerWalls n) n (if sh then 1 else 0) (nI g) (nI i) (nI w) (nI (bes i w)) M = b6_findFewerWalls_104 (r6_findFewerWalls n) n (if sh then 1 else 0) (nI g) (nI i) (nI w) (nI (bes i w)) (nI (W i)) (nI (fc sq kd 0 1 (bes i w))) M := by
                unfold b6_findFewerWalls_80
                rw [chk_in hi (by decide), bnd_e (kindOf_X hT hb), nI_clamp (by omega), hM i hi]
                unfold fc
                by_cases e1 : kof sq kd (bes i w) = 1
                · rw [e1, if_pos (show nI 1 = (1 : Int32) from rfl), if_pos rfl]
                  rfl
                · rw [if_neg (show ¬ nI (kof sq kd (bes i w)) = (1 : Int32) from fun e => e1 ((nI_eq (b := 1) (by omega) (by decide)).mp e)), if_neg e1]
                  rfl
              rw [hs]
              unfold b6_findFewerWalls_104 b6_findFewerWalls_130
              have hfb : fc sq kd 0 1 (bes i w) ≤ 1 := by unfold fc; split <;> omega
              rw [lt_v, nI_add, chk_in hb (by decide), nI_clamp (by omega), hM _ hb]
              by_cases hl : W i + fc sq kd 0 1 (bes i w) < W (bes i w)
              · rw [if_neg (nI_ge hl (by omega)), chk_in hb (by decide), lt_v, lt_v, nI_1]
                refine ih _ 1 i (w + 1) n (wI M 29 (bes i w) (nI (W i + fc sq kd 0 1 (bes i w)))) (h.put hi (by omega) hb ha hc hl) hi (by omega) (by omega) (by omega) (hT.keep rfl rfl) (fun p hp => ?_) hS
                rw [wI_at, if_pos rfl]
                unfold up
                by_cases e3 : p = bes i w
                · rw [if_pos e3, if_pos e3]
                · rw [if_neg e3, if_neg e3]; exact hM p hp
              · rw [if_pos (nI_le (by omega) (by omega))]
                exact skip (h.pass hi (Or.inr (Or.inr (by omega))))
            cases sh with
            | false =>
              rw [if_pos (by decide)]
              exact tail (by simp [AX, hfl])
            | true =>
              have l1 := ds_le (fl sq kd 1) hT.1 hi
              have l2 := ds_le (fl sq kd 1) hT.1 hb
              rw [if_neg (by decide), chk_in hb (by decide), chk_in hi (by decide), nI_clamp (by omega), hS _ hb, hS _ hi, nI_1]
              by_cases hd : ds (fl sq kd 1) sq (bes i w) = ds (fl sq kd 1) sq i + 1
              · rw [if_pos (by rw [hd])]
                exact tail (by simp [AX, hfl, hd])
              · rw [if_neg (fun e => hd ((nI_eq (by omega) (by omega)).mp e))]
                exact skip (h.pass hi (Or.inr (Or.inl (by simp [AX, hd]))))
        · rw [bI_out hb, if_pos (by decide)]
          exact skip (h.pass hi (Or.inl hb))
      · rw [if_pos (show (99 : Int32) ≤ nI (W i) from nI_le (a := 99) (by omega) (by omega)), lt_v, nI_1]
        exact tonext (h.skip hi hc) (by omega)
theorem fewer_X {sq n : Nat} {kd : Nat → Nat} {sh : Bool} {W0 : Nat → Nat} {M : Mem} (hn : 2000 ≤ n) (h : CX (AX sq kd sh) (fc sq kd 0 1) sq W0) (hT : TX sq kd M) (hM : ∀ p, p < 96 → M.1 29 p = nI (W0 p)) (hS : ∀ p, p < 96 → M.1 28 p = nI (ds (fl sq kd 1) sq p)) : ∃ W' g' M', f6_findFewerWalls n (if sh then 1 else 0) M = some (nI g', M') ∧ WX (AX sq kd sh) (fc sq kd 0 1) sq W0 W' g' 96 0 ∧ TX sq kd M' ∧ (∀ p, p < 96 → M'.1 29 p = nI (W' p)) ∧ ∀ p, p < 96 → M'.1 28 p = nI (ds (fl sq kd 1) sq p) := by
  obtain ⟨W', g', M', e, r⟩ := fewer_loop (sh := sh) W0 480 W0 0 0 0 (n + 1) M ⟨h, fun _ _ => Nat.le_refl _, Or.inl rfl, fun _ _ _ => rfl, fun p hp => by omega, fun v hv => by omega⟩ (by decide) (by decide) (by decide) (by omega) hT hM hS
  refine ⟨W', g', M', ?_, r⟩
  rw [nI_0, e6_findFewerWalls_13] at e
  unfold f6_findFewerWalls b6_findFewerWalls_0 b6_findFewerWalls_4
  rw [if_neg (by decide)]
  exact e
/-! the fewest -/
def EP (A : Nat → Nat → Bool) (f : Nat → Nat) (s : Nat) (R : Nat → Bool) (E : Nat → Nat) : Prop := E s = 0 ∧ (∀ p, p < 96 → R p = true → E p ≤ 95 ∧ ∃ d, cwd A f s d (E p) p) ∧ ∀ d c p, p < 96 → cwd A f s d c p → R p = true ∧ E p ≤ c
section EPs
variable {A : Nat → Nat → Bool} {f : Nat → Nat} {s : Nat} {R : Nat → Bool} {E W0 W : Nat → Nat}
theorem EP.low (h : EP A f s R E) (hc : CX A f s W) {p : Nat} (hp : p < 96) (hw : W p < 99) : R p = true ∧ E p ≤ W p := by
  obtain ⟨d, hd⟩ := ((hc p hp).resolve_left (by omega)).2
  exact h.2.2 d _ p hp hd
theorem EP.more (h : EP A f s R E) (hs : W0 s = 0) : ∀ (d c p : Nat), cwd A f s d c p → c = E p → p < 96 → W0 p ≠ E p → ∃ q v, q < 96 ∧ v < 4 ∧ R q = true ∧ W0 q = E q ∧ bes q v < 96 ∧ A q (bes q v) = true ∧ W0 (bes q v) ≠ E (bes q v) ∧ E (bes q v) = E q + f (bes q v) := by
  intro d
  induction d with
  | zero => intro c p hw _ _ hn; rw [hw.1, hs, h.1] at hn; exact absurd rfl hn
  | succ d ih =>
    intro c p hw hc hp hn
    obtain ⟨q, v, c', h1, h2, h3, h4, h5, h6, h7⟩ := hw
    obtain ⟨r1, r2⟩ := h.2.2 d c' q h2 h3
    obtain ⟨e1, d', e2⟩ := h.2.1 q h2 r1
    have e3 := (h.2.2 (d' + 1) (E q + f p) p hp ⟨q, v, E q, h1, h2, e2, h4, h5, h6, rfl⟩).2
    by_cases hq : W0 q = E q
    · exact ⟨q, v, h2, h1, r1, hq, by rw [h4]; exact h5, by rw [h4]; exact h6, by rw [h4]; exact hn, by rw [h4]; omega⟩
    · exact ih c' q h3 (by omega) h2 hq
theorem EP.closed (h : EP A f s R E) (hs : W s = 0) (hc : CX A f s W) (hcl : ∀ p, p < 96 → ∀ v, v < 4 → W p < 99 → bes p v < 96 → A p (bes p v) = true → W (bes p v) ≤ W p + f (bes p v)) {p : Nat} (hp : p < 96) (hr : R p = true) : W p = E p := by
  have key : ∀ d c p, p < 96 → cwd A f s d c p → c ≤ 98 → W p ≤ c := by
    intro d
    induction d with
    | zero => intro c p _ hw _; rw [hw.1, hs]; exact Nat.zero_le _
    | succ d ih =>
      intro c p hp hw hle
      obtain ⟨q, v, c', h1, h2, h3, h4, h5, h6, h7⟩ := hw
      have := ih c' q h2 h3 (by omega)
      have := hcl q h2 v h1 (by omega) (by rw [h4]; exact h5) (by rw [h4]; exact h6)
      rw [h4] at this
      omega
  obtain ⟨e1, d, e2⟩ := h.2.1 p hp hr
  have a := key d _ p hp e2 (by omega)
  have b := (h.low hc hp (by omega)).2
  omega
theorem EP.round {g : Nat} (h : EP A f s R E) (hs : W0 s = 0) (hw : WX A f s W0 W g 96 0) {p : Nat} (hp : p < 96) (hr : R p = true) (hn : W0 p ≠ E p) : fb_ct (fun p => R p && decide (W0 p = E p)) 96 + 1 ≤ fb_ct (fun p => R p && decide (W p = E p)) 96 := by
  obtain ⟨e1, d, e2⟩ := h.2.1 p hp hr
  obtain ⟨q, v, b1, b2, b3, b4, b5, b6, b7, b8⟩ := h.more hs d _ p e2 rfl hp hn
  obtain ⟨h1, h2, h3, h4, h5, h6⟩ := hw
  have stay : ∀ x, x < 96 → R x = true → W0 x = E x → W x = E x := fun x hx rx ex => by
    have a := h2 x hx
    have b := (h.2.1 x hx rx).1
    have c := (h.low h1 hx (by omega)).2
    omega
  have hx : R (bes q v) = true ∧ W (bes q v) = E (bes q v) := by
    have a := h5 q b1 v b2 (by have := (h.2.1 q b1 b3).1; omega) b5 b6
    obtain ⟨d2, d3⟩ := (h.2.1 q b1 b3).2
    have r := (h.2.2 (d2 + 1) (E q + f (bes q v)) (bes q v) b5 ⟨q, v, E q, b2, b1, d3, rfl, b5, b6, rfl⟩).1
    have b := (h.2.1 _ b5 r).1
    have c := (h.low h1 b5 (by omega)).2
    exact ⟨r, by omega⟩
  have e : fb_ct (fun k => if k = bes q v then true else R k && decide (W0 k = E k)) 96 + (if (R (bes q v) && decide (W0 (bes q v) = E (bes q v))) = true then 1 else 0) = fb_ct (fun p => R p && decide (W0 p = E p)) 96 + (if true = true then 1 else 0) := fb_ct_upd (fun p => R p && decide (W0 p = E p)) true (i := bes q v) (n := 96) b5
  have e3 : (R (bes q v) && decide (W0 (bes q v) = E (bes q v))) = false := by simp [b7]
  rw [e3, if_neg (by decide), if_pos rfl] at e
  have sub : fb_ct (fun k => if k = bes q v then true else R k && decide (W0 k = E k)) 96 ≤ fb_ct (fun p => R p && decide (W p = E p)) 96 := fb_ct_sub fun k hk => by
    by_cases e4 : k = bes q v
    · intro _; rw [e4]; simp [hx.1, hx.2]
    · rw [if_neg e4]
      simp only [Bool.and_eq_true, decide_eq_true_eq]
      exact fun ⟨x1, x2⟩ => ⟨x1, stay k hk x1 x2⟩
  omega
end EPs
theorem walls_loop {sq : Nat} {kd : Nat → Nat} {sh : Bool} {R : Nat → Bool} {E : Nat → Nat} (hE : EP (AX sq kd sh) (fc sq kd 0 1) sq R E) {x : Nat} (hx : x < 96) (hr : R x = true) : ∀ (d i g n : Nat) (W : Nat → Nat) (M : Mem), i + d = 96 → d + 3000 < n → CX (AX sq kd sh) (fc sq kd 0 1) sq W → W sq = 0 → TX sq kd M → (∀ p, p < 96 → M.1 29 p = nI (W p)) → (∀ p, p < 96 → M.1 28 p = nI (ds (fl sq kd 1) sq p)) → (g = 0 ∨ g = 1) → (g = 0 → ∀ p, p < 96 → R p = true → W p = E p) → (i + 1 ≤ fb_ct (fun p => R p && decide (W p = E p)) 96 ∨ ∀ p, p < 96 → R p = true → W p = E p) → ∃ M', r6_newWallsTo n 40 [nI x, (if sh then 1 else 0), nI g, nI i] [] M = some (nI (E x), M') := by
  intro d
  induction d with
  | zero =>
    intro i g n W M h1 h2 hC hs hT hM hS hg hg2 hc
    obtain ⟨n, rfl⟩ : ∃ n', n = n' + 1 := ⟨n - 1, by omega⟩
    have : i = 96 := by omega
    subst this
    rw [e6_newWallsTo_40]
    unfold b6_newWallsTo_40 b6_newWallsTo_63
    have all : ∀ p, p < 96 → R p = true → W p = E p := by
      rcases hc with hc | hc
      · have := fb_ct_le (fun p => R p && decide (W p = E p)) 96
        omega
      · exact hc
    rw [if_pos (by decide), chk_in hx (by decide), nI_clamp (by omega), hM x hx, all x hx hr]
    exact ⟨M, rfl⟩
  | succ d ih =>
    intro i g n W M h1 h2 hC hs hT hM hS hg hg2 hc
    obtain ⟨n, rfl⟩ : ∃ n', n = n' + 1 := ⟨n - 1, by omega⟩
    rw [e6_newWallsTo_40]
    unfold b6_newWallsTo_40 b6_newWallsTo_63
    rw [if_neg (show ¬ (96 : Int32) ≤ nI i from nI_ge (b := 96) (by omega) (by decide))]
    rcases hg with rfl | rfl
    · rw [if_pos nI_0, chk_in hx (by decide), nI_clamp (by omega), hM x hx, hg2 rfl x hx hr]
      exact ⟨M, rfl⟩
    · rw [if_neg (show ¬ nI 1 = 0 by decide)]
      obtain ⟨W', g', M', e1, e2, e3, e4, e5⟩ := fewer_X (n := n) (by omega) hC hT hM hS
      rw [bnd_e e1, lt_v, nI_1]
      have hs' : W' sq = 0 := by have := e2.2.1 sq hT.1; omega
      have zero : g' = 0 → ∀ p, p < 96 → R p = true → W' p = E p := fun hg p hp hr => by
        have same := e2.2.2.2.1 hg
        refine hE.closed hs' e2.1 (fun p hp v hv a1 a2 a3 => ?_) hp hr
        rw [same p hp] at a1 ⊢
        exact e2.2.2.2.2.1 p hp v hv a1 a2 a3
      refine ih (i + 1) g' n W' M' (by omega) (by omega) e2.1 hs' e3 e4 e5 e2.2.2.1 zero ?_
      by_cases call : ∀ p, p < 96 → R p = true → W' p = E p
      · exact Or.inr call
      · refine Or.inl ?_
        rcases hc with hc | hc
        · have : ∃ p, p < 96 ∧ R p = true ∧ W p ≠ E p := by
            refine Classical.byContradiction fun hn => call fun p hp hr => ?_
            have w0 : W p = E p := Classical.byContradiction fun hne => hn ⟨p, hp, hr, hne⟩
            have a := e2.2.1 p hp
            have b := (hE.2.1 p hp hr).1
            have c := (hE.low e2.1 hp (by omega)).2
            omega
          obtain ⟨p, hp, hr, hne⟩ := this
          have := hE.round hs e2 hp hr hne
          omega
        · exact absurd (fun p hp hr => by
            have w0 := hc p hp hr
            have a := e2.2.1 p hp
            have b := (hE.2.1 p hp hr).1
            have c := (hE.low e2.1 hp (by omega)).2
            omega) call
theorem newWalls_X {sq n : Nat} {kd : Nat → Nat} {sh : Bool} {R : Nat → Bool} {E : Nat → Nat} {M : Mem} (hn : 20000 ≤ n) (hT : TX sq kd M) (hE : EP (AX sq kd sh) (fc sq kd 0 1) sq R E) {x : Nat} (hx : x < 96) (hR : R x = true ↔ ds (fl sq kd 1) sq x ≠ 99) : ∃ M', f6_newWallsTo n (nI x) (if sh then 1 else 0) M = some (if ds (fl sq kd 1) sq x = 99 then -2 else nI (E x), M') := by
  obtain ⟨M1, x1, x2⟩ := spread_spec (n := n) (k0 := 28) (f := 1) (by omega) (by decide) (by decide) hT.1 hT
  have f1 := fr8_spread x1
  have q1 := fq8_spread (by decide) x1
  have hT1 : TX sq kd M1 := hT.keep (by rw [(f1 3 (by decide) (fun e => by cases e)).1]) (f1 4 (by decide) (fun e => by cases e)).1
  have l1 := ds_le (fl sq kd 1) hT.1 hx
  have x0 : f6_stepsByOldMap n (nI x) M = some (nI (ds (fl sq kd 1) sq x), M1) := by
    unfold f6_stepsByOldMap b6_stepsByOldMap_0
    rw [hT.2.1, show (1 : Int32) = nI 1 from rfl, bnd_e x1, chk_in hx (by decide), nI_clamp (by omega), x2 x hx]
  unfold f6_newWallsTo b6_newWallsTo_0
  rw [bnd_e x0]
  by_cases c : ds (fl sq kd 1) sq x = 99
  · rw [c, if_pos (show nI 99 = (99 : Int32) from rfl), if_pos rfl]
    exact ⟨M1, rfl⟩
  · rw [if_neg (show ¬ nI (ds (fl sq kd 1) sq x) = (99 : Int32) from fun e => c ((nI_eq (b := 99) (by omega) (by decide)).mp e)), if_neg c, bnd_e (fill_spec 29 96 99 M1 (by omega) (by decide))]
    have hT2 : TX sq kd (wR M1 29 (fun j => if j < 96 then 99 else M1.1 29 j)) := hT1.keep rfl rfl
    rw [hT2.2.1, chk_in hT.1 (by decide), lt_v, nI_clamp (by have := hT.1; omega)]
    have g := walls_loop hE hx (hR.mpr c) 96 0 1 (n + 1) (fun p => if p = sq then 0 else 99) (wI (wR M1 29 (fun j => if j < 96 then 99 else M1.1 29 j)) 29 sq 0) (by omega) (by omega) (fun p hp => by
      by_cases e : p = sq
      · refine Or.inr ⟨?_, 0, e, ?_⟩
        · show (if p = sq then 0 else 99) < 99
          rw [if_pos e]; decide
        · show (if p = sq then 0 else 99) = 0
          rw [if_pos e]
      · exact Or.inl (if_neg e)) (if_pos rfl) (hT2.keep rfl rfl) (fun p hp => by
      rw [wI_at, if_pos rfl]
      show _ = nI (if p = sq then 0 else 99)
      by_cases e : p = sq
      · rw [if_pos e, if_pos e]; rfl
      · rw [if_neg e, if_neg e, wR_at, if_pos rfl, if_pos hp]; rfl) (fun p hp => x2 p hp) (Or.inr rfl) (fun e => by cases e) (Or.inl (fb_ct_pos.mpr ⟨sq, hT.1, by
        have r0 := (hE.2.2 0 0 sq hT.1 ⟨rfl, rfl⟩).1
        simp [r0, hE.1]⟩))
    obtain ⟨M', g⟩ := g
    rw [nI_0, e6_newWallsTo_40] at g
    exact ⟨M', g⟩
/-! the fewest of the class by the costs of the reference -/
theorem ax_false {sq : Nat} {kd : Nat → Nat} : AX sq kd false = AY sq kd := by
  funext q p
  simp [AX, AY]
theorem ep_any {sq : Nat} {kd : Nat → Nat} {D : Nat → Nat} (hs : sq < 96) (h : CY (AY sq kd) (fc sq kd 0 1) sq D) (hc : Clo (AY sq kd) (fc sq kd 0 1) D) : EP (AX sq kd false) (fc sq kd 0 1) sq (fun p => decide (ds (fl sq kd 1) sq p ≠ 99)) D := by
  have hf : ∀ q, fc sq kd 0 1 q ≤ 101 := fun q => by unfold fc; split <;> omega
  rw [ax_false]
  refine ⟨h.1, fun p hp hr => ?_, fun d c p hp hw => ?_⟩
  · have hr : ds (fl sq kd 1) sq p ≠ 99 := by simpa using hr
    obtain ⟨c, h1⟩ := wk_cwd (f := fc sq kd 0 1) (ds_wk hs hp hr)
    obtain ⟨k, k1, k2⟩ := cwd_form (by decide) h1
    have := (clo_min hf h hc hp h1)
    have := ds_le (fl sq kd 1) hs hp
    exact ⟨by omega, (h.2.1 p hp).resolve_left (by omega)⟩
  · have := clo_min hf h hc hp hw
    refine ⟨?_, this.1⟩
    simp only [ne_eq, decide_eq_true_eq]
    exact fun e => this.2 ((reach_Y hf hs h hc hp).mpr e)
theorem cwd_short {sq : Nat} {kd : Nat → Nat} (hs : sq < 96) : ∀ {d c p : Nat}, cwd (AY sq kd) (fc sq kd 100 1) sq d c p → d = ds (fl sq kd 1) sq p → cwd (AX sq kd true) (fc sq kd 0 1) sq d (c - 100 * d) p := by
  intro d
  induction d with
  | zero => intro c p h _; exact ⟨h.1, by rw [h.2]⟩
  | succ d ih =>
    intro c p h hd
    have hw := cwd_wk hs h
    obtain ⟨q, v, c', h1, h2, h3, h4, h5, h6, h7⟩ := h
    have m1 := ds_min hs hw
    have m2 := ds_min hs (cwd_wk hs h3)
    obtain ⟨k, k1, k2⟩ := cwd_form (by decide) h3
    have m3 : ds (fl sq kd 1) sq p ≤ ds (fl sq kd 1) sq q + 1 := by
      have hb := bes_back q h2 v h1 (by rw [h4]; exact h5)
      rw [h4] at hb
      refine (ds_step hs h5 (by omega)).mpr ⟨h6, Or.inr ⟨(v + 2) % 4, Nat.mod_lt _ (by decide), by rw [hb]; exact h2, by rw [hb]; exact Nat.le_refl _⟩⟩
    have e : ds (fl sq kd 1) sq q = d := by omega
    refine ⟨q, v, c' - 100 * d, h1, h2, ih h3 e.symm, h4, h5, ?_, ?_⟩
    · have h6' : fl sq kd 1 p = true := h6
      simp only [AX, h6', Bool.not_true, Bool.false_or, Bool.true_and, decide_eq_true_eq]
      omega
    · rw [h7]
      unfold fc
      omega
theorem cwd_long {sq : Nat} {kd : Nat → Nat} (hs : sq < 96) : ∀ {d c p : Nat}, cwd (AX sq kd true) (fc sq kd 0 1) sq d c p → cwd (AY sq kd) (fc sq kd 100 1) sq d (100 * d + c) p ∧ ds (fl sq kd 1) sq p = d := by
  intro d
  induction d with
  | zero =>
    intro c p h
    refine ⟨⟨h.1, by rw [h.2]⟩, ?_⟩
    rw [h.1]
    have := (ds_zero hs hs (O := fl sq kd 1) (by simp [fl, kof])).mpr rfl
    omega
  | succ d ih =>
    intro c p h
    obtain ⟨q, v, c', h1, h2, h3, h4, h5, h6, h7⟩ := h
    obtain ⟨i1, i2⟩ := ih h3
    simp only [AX, Bool.not_true, Bool.false_or, Bool.and_eq_true, decide_eq_true_eq] at h6
    refine ⟨⟨q, v, 100 * d + c', h1, h2, i1, h4, h5, h6.1, ?_⟩, by omega⟩
    rw [h7]
    unfold fc
    omega
theorem ep_short {sq : Nat} {kd : Nat → Nat} {D : Nat → Nat} (hs : sq < 96) (h : CY (AY sq kd) (fc sq kd 100 1) sq D) (hc : Clo (AY sq kd) (fc sq kd 100 1) D) : EP (AX sq kd true) (fc sq kd 0 1) sq (fun p => decide (ds (fl sq kd 1) sq p ≠ 99)) (fun p => D p - 100 * ds (fl sq kd 1) sq p) ∧ ∀ p, p < 96 → ds (fl sq kd 1) sq p ≠ 99 → D p - 100 * ds (fl sq kd 1) sq p ≤ 95 ∧ 100 * ds (fl sq kd 1) sq p ≤ D p := by
  have hf : ∀ q, fc sq kd 100 1 q ≤ 101 := fun q => by unfold fc; split <;> omega
  have key : ∀ p, p < 96 → ds (fl sq kd 1) sq p ≠ 99 → cwd (AY sq kd) (fc sq kd 100 1) sq (ds (fl sq kd 1) sq p) (D p) p ∧ ∃ k, k ≤ 95 ∧ D p = 100 * ds (fl sq kd 1) sq p + k := by
    intro p hp hr
    obtain ⟨c, h1⟩ := wk_cwd (f := fc sq kd 100 1) (ds_wk hs hp hr)
    obtain ⟨k, k1, k2⟩ := cwd_form (by decide) h1
    have m := (clo_min hf h hc hp h1)
    have l := ds_le (fl sq kd 1) hs hp
    obtain ⟨d, hd⟩ := (h.2.1 p hp).resolve_left m.2
    obtain ⟨k', k3, k4⟩ := cwd_form (by decide) hd
    have m2 := (ds_min hs (cwd_wk hs hd)).1
    have e : d = ds (fl sq kd 1) sq p := by omega
    rw [e] at hd k4 k3
    exact ⟨hd, k', by omega, k4⟩
  refine ⟨⟨?_, fun p hp hr => ?_, fun d c p hp hw => ?_⟩, fun p hp hr => ?_⟩
  · show D sq - _ = 0
    rw [h.1]; omega
  · have hr : ds (fl sq kd 1) sq p ≠ 99 := by simpa using hr
    obtain ⟨a, k, k1, k2⟩ := key p hp hr
    exact ⟨by show D p - _ ≤ 95; omega, _, cwd_short hs a rfl⟩
  · obtain ⟨a, b⟩ := cwd_long hs hw
    have m := clo_min hf h hc hp a
    have m2 := ds_min hs (cwd_wk hs a)
    exact ⟨by simp only [ne_eq, decide_eq_true_eq]; omega, by show D p - _ ≤ c; omega⟩
  · obtain ⟨a, k, k1, k2⟩ := key p hp hr
    omega
/-- PROMISE 19: barred -/
theorem st_barred {Lw : Mem → Mem → Prop} (hL : LwOk Lw) {FU : Nat} (hFU : 1000000000000 ≤ FU) (t : Nat) (Mx My : Mem) (a0 a1 a2 : Int32) (ht : t < 3072) (h : Inv Lw t Mx My) : ∃ (r : Int32) (Mx' My' : Mem), f11_barred FU a0 a1 a2 Mx = some (r, Mx') ∧ f12_barred FU a0 a1 a2 My = some (r, My') ∧ Inv Lw (t + 6) Mx' My' := by
  have h0 := h
  obtain ⟨⟨⟨sq, kd, dr, h1⟩, h2⟩, h3, h4, h5⟩ := h
  rcases place_XY a0 a1 with g | ⟨p, hp, e, g⟩
  · refine ⟨-1, Mx, My, ?_, ?_, h0.same hL⟩
    · unfold f11_barred b11_barred_0 b11_barred_22
      rw [bnd_e (g FU Mx).1, if_pos rfl]
    · unfold f12_barred b12_barred_0 b12_barred_17
      rw [bnd_e (g FU My).2, if_pos rfl]
  · by_cases c : a2 < 0 ∨ 1 < a2
    · refine ⟨-1, Mx, My, ?_, ?_, h0.same hL⟩
      · unfold f11_barred b11_barred_0 b11_barred_22
        rw [bnd_e (g FU Mx).1, if_neg (nI_m1 (by omega))]
        by_cases c1 : a2 < 0
        · rw [if_pos c1]
        · rw [if_neg c1, if_neg (Int32.not_le.mpr (c.resolve_left c1))]
      · unfold f12_barred b12_barred_0 b12_barred_17
        rw [bnd_e (g FU My).2, if_neg (by decide), in_e, bnd_s', if_pos c, if_pos rfl]
    · have c1 : ¬ a2 < 0 := fun e => c (Or.inl e)
      have c2 : ¬ 1 < a2 := fun e => c (Or.inr e)
      have key : ∃ r Mx' My', f11_barred FU a0 a1 a2 Mx = some (r, Mx') ∧ f12_barred FU a0 a1 a2 My = some (r, My') := by
        unfold f11_barred b11_barred_0 f12_barred b12_barred_0
        rw [bnd_e (g FU Mx).1, bnd_e (g FU My).2, if_neg (nI_m1 (by omega)), if_neg (show ¬ (1 : Int32) = 0 by decide), if_neg c1, if_pos (Int32.not_lt.mp c2), in_e, bnd_s', if_neg c, if_neg (show ¬ (1 : Int32) = 0 by decide)]
        unfold b11_barred_40 b12_barred_30
        rw [e]
        by_cases cz : a2 = 0
        · have hf : ∀ q, fc sq kd 0 1 q ≤ 101 := fun q => by unfold fc; split <;> omega
          obtain ⟨D, Y1, y1, y2, y3, y4⟩ := costs_Y (n := FU) (st := 0) (wl := 1) (by decide) (by decide) hFU h1.2.1.1
          have hr := reach_Y hf h1.1.1 y2 y3 hp
          have hep := ep_any h1.1.1 y2 y3
          obtain ⟨X1, x1⟩ := newWalls_X (n := FU) (by omega) h1.1 hep hp (by simp)
          rw [if_neg (by rw [cz]; decide), if_pos cz, bnd_e (show f6_newWallsTo FU (nI p) 0 Mx = _ from x1), bnd_e (show f12_laysCosts FU 0 1 My = _ from y1), chk_in hp (by decide), lt_v, nI_clamp (by omega), y4 p hp]
          by_cases cd : D p = 1000000
          · rw [cd, if_pos (show nI 1000000 = (1000000 : Int32) from rfl), if_pos (hr.mp cd)]
            exact ⟨_, _, _, rfl, rfl⟩
          · have := y2.low hp cd
            have hne : ds (fl sq kd 1) sq p ≠ 99 := fun e => cd (hr.mpr e)
            have := (hep.2.1 p hp (by simpa using hne)).1
            rw [if_neg (show ¬ nI (D p) = (1000000 : Int32) from fun e => cd ((nI_eq (b := 1000000) (by omega) (by decide)).mp e)), if_neg hne, show nI (D p) - nI (D p) / (100 : Int32) * (100 : Int32) = nI (D p % 100) from pk_rem (d := 100) (by omega) (by decide) (by decide), Nat.mod_eq_of_lt (by omega)]
            exact ⟨_, _, _, rfl, rfl⟩
        · have ca : a2 = 1 := by
            have d1 := c1
            have d2 := c2
            have d3 := cz
            simp only [fa_lt, fa_eq, lt_lit (show 1 < 2 ^ 31 by decide), lt_lit (show 0 < 2 ^ 31 by decide)] at d1 d2 d3 ⊢
            omega
          have hf : ∀ q, fc sq kd 100 1 q ≤ 101 := fun q => by unfold fc; split <;> omega
          obtain ⟨D, Y1, y1, y2, y3, y4⟩ := costs_Y (n := FU) (st := 100) (wl := 1) (by decide) (by decide) hFU h1.2.1.1
          have hr := reach_Y hf h1.1.1 y2 y3 hp
          obtain ⟨hep, hb⟩ := ep_short h1.1.1 y2 y3
          obtain ⟨X1, x1⟩ := newWalls_X (n := FU) (by omega) h1.1 hep hp (by simp)
          rw [if_pos ca, if_neg cz, bnd_e (show f6_newWallsTo FU (nI p) 1 Mx = _ from x1), bnd_e (show f12_laysCosts FU 100 1 My = _ from y1), chk_in hp (by decide), lt_v, nI_clamp (by omega), y4 p hp]
          by_cases cd : D p = 1000000
          · rw [cd, if_pos (show nI 1000000 = (1000000 : Int32) from rfl), if_pos (hr.mp cd)]
            exact ⟨_, _, _, rfl, rfl⟩
          · have := y2.low hp cd
            have hne : ds (fl sq kd 1) sq p ≠ 99 := fun e => cd (hr.mpr e)
            have hb2 := hb p hp hne
            rw [if_neg (show ¬ nI (D p) = (1000000 : Int32) from fun e => cd ((nI_eq (b := 1000000) (by omega) (by decide)).mp e)), if_neg hne, show nI (D p) - nI (D p) / (100 : Int32) * (100 : Int32) = nI (D p % 100) from pk_rem (d := 100) (by omega) (by decide) (by decide), show D p % 100 = D p - 100 * ds (fl sq kd 1) sq p by omega]
            exact ⟨_, _, _, rfl, rfl⟩
      obtain ⟨r, X1, Y1, x, y⟩ := key
      have fx := fr11_barred x
      have fy := fr12_barred y
      have qy : Fq CSY [] My Y1 := fun k j hk _ => by
        have : k = 0 := by simpa using hk
        rw [this, (fy 0 (by decide) (fun e => by cases e)).1]
      refine ⟨_, X1, Y1, x, y, Inv.ask hL h1 h2 (h3.keep (by rw [(fx 1 (by decide) (fun e => by cases e)).1]) (fx 2 (by decide) (fun e => by cases e)).1 (qy 0 11 (by decide) (by decide)) (fy 8 (by decide) (fun e => by cases e)).1) h4 h5 (QXt.of fx (by decide)) (h1.2.2.1.1.keep (fx 10 (by decide) (fun e => by cases e)).2) (QXr.of fx (by decide)) (QY.of fy qy (by decide) (by decide)) ?_ (fy 5 (by decide) (fun e => by cases e)).1⟩
      refine ⟨h1.2.1.1.keep (by rw [(fy 0 (by decide) (fun e => by cases e)).1]) (fy 4 (by decide) (fun e => by cases e)).1, ?_⟩
      unfold LY LD
      rw [(fy 0 (by decide) (fun e => by cases e)).1, (fy 6 (by decide) (fun e => by cases e)).1]
      exact h1.2.1.2
