/-! STREETS -/
theorem wk_trans {O : Nat → Bool} {s p d : Nat} (h : wk O s d p) : ∀ {e q : Nat}, wk O p e q → wk O s (d + e) q := by
  intro e
  induction e with
  | zero => intro q g; rw [g.1]; exact h
  | succ e ih =>
    intro q g
    obtain ⟨x, w, h1, h2, h3, h4, h5⟩ := g
    exact ⟨x, w, h1, ih h2, h3, h4, h5⟩
theorem ds_trans {O : Nat → Bool} {s p q : Nat} (hs : s < 96) (hp : p < 96) (hq : q < 96) (h : ds O s p ≠ 99) (g : ds O p q ≠ 99) : ds O s q ≠ 99 := by
  have := (ds_min hs (wk_trans (ds_wk hs hp h) (ds_wk hp hq g))).2
  omega
noncomputable def Li (O : Nat → Bool) (i q : Nat) : Bool := O q && decide (∀ j, j < i → ds O j q = 99)
noncomputable def low (O : Nat → Bool) (i : Nat) : Bool := Li O i i
theorem Li_yes {O : Nat → Bool} {i q : Nat} : (Li O i q && !decide (ds O i q ≠ 99)) = Li O (i + 1) q := by
  unfold Li
  rw [Bool.eq_iff_iff]
  simp only [Bool.and_eq_true, decide_eq_true_eq, Bool.not_eq_true', decide_eq_false_iff_not, ne_eq, Decidable.not_not]
  constructor
  · rintro ⟨⟨a, b⟩, c⟩
    refine ⟨a, fun j hj => ?_⟩
    by_cases e : j = i
    · rw [e]; exact c
    · exact b j (by omega)
  · rintro ⟨a, b⟩
    exact ⟨⟨a, fun j hj => b j (by omega)⟩, b i (by omega)⟩
theorem Li_no {O : Nat → Bool} {i q : Nat} (hi : i < 96) (hq : q < 96) (h : ¬ Li O i i = true) : Li O i q = Li O (i + 1) q := by
  unfold Li at h ⊢
  rw [Bool.eq_iff_iff]
  simp only [Bool.and_eq_true, decide_eq_true_eq] at h ⊢
  constructor
  · rintro ⟨a, b⟩
    refine ⟨a, fun j hj => ?_⟩
    by_cases e : j = i
    · subst e
      refine Decidable.byContradiction fun g => h ?_
      refine ⟨(wk_fst (ds_wk hi hq g)).2, fun k hk => Decidable.byContradiction fun g2 => ?_⟩
      exact ds_trans (by omega) hi hq g2 g (b k hk)
    · exact b j (by omega)
  · rintro ⟨a, b⟩
    exact ⟨a, fun j hj => b j (by omega)⟩
theorem isl_loop {O : Nat → Bool} : ∀ (d i n : Nat) (M : Mem), i + d = 96 → d + 200 < n → PS 10 O M → PS 34 (Li O i) M → ∃ M', r6_islands n 18 [nI (fb_ct (low O) i), nI i] [] M = some (nI (fb_ct (low O) 96), M') := by
  intro d
  induction d with
  | zero =>
    intro i n M h1 h2 hO hL
    obtain ⟨n, rfl⟩ : ∃ n', n = n' + 1 := ⟨n - 1, by omega⟩
    have : i = 96 := by omega
    subst this
    rw [e6_islands_18]
    unfold b6_islands_18
    rw [if_pos (by decide)]
    exact ⟨M, rfl⟩
  | succ d ih =>
    intro i n M h1 h2 hO hL
    obtain ⟨n, rfl⟩ : ∃ n', n = n' + 1 := ⟨n - 1, by omega⟩
    have hi : i < 96 := by omega
    rw [e6_islands_18]
    unfold b6_islands_18 b6_islands_89
    rw [if_neg (show ¬ (96 : Int32) ≤ nI i from nI_ge (b := 96) (by omega) (by decide)), bnd_e (has_X hL hi)]
    by_cases c : Li O i i = true
    · have ho : O i = true := by
        unfold Li at c
        simp only [Bool.and_eq_true] at c
        exact c.1
      rw [if_pos c, if_neg (by decide), lt_v]
      obtain ⟨M1, e1, p1⟩ := clear_X (n := n) (k := 33) M
      have f1 := fr4_clear e1
      obtain ⟨M2, e2, p2⟩ := add_X (n := n) p1 hi
      have f2 := fr4_add e2
      have o2 : PS 10 O M2 := (hO.keep (f1 10 (by decide) (fun e => by cases e)).2).keep (f2 10 (by decide) (fun e => by cases e)).2
      have l2 : PS 34 (Li O i) M2 := (hL.keep (f1 34 (by decide) (fun e => by cases e)).2).keep (f2 34 (by decide) (fun e => by cases e)).2
      obtain ⟨M3, e3, p3⟩ := flood_X (n := n) (s := i) (by omega) (show (33 : Nat) ≠ 10 by decide) hi ho p2 (fun p _ => by simp) o2
      have f3 := fr4_flood e3
      have o3 := o2.keep (f3 10 (by decide) (fun e => by cases e)).2
      have l3 := l2.keep (f3 34 (by decide) (fun e => by cases e)).2
      obtain ⟨M4, e4, p4⟩ := turn_X (n := n) p3 l3 (by decide)
      have f4 := fr4_turnWithin e4
      have o4 := o3.keep (f4 10 (by decide) (fun e => by cases e)).2
      obtain ⟨M5, e5, p5⟩ := take_X (n := n) (k := 34) p4 (by decide)
      have f5 := fr4_take e5
      have o5 := o4.keep (f5 10 (by decide) (fun e => by cases e)).2
      rw [bnd_e e1, bnd_e e2, bnd_e e3, bnd_e e4, bnd_e e5, lt_v, nI_1, nI_1]
      have g := ih (i + 1) n M5 (by omega) (by omega) o5 (p5.cong fun q _ => Li_yes)
      rw [fb_ct_succ, if_pos (show low O i = true from c)] at g
      exact g
    · rw [if_neg c, if_pos rfl, lt_v, nI_1]
      have g := ih (i + 1) n M (by omega) (by omega) hO (hL.cong fun q hq => Li_no hi hq c)
      rw [fb_ct_succ, if_neg (show ¬ low O i = true from c), Nat.add_zero] at g
      exact g
theorem islands_X {n : Nat} {O : Nat → Bool} {M : Mem} (hn : 1000 ≤ n) (hO : PS 10 O M) : ∃ M', f6_islands n M = some (nI (fb_ct (low O) 96), M') := by
  unfold f6_islands b6_islands_0
  obtain ⟨M1, e1, p1⟩ := take_X (n := n) (k := 34) hO (by decide)
  have f1 := fr4_take e1
  rw [bnd_e e1]
  obtain ⟨M', g⟩ := isl_loop (O := O) 96 0 (n + 1) M1 (by omega) (by omega) (hO.keep (f1 10 (by decide) (fun e => by cases e)).2) (p1.cong fun q _ => by
    unfold Li
    rw [decide_eq_true (fun j hj => absurd hj (Nat.not_lt_zero j)), Bool.and_true])
  rw [show fb_ct (low O) 0 = 0 from rfl, nI_0, e6_islands_18] at g
  exact ⟨M', g⟩
/-! the reference's islands -/
theorem lowest_loop {sq p : Nat} {kd : Nat → Nat} (hp : p < 96) (c : Nat) : ∀ (d q n : Nat) (M : Mem), q + d = p → d + 100000 < n → YT sq kd M → ∃ n' M', n ≤ n' + d + 1 ∧ r12_islands n 19 [nI c, nI p, (if Li (opn sq kd) q p = true then 1 else 0), nI q] [] M = r12_islands n' 4 [nI (c + if low (opn sq kd) p then 1 else 0), nI (p + 1)] [] M' ∧ YT sq kd M' := by
  intro d
  induction d with
  | zero =>
    intro q n M h1 h2 hY
    obtain ⟨n, rfl⟩ : ∃ n', n = n' + 1 := ⟨n - 1, by omega⟩
    have : q = p := by omega
    subst this
    rw [e12_islands_19]
    unfold b12_islands_19 b12_islands_57 low
    rw [if_pos (Int32.le_refl _)]
    by_cases e : Li (opn sq kd) q q = true
    · rw [if_pos e, if_pos e, if_neg (show ¬ (1 : Int32) = 0 by decide), lt_v, lt_v, nI_1, nI_1]
      exact ⟨n, M, by omega, rfl, hY⟩
    · rw [if_neg e, if_neg e, if_pos rfl, lt_v, nI_1]
      exact ⟨n, M, by omega, rfl, hY⟩
  | succ d ih =>
    intro q n M h1 h2 hY
    obtain ⟨n, rfl⟩ : ∃ n', n = n' + 1 := ⟨n - 1, by omega⟩
    rw [e12_islands_19]
    unfold b12_islands_19 b12_islands_43
    rw [if_neg (nI_ge (show q < p by omega) (by omega))]
    by_cases e : Li (opn sq kd) q p = true
    · obtain ⟨M1, g1, g2, g3⟩ := steps_Y (n := n) (p := p) (q := q) (by omega) hY hp (by omega)
      have l := ds_le (opn sq kd) hp (show q < 96 by omega)
      obtain ⟨n', M', a1, a2, a3⟩ := ih (q + 1) n M1 (by omega) (by omega) g3
      rw [if_pos e, if_neg (show ¬ (1 : Int32) = 0 by decide), bnd_e g1]
      have hq : Li (opn sq kd) (q + 1) p = (Li (opn sq kd) q p && !decide (ds (opn sq kd) q p ≠ 99)) := Li_yes.symm
      rw [e, Bool.true_and, ds_symm _ (show q < 96 by omega) hp] at hq
      by_cases c : ds (opn sq kd) p q = 99
      · rw [c, if_pos (show nI 99 = (99 : Int32) from rfl), lt_v, nI_1]
        rw [hq, c] at a2
        exact ⟨n', M', by omega, a2, a3⟩
      · rw [if_neg (show ¬ nI (ds (opn sq kd) p q) = (99 : Int32) from fun e => c ((nI_eq (b := 99) (by omega) (by decide)).mp e)), lt_v, nI_1]
        rw [hq, decide_eq_true c] at a2
        exact ⟨n', M', by omega, a2, a3⟩
    · obtain ⟨n', M', a1, a2, a3⟩ := ih (q + 1) n M (by omega) (by omega) hY
      have hq : Li (opn sq kd) (q + 1) p = (Li (opn sq kd) q p && !decide (ds (opn sq kd) q p ≠ 99)) := Li_yes.symm
      rw [ts_nt e, Bool.false_and] at hq
      rw [if_neg e, if_pos rfl, lt_v, nI_1]
      rw [hq] at a2
      exact ⟨n', M', by omega, a2, a3⟩
theorem islY_loop {sq : Nat} {kd : Nat → Nat} : ∀ (d p n : Nat) (M : Mem), p + d = 96 → 200 * d + 100200 < n → YT sq kd M → ∃ M', r12_islands n 4 [nI (fb_ct (low (opn sq kd)) p), nI p] [] M = some (nI (fb_ct (low (opn sq kd)) 96), M') ∧ YT sq kd M' := by
  intro d
  induction d with
  | zero =>
    intro p n M h1 h2 hY
    obtain ⟨n, rfl⟩ : ∃ n', n = n' + 1 := ⟨n - 1, by omega⟩
    have : p = 96 := by omega
    subst this
    rw [e12_islands_4]
    unfold b12_islands_4
    rw [if_pos (by decide)]
    exact ⟨M, rfl, hY⟩
  | succ d ih =>
    intro p n M h1 h2 hY
    obtain ⟨n, rfl⟩ : ∃ n', n = n' + 1 := ⟨n - 1, by omega⟩
    have hp : p < 96 := by omega
    rw [e12_islands_4]
    unfold b12_islands_4
    obtain ⟨n', M', a1, a2, a3⟩ := lowest_loop (sq := sq) (kd := kd) hp (fb_ct (low (opn sq kd)) p) p 0 (n + 1) M (by omega) (by omega) hY
    have e0 : Li (opn sq kd) 0 p = opn sq kd p := by
      unfold Li
      rw [decide_eq_true (fun j hj => absurd hj (Nat.not_lt_zero j)), Bool.and_true]
    rw [e0, nI_0, e12_islands_19] at a2
    rw [if_neg (show ¬ (96 : Int32) ≤ nI p from nI_ge (b := 96) (by omega) (by decide)), bnd_e (isOpen_Y hY.1 hp), a2]
    exact ih (p + 1) n' M' (by omega) (by omega) a3
theorem islands_Y {sq n : Nat} {kd : Nat → Nat} {M : Mem} (hn : 200000 ≤ n) (hY : YT sq kd M) : ∃ M', f12_islands n M = some (nI (fb_ct (low (opn sq kd)) 96), M') ∧ YT sq kd M' := by
  obtain ⟨M', g, h⟩ := islY_loop (sq := sq) (kd := kd) 96 0 (n + 1) M (by omega) (by omega) hY
  rw [show fb_ct (low (opn sq kd)) 0 = 0 from rfl, nI_0, e12_islands_4] at g
  exact ⟨M', g, h⟩
/-! counts -/
theorem open_loop {sq : Nat} {kd : Nat → Nat} {M : Mem} (hT : TY sq kd M) : ∀ (d p n : Nat), p + d = 96 → d < n → r12_openPlaces n 4 [nI (fb_ct (opn sq kd) p), nI p] [] M = some (nI (fb_ct (opn sq kd) 96), M) := by
  intro d
  induction d with
  | zero =>
    intro p n h1 h2
    obtain ⟨n, rfl⟩ : ∃ n', n = n' + 1 := ⟨n - 1, by omega⟩
    have : p = 96 := by omega
    subst this
    rw [e12_openPlaces_4]
    unfold b12_openPlaces_4
    rw [if_pos (by decide)]
  | succ d ih =>
    intro p n h1 h2
    obtain ⟨n, rfl⟩ : ∃ n', n = n' + 1 := ⟨n - 1, by omega⟩
    rw [e12_openPlaces_4]
    unfold b12_openPlaces_4 b12_openPlaces_22
    rw [if_neg (show ¬ (96 : Int32) ≤ nI p from nI_ge (b := 96) (by omega) (by decide)), bnd_e (isOpen_Y hT (by omega))]
    have g := ih (p + 1) n (by omega) (by omega)
    by_cases c : opn sq kd p = true
    · rw [if_pos c, if_neg (by decide), lt_v, lt_v, nI_1, nI_1]
      rw [fb_ct_succ, if_pos c] at g
      exact g
    · rw [if_neg c, if_pos rfl, lt_v, nI_1]
      rw [fb_ct_succ, if_neg c, Nat.add_zero] at g
      exact g
theorem openPlaces_Y {sq n : Nat} {kd : Nat → Nat} {M : Mem} (hn : 200 ≤ n) (hT : TY sq kd M) : f12_openPlaces n M = some (nI (fb_ct (opn sq kd) 96), M) := by
  have g := open_loop hT 96 0 (n + 1) (by omega) (by omega)
  rw [show fb_ct (opn sq kd) 0 = 0 from rfl, nI_0, e12_openPlaces_4] at g
  exact g
def nbK (O : Nat → Bool) (k p : Nat) : Bool := O p && decide (nbs O p 4 = k)
theorem with_loop {sq k : Nat} {kd : Nat → Nat} {M : Mem} (hk : k ≤ 4) (hT : TX sq kd M) : ∀ (d p n : Nat), p + d = 96 → d + 20 < n → r6_openPlacesWith n 4 [nI k, nI (fb_ct (nbK (opn sq kd) k) p), nI p] [] M = some (nI (fb_ct (nbK (opn sq kd) k) 96), M) := by
  intro d
  induction d with
  | zero =>
    intro p n h1 h2
    obtain ⟨n, rfl⟩ : ∃ n', n = n' + 1 := ⟨n - 1, by omega⟩
    have : p = 96 := by omega
    subst this
    rw [e6_openPlacesWith_4]
    unfold b6_openPlacesWith_4
    rw [if_pos (by decide)]
  | succ d ih =>
    intro p n h1 h2
    obtain ⟨n, rfl⟩ : ∃ n', n = n' + 1 := ⟨n - 1, by omega⟩
    rw [e6_openPlacesWith_4]
    unfold b6_openPlacesWith_4 b6_openPlacesWith_36
    rw [if_neg (show ¬ (96 : Int32) ≤ nI p from nI_ge (b := 96) (by omega) (by decide)), bnd_e (isOpen_X hT (by omega))]
    have g := ih (p + 1) n (by omega) (by omega)
    have l := nbs_le (opn sq kd) p 4
    by_cases c : opn sq kd p = true
    · rw [if_pos c, if_neg (by decide), bnd_e (openBeside_X (by omega) hT (by omega))]
      by_cases e : nbs (opn sq kd) p 4 = k
      · rw [if_pos (by rw [e]), lt_v, lt_v, nI_1, nI_1]
        rw [fb_ct_succ, if_pos (show nbK (opn sq kd) k p = true by simp [nbK, c, e])] at g
        exact g
      · rw [if_neg (fun q => e ((nI_eq (by omega) (by omega)).mp q)), lt_v, nI_1]
        rw [fb_ct_succ, if_neg (show ¬ nbK (opn sq kd) k p = true by simp [nbK, e]), Nat.add_zero] at g
        exact g
    · rw [if_neg c, if_pos rfl, lt_v, nI_1]
      rw [fb_ct_succ, if_neg (show ¬ nbK (opn sq kd) k p = true by simp [nbK, c]), Nat.add_zero] at g
      exact g
theorem openWith_X {sq n k : Nat} {kd : Nat → Nat} {M : Mem} (hn : 200 ≤ n) (hk : k ≤ 4) (hT : TX sq kd M) : f6_openPlacesWith n (nI k) M = some (nI (fb_ct (nbK (opn sq kd) k) 96), M) := by
  have g := with_loop hk hT 96 0 (n + 1) (by omega) (by omega)
  rw [show fb_ct (nbK (opn sq kd) k) 0 = 0 from rfl, nI_0, e6_openPlacesWith_4] at g
  exact g
def nbR (O : Nat → Bool) (a b p : Nat) : Bool := O p && decide (a ≤ nbs O p 4 ∧ nbs O p 4 ≤ b)
theorem withY_loop {sq a b : Nat} {kd : Nat → Nat} {M : Mem} (ha : a ≤ 4) (hb : b ≤ 4) (hT : TY sq kd M) : ∀ (d p n : Nat), p + d = 96 → d + 20 < n → r12_withNeighbours n 5 [nI a, nI b, nI (fb_ct (nbR (opn sq kd) a b) p), nI p] [] M = some (nI (fb_ct (nbR (opn sq kd) a b) 96), M) := by
  intro d
  induction d with
  | zero =>
    intro p n h1 h2
    obtain ⟨n, rfl⟩ : ∃ n', n = n' + 1 := ⟨n - 1, by omega⟩
    have : p = 96 := by omega
    subst this
    rw [e12_withNeighbours_5]
    unfold b12_withNeighbours_5
    rw [if_pos (by decide)]
  | succ d ih =>
    intro p n h1 h2
    obtain ⟨n, rfl⟩ : ∃ n', n = n' + 1 := ⟨n - 1, by omega⟩
    rw [e12_withNeighbours_5]
    unfold b12_withNeighbours_5 b12_withNeighbours_39
    rw [if_neg (show ¬ (96 : Int32) ≤ nI p from nI_ge (b := 96) (by omega) (by decide)), bnd_e (isOpen_Y hT (by omega))]
    have g := ih (p + 1) n (by omega) (by omega)
    have l := nbs_le (opn sq kd) p 4
    by_cases c : opn sq kd p = true
    · rw [if_pos c, if_neg (by decide), bnd_e (neighbours_Y (by omega) hT (by omega)), in_e, bnd_s']
      by_cases e : a ≤ nbs (opn sq kd) p 4 ∧ nbs (opn sq kd) p 4 ≤ b
      · rw [if_neg (show ¬ (nI (nbs (opn sq kd) p 4) < nI a ∨ nI b < nI (nbs (opn sq kd) p 4)) from fun q => q.elim (nI_nlt (by omega) (by omega)) (nI_nlt (by omega) (by omega))), if_neg (by decide), lt_v, lt_v, nI_1, nI_1]
        rw [fb_ct_succ, if_pos (show nbR (opn sq kd) a b p = true by simp [nbR, c, e])] at g
        exact g
      · rw [if_pos (show (nI (nbs (opn sq kd) p 4) < nI a ∨ nI b < nI (nbs (opn sq kd) p 4)) by
          by_cases e1 : nbs (opn sq kd) p 4 < a
          · exact Or.inl (nI_lt e1 (by omega))
          · exact Or.inr (nI_lt (by omega) (by omega))), if_pos rfl, lt_v, nI_1]
        rw [fb_ct_succ, if_neg (show ¬ nbR (opn sq kd) a b p = true by simp only [nbR, c, Bool.true_and, decide_eq_true_eq]; exact e), Nat.add_zero] at g
        exact g
    · rw [if_neg c, if_pos rfl, lt_v, nI_1]
      rw [fb_ct_succ, if_neg (show ¬ nbR (opn sq kd) a b p = true by simp [nbR, c]), Nat.add_zero] at g
      exact g
theorem withNeighbours_Y {sq n a b : Nat} {kd : Nat → Nat} {M : Mem} (hn : 200 ≤ n) (ha : a ≤ 4) (hb : b ≤ 4) (hT : TY sq kd M) : f12_withNeighbours n (nI a) (nI b) M = some (nI (fb_ct (nbR (opn sq kd) a b) 96), M) := by
  have g := withY_loop ha hb hT 96 0 (n + 1) (by omega) (by omega)
  rw [show fb_ct (nbR (opn sq kd) a b) 0 = 0 from rfl, nI_0, e12_withNeighbours_5] at g
  exact g
def nbS (O : Nat → Bool) (p : Nat) : Nat := if O p = true then nbs O p 4 else 0
theorem nbS_le (O : Nat → Bool) (p : Nat) : nbS O p ≤ 4 := by
  unfold nbS
  have := nbs_le O p 4
  split <;> omega
theorem twos_loop {sq : Nat} {kd : Nat → Nat} {M : Mem} (hT : TY sq kd M) : ∀ (d p n : Nat), p + d = 96 → d + 20 < n → r12_twos n 4 [nI (fb_sm (nbS (opn sq kd)) p), nI p] [] M = some (nI (fb_sm (nbS (opn sq kd)) 96 / 2), M) := by
  intro d
  induction d with
  | zero =>
    intro p n h1 h2
    obtain ⟨n, rfl⟩ : ∃ n', n = n' + 1 := ⟨n - 1, by omega⟩
    have : p = 96 := by omega
    subst this
    rw [e12_twos_4]
    unfold b12_twos_4
    have := fb_sm_bound (f := nbS (opn sq kd)) (c := 4) (n := 96) (fun k _ => nbS_le _ k)
    rw [if_pos (by decide), show nI (fb_sm (nbS (opn sq kd)) 96) / (2 : Int32) = nI (fb_sm (nbS (opn sq kd)) 96 / 2) from pk_div (d := 2) (by omega) (by decide) (by decide)]
  | succ d ih =>
    intro p n h1 h2
    obtain ⟨n, rfl⟩ : ∃ n', n = n' + 1 := ⟨n - 1, by omega⟩
    rw [e12_twos_4]
    unfold b12_twos_4 b12_twos_26
    rw [if_neg (show ¬ (96 : Int32) ≤ nI p from nI_ge (b := 96) (by omega) (by decide)), bnd_e (isOpen_Y hT (by omega))]
    have g := ih (p + 1) n (by omega) (by omega)
    rw [fb_sm_succ] at g
    by_cases c : opn sq kd p = true
    · rw [if_pos c, if_neg (by decide), bnd_e (neighbours_Y (by omega) hT (by omega)), lt_v, lt_v, nI_1, nI_add]
      rw [show nbS (opn sq kd) p = nbs (opn sq kd) p 4 from if_pos c] at g
      exact g
    · rw [if_neg c, if_pos rfl, lt_v, nI_1]
      rw [show nbS (opn sq kd) p = 0 from if_neg c, Nat.add_zero] at g
      exact g
theorem twos_Y {sq n : Nat} {kd : Nat → Nat} {M : Mem} (hn : 200 ≤ n) (hT : TY sq kd M) : f12_twos n M = some (nI (fb_sm (nbS (opn sq kd)) 96 / 2), M) := by
  have g := twos_loop hT 96 0 (n + 1) (by omega) (by omega)
  rw [show fb_sm (nbS (opn sq kd)) 0 = 0 from rfl, nI_0, e12_twos_4] at g
  exact g
theorem nb_dead (O : Nat → Bool) : ∀ n, fb_ct (nbK O 0) n + fb_ct (nbK O 1) n = fb_ct (nbR O 0 1) n := by
  intro n
  rw [← fb_ct_or (fun k _ h => by
    simp only [nbK, Bool.and_eq_true, decide_eq_true_eq] at h
    omega)]
  refine fb_ct_cong fun k _ => ?_
  simp only [nbK, nbR, ← Bool.and_or_distrib_left]
  congr 1
  rw [Bool.eq_iff_iff]
  simp only [Bool.or_eq_true, decide_eq_true_eq]
  omega
theorem nb_four (O : Nat → Bool) (n : Nat) : fb_ct (nbK O 4) n = fb_ct (nbR O 4 4) n := by
  refine fb_ct_cong fun k _ => ?_
  simp only [nbK, nbR]
  congr 1
  exact decide_eq_decide.mpr (by omega)
theorem nb_sum (O : Nat → Bool) : ∀ n, fb_sm (nbS O) n = fb_ct (nbK O 1) n + 2 * fb_ct (nbK O 2) n + 3 * fb_ct (nbK O 3) n + 4 * fb_ct (nbK O 4) n := by
  intro n
  induction n with
  | zero => rfl
  | succ n ih =>
    rw [fb_sm_succ, fb_ct_succ, fb_ct_succ, fb_ct_succ, fb_ct_succ, ih]
    have l := nbs_le O n 4
    by_cases c : O n = true
    · have e : nbS O n = nbs O n 4 := if_pos c
      have k : ∀ j, nbK O j n = decide (nbs O n 4 = j) := fun j => by simp [nbK, c]
      rw [e, k, k, k, k]
      simp only [decide_eq_true_eq]
      repeat' split
      all_goals omega
    · have e : nbS O n = 0 := if_neg c
      have k : ∀ j, nbK O j n = false := fun j => by simp [nbK, c]
      rw [e, k, k, k, k]
      simp
