/-! the reference's table of steps -/
theorem lays_fill (s : Nat) (hs : s < 96) : ∀ (d i n : Nat) (M : Mem), i + d = 96 → d < n → ∃ n' M', n' + d + 1 = n ∧ r12_laysFrom n 2 [nI s, nI i] [] M = r12_laysFrom (n' + 1) 2 [nI s, nI 96] [] M' ∧ (∀ j, M'.1 6 j = if 96 * s + i ≤ j ∧ j < 96 * s + 96 then nI 99 else M.1 6 j) ∧ (∀ k, k ≠ 6 → M'.1 k = M.1 k) := by
  intro d
  induction d with
  | zero =>
    intro i n M h1 h2
    obtain ⟨n, rfl⟩ : ∃ n', n = n' + 1 := ⟨n - 1, by omega⟩
    have : i = 96 := by omega
    subst this
    exact ⟨n, M, rfl, rfl, fun j => by rw [if_neg (by omega)], fun k _ => rfl⟩
  | succ d ih =>
    intro i n M h1 h2
    obtain ⟨n, rfl⟩ : ∃ n', n = n' + 1 := ⟨n - 1, by omega⟩
    rw [e12_laysFrom_2]
    unfold b12_laysFrom_2
    rw [if_neg (show ¬ (96 : Int32) ≤ nI i from nI_ge (b := 96) (by omega) (by decide)), show (96 : Int32) * nI s + nI i = nI (96 * s + i) by rw [show (96 : Int32) = nI 96 from rfl, pk_mul, nI_add], chk_in (by omega) (by decide), lt_v, lt_v, nI_1, nI_clamp (by omega)]
    obtain ⟨n', M', g1, g2, g3, g4⟩ := ih (i + 1) n (wI M 6 (96 * s + i) (99 : Int32).toInt8.toInt32) (by omega) (by omega)
    refine ⟨n', M', by omega, g2, fun j => ?_, fun k hk => ?_⟩
    · rw [g3 j, wI_at, if_pos rfl]
      by_cases e1 : j = 96 * s + i
      · rw [if_neg (by omega), if_pos e1, if_pos (by omega)]
        decide
      · rw [if_neg e1]
        by_cases e2 : 96 * s + (i + 1) ≤ j ∧ j < 96 * s + 96
        · rw [if_pos e2, if_pos (by omega)]
        · rw [if_neg e2, if_neg (by omega)]
    · rw [g4 k hk, (wI_o k hk).1]
theorem lays_spec {sq n : Nat} {kd : Nat → Nat} {s : Nat} {M : Mem} (hn : 10000 ≤ n) (hs : s < 96) (hT : TY sq kd M) : ∃ M', f12_laysFrom n (nI s) M = some ((), M') ∧ (∀ p, p < 96 → M'.1 6 (96 * s + p) = nI (ds (opn sq kd) s p)) ∧ outside s M M' := by
  unfold f12_laysFrom b12_laysFrom_0
  obtain ⟨n', M1, g1, g2, g3, g4⟩ := lays_fill s hs 96 0 (n + 1) M (by omega) (by omega)
  rw [nI_0, e12_laysFrom_2] at g2
  rw [g2, e12_laysFrom_2]
  have hT1 : TY sq kd M1 := hT.keep (by rw [g4 0 (by decide)]) (g4 4 (by decide))
  have o1 : outside s M M1 := fun j hj => by rw [g3 j, if_neg (by omega)]
  unfold b12_laysFrom_2
  rw [if_pos (show (96 : Int32) ≤ nI 96 by decide), bnd_e (isOpen_Y hT1 hs)]
  by_cases ho : opn sq kd s = true
  · rw [if_pos ho, if_neg (by decide), show (96 : Int32) * nI s + nI s = nI (96 * s + s) by rw [show (96 : Int32) = nI 96 from rfl, pk_mul, nI_add], chk_in (by omega) (by decide), lt_v, chk_t (b := inb 0 96) (by decide), lt_v, nI_clamp (by omega)]
    unfold b12_laysFrom_59
    rw [if_neg (by decide)]
    have z0 : (0 : Int32).toNatClampNeg = 0 := by decide
    have z1 : (0 : Int32).toInt8.toInt32 = nI 0 := by decide
    rw [z0, z1]
    have g := lays_loop (sq := sq) (kd := kd) hs M 480 (fun p => if p = s then 0 else 99) (fun _ => s) 1 0 0 (n' + 1) (wI (wI M1 6 (96 * s + s) (nI 0)) 7 0 (nI s)) (BI.init hs ho rfl) (by decide) (by decide) (by decide) (by omega) (hT1.keep rfl rfl) ⟨fun p hp => by
        simp only [wI_at]
        rw [if_neg (by decide)]
        simp only [if_true]
        by_cases e3 : p = s
        · rw [if_pos (by omega), if_pos e3]
        · rw [if_neg (by omega), if_neg e3, g3, if_pos (by omega)], fun j hj => by
        have : j = 0 := by omega
        subst this
        simp only [wI_at, if_true]⟩ (fun j hj => by
        simp only [wI_at]
        rw [if_neg (by decide), if_pos trivial, if_neg (by omega)]
        exact o1 j hj)
    obtain ⟨M', D', g1, g2, g3, g4⟩ := g
    rw [e12_laysFrom_67] at g1
    exact ⟨M', g1, fun p hp => by rw [g3 p hp, g2.eq hs hp], g4⟩
  · rw [if_neg ho, if_pos rfl]
    refine ⟨_, rfl, fun p hp => ?_, o1⟩
    have : Dis (opn sq kd) s (fun _ => 99) := Dis.none (by simpa using ho) (fun _ _ => rfl)
    rw [g3, if_pos (by omega), ← this.eq hs hp]
/-- laid, or to be laid -/
def LD (sq : Nat) (kd : Nat → Nat) (M : Mem) : Prop := M.1 0 9 = 1 ∧ ∀ a p, a < 96 → p < 96 → M.1 6 (96 * a + p) = nI (ds (opn sq kd) a p)
def LY (sq : Nat) (kd : Nat → Nat) (M : Mem) : Prop := M.1 0 9 = 0 ∨ LD sq kd M
/-- the same but for the table of steps -/
def Sm (M M' : Mem) : Prop := (∀ k, k ∉ ([0, 6, 7] : List Nat) → M'.1 k = M.1 k ∧ M'.2 k = M.2 k) ∧ ∀ j, j ≠ 9 → M'.1 0 j = M.1 0 j
theorem Sm.refl {M : Mem} : Sm M M := ⟨fun _ _ => ⟨rfl, rfl⟩, fun _ _ => rfl⟩
theorem Sm.trans {M M1 M2 : Mem} (h : Sm M M1) (h2 : Sm M1 M2) : Sm M M2 := ⟨fun k hk => ⟨(h2.1 k hk).1.trans (h.1 k hk).1, (h2.1 k hk).2.trans (h.1 k hk).2⟩, fun j hj => (h2.2 j hj).trans (h.2 j hj)⟩
def YT (sq : Nat) (kd : Nat → Nat) (M : Mem) : Prop := TY sq kd M ∧ LY sq kd M
theorem Sm.ty {sq : Nat} {kd : Nat → Nat} {M M' : Mem} (h : Sm M M') (hT : TY sq kd M) : TY sq kd M' := hT.keep (h.2 5 (by decide)) (h.1 4 (by decide)).1
theorem steps_loop {sq : Nat} {kd : Nat → Nat} (p q : Nat) (hp : p < 96) (hq : q < 96) : ∀ (d i n : Nat) (M : Mem), i + d = 96 → d + 10000 < n → TY sq kd M → (∀ a b, a < i → b < 96 → M.1 6 (96 * a + b) = nI (ds (opn sq kd) a b)) → ∃ M', r12_steps n 9 [nI p, nI q, nI i] [] M = some (nI (ds (opn sq kd) p q), M') ∧ LD sq kd M' := by
  intro d
  induction d with
  | zero =>
    intro i n M h1 h2 hT h3
    obtain ⟨n, rfl⟩ : ∃ n', n = n' + 1 := ⟨n - 1, by omega⟩
    have : i = 96 := by omega
    subst this
    rw [e12_steps_9]
    unfold b12_steps_9 b12_steps_31
    rw [if_pos (by decide), lt_v, show (96 : Int32) * nI p + nI q = nI (96 * p + q) by rw [show (96 : Int32) = nI 96 from rfl, pk_mul, nI_add], chk_in (by omega) (by decide), nI_clamp (by omega)]
    refine ⟨wI M 0 9 1, ?_, rfl, fun a b ha hb => h3 a b ha hb⟩
    rw [← h3 p q hp hq]
    rfl
  | succ d ih =>
    intro i n M h1 h2 hT h3
    obtain ⟨n, rfl⟩ : ∃ n', n = n' + 1 := ⟨n - 1, by omega⟩
    rw [e12_steps_9]
    unfold b12_steps_9
    obtain ⟨M1, g1, g2, g3⟩ := lays_spec (n := n) (by omega) (show i < 96 by omega) hT
    have f1 := fr12_laysFrom g1
    rw [if_neg (show ¬ (96 : Int32) ≤ nI i from nI_ge (b := 96) (by omega) (by decide)), bnd_e g1, lt_v, nI_1]
    refine ih (i + 1) n M1 (by omega) (by omega) (hT.keep (by rw [(f1 0 (by decide) (fun e => by cases e)).1]) (f1 4 (by decide) (fun e => by cases e)).1) (fun a b ha hb => ?_)
    by_cases e : a = i
    · subst e; exact g2 b hb
    · rw [g3 _ (by omega)]
      exact h3 a b (by omega) hb
/-- STEPS of the reference -/
theorem steps_Y {sq n : Nat} {kd : Nat → Nat} {M : Mem} {p q : Nat} (hn : 100000 ≤ n) (hY : YT sq kd M) (hp : p < 96) (hq : q < 96) : ∃ M', f12_steps n (nI p) (nI q) M = some (nI (ds (opn sq kd) p q), M') ∧ Sm M M' ∧ YT sq kd M' := by
  obtain ⟨hT, hL⟩ := hY
  have key : ∃ M', f12_steps n (nI p) (nI q) M = some (nI (ds (opn sq kd) p q), M') ∧ LD sq kd M' := by
    unfold f12_steps b12_steps_0
    rcases hL with hL | hL
    · rw [if_pos hL]
      obtain ⟨M', g1, g2⟩ := steps_loop (sq := sq) (kd := kd) p q hp hq 96 0 (n + 1) M (by omega) (by omega) hT (fun a b ha => by omega)
      rw [nI_0, e12_steps_9] at g1
      exact ⟨M', g1, g2⟩
    · rw [if_neg (by rw [hL.1]; decide)]
      unfold b12_steps_31
      rw [show (96 : Int32) * nI p + nI q = nI (96 * p + q) by rw [show (96 : Int32) = nI 96 from rfl, pk_mul, nI_add], chk_in (by omega) (by decide), nI_clamp (by omega), hL.2 p q hp hq]
      exact ⟨M, rfl, hL⟩
  obtain ⟨M', g1, g2⟩ := key
  have f1 := fr12_steps g1
  have q1 := fq12_steps g1
  have hS : Sm M M' := ⟨fun k hk => f1 k hk (fun e => by cases e), fun j hj => q1 0 j (by decide) (by simp only [List.mem_singleton, Prod.mk.injEq, true_and]; exact hj)⟩
  exact ⟨M', g1, hS, hS.ty hT, Or.inr g2⟩
/-! neighbours, both -/
def nbs (O : Nat → Bool) (p : Nat) : Nat → Nat
  | 0 => 0
  | w + 1 => nbs O p w + if bes p w < 96 ∧ O (bes p w) = true then 1 else 0
theorem nbs_le (O : Nat → Bool) (p : Nat) : ∀ w, nbs O p w ≤ w
  | 0 => Nat.le_refl _
  | w + 1 => by
    have := nbs_le O p w
    simp only [nbs]
    split <;> omega
theorem ob_loop {sq : Nat} {kd : Nat → Nat} {M : Mem} (hT : TX sq kd M) {p : Nat} (hp : p < 96) : ∀ (d w n : Nat), w + d = 4 → d < n → r8_openBeside n 4 [nI p, nI (nbs (opn sq kd) p w), nI w] [] M = some (nI (nbs (opn sq kd) p 4), M) := by
  intro d
  induction d with
  | zero =>
    intro w n h1 h2
    obtain ⟨n, rfl⟩ : ∃ n', n = n' + 1 := ⟨n - 1, by omega⟩
    have : w = 4 := by omega
    subst this
    rw [e8_openBeside_4]
    unfold b8_openBeside_4
    rw [if_pos (by decide)]
  | succ d ih =>
    intro w n h1 h2
    obtain ⟨n, rfl⟩ : ∃ n', n = n' + 1 := ⟨n - 1, by omega⟩
    rw [e8_openBeside_4]
    unfold b8_openBeside_4
    rw [if_neg (show ¬ (4 : Int32) ≤ nI w from nI_ge (b := 4) (by omega) (by decide)), bnd_e (bes_X hp (by omega))]
    have g := ih (w + 1) n (by omega) (by omega)
    unfold b8_openBeside_24
    by_cases hb : bes p w < 96
    · rw [bI_in hb, bnd_e (isOpen_X hT hb)]
      by_cases ho : opn sq kd (bes p w) = true
      · rw [if_pos ho, if_neg (by decide), lt_v, lt_v, nI_1, nI_1, ← g]
        simp only [nbs, hb, ho, and_self, if_true]
      · rw [if_neg ho, if_pos rfl, lt_v, nI_1, ← g]
        simp only [nbs, ho, and_false, if_false, Nat.add_zero]
        simp
    · rw [bI_out hb, bnd_e isOpen_m1, if_pos rfl, lt_v, nI_1, ← g]
      simp only [nbs, hb, false_and, if_false, Nat.add_zero]
theorem openBeside_X {n sq : Nat} {kd : Nat → Nat} {M : Mem} (hn : 10 ≤ n) (hT : TX sq kd M) {p : Nat} (hp : p < 96) : f8_openBeside n (nI p) M = some (nI (nbs (opn sq kd) p 4), M) := by
  have g := ob_loop hT hp 4 0 (n + 1) (by omega) (by omega)
  rw [e8_openBeside_4] at g
  unfold f8_openBeside b8_openBeside_0
  rw [← g]
  rfl
theorem nb_loop {sq : Nat} {kd : Nat → Nat} {M : Mem} (hT : TY sq kd M) {p : Nat} (hp : p < 96) : ∀ (d w n : Nat), w + d = 4 → d < n → r12_neighbours n 4 [nI p, nI (nbs (opn sq kd) p w), nI w] [] M = some (nI (nbs (opn sq kd) p 4), M) := by
  intro d
  induction d with
  | zero =>
    intro w n h1 h2
    obtain ⟨n, rfl⟩ : ∃ n', n = n' + 1 := ⟨n - 1, by omega⟩
    have : w = 4 := by omega
    subst this
    rw [e12_neighbours_4]
    unfold b12_neighbours_4
    rw [if_pos (by decide)]
  | succ d ih =>
    intro w n h1 h2
    obtain ⟨n, rfl⟩ : ∃ n', n = n' + 1 := ⟨n - 1, by omega⟩
    rw [e12_neighbours_4]
    unfold b12_neighbours_4
    rw [if_neg (show ¬ (4 : Int32) ≤ nI w from nI_ge (b := 4) (by omega) (by decide)), bnd_e (bes_Y hp (by omega))]
    have g := ih (w + 1) n (by omega) (by omega)
    unfold b12_neighbours_34
    by_cases hb : bes p w < 96
    · rw [bI_in hb, if_neg (nI_m1 (by omega)), bnd_e (bes_Y hp (by omega)), bI_in hb, bnd_e (isOpen_Y hT hb)]
      by_cases ho : opn sq kd (bes p w) = true
      · rw [if_pos ho, if_neg (by decide), lt_v, lt_v, nI_1, nI_1, ← g]
        simp only [nbs, hb, ho, and_self, if_true]
      · rw [if_neg ho, if_pos rfl, lt_v, nI_1, ← g]
        simp only [nbs, ho, and_false, if_false, Nat.add_zero]
        simp
    · rw [bI_out hb, if_pos rfl, lt_v, nI_1, ← g]
      simp only [nbs, hb, false_and, if_false, Nat.add_zero]
theorem neighbours_Y {n sq : Nat} {kd : Nat → Nat} {M : Mem} (hn : 10 ≤ n) (hT : TY sq kd M) {p : Nat} (hp : p < 96) : f12_neighbours n (nI p) M = some (nI (nbs (opn sq kd) p 4), M) := by
  have g := nb_loop hT hp 4 0 (n + 1) (by omega) (by omega)
  rw [e12_neighbours_4] at g
  unfold f12_neighbours b12_neighbours_0
  rw [← g]
  rfl
