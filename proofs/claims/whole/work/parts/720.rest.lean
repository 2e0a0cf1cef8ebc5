/-! the town's rest: doors, what refresh reckons; the invariant of the town -/
def dI (v : Nat) : Int32 := if v < 96 then nI v else -1
noncomputable def t9 (O : Nat → Bool) (dr : Nat → Nat) (p : Nat) : Nat := if dr 9 < 96 then ds O (dr 9) p else 99
def RX (sq : Nat) (kd dr : Nat → Nat) (M : Mem) : Prop := PS 10 (opn sq kd) M ∧ (∀ p, p < 96 → M.1 7 p = nI (ds (opn sq kd) sq p)) ∧ ∀ p, p < 96 → M.1 8 p = nI (t9 (opn sq kd) dr p)
def DX (dr : Nat → Nat) (M : Mem) : Prop := (∀ k, 1 ≤ k → k ≤ 9 → M.1 6 k = dI (dr k)) ∧ ∃ w, w < 1024 ∧ M.1 3 8 = nI w ∧ ∀ i, w.testBit i = (decide (1 ≤ i) && (decide (i ≤ 9) && decide (dr i < 96)))
def DY (dr : Nat → Nat) (M : Mem) : Prop := ∀ k, 1 ≤ k → k ≤ 9 → M.1 5 k = dI (dr k)
theorem fl2 {sq : Nat} {kd : Nat → Nat} {M : Mem} (h : TX sq kd M) : ∀ p, p < 96 → fl sq kd 2 p = opn sq kd p := fun p hp => by
  have := kof_le (sq := sq) (h.2.2 p hp).2
  unfold fl opn
  exact decide_eq_decide.mpr (by omega)
theorem refresh_loop {sq : Nat} {kd dr : Nat → Nat} : ∀ (d i n : Nat) (M : Mem), i + d = 96 → d + 20000 < n → TX sq kd M → PS 10 (fun p => decide (p < i) && opn sq kd p) M → M.1 6 9 = dI (dr 9) → ∃ M', r8_refresh n 9 [nI i] [] M = some ((), M') ∧ RX sq kd dr M' ∧ M'.1 3 9 = M.1 3 9 + 1 := by
  intro d
  induction d with
  | zero =>
    intro i n M h1 h2 hT hP hd
    obtain ⟨n, rfl⟩ : ∃ n', n = n' + 1 := ⟨n - 1, by omega⟩
    have : i = 96 := by omega
    subst this
    rw [e8_refresh_9]
    unfold b8_refresh_9
    rw [if_pos (by decide), hT.2.1]
    obtain ⟨M1, g1, a1⟩ := spread_spec (n := n) (k0 := 7) (f := 2) (by omega) (by decide) (by decide) hT.1 hT
    have f1 := fr8_spread g1
    have q1 := fq8_spread (by decide) g1
    have hT1 : TX sq kd M1 := hT.keep (by rw [(f1 3 (by decide) (fun e => by cases e)).1]) (f1 4 (by decide) (fun e => by cases e)).1
    rw [bnd_e (show f8_spread n 7 (nI sq) (2 : Int32) M = some ((), M1) from g1), chk_t (by decide), show (9 : Int32).toNatClampNeg = 9 by decide, (f1 6 (by decide) (fun e => by cases e)).1, hd]
    have key : ∃ M2, f8_spread n 8 (dI (dr 9)) (2 : Int32) M1 = some ((), M2) ∧ ∀ p, p < 96 → M2.1 8 p = nI (t9 (opn sq kd) dr p) := by
      unfold dI t9
      by_cases c : dr 9 < 96
      · rw [if_pos c]
        obtain ⟨M2, g2, a2⟩ := spread_spec (n := n) (k0 := 8) (f := 2) (by omega) (by decide) (by decide) c hT1
        refine ⟨M2, g2, fun p hp => ?_⟩
        rw [if_pos c, a2 p hp, ds_cong (fl2 hT) c hp]
      · rw [if_neg c]
        obtain ⟨M2, g2, a2⟩ := spread_m1 (n := n) (k0 := 8) (f := 2) (M := M1) (by omega)
        exact ⟨M2, g2, fun p hp => by rw [if_neg c, a2 p hp]⟩
    obtain ⟨M2, g2, a2⟩ := key
    have f2 := fr8_spread g2
    rw [bnd_e g2, lt_v]
    refine ⟨_, rfl, ⟨?_, fun p hp => ?_, fun p hp => ?_⟩, ?_⟩
    · have e1 := (f1 10 (by decide) (fun e => by cases e)).2
      have e2 := (f2 10 (by decide) (fun e => by cases e)).2
      exact (hP.cong fun p hp => by simp [hp]).keep (by rw [(wI_o 10 (by decide)).2, e2, e1])
    · rw [(wI_o 7 (by decide)).1, (f2 7 (by decide) (fun e => by cases e)).1, a1 p hp, ds_cong (fl2 hT) hT.1 hp]
    · rw [(wI_o 8 (by decide)).1, a2 p hp]
    · rw [wI_at, if_pos rfl, if_pos rfl, (f2 3 (by decide) (fun e => by cases e)).1, (f1 3 (by decide) (fun e => by cases e)).1]
  | succ d ih =>
    intro i n M h1 h2 hT hP hd
    obtain ⟨n, rfl⟩ : ∃ n', n = n' + 1 := ⟨n - 1, by omega⟩
    rw [e8_refresh_9]
    unfold b8_refresh_9 b8_refresh_31
    rw [if_neg (show ¬ (96 : Int32) ≤ nI i from nI_ge (b := 96) (by omega) (by decide)), bnd_e (isOpen_X hT (by omega))]
    by_cases ho : opn sq kd i = true
    · rw [if_pos ho, if_neg (by decide)]
      obtain ⟨M1, g1, p1⟩ := add_X (n := n) (p := i) hP (by omega)
      have f1 := fr4_add g1
      rw [bnd_e g1, lt_v, nI_1]
      obtain ⟨M', r1, r2, r3⟩ := ih (i + 1) n M1 (by omega) (by omega) (hT.keep (by rw [(f1 3 (by decide) (fun e => by cases e)).1]) (f1 4 (by decide) (fun e => by cases e)).1) (p1.cong fun p hp => by
        by_cases e : p = i
        · subst e; simp [ho]
        · simp only [e, decide_false, Bool.or_false]
          congr 1
          exact decide_eq_decide.mpr (by omega)) (by rw [(f1 6 (by decide) (fun e => by cases e)).1]; exact hd)
      exact ⟨M', r1, r2, by rw [r3, (f1 3 (by decide) (fun e => by cases e)).1]⟩
    · rw [if_neg ho, if_pos rfl, lt_v, nI_1]
      exact ih (i + 1) n M (by omega) (by omega) hT (hP.cong fun p hp => by
        by_cases e : p = i
        · subst e
          have : opn sq kd p = false := by simpa using ho
          simp [this]
        · congr 1
          exact decide_eq_decide.mpr (by omega)) hd
theorem refresh_X {sq n : Nat} {kd dr : Nat → Nat} {M : Mem} (hn : 30000 ≤ n) (hT : TX sq kd M) (hd : M.1 6 9 = dI (dr 9)) : ∃ M', f8_refresh n M = some ((), M') ∧ RX sq kd dr M' ∧ M'.1 3 9 = M.1 3 9 + 1 := by
  unfold f8_refresh b8_refresh_0
  obtain ⟨M1, g1, p1⟩ := clear_X (n := n) (k := 10) M
  have f1 := fr4_clear g1
  rw [bnd_e g1]
  obtain ⟨M', r1, r2, r3⟩ := refresh_loop (dr := dr) 96 0 (n + 1) M1 (by omega) (by omega) (hT.keep (by rw [(f1 3 (by decide) (fun e => by cases e)).1]) (f1 4 (by decide) (fun e => by cases e)).1) (p1.cong fun p hp => by simp) (by rw [(f1 6 (by decide) (fun e => by cases e)).1]; exact hd)
  rw [nI_0, e8_refresh_9] at r1
  exact ⟨M', r1, r2, by rw [r3, (f1 3 (by decide) (fun e => by cases e)).1]⟩
/-! the table of rows (CALLS) -/
def pl (sq : Nat) (dr : Nat → Nat) (k : Nat) : Nat := if k = 0 then sq else dr k
noncomputable def bw (O : Nat → Bool) (sq : Nat) (dr : Nat → Nat) (a b : Nat) : Nat := if pl sq dr a < 96 ∧ pl sq dr b < 96 then ds O (pl sq dr a) (pl sq dr b) else 99
def mnf (z : Nat) (f : Nat → Nat) (set : Nat) : Nat → Nat
  | 0 => z
  | j + 1 => if set.testBit j = true then (if f (j + 1) < mnf z f set j then f (j + 1) else mnf z f set j) else mnf z f set j
def bvN (w : Nat → Nat → Nat) : Nat → Nat → Nat → Nat
  | 0, _, a => w a 0 * 1000000000
  | m + 1, set, a => mnf 1000000000000000 (fun b => w a b * 1000000000 + b * 10 ^ m + bvN w m (set ^^^ 2 ^ (b - 1)) b) set 9
def tld (dr : Nat → Nat) (set : Nat) : Prop := ∀ j, j < 9 → set.testBit j = true → dr (j + 1) < 96
def pcn (set : Nat) : Nat := fb_ct (fun i => set.testBit i) 9
def BT (sq : Nat) (kd dr : Nat → Nat) (M : Mem) : Prop := ∀ set, set < 512 → tld dr set → ∀ a, a < 10 → M.2 327 (10 * set + a) = lN (bvN (bw (opn sq kd) sq dr) (pcn set) set a)
def CH (sq : Nat) (kd dr : Nat → Nat) (t : Nat) (M : Mem) : Prop := ∃ c, c ≤ t + 1 ∧ M.1 3 9 = nI c ∧ (M.1 326 4 = -1 ∨ ∃ a, a ≤ c ∧ M.1 326 4 = nI a ∧ (a = c → BT sq kd dr M))
def TownOf (sq : Nat) (kd dr : Nat → Nat) (t : Nat) (Mx My : Mem) : Prop := TX sq kd Mx ∧ YT sq kd My ∧ RX sq kd dr Mx ∧ DX dr Mx ∧ DY dr My ∧ CH sq kd dr t Mx
def RsT (Lw : Mem → Mem → Prop) (t : Nat) (Mx My : Mem) : Prop := (∃ sq kd dr, TownOf sq kd dr t Mx My) ∧ Lw Mx My
def LwOk (Lw : Mem → Mem → Prop) : Prop := ∀ Mx My Mx' My', Lw Mx My → (∀ k, k ∈ ([11, 12, 13, 14] : List Nat) → Mx'.1 k = Mx.1 k) → My'.1 0 20 = My.1 0 20 → (∀ k, k ∈ ([15, 16, 17, 18, 19] : List Nat) → My'.1 k = My.1 k) → Lw Mx' My'
def Inv (Lw : Mem → Mem → Prop) (t : Nat) (Mx My : Mem) : Prop := InvOf (RsT Lw) t Mx My
/-- the town's cells -/
def QXt (M M' : Mem) : Prop := ∀ k, k ∈ ([3, 4, 6, 7, 8, 326, 327] : List Nat) → M'.1 k = M.1 k ∧ M'.2 k = M.2 k
def QXr (M M' : Mem) : Prop := (∀ k, k ∈ ([0, 11, 12, 13, 14, 330, 331, 332, 333, 334, 335] : List Nat) → M'.1 k = M.1 k) ∧ M'.1 25 2 = M.1 25 2
def QY (M M' : Mem) : Prop := (∀ j, j ∈ ([6, 20, 53] : List Nat) → M'.1 0 j = M.1 0 j) ∧ ∀ k, k ∈ ([1, 3, 15, 16, 17, 18, 19] : List Nat) → M'.1 k = M.1 k
theorem CH.later {sq t t' : Nat} {kd dr : Nat → Nat} {M : Mem} (h : CH sq kd dr t M) (ht : t ≤ t') : CH sq kd dr t' M := by
  obtain ⟨c, h1, h2, h3⟩ := h
  exact ⟨c, by omega, h2, h3⟩
theorem TownOf.keep {sq t t' : Nat} {kd dr : Nat → Nat} {Mx My Mx' My' : Mem} (h : TownOf sq kd dr t Mx My) (ht : t ≤ t') (hx : QXt Mx Mx') (hp : PS 10 (opn sq kd) Mx') (hy : YT sq kd My') (h5 : My'.1 5 = My.1 5) : TownOf sq kd dr t' Mx' My' := by
  obtain ⟨a1, a2, ⟨b1, b2, b3⟩, ⟨c1, w, c2, c3, c4⟩, a5, c, d1, d2, d3⟩ := h
  refine ⟨a1.keep (by rw [(hx 3 (by decide)).1]) (hx 4 (by decide)).1, hy, ⟨hp, fun p hp => by rw [(hx 7 (by decide)).1]; exact b2 p hp, fun p hp => by rw [(hx 8 (by decide)).1]; exact b3 p hp⟩, ⟨fun k h1 h2 => by rw [(hx 6 (by decide)).1]; exact c1 k h1 h2, w, c2, by rw [(hx 3 (by decide)).1]; exact c3, c4⟩, fun k h1 h2 => by rw [h5]; exact a5 k h1 h2, c, by omega, by rw [(hx 3 (by decide)).1]; exact d2, ?_⟩
  rw [(hx 326 (by decide)).1]
  refine d3.imp id (fun ⟨a, e1, e2, e3⟩ => ⟨a, e1, e2, fun e => ?_⟩)
  intro set hs ht a ha
  rw [(hx 327 (by decide)).2]
  exact e3 e set hs ht a ha
theorem Cs.keepQ {Mx My Mx' My' : Mem} (h : Cs Mx My) (qx : QXr Mx Mx') (qy : QY My My') : Cs Mx' My' := h.keep (fun k hk => qx.1 k (by revert hk; revert k; decide)) (by rw [qx.1 0 (by decide)]) (fun k hk => qy.2 k (by revert hk; revert k; decide)) (qy.1 53 (by decide))
/-- a call that changes the town -/
theorem Inv.town {Lw : Mem → Mem → Prop} (hL : LwOk Lw) {sq t : Nat} {kd dr : Nat → Nat} {Mx My Mx' My' : Mem} (h1 : TownOf sq kd dr t Mx' My') (h2 : Lw Mx My) (h3 : Tp Mx' My') (h4 : Wt Mx My) (h5 : Cs Mx My) (qx : QXr Mx Mx') (qy : QY My My') : Inv Lw t Mx' My' :=
  ⟨⟨⟨sq, kd, dr, h1⟩, hL _ _ _ _ h2 (fun k hk => qx.1 k (by revert hk; revert k; decide)) (qy.1 20 (by decide)) (fun k hk => qy.2 k (by revert hk; revert k; decide))⟩, h3, h4.keep qx.2 (qy.1 6 (by decide)), h5.keepQ qx qy⟩
/-- a call that asks only -/
theorem Inv.ask {Lw : Mem → Mem → Prop} (hL : LwOk Lw) {sq t : Nat} {kd dr : Nat → Nat} {Mx My Mx' My' : Mem} (h1 : TownOf sq kd dr t Mx My) (h2 : Lw Mx My) (h3 : Tp Mx' My') (h4 : Wt Mx My) (h5 : Cs Mx My) (qt : QXt Mx Mx') (hp : PS 10 (opn sq kd) Mx') (qx : QXr Mx Mx') (qy : QY My My') (hy : YT sq kd My') (h6 : My'.1 5 = My.1 5) : Inv Lw (t + 6) Mx' My' :=
  Inv.town hL (h1.keep (by omega) qt hp hy h6) h2 h3 h4 h5 qx qy
theorem QXt.of {L : List Nat} {ps : Bool} {M M' : Mem} (h : Fr L ps M M') (hL : ∀ k, k ∈ ([3, 4, 6, 7, 8, 326, 327] : List Nat) → k ∉ L) : QXt M M' := fun k hk => h k (hL k hk) (fun _ => by revert hk; revert k; decide)
theorem QXr.of {L : List Nat} {ps : Bool} {M M' : Mem} (h : Fr L ps M M') (hL : ∀ k, k ∈ ([0, 11, 12, 13, 14, 25, 330, 331, 332, 333, 334, 335] : List Nat) → k ∉ L) : QXr M M' := ⟨fun k hk => (h k (hL k (by revert hk; revert k; decide)) (fun _ => by revert hk; revert k; decide)).1, by rw [(h 25 (hL 25 (by decide)) (fun _ => by decide)).1]⟩
theorem QY.of {L : List Nat} {O : List (Nat × Nat)} {M M' : Mem} (h : Fr L false M M') (q : Fq CSY O M M') (hL : ∀ k, k ∈ ([1, 3, 15, 16, 17, 18, 19] : List Nat) → k ∉ L) (hO : ∀ j, j ∈ ([6, 20, 53] : List Nat) → (0, j) ∉ O) : QY M M' := ⟨fun j hj => q 0 j (by decide) (hO j hj), fun k hk => (h k (hL k hk) (fun e => by cases e)).1⟩
theorem QXt.refl {M : Mem} : QXt M M := fun _ _ => ⟨rfl, rfl⟩
theorem QXr.refl {M : Mem} : QXr M M := ⟨fun _ _ => rfl, rfl⟩
theorem QY.refl {M : Mem} : QY M M := ⟨fun _ _ => rfl, fun _ _ => rfl⟩
theorem RsT.ok {Lw : Mem → Mem → Prop} (hL : LwOk Lw) : RsOk (RsT Lw) := by
  intro t Mx My Mx' My' h hx hy
  obtain ⟨⟨sq, kd, dr, h1⟩, h2⟩ := h
  refine ⟨⟨sq, kd, dr, h1.keep (by omega) (fun k hk => hx k (by revert hk; revert k; decide)) (h1.2.2.1.1.keep (hx 10 (by decide)).2) ?_ (hy.2 5 (by decide))⟩, hL _ _ _ _ h2 (fun k hk => (hx k (by revert hk; revert k; decide)).1) (hy.1 20 (by decide)) (fun k hk => hy.2 k (by revert hk; revert k; decide))⟩
  obtain ⟨a1, a2⟩ := h1.2.1
  refine ⟨a1.keep (hy.1 5 (by decide)) (hy.2 4 (by decide)), ?_⟩
  unfold LY LD at a2 ⊢
  rw [hy.1 9 (by decide), hy.2 6 (by decide)]
  exact a2
theorem Inv.same {Lw : Mem → Mem → Prop} (hL : LwOk Lw) {t : Nat} {Mx My : Mem} (h : Inv Lw t Mx My) : Inv Lw (t + 6) Mx My := InvOf.same (RsT.ok hL) h
/-! places given by two numbers -/
theorem place_XY (x y : Int32) : (∀ n M, f11_placeAt n x y M = some (-1, M) ∧ f12_isPlace n x y M = some (0, M)) ∨ ∃ p, p < 96 ∧ 12 * y + x = nI p ∧ ∀ n M, f11_placeAt n x y M = some (nI p, M) ∧ f12_isPlace n x y M = some (1, M) := by
  have z1 : (12 : Int32) ≤ x ↔ 11 < x := by
    simp only [fa_lt, fa_le, lt_lit (show 12 < 2 ^ 31 by decide), lt_lit (show 11 < 2 ^ 31 by decide)]
    omega
  have z2 : (8 : Int32) ≤ y ↔ 7 < y := by
    simp only [fa_lt, fa_le, lt_lit (show 8 < 2 ^ 31 by decide), lt_lit (show 7 < 2 ^ 31 by decide)]
    omega
  by_cases h : x < 0 ∨ 11 < x ∨ y < 0 ∨ 7 < y
  · refine Or.inl fun n M => ⟨?_, by rw [isPlace_e, if_pos h]⟩
    unfold f11_placeAt b11_placeAt_0 b11_placeAt_24 b11_placeAt_25
    rw [if_pos rfl, if_neg (show ¬ (1 : Int32) = 0 by decide)]
    by_cases c1 : x < 0
    · rw [if_pos c1]
    · by_cases c2 : 11 < x
      · rw [if_neg c1, if_pos (z1.mpr c2)]
      · by_cases c3 : y < 0
        · rw [if_neg c1, if_neg (fun e => c2 (z1.mp e)), if_pos c3]
        · by_cases c4 : 7 < y
          · rw [if_neg c1, if_neg (fun e => c2 (z1.mp e)), if_neg c3, if_pos (z2.mpr c4)]
          · exact absurd h (by simp [c1, c2, c3, c4])
  · have c1 : ¬ x < 0 := fun e => h (Or.inl e)
    have c2 : ¬ 11 < x := fun e => h (Or.inr (Or.inl e))
    have c3 : ¬ y < 0 := fun e => h (Or.inr (Or.inr (Or.inl e)))
    have c4 : ¬ 7 < y := fun e => h (Or.inr (Or.inr (Or.inr e)))
    obtain ⟨a, ha, rfl⟩ := nI_of c1
    obtain ⟨b, hb, rfl⟩ := nI_of c3
    have c2' := c2
    have c4' := c4
    rw [show (11 : Int32) = nI 11 from rfl, nI_ltI (by decide) ha] at c2
    rw [show (7 : Int32) = nI 7 from rfl, nI_ltI (by decide) hb] at c4
    have e : (12 : Int32) * nI b + nI a = nI (12 * b + a) := by rw [show (12 : Int32) = nI 12 from rfl, pk_mul, nI_add]
    refine Or.inr ⟨12 * b + a, by omega, e, fun n M => ⟨?_, by rw [isPlace_e, if_neg h]⟩⟩
    unfold f11_placeAt b11_placeAt_0 b11_placeAt_25
    rw [if_neg c1, if_neg (fun e => c2' (z1.mp e)), if_neg c3, if_neg (fun e => c4' (z2.mp e)), if_neg (show ¬ (1 : Int32) = 0 by decide), e]
/-- PROMISE 2: square -/
theorem st_square {Lw : Mem → Mem → Prop} (hL : LwOk Lw) {FU : Nat} (hFU : 10000000 ≤ FU) (t : Nat) (Mx My : Mem) (a0 a1 : Int32) (ht : t < 3072) (h : Inv Lw t Mx My) : ∃ (r : Int32) (Mx' My' : Mem), f11_square FU a0 a1 Mx = some (r, Mx') ∧ f12_square FU a0 a1 My = some (r, My') ∧ Inv Lw (t + 6) Mx' My' := by
  have h0 := h
  obtain ⟨⟨⟨sq, kd, dr, h1⟩, h2⟩, h3, h4, h5⟩ := h
  rcases place_XY a0 a1 with g | ⟨p, hp, e, g⟩
  · refine ⟨0, Mx, My, ?_, ?_, h0.same hL⟩
    · unfold f11_square b11_square_0
      rw [bnd_e (g FU Mx).1, if_pos rfl]
    · unfold f12_square b12_square_0
      rw [bnd_e (g FU My).2, if_pos rfl]
  · obtain ⟨b1, b2, b3, b4, b5, c, d1, d2, d3⟩ := h1
    have hT : TX p kd (wI Mx 3 7 (nI p)) := ⟨hp, by rw [wI_at, if_pos rfl, if_pos rfl], fun q hq => by rw [wI_at, if_neg (by decide)]; exact b1.2.2 q hq⟩
    obtain ⟨M1, e1, r1, r2⟩ := refresh_X (n := FU) (dr := dr) (by omega) hT (by rw [wI_at, if_neg (by decide)]; exact b4.1 9 (by decide) (by decide))
    have x : f11_square FU a0 a1 Mx = some (1, M1) := by
      unfold f11_square b11_square_0
      rw [bnd_e (g FU Mx).1, if_neg (nI_m1 (by omega)), lt_v, bnd_e e1]
    have y : f12_square FU a0 a1 My = some (1, wI (wI My 0 5 (nI p)) 0 9 0) := by
      unfold f12_square b12_square_0
      rw [bnd_e (g FU My).2, if_neg (by decide), lt_v, lt_v, e]
    have fx := fr11_square x
    have qx := fq11_square x
    have fy := fr12_square y
    have qy := fq12_square y
    have fr := fr8_refresh e1
    have qr := fq8_refresh e1
    refine ⟨1, M1, _, x, y, Inv.town hL (sq := p) (kd := kd) (dr := dr) ⟨?_, ⟨⟨hp, ?_, ?_⟩, Or.inl ?_⟩, r1, ⟨?_, ?_⟩, ?_, ?_⟩ h2 ?_ h4 h5 (QXr.of fx (by decide)) (QY.of fy qy (by decide) (by decide))⟩
    · exact hT.keep (qr 3 7 (by decide) (by decide)) (fr 4 (by decide) (fun e => by cases e)).1
    · rw [wI_at, if_pos rfl, if_neg (by decide), wI_at, if_pos rfl, if_pos rfl]
    · intro q hq
      rw [(fy 4 (by decide) (fun e => by cases e)).1]
      exact b2.1.2.2 q hq
    · rw [wI_at, if_pos rfl, if_pos rfl]
    · intro k k1 k2
      rw [(fx 6 (by decide) (fun e => by cases e)).1]
      exact b4.1 k k1 k2
    · rw [qx 3 8 (by decide) (by decide)]
      exact b4.2
    · intro k k1 k2
      rw [(fy 5 (by decide) (fun e => by cases e)).1]
      exact b5 k k1 k2
    · refine ⟨c + 1, by omega, by rw [r2, wI_at, if_pos rfl, if_neg (by decide), d2, nI_1], ?_⟩
      rw [(fx 326 (by decide) (fun e => by cases e)).1]
      exact d3.imp id (fun ⟨a, q1, q2, q3⟩ => ⟨a, by omega, q2, fun e => by omega⟩)
    · exact h3.keep (by rw [(fx 1 (by decide) (fun e => by cases e)).1]) (fx 2 (by decide) (fun e => by cases e)).1 (qy 0 11 (by decide) (by decide)) (fy 8 (by decide) (fun e => by cases e)).1
/-- PROMISE 3: door -/
theorem st_door {Lw : Mem → Mem → Prop} (hL : LwOk Lw) {FU : Nat} (hFU : 10000000 ≤ FU) (t : Nat) (Mx My : Mem) (a0 a1 a2 : Int32) (ht : t < 3072) (h : Inv Lw t Mx My) : ∃ (r : Int32) (Mx' My' : Mem), f11_door FU a0 a1 a2 Mx = some (r, Mx') ∧ f12_door FU a0 a1 a2 My = some (r, My') ∧ Inv Lw (t + 6) Mx' My' := by
  have h0 := h
  obtain ⟨⟨⟨sq, kd, dr, h1⟩, h2⟩, h3, h4, h5⟩ := h
  rcases place_XY a1 a2 with g | ⟨p, hp, e, g⟩
  · refine ⟨0, Mx, My, ?_, ?_, h0.same hL⟩
    · unfold f11_door b11_door_0 b11_door_24
      rw [bnd_e (g FU Mx).1, if_pos rfl]
    · unfold f12_door b12_door_0 b12_door_18
      rw [in_e, bnd_s']
      by_cases c : a0 < 1 ∨ 9 < a0
      · rw [if_pos c, if_pos rfl]
      · rw [if_neg c, if_neg (by decide), bnd_e (g FU My).2, if_pos rfl]
  · by_cases c : a0 < 1 ∨ 9 < a0
    · refine ⟨0, Mx, My, ?_, ?_, h0.same hL⟩
      · unfold f11_door b11_door_0 b11_door_24
        rw [bnd_e (g FU Mx).1, if_neg (nI_m1 (by omega))]
        by_cases c1 : a0 < 1
        · rw [if_pos c1]
        · rw [if_neg c1, if_neg (Int32.not_le.mpr (c.resolve_left c1))]
      · unfold f12_door b12_door_0 b12_door_18
        rw [in_e, bnd_s', if_pos c, if_pos rfl]
    · obtain ⟨b1, b2, b3, b4, b5, cc, d1, d2, d3⟩ := h1
      have c1 : ¬ a0 < 1 := fun e => c (Or.inl e)
      have c2 : ¬ 9 < a0 := fun e => c (Or.inr e)
      obtain ⟨k, hk1, hk2, rfl⟩ : ∃ k : Nat, 1 ≤ k ∧ k ≤ 9 ∧ a0 = nI k := by
        have c0 : ¬ a0 < 0 := fun e => c1 (Int32.lt_trans e (by decide))
        obtain ⟨k, hk, rfl⟩ := nI_of c0
        refine ⟨k, ?_, ?_, rfl⟩
        · refine Nat.le_of_not_lt fun e => c1 ?_
          exact nI_lt (b := 1) e (by decide)
        · refine Nat.le_of_not_lt fun e => c2 ?_
          exact nI_lt (a := 9) e hk
      obtain ⟨w, w1, w2, w3⟩ := b4.2
      have hT : TX sq kd (wI (wI Mx 6 k (nI p)) 3 8 (nI (w ||| 2 ^ k))) := b1.keep rfl rfl
      obtain ⟨M1, e1, r1, r2⟩ := refresh_X (n := FU) (dr := up dr k p) (by omega) hT (by
        simp only [wI_at]
        rw [if_neg (by decide)]
        simp only [if_true]
        by_cases e : 9 = k
        · rw [if_pos e, e, up_eq, dI, if_pos hp]
        · rw [if_neg e, up_ne e]; exact b4.1 9 (by decide) (by decide))
      have sh : (1 : Int32) <<< (nI k &&& 31) = nI (2 ^ k) := by
        rw [show (1 : Int32) = nI 1 from rfl, pk_shlN _ k (s_l k (by omega)) (by rw [Nat.one_mul]; exact Nat.lt_of_le_of_lt (Nat.pow_le_pow_right (by decide) hk2) (by decide)), Nat.one_mul]
      have x : f11_door FU (nI k) a1 a2 Mx = some (1, M1) := by
        unfold f11_door b11_door_0
        rw [bnd_e (g FU Mx).1, if_neg (nI_m1 (by omega)), if_neg c1, if_pos (Int32.not_lt.mp c2), chk_in (by omega) (by decide), lt_v, lt_v, nI_clamp (by omega), sh, show (wI Mx 6 k (nI p)).1 3 8 = nI w from w2, fa_or, bnd_e e1]
      have y : f12_door FU (nI k) a1 a2 My = some (1, wI My 5 k (nI p)) := by
        unfold f12_door b12_door_0
        rw [in_e, bnd_s', if_neg c, if_neg (by decide), bnd_e (g FU My).2, if_neg (by decide), chk_in (by omega) (by decide), lt_v, nI_clamp (by omega), e]
      have fx := fr11_door x
      have qx := fq11_door x
      have fy := fr12_door y
      have qy := fq12_door y
      have fr := fr8_refresh e1
      have qr := fq8_refresh e1
      refine ⟨1, M1, _, x, y, Inv.town hL (sq := sq) (kd := kd) (dr := up dr k p) ⟨?_, ?_, r1, ⟨?_, ?_⟩, ?_, ?_⟩ h2 ?_ h4 h5 (QXr.of fx (by decide)) (QY.of fy qy (by decide) (by decide))⟩
      · exact hT.keep (qr 3 7 (by decide) (by decide)) (fr 4 (by decide) (fun e => by cases e)).1
      · exact ⟨b2.1.keep rfl rfl, b2.2⟩
      · intro j j1 j2
        rw [(fr 6 (by decide) (fun e => by cases e)).1]
        simp only [wI_at]
        rw [if_neg (by decide)]
        simp only [if_true]
        by_cases e : j = k
        · rw [if_pos e, e, up_eq, dI, if_pos hp]
        · rw [if_neg e, up_ne e]; exact b4.1 j j1 j2
      · refine ⟨w ||| 2 ^ k, Nat.or_lt_two_pow (n := 10) w1 (Nat.lt_of_le_of_lt (Nat.pow_le_pow_right (by decide) hk2) (by decide)), ?_, fun i => ?_⟩
        · rw [qr 3 8 (by decide) (by decide), wI_at, if_pos rfl, if_pos rfl]
        · rw [fb_bit_set, w3 i]
          by_cases e : i = k
          · subst e
            rw [up_eq]
            simp [hp, hk1, hk2]
          · rw [up_ne e]
            simp [e]
      · intro j j1 j2
        rw [wI_at, if_pos rfl]
        by_cases e : j = k
        · rw [if_pos e, e, up_eq, dI, if_pos hp]
        · rw [if_neg e, up_ne e]; exact b5 j j1 j2
      · refine ⟨cc + 1, by omega, by rw [r2]; show Mx.1 3 9 + 1 = _; rw [d2, nI_1], ?_⟩
        rw [(fx 326 (by decide) (fun e => by cases e)).1]
        exact d3.imp id (fun ⟨a, q1, q2, q3⟩ => ⟨a, by omega, q2, fun e => by omega⟩)
      · exact h3.keep (by rw [(fx 1 (by decide) (fun e => by cases e)).1]) (fx 2 (by decide) (fun e => by cases e)).1 (qy 0 11 (by decide) (by decide)) (fy 8 (by decide) (fun e => by cases e)).1
/-- PROMISE 16: far -/
theorem min_e (n : Nat) (a b : Int32) (M : Mem) : f12_min n a b M = some (if a < b then a else b, M) := by
  unfold f12_min b12_min_0
  by_cases h : a < b
  · rw [if_pos h, if_neg (Int32.not_le.mpr h)]
  · rw [if_neg h, if_pos (Int32.not_lt.mp h)]
theorem far_loop {sq m : Nat} {kd : Nat → Nat} {Mx : Mem} (hs : sq < 96) (hh : ∀ p, p < 96 → Mx.1 7 p = nI (ds (opn sq kd) sq p)) : ∀ (d i a n : Nat) (M : Mem), i + d = 96 → d + 100000 < n → YT sq kd M → ∃ r M', r11_far n 24 [(if (30 : Int32) < nI m then (30 : Int32) else nI m), nI a, nI i] [] Mx = some (r, Mx) ∧ r12_far n 16 [nI m, nI a, nI i] [] M = some (r, M') ∧ YT sq kd M' := by
  intro d
  induction d with
  | zero =>
    intro i a n M h1 h2 hY
    obtain ⟨n, rfl⟩ : ∃ n', n = n' + 1 := ⟨n - 1, by omega⟩
    have : i = 96 := by omega
    subst this
    rw [e11_far_24, e12_far_16]
    unfold b11_far_24 b12_far_16
    rw [if_pos (by decide), if_pos (by decide)]
    exact ⟨_, M, rfl, rfl, hY⟩
  | succ d ih =>
    intro i a n M h1 h2 hY
    obtain ⟨n, rfl⟩ : ∃ n', n = n' + 1 := ⟨n - 1, by omega⟩
    rw [e11_far_24, e12_far_16]
    unfold b11_far_24 b12_far_16 b11_far_48 b12_far_44
    obtain ⟨M1, g1, g2, g3⟩ := steps_Y (n := n) (p := sq) (q := i) (by omega) hY hs (by omega)
    rw [if_neg (show ¬ (96 : Int32) ≤ nI i from nI_ge (b := 96) (by omega) (by decide)), if_neg (show ¬ (96 : Int32) ≤ nI i from nI_ge (b := 96) (by omega) (by decide)), chk_in (by omega) (by decide), nI_clamp (by omega), hh i (by omega), hY.1.2.1, bnd_e g1, min_e, bnd_s']
    have em : (if nI m < (30 : Int32) then nI m else (30 : Int32)) = (if (30 : Int32) < nI m then (30 : Int32) else nI m) := by
      by_cases c1 : nI m < 30
      · rw [if_pos c1, if_neg (Int32.lt_asymm c1)]
      · by_cases c2 : 30 < nI m
        · rw [if_neg c1, if_pos c2]
        · rw [if_neg c1, if_neg c2]
          exact Int32.le_antisymm (Int32.not_lt.mp c1) (Int32.not_lt.mp c2)
    rw [em]
    by_cases c : (if (30 : Int32) < nI m then (30 : Int32) else nI m) < nI (ds (opn sq kd) sq i)
    · rw [if_pos c, if_pos c, lt_v, lt_v, nI_1]
      exact ih (i + 1) a n M1 (by omega) (by omega) g3
    · rw [if_neg c, if_neg c, lt_v, lt_v, lt_v, lt_v, nI_1, nI_1]
      exact ih (i + 1) (a + 1) n M1 (by omega) (by omega) g3
theorem st_far {Lw : Mem → Mem → Prop} (hL : LwOk Lw) {FU : Nat} (hFU : 10000000 ≤ FU) (t : Nat) (Mx My : Mem) (a0 : Int32) (ht : t < 3072) (h : Inv Lw t Mx My) : ∃ (r : Int32) (Mx' My' : Mem), f11_far FU a0 Mx = some (r, Mx') ∧ f12_far FU a0 My = some (r, My') ∧ Inv Lw (t + 6) Mx' My' := by
  have h0 := h
  obtain ⟨⟨⟨sq, kd, dr, h1⟩, h2⟩, h3, h4, h5⟩ := h
  by_cases c : a0 < 0 ∨ 60 < a0
  · refine ⟨-1, Mx, My, ?_, ?_, h0.same hL⟩
    · unfold f11_far b11_far_0 b11_far_10
      by_cases c1 : a0 < 0
      · rw [if_pos c1]
      · rw [if_neg c1, if_neg (Int32.not_le.mpr (c.resolve_left c1))]
    · unfold f12_far b12_far_0
      rw [in_e, bnd_s', if_pos c, if_pos rfl]
  · have c1 : ¬ a0 < 0 := fun e => c (Or.inl e)
    have c2 : ¬ 60 < a0 := fun e => c (Or.inr e)
    obtain ⟨m, hm, rfl⟩ := nI_of c1
    obtain ⟨r, M', x, y, hY⟩ := far_loop (sq := sq) (kd := kd) (m := m) h1.1.1 h1.2.2.1.2.1 96 0 0 (FU + 1) My (by omega) (by omega) h1.2.1
    rw [nI_0, e11_far_24] at x
    rw [nI_0, e12_far_16] at y
    have x : f11_far FU (nI m) Mx = some (r, Mx) := by
      unfold f11_far b11_far_0
      rw [if_neg c1, if_pos (Int32.not_lt.mp c2), lt_v]
      exact x
    have y : f12_far FU (nI m) My = some (r, M') := by
      unfold f12_far b12_far_0
      rw [in_e, bnd_s', if_neg c, if_neg (by decide)]
      exact y
    have fy := fr12_far y
    have qy := fq12_far y
    exact ⟨r, Mx, M', x, y, Inv.ask hL h1 h2 (h3.keep rfl rfl (qy 0 11 (by decide) (by decide)) (fy 8 (by decide) (fun e => by cases e)).1) h4 h5 QXt.refl h1.2.2.1.1 QXr.refl (QY.of fy qy (by decide) (by decide)) hY (fy 5 (by decide) (fun e => by cases e)).1⟩
/-- PROMISE 10: placeIs -/
theorem nine_Y {sq n : Nat} {kd dr : Nat → Nat} {M : Mem} {p : Nat} (hn : 100000 ≤ n) (hY : YT sq kd M) (hp : p < 96) (hd : M.1 5 9 = dI (dr 9)) : ∃ M', f12_toDoorNine n (nI p) M = some (nI (t9 (opn sq kd) dr p), M') ∧ Sm M M' ∧ YT sq kd M' := by
  unfold f12_toDoorNine b12_toDoorNine_0 t9
  rw [chk_t (by decide), show (9 : Int32).toNatClampNeg = 9 by decide, hd, dI]
  by_cases c : dr 9 < 96
  · rw [if_pos c, if_neg (nI_m1 (by omega)), chk_t (by decide), if_pos c]
    obtain ⟨M1, g1, g2, g3⟩ := steps_Y (n := n) (p := p) (q := dr 9) hn hY hp c
    rw [bnd_e g1, ds_symm _ hp c]
    exact ⟨M1, rfl, g2, g3⟩
  · rw [if_neg c, if_pos rfl, if_neg c]
    exact ⟨M, rfl, Sm.refl, hY⟩
theorem st_placeIs {Lw : Mem → Mem → Prop} (hL : LwOk Lw) {FU : Nat} (hFU : 10000000 ≤ FU) (t : Nat) (Mx My : Mem) (a0 a1 a2 : Int32) (ht : t < 3072) (h : Inv Lw t Mx My) : ∃ (r : Int32) (Mx' My' : Mem), f11_placeIs FU a0 a1 a2 Mx = some (r, Mx') ∧ f12_placeIs FU a0 a1 a2 My = some (r, My') ∧ Inv Lw (t + 6) Mx' My' := by
  have h0 := h
  obtain ⟨⟨⟨sq, kd, dr, h1⟩, h2⟩, h3, h4, h5⟩ := h
  rcases place_XY a0 a1 with g | ⟨p, hp, e, g⟩
  · refine ⟨-1, Mx, My, ?_, ?_, h0.same hL⟩
    · unfold f11_placeIs b11_placeIs_0
      rw [bnd_e (g FU Mx).1, if_pos rfl]
    · unfold f12_placeIs b12_placeIs_0
      rw [bnd_e (g FU My).2, if_pos rfl]
  · have key : ∃ r M', f11_placeIs FU a0 a1 a2 Mx = some (r, Mx) ∧ f12_placeIs FU a0 a1 a2 My = some (r, M') ∧ YT sq kd M' := by
      unfold f11_placeIs b11_placeIs_0 f12_placeIs b12_placeIs_0
      rw [bnd_e (g FU Mx).1, bnd_e (g FU My).2, if_neg (nI_m1 (by omega)), if_neg (show ¬ (1 : Int32) = 0 by decide), lt_v, e]
      by_cases c0 : a2 = 0
      · rw [if_pos c0, if_pos c0, bnd_e (kindOf_X h1.1 hp), bnd_e (isOpen_Y h1.2.1.1 hp)]
        by_cases ho : opn sq kd p = true
        · rw [if_pos ho, if_neg (show ¬ (1 : Int32) = 0 by decide)]
          have : kof sq kd p = 2 := by simpa [opn] using ho
          rw [this]
          exact ⟨_, My, rfl, rfl, h1.2.1⟩
        · rw [if_neg ho, if_pos rfl, chk_in hp (by decide), nI_clamp (by omega), (h1.2.1.1.2.2 p hp).1]
          have : kof sq kd p = kd p := by
            unfold opn at ho
            unfold kof at ho ⊢
            by_cases q : p = sq
            · rw [if_pos q] at ho; simp at ho
            · rw [if_neg q]
          rw [this]
          exact ⟨_, My, rfl, rfl, h1.2.1⟩
      · rw [if_neg c0, if_neg c0]
        by_cases c1 : a2 = 1
        · rw [if_pos c1, if_pos c1, Int32.zero_add, chk_in hp (by decide), chk_in (by omega) (by decide), nI_clamp (by omega), ← h5.1.1 p hp]
          exact ⟨_, My, rfl, rfl, h1.2.1⟩
        · rw [if_neg c1, if_neg c1]
          by_cases c2 : a2 = 2
          · obtain ⟨M1, g1, g2, g3⟩ := steps_Y (n := FU) (p := p) (q := sq) (by omega) h1.2.1 hp h1.1.1
            rw [if_pos c2, if_pos c2, h1.2.1.1.2.1, bnd_e g1, chk_in hp (by decide), nI_clamp (by omega), h1.2.2.1.2.1 p hp, ds_symm _ hp h1.1.1]
            exact ⟨_, M1, rfl, rfl, g3⟩
          · rw [if_neg c2, if_neg c2]
            by_cases c3 : a2 = 3
            · obtain ⟨M1, g1, g2, g3⟩ := nine_Y (n := FU) (dr := dr) (by omega) h1.2.1 hp (h1.2.2.2.2.1 9 (by decide) (by decide))
              rw [if_pos c3, if_pos c3, bnd_e g1, chk_in hp (by decide), nI_clamp (by omega), h1.2.2.1.2.2 p hp]
              exact ⟨_, M1, rfl, rfl, g3⟩
            · rw [if_neg c3, if_neg c3]
              by_cases c4 : a2 = 4
              · rw [if_pos c4, if_pos c4, bnd_e (openBeside_X (by omega) h1.1 hp), bnd_e (neighbours_Y (by omega) h1.2.1.1 hp)]
                exact ⟨_, My, rfl, rfl, h1.2.1⟩
              · rw [if_neg c4, if_neg c4]
                exact ⟨_, My, rfl, rfl, h1.2.1⟩
    obtain ⟨r, M', x, y, hY⟩ := key
    have fy := fr12_placeIs y
    have qy := fq12_placeIs y
    exact ⟨r, Mx, M', x, y, Inv.ask hL h1 h2 (h3.keep rfl rfl (qy 0 11 (by decide) (by decide)) (fy 8 (by decide) (fun e => by cases e)).1) h4 h5 QXt.refl h1.2.2.1.1 QXr.refl (QY.of fy qy (by decide) (by decide)) hY (fy 5 (by decide) (fun e => by cases e)).1⟩
