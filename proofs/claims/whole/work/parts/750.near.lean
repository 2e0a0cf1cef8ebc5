/-! BENCHES: what is near -/
noncomputable def nearS (O : Nat → Bool) (wn : Nat → Bool) (p q : Nat) : Bool := decide (ds O p q ≤ 2) && wn q
theorem ds0_meet {O : Nat → Bool} {p q : Nat} (hp : p < 96) (hq : q < 96) : (decide (q = p) && O q) = decide (ds O p q ≤ 0) := by
  by_cases ho : O p = true
  · have := ds_zero hp hq ho
    rw [Bool.eq_iff_iff]
    simp only [Bool.and_eq_true, decide_eq_true_eq, this]
    exact ⟨fun e => e.1, fun e => ⟨e, by rw [e]; exact ho⟩⟩
  · have e : ds O p q = 99 := Decidable.byContradiction fun e => ho (wk_fst (ds_wk hp hq e)).2
    rw [e]
    by_cases c : q = p
    · rw [c, ts_nt ho]; simp
    · simp [c]
theorem look_mark {w : Nat → Nat} (hw : ∀ q, q < 96 → w q ≤ 9999) : ∀ (d i n : Nat) (M : Mem), i + d = 96 → d + 10 < n → (∀ q, q < 96 → M.1 331 q = nI (w q)) → PS 33 (fun q => decide (q < i) && decide (0 < w q)) M → ∃ n' M', n ≤ n' + d + 1 ∧ r6_lookAround n 9 [nI i] [] M = b6_lookAround_43 (r6_lookAround n') n' 0 M' ∧ PS 33 (fun q => decide (0 < w q)) M' ∧ ∀ k, k ≠ 33 → M'.1 k = M.1 k ∧ M'.2 k = M.2 k := by
  intro d
  induction d with
  | zero =>
    intro i n M h1 h2 hx hP
    obtain ⟨n, rfl⟩ : ∃ n', n = n' + 1 := ⟨n - 1, by omega⟩
    have : i = 96 := by omega
    subst this
    rw [e6_lookAround_9]
    unfold b6_lookAround_9 b6_lookAround_41
    rw [if_pos (by decide)]
    exact ⟨n, M, by omega, rfl, hP.cong fun p hp => by simp [hp], fun _ _ => ⟨rfl, rfl⟩⟩
  | succ d ih =>
    intro i n M h1 h2 hx hP
    obtain ⟨n, rfl⟩ : ∃ n', n = n' + 1 := ⟨n - 1, by omega⟩
    have hi : i < 96 := by omega
    have hwi := hw i hi
    rw [e6_lookAround_9]
    unfold b6_lookAround_9 b6_lookAround_35
    rw [if_neg (show ¬ (96 : Int32) ≤ nI i from nI_ge (b := 96) (by omega) (by decide)), if_neg (show ¬ (96 : Int32) ≤ nI i from nI_ge (b := 96) (by omega) (by decide)), chk_in hi (by decide), nI_clamp (by omega), show (330 + 1 : Nat) = 331 from rfl, hx i hi]
    by_cases c : 0 < w i
    · rw [if_neg (nI_nle c (by omega))]
      obtain ⟨M1, e1, p1⟩ := add_X (n := n) hP hi
      have f1 := fr4_add e1
      rw [bnd_e e1, lt_v, nI_1]
      obtain ⟨n', M', a1, a2, a3, a4⟩ := ih (i + 1) n M1 (by omega) (by omega) (fun q hq => by rw [(f1 331 (by decide) (fun e => by cases e)).1]; exact hx q hq) (p1.cong fun p hp => by
        by_cases e : p = i
        · subst e; simp [c]
        · simp only [e, decide_false, Bool.or_false]
          congr 1
          exact decide_eq_decide.mpr (by omega))
      exact ⟨n', M', by omega, a2, a3, fun k hk => ⟨(a4 k hk).1.trans (f1 k (by simpa using hk) (fun e => by cases e)).1, (a4 k hk).2.trans (f1 k (by simpa using hk) (fun e => by cases e)).2⟩⟩
    · rw [if_pos (show nI (w i) ≤ 0 by rw [show w i = 0 by omega]; decide), lt_v, nI_1]
      obtain ⟨n', M', a1, a2, a3, a4⟩ := ih (i + 1) n M (by omega) (by omega) hx (hP.cong fun p hp => by
        by_cases e : p = i
        · subst e; simp [c]
        · congr 1
          exact decide_eq_decide.mpr (by omega))
      exact ⟨n', M', by omega, a2, a3, a4⟩
theorem look_one {n i : Nat} {O wn : Nat → Bool} {M : Mem} (hn : 5 ≤ n) (hi : i < 96) (hO : PS 10 O M) (hW : PS 33 wn M) : ∃ n' M', n' + 3 = n + 1 ∧ (bnd (f4_clear n (35 + i) M) fun _ M18 => bnd (f4_add n (35 + i) (nI i) M18) fun _ M22 => b6_lookAround_70 (r6_lookAround n) n (nI i) 0 M22) = r6_lookAround n' 43 [nI (i + 1)] [] M' ∧ PS (35 + i) (nearS O wn i) M' ∧ ∀ k, k ≠ 35 + i → M'.1 k = M.1 k ∧ M'.2 k = M.2 k := by
  have ck : ∀ {α : Type} (k : Option α), chk (inb (nI i) 96) k = k := fun k => chk_in hi (by decide)
  have nk : ∀ k, k ≠ 35 + i → k ∉ [35 + i] := fun k hk => by simpa using hk
  have h10 : (10 : Nat) ≠ 35 + i := by omega
  have h33 : (33 : Nat) ≠ 35 + i := by omega
  obtain ⟨M1, e1, p1⟩ := clear_X (n := n) (k := 35 + i) M
  have f1 := fr4_clear e1
  obtain ⟨M2, e2, p2⟩ := add_X (n := n) p1 hi
  have f2 := fr4_add e2
  have o2 : PS 10 O M2 := (hO.keep (f1 10 (nk _ h10) (fun e => by cases e)).2).keep (f2 10 (nk _ h10) (fun e => by cases e)).2
  have w2 : PS 33 wn M2 := (hW.keep (f1 33 (nk _ h33) (fun e => by cases e)).2).keep (f2 33 (nk _ h33) (fun e => by cases e)).2
  obtain ⟨n, rfl⟩ : ∃ n', n = n' + 1 := ⟨n - 1, by omega⟩
  obtain ⟨n, rfl⟩ : ∃ n', n = n' + 1 := ⟨n - 1, by omega⟩
  -- first round
  obtain ⟨M3, e3, p3⟩ := meet_X (n := n + 1 + 1) p2 o2 (fun e => h10 e.symm)
  have f3 := fr4_meet e3
  have o3 := o2.keep (f3 10 (nk _ h10) (fun e => by cases e)).2
  have w3 := w2.keep (f3 33 (nk _ h33) (fun e => by cases e)).2
  have p3 : PS (35 + i) (fun q => decide (ds O i q ≤ 0)) M3 := p3.cong fun q hq => by rw [← ds0_meet hi hq]; simp
  obtain ⟨M4, e4, p4⟩ := grow_X (n := n + 1 + 1) p3
  have f4 := fr4_grow e4
  have o4 := o3.keep (f4 10 (nk _ h10) (fun e => by cases e)).2
  have w4 := w3.keep (f4 33 (nk _ h33) (fun e => by cases e)).2
  -- second round
  obtain ⟨M5, e5, p5⟩ := meet_X (n := n + 1) p4 o4 (fun e => h10 e.symm)
  have f5 := fr4_meet e5
  have o5 := o4.keep (f5 10 (nk _ h10) (fun e => by cases e)).2
  have w5 := w4.keep (f5 33 (nk _ h33) (fun e => by cases e)).2
  have p5 : PS (35 + i) (fun q => decide (ds O i q ≤ 0 + 1)) M5 := p5.cong fun q hq => gr_ds hi hq (by decide)
  obtain ⟨M6, e6, p6⟩ := grow_X (n := n + 1) p5
  have f6 := fr4_grow e6
  have o6 := o5.keep (f6 10 (nk _ h10) (fun e => by cases e)).2
  have w6 := w5.keep (f6 33 (nk _ h33) (fun e => by cases e)).2
  -- the end
  obtain ⟨M7, e7, p7⟩ := meet_X (n := n) p6 o6 (fun e => h10 e.symm)
  have f7 := fr4_meet e7
  have w7 := w6.keep (f7 33 (nk _ h33) (fun e => by cases e)).2
  have p7 : PS (35 + i) (fun q => decide (ds O i q ≤ 0 + 1 + 1)) M7 := p7.cong fun q hq => gr_ds hi hq (by decide)
  obtain ⟨M8, e8, p8⟩ := meet_X (n := n) p7 w7 (fun e => h33 e.symm)
  have f8 := fr4_meet e8
  refine ⟨n, M8, by omega, ?_, p8, fun k hk => ?_⟩
  · rw [bnd_e e1, bnd_e e2]
    unfold b6_lookAround_70
    rw [if_neg (by decide), ck, nI_clamp (by omega), bnd_e e3, ck, bnd_e e4, lt_v, show (0 : Int32) + 1 = 1 by decide, e6_lookAround_70]
    unfold b6_lookAround_70
    rw [if_neg (by decide), ck, nI_clamp (by omega), bnd_e e5, ck, bnd_e e6, lt_v, show (1 : Int32) + 1 = 2 by decide, e6_lookAround_70]
    unfold b6_lookAround_70
    rw [if_pos (by decide), ck, nI_clamp (by omega), bnd_e e7, ck, bnd_e e8, lt_v, nI_1]
  · have nl : ∀ (M M' : Mem), Fr [35 + i] false M M' → M'.1 k = M.1 k ∧ M'.2 k = M.2 k := fun M M' f => f k (nk k hk) (fun e => by cases e)
    exact ⟨(nl _ _ f8).1.trans ((nl _ _ f7).1.trans ((nl _ _ f6).1.trans ((nl _ _ f5).1.trans ((nl _ _ f4).1.trans ((nl _ _ f3).1.trans ((nl _ _ f2).1.trans (nl _ _ f1).1)))))), (nl _ _ f8).2.trans ((nl _ _ f7).2.trans ((nl _ _ f6).2.trans ((nl _ _ f5).2.trans ((nl _ _ f4).2.trans ((nl _ _ f3).2.trans ((nl _ _ f2).2.trans (nl _ _ f1).2))))))⟩
theorem look_loop {O wn : Nat → Bool} (M0 : Mem) : ∀ (d i n : Nat) (M : Mem), i + d = 96 → 4 * d + 10 < n → PS 10 O M → PS 33 wn M → (∀ p, p < i → PS (35 + p) (nearS O wn p) M) → (∀ k, (k < 35 ∨ 131 ≤ k) → M.1 k = M0.1 k) → ∃ M', r6_lookAround n 43 [nI i] [] M = some ((), M') ∧ PS 10 O M' ∧ (∀ p, p < 96 → PS (35 + p) (nearS O wn p) M') ∧ (M'.1 27 8 = -2 ∧ M'.1 27 9 = -2 ∧ M'.1 27 10 = 0) ∧ ∀ k, (k < 35 ∨ 131 ≤ k) → k ≠ 27 → M'.1 k = M0.1 k := by
  intro d
  induction d with
  | zero =>
    intro i n M h1 h2 hO hW hN hk
    obtain ⟨n, rfl⟩ : ∃ n', n = n' + 1 := ⟨n - 1, by omega⟩
    have : i = 96 := by omega
    subst this
    rw [e6_lookAround_43]
    unfold b6_lookAround_43
    rw [if_pos (by decide), lt_v, lt_v, lt_v]
    refine ⟨_, rfl, hO, fun p hp => hN p hp, ⟨rfl, rfl, rfl⟩, fun k h1 h2 => ?_⟩
    rw [(wI_o k h2).1, (wI_o k h2).1, (wI_o k h2).1]
    exact hk k h1
  | succ d ih =>
    intro i n M h1 h2 hO hW hN hk
    obtain ⟨n, rfl⟩ : ∃ n', n = n' + 1 := ⟨n - 1, by omega⟩
    have hi : i < 96 := by omega
    rw [e6_lookAround_43]
    unfold b6_lookAround_43
    obtain ⟨n', M1, a1, a2, a3, a4⟩ := look_one (n := n) (by omega) hi hO hW
    rw [if_neg (show ¬ (96 : Int32) ≤ nI i from nI_ge (b := 96) (by omega) (by decide)), chk_in hi (by decide), nI_clamp (by omega)]
    have ck : ∀ {α : Type} (k : Option α), chk (inb (nI i) 96) k = k := fun k => chk_in hi (by decide)
    simp only [ck]
    rw [a2]
    refine ih (i + 1) n' M1 (by omega) (by omega) (hO.keep (a4 10 (by omega)).2) (hW.keep (a4 33 (by omega)).2) (fun p hp => ?_) (fun k hk2 => by rw [(a4 k (by omega)).1]; exact hk k hk2)
    by_cases e : p = i
    · subst e; exact a3
    · exact (hN p (by omega)).keep (a4 _ (by omega)).2
theorem look_X {n : Nat} {O : Nat → Bool} {w : Nat → Nat} {M : Mem} (hn : 2000 ≤ n) (hw : ∀ q, q < 96 → w q ≤ 9999) (hO : PS 10 O M) (hx : ∀ q, q < 96 → M.1 331 q = nI (w q)) : ∃ M', f6_lookAround n M = some ((), M') ∧ PS 10 O M' ∧ (∀ p, p < 96 → PS (35 + p) (nearS O (fun q => decide (0 < w q)) p) M') ∧ (M'.1 27 8 = -2 ∧ M'.1 27 9 = -2 ∧ M'.1 27 10 = 0) ∧ ∀ k, (k < 33 ∨ 131 ≤ k) → k ≠ 27 → M'.1 k = M.1 k := by
  unfold f6_lookAround b6_lookAround_0
  obtain ⟨M1, e1, p1⟩ := clear_X (n := n) (k := 33) M
  have f1 := fr4_clear e1
  rw [bnd_e e1]
  obtain ⟨n', M2, a1, a2, a3, a4⟩ := look_mark hw 96 0 (n + 1) M1 (by omega) (by omega) (fun q hq => by rw [(f1 331 (by decide) (fun e => by cases e)).1]; exact hx q hq) (p1.cong fun p hp => by simp)
  rw [nI_0, e6_lookAround_9] at a2
  rw [a2]
  obtain ⟨M', g1, g2, g3, g4, g5⟩ := look_loop (O := O) (wn := fun q => decide (0 < w q)) M2 96 0 (n' + 1) M2 (by omega) (by omega) (by
    refine (hO.keep (f1 10 (by decide) (fun e => by cases e)).2).keep (a4 10 (by decide)).2) a3 (fun p hp => by omega) (fun k _ => rfl)
  rw [nI_0, e6_lookAround_43] at g1
  exact ⟨M', g1, g2, g3, g4, fun k h1 h2 => by rw [g5 k (by omega) h2, (a4 k (by omega)).1, (f1 k (by simp; omega) (fun e => by cases e)).1]⟩
/-! the reference -/
theorem wd_in {S : Nat → Bool} {o q : Nat} {x : Int64} (h : wd S o x) (hq : q < 48) : wd (fun i => S i || decide (i = o + q)) o (x ||| ((1 : Int64) <<< ((nI q).toInt64 &&& 63))) := wd_of fun i hi => by
  rw [bl_or, h i, bl_one _ (by omega) _ hi]
  by_cases h1 : i < 48
  · simp only [h1, decide_true, Bool.true_and]
    congr 1
    exact decide_eq_decide.mpr (by omega)
  · simp [h1, show ¬ i = q by omega]
theorem wd_out {S : Nat → Bool} {o q : Nat} {x : Int64} (h : wd S o x) (hq : q < o ∨ o + 48 ≤ q) : wd (fun i => S i || decide (i = q)) o x := wd_of fun i hi => by
  rw [h i]
  by_cases h1 : i < 48
  · simp [h1, show ¬ o + i = q by omega]
  · simp [h1]
theorem wd_cong {S T : Nat → Bool} {o : Nat} {x : Int64} (h : wd S o x) (e : ∀ i, i < 48 → S (o + i) = T (o + i)) : wd T o x := fun i => by
  rw [h i]
  by_cases h1 : i < 48
  · rw [e i h1]
  · simp [h1]
/-- the reference's sets of what is near -/
def NY (S : Nat → Nat → Bool) (m : Nat) (M : Mem) : Prop := ∀ p, p < m → wd (S p) 0 (M.2 29 p) ∧ wd (S p) 48 (M.2 30 p)
theorem nearY_in {sq p : Nat} {kd w : Nat → Nat} (hp : p < 96) (hw : ∀ q, q < 96 → w q ≤ 9999) : ∀ (d q n : Nat) (M : Mem), q + d = 96 → d + 100000 < n → YT sq kd M → (∀ q, q < 96 → M.1 1 q = nI (w q)) → NY (fun a => nearS (opn sq kd) (fun q => decide (0 < w q)) a) p M → wd (fun i => decide (i < q) && nearS (opn sq kd) (fun q => decide (0 < w q)) p i) 0 (M.2 29 p) → wd (fun i => decide (i < q) && nearS (opn sq kd) (fun q => decide (0 < w q)) p i) 48 (M.2 30 p) → ∃ n' M', n' + d + 1 = n ∧ r12_laysNear n 24 [nI p, nI q] [] M = r12_laysNear n' 2 [nI (p + 1)] [] M' ∧ YT sq kd M' ∧ (∀ q, q < 96 → M'.1 1 q = nI (w q)) ∧ NY (fun a => nearS (opn sq kd) (fun q => decide (0 < w q)) a) (p + 1) M' := by
  intro d
  induction d with
  | zero =>
    intro q n M h1 h2 hY hx hN hA hB
    obtain ⟨n, rfl⟩ : ∃ n', n = n' + 1 := ⟨n - 1, by omega⟩
    have : q = 96 := by omega
    subst this
    rw [e12_laysNear_24]
    unfold b12_laysNear_24
    rw [if_pos (by decide), lt_v, nI_1]
    refine ⟨n, M, by omega, rfl, hY, hx, fun a ha => ?_⟩
    by_cases e : a = p
    · subst e
      exact ⟨wd_cong hA fun i hi => by rw [decide_eq_true (show 0 + i < 96 by omega), Bool.true_and], wd_cong hB fun i hi => by rw [decide_eq_true (show 48 + i < 96 by omega), Bool.true_and]⟩
    · exact hN a (by omega)
  | succ d ih =>
    intro q n M h1 h2 hY hx hN hA hB
    obtain ⟨n, rfl⟩ : ∃ n', n = n' + 1 := ⟨n - 1, by omega⟩
    have hq : q < 96 := by omega
    have hwq := hw q hq
    have next : ∀ M1 : Mem, YT sq kd M1 → (∀ q, q < 96 → M1.1 1 q = nI (w q)) → NY (fun a => nearS (opn sq kd) (fun q => decide (0 < w q)) a) p M1 → wd (fun i => decide (i < q + 1) && nearS (opn sq kd) (fun q => decide (0 < w q)) p i) 0 (M1.2 29 p) → wd (fun i => decide (i < q + 1) && nearS (opn sq kd) (fun q => decide (0 < w q)) p i) 48 (M1.2 30 p) → ∃ n' M', n' + (d + 1) + 1 = n + 1 ∧ (lt (nI q + (1 : Int32)) fun v21 => r12_laysNear n 24 [nI p, v21] [] M1) = r12_laysNear n' 2 [nI (p + 1)] [] M' ∧ YT sq kd M' ∧ (∀ q, q < 96 → M'.1 1 q = nI (w q)) ∧ NY (fun a => nearS (opn sq kd) (fun q => decide (0 < w q)) a) (p + 1) M' := by
      intro M1 hY hx hN hA hB
      rw [lt_v, nI_1]
      obtain ⟨n', M', a1, a2⟩ := ih (q + 1) n M1 (by omega) (by omega) hY hx hN hA hB
      exact ⟨n', M', by omega, a2⟩
    have nocase : nearS (opn sq kd) (fun q => decide (0 < w q)) p q = false → ∀ i, (decide (i < q) && nearS (opn sq kd) (fun q => decide (0 < w q)) p i) = (decide (i < q + 1) && nearS (opn sq kd) (fun q => decide (0 < w q)) p i) := fun hc i => by
      by_cases e : i = q
      · rw [e, hc]; simp
      · congr 1
        exact decide_eq_decide.mpr (by omega)
    have yescase : nearS (opn sq kd) (fun q => decide (0 < w q)) p q = true → ∀ i, ((decide (i < q) && nearS (opn sq kd) (fun q => decide (0 < w q)) p i) || decide (i = q)) = (decide (i < q + 1) && nearS (opn sq kd) (fun q => decide (0 < w q)) p i) := fun hc i => by
      by_cases e : i = q
      · rw [e, hc]; simp
      · simp only [e, decide_false, Bool.or_false]
        congr 1
        exact decide_eq_decide.mpr (by omega)
    rw [e12_laysNear_24]
    unfold b12_laysNear_24 b12_laysNear_98
    rw [if_neg (show ¬ (96 : Int32) ≤ nI q from nI_ge (b := 96) (by omega) (by decide)), Int32.zero_add, chk_in (by omega) (by decide), nI_clamp (by omega), hx q hq]
    by_cases c : 0 < w q
    · rw [if_neg (nI_ne0 c (by omega))]
      obtain ⟨M1, g1, g2, g3⟩ := steps_Y (n := n) (p := p) (q := q) (by omega) hY hp hq
      have l := ds_le (opn sq kd) hp hq
      have hx1 : ∀ q, q < 96 → M1.1 1 q = nI (w q) := fun q hq => by rw [(g2.1 1 (by decide)).1]; exact hx q hq
      have k29 := (g2.1 29 (by decide)).2
      have k30 := (g2.1 30 (by decide)).2
      have hN1 : NY (fun a => nearS (opn sq kd) (fun q => decide (0 < w q)) a) p M1 := fun a ha => by rw [k29, k30]; exact hN a ha
      rw [bnd_e g1]
      by_cases c2 : ds (opn sq kd) p q ≤ 2
      · have hc : nearS (opn sq kd) (fun q => decide (0 < w q)) p q = true := by simp [nearS, c, c2]
        rw [if_pos (show nI (ds (opn sq kd) p q) ≤ (2 : Int32) from nI_le (b := 2) c2 (by decide))]
        by_cases c3 : 48 ≤ q
        · rw [if_pos (show (48 : Int32) ≤ nI q from nI_le (a := 48) c3 (by omega)), chk_in hp (by decide), chk_in hp (by decide), lt_v, nI_clamp (by omega), show nI q - (48 : Int32) = nI (q - 48) from pk_sub (b := 48) c3]
          refine next _ ⟨g3.1.keep rfl rfl, g3.2⟩ hx1 (fun a ha => ?_) ?_ ?_
          · rw [wJ_at, if_neg (by decide), wJ_at, if_pos rfl, if_neg (by omega)]
            exact hN1 a ha
          · rw [wJ_at, if_neg (by decide), k29]
            exact wd_cong (wd_out (q := q) hA (by omega)) fun i _ => yescase hc _
          · rw [wJ_at, if_pos rfl, if_pos rfl, k30]
            have := wd_in (q := q - 48) hB (by omega)
            rw [show 48 + (q - 48) = q by omega] at this
            exact wd_cong this fun i _ => yescase hc _
        · rw [if_neg (show ¬ (48 : Int32) ≤ nI q from nI_ge (b := 48) (by omega) (by decide)), chk_in hp (by decide), chk_in hp (by decide), lt_v, nI_clamp (by omega)]
          refine next _ ⟨g3.1.keep rfl rfl, g3.2⟩ hx1 (fun a ha => ?_) ?_ ?_
          · rw [wJ_at, if_pos rfl, if_neg (by omega), wJ_at, if_neg (by decide)]
            exact hN1 a ha
          · rw [wJ_at, if_pos rfl, if_pos rfl, k29]
            have := wd_in (q := q) hA (by omega)
            rw [show 0 + q = q by omega] at this
            exact wd_cong this fun i _ => yescase hc _
          · rw [wJ_at, if_neg (by decide), k30]
            exact wd_cong (wd_out (q := q) hB (by omega)) fun i _ => yescase hc _
      · have hc : nearS (opn sq kd) (fun q => decide (0 < w q)) p q = false := by simp [nearS, c2]
        rw [if_neg (show ¬ nI (ds (opn sq kd) p q) ≤ (2 : Int32) from nI_ge (a := 2) (by omega) (by omega))]
        exact next M1 g3 hx1 hN1 (by rw [k29]; exact wd_cong hA fun i _ => nocase hc _) (by rw [k30]; exact wd_cong hB fun i _ => nocase hc _)
    · have hc : nearS (opn sq kd) (fun q => decide (0 < w q)) p q = false := by simp [nearS, c]
      rw [show w q = 0 by omega, if_pos nI_0]
      exact next M hY hx hN (wd_cong hA fun i _ => nocase hc _) (wd_cong hB fun i _ => nocase hc _)
theorem nearY_loop {sq : Nat} {kd w : Nat → Nat} (hw : ∀ q, q < 96 → w q ≤ 9999) : ∀ (d p n : Nat) (M : Mem), p + d = 96 → 200 * d + 100200 < n → YT sq kd M → (∀ q, q < 96 → M.1 1 q = nI (w q)) → NY (fun a => nearS (opn sq kd) (fun q => decide (0 < w q)) a) p M → ∃ M', r12_laysNear n 2 [nI p] [] M = some ((), M') ∧ YT sq kd M' ∧ NY (fun a => nearS (opn sq kd) (fun q => decide (0 < w q)) a) 96 M' := by
  intro d
  induction d with
  | zero =>
    intro p n M h1 h2 hY hx hN
    obtain ⟨n, rfl⟩ : ∃ n', n = n' + 1 := ⟨n - 1, by omega⟩
    have : p = 96 := by omega
    subst this
    rw [e12_laysNear_2]
    unfold b12_laysNear_2
    rw [if_pos (by decide)]
    exact ⟨M, rfl, hY, hN⟩
  | succ d ih =>
    intro p n M h1 h2 hY hx hN
    obtain ⟨n, rfl⟩ : ∃ n', n = n' + 1 := ⟨n - 1, by omega⟩
    have hp : p < 96 := by omega
    rw [e12_laysNear_2]
    unfold b12_laysNear_2
    rw [if_neg (show ¬ (96 : Int32) ≤ nI p from nI_ge (b := 96) (by omega) (by decide)), chk_in hp (by decide), lt_v, chk_in hp (by decide), lt_v, nI_clamp (by omega)]
    have z : ∀ (S : Nat → Bool) (o : Nat), wd (fun i => decide (i < 0) && S i) o 0 := fun S o i => by rw [bl_0]; simp
    obtain ⟨n', M', a1, a2, a3, a4, a5⟩ := nearY_in (sq := sq) (kd := kd) hp hw 96 0 (n + 1) (wJ (wJ M 29 p 0) 30 p 0) (by omega) (by omega) ⟨hY.1.keep rfl rfl, hY.2⟩ hx (fun a ha => by
      rw [wJ_at, if_neg (by decide), wJ_at, if_pos rfl, if_neg (by omega), wJ_at, if_pos rfl, if_neg (by omega), wJ_at, if_neg (by decide)]
      exact hN a ha) (by rw [wJ_at, if_neg (by decide), wJ_at, if_pos rfl, if_pos rfl]; exact z _ _) (by rw [wJ_at, if_pos rfl, if_pos rfl]; exact z _ _)
    rw [nI_0, e12_laysNear_24] at a2
    rw [a2]
    exact ih (p + 1) n' M' (by omega) (by omega) a3 a4 a5
theorem near_Y {sq n : Nat} {kd w : Nat → Nat} {M : Mem} (hn : 200000 ≤ n) (hw : ∀ q, q < 96 → w q ≤ 9999) (hY : YT sq kd M) (hx : ∀ q, q < 96 → M.1 1 q = nI (w q)) : ∃ M', f12_laysNear n M = some ((), M') ∧ YT sq kd M' ∧ NY (fun a => nearS (opn sq kd) (fun q => decide (0 < w q)) a) 96 M' := by
  obtain ⟨M', g, h⟩ := nearY_loop (sq := sq) (kd := kd) hw 96 0 (n + 1) M (by omega) (by omega) hY hx (fun p hp => by omega)
  rw [nI_0, e12_laysNear_2] at g
  exact ⟨M', g, h⟩
theorem bitsOf_loop {X : Nat} (hX : X < 2 ^ 62) (M : Mem) : ∀ (d k n : Nat), k + d = 48 → d < n → r12_bitsOf n 4 [nI (fb_ct (fun i => X.testBit i) k), nI k] [lN X] M = some (nI (fb_ct (fun i => X.testBit i) 48), M) := by
  intro d
  induction d with
  | zero =>
    intro k n h1 h2
    obtain ⟨n, rfl⟩ : ∃ n', n = n' + 1 := ⟨n - 1, by omega⟩
    have : k = 48 := by omega
    subst this
    rw [e12_bitsOf_4]
    unfold b12_bitsOf_4
    rw [if_pos (by decide)]
  | succ d ih =>
    intro k n h1 h2
    obtain ⟨n, rfl⟩ : ∃ n', n = n' + 1 := ⟨n - 1, by omega⟩
    rw [e12_bitsOf_4]
    unfold b12_bitsOf_4
    have g := ih (k + 1) n (by omega) (by omega)
    rw [fb_ct_succ] at g
    have hd : X / 2 ^ k ≤ X := Nat.div_le_self _ _
    rw [if_neg (show ¬ (48 : Int32) ≤ nI k from nI_ge (b := 48) (by omega) (by decide)), pf_shr (bl_sl k (by omega)) hX, wb_a1 (by omega), lN_i, lt_v, lt_v, nI_1, nI_add, ← g]
    congr 4
    rw [Nat.testBit_eq_decide_div_mod_eq]
    have : X / 2 ^ k % 2 = 0 ∨ X / 2 ^ k % 2 = 1 := by omega
    rcases this with e | e <;> rw [e] <;> rfl
theorem bitsOf_Y {n o : Nat} {S : Nat → Bool} {x : Int64} {M : Mem} (hn : 100 ≤ n) (h : wd S o x) : f12_bitsOf n x M = some (nI (fb_ct (fun i => S (o + i)) 48), M) := by
  obtain ⟨X, hX, rfl⟩ := wb_of x
  have hb : ∀ i, X.testBit i = (decide (i < 48) && S (o + i)) := fun i => by
    by_cases hi : i < 64
    · have := h i
      rw [bl_lN] at this
      simpa [hi] using this
    · rw [Nat.testBit_lt_two_pow (Nat.lt_of_lt_of_le hX (Nat.pow_le_pow_right (by decide) (by omega)))]
      simp [show ¬ i < 48 by omega]
  have hX2 : X < 2 ^ 48 := Nat.lt_pow_two_of_testBit _ (fun i hi => by rw [hb i]; simp [show ¬ i < 48 by omega])
  have g := bitsOf_loop (X := X) (by omega) M 48 0 (n + 1) (by omega) (by omega)
  rw [show fb_ct (fun i => X.testBit i) 0 = 0 from rfl, nI_0, e12_bitsOf_4] at g
  have e : fb_ct (fun i => X.testBit i) 48 = fb_ct (fun i => S (o + i)) 48 := fb_ct_cong fun k hk => by rw [hb k]; simp [hk]
  rw [e] at g
  exact g
