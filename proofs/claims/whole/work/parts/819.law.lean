/-! PROMISE 5: law -/
section LW
variable {T : Nat → Nat} {N : Nat} {M0 : Mem}
/-- the code is taken over -/
theorem law95 {L : Nat} (hL : L ≤ 240) : ∀ (d k n : Nat) (M : Mem), k + d = L → d + 10 < n → M.1 0 17 = nI L → ∃ n' M', n' + d + 1 = n ∧ r12_law n 95 [nI k] [] M = b12_law_123 (r12_law n') n' 0 M' ∧ (∀ i, M'.1 15 i = if k ≤ i ∧ i < L then M.1 9 i else M.1 15 i) ∧ ∀ c, c ≠ 15 → M'.1 c = M.1 c := by
  intro d
  induction d with
  | zero =>
    intro k n M h1 h2 h3
    obtain ⟨n, rfl⟩ : ∃ n', n = n' + 1 := ⟨n - 1, by omega⟩
    refine ⟨n, M, rfl, ?_, fun i => by rw [if_neg (by omega)], fun _ _ => rfl⟩
    rw [e12_law_95]
    unfold b12_law_95
    rw [h3, if_pos (nI_le (by omega) (by omega))]
  | succ d ih =>
    intro k n M h1 h2 h3
    obtain ⟨n, rfl⟩ : ∃ n', n = n' + 1 := ⟨n - 1, by omega⟩
    obtain ⟨n', M', q1, q2, q3, q4⟩ := ih (k + 1) n (wI M 15 k (M.1 9 k)) (by omega) (by omega) h3
    refine ⟨n', M', by omega, ?_, fun i => ?_, fun c hc => (q4 c hc).trans (wI_o c hc).1⟩
    · rw [e12_law_95]
      unfold b12_law_95
      rw [h3, if_neg (nI_ge (by omega) (by omega)), chk_in (by omega) (by decide), chk_in (by omega) (by decide), lt_v, lt_v, nI_1, nI_clamp (by omega)]
      exact q2
    · rw [q3 i]
      show (if k + 1 ≤ i ∧ i < L then M.1 9 i else if i = k then M.1 9 k else M.1 15 i) = _
      by_cases c : i = k
      · subst c
        rw [if_neg (by omega), if_pos rfl, if_pos (by omega)]
      · rw [if_neg c]
        by_cases c2 : k + 1 ≤ i ∧ i < L
        · rw [if_pos c2, if_pos (by omega)]
        · rw [if_neg c2, if_neg (by omega)]
theorem law123 {L : Nat} (hL : L ≤ 16) : ∀ (d k n : Nat) (M : Mem), k + d = L → d + 1 < n → M.1 0 19 = nI L → ∃ M', r12_law n 123 [nI k] [] M = some (nI L, M') ∧ (∀ i, k ≤ i → i < L → M'.1 16 i = M.1 11 i ∧ M'.1 17 i = M.1 12 i ∧ M'.1 18 i = M.1 13 i ∧ M'.1 19 i = M.1 14 i) ∧ (∀ i, i < k → M'.1 16 i = M.1 16 i ∧ M'.1 17 i = M.1 17 i ∧ M'.1 18 i = M.1 18 i ∧ M'.1 19 i = M.1 19 i) ∧ ∀ c, c ≠ 16 → c ≠ 17 → c ≠ 18 → c ≠ 19 → M'.1 c = M.1 c := by
  intro d
  induction d with
  | zero =>
    intro k n M h1 h2 h3
    obtain ⟨n, rfl⟩ : ∃ n', n = n' + 1 := ⟨n - 1, by omega⟩
    refine ⟨M, ?_, fun i a b => by omega, fun _ _ => ⟨rfl, rfl, rfl, rfl⟩, fun _ _ _ _ _ => rfl⟩
    rw [e12_law_123]
    unfold b12_law_123
    rw [h3, if_pos (nI_le (by omega) (by omega))]
  | succ d ih =>
    intro k n M h1 h2 h3
    obtain ⟨n, rfl⟩ : ∃ n', n = n' + 1 := ⟨n - 1, by omega⟩
    obtain ⟨M', q1, q2, q3, q4⟩ := ih (k + 1) n (wI (wI (wI (wI M 16 k (M.1 11 k)) 17 k (M.1 12 k)) 18 k (M.1 13 k)) 19 k (M.1 14 k)) (by omega) (by omega) h3
    refine ⟨M', ?_, fun i a b => ?_, fun i a => ?_, fun c c1 c2 c3 c4 => ?_⟩
    · rw [e12_law_123]
      unfold b12_law_123
      rw [h3, if_neg (nI_ge (by omega) (by omega))]
      simp only [chk_in (show k < 16 by omega) (show 16 < 2 ^ 31 by decide), lt_v, nI_1, nI_clamp (show k < 2 ^ 31 by omega)]
      exact q1
    · by_cases c : i = k
      · subst c
        have w := q3 i (by omega)
        refine ⟨w.1.trans ?_, w.2.1.trans ?_, w.2.2.1.trans ?_, w.2.2.2.trans ?_⟩
        · show (if i = i then M.1 11 i else M.1 16 i) = _
          rw [if_pos rfl]
        · show (if i = i then M.1 12 i else M.1 17 i) = _
          rw [if_pos rfl]
        · show (if i = i then M.1 13 i else M.1 18 i) = _
          rw [if_pos rfl]
        · show (if i = i then M.1 14 i else M.1 19 i) = _
          rw [if_pos rfl]
      · exact q2 i (by omega) b
    · have w := q3 i (by omega)
      have ne : i ≠ k := by omega
      refine ⟨w.1.trans ?_, w.2.1.trans ?_, w.2.2.1.trans ?_, w.2.2.2.trans ?_⟩
      · show (if i = k then M.1 11 k else M.1 16 i) = _
        rw [if_neg ne]
      · show (if i = k then M.1 12 k else M.1 17 i) = _
        rw [if_neg ne]
      · show (if i = k then M.1 13 k else M.1 18 i) = _
        rw [if_neg ne]
      · show (if i = k then M.1 14 k else M.1 19 i) = _
        rw [if_neg ne]
    · rw [q4 c c1 c2 c3 c4, (wI_o c c4).1, (wI_o c c3).1, (wI_o c c2).1, (wI_o c c1).1]
/-- what the whole text comes to -/
def KY (M0 M : Mem) : Prop := M.1 0 20 = M0.1 0 20 ∧ ∀ k, k ∈ ([15, 16, 17, 18, 19] : List Nat) → M.1 k = M0.1 k
def LawOut (T : Nat → Nat) (M0 : Mem) (N p : Nat) (Mx : Mem) (o : Option (Int32 × Mem)) : Prop := (∃ f My', o = some (f, My') ∧ My'.1 0 11 = 0 ∧ KY M0 My' ∧ XF N p Mx f) ∨ (∃ q z kd st hf en gx Mx' My', o = some (nI q, My') ∧ My'.1 0 11 = 0 ∧ 1 ≤ q ∧ q ≤ 16 ∧ z.1 ≤ 240 ∧ XR N p Mx N Mx' ∧ XV T N q gx 7 [] z Mx' ∧ My'.1 0 20 = nI q ∧ (∀ i, i < z.1 → My'.1 15 i = nI (1048576 * z.2.1 i + z.2.2 i)) ∧ LR q z kd st hf en gx (fun k => My'.1 (k + 5)))
theorem law_end {q p nY : Nat} {z : Zc} {kd st hf en : Nat → Nat} {gx gy : Nat → Nat → Int32} {Mx My : Mem} (hn : 1000 ≤ nY) (hq : 1 ≤ q) (hp : p = N) (hX : XV T N q gx 7 [] z Mx) (hY : YV T N q gy p [] z My) (hz : z.1 ≤ p) (hL : LR q z kd st hf en gx gy) : LawOut T M0 N p Mx (b12_law_71 (r12_law nY) nY 1 My) := by
  have hN := hY.1.1
  obtain ⟨a1, a2, a3, a4, a5, ⟨b1, b2, b3, b4⟩, a7, a8, a9, a10, a11⟩ := hY
  have hq16 := hL.1
  unfold b12_law_71
  rw [lt_v, if_neg (by decide), lt_v, show (wI My 0 11 0).1 0 19 = nI q from a5]
  obtain ⟨n', M1, q1, q2, q3, q4⟩ := law95 (L := z.1) (by omega) z.1 0 (nY + 1) (wI (wI My 0 11 0) 0 20 (nI q)) (by omega) (by omega) a7
  rw [e12_law_95, nI_0] at q2
  rw [q2]
  obtain ⟨M2, r1, r2, r3, r4⟩ := law123 (L := q) hq16 q 0 (n' + 1) M1 (by omega) (by omega) (by rw [q4 0 (by decide)]; exact a5)
  rw [e12_law_123, nI_0] at r1
  rw [r1]
  have k0 : M2.1 0 = (wI (wI My 0 11 0) 0 20 (nI q)).1 0 := (r4 0 (by decide) (by decide) (by decide) (by decide)).trans (q4 0 (by decide))
  subst hp
  refine Or.inr ⟨q, z, kd, st, hf, en, gx, Mx, M2, rfl, by rw [k0]; rfl, hq, hq16, by omega, XR.refl (Nat.le_refl _), hX, by rw [k0]; rfl, fun i hi => ?_, ?_⟩
  · rw [r4 15 (by decide) (by decide) (by decide) (by decide), q3 i, if_pos ⟨Nat.zero_le _, hi⟩]
    exact a10 i hi
  · obtain ⟨c1, c2, c3, c4⟩ := hL
    refine ⟨c1, c2, c3, fun r hr => ?_⟩
    obtain ⟨d1, d2, d3, d4, d5⟩ := c4 r hr
    have w := r2 r (Nat.zero_le _) hr
    have e11 : M1.1 11 r = gy 11 r := by rw [q4 11 (by decide)]; exact congrFun b1 r
    have e12 : M1.1 12 r = gy 12 r := by rw [q4 12 (by decide)]; exact congrFun b2 r
    have e13 : M1.1 13 r = gy 13 r := by rw [q4 13 (by decide)]; exact congrFun b3 r
    have e14 : M1.1 14 r = gy 14 r := by rw [q4 14 (by decide)]; exact congrFun b4 r
    refine ⟨⟨d1.1, d1.2.1, ?_⟩, d2, d3, ⟨?_, ?_, ?_⟩, d5⟩
    · exact (w.1.trans e11).trans d1.2.2
    · exact (w.2.1.trans e12).trans d4.1
    · exact (w.2.2.1.trans e13).trans d4.2.1
    · exact (w.2.2.2.trans e14).trans d4.2.2
theorem LawOut.from {p p' : Nat} {Mx Mx' : Mem} {o : Option (Int32 × Mem)} (h : XR N p Mx p' Mx') (k : LawOut T M0 N p' Mx' o) : LawOut T M0 N p Mx o := by
  rcases k with ⟨f, My', k1, k2, k3, k4⟩ | ⟨q, z, kd, st, hf, en, gx, X2, My', k1, k2, k3, k4, k5, k6, k7⟩
  · exact Or.inl ⟨f, My', k1, k2, k3, h.fault k4⟩
  · exact Or.inr ⟨q, z, kd, st, hf, en, gx, X2, My', k1, k2, k3, k4, k5, h.trans k6, k7⟩
theorem law_fail {nY : Nat} {f : Int32} {p : Nat} {Mx My : Mem} (hK : KY M0 My) (h14 : My.1 0 14 = f) (hF : XF N p Mx f) : LawOut T M0 N p Mx (r12_law (nY + 1) 31 [0] [] My) := by
  rw [e12_law_31]
  unfold b12_law_31 b12_law_71
  rw [if_pos rfl, lt_v, if_pos rfl]
  exact Or.inl ⟨f, wI My 0 11 0, by rw [show (wI My 0 11 0).1 0 14 = f from h14], rfl, ⟨hK.1, fun k hk => (wI_o (M := My) (k := 0) (j := 11) (v := 0) k (by rintro rfl; revert hk; decide)).1.trans (hK.2 k hk)⟩, hF⟩
theorem lawr_loop : ∀ (d p q : Nat) (z : Zc) (kd st hf en : Nat → Nat) (gx gy : Nat → Nat → Int32) (nY : Nat) (Mx My : Mem), p + d = N → d + 9000 < nY → KY M0 My → 1 ≤ q → XV T N q gx 7 [] z Mx → YV T N q gy p [] z My → z.1 ≤ p → LR q z kd st hf en gx gy → LawOut T M0 N p Mx (r12_law nY 31 [1] [] My) := by
  intro d
  induction d using Nat.strongRecOn with
  | _ d ih =>
    intro p q z kd st hf en gx gy nY Mx My h1 h2 hK hq hX hY hz hL
    obtain ⟨nY, rfl⟩ : ∃ n', nY = n' + 1 := ⟨nY - 1, by omega⟩
    have hN := hY.1.1
    rw [e12_law_31]
    unfold b12_law_31
    rw [if_neg (by decide), hY.2.2.2.1, hY.2.2.1]
    by_cases hp : p < N
    · have hc := hY.1.2.2 p hp
      have hh := here_y hY nY
      rw [if_pos hp] at hh
      rw [if_neg (nI_ge hp (by omega))]
      unfold f12_takes b12_takes_0 b12_law_66 b12_law_67
      rw [bnd_e hh]
      have ex : ∀ n, f3_readSign n (nI (T p)) Mx = if nI (T p) = (59 : Int32) then some (0, wI Mx 17 9 (nI 0)) else some (1, Mx) := fun n => by
        rw [rs7 hX n]
        unfold f3_endRule b3_endRule_0
        rw [lt_v]
        rfl
      by_cases c : T p = 59
      · have e59 : nI (T p) = (59 : Int32) := by rw [c]; rfl
        have hst1 : XR N p Mx (p + 1) (wI Mx 17 9 (nI 0)) := XR.step hX.1 hp (fun n _ => by rw [ex n, if_pos e59])
        rw [if_pos e59, lt_v, bnd_s', if_neg (by decide), hY.2.2.1, nI_1]
        have keepK : ∀ {r : Int32} {M' : Mem}, f12_readsRule nY (wI My 0 12 (nI (p + 1))) = some (r, M') → KY M0 M' := fun {r M'} e => by
          have fy := fr12_readsRule e
          have qy := fq12_readsRule e
          exact ⟨(qy 0 20 (by decide) (by decide)).trans hK.1, fun k hk => ((fy k (by revert hk; revert k; decide) (fun e => by cases e)).1.trans (wI_o k (by rintro rfl; revert hk; decide)).1).trans (hK.2 k hk)⟩
        rcases rule_XY (nY := nY) (by omega) (hX.st_to 0) (hY.next hp).zero (by omega) hL with ⟨f, My', k1, k2, k3⟩ | ⟨p', z', gx', gy', kd', st', hf', en', Mx', My', k1, k2, k3, k4, k5, k6, k7⟩
        · rw [bnd_e k1, if_pos rfl]
          obtain ⟨nY, rfl⟩ : ∃ n', nY = n' + 1 := ⟨nY - 1, by omega⟩
          exact law_fail (keepK k1) k2 (hst1.fault k3)
        · rw [bnd_e k1, if_neg (by decide)]
          have := k5.1.2.1
          exact LawOut.from (hst1.trans k3) (ih (N - p') (by omega) p' (q + 1) z' kd' st' hf' en' gx' gy' nY Mx' My' (by omega) (by omega) (keepK k1) (by omega) k4 k5 k6 k7)
      · have e59 : ¬ nI (T p) = (59 : Int32) := fun e => c ((nI_eq (b := 59) (by omega) (by decide)).mp e)
        rw [if_neg e59, wrong_e, bnd_s', chk_t (by decide), bnd_s', if_pos rfl]
        obtain ⟨nY, rfl⟩ : ∃ n', nY = n' + 1 := ⟨nY - 1, by omega⟩
        refine law_fail (f := (-1000 : Int32) * nI 1 - nI p) ⟨hK.1, fun k hk => (wI_o k (by rintro rfl; revert hk; decide)).1.trans (hK.2 k hk)⟩ ?_ (XF.sign (k := 1) hX.1 hp (by decide) (by decide) (fun n _ => ⟨Mx, by rw [ex n, if_neg e59]; rfl⟩))
        show (-1000 : Int32) * 1 - My.1 0 12 = _
        rw [hY.2.2.1]
        rfl
    · rw [if_pos (nI_le (by omega) (by omega))]
      exact law_end (by omega) hq (by have := hY.1.2.1; omega) hX hY hz hL
end LW
/-- PROMISE 5: law -/
theorem st_law {FU : Nat} (hFU : 10000000 ≤ FU) (t : Nat) (Mx My : Mem) (a0 : Int32) (ht : t < 3072) (h : Inv Lw t Mx My) : ∃ (r : Int32) (Mx' My' : Mem), f11_law FU a0 Mx = some (r, Mx') ∧ f12_law FU a0 My = some (r, My') ∧ Inv Lw (t + 6) Mx' My' := by
  have h0 := h
  obtain ⟨⟨⟨sq, kd0, dr, h1⟩, h2⟩, ⟨n, b1, b2, b3, b4⟩, h4, h5⟩ := h
  by_cases g : a0 < 1 ∨ 240 < a0 ∨ nI n < a0
  · refine ⟨-1, Mx, My, ?_, ?_, h0.same Lw.ok⟩
    · unfold f11_law b11_law_0
      rw [canGive_e, bnd_s', b2, if_pos g, if_pos rfl]
    · unfold f12_law b12_law_0 b12_law_19
      rw [in_e, bnd_s', b3]
      by_cases g1 : a0 < 1 ∨ 240 < a0
      · rw [if_pos g1, if_pos rfl]
      · rw [if_neg g1, if_neg (by decide), if_neg]
        intro e
        rcases g with g | g | g
        · exact g1 (Or.inl g)
        · exact g1 (Or.inr g)
        · exact Int32.lt_irrefl (Int32.lt_of_le_of_lt e g)
  · have g3 : ¬ a0 < 1 := fun e => g (Or.inl e)
    have g4 : ¬ 240 < a0 := fun e => g (Or.inr (Or.inl e))
    have g5 : ¬ nI n < a0 := fun e => g (Or.inr (Or.inr e))
    obtain ⟨N, hN, rfl⟩ : ∃ m : Nat, m ≤ 240 ∧ a0 = nI m := by
      have c0 : ¬ a0 < 0 := fun e => g3 (Int32.lt_trans e (by decide))
      obtain ⟨k, hk, rfl⟩ := nI_of c0
      exact ⟨k, Nat.le_of_not_lt fun e => g4 (nI_lt (a := 240) e hk), rfl⟩
    obtain ⟨T, hT, hT8⟩ := tape_T b4 (show N ≤ 260 by omega)
    have hX : XV T N 0 (fun k => Mx.1 k) 0 [] (0, fun _ => 0, fun _ => 0) (wI (wI (wI (wI (wI Mx 17 5 0) 17 6 0) 17 7 0) 17 8 0) 17 9 0) := ⟨hT, rfl, rfl, rfl, rfl, rfl, rfl, rfl, fun i hi => absurd hi (Nat.not_lt_zero _), trivial⟩
    have hY : YV T N 0 (fun k => My.1 k) 0 [] (0, fun _ => 0, fun _ => 0) (wI (wI (wI (wI (wI (wI My 0 12 0) 0 13 (nI N)) 0 17 0) 0 19 0) 0 16 0) 0 18 0) := ⟨⟨hN, Nat.zero_le _, fun j hj => (hT.2 j hj).1⟩, hT8, rfl, rfl, rfl, ⟨rfl, rfl, rfl, rfl⟩, rfl, rfl, rfl, fun i hi => absurd hi (Nat.not_lt_zero _), trivial⟩
    have hLR : LR 0 (0, fun _ => 0, fun _ => 0) (fun _ => 0) (fun _ => 0) (fun _ => 0) (fun _ => 0) (fun k => Mx.1 k) (fun k => My.1 k) := ⟨by decide, fun i hi => absurd hi (Nat.not_lt_zero _), fun w => absurd w (by decide), fun r hr => absurd hr (Nat.not_lt_zero _)⟩
    have ey : f12_law FU (nI N) My = bnd (f12_readsRule FU (wI (wI (wI (wI My 0 12 0) 0 13 (nI N)) 0 17 0) 0 19 0)) fun r9 M10 => r12_law (FU + 1) 31 [r9] [] M10 := by
      unfold f12_law b12_law_0 f12_beginsText b12_beginsText_0
      rw [in_e, bnd_s', b3, if_neg (show ¬ (nI N < 1 ∨ 240 < nI N) from fun e => e.elim g3 g4), if_neg (by decide), if_pos (Int32.not_lt.mp g5)]
      simp only [lt_v, bnd_s', e12_law_31]
    have ex : f3_read FU (nI N) Mx = r3_read (FU + 1) 27 [nI N, nI 0] [] (wI (wI (wI (wI (wI Mx 17 5 0) 17 6 0) 17 7 0) 17 8 0) 17 9 0) := by
      rw [e3_read_27]
      rfl
    have keepK : ∀ {r : Int32} {M' : Mem}, f12_readsRule FU (wI (wI (wI (wI My 0 12 0) 0 13 (nI N)) 0 17 0) 0 19 0) = some (r, M') → KY My M' := fun {r M'} e => by
      have fy := fr12_readsRule e
      have qy := fq12_readsRule e
      refine ⟨qy 0 20 (by decide) (by decide), fun k hk => (fy k (by revert hk; revert k; decide) (fun e => by cases e)).1.trans ?_⟩
      have hk0 : k ≠ 0 := by rintro rfl; revert hk; decide
      rw [(wI_o k hk0).1, (wI_o k hk0).1, (wI_o k hk0).1, (wI_o k hk0).1]
    have key : LawOut T My N 0 (wI (wI (wI (wI (wI Mx 17 5 0) 17 6 0) 17 7 0) 17 8 0) 17 9 0) (f12_law FU (nI N) My) := by
      rw [ey]
      rcases rule_XY (nY := FU) (by omega) hX hY (Nat.le_refl _) hLR with ⟨f, My', k1, k2, k3⟩ | ⟨p', z', gx', gy', kd', st', hf', en', Mx', My', k1, k2, k3, k4, k5, k6, k7⟩
      · rw [bnd_e k1]
        exact law_fail (keepK k1) k2 k3
      · rw [bnd_e k1]
        have := k5.1.2.1
        exact LawOut.from k3 (lawr_loop (N - p') p' 1 z' kd' st' hf' en' gx' gy' (FU + 1) Mx' My' (by omega) (by omega) (keepK k1) (by decide) k4 k5 k6 k7)
    -- the invariant, from what the law is
    have close : ∀ (r : Int32) (Mx' My' : Mem), f11_law FU (nI N) Mx = some (r, Mx') → f12_law FU (nI N) My = some (r, My') → Mx'.1 1 1 = 0 → My'.1 0 11 = 0 → Lw Mx' My' → Inv Lw (t + 6) Mx' My' := by
      intro r Mx' My' x y c1 c2 c3
      have fx := fr11_law x
      have qx := fq11_law x
      have fy := fr12_law y
      have qy := fq12_law y
      refine ⟨⟨⟨sq, kd0, dr, h1.keep (by omega) (QXt.of fx (by decide)) (h1.2.2.1.1.keep (fx 10 (by decide) (fun e => by cases e)).2) ?_ (fy 5 (by decide) (fun e => by cases e)).1⟩, c3⟩, ⟨0, by decide, c1, c2, fun j hj => ?_⟩, h4.keep (by rw [(fx 25 (by decide) (fun e => by cases e)).1]) (qy 0 6 (by decide) (by decide)), h5.keep (fun k hk => (fx k (by revert hk; revert k; decide) (fun e => by cases e)).1) (by rw [(fx 0 (by decide) (fun e => by cases e)).1]) (fun k hk => (fy k (by revert hk; revert k; decide) (fun e => by cases e)).1) (qy 0 53 (by decide) (by decide))⟩
      · obtain ⟨d1, d2⟩ := h1.2.1
        refine ⟨d1.keep (qy 0 5 (by decide) (by decide)) (fy 4 (by decide) (fun e => by cases e)).1, ?_⟩
        unfold LY LD at d2 ⊢
        rw [qy 0 9 (by decide) (by decide), (fy 6 (by decide) (fun e => by cases e)).1]
        exact d2
      · rw [(fx 2 (by decide) (fun e => by cases e)).1, (fy 8 (by decide) (fun e => by cases e)).1]
        exact b4 j hj
    have fuel : FU + 1 = (FU + 1 - N) + (N - 0) := by omega
    rcases key with ⟨f, My', k1, k2, k3, k4⟩ | ⟨q, z, kd, st, hf, en, gx, Mx', My', k1, k2, k3, k4, k5, k6, k7, k8, k9, k10⟩
    · obtain ⟨M', e1⟩ := k4.2 (FU + 1 - N) (by omega)
      rw [← fuel] at e1
      rw [e1] at ex
      have fr := fr3_read ex
      have hneg : f ≤ 0 := by
        have := k4.1.1
        exact Int32.le_of_lt (Int32.not_le.mp this)
      have x : f11_law FU (nI N) Mx = some (f, wI M' 1 1 0) := by
        unfold f11_law b11_law_0 b11_law_53
        rw [canGive_e, bnd_s', b2, if_neg g, if_neg (by decide), bnd_e ex, lt_v, if_pos hneg]
      refine ⟨f, _, My', x, k1, close f _ My' x k1 rfl k2 (Lw.ok _ _ _ _ h2 (fun k hk => ?_) k3.1 k3.2)⟩
      rw [(wI_o k (by rintro rfl; revert hk; decide)).1]
      exact (fr k (by revert hk; revert k; decide) (fun e => by cases e)).1
    · have e1 := k6.2.2 (FU + 1 - N) (by omega)
      rw [← fuel] at e1
      obtain ⟨m, hm⟩ : ∃ m, FU + 1 - N = m + 1 := ⟨FU - N, by omega⟩
      rw [hm, read_end (st := 7) k7.2.2.1 (by decide), if_pos rfl, k7.2.1] at e1
      have e2 : f3_read FU (nI N) Mx = some (nI q, Mx') := by
        rw [ex]
        rcases e1 with e1 | ⟨f, M1, M2, w1, w2, w3⟩
        · exact e1
        · have := congrArg Prod.fst (Option.some.inj w2)
          have e3 : nI q = f := this
          rw [← e3] at w3
          exact absurd (nI_pos' (by omega)) w3.1
      have tk : ∃ M4, f2_take FU (wI Mx' 1 1 0) = some ((), M4) ∧ M4.1 11 3 = Mx'.1 17 5 ∧ (∀ i, i < 240 → M4.1 12 i = Mx'.1 18 i) ∧ (∀ i, i < 33 → M4.1 13 i = Mx'.1 19 i) ∧ ∀ i, i < 16 → M4.1 14 i = Mx'.1 20 i := by
        refine ⟨_, rfl, rfl, fun i hi => ?_, fun i hi => ?_, fun i hi => ?_⟩
        · show va_cpy (Mx'.1 18) (Mx'.1 12) (0 : Int32).toNatClampNeg (0 : Int32).toNatClampNeg (240 : Int32).toNatClampNeg i = _
          rw [show (0 : Int32).toNatClampNeg = 0 by decide, show (240 : Int32).toNatClampNeg = 240 by decide, pk_cpy_in (by omega) (by omega)]
          simp
        · show va_cpy (Mx'.1 19) (Mx'.1 13) (0 : Int32).toNatClampNeg (0 : Int32).toNatClampNeg (33 : Int32).toNatClampNeg i = _
          rw [show (0 : Int32).toNatClampNeg = 0 by decide, show (33 : Int32).toNatClampNeg = 33 by decide, pk_cpy_in (by omega) (by omega)]
          simp
        · show va_cpy (Mx'.1 20) (Mx'.1 14) (0 : Int32).toNatClampNeg (0 : Int32).toNatClampNeg (16 : Int32).toNatClampNeg i = _
          rw [show (0 : Int32).toNatClampNeg = 0 by decide, show (16 : Int32).toNatClampNeg = 16 by decide, pk_cpy_in (by omega) (by omega)]
          simp
      obtain ⟨M4, t1, t2, t3, t4, t5⟩ := tk
      have x : f11_law FU (nI N) Mx = some (nI q, M4) := by
        unfold f11_law b11_law_0 b11_law_53
        rw [canGive_e, bnd_s', b2, if_neg g, if_neg (by decide), bnd_e e2, lt_v, if_neg (nI_nle (by omega) (by omega)), bnd_e t1]
      have ft := fr2_take t1
      refine ⟨nI q, M4, My', x, k1, close _ _ _ x k1 (by rw [(ft 1 (by decide) (fun e => by cases e)).1]; rfl) k2 ⟨q, z.2.1, z.2.2, kd, st, hf, en, k4, by rw [t2]; exact k7.2.1, k8, fun r hr => ?_⟩⟩
      obtain ⟨d1, d2, d3, d4, d5, d6⟩ := k10.2.2.2 r hr
      have x19 := k7.2.2.2.1
      have x20 := k7.2.2.2.2.1
      refine ⟨⟨d1.1, by rw [t5 r (by omega), x20]; exact d1.2.1, d1.2.2⟩, ⟨d2.1, d2.2.1, by omega⟩, ⟨by rw [t4 _ (by omega), x19]; exact d3.1, by rw [t4 _ (by omega), x19]; exact d3.2.1, by rw [t4 _ (by omega), x19]; exact d3.2.2⟩, d4, fun i i1 i2 => ?_, d5, d6⟩
      have w := k10.2.1 i (by omega)
      refine ⟨w.1, w.2, by rw [t3 i (by omega)]; exact k7.2.2.2.2.2.2.2.2.1 i (by omega), k9 i (by omega)⟩
