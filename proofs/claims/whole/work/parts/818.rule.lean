/-! THE LAW's reader: a rule, both at a time -/
def gU (g : Nat → Nat → Int32) (k j : Nat) (v : Int32) : Nat → Nat → Int32 := fun a => if a = k then (fun i => if i = j then v else g k i) else g a
def LR (q : Nat) (z : Zc) (kd st hf en : Nat → Nat) (gx gy : Nat → Nat → Int32) : Prop := q ≤ 16 ∧ (∀ i, i < z.1 → z.2.1 i ≤ 12 ∧ z.2.2 i < 1048576) ∧ (0 < q → en (q - 1) = z.1) ∧ ∀ r, r < q → (kd r < 256 ∧ gx 20 r = nI (kd r) ∧ gy 11 r = nI (kd r)) ∧ (st r ≤ hf r ∧ hf r ≤ en r ∧ en r ≤ z.1) ∧ (gx 19 (2 * r) = nI (st r) ∧ gx 19 (2 * r + 1) = nI (hf r) ∧ gx 19 (2 * r + 2) = nI (en r)) ∧ (gy 12 r = nI (st r) ∧ gy 13 r = nI (hf r) ∧ gy 14 r = nI (en r)) ∧ (kd r ≠ 115 → Typ z.2.1 z.2.2 (st r) (hf r) false) ∧ Typ z.2.1 z.2.2 (hf r) (en r) true
section RL
variable {T : Nat → Nat} {N q : Nat} {gx gy : Nat → Nat → Int32}
theorem XV.wr {st k j : Nat} {v : Int32} {s : St} {z : Zc} {M : Mem} (h : XV T N q gx st s z M) (hk : k = 19 ∨ k = 20) : XV T N q (gU gx k j v) st s z (wI M k j v) := by
  obtain ⟨a1, a2, a3, a4, a5, a6, a7, a8, a9, a10⟩ := h
  rcases hk with rfl | rfl
  · exact ⟨a1, a2, a3, by rw [show gU gx 19 j v 19 = (fun i => if i = j then v else gx 19 i) from rfl, ← a4]; rfl, a5, a6, a7, a8, a9, a10.keep fun _ _ => ⟨rfl, rfl⟩⟩
  · exact ⟨a1, a2, a3, a4, by rw [show gU gx 20 j v 20 = (fun i => if i = j then v else gx 20 i) from rfl, ← a5]; rfl, a6, a7, a8, a9, a10.keep fun _ _ => ⟨rfl, rfl⟩⟩
theorem YV.wr {k j p : Nat} {v : Int32} {s : St} {z : Zc} {M : Mem} (h : YV T N q gy p s z M) (hk : k = 11 ∨ k = 12 ∨ k = 13 ∨ k = 14) : YV T N q (gU gy k j v) p s z (wI M k j v) := by
  obtain ⟨a1, a2, a3, a4, a5, ⟨b1, b2, b3, b4⟩, a7, a8, a9, a10, a11⟩ := h
  rcases hk with rfl | rfl | rfl | rfl
  · exact ⟨a1, a2, a3, a4, a5, ⟨by rw [show gU gy 11 j v 11 = (fun i => if i = j then v else gy 11 i) from rfl, ← b1]; rfl, b2, b3, b4⟩, a7, a8, a9, a10, a11.keep fun _ _ => rfl⟩
  · exact ⟨a1, a2, a3, a4, a5, ⟨b1, by rw [show gU gy 12 j v 12 = (fun i => if i = j then v else gy 12 i) from rfl, ← b2]; rfl, b3, b4⟩, a7, a8, a9, a10, a11.keep fun _ _ => rfl⟩
  · exact ⟨a1, a2, a3, a4, a5, ⟨b1, b2, by rw [show gU gy 13 j v 13 = (fun i => if i = j then v else gy 13 i) from rfl, ← b3]; rfl, b4⟩, a7, a8, a9, a10, a11.keep fun _ _ => rfl⟩
  · exact ⟨a1, a2, a3, a4, a5, ⟨b1, b2, b3, by rw [show gU gy 14 j v 14 = (fun i => if i = j then v else gy 14 i) from rfl, ← b4]; rfl⟩, a7, a8, a9, a10, a11.keep fun _ _ => rfl⟩
theorem openRule_x {st : Nat} {z : Zc} {M : Mem} (hX : XV T N q gx st [] z M) (hq : q < 16) : ∃ M', (∀ n, f3_openRule n M = some (0, M')) ∧ XV T N q (gU gx 19 (2 * q + 1) (nI z.1)) 2 [(13, 0)] z M' := by
  obtain ⟨M1, f1, x1⟩ := open_x (o := 13) (hX.wr (k := 19) (j := 2 * q + 1) (v := nI z.1) (Or.inl rfl)) trivial (Or.inr (Or.inl rfl)) (by decide)
  refine ⟨M1, fun n => ?_, x1⟩
  unfold f3_openRule b3_openRule_0 b3_openRule_26
  rw [hX.2.1, if_neg (show ¬ (16 : Int32) ≤ nI q from nI_ge (b := 16) hq (by decide)), show (2 : Int32) * nI q + (1 : Int32) = nI (2 * q + 1) by rw [show (2 : Int32) = nI 2 from rfl, pk_mul, nI_1], chk_in (by omega) (by decide), lt_v, nI_clamp (by omega), hX.2.2.2.2.2.1, bnd_id]
  exact f1 n
theorem condition_XY {st p nY : Nat} {z : Zc} {Mx My : Mem} (hn : 7000 ≤ nY) (hq : q < 16) (hst : st = 1 ∨ (st = 5 ∧ (p < N → so (T p) = 0))) (hX : XV T N q gx st [] z Mx) (hY : YV T N q gy p [] z My) (hz : z.1 ≤ p) (hzb : ∀ i, i < z.1 → z.2.1 i ≤ 12 ∧ z.2.2 i < 1048576) : CondOut T N q (gU gx 19 (2 * q + 1) (nI z.1)) gy z p Mx (f12_readsCondition nY My) := by
  have hN := hY.1.1
  have hpN := hY.1.2.1
  have hh := here_y hY nY
  have hst0 := fun (h : st = 5) n => settle_0 (r := 5) (by decide) (by decide) hX (by decide) (by decide) n
  have hin := fun n => inner_x hX (by decide) n
  unfold f12_readsCondition b12_readsCondition_0
  by_cases c40 : p < N ∧ T p = 40
  · obtain ⟨hp, c40⟩ := c40
    rw [if_pos hp, c40] at hh
    obtain ⟨M1, f1, x1⟩ := openRule_x hX hq
    have hst1 : XR N p Mx (p + 1) M1 := XR.step hX.1 hp (fun n hn => by
      rw [c40]
      rcases hst with rfl | ⟨rfl, w⟩
      · rw [rs1 hX n, if_pos (by decide)]
        exact f1 n
      · rw [gb_other (c := 40) (by decide) hn hX (by decide) (hst0 rfl n), bnd_e (hin n), if_pos (by decide), if_neg (by decide), if_pos rfl, if_pos (show nI (tpo []) = (15 : Int32) by decide)]
        exact f1 n)
    have hY0 : YV T N q gy p [] z (wI (wI My 0 16 0) 0 18 0) := by
      obtain ⟨a1, a2, a3, a4, a5, a6, a7, a8, a9, a10, a11⟩ := hY
      exact ⟨a1, a2, a3, a4, a5, a6, a7, rfl, rfl, a10, trivial⟩
    obtain ⟨M2, f2, y2⟩ := opens_y (o := 13) hY0 hp (by decide) (by decide) (Or.inr (Or.inl rfl)) nY
    rw [bnd_e hh, if_pos (by decide), lt_v, lt_v, bnd_e (show f12_opens nY (13 : Int32) (wI (wI My 0 16 0) 0 18 0) = some (1, M2) from f2), if_neg (by decide)]
    have key := (cond_loop (T := T) (N := N) (gx := gU gx 19 (2 * q + 1) (nI z.1)) (gy := gy) (zb := z) hq (N - (p + 1)) (p + 1) (by omega)).1 [(13, 0)] z (nY + 1) M1 M2 (by omega) x1 y2 (Or.inl ⟨rfl, rfl⟩) ⟨Or.inl (Or.inr (Or.inl rfl)), trivial⟩ (by decide) (by show z.1 + 0 ≤ p + 1; omega) (TQ.start z [(13, 0)] hzb (by simp))
    rw [e12_readsCondition_40] at key
    exact CondOut.from hst1 key
  · have bad : XF N p Mx ((-1000 : Int32) * nI 1 - nI p) := XF.bad hX.1 hpN hX.2.2.1 (by omega) (fun hp n hn => ⟨Mx, by
      have hc := hY.1.2.2 p hp
      have h40 : T p ≠ 40 := fun w => c40 ⟨hp, w⟩
      rcases hst with rfl | ⟨rfl, w⟩
      · rw [rs1 hX n, if_neg (show ¬ nI (T p) = (40 : Int32) from fun e => h40 ((nI_eq (b := 40) (by omega) (by decide)).mp e))]
      · rw [gb_other hc hn hX (w hp) (hst0 rfl n), bnd_e (hin n), show tpo [] = 15 from rfl, isc_x (by decide), bnd_s', if_neg h40, if_pos (show nI 15 = (15 : Int32) by decide), if_neg (show ¬ nI 15 = (14 : Int32) by decide), if_pos (show (if 7 ≤ 15 ∧ 15 ≤ 9 then (1 : Int32) else 0) = 0 by decide)]
        repeat' split
        all_goals rfl⟩)
    have hne : ¬ (if p < N then nI (T p) else -1) = (40 : Int32) := by
      by_cases hp : p < N
      · rw [if_pos hp]
        have hc := hY.1.2.2 p hp
        exact fun e => c40 ⟨hp, (nI_eq (b := 40) (by omega) (by decide)).mp e⟩
      · rw [if_neg hp]
        decide
    rw [bnd_e hh, if_neg hne, wrong_e, bnd_s', chk_t (by decide), hY.2.2.1]
    exact Or.inl ⟨_, _, rfl, rfl, bad⟩
def RuleOut (T : Nat → Nat) (N q : Nat) (p : Nat) (Mx : Mem) (o : Option (Int32 × Mem)) : Prop := (∃ f My', o = some (0, My') ∧ My'.1 0 14 = f ∧ XF N p Mx f) ∨ (∃ p' z' gx' gy' kd' st' hf' en' Mx' My', o = some (1, My') ∧ p < p' ∧ XR N p Mx p' Mx' ∧ XV T N (q + 1) gx' 7 [] z' Mx' ∧ YV T N (q + 1) gy' p' [] z' My' ∧ z'.1 ≤ p' ∧ LR (q + 1) z' kd' st' hf' en' gx' gy')
/-- the condition of a rule, and the rule's end -/
theorem rule_end {st0 p0 p nY c l0 : Nat} {z z1 : Zc} {gx0 gy0 : Nat → Nat → Int32} {kd st hf en : Nat → Nat} {Mx0 Mx My : Mem} (hn : 7000 ≤ nY) (hq : q < 16) (hc : c < 256) (hl0 : l0 = z.1) (hgx : gx = gU (gU gx0 20 q (nI c)) 19 (2 * q) (nI l0)) (hgy : gy = gU (gU gy0 11 q (nI c)) 12 q (nI l0)) (hL : LR q z kd st hf en gx0 gy0) (hz01 : z.1 ≤ z1.1) (hag : ∀ i, i < z.1 → z1.2.1 i = z.2.1 i ∧ z1.2.2 i = z.2.2 i) (hE : c ≠ 115 → Typ z1.2.1 z1.2.2 z.1 z1.1 false) (hst : st0 = 1 ∨ (st0 = 5 ∧ (p < N → so (T p) = 0))) (hX : XV T N q gx st0 [] z1 Mx) (hY : YV T N q gy p [] z1 My) (hz : z1.1 ≤ p) (hzb : ∀ i, i < z1.1 → z1.2.1 i ≤ 12 ∧ z1.2.2 i < 1048576) (hXR : XR N p0 Mx0 p Mx) : RuleOut T N q p0 Mx0 (b12_readsRule_110 (fun _ _ _ _ => none) nY My) := by
  have hN := hY.1.1
  have h01 := hXR.1
  unfold b12_readsRule_110
  rw [hY.2.2.2.2.1, chk_in hq (by decide), lt_v, nI_clamp (by omega), hY.2.2.2.2.2.2.1]
  have hY1 := hY.wr (k := 13) (j := q) (v := nI z1.1) (Or.inr (Or.inr (Or.inl rfl)))
  rcases condition_XY (nY := nY) hn hq hst hX hY1 hz hzb with ⟨f, My', k1, k2, k3⟩ | ⟨p', z', Mx', My', k1, k2, k3, k4, k5, k6, k7⟩
  · rw [bnd_e k1, if_pos rfl]
    exact Or.inl ⟨f, My', rfl, k2, hXR.fault k3⟩
  · have hY2 := k5.wr (k := 14) (j := q) (v := nI z'.1) (Or.inr (Or.inr (Or.inr rfl)))
    have hY3 : YV T N (q + 1) (gU (gU gy 13 q (nI z1.1)) 14 q (nI z'.1)) p' [] z' (wI (wI My' 14 q (nI z'.1)) 0 19 (nI (q + 1))) := by
      obtain ⟨a1, a2, a3, a4, a5, a6, a7, a8, a9, a10, a11⟩ := hY2
      exact ⟨a1, a2, a3, a4, rfl, a6, a7, a8, a9, a10, trivial⟩
    rw [bnd_e k1, if_neg (by decide), k5.2.2.2.2.1, chk_in hq (by decide), lt_v, lt_v, nI_clamp (by omega), k5.2.2.2.2.2.2.1, show (wI My' 14 q (nI z'.1)).1 0 19 = nI q from k5.2.2.2.2.1, nI_1]
    obtain ⟨b1, b2, b3, b4⟩ := hL
    have z1z := k7.1
    have ag2 : ∀ i, i < z.1 → z'.2.1 i = z.2.1 i ∧ z'.2.2 i = z.2.2 i := fun i hi => by
      have w1 := k7.2.1 i (by omega)
      have w2 := hag i hi
      exact ⟨w1.1.trans w2.1, w1.2.trans w2.2⟩
    have U : ∀ (f : Nat → Nat) (v r : Nat), r ≠ q → (if r = q then v else f r) = f r := fun f v r h => if_neg h
    refine Or.inr ⟨p', z', _, _, fun r => if r = q then c else kd r, fun r => if r = q then z.1 else st r, fun r => if r = q then z1.1 else hf r, fun r => if r = q then z'.1 else en r, Mx', _, rfl, by omega, hXR.trans k3, k4, hY3, k6, by omega, k7.2.2.1, fun _ => ?_, fun r hr => ?_⟩
    · show (if q + 1 - 1 = q then z'.1 else en (q + 1 - 1)) = z'.1
      rw [if_pos (by omega)]
    · subst hgx hgy hl0
      have X19 : ∀ j, gN (gU (gU (gU gx0 20 q (nI c)) 19 (2 * q) (nI z.1)) 19 (2 * q + 1) (nI z1.1)) q z'.1 19 j = if j = 2 * (q + 1) then nI z'.1 else if j = 2 * q + 1 then nI z1.1 else if j = 2 * q then nI z.1 else gx0 19 j := fun j => rfl
      have X20 : ∀ j, gN (gU (gU (gU gx0 20 q (nI c)) 19 (2 * q) (nI z.1)) 19 (2 * q + 1) (nI z1.1)) q z'.1 20 j = if j = q then nI c else gx0 20 j := fun j => rfl
      have Y11 : ∀ j, gU (gU (gU (gU gy0 11 q (nI c)) 12 q (nI z.1)) 13 q (nI z1.1)) 14 q (nI z'.1) 11 j = if j = q then nI c else gy0 11 j := fun j => rfl
      have Y12 : ∀ j, gU (gU (gU (gU gy0 11 q (nI c)) 12 q (nI z.1)) 13 q (nI z1.1)) 14 q (nI z'.1) 12 j = if j = q then nI z.1 else gy0 12 j := fun j => rfl
      have Y13 : ∀ j, gU (gU (gU (gU gy0 11 q (nI c)) 12 q (nI z.1)) 13 q (nI z1.1)) 14 q (nI z'.1) 13 j = if j = q then nI z1.1 else gy0 13 j := fun j => rfl
      have Y14 : ∀ j, gU (gU (gU (gU gy0 11 q (nI c)) 12 q (nI z.1)) 13 q (nI z1.1)) 14 q (nI z'.1) 14 j = if j = q then nI z'.1 else gy0 14 j := fun j => rfl
      rw [X19, X19, X19, X20, Y11, Y12, Y13, Y14]
      by_cases e : r = q
      · subst e
        simp only [if_true]
        refine ⟨⟨hc, trivial, trivial⟩, ⟨hz01, z1z, Nat.le_refl _⟩, ⟨?_, ?_, ?_⟩, ⟨trivial, trivial, trivial⟩, fun h => (hE h).cong (fun i _ h2 => k7.2.1 i h2), k7.typ⟩
        · rw [if_neg (by omega), if_neg (by omega)]
        · rw [if_neg (by omega)]
        · rw [if_pos (by omega)]
      · have hr' : r < q := by omega
        obtain ⟨d1, d2, d3, d4, d5, d6⟩ := b4 r hr'
        simp only [e, if_false]
        refine ⟨d1, ⟨d2.1, d2.2.1, by omega⟩, ⟨?_, ?_, ?_⟩, d4, fun h => (d5 h).cong (fun i _ h2 => ag2 i (by omega)), d6.cong (fun i _ h2 => ag2 i (by omega))⟩
        · rw [if_neg (by omega), if_neg (by omega), if_neg (by omega)]; exact d3.1
        · rw [if_neg (by omega), if_neg (by omega), if_neg (by omega)]; exact d3.2.1
        · rw [if_neg (by omega), if_neg (by omega)]
          by_cases e2 : 2 * r + 2 = 2 * q
          · rw [if_pos e2]
            have := b3 (by omega)
            rw [show q - 1 = r by omega] at this
            rw [this]
          · rw [if_neg e2]; exact d3.2.2
theorem rule_XY {p nY : Nat} {z : Zc} {kd st hf en : Nat → Nat} {Mx My : Mem} (hn : 7500 ≤ nY) (hX : XV T N q gx 0 [] z Mx) (hY : YV T N q gy p [] z (wI (wI My 0 16 0) 0 18 0)) (hz : z.1 ≤ p) (hL : LR q z kd st hf en gx gy) : RuleOut T N q p Mx (f12_readsRule nY My) := by
  have hN := hY.1.1
  have hpN := hY.1.2.1
  have hq16 := hL.1
  have y12 : My.1 0 12 = nI p := hY.2.2.1
  have y19 : My.1 0 19 = nI q := hY.2.2.2.2.1
  have hh : f12_here nY My = some (if p < N then nI (T p) else -1, My) := here_e (by omega) hY.2.1 y12 hY.2.2.2.1 hpN
  unfold f12_readsRule b12_readsRule_0
  by_cases hp : p < N
  · have hc := hY.1.2.2 p hp
    rw [if_pos hp] at hh
    rw [bnd_e hh]
    have L : ∀ k, k < 256 → (nI (T p) = nI k) = (T p = k) := fun k hk => propext (nI_eq (by omega) (by omega))
    by_cases hk : T p = 99 ∨ T p = 101 ∨ T p = 115
    · have toY : (if nI (T p) = (99 : Int32) then b12_readsRule_33 (fun _ _ _ _ => none) nY (nI (T p)) My else if nI (T p) = (101 : Int32) then b12_readsRule_33 (fun _ _ _ _ => none) nY (nI (T p)) My else if nI (T p) = (115 : Int32) then b12_readsRule_33 (fun _ _ _ _ => none) nY (nI (T p)) My else bnd (f12_wrongAt nY (1 : Int32) (My.1 0 12) My) fun r7 M8 => chk (isb r7) <| some (r7, M8)) = b12_readsRule_33 (fun _ _ _ _ => none) nY (nI (T p)) My := by
        rcases hk with w | w | w <;> rw [w] <;> rfl
      have toX : ∀ n, f3_readSign n (nI (T p)) Mx = b3_beginRule_20 (fun _ _ _ _ => none) n (nI (T p)) Mx := fun n => by
        rw [rs0 hX n]
        unfold f3_beginRule b3_beginRule_0
        rcases hk with w | w | w <;> rw [w] <;> rfl
      rw [toY]
      unfold b12_readsRule_33
      by_cases hq : q = 16
      · rw [y19, if_pos (by rw [hq]; rfl), wrong_e, bnd_s', chk_t (by decide), y12]
        refine Or.inl ⟨_, _, rfl, rfl, XF.sign (k := 4) hX.1 hp (by decide) (by decide) (fun n _ => ⟨Mx, ?_⟩)⟩
        rw [toX n]
        unfold b3_beginRule_20
        rw [hX.2.1, hq, if_neg (by decide)]
        rfl
      · have hq' : q < 16 := by omega
        have hX1 := (hX.wr (k := 20) (j := q) (v := nI (T p)) (Or.inr rfl)).wr (k := 19) (j := 2 * q) (v := nI z.1) (Or.inl rfl)
        have bx : ∀ k : Nat, (T p = 115 → k = 1) → (T p ≠ 115 → k = 3) → ∀ n, f3_readSign n (nI (T p)) Mx = some (0, wI (wI (wI Mx 20 q (nI (T p))) 19 (2 * q) (nI z.1)) 17 9 (nI k)) := by
          intro k k1 k3 n
          rw [toX n]
          unfold b3_beginRule_20 b3_beginRule_68
          rw [hX.2.1, if_pos (show nI q < (16 : Int32) from nI_lt (b := 16) hq' (by decide)), chk_in hq' (by decide), lt_v, nI_clamp (by omega), show (wI Mx 20 q (nI (T p))).1 17 5 = nI q from hX.2.1, show (2 : Int32) * nI q = nI (2 * q) from pk_mul 2 q, chk_in (by omega) (by decide), lt_v, nI_clamp (by omega), show (wI Mx 20 q (nI (T p))).1 17 6 = nI z.1 from hX.2.2.2.2.2.1]
          by_cases c : T p = 115
          · rw [if_pos (show nI (T p) = (115 : Int32) by rw [c]; rfl), lt_v, k1 c]; rfl
          · rw [if_neg (show ¬ nI (T p) = (115 : Int32) from fun e => c ((nI_eq (b := 115) (by omega) (by decide)).mp e)), lt_v, k3 c]; rfl
        have hY1 : YV T N q (gU (gU gy 11 q (nI (T p))) 12 q (nI z.1)) (p + 1) [] z (wI (wI (wI (wI (wI My 11 q (nI (T p))) 0 12 (nI (p + 1))) 12 q (nI z.1)) 0 16 0) 0 18 0) := by
          have w := ((hY.wr (k := 11) (j := q) (v := nI (T p)) (Or.inl rfl)).next hp).wr (k := 12) (j := q) (v := nI z.1) (Or.inr (Or.inl rfl))
          obtain ⟨a1, a2, a3, a4, a5, a6, a7, a8, a9, a10, a11⟩ := w
          exact ⟨a1, a2, a3, a4, a5, a6, a7, rfl, rfl, a10, trivial⟩
        rw [y19, if_neg (show ¬ nI q = (16 : Int32) from fun e => hq ((nI_eq (b := 16) (by omega) (by decide)).mp e)), chk_in hq' (by decide), lt_v, lt_v, nI_clamp (by omega), show (wI My 11 q (nI (T p))).1 0 12 = nI p from hY.2.2.1, nI_1, show (wI (wI My 11 q (nI (T p))) 0 12 (nI (p + 1))).1 0 19 = nI q from hY.2.2.2.2.1, chk_in hq' (by decide), lt_v, lt_v, lt_v, nI_clamp (by omega), show (wI (wI My 11 q (nI (T p))) 0 12 (nI (p + 1))).1 0 17 = nI z.1 from hY.2.2.2.2.2.2.1]
        by_cases c : T p = 115
        · rw [if_pos (show nI (T p) = (115 : Int32) by rw [c]; rfl)]
          exact rule_end (z := z) (z1 := z) (gx0 := gx) (gy0 := gy) (by omega) hq' hc rfl rfl rfl hL (Nat.le_refl _) (fun _ _ => ⟨rfl, rfl⟩) (fun w => absurd c w) (Or.inl rfl) (hX1.st_to 1) hY1 (by omega) hL.2.1 (XR.step hX.1 hp (fun n _ => bx 1 (fun _ => rfl) (fun w => absurd c w) n))
        · rw [if_neg (show ¬ nI (T p) = (115 : Int32) from fun e => c ((nI_eq (b := 115) (by omega) (by decide)).mp e))]
          have hst1 := XR.step hX.1 hp (fun n _ => bx 3 (fun w => absurd w c) (fun _ => rfl) n)
          rcases sum_XY (cc := 0) (zb := z) (nY := nY) (RX := []) (RY := []) (by decide) (by decide) (by decide) (Or.inl rfl) rfl (Nat.le_refl _) (Or.inl rfl) (by omega) (hX1.st_to 3) hY1 trivial (by decide) (by show z.1 + 0 ≤ p + 1; omega) (TQ.start z [] hL.2.1 (by simp)) with ⟨f, My1, k1, k2, k3⟩ | ⟨p1, z1, X1, Y1, k1, k2, k3, k4, k5, k6, k7, k8⟩
          · rw [bnd_e k1, if_pos rfl]
            exact Or.inl ⟨f, My1, rfl, k2, hst1.fault k3⟩
          · rw [bnd_e k1, if_neg (by decide)]
            exact rule_end (z := z) (z1 := z1) (gx0 := gx) (gy0 := gy) (by omega) hq' hc rfl rfl rfl hL k7.1 k7.2.1 (fun _ => k7.typ) (Or.inr ⟨rfl, k8⟩) k4 k5 (by simpa [wt] using k6) k7.2.2.1 (hst1.trans k3)
    · have n1 : (nI (T p) = (99 : Int32)) = False := eq_false (fun w => hk (Or.inl ((nI_eq (b := 99) (by omega) (by decide)).mp w)))
      have n2 : (nI (T p) = (101 : Int32)) = False := eq_false (fun w => hk (Or.inr (Or.inl ((nI_eq (b := 101) (by omega) (by decide)).mp w))))
      have n3 : (nI (T p) = (115 : Int32)) = False := eq_false (fun w => hk (Or.inr (Or.inr ((nI_eq (b := 115) (by omega) (by decide)).mp w))))
      simp only [n1, n2, n3, if_false]
      rw [wrong_e, bnd_s', chk_t (by decide), y12]
      refine Or.inl ⟨_, _, rfl, rfl, XF.bad hX.1 hpN hX.2.2.1 (by decide) (fun _ n _ => ⟨Mx, ?_⟩)⟩
      rw [rs0 hX n]
      unfold f3_beginRule b3_beginRule_0
      simp only [n1, n2, n3, if_false]
  · rw [if_neg hp] at hh
    rw [bnd_e hh, if_neg (by decide), if_neg (by decide), if_neg (by decide), wrong_e, bnd_s', chk_t (by decide), y12]
    exact Or.inl ⟨_, _, rfl, rfl, XF.bad hX.1 hpN hX.2.2.1 (by decide) (fun w => absurd w hp)⟩
theorem YV.zero {p : Nat} {z : Zc} {M : Mem} (h : YV T N q gy p [] z M) : YV T N q gy p [] z (wI (wI M 0 16 0) 0 18 0) := by
  obtain ⟨a1, a2, a3, a4, a5, a6, a7, a8, a9, a10, a11⟩ := h
  exact ⟨a1, a2, a3, a4, a5, a6, a7, rfl, rfl, a10, trivial⟩
end RL
