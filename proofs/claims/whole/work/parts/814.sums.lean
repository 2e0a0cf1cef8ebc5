/-! THE LAW's reader: numbers, factors, sums, both at a time -/
section FA
variable {T : Nat → Nat} {N q : Nat} {gx gy : Nat → Nat → Int32}
theorem num_XY {s sy : St} {z : Zc} {fr : Nat} : ∀ (d p num nY : Nat) (Mx My : Mem), p + d = N → fr < p → p ≤ fr + 5 → num < 10 ^ (p - fr) → d + 10 < nY → z.1 < 240 → XV T N q gx 4 s z Mx → Mx.1 17 10 = nI num → Mx.1 17 11 = nI (p - fr) → YV T N q gy p sy z My → My.1 0 15 = nI num → (∃ f My', r12_readsNumber nY 10 [nI fr] [] My = some (0, My') ∧ My'.1 0 14 = f ∧ XF N p Mx f) ∨ (∃ p' v Mx' My', r12_readsNumber nY 10 [nI fr] [] My = some (1, My') ∧ p ≤ p' ∧ p' ≤ N ∧ v < 1048576 ∧ My'.1 0 15 = nI v ∧ YV T N q gy p' sy z My' ∧ XR N p Mx p' Mx' ∧ XV T N q gx 5 s (adz z 0 v) Mx') := by
  intro d
  induction d with
  | zero =>
    intro p num nY Mx My h1 h2 h3 h4 h5 hz hX x10 x11 hY y15
    obtain ⟨nY, rfl⟩ : ∃ n', nY = n' + 1 := ⟨nY - 1, by omega⟩
    have hp5 : (10 : Nat) ^ (p - fr) ≤ 10 ^ 5 := Nat.pow_le_pow_right (by decide) (by omega)
    obtain ⟨M', v1, v2⟩ := rs4n hX x10 (by omega) hz
    refine Or.inr ⟨p, num, M', My, ?_, Nat.le_refl _, by omega, by omega, y15, hY, XR.same hX.1 v1.1 (by omega) (fun c => by omega) hX.2.2.1 (by decide) v1.2.2.1 (by decide), v1⟩
    rw [e12_readsNumber_10]
    unfold b12_readsNumber_10
    have hd := digit_y hY nY
    rw [if_neg (by omega)] at hd
    rw [bnd_e hd, if_pos rfl]
  | succ d ih =>
    intro p num nY Mx My h1 h2 h3 h4 h5 hz hX x10 x11 hY y15
    obtain ⟨nY, rfl⟩ : ∃ n', nY = n' + 1 := ⟨nY - 1, by omega⟩
    have hN := hY.1.1
    have hpN : p < N := by omega
    have hc := hY.1.2.2 p hpN
    have hp5 : (10 : Nat) ^ (p - fr) ≤ 10 ^ 5 := Nat.pow_le_pow_right (by decide) (by omega)
    rw [e12_readsNumber_10]
    unfold b12_readsNumber_10
    by_cases cd : dgt (T p) = true
    · have cd' := cd
      simp only [dgt, Bool.and_eq_true, decide_eq_true_eq] at cd'
      have hd := digit_y hY nY
      rw [if_pos ⟨hpN, cd⟩] at hd
      rw [bnd_e hd, if_neg (by decide), hY.2.2.1, show nI fr + (5 : Int32) = nI (fr + 5) from nI_add fr 5]
      by_cases c5 : p = fr + 5
      · refine Or.inl ⟨_, wI My 0 14 ((-1000 : Int32) * nI 2 - nI p), ?_, rfl, XF.sign hX.1 hpN (by decide) (by decide) (fun n _ => ⟨Mx, ?_⟩)⟩
        · rw [if_pos (by rw [c5]), wrong_e, bnd_s', chk_t (by decide)]
          rfl
        · rw [rs4d hX n hc cd]
          unfold f3_goOnNumber b3_goOnNumber_0
          rw [x11, if_neg (show ¬ nI (p - fr) < (5 : Int32) from nI_nlt (b := 5) (by omega) (by omega))]
          rfl
      · have hh := here_y hY nY
        rw [if_pos hpN] at hh
        have ev : (10 : Int32) * nI num + nI (T p) - (48 : Int32) = nI (10 * num + (T p - 48)) := by
          rw [show (10 : Int32) = nI 10 from rfl, pk_mul, nI_add, show (48 : Int32) = nI 48 from rfl, pk_sub (by omega)]
          congr 1
          omega
        have hX1 : XV T N q gx 4 s z (wI (wI Mx 17 10 (nI (10 * num + (T p - 48)))) 17 11 (nI (p + 1 - fr))) := by
          obtain ⟨a1, a2, a3, a4, a5, a6, a7, a8, a9, a10⟩ := hX
          exact ⟨a1, a2, a3, a4, a5, a6, a7, a8, a9, a10.keep fun j _ => ⟨rfl, rfl⟩⟩
        have hY1 : YV T N q gy (p + 1) sy z (wI (wI My 0 15 (nI (10 * num + (T p - 48)))) 0 12 (nI (p + 1))) := by
          obtain ⟨a1, a2, a3, a4, a5, a6, a7, a8, a9, a10, a11⟩ := hY
          exact ⟨⟨a1.1, hpN, a1.2.2⟩, a2, rfl, a4, a5, a6, a7, a8, a9, a10, a11.keep fun _ _ => rfl⟩
        have hst : XR N p Mx (p + 1) (wI (wI Mx 17 10 (nI (10 * num + (T p - 48)))) 17 11 (nI (p + 1 - fr))) := XR.step hX.1 hpN (fun n _ => by
          rw [rs4d hX n hc cd]
          unfold f3_goOnNumber b3_goOnNumber_0
          rw [x11, if_pos (show nI (p - fr) < (5 : Int32) from nI_lt (b := 5) (by omega) (by decide)), x10, ev, lt_v, lt_v, show (wI Mx 17 10 (nI (10 * num + (T p - 48)))).1 17 11 = nI (p - fr) from x11, nI_1, show p - fr + 1 = p + 1 - fr by omega])
        have key := ih (p + 1) (10 * num + (T p - 48)) nY _ _ (by omega) (by omega) (by omega) (by
          rw [show p + 1 - fr = (p - fr) + 1 by omega, Nat.pow_succ]
          omega) (by omega) hz hX1 rfl rfl hY1 rfl
        rw [if_neg (show ¬ nI p = nI (fr + 5) from fun e => c5 ((nI_eq (by omega) (by omega)).mp e)), bnd_e hh, y15, ev, lt_v, lt_v, show (wI My 0 15 (nI (10 * num + (T p - 48)))).1 0 12 = nI p from hY.2.2.1, nI_1]
        rcases key with ⟨f, My', k1, k2, k3⟩ | ⟨p', v, Mx', My', k1, k2, k3, k4, k5, k6, k7, k8⟩
        · exact Or.inl ⟨f, My', k1, k2, hst.fault k3⟩
        · exact Or.inr ⟨p', v, Mx', My', k1, by omega, k3, k4, k5, k6, hst.trans k7, k8⟩
    · obtain ⟨M', v1, v2⟩ := rs4n hX x10 (by omega) hz
      refine Or.inr ⟨p, num, M', My, ?_, Nat.le_refl _, by omega, by omega, y15, hY, XR.same hX.1 v1.1 (by omega) (fun c n _ => v2 n (T p) hc cd) hX.2.2.1 (by decide) v1.2.2.1 (by decide), v1⟩
      have hd := digit_y hY nY
      rw [if_neg (fun e => cd e.2)] at hd
      rw [bnd_e hd, if_pos rfl]
theorem fac_x {st : Nat} {s : St} {z : Zc} {M : Mem} {c : Nat} (h : XV T N q gx st s z M) (hc : c < 256) (hst : st = 3 ∨ (st = 2 ∧ (c ≠ 33 ∧ c ≠ 40))) (n : Nat) : f3_readSign n (nI c) M = f3_beginFactor n (nI c) M := by
  rcases hst with rfl | ⟨rfl, h1, h2⟩
  · exact rs3 h n _
  · rw [rs2 h n]
    unfold f3_beginTest b3_beginTest_0
    rw [if_neg (c := nI _ = (33 : Int32)) (fun e => h1 ((nI_eq (b := 33) (by omega) (by decide)).mp e)), if_neg (c := nI _ = (40 : Int32)) (fun e => h2 ((nI_eq (b := 40) (by omega) (by decide)).mp e)), bnd_id]
theorem factor_loop : ∀ (d p st : Nat) (s sy : St) (z : Zc) (nY : Nat) (Mx My : Mem), p + d = N → (st = 3 ∨ (st = 2 ∧ (p < N → T p ≠ 33 ∧ T p ≠ 40))) → d + 1000 < nY → XV T N q gx st s z Mx → YV T N q gy p sy z My → oc s = oc sy → oc s ≤ 6 → Sh s → sy.length ≤ s.length → z.1 + wt s ≤ p → (∃ f My', r12_readsFactor nY 0 [] [] My = some (0, My') ∧ My'.1 0 14 = f ∧ XF N p Mx f) ∨ (∃ B p' o v Mx' My', r12_readsFactor nY 0 [] [] My = some (1, My') ∧ (∀ e, e ∈ B → e = (14, 0)) ∧ oc (B ++ s) ≤ 6 ∧ Sh (B ++ s) ∧ p < p' ∧ p' ≤ N ∧ o ≤ 1 ∧ v < 1048576 ∧ (o = 1 → v < 9) ∧ z.1 + 1 + wt s ≤ p' ∧ XR N p Mx p' Mx' ∧ XV T N q gx 5 (B ++ s) (adz z o v) Mx' ∧ YV T N q gy p' (B ++ sy) (adz z o v) My') := by
  intro d
  induction d with
  | zero =>
    intro p st s sy z nY Mx My h1 hst h2 hX hY ho ho6 hS hl hw
    obtain ⟨nY, rfl⟩ : ∃ n', nY = n' + 1 := ⟨nY - 1, by omega⟩
    have hp : ¬ p < N := by omega
    have hh := here_y hY nY
    rw [if_neg hp] at hh
    have hd := digit_y hY nY
    rw [if_neg (fun e => hp e.1)] at hd
    refine Or.inl ⟨_, wI My 0 14 ((-1000 : Int32) * nI 1 - nI p), ?_, rfl, XF.bad hX.1 (by omega) hX.2.2.1 (by omega) (fun c => absurd c hp)⟩
    rw [e12_readsFactor_0]
    unfold b12_readsFactor_0
    rw [bnd_e hh, if_neg (by decide), bnd_e hd, if_pos rfl, bnd_e hh, show f12_factOf nY (-1) My = some (-1, My) from rfl, bnd_s', if_pos rfl, wrong_e, bnd_s', chk_t (by decide), hY.2.2.1]
    rfl
  | succ d ih =>
    intro p st s sy z nY Mx My h1 hst h2 hX hY ho ho6 hS hl hw
    obtain ⟨nY, rfl⟩ : ∃ n', nY = n' + 1 := ⟨nY - 1, by omega⟩
    have hN := hY.1.1
    have hp : p < N := by omega
    have hc := hY.1.2.2 p hp
    have hh := here_y hY nY
    rw [if_pos hp] at hh
    have hd := digit_y hY nY
    have hsl := hS.le ho6
    have fx := fac_x hX hc (hst.imp id fun e => ⟨e.1, e.2 hp⟩)
    rw [e12_readsFactor_0]
    unfold b12_readsFactor_0
    rw [bnd_e hh]
    by_cases c91 : T p = 91
    · have e91 : nI (T p) = (91 : Int32) := by rw [c91]; rfl
      have bx : ∀ n, f3_readSign n (nI (T p)) Mx = f3_open n (nI 14) Mx := fun n => by
        rw [fx n]
        unfold f3_beginFactor b3_beginFactor_0
        rw [if_pos e91, bnd_id]
        rfl
      rw [if_pos e91]
      by_cases c6 : oc s < 6
      · obtain ⟨M1, f1, x1⟩ := open_x (o := 14) hX hS (Or.inr (Or.inr rfl)) c6
        obtain ⟨M2, f2, y1⟩ := opens_y (o := 14) hY hp (by omega) (by omega) (Or.inr (Or.inr rfl)) nY
        have hst1 : XR N p Mx (p + 1) M1 := XR.step hX.1 hp (fun n _ => by rw [bx n]; exact f1 n)
        have o1 : oc (((14, 0) : Nat × Nat) :: s) = oc s + 1 := rfl
        have o2 : oc (((14, 0) : Nat × Nat) :: sy) = oc sy + 1 := rfl
        have w1 : wt (((14, 0) : Nat × Nat) :: s) = wt s := rfl
        have key := ih (p + 1) 3 ((14, 0) :: s) ((14, 0) :: sy) z nY M1 M2 (by omega) (Or.inl rfl) (by omega) x1 y1 (by omega) (by omega) ⟨Or.inl (Or.inr (Or.inr rfl)), hS⟩ (by simp only [List.length_cons]; omega) (by omega)
        rw [bnd_e (show f12_opens nY (14 : Int32) My = some (1, M2) from f2), if_neg (by decide)]
        rcases key with ⟨f, My', k1, k2, k3⟩ | ⟨B, p', o, v, Mx', My', k1, k2, k3, k4, k5, k6, k7, k8, k9, k10, k11, k12, k13⟩
        · exact Or.inl ⟨f, My', k1, k2, hst1.fault k3⟩
        · have ea : ∀ r : St, B ++ (((14, 0) : Nat × Nat) :: r) = (B ++ [(14, 0)]) ++ r := fun r => by simp
          rw [ea] at k3 k4 k12 k13
          refine Or.inr ⟨B ++ [(14, 0)], p', o, v, Mx', My', k1, fun e he => ?_, k3, k4, by omega, k6, k7, k8, k9, by omega, hst1.trans k11, k12, k13⟩
          simp only [List.mem_append, List.mem_singleton] at he
          exact he.elim (k2 e) id
      · refine Or.inl ⟨_, wI My 0 14 ((-1000 : Int32) * nI 5 - nI p), ?_, rfl, XF.sign hX.1 hp (by decide) (by decide) (fun n _ => ⟨Mx, by rw [bx n]; exact open_no hX (by omega) (by omega) n⟩)⟩
        rw [opens_no hY (by omega) nY, bnd_s', if_pos rfl]
    · have e91 : ¬ nI (T p) = (91 : Int32) := fun e => c91 ((nI_eq (b := 91) (by omega) (by decide)).mp e)
      rw [if_neg e91]
      by_cases cd : dgt (T p) = true
      · have cd' := cd
        simp only [dgt, Bool.and_eq_true, decide_eq_true_eq] at cd'
        rw [if_pos ⟨hp, cd⟩] at hd
        have ec : nI (T p) - (48 : Int32) = nI (T p - 48) := pk_sub (b := 48) (by omega)
        have hX1 : XV T N q gx 4 s z (wI (wI (wI Mx 17 10 (nI (T p - 48))) 17 11 (nI 1)) 17 9 (nI 4)) := by
          obtain ⟨a1, a2, a3, a4, a5, a6, a7, a8, a9, a10⟩ := hX
          exact ⟨a1, a2, rfl, a4, a5, a6, a7, a8, a9, a10.keep fun j _ => ⟨rfl, rfl⟩⟩
        have hY1 : YV T N q gy (p + 1) sy z (wI (wI (wI My 0 15 0) 0 15 (nI (T p - 48))) 0 12 (nI (p + 1))) := by
          obtain ⟨a1, a2, a3, a4, a5, a6, a7, a8, a9, a10, a11⟩ := hY
          exact ⟨⟨a1.1, hp, a1.2.2⟩, a2, rfl, a4, a5, a6, a7, a8, a9, a10, a11.keep fun _ _ => rfl⟩
        have hst1 : XR N p Mx (p + 1) (wI (wI (wI Mx 17 10 (nI (T p - 48))) 17 11 (nI 1)) 17 9 (nI 4)) := XR.step hX.1 hp (fun n _ => by
          rw [fx n]
          have hdx := digit_X (n := n) (X := Mx) hc
          rw [if_pos cd] at hdx
          unfold f3_beginFactor b3_beginFactor_0
          rw [if_neg e91, bnd_e hdx, if_neg (by decide), ec, lt_v, lt_v, lt_v]
          rfl)
        have key := num_XY (fr := p) d (p + 1) (T p - 48) nY _ _ (by omega) (by omega) (by omega) (by
          rw [show p + 1 - p = 1 by omega]
          omega) (by omega) (by omega) hX1 rfl (by rw [show p + 1 - p = 1 by omega]; rfl) hY1 rfl
        have hY0 : YV T N q gy p sy z (wI My 0 15 0) := by
          obtain ⟨a1, a2, a3, a4, a5, a6, a7, a8, a9, a10, a11⟩ := hY
          exact ⟨a1, a2, a3, a4, a5, a6, a7, a8, a9, a10, a11.keep fun _ _ => rfl⟩
        have hd0 := digit_y hY0 nY
        have hh0 := here_y hY0 nY
        rw [if_pos ⟨hp, cd⟩] at hd0
        rw [if_pos hp] at hh0
        have ey : f12_readsNumber nY My = r12_readsNumber nY 10 [nI p] [] (wI (wI (wI My 0 15 0) 0 15 (nI (T p - 48))) 0 12 (nI (p + 1))) := by
          unfold f12_readsNumber b12_readsNumber_0 b12_readsNumber_10
          rw [lt_v, lt_v, hY.2.2.1, bnd_e hd0, if_neg (by decide), show (wI My 0 15 0).1 0 12 = nI p from hY.2.2.1, show nI p + (5 : Int32) = nI (p + 5) from nI_add p 5, if_neg (show ¬ nI p = nI (p + 5) from fun e => by have := (nI_eq (by omega) (by omega)).mp e; omega), bnd_e hh0, show (wI My 0 15 0).1 0 15 = 0 from rfl, show (10 : Int32) * 0 + nI (T p) - (48 : Int32) = nI (T p - 48) by
            rw [show (10 : Int32) * 0 = nI 0 from rfl, nI_add, Nat.zero_add]; exact ec, lt_v, lt_v, show (wI (wI My 0 15 0) 0 15 (nI (T p - 48))).1 0 12 = nI p from hY.2.2.1, nI_1]
        rw [bnd_e hd, if_neg (by decide), ey]
        rcases key with ⟨f, My', k1, k2, k3⟩ | ⟨p', v, Mx', My', k1, k2, k3, k4, k5, k6, k7, k8⟩
        · refine Or.inl ⟨f, My', ?_, k2, hst1.fault k3⟩
          rw [bnd_e k1, if_pos rfl]
        · obtain ⟨M3, f3, y3, _⟩ := codes_y (o := 0) (v := v) k6 (by omega) nY
          refine Or.inr ⟨[], p', 0, v, Mx', M3, ?_, by simp, ho6, hS, by omega, k3, by decide, k4, fun e => absurd e (by decide), by omega, hst1.trans k7, k8, y3⟩
          rw [bnd_e k1, if_neg (by decide), k5, bnd_e (show f12_codesOf nY (0 : Int32) (nI v) My' = some ((), M3) from f3)]
      · rw [if_neg (fun e => cd e.2)] at hd
        rw [bnd_e hd, if_pos rfl, bnd_e hh, bnd_e (fact_y hc)]
        have bx : ∀ n, 900 ≤ n → f3_readSign n (nI (T p)) Mx = (bnd (some (if fo (T p) < 9 then nI (fo (T p)) else -1, Mx)) fun r6 M7 => if 0 ≤ r6 then (bnd (f3_add n 1 r6 M7) fun r10 M11 => lt (wI M11 17 9 5) fun M13 => some (0, M13)) else some (1, M7)) := fun n hn => by
          rw [fx n]
          have hdx := digit_X (n := n) (X := Mx) hc
          rw [if_neg cd] at hdx
          unfold f3_beginFactor b3_beginFactor_0
          rw [if_neg e91, bnd_e hdx, if_pos rfl, idx0 hc (by omega)]
        by_cases c9 : fo (T p) < 9
        · obtain ⟨M1, f1, x1⟩ := add_x (o := 1) (v := fo (T p)) hX (by omega) (by decide) (by omega)
          obtain ⟨M3, f3, y3, _⟩ := codes_y (o := 1) (v := fo (T p)) hY (by omega) nY
          refine Or.inr ⟨[], p + 1, 1, fo (T p), _, _, ?_, by simp, ho6, hS, by omega, by omega, by decide, by omega, fun _ => c9, by omega, XR.step hX.1 hp (fun n hn => ?_), x1.st_to 5, y3.next hp⟩
          · rw [if_pos c9, if_neg (nI_m1 (by omega)), bnd_e (show f12_codesOf nY (1 : Int32) (nI (fo (T p))) My = some ((), M3) from f3), lt_v, y3.2.2.1, nI_1]
          · rw [bx n hn, bnd_s', if_pos c9, if_pos (nI_pos' (by omega)), bnd_e (show f3_add n (1 : Int32) (nI (fo (T p))) Mx = some ((), M1) from f1 n), lt_v]
            rfl
        · refine Or.inl ⟨_, wI My 0 14 ((-1000 : Int32) * nI 1 - nI p), ?_, rfl, XF.bad hX.1 (by omega) hX.2.2.1 (by omega) (fun _ n hn => ⟨Mx, ?_⟩)⟩
          · rw [if_neg c9, if_pos rfl, wrong_e, bnd_s', chk_t (by decide), hY.2.2.1]
            rfl
          · rw [bx n hn, bnd_s', if_neg c9, if_neg (by decide)]
theorem factor_XY {d p st : Nat} {s sy : St} {z : Zc} {nY : Nat} {Mx My : Mem} (h1 : p + d = N) (hst : st = 3 ∨ (st = 2 ∧ (p < N → T p ≠ 33 ∧ T p ≠ 40))) (hn : 1500 ≤ nY) (hX : XV T N q gx st s z Mx) (hY : YV T N q gy p sy z My) (ho : oc s = oc sy) (ho6 : oc s ≤ 6) (hS : Sh s) (hl : sy.length ≤ s.length) (hw : z.1 + wt s ≤ p) : (∃ f My', f12_readsFactor nY My = some (0, My') ∧ My'.1 0 14 = f ∧ XF N p Mx f) ∨ (∃ B p' o v Mx' My', f12_readsFactor nY My = some (1, My') ∧ (∀ e, e ∈ B → e = (14, 0)) ∧ oc (B ++ s) ≤ 6 ∧ Sh (B ++ s) ∧ p < p' ∧ p' ≤ N ∧ o ≤ 1 ∧ v < 1048576 ∧ (o = 1 → v < 9) ∧ z.1 + 1 + wt s ≤ p' ∧ XR N p Mx p' Mx' ∧ XV T N q gx 5 (B ++ s) (adz z o v) Mx' ∧ YV T N q gy p' (B ++ sy) (adz z o v) My') := by
  have := hY.1.1
  have key := factor_loop d p st s sy z (nY + 1) Mx My h1 hst (by omega) hX hY ho ho6 hS hl hw
  rw [e12_readsFactor_0] at key
  exact key
theorem tpo_app {A R : St} {r : Nat} (hA : A = [] ∨ rkN (tpo A) < r) (hR : rkN (tpo R) < r) : rkN (tpo (A ++ R)) < r := by
  cases A with
  | nil => exact hR
  | cons e A => exact hA.resolve_left (by simp)
theorem rk_ar {o : Nat} (h : 2 ≤ o ∧ o ≤ 6) : 5 ≤ rkN o := by
  unfold rkN
  repeat' split
  all_goals omega
theorem rk_so (b : Nat) (h : so b ≠ 0) : rkN (so b) = if so b < 4 then 5 else 6 := by
  have := (so_in b).resolve_left h
  unfold rkN
  repeat' split
  all_goals omega
theorem rk_6 {o : Nat} (h : 6 ≤ rkN o) : 4 ≤ o ∧ o ≤ 6 := by
  unfold rkN at h
  repeat' split at h
  all_goals omega
theorem rk_5 {o : Nat} (h : 5 ≤ rkN o) : 2 ≤ o ∧ o ≤ 6 := by
  unfold rkN at h
  repeat' split at h
  all_goals omega
/-- a sign of sums behind a factor -/
theorem gb_sum {s : St} {z : Zc} {M M1 M2 : Mem} {c n : Nat} (hc : c < 256) (hn : 900 ≤ n) (hX : XV T N q gx 5 s z M) (h0 : so c ≠ 0) (h1 : f3_settle n (nI (rkN (so c))) M = some ((), M1)) (h2 : f3_await n (nI (so c)) (nI 3) M1 = some (0, M2)) : f3_readSign n (nI c) M = some (0, M2) := by
  have hs := (so_in c).resolve_left h0
  rw [rs5 hX]
  unfold f3_goOnBehindFactor b3_goOnBehindFactor_0
  rw [idx1 hc (by omega), bnd_s', if_neg h0, if_neg (nI_pos (by omega)), show (2 : Int32) + nI (so c - 2) = nI (so c) by rw [show (2 : Int32) = nI 2 from rfl, nI_add]; congr 1; omega, chk_in (by omega) (by decide), nI_clamp (by omega), ranks_e _ (by omega), bnd_e h1]
  rw [show (3 : Int32) = nI 3 from rfl, h2]
  rfl
/-- any other sign behind a factor -/
theorem gb_other {s : St} {z : Zc} {M M1 : Mem} {c n : Nat} (hc : c < 256) (hn : 900 ≤ n) (hX : XV T N q gx 5 s z M) (h0 : so c = 0) (h1 : f3_settle n (nI 5) M = some ((), M1)) : f3_readSign n (nI c) M = bnd (f3_innermost n M1) fun r9 M10 => if cmo c = 0 then (if c = 93 then (if r9 = 14 then f3_close n 5 M10 else some (1, M10)) else if c = 40 then (if r9 = 15 then f3_openRule n M10 else some (1, M10)) else bnd (f3_isComparison n r9 M10) fun r18 M19 => if r18 = 0 then some (1, M19) else f3_goOnBehindTest n (nI c) M19) else (if r9 = 15 then some (1, M10) else if r9 = 14 then some (1, M10) else bnd (f3_isComparison n r9 M10) fun r35 M36 => if r35 = 0 then f3_await n (nI (cmo c)) 3 M36 else some (1, M36)) := by
  rw [rs5 hX]
  unfold f3_goOnBehindFactor b3_goOnBehindFactor_0 b3_goOnBehindFactor_83 b3_goOnBehindFactor_84
  rw [idx1 hc (by omega), bnd_s', if_pos h0, if_pos (show (-1 : Int32) < 0 by decide), chk_t (by decide), show ranksL.getD (2 : Int32).toNatClampNeg 0 = nI 5 by decide, bnd_e h1]
  congr 1
  funext r9 M10
  rw [idx2 hc (by omega), bnd_s']
  simp only [show (nI c = (93 : Int32)) = (c = 93) from propext (nI_eq (b := 93) (by omega) (by decide)), show (nI c = (40 : Int32)) = (c = 40) from propext (nI_eq (b := 40) (by omega) (by decide)), bnd_id, if_true, show ((1 : Int32) = 0) = False from eq_false (by decide), if_false]
  by_cases c0 : cmo c = 0
  · rw [if_pos c0, if_pos (show (-1 : Int32) < 0 by decide), if_pos c0]
  · have := (cmo_in c).resolve_left c0
    rw [if_neg c0, if_neg (nI_pos (by omega)), if_neg c0, show (7 : Int32) + nI (cmo c - 7) = nI (cmo c) by rw [show (7 : Int32) = nI 7 from rfl, nI_add]; congr 1; omega]
end FA
