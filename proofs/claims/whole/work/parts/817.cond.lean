/-! THE LAW's reader: a condition, both at a time -/
section CD
variable {T : Nat → Nat} {N q : Nat} {gx gy : Nat → Nat → Int32}
def CondOut (T : Nat → Nat) (N q : Nat) (gx gy : Nat → Nat → Int32) (zb : Zc) (p : Nat) (Mx : Mem) (o : Option (Int32 × Mem)) : Prop := (∃ f My', o = some (0, My') ∧ My'.1 0 14 = f ∧ XF N p Mx f) ∨ (∃ p' z' Mx' My', o = some (1, My') ∧ p < p' ∧ XR N p Mx p' Mx' ∧ XV T N (q + 1) (gN gx q z'.1) 7 [] z' Mx' ∧ YV T N q gy p' [] z' My' ∧ z'.1 ≤ p' ∧ TQ zb z' [] 1 true)
theorem CondOut.from {zb : Zc} {p p' : Nat} {Mx Mx' : Mem} {o : Option (Int32 × Mem)} (h : XR N p Mx p' Mx') (k : CondOut T N q gx gy zb p' Mx' o) : CondOut T N q gx gy zb p Mx o := by
  have := h.1
  rcases k with ⟨f, My', k1, k2, k3⟩ | ⟨p2, z', Mx2, My', k1, k2, k3, k4⟩
  · exact Or.inl ⟨f, My', k1, k2, h.fault k3⟩
  · exact Or.inr ⟨p2, z', Mx2, My', k1, by omega, h.trans k3, k4⟩
theorem rk_pd {o : Nat} (h : 7 ≤ o ∧ o ≤ 10) : 3 ≤ rkN o := by
  unfold rkN
  repeat' split
  all_goals omega
theorem rk_j {o r : Nat} (hr : r = 1 ∨ r = 2) (h : o = 11 ∨ (r = 1 ∧ o = 12)) : r ≤ rkN o := by
  rcases h with rfl | ⟨rfl, rfl⟩
  · show r ≤ 2
    omega
  · decide
theorem wt_j : ∀ {J : St}, (∀ e, e ∈ J → e.1 = 11 ∨ e.1 = 12) → wt J = 0
  | [], _ => rfl
  | e :: J, h => by
    have := h e List.mem_cons_self
    rw [wt, wt_j (fun x hx => h x (List.mem_cons_of_mem _ hx)), if_neg (by omega)]
theorem tpo_pd {pd s : St} (h : pd ≠ []) : tpo (pd ++ s) = tpo pd := by
  cases pd with
  | nil => exact absurd rfl h
  | cons e pd => rfl
theorem cond_loop {zb : Zc} (hq : q < 16) : ∀ (d p : Nat), p + d = N → (∀ (s : St) (z : Zc) (nY : Nat) (Mx My : Mem), d + 6000 < nY → XV T N q gx 2 s z Mx → YV T N q gy p s z My → Cn s → Sh s → oc s ≤ 6 → z.1 + wt s ≤ p → TQ zb z s 0 false → CondOut T N q gx gy zb p Mx (r12_readsCondition nY 40 [] [] My)) ∧ (∀ (st : Nat) (pd s : St) (z0 : Zc) (nY : Nat) (Mx My : Mem), d + 6000 < nY → (∀ e, e ∈ pd → 7 ≤ e.1 ∧ e.1 ≤ 10) → (st = 6 ∨ (st = 5 ∧ (7 ≤ tpo pd ∧ tpo pd ≤ 9) ∧ (p < N → so (T p) = 0))) → XV T N q gx st (pd ++ s) z0 Mx → YV T N q gy p s (eff pd z0) My → Cn s → tpo s ≠ 10 → Sh (pd ++ s) → oc (pd ++ s) ≤ 6 → z0.1 + wt (pd ++ s) ≤ p → (∀ e, e ∈ s → (e.1 = 11 ∨ e.1 = 12) → e.2 < z0.1 ∧ z0.2.1 e.2 = e.1) → TQ zb (eff pd z0) s 1 true → CondOut T N q gx gy zb p Mx (r12_readsCondition nY 92 [] [] My)) := by
  intro d
  induction d using Nat.strongRecOn with
  | _ d ih =>
    intro p h1
    refine ⟨?_, ?_⟩
    · intro s z nY Mx My h2 hX hY hC hS ho hw hQ
      obtain ⟨nY, rfl⟩ : ∃ n', nY = n' + 1 := ⟨nY - 1, by omega⟩
      have hN := hY.1.1
      have hsl := hS.le ho
      have hh := here_y hY nY
      rw [e12_readsCondition_40]
      unfold b12_readsCondition_40
      by_cases hop : p < N ∧ (T p = 33 ∨ T p = 40)
      · obtain ⟨hp, hop⟩ := hop
        have hc := hY.1.2.2 p hp
        rw [if_pos hp] at hh
        obtain ⟨o, ho2, ho3, ho4⟩ : ∃ o : Nat, (o = 10 ∨ o = 13 ∨ o = 14) ∧ o ≠ 14 ∧ ((T p = 33 ∧ o = 10) ∨ (T p = 40 ∧ o = 13)) := by
          rcases hop with w | w
          · exact ⟨10, by omega, by decide, Or.inl ⟨w, rfl⟩⟩
          · exact ⟨13, by omega, by decide, Or.inr ⟨w, rfl⟩⟩
        have bx : ∀ n, f3_readSign n (nI (T p)) Mx = f3_open n (nI o) Mx := fun n => by
          rw [rs2 hX n]
          unfold f3_beginTest b3_beginTest_0
          rcases ho4 with ⟨w, rfl⟩ | ⟨w, rfl⟩
          · rw [w, if_pos (by decide), bnd_id]; rfl
          · rw [w, if_neg (by decide), if_pos (by decide), bnd_id]; rfl
        have by' : (bnd (f12_here nY My) fun r15 M16 => if r15 = (33 : Int32) then b12_readsCondition_58 (r12_readsCondition nY) nY M16 else bnd (f12_here nY M16) fun r19 M20 => if r19 = (40 : Int32) then b12_readsCondition_58 (r12_readsCondition nY) nY M20 else bnd (f12_readsCompared nY M20) fun r23 M24 => if r23 = 0 then some (0, M24) else b12_readsCondition_92 (r12_readsCondition nY) nY M24) = bnd (f12_opens nY (nI o) My) fun r71 M72 => if r71 = 0 then some (0, M72) else r12_readsCondition nY 40 [] [] M72 := by
          unfold b12_readsCondition_58 b12_readsCondition_75
          rcases ho4 with ⟨w, rfl⟩ | ⟨w, rfl⟩
          · rw [w] at hh
            simp only [hh, bnd_s', show (nI 33 = (33 : Int32)) = True from eq_true (by decide), if_true]
            rfl
          · rw [w] at hh
            simp only [hh, bnd_s', show (nI 40 = (33 : Int32)) = False from eq_false (by decide), show (nI 40 = (40 : Int32)) = True from eq_true (by decide), if_true, if_false]
            rfl
        rw [by']
        by_cases c6 : oc s < 6
        · obtain ⟨M1, f1, x1⟩ := open_x (o := o) hX hS ho2 c6
          obtain ⟨M2, f2, y1⟩ := opens_y (o := o) hY hp (by omega) (by omega) ho2 nY
          rw [if_neg ho3] at x1
          have eo : oc ((o, 0) :: s) = oc s + 1 := by simp only [oc]; rw [if_pos ho2]
          have ew : wt ((o, 0) :: s) ≤ wt s + 1 := by simp only [wt]; split <;> omega
          rw [bnd_e f2, if_neg (by decide)]
          exact CondOut.from (XR.step hX.1 hp (fun n _ => by rw [bx n]; exact f1 n)) ((ih (d - 1) (by omega) (p + 1) (by omega)).1 ((o, 0) :: s) z nY M1 M2 (by omega) x1 y1 (Or.inr ⟨by simp only; omega, hC⟩) ⟨Or.inl ho2, hS⟩ (by omega) (by omega) (hQ.cons (by simp only; omega)))
        · rw [opens_no hY (by omega) nY, bnd_s', if_pos rfl]
          exact Or.inl ⟨_, _, rfl, rfl, XF.sign hX.1 hp (by decide) (by decide) (fun n _ => ⟨Mx, by rw [bx n]; exact open_no hX (by omega) (by omega) n⟩)⟩
      · have hT : p < N → T p ≠ 33 ∧ T p ≠ 40 := fun hp => ⟨fun w => hop ⟨hp, Or.inl w⟩, fun w => hop ⟨hp, Or.inr w⟩⟩
        have by' : (bnd (f12_here nY My) fun r15 M16 => if r15 = (33 : Int32) then b12_readsCondition_58 (r12_readsCondition nY) nY M16 else bnd (f12_here nY M16) fun r19 M20 => if r19 = (40 : Int32) then b12_readsCondition_58 (r12_readsCondition nY) nY M20 else bnd (f12_readsCompared nY M20) fun r23 M24 => if r23 = 0 then some (0, M24) else b12_readsCondition_92 (r12_readsCondition nY) nY M24) = bnd (f12_readsCompared nY My) fun r23 M24 => if r23 = 0 then some (0, M24) else b12_readsCondition_92 (r12_readsCondition nY) nY M24 := by
          by_cases hp : p < N
          · have hc := hY.1.2.2 p hp
            rw [if_pos hp] at hh
            simp only [hh, bnd_s', show (nI (T p) = (33 : Int32)) = False from eq_false (fun e => (hT hp).1 ((nI_eq (b := 33) (by omega) (by decide)).mp e)), show (nI (T p) = (40 : Int32)) = False from eq_false (fun e => (hT hp).2 ((nI_eq (b := 40) (by omega) (by decide)).mp e)), if_false]
          · rw [if_neg hp] at hh
            simp only [hh, bnd_s', show ((-1 : Int32) = 33) = False from eq_false (by decide), show ((-1 : Int32) = 40) = False from eq_false (by decide), if_false]
        rw [by']
        rcases compared_XY (zb := zb) (nY := nY) (by omega) hX hY hT hC hS ho hw hQ with ⟨f, My1, k1, k2, k3⟩ | ⟨p', c, z0, J, s', X1, Y1, k1, k2, k3, k4, k5, k6, k7, k8, k9, k10, k11, k12, k13, k14, k15⟩
        · rw [bnd_e k1, if_pos rfl]
          exact Or.inl ⟨f, My1, rfl, k2, k3⟩
        · rw [bnd_e k1, if_neg (by decide)]
          have e2 : (((c, 0) :: J) ++ s' : St) = (c, 0) :: s := by rw [k4]; rfl
          have hp' := k10.1.2.1
          have eo : oc ((c, 0) :: s) = oc s := by simp only [oc]; rw [if_neg (by omega)]; rfl
          have key := (ih (N - p') (by omega) p' (by omega)).2 5 ((c, 0) :: J) s' z0 (nY + 1) X1 Y1 (by omega) (fun e he => (List.mem_cons.mp he).elim (fun w => by rw [w]; simp only; omega) (fun w => by have := k5 e w; omega)) (Or.inr ⟨rfl, k8, k15⟩) (by rw [e2]; exact k9) k10 k7 k6 (by rw [e2]; exact k14) (by rw [e2, eo]; exact ho) (by rw [e2]; exact k11) (fun e he w => (k12.2.2.2.1 e (by rw [k4]; simp [he]) w).2) k13
          rw [e12_readsCondition_92] at key
          exact CondOut.from k3 key
    · intro st pd s z0 nY Mx My h2 hpd hst hX hY hC ht hS ho hw hj hQ
      obtain ⟨nY, rfl⟩ : ∃ n', nY = n' + 1 := ⟨nY - 1, by omega⟩
      have hN := hY.1.1
      have hsl := hS.le ho
      have hsl' : pd.length + s.length ≤ 48 := by simpa using hsl
      rw [wt_app] at hw
      have hh := here_y hY nY
      have hst7 : st < 7 := by omega
      have el := eff_len pd z0 (fun e he => by have := hpd e he; omega)
      have bad : ¬ (p < N ∧ (T p = 38 ∨ T p = 124 ∨ T p = 41)) → XF N p Mx ((-1000 : Int32) * nI 1 - nI p) := fun w => XF.bad hX.1 hY.1.2.1 hX.2.2.1 hst7 (fun hp n hn => ⟨Mx, (h92_x (c := T p) hX (by omega) (hY.1.2.2 p hp) hn (hst.imp id fun v => ⟨v.1, by rw [tpo_pd (fun e => by rw [e] at v; exact absurd v.2.1.2 (by decide))]; exact v.2.1, v.2.2 hp⟩)).2 (fun v => w ⟨hp, v⟩)⟩)
      have good : (hp : p < N) → (T p = 38 ∨ T p = 124 ∨ T p = 41) → ∀ n, 900 ≤ n → f3_readSign n (nI (T p)) Mx = f3_goOnBehindTest n (nI (T p)) Mx := fun hp w n hn => (h92_x (c := T p) hX (by omega) (hY.1.2.2 p hp) hn (hst.imp id fun v => ⟨v.1, by rw [tpo_pd (fun e => by rw [e] at v; exact absurd v.2.1.2 (by decide))]; exact v.2.1, v.2.2 hp⟩)).1 w
      rw [e12_readsCondition_92]
      unfold b12_readsCondition_92
      -- what a settling does
      have setl : ∀ (r : Nat), r = 1 ∨ r = 2 → ∃ J s' M1, s = J ++ s' ∧ (∀ e, e ∈ J → e.1 = 11 ∨ (r = 1 ∧ e.1 = 12)) ∧ rkN (tpo s') < r ∧ Cn s' ∧ tpo s' ≠ 10 ∧ tpo s' ≠ 11 ∧ (r = 1 → tpo s' ≠ 12) ∧ (∀ n, 100 ≤ n → f3_settle n (nI r) Mx = some ((), M1)) ∧ XV T N q gx st s' (eff J (eff pd z0)) M1 := by
        intro r hr
        obtain ⟨J, s', g1, g2, g3, g4, g5, g6, g7⟩ := jump_split hr hC hS.app ht
        have eX : pd ++ s = (pd ++ J) ++ s' := by rw [g1, List.append_assoc]
        obtain ⟨M1, f1, x1⟩ := settle_x (r := r) (by omega) (by omega) (J := pd ++ J) (s := s') (z := z0) (M := Mx) (by rw [← eX]; exact hX) (fun e he => by
          rcases List.mem_append.mp he with w | w
          · have := hpd e w
            have := rk_pd this
            omega
          · have := g2 e w
            have := rk_j hr this
            omega) g3 (by rw [← eX]; omega) (by
          rw [wt_app, wt_j (J := J) (fun e he => by have := g2 e he; omega)]
          have := hY.1.2.1
          omega) (fun e he w => by
          rcases List.mem_append.mp he with v | v
          · have := hpd e v
            omega
          · exact hj e (by rw [g1]; simp [v]) w)
        rw [eff_app] at x1
        exact ⟨J, s', M1, g1, g2, g3, g4, g5, g6, g7, f1, x1⟩
      by_cases hp : p < N
      · have hc := hY.1.2.2 p hp
        rw [if_pos hp] at hh
        by_cases c41 : T p = 41
        · -- a bracket closes
          obtain ⟨J, s', M1, g1, g2, g3, g4, g5, g6, g7, f1, x1⟩ := setl 1 (Or.inl rfl)
          have g7' := g7 rfl
          have gt := g4.top
          obtain ⟨e, s2, rfl⟩ : ∃ e s2, s' = e :: s2 := by
            cases s' with
            | nil => exact g4.elim
            | cons e s2 => exact ⟨e, s2, rfl⟩
          have he : e.1 = 13 := by
            simp only [tpo] at gt g5 g6 g7'
            omega
          have lY : (J ++ (e :: s2)).length < 200 := by rw [← g1]; omega
          have hl2 : s2.length ≤ 60 := by
            rw [g1] at hsl'
            simp only [List.length_append, List.length_cons] at hsl'
            omega
          have J11 : ∀ x, x ∈ J → x.1 = 11 ∨ x.1 = 12 := fun x hx => by have := g2 x hx; omega
          obtain ⟨Y1, f3, y1⟩ := lands_y (a := 1) (Or.inr rfl) (J := J) (s := e :: s2) (n := nY) (by rw [← g1]; exact hY) lY (by omega) (by rw [el]; omega) (fun x hx => by
            have w := hQ.2.2.2.1 x (by rw [g1]; simp [hx]) (J11 x hx)
            refine ⟨by have := g2 x hx; omega, w.2.1, w.2.2, (hQ.2.2.1 x.2 w.2.1).2⟩) ⟨g6, fun _ => g7'⟩
          have q1 : TQ zb (eff J (eff pd z0)) (e :: s2) 1 true := TQ.jmps J11 (by rw [el]; omega) (by rw [← g1]; exact hQ)
          have q2 := q1.tail (by omega)
          have el2 : (eff J (eff pd z0)).1 = z0.1 + wt pd := by rw [eff_len J _ (fun x hx => by have := J11 x hx; omega), wt_j J11, el]; rfl
          have wS : wt s = wt s2 := by
            rw [g1, wt_app, wt_j J11]
            simp only [wt]
            rw [if_neg (by omega)]
            omega
          have y2 := y1.popO.next hp
          have a8 := y1.2.2.2.2.2.2.2.1
          have a9 := y1.2.2.2.2.2.2.2.2.1
          have eo : oc (e :: s2) = oc s2 + 1 := by simp only [oc]; rw [if_pos (Or.inr (Or.inl he))]
          rw [eo] at a9
          rw [List.length_cons] at a8
          rw [bnd_e hh, if_pos (show nI (T p) = (41 : Int32) by rw [c41]; rfl), bnd_e (show f12_lands nY (1 : Int32) My = some ((), Y1) from f3), lt_v, lt_v, lt_v, a8, nI_pred, show (wI Y1 0 18 (nI s2.length)).1 0 16 = nI (oc s2 + 1) from a9, nI_pred, show (wI (wI Y1 0 18 (nI s2.length)) 0 16 (nI (oc s2))).1 0 12 = nI p from y1.2.2.1, nI_1, show (wI (wI (wI Y1 0 18 (nI s2.length)) 0 16 (nI (oc s2))) 0 12 (nI (p + 1))).1 0 18 = nI s2.length from rfl]
          have gc := gt_close hq hl2 (f1 100 (by decide)) x1 he
          by_cases c0 : s2 = []
          · obtain ⟨M2, f4, x4⟩ := gc.2 c0
            have hst1 : XR N p Mx (p + 1) M2 := XR.step hX.1 hp (fun n hn => by
              rw [good hp (Or.inr (Or.inr c41)) n hn, c41]
              exact f4 n (f1 n (by omega)))
            subst c0
            rw [if_pos (by decide)]
            exact Or.inr ⟨p + 1, eff J (eff pd z0), M2, _, rfl, by omega, hst1, x4, y2, by rw [el2]; omega, q2⟩
          · obtain ⟨M2, f4, x4⟩ := gc.1 c0
            have hst1 : XR N p Mx (p + 1) M2 := XR.step hX.1 hp (fun n hn => by
              rw [good hp (Or.inr (Or.inr c41)) n hn, c41]
              exact f4 n (f1 n (by omega)))
            have hC2 : Cn s2 := by
              have w : (e.1 = 13 ∧ s2 = []) ∨ ((10 ≤ e.1 ∧ e.1 ≤ 13) ∧ Cn s2) := g4
              exact (w.resolve_left (fun v => c0 v.2)).2
            obtain ⟨J2, s3, e1, e2, e3, e4⟩ := not_split hC2
            have y2' : YV T N q gy (p + 1) (J2 ++ s3) (eff J (eff pd z0)) (wI (wI (wI Y1 0 18 (nI s2.length)) 0 16 (nI (oc s2))) 0 12 (nI (p + 1))) := by rw [← e1]; exact y2
            have w2 : wt s2 = wt J2 + wt s3 := by rw [e1, wt_app]
            obtain ⟨Y3, f5, y3⟩ := ends_y (n := nY) y2' (by rw [← e1]; omega) (by omega) (by rw [el2]; omega) e2 e3
            rw [if_neg (fun w => c0 (List.length_eq_zero_iff.mp ((nI_eq (by omega) (by decide)).mp (w.trans nI_0.symm)))), bnd_e f5]
            have hS2 : Sh s2 := by
              have w := hS.app
              rw [g1] at w
              exact w.app.2
            have hoA : oc s = oc J + (oc s2 + 1) := by rw [g1, oc_app, eo]
            refine CondOut.from hst1 ((ih (d - 1) (by omega) (p + 1) (by omega)).2 6 J2 s3 (eff J (eff pd z0)) nY M2 Y3 (by omega) (fun x hx => by have := e2 x hx; omega) (Or.inl rfl) (by rw [← e1]; exact x4) y3 e4 e3 (by rw [← e1]; exact hS2) (by rw [← e1]; rw [oc_app] at ho; omega) (by rw [← e1, el2]; omega) (fun x hx w => (q2.2.2.2.1 x (by rw [e1]; simp [hx]) w).2) (TQ.nots e2 (by rw [← e1]; exact q2)))
        · by_cases cj : T p = 38 ∨ T p = 124
          · -- one more test
            obtain ⟨o, r, a, hor, ha⟩ : ∃ o r a : Nat, ((T p = 38 ∧ o = 11 ∧ r = 2) ∨ (T p = 124 ∧ o = 12 ∧ r = 1)) ∧ ((T p = 38 ∧ a = 0) ∨ (T p = 124 ∧ a = 1)) := by
              rcases cj with w | w
              · exact ⟨11, 2, 0, Or.inl ⟨w, rfl, rfl⟩, Or.inl ⟨w, rfl⟩⟩
              · exact ⟨12, 1, 1, Or.inr ⟨w, rfl, rfl⟩, Or.inr ⟨w, rfl⟩⟩
            obtain ⟨J, s', M1, g1, g2, g3, g4, g5, g6, g7, f1, x1⟩ := setl r (by omega)
            have lY : (J ++ s').length < 200 := by rw [← g1]; omega
            have hl2 : s'.length ≤ 60 := by
              rw [g1] at hsl'
              simp only [List.length_append] at hsl'
              omega
            have J11 : ∀ x, x ∈ J → x.1 = 11 ∨ x.1 = 12 := fun x hx => by have := g2 x hx; omega
            obtain ⟨Y1, f3, y1⟩ := lands_y (a := a) (by omega) (J := J) (s := s') (n := nY) (by rw [← g1]; exact hY) lY (by omega) (by rw [el]; omega) (fun x hx => by
              have w := hQ.2.2.2.1 x (by rw [g1]; simp [hx]) (J11 x hx)
              refine ⟨by have := g2 x hx; omega, w.2.1, w.2.2, (hQ.2.2.1 x.2 w.2.1).2⟩) ⟨g6, fun w => g7 (by omega)⟩
            have q1 : TQ zb (eff J (eff pd z0)) s' 1 true := TQ.jmps J11 (by rw [el]; omega) (by rw [← g1]; exact hQ)
            have el2 : (eff J (eff pd z0)).1 = z0.1 + wt pd := by rw [eff_len J _ (fun x hx => by have := J11 x hx; omega), wt_j J11, el]; rfl
            have wS : wt s = wt s' := by rw [g1, wt_app, wt_j J11, Nat.zero_add]
            obtain ⟨M2, f4, x4⟩ := await_j (o := o) (k := 2) x1 (by omega) (by rw [el2]; omega) (by omega)
            obtain ⟨Y2, f5, y2⟩ := jumps_y (o := o) (n := nY) y1 hp (by omega) (by rw [el2]; omega) (by omega)
            have hst1 : XR N p Mx (p + 1) M2 := XR.step hX.1 hp (fun n hn => by
              rw [good hp (by omega) n hn]
              exact gt_jump hor (f1 n (by omega)) (f4 n))
            have hh1 := here_y y1 nY
            rw [if_pos hp] at hh1
            have hyo : (bnd (f12_here nY My) fun r27 M28 => if r27 = (41 : Int32) then bnd (f12_lands nY (1 : Int32) M28) fun r43 M44 => lt (wI M44 0 18 (M44.1 0 18 - (1 : Int32))) fun M46 => lt (wI M46 0 16 (M46.1 0 16 - (1 : Int32))) fun M47 => lt (wI M47 0 12 (M47.1 0 12 + (1 : Int32))) fun M48 => if M48.1 0 18 = 0 then some ((1 : Int32), M48) else bnd (f12_endsPiece nY M48) fun r50 M51 => r12_readsCondition nY 92 [] [] M51 else bnd (f12_here nY M28) fun r31 M32 => if r31 = (38 : Int32) then b12_readsCondition_180 (r12_readsCondition nY) nY M32 else bnd (f12_here nY M32) fun r35 M36 => if r35 = (124 : Int32) then b12_readsCondition_180 (r12_readsCondition nY) nY M36 else bnd (f12_wrongAt nY (1 : Int32) (M36.1 0 12) M36) fun r39 M40 => chk (isb r39) <| some (r39, M40)) = r12_readsCondition nY 40 [] [] Y2 := by
              unfold b12_readsCondition_180 b12_readsCondition_195 b12_readsCondition_215
              rcases hor with ⟨w, rfl, rfl⟩ | ⟨w, rfl, rfl⟩
              · have a0 : a = 0 := by omega
                subst a0
                rw [w] at hh hh1
                simp only [hh, bnd_s', show (nI 38 = (41 : Int32)) = False from eq_false (by decide), show (nI 38 = (38 : Int32)) = True from eq_true (by decide), show (nI 38 = (124 : Int32)) = False from eq_false (by decide), if_true, if_false]
                rw [bnd_e (show f12_lands nY (0 : Int32) My = some ((), Y1) from f3)]
                simp only [hh1, bnd_s', show (nI 38 = (38 : Int32)) = True from eq_true (by decide), if_true]
                rw [bnd_e (show f12_jumps nY (11 : Int32) Y1 = some ((), Y2) from f5)]
              · have a0 : a = 1 := by omega
                subst a0
                rw [w] at hh hh1
                simp only [hh, bnd_s', show (nI 124 = (41 : Int32)) = False from eq_false (by decide), show (nI 124 = (38 : Int32)) = False from eq_false (by decide), show (nI 124 = (124 : Int32)) = True from eq_true (by decide), if_true, if_false]
                rw [bnd_e (show f12_lands nY (1 : Int32) My = some ((), Y1) from f3)]
                simp only [hh1, bnd_s', show (nI 124 = (38 : Int32)) = False from eq_false (by decide), if_false]
                rw [bnd_e (show f12_jumps nY (12 : Int32) Y1 = some ((), Y2) from f5)]
            rw [hyo]
            have eo : oc ((o, (eff J (eff pd z0)).1) :: s') = oc s' := by simp only [oc]; rw [if_neg (by omega)]; rfl
            have ew : wt ((o, (eff J (eff pd z0)).1) :: s') = wt s' := by simp only [wt]; rw [if_neg (by omega)]; rfl
            have hoA : oc s = oc J + oc s' := by rw [g1, oc_app]
            have hS2 : Sh s' := by
              have w := hS.app
              rw [g1] at w
              exact w.app
            refine CondOut.from hst1 ((ih (d - 1) (by omega) (p + 1) (by omega)).1 _ _ nY M2 Y2 (by omega) x4 y2 (Or.inr ⟨by simp only; omega, g4⟩) ⟨Or.inr ?_, hS2⟩ (by rw [eo]; rw [oc_app] at ho; omega) (by
              rw [ew]
              show (eff J (eff pd z0)).1 + 1 + wt s' ≤ p + 1
              rw [el2]
              omega) (q1.jmp (by omega)))
            show rkN (tpo s') < rkN o
            rcases hor with ⟨_, rfl, rfl⟩ | ⟨_, rfl, rfl⟩
            · exact g3
            · exact g3
          · -- nothing that may stand there
            have n1 : (nI (T p) = (41 : Int32)) = False := eq_false (fun w => c41 ((nI_eq (b := 41) (by omega) (by decide)).mp w))
            have n2 : (nI (T p) = (38 : Int32)) = False := eq_false (fun w => cj (Or.inl ((nI_eq (b := 38) (by omega) (by decide)).mp w)))
            have n3 : (nI (T p) = (124 : Int32)) = False := eq_false (fun w => cj (Or.inr ((nI_eq (b := 124) (by omega) (by decide)).mp w)))
            simp only [hh, bnd_s', n1, n2, n3, if_false]
            rw [wrong_e, bnd_s', chk_t (by decide), hY.2.2.1]
            exact Or.inl ⟨_, _, rfl, rfl, bad (by omega)⟩
      · rw [if_neg hp] at hh
        simp only [hh, bnd_s', show ((-1 : Int32) = 41) = False from eq_false (by decide), show ((-1 : Int32) = 38) = False from eq_false (by decide), show ((-1 : Int32) = 124) = False from eq_false (by decide), if_false]
        rw [wrong_e, bnd_s', chk_t (by decide), hY.2.2.1]
        exact Or.inl ⟨_, _, rfl, rfl, bad (fun w => hp w.1)⟩
end CD
