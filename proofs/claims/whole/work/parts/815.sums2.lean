/-! THE LAW's reader: sums, both at a time -/
section SU
variable {T : Nat → Nat} {N q : Nat} {gx gy : Nat → Nat → Int32}
/-- what a sum comes to -/
def SumOut (T : Nat → Nat) (N q : Nat) (gx gy : Nat → Nat → Int32) (RX RY : St) (zb : Zc) (cc p : Nat) (Mx : Mem) (o : Option (Int32 × Mem)) : Prop := (∃ f My', o = some (0, My') ∧ My'.1 0 14 = f ∧ XF N p Mx f) ∨ (∃ p' z' Mx' My', o = some (1, My') ∧ p ≤ p' ∧ XR N p Mx p' Mx' ∧ XV T N q gx 5 RX z' Mx' ∧ YV T N q gy p' RY z' My' ∧ z'.1 + wt RX ≤ p' ∧ TQ zb z' RY (cc + 1) false ∧ (p' < N → so (T p') = 0))
theorem SumOut.from {RX RY : St} {zb : Zc} {cc p p' : Nat} {Mx Mx' : Mem} {o : Option (Int32 × Mem)} (h : XR N p Mx p' Mx') (k : SumOut T N q gx gy RX RY zb cc p' Mx' o) : SumOut T N q gx gy RX RY zb cc p Mx o := by
  have := h.1
  rcases k with ⟨f, My', k1, k2, k3⟩ | ⟨p2, z', Mx2, My', k1, k2, k3, k4⟩
  · exact Or.inl ⟨f, My', k1, k2, h.fault k3⟩
  · exact Or.inr ⟨p2, z', Mx2, My', k1, by omega, h.trans k3, k4⟩
theorem lsum_loop {RX RY : St} {zb : Zc} {cc : Nat} (hcc : cc ≤ 1) (hR : rkN (tpo RX) < 5) (hR14 : tpo RX ≠ 14) (hRY : RY = [] ∨ (rkN (tpo RY) < 5)) (hoc : oc RX = oc RY) (hll : RY.length ≤ RX.length) : ∀ (d p : Nat) (A : St) (z : Zc) (nY : Nat) (Mx My : Mem), p + d = N → d + 3000 < nY → XV T N q gx 5 (A ++ RX) z Mx → YV T N q gy p (A ++ RY) z My → (∀ e, e ∈ A → (2 ≤ e.1 ∧ e.1 ≤ 6) ∨ e.1 = 14) → Sh (A ++ RX) → oc (A ++ RX) ≤ 6 → z.1 + wt (A ++ RX) ≤ p → TQ zb z (A ++ RY) (dpt A + cc + 1) false → SumOut T N q gx gy RX RY zb cc p Mx (r12_readsSum nY 14 [nI RY.length] [] My) := by
  intro d
  induction d using Nat.strongRecOn with
  | _ d ih =>
    intro p A z nY Mx My h1 h2 hX hY hA hS ho hw hQ
    obtain ⟨nY, rfl⟩ : ∃ n', nY = n' + 1 := ⟨nY - 1, by omega⟩
    have hN := hY.1.1
    have hlen := hS.le ho
    have hlA : A.length + RX.length ≤ 48 := by simpa using hlen
    have hlX : (A ++ RX).length ≤ 60 := by omega
    have hlY : (A ++ RY).length < 200 := by simp only [List.length_append]; omega
    have hdA := dpt_le A
    rw [wt_app] at hw
    rw [e12_readsSum_14]
    unfold b12_readsSum_14
    have hh := here_y hY nY
    rw [bnd_e hh]
    by_cases hp : p < N
    · have hc := hY.1.2.2 p hp
      rw [if_pos hp] at hh
      rw [if_pos hp, bnd_e (sums_y hc)]
      by_cases hs0 : so (T p) = 0
      · rw [if_pos hs0, if_pos rfl, bnd_e hh]
        obtain ⟨J, A', eA, j1, j2⟩ := split_ex 5 A
        have jA : ∀ e, e ∈ J → 2 ≤ e.1 ∧ e.1 ≤ 6 := fun e he => rk_5 (j1 e he)
        have eX : A ++ RX = J ++ (A' ++ RX) := by rw [eA, List.append_assoc]
        have eY : A ++ RY = J ++ (A' ++ RY) := by rw [eA, List.append_assoc]
        have hwJ : wt A = wt J + wt A' := by rw [eA, wt_app]
        have hdJ : dpt A = J.length + dpt A' := by rw [eA, dpt_app, dpt_ar (fun e he => by have := jA e he; omega)]
        have hAl : A.length = J.length + A'.length := by rw [eA, List.length_append]
        obtain ⟨M1, f1, x1⟩ := settle_x (r := 5) (by decide) (by decide) (J := J) (s := A' ++ RX) (z := z) (M := Mx) (by rw [← eX]; exact hX) (fun e he => ⟨j1 e he, by have := jA e he; omega⟩) (tpo_app j2 hR) (by rw [← eX]; exact hlX) (by omega) (fun e he c => by have := jA e he; omega)
        have el := eff_len J z (fun e he => by have := jA e he; omega)
        have hQ1 : TQ zb (eff J z) (A' ++ RY) (dpt A' + cc + 1) false := by
          refine TQ.ars jA ?_ (by omega) (by omega)
          rw [← eY, show dpt A' + cc + 1 + J.length = dpt A + cc + 1 by omega]
          exact hQ
        have hin := fun n => inner_x x1 (by rw [← Nat.lt_succ_iff]; simp only [List.length_append]; omega) n
        by_cases h14 : ∃ e, e ∈ A ∧ e.1 = 14
        · -- a bracket is open
          obtain ⟨e, A2, rfl, he⟩ : ∃ e A2, A' = e :: A2 ∧ e.1 = 14 := by
            cases A' with
            | nil =>
              obtain ⟨e, e1, e2⟩ := h14
              rw [eA, List.append_nil] at e1
              have := jA e e1
              omega
            | cons e A2 =>
              refine ⟨e, A2, rfl, ?_⟩
              have h5 := j2.resolve_left (by simp)
              have := hA e (by rw [eA]; simp)
              rcases this with q | q
              · have := rk_ar q
                simp only [tpo] at h5
                omega
              · exact q
          have tp : tpo ((e :: A2) ++ RX) = 14 := he
          by_cases c93 : T p = 93
          · have hho := hasO_y (n := nY) hY hlY (by omega)
            rw [if_pos h14] at hho
            obtain ⟨M2, f2, x2⟩ := close_x (k := 5) (s := A2 ++ RX) (e := e) x1 (Or.inr he)
            obtain ⟨M3, f3, y3⟩ := closes_y (a := 1) (Or.inr rfl) (J := J) (s := (e :: A2) ++ RY) (n := nY) (by rw [← eY]; exact hY) (by rw [← eY]; exact hlY) (by omega) (by omega) (fun x hx => by have := jA x hx; omega) (Or.inr (by show ¬ ((4 ≤ e.1 ∧ e.1 ≤ 6) ∨ (1 = 1 ∧ (e.1 = 2 ∨ e.1 = 3))); omega))
            have y3' : YV T N q gy p (e :: (A2 ++ RY)) (eff J z) M3 := y3
            have y4 := y3'.popO.next hp
            have a8 := y3'.2.2.2.2.2.2.2.1
            have a9 := y3'.2.2.2.2.2.2.2.2.1
            have eo : oc (e :: (A2 ++ RY)) = oc (A2 ++ RY) + 1 := by simp only [oc]; rw [if_pos (Or.inr (Or.inr he))]
            rw [eo] at a9
            rw [List.length_cons] at a8
            have hst1 : XR N p Mx (p + 1) M2 := XR.step hX.1 hp (fun n hn => by
              rw [gb_other hc hn hX hs0 (f1 n (by omega)), bnd_e (hin n), if_pos (show cmo (T p) = 0 by rw [c93]; rfl), if_pos c93, tp, if_pos (by decide)]
              exact f2 n)
            have ew : wt (e :: A2) = wt A2 := by simp only [wt]; rw [if_neg (by omega)]; rfl
            have ed : dpt (e :: A2) = dpt A2 := by simp only [dpt]; rw [if_pos he]; rfl
            have key := ih (d - 1) (by omega) (p + 1) A2 (eff J z) nY M2 _ (by omega) (by omega) x2 y4 (fun x hx => hA x (by rw [eA]; simp [hx])) (by
              have := hS
              rw [eX] at this
              exact (Sh.app this).2) (by
              rw [eX, oc_app] at ho
              simp only [List.cons_append, oc] at ho
              omega) (by rw [wt_app, el]; omega) (by
              rw [ed] at hQ1
              have hQ2 : TQ zb (eff J z) (e :: (A2 ++ RY)) (dpt A2 + cc + 1) false := hQ1
              exact hQ2.tail (by omega))
            rw [if_pos (show nI (T p) = (93 : Int32) by rw [c93]; rfl), bnd_e hho, if_neg (by decide), bnd_e (show f12_closesSums nY (1 : Int32) My = some ((), M3) from f3), lt_v, lt_v, lt_v, a8, nI_pred, show (wI M3 0 18 (nI (A2 ++ RY).length)).1 0 16 = nI (oc (A2 ++ RY) + 1) from a9, nI_pred, show (wI (wI M3 0 18 (nI (A2 ++ RY).length)) 0 16 (nI (oc (A2 ++ RY)))).1 0 12 = nI p from y3'.2.2.1, nI_1]
            exact SumOut.from hst1 key
          · rw [if_neg (c := nI _ = (93 : Int32)) (fun q => c93 ((nI_eq (b := 93) (by omega) (by decide)).mp q))]
            unfold b12_readsSum_138
            have hho := hasO_y (n := nY) hY hlY (by omega)
            rw [if_pos h14] at hho
            rw [bnd_e hho, if_neg (by decide), wrong_e, bnd_s', chk_t (by decide), hY.2.2.1]
            refine Or.inl ⟨_, _, rfl, rfl, XF.bad hX.1 (by omega) hX.2.2.1 (by decide) (fun _ n hn => ⟨M1, ?_⟩)⟩
            rw [gb_other hc hn hX hs0 (f1 n (by omega)), bnd_e (hin n), tp, isc_x (by decide)]
            by_cases c0 : cmo (T p) = 0
            · rw [if_pos c0, if_neg c93, if_neg (show ¬ nI 14 = (15 : Int32) by decide), bnd_s', if_pos (show (if 7 ≤ 14 ∧ 14 ≤ 9 then (1 : Int32) else 0) = 0 by decide)]
              split <;> rfl
            · rw [if_neg c0, if_neg (show ¬ nI 14 = (15 : Int32) by decide), if_pos (show nI 14 = (14 : Int32) by decide)]
        · -- the sum ends
          have A'0 : A' = [] := by
            cases A' with
            | nil => rfl
            | cons e A2 =>
              have h5 := j2.resolve_left (by simp)
              have := hA e (by rw [eA]; simp)
              rcases this with q | q
              · have := rk_ar q
                simp only [tpo] at h5
                omega
              · exact absurd ⟨e, by rw [eA]; simp, q⟩ h14
          subst A'0
          have x1' : XV T N q gx 5 RX (eff J z) M1 := x1
          obtain ⟨M3, f3, y3⟩ := closes_y (a := 1) (Or.inr rfl) (J := J) (s := RY) (n := nY) (by rw [eY] at hY; exact hY) (by rw [eY] at hlY; exact hlY) (by omega) (by omega) (fun x hx => by have := jA x hx; omega) (hRY.imp id fun q => by
            intro w
            have := rk_ar (o := tpo RY) (by omega)
            omega)
          have hho := hasO_y (n := nY) hY hlY (by omega)
          rw [if_neg h14] at hho
          have t138 : ∀ i1 : Int32, b12_readsSum_138 (r12_readsSum nY) nY (nI RY.length) My = some (1, M3) := by
            intro _
            unfold b12_readsSum_138
            rw [bnd_e hho, if_pos rfl, bnd_e (show f12_closesSums nY (1 : Int32) My = some ((), M3) from f3)]
          refine Or.inr ⟨p, eff J z, M1, M3, ?_, Nat.le_refl _, XR.same hX.1 x1.1 (by omega) (fun _ n hn => ?_) hX.2.2.1 (by decide) x1.2.2.1 (by decide), x1', y3, by rw [el]; simp only [wt] at hwJ; omega, by simpa [dpt] using hQ1, fun _ => hs0⟩
          · rw [bnd_e hho, if_pos rfl]
            split
            · exact t138 0
            · exact t138 0
          · rw [gb_other hc hn hX hs0 (f1 n (by omega)), gb_other hc hn x1 hs0 (settle_0 (by decide) (by decide) x1' hR (by omega) n)]
      · -- a sign of sums
        have hs := (so_in (T p)).resolve_left hs0
        have hrk := rk_so (T p) hs0
        obtain ⟨J, A', eA, j1, j2⟩ := split_ex (rkN (so (T p))) A
        have hr5 : 5 ≤ rkN (so (T p)) := by rw [hrk]; split <;> omega
        have jA : ∀ e, e ∈ J → 2 ≤ e.1 ∧ e.1 ≤ 6 := fun e he => rk_5 (Nat.le_trans hr5 (j1 e he))
        have eX : A ++ RX = J ++ (A' ++ RX) := by rw [eA, List.append_assoc]
        have eY : A ++ RY = J ++ (A' ++ RY) := by rw [eA, List.append_assoc]
        have hwJ : wt A = wt J + wt A' := by rw [eA, wt_app]
        have hdJ : dpt A = J.length + dpt A' := by rw [eA, dpt_app, dpt_ar (fun e he => by have := jA e he; omega)]
        have hAl : A.length = J.length + A'.length := by rw [eA, List.length_append]
        have htop := tpo_app (R := RX) j2 (by omega)
        obtain ⟨M1, f1, x1⟩ := settle_x (r := rkN (so (T p))) (by omega) (rkN_le _) (J := J) (s := A' ++ RX) (z := z) (M := Mx) (by rw [← eX]; exact hX) (fun e he => ⟨j1 e he, by have := jA e he; omega⟩) htop (by rw [← eX]; exact hlX) (by omega) (fun e he c => by have := jA e he; omega)
        have el := eff_len J z (fun e he => by have := jA e he; omega)
        have hQ1 : TQ zb (eff J z) (A' ++ RY) (dpt A' + cc + 1) false := by
          refine TQ.ars jA ?_ (by omega) (by omega)
          rw [← eY, show dpt A' + cc + 1 + J.length = dpt A + cc + 1 by omega]
          exact hQ
        obtain ⟨M2, f2, x2⟩ := await_x (o := so (T p)) (k := 3) x1 (by simp only [List.length_append]; omega) (by omega)
        have hst1 : XR N p Mx (p + 1) M2 := XR.step hX.1 hp (fun n hn => gb_sum hc hn hX hs0 (f1 n (by omega)) (f2 n))
        obtain ⟨a, ha, ea⟩ : ∃ a : Nat, (a = 0 ∨ a = 1) ∧ ((so (T p) < 4 → a = 1) ∧ (4 ≤ so (T p) → a = 0)) := by
          by_cases c : so (T p) < 4
          · exact ⟨1, Or.inr rfl, fun _ => rfl, fun q => by omega⟩
          · exact ⟨0, Or.inl rfl, fun q => by omega, fun _ => rfl⟩
        obtain ⟨M3, f3, y3⟩ := closes_y (a := a) ha (J := J) (s := A' ++ RY) (n := nY) (by rw [← eY]; exact hY) (by rw [← eY]; exact hlY) (by omega) (by omega) (fun x hx => by
          have q1 := jA x hx
          have q2 := j1 x hx
          rw [hrk] at q2
          by_cases c : so (T p) < 4
          · have := ea.1 c
            omega
          · rw [if_neg c] at q2
            exact Or.inl (rk_6 q2)) (by
          cases A' with
          | nil =>
            refine hRY.imp id fun q w => ?_
            have := rk_ar (o := tpo RY) (by simp only [List.nil_append] at w; omega)
            omega
          | cons e A2 =>
            refine Or.inr fun w => ?_
            have w' : (4 ≤ e.1 ∧ e.1 ≤ 6) ∨ (a = 1 ∧ (e.1 = 2 ∨ e.1 = 3)) := w
            have h5 : rkN e.1 < rkN (so (T p)) := j2.resolve_left (by simp)
            rw [hrk] at h5
            by_cases c : so (T p) < 4
            · rw [if_pos c] at h5
              have := rk_ar (o := e.1) (by omega)
              omega
            · have := ea.2 (by omega)
              have h4 : 4 ≤ e.1 ∧ e.1 ≤ 6 := by omega
              have : rkN e.1 = 6 := by
                unfold rkN
                rw [if_neg (by omega), if_pos h4]
              rw [if_neg c] at h5
              omega)
        have y4 := put_y (o := so (T p)) y3 hp (by rw [eY] at hlY; simp only [List.length_append] at hlY ⊢; omega) (by omega)
        have hs4 : oc ((so (T p), 0) :: (A' ++ RX)) = oc (A' ++ RX) := by simp only [oc]; rw [if_neg (by omega)]; rfl
        have hs5 : oc ((so (T p), 0) :: (A' ++ RY)) = oc (A' ++ RY) := by simp only [oc]; rw [if_neg (by omega)]; rfl
        have hw4 : wt ((so (T p), 0) :: (A' ++ RX)) = wt A' + wt RX + 1 := by simp only [wt]; rw [if_pos (by omega), wt_app]
        have ho4 : oc (A' ++ RX) ≤ 6 := by rw [eX, oc_app] at ho; omega
        have key := factor_XY (d := d - 1) (st := 3) (nY := nY) (p := p + 1) (by omega) (Or.inl rfl) (by omega) x2 y4 (by rw [hs4, hs5, oc_app, oc_app]; omega) (by omega) ⟨Or.inr htop, by rw [eX] at hS; exact Sh.app hS⟩ (by simp only [List.length_cons, List.length_append]; omega) (by rw [hw4, el]; omega)
        have a8 := y3.2.2.2.2.2.2.2.1
        have t38 : b12_readsSum_38 (r12_readsSum nY) nY (nI RY.length) (nI (so (T p))) (nI a) My = bnd (f12_readsFactor nY (wI (wI (wI M3 10 (A' ++ RY).length (nI (1048576 * so (T p)))) 0 18 (nI ((A' ++ RY).length + 1))) 0 12 (nI (p + 1)))) fun r35 M36 => if r35 = 0 then some (0, M36) else r12_readsSum nY 14 [nI RY.length] [] M36 := by
          unfold b12_readsSum_38 b12_readsSum_163
          rw [bnd_e f3, a8, chk_in (by rw [eY] at hlY; simp only [List.length_append] at hlY ⊢; omega) (by decide), lt_v, lt_v, lt_v, nI_clamp (by rw [eY] at hlY; simp only [List.length_append] at hlY ⊢; omega), show (1048576 : Int32) = nI 1048576 from rfl, pk_mul, show (wI M3 10 (A' ++ RY).length (nI (1048576 * so (T p)))).1 0 18 = nI (A' ++ RY).length from a8, nI_1, show (wI (wI M3 10 (A' ++ RY).length (nI (1048576 * so (T p)))) 0 18 (nI ((A' ++ RY).length + 1))).1 0 12 = nI p from y3.2.2.1, nI_1]
        have goal : SumOut T N q gx gy RX RY zb cc p Mx (b12_readsSum_38 (r12_readsSum nY) nY (nI RY.length) (nI (so (T p))) (nI a) My) := by
          rw [t38]
          rcases key with ⟨f, My', k1, k2, k3⟩ | ⟨B, p', o, v, Mx', My', k1, k2, k3, k4, k5, k6, k7, k8, k9, k10, k11, k12, k13⟩
          · refine Or.inl ⟨f, My', ?_, k2, hst1.fault k3⟩
            rw [bnd_e k1, if_pos rfl]
          · rw [bnd_e k1, if_neg (by decide)]
            have eb : ∀ R : St, B ++ ((so (T p), 0) :: (A' ++ R)) = (B ++ (so (T p), 0) :: A') ++ R := fun R => by simp
            obtain ⟨b1, b2, b3⟩ := dpt_br k2
            rw [eb] at k3 k4 k12 k13
            refine SumOut.from (hst1.trans k11) (ih (N - p') (by omega) p' (B ++ (so (T p), 0) :: A') (adz (eff J z) o v) nY Mx' My' (by omega) (by omega) k12 k13 (fun x hx => ?_) k4 k3 ?_ ?_)
            · simp only [List.mem_append, List.mem_cons] at hx
              rcases hx with q | q | q
              · exact Or.inr (by rw [k2 x q])
              · exact Or.inl (by rw [q]; exact hs)
              · exact hA x (by rw [eA]; simp [q])
            · rw [← eb, wt_app, b2, hw4]
              rw [hw4] at k10
              show (eff J z).1 + 1 + (0 + (wt A' + wt RX + 1)) ≤ p'
              omega
            · have hQ2 := hQ1.num (o := o) (v := v) (by omega) k7 k8 k9
              have hdB : dpt (B ++ (so (T p), 0) :: A') = dpt A' + 1 := by
                rw [dpt_app, b1]
                simp only [dpt]
                rw [if_neg (by omega)]
                omega
              rw [hdB, show dpt A' + 1 + cc + 1 = dpt A' + cc + 1 + 1 by omega]
              refine hQ2.list fun x hx => ?_
              simp only [List.mem_append, List.mem_cons]
              constructor
              · rintro (w | w)
                · exact Or.inl (Or.inr (Or.inr w))
                · exact Or.inr w
              · rintro ((w | w | w) | w)
                · have := k2 x w
                  rw [this] at hx
                  simp at hx
                · rw [w] at hx
                  simp only at hx
                  omega
                · exact Or.inl w
                · exact Or.inr w
        rw [if_neg hs0, if_neg (nI_m1 (by omega))]
        by_cases c : so (T p) < 4
        · rw [if_neg (show ¬ (4 : Int32) ≤ nI (so (T p)) from nI_ge (b := 4) c (by decide))]
          rw [ea.1 c] at goal
          exact goal
        · rw [if_pos (show (4 : Int32) ≤ nI (so (T p)) from nI_le (a := 4) (by omega) (by omega))]
          rw [ea.2 (by omega)] at goal
          exact goal
    · -- the text is at its end
      have hpN : p = N := by omega
      rw [if_neg hp] at hh
      rw [if_neg hp, show f12_sumSign nY (-1) My = some (-1, My) from rfl, bnd_s', if_pos rfl, bnd_e hh, if_neg (by decide)]
      unfold b12_readsSum_138
      rw [bnd_e (hasO_y (n := nY) hY hlY (by omega))]
      by_cases h14 : ∃ e, e ∈ A ∧ e.1 = 14
      · rw [if_pos h14, if_neg (by decide), wrong_e, bnd_s', chk_t (by decide), hY.2.2.1]
        exact Or.inl ⟨_, _, rfl, rfl, XF.bad hX.1 (by omega) hX.2.2.1 (by decide) (fun q => absurd q hp)⟩
      · have jA : ∀ e, e ∈ A → 2 ≤ e.1 ∧ e.1 ≤ 6 := fun e he => (hA e he).resolve_right (fun q => h14 ⟨e, he, q⟩)
        obtain ⟨M1, f1, x1⟩ := settle_x (r := 5) (by decide) (by decide) (J := A) (s := RX) hX (fun e he => ⟨rk_ar (jA e he), by have := jA e he; omega⟩) hR hlX (by omega) (fun e he c => by have := jA e he; omega)
        have el := eff_len A z (fun e he => by have := jA e he; omega)
        obtain ⟨M3, f3, y3⟩ := closes_y (a := 1) (Or.inr rfl) (J := A) (s := RY) (n := nY) hY hlY (by omega) (by omega) (fun x hx => by have := jA x hx; omega) (hRY.imp id fun q => by
          intro w
          have := rk_ar (o := tpo RY) (by omega)
          omega)
        rw [if_neg h14, if_pos rfl, bnd_e (show f12_closesSums nY (1 : Int32) My = some ((), M3) from f3)]
        refine Or.inr ⟨p, eff A z, M1, M3, rfl, Nat.le_refl _, XR.same hX.1 x1.1 (by omega) (fun q => absurd q hp) hX.2.2.1 (by decide) x1.2.2.1 (by decide), x1, y3, by rw [el]; omega, ?_, fun q => absurd q hp⟩
        refine TQ.ars jA ?_ (by omega) (by omega)
        rw [dpt_ar (fun e he => by have := jA e he; omega)] at hQ
        rw [show cc + 1 + A.length = A.length + cc + 1 by omega]
        exact hQ
theorem sum_XY {RX RY : St} {zb z : Zc} {cc p st nY : Nat} {Mx My : Mem} (hcc : cc ≤ 1) (hR : rkN (tpo RX) < 5) (hR14 : tpo RX ≠ 14) (hRY : RY = [] ∨ (rkN (tpo RY) < 5)) (hoc : oc RX = oc RY) (hll : RY.length ≤ RX.length) (hst : st = 3 ∨ (st = 2 ∧ (p < N → T p ≠ 33 ∧ T p ≠ 40))) (hn : 4000 ≤ nY) (hX : XV T N q gx st RX z Mx) (hY : YV T N q gy p RY z My) (hS : Sh RX) (ho : oc RX ≤ 6) (hw : z.1 + wt RX ≤ p) (hQ : TQ zb z RY cc false) : SumOut T N q gx gy RX RY zb cc p Mx (f12_readsSum nY My) := by
  have hN := hY.1.1
  have hpN := hY.1.2.1
  have key := factor_XY (d := N - p) (nY := nY) (by omega) hst (by omega) hX hY hoc ho hS hll hw
  unfold f12_readsSum b12_readsSum_0
  rw [lt_v, hY.2.2.2.2.2.2.2.1]
  rcases key with ⟨f, My', k1, k2, k3⟩ | ⟨B, p', o, v, Mx', My', k1, k2, k3, k4, k5, k6, k7, k8, k9, k10, k11, k12, k13⟩
  · rw [bnd_e k1, if_pos rfl]
    exact Or.inl ⟨f, My', rfl, k2, k3⟩
  · obtain ⟨b1, b2, b3⟩ := dpt_br k2
    rw [bnd_e k1, if_neg (by decide)]
    have h := lsum_loop hcc hR hR14 hRY hoc hll (N - p') p' B (adz z o v) (nY + 1) Mx' My' (by omega) (by omega) k12 k13 (fun x hx => Or.inr (by rw [k2 x hx])) k4 k3 (by
      rw [wt_app, b2]
      show z.1 + 1 + (0 + wt RX) ≤ p'
      omega) (zb := zb) (by
      rw [b1]
      rw [show 0 + cc + 1 = cc + 1 by omega]
      refine (hQ.num (by omega) k7 k8 k9).list fun x hx => ?_
      simp only [List.mem_append]
      exact ⟨Or.inr, fun w => w.resolve_left (fun r => by rw [k2 x r] at hx; simp at hx)⟩)
    rw [e12_readsSum_14] at h
    exact SumOut.from k11 h
end SU
