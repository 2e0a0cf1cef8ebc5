/-! THE LAW's reader: comparisons and conditions, both at a time -/
def Cn : St → Prop
  | [] => False
  | e :: s => (e.1 = 13 ∧ s = []) ∨ ((10 ≤ e.1 ∧ e.1 ≤ 13) ∧ Cn s)
theorem Cn.top : ∀ {s : St}, Cn s → 10 ≤ tpo s ∧ tpo s ≤ 13
  | [], h => h.elim
  | e :: s, h => by
    show 10 ≤ e.1 ∧ e.1 ≤ 13
    rcases h with h | h
    · omega
    · exact h.1
theorem Cn.ne {s : St} (h : Cn s) : s ≠ [] := fun e => by rw [e] at h; exact h
theorem rk_top {o : Nat} (h : 10 ≤ o ∧ o ≤ 13) : rkN o < 5 := by
  unfold rkN
  repeat' split
  all_goals omega
theorem Cn.app : ∀ {J s : St}, Cn (J ++ s) → (∀ e, e ∈ J → e.1 ≠ 13) → Cn s
  | [], _, h, _ => h
  | e :: J, s, h, g => by
    have h' : (e.1 = 13 ∧ J ++ s = []) ∨ ((10 ≤ e.1 ∧ e.1 ≤ 13) ∧ Cn (J ++ s)) := h
    rcases h' with q | q
    · exact absurd q.1 (g e List.mem_cons_self)
    · exact Cn.app q.2 (fun x hx => g x (List.mem_cons_of_mem _ hx))
theorem not_split : ∀ {s : St}, Cn s → ∃ J s', s = J ++ s' ∧ (∀ e, e ∈ J → e.1 = 10) ∧ tpo s' ≠ 10 ∧ Cn s'
  | [], h => h.elim
  | e :: s, h => by
    by_cases c : e.1 = 10
    · have h' : (e.1 = 13 ∧ s = []) ∨ ((10 ≤ e.1 ∧ e.1 ≤ 13) ∧ Cn s) := h
      obtain ⟨J, s', h1, h2, h3, h4⟩ := not_split (h'.resolve_left (by omega)).2
      exact ⟨e :: J, s', by rw [h1]; rfl, fun x hx => (List.mem_cons.mp hx).elim (fun q => by rw [q]; exact c) (h2 x), h3, h4⟩
    · exact ⟨[], e :: s, rfl, by simp, c, h⟩
theorem jump_split {r : Nat} (hr : r = 1 ∨ r = 2) : ∀ {s : St}, Cn s → Sh s → tpo s ≠ 10 → ∃ J s', s = J ++ s' ∧ (∀ e, e ∈ J → e.1 = 11 ∨ (r = 1 ∧ e.1 = 12)) ∧ rkN (tpo s') < r ∧ Cn s' ∧ tpo s' ≠ 10 ∧ tpo s' ≠ 11 ∧ (r = 1 → tpo s' ≠ 12)
  | [], h, _, _ => h.elim
  | e :: s, h, hS, ht => by
    have ht' : e.1 ≠ 10 := ht
    have h' : (e.1 = 13 ∧ s = []) ∨ ((10 ≤ e.1 ∧ e.1 ≤ 13) ∧ Cn s) := h
    have hS' : ((e.1 = 10 ∨ e.1 = 13 ∨ e.1 = 14) ∨ rkN (tpo s) < rkN e.1) ∧ Sh s := hS
    by_cases c13 : e.1 = 13
    · refine ⟨[], e :: s, rfl, by simp, ?_, h, ht, ?_, ?_⟩
      · show rkN e.1 < r
        rw [c13]
        show 0 < r
        omega
      · show e.1 ≠ 11
        omega
      · intro _
        show e.1 ≠ 12
        omega
    · obtain ⟨h1, h2⟩ := h'.resolve_left (fun q => c13 q.1)
      have hk := hS'.1.resolve_left (by omega)
      have hne : tpo s ≠ 10 := fun q => by
        rw [q] at hk
        have : rkN 10 = 3 := rfl
        have : rkN 11 = 2 := rfl
        have : rkN 12 = 1 := rfl
        have : e.1 = 11 ∨ e.1 = 12 := by omega
        rcases this with w | w <;> rw [w] at hk <;> omega
      by_cases c : e.1 = 11 ∨ (r = 1 ∧ e.1 = 12)
      · obtain ⟨J, s', g1, g2, g3⟩ := jump_split hr h2 hS'.2 hne
        exact ⟨e :: J, s', by rw [g1]; rfl, fun x hx => (List.mem_cons.mp hx).elim (fun q => by rw [q]; exact c) (g2 x), g3⟩
      · have e12 : e.1 = 12 ∧ r = 2 := by omega
        refine ⟨[], e :: s, rfl, by simp, ?_, h, ht, ?_, ?_⟩
        · show rkN e.1 < r
          rw [e12.1, e12.2]
          decide
        · show e.1 ≠ 11
          omega
        · intro _
          omega
section CO
variable {T : Nat → Nat} {N q : Nat} {gx gy : Nat → Nat → Int32}
def CmpOut (T : Nat → Nat) (N q : Nat) (gx gy : Nat → Nat → Int32) (s : St) (zb : Zc) (p : Nat) (Mx : Mem) (o : Option (Int32 × Mem)) : Prop := (∃ f My', o = some (0, My') ∧ My'.1 0 14 = f ∧ XF N p Mx f) ∨ (∃ p' c z0 J s' Mx' My', o = some (1, My') ∧ p < p' ∧ XR N p Mx p' Mx' ∧ s = J ++ s' ∧ (∀ e, e ∈ J → e.1 = 10) ∧ tpo s' ≠ 10 ∧ Cn s' ∧ (7 ≤ c ∧ c ≤ 9) ∧ XV T N q gx 5 ((c, 0) :: s) z0 Mx' ∧ YV T N q gy p' s' (eff ((c, 0) :: J) z0) My' ∧ z0.1 + wt ((c, 0) :: s) ≤ p' ∧ TQ zb z0 s 2 false ∧ TQ zb (eff ((c, 0) :: J) z0) s' 1 true ∧ Sh ((c, 0) :: s) ∧ (p' < N → so (T p') = 0))
theorem cmp_y {n c : Nat} {My : Mem} (hc : c < 256) (hh : f12_here n My = some (nI c, My)) (rc : Nat → List Int32 → List Int64 → Mem → Option (Int32 × Mem)) : (bnd (f12_here n My) fun r5 M6 => if r5 = (60 : Int32) then b12_readsCompared_52 rc n (7 : Int32) M6 else bnd (f12_here n M6) fun r9 M10 => if r9 = (62 : Int32) then b12_readsCompared_52 rc n (8 : Int32) M10 else bnd (f12_here n M10) fun r13 M14 => if r13 = (61 : Int32) then b12_readsCompared_52 rc n (9 : Int32) M14 else b12_readsCompared_52 rc n (-1 : Int32) M14) = b12_readsCompared_52 rc n (if cmo c = 0 then -1 else nI (cmo c)) My := by
  simp only [hh, bnd_s', show (nI c = (60 : Int32)) = (c = 60) from propext (nI_eq (b := 60) (by omega) (by decide)), show (nI c = (62 : Int32)) = (c = 62) from propext (nI_eq (b := 62) (by omega) (by decide)), show (nI c = (61 : Int32)) = (c = 61) from propext (nI_eq (b := 61) (by omega) (by decide))]
  unfold cmo
  repeat' split
  all_goals first | rfl | omega
theorem compared_XY {s : St} {zb z : Zc} {p nY : Nat} {Mx My : Mem} (hn : 4500 ≤ nY) (hX : XV T N q gx 2 s z Mx) (hY : YV T N q gy p s z My) (hT : p < N → T p ≠ 33 ∧ T p ≠ 40) (hC : Cn s) (hS : Sh s) (ho : oc s ≤ 6) (hw : z.1 + wt s ≤ p) (hQ : TQ zb z s 0 false) : CmpOut T N q gx gy s zb p Mx (f12_readsCompared nY My) := by
  have ht := hC.top
  have hr := rk_top ht
  have hN := hY.1.1
  have hsl := hS.le ho
  unfold f12_readsCompared b12_readsCompared_0
  rcases sum_XY (cc := 0) (zb := zb) (nY := nY) (by decide) hr (by omega) (Or.inr hr) rfl (Nat.le_refl _) (Or.inr ⟨rfl, hT⟩) (by omega) hX hY hS ho hw hQ with ⟨f, My1, k1, k2, k3⟩ | ⟨p1, z1, X1, Y1, k1, k2, k3, k4, k5, k6, k7, k8⟩
  · rw [bnd_e k1, if_pos rfl]
    exact Or.inl ⟨f, My1, rfl, k2, k3⟩
  · rw [bnd_e k1, if_neg (by decide)]
    have hh := here_y k5 nY
    have hp1 := k5.1.2.1
    have wrong : f12_wrongAt nY 1 (Y1.1 0 12) Y1 = some (0, wI Y1 0 14 ((-1000 : Int32) * nI 1 - nI p1)) := by rw [wrong_e, k5.2.2.1]; rfl
    by_cases c1 : p1 < N
    · have hc := hY.1.2.2 p1 c1
      rw [if_pos c1] at hh
      rw [cmp_y hc hh]
      unfold b12_readsCompared_52
      have hst0 := settle_0 (r := 5) (by decide) (by decide) k4 hr (by omega)
      have hin := inner_x k4 (by omega)
      by_cases c0 : cmo (T p1) = 0
      · rw [if_pos c0, if_pos rfl, wrong, bnd_s', chk_t (by decide)]
        refine Or.inl ⟨_, _, rfl, rfl, k3.fault (XF.bad k4.1 hp1 k4.2.2.1 (by decide) (fun _ n hn => ⟨X1, ?_⟩))⟩
        rw [gb_other hc hn k4 (k8 c1) (hst0 n), bnd_e (hin n), if_pos c0, if_neg (c := nI (tpo s) = (14 : Int32)) (fun e => by have := (nI_eq (b := 14) (by omega) (by decide)).mp e; omega), if_neg (c := nI (tpo s) = (15 : Int32)) (fun e => by have := (nI_eq (b := 15) (by omega) (by decide)).mp e; omega), isc_x (by omega), bnd_s', if_neg (c := 7 ≤ tpo s ∧ tpo s ≤ 9) (by omega), if_pos rfl]
        repeat' split
        all_goals rfl
      · have hcm := (cmo_in (T p1)).resolve_left c0
        obtain ⟨X2, f2, x2⟩ := await_x (o := cmo (T p1)) (k := 3) k4 (by omega) (by omega)
        have hst2 : XR N p1 X1 (p1 + 1) X2 := XR.step k4.1 c1 (fun n hn => by
          rw [gb_other hc hn k4 (k8 c1) (hst0 n), bnd_e (hin n), if_neg c0, if_neg (c := nI (tpo s) = (15 : Int32)) (fun e => by have := (nI_eq (b := 15) (by omega) (by decide)).mp e; omega), if_neg (c := nI (tpo s) = (14 : Int32)) (fun e => by have := (nI_eq (b := 14) (by omega) (by decide)).mp e; omega), isc_x (by omega), bnd_s', if_neg (c := 7 ≤ tpo s ∧ tpo s ≤ 9) (by omega), if_pos rfl]
          exact f2 n)
        have y2 := k5.next c1
        have r4 : rkN (cmo (T p1)) = 4 := by
          unfold rkN
          rw [if_neg (by omega), if_neg (by omega), if_pos (by omega)]
        have eo : oc ((cmo (T p1), 0) :: s) = oc s := by simp only [oc]; rw [if_neg (by omega)]; rfl
        have ew : wt ((cmo (T p1), 0) :: s) = wt s + 1 := by simp only [wt]; rw [if_pos (by omega)]
        have rS : rkN (tpo s) < 4 := by
          unfold rkN
          repeat' split
          all_goals omega
        have hS2 : Sh ((cmo (T p1), 0) :: s) := ⟨Or.inr (by rw [r4]; exact rS), hS⟩
        rw [if_neg c0, if_neg (nI_m1 (by omega)), lt_v, k5.2.2.1, nI_1]
        rcases sum_XY (cc := 1) (zb := zb) (nY := nY) (RX := (cmo (T p1), 0) :: s) (RY := s) (by decide) (by show rkN (cmo (T p1)) < 5; omega) (by show cmo (T p1) ≠ 14; omega) (Or.inr hr) eo (by simp) (Or.inl rfl) (by omega) x2 y2 hS2 (by omega) (by omega) k7 with ⟨f, My2, l1, l2, l3⟩ | ⟨p2, z2, X3, Y3, l1, l2, l3, l4, l5, l6, l7, l8⟩
        · rw [bnd_e l1, if_pos rfl]
          exact Or.inl ⟨f, My2, rfl, l2, (k3.trans hst2).fault l3⟩
        · rw [bnd_e l1, if_neg (by decide)]
          have hp2 := l5.1.2.1
          obtain ⟨Y4, f4, y4, _⟩ := codes_y (o := cmo (T p1)) (v := 0) l5 (by omega) nY
          obtain ⟨J, s', e1, e2, e3, e4⟩ := not_split hC
          have wJ : wt s = wt J + wt s' := by rw [e1, wt_app]
          have q1 := (l7.cmp hcm)
          have q2 : TQ zb (adz z2 (cmo (T p1)) 0) (J ++ s') 1 true := by rw [← e1]; exact q1
          have y4' : YV T N q gy p2 (J ++ s') (adz z2 (cmo (T p1)) 0) Y4 := by rw [← e1]; exact y4
          obtain ⟨Y5, f5, y5⟩ := ends_y (n := nY) y4' (by rw [← e1]; omega) (by omega) (by show z2.1 + 1 + wt J ≤ 240; omega) e2 e3
          have ee : eff ((cmo (T p1), 0) :: J) z2 = eff J (adz z2 (cmo (T p1)) 0) := by rw [eff, if_neg (by simp only; omega)]
          rw [bnd_e (show f12_codesOf nY (nI (cmo (T p1))) (0 : Int32) Y3 = some ((), Y4) from f4), bnd_e f5]
          refine Or.inr ⟨p2, cmo (T p1), z2, J, s', X3, Y5, rfl, by omega, (k3.trans hst2).trans l3, e1, e2, e3, e4, hcm, l4, by rw [ee]; exact y5, l6, l7, by rw [ee]; exact q2.nots e2, hS2, l8⟩
    · rw [if_neg c1] at hh
      simp only [hh, bnd_s', show ((-1 : Int32) = 60) = False from eq_false (by decide), show ((-1 : Int32) = 62) = False from eq_false (by decide), show ((-1 : Int32) = 61) = False from eq_false (by decide), if_false]
      unfold b12_readsCompared_52
      rw [if_pos rfl, wrong, bnd_s', chk_t (by decide)]
      exact Or.inl ⟨_, _, rfl, rfl, k3.fault (XF.bad k4.1 hp1 k4.2.2.1 (by decide) (fun w => absurd w c1))⟩
/-! behind a comparison or a bracket -/
theorem gt_other {c n : Nat} {M : Mem} (hc : c < 256) (h1 : c ≠ 38) (h2 : c ≠ 124) (h3 : c ≠ 41) : f3_goOnBehindTest n (nI c) M = some (1, M) := by
  unfold f3_goOnBehindTest b3_goOnBehindTest_0
  rw [if_neg (c := nI _ = (38 : Int32)) (fun e => h1 ((nI_eq (b := 38) (by omega) (by decide)).mp e)), if_neg (c := nI _ = (124 : Int32)) (fun e => h2 ((nI_eq (b := 124) (by omega) (by decide)).mp e)), if_neg (c := nI _ = (41 : Int32)) (fun e => h3 ((nI_eq (b := 41) (by omega) (by decide)).mp e))]
theorem h92_x {st c n : Nat} {s : St} {z : Zc} {M : Mem} (hX : XV T N q gx st s z M) (hl : s.length ≤ 60) (hc : c < 256) (hn : 900 ≤ n) (h : st = 6 ∨ (st = 5 ∧ (7 ≤ tpo s ∧ tpo s ≤ 9) ∧ so c = 0)) : ((c = 38 ∨ c = 124 ∨ c = 41) → f3_readSign n (nI c) M = f3_goOnBehindTest n (nI c) M) ∧ (¬ (c = 38 ∨ c = 124 ∨ c = 41) → f3_readSign n (nI c) M = some (1, M)) := by
  rcases h with rfl | ⟨rfl, ht, hs⟩
  · rw [rs6 hX]
    exact ⟨fun _ => rfl, fun w => gt_other hc (by omega) (by omega) (by omega)⟩
  · have r4 : rkN (tpo s) = 4 := by
      unfold rkN
      rw [if_neg (by omega), if_neg (by omega), if_pos (by omega)]
    have t14 : (nI (tpo s) = (14 : Int32)) = False := eq_false (fun e => by have := (nI_eq (b := 14) (by omega) (by decide)).mp e; omega)
    have t15 : (nI (tpo s) = (15 : Int32)) = False := eq_false (fun e => by have := (nI_eq (b := 15) (by omega) (by decide)).mp e; omega)
    rw [gb_other hc hn hX hs (settle_0 (r := 5) (by decide) (by decide) hX (by omega) hl n), bnd_e (inner_x hX (by omega) n)]
    simp only [isc_x (show tpo s ≤ 15 by omega), bnd_s', if_pos ht, t10, t14, t15, if_false]
    refine ⟨fun w => ?_, fun w => ?_⟩
    · have e0 : cmo c = 0 := by rcases w with rfl | rfl | rfl <;> rfl
      rw [if_pos e0, if_neg (by omega), if_neg (by omega)]
    · rw [gt_other hc (by omega) (by omega) (by omega)]
      repeat' split
      all_goals rfl
def gN (gx : Nat → Nat → Int32) (q len : Nat) : Nat → Nat → Int32 := fun k => if k = 19 then (fun j => if j = 2 * (q + 1) then nI len else gx 19 j) else gx k
theorem gt_close {st n : Nat} {e : Nat × Nat} {s' : St} {z : Zc} {M M1 : Mem} (hq : q < 16) (hl : s'.length ≤ 60) (h1 : f3_settle n (nI 1) M = some ((), M1)) (hX : XV T N q gx st (e :: s') z M1) (he : e.1 = 13) : (s' ≠ [] → ∃ M', (∀ n, f3_settle n (nI 1) M = some ((), M1) → f3_goOnBehindTest n (nI 41) M = some (0, M')) ∧ XV T N q gx 6 s' z M') ∧ (s' = [] → ∃ M', (∀ n, f3_settle n (nI 1) M = some ((), M1) → f3_goOnBehindTest n (nI 41) M = some (0, M')) ∧ XV T N (q + 1) (gN gx q z.1) 7 [] z M') := by
  have a7 := hX.2.2.2.2.2.2.1
  rw [List.length_cons] at a7
  have hin := inner_x hX (by rw [List.length_cons]; omega)
  have base : ∀ n, f3_settle n (nI 1) M = some ((), M1) → f3_goOnBehindTest n (nI 41) M = if nI (s'.length + 1) ≤ 1 then b3_goOnBehindTest_87 (fun _ _ _ _ => none) n 7 M1 else b3_goOnBehindTest_87 (fun _ _ _ _ => none) n 6 M1 := by
    intro n h1
    unfold f3_goOnBehindTest b3_goOnBehindTest_0
    rw [if_neg (show ¬ nI 41 = (38 : Int32) by decide), if_neg (show ¬ nI 41 = (124 : Int32) by decide), if_pos (show nI 41 = (41 : Int32) by decide), chk_t (by decide), show ranksL.getD (12 : Int32).toNatClampNeg 0 = nI 1 by decide, bnd_e h1, bnd_e (hin n), show tpo (e :: s') = e.1 from rfl, he, if_pos (show nI 13 = (13 : Int32) by decide), a7]
  refine ⟨fun hne => ?_, fun h0 => ?_⟩
  · obtain ⟨M2, f2, x2⟩ := close_x (k := 6) hX (Or.inl he)
    refine ⟨M2, fun n h1 => ?_, x2⟩
    have hlen : 0 < s'.length := List.length_pos_iff.mpr hne
    rw [base n h1, if_neg (show ¬ nI (s'.length + 1) ≤ (1 : Int32) from nI_ge (a := 1) (by omega) (by omega))]
    unfold b3_goOnBehindTest_87 b3_goOnBehindTest_134
    rw [bnd_e (show f3_close n (6 : Int32) M1 = some (0, M2) from f2 n), x2.2.2.1, if_neg (by decide)]
  · subst h0
    obtain ⟨M2, f2, x2⟩ := close_x (k := 7) hX (Or.inl he)
    obtain ⟨a1, a2, a3, a4, a5, a6, a7', a8, a9, a10⟩ := x2
    refine ⟨wI (wI M2 17 5 (nI (q + 1))) 19 (2 * (q + 1)) (nI z.1), fun n h1 => ?_, a1, rfl, a3, ?_, a5, a6, a7', a8, a9, trivial⟩
    · rw [base n h1, if_pos (show nI ([] : St).length.succ ≤ (1 : Int32) by decide)]
      unfold b3_goOnBehindTest_87 b3_goOnBehindTest_134
      rw [bnd_e (show f3_close n (7 : Int32) M1 = some (0, M2) from f2 n), a3, if_pos (by decide), a2, if_neg (show ¬ (16 : Int32) ≤ nI q from nI_ge (b := 16) hq (by decide)), nI_1, lt_v, show (wI M2 17 5 (nI (q + 1))).1 17 5 = nI (q + 1) from rfl, show (2 : Int32) * nI (q + 1) = nI (2 * (q + 1)) from pk_mul 2 (q + 1), chk_in (by omega) (by decide), lt_v, nI_clamp (by omega), show (wI M2 17 5 (nI (q + 1))).1 17 6 = nI z.1 from a6]
    · funext j
      show (if j = 2 * (q + 1) then nI z.1 else M2.1 19 j) = gN gx q z.1 19 j
      unfold gN
      rw [if_pos rfl, a4]
theorem gt_jump {c o r n : Nat} {M M1 M2 : Mem} (h : (c = 38 ∧ o = 11 ∧ r = 2) ∨ (c = 124 ∧ o = 12 ∧ r = 1)) (h1 : f3_settle n (nI r) M = some ((), M1)) (h2 : f3_await n (nI o) (nI 2) M1 = some (0, M2)) : f3_goOnBehindTest n (nI c) M = some (0, M2) := by
  unfold f3_goOnBehindTest b3_goOnBehindTest_0 b3_goOnBehindTest_12 b3_goOnBehindTest_25
  rcases h with ⟨rfl, rfl, rfl⟩ | ⟨rfl, rfl, rfl⟩
  · rw [if_pos (show nI 38 = (38 : Int32) by decide), if_pos (show nI 38 = (38 : Int32) by decide), chk_t (by decide), show ranksL.getD (11 : Int32).toNatClampNeg 0 = nI 2 by decide, bnd_e h1, bnd_id]
    exact h2
  · rw [if_neg (show ¬ nI 124 = (38 : Int32) by decide), if_pos (show nI 124 = (124 : Int32) by decide), if_neg (show ¬ nI 124 = (38 : Int32) by decide), chk_t (by decide), show ranksL.getD (12 : Int32).toNatClampNeg 0 = nI 1 by decide, bnd_e h1, bnd_id]
    exact h2
end CO
