/-! THE LAW's reader: code and stacks, the class's side -/
abbrev Zc := Nat × (Nat → Nat) × (Nat → Nat)
def adz (z : Zc) (o v : Nat) : Zc := (z.1 + 1, fun i => if i = z.1 then o else z.2.1 i, fun i => if i = z.1 then v else z.2.2 i)
def paz (z : Zc) (l : Nat) : Zc := (z.1, z.2.1, fun i => if i = l then z.1 else z.2.2 i)
abbrev St := List (Nat × Nat)
def eff : St → Zc → Zc
  | [], z => z
  | e :: s, z => eff s (if e.1 = 11 ∨ e.1 = 12 then paz z e.2 else adz z e.1 0)
def rkN (o : Nat) : Nat := if o = 2 ∨ o = 3 then 5 else if 4 ≤ o ∧ o ≤ 6 then 6 else if 7 ≤ o ∧ o ≤ 9 then 4 else if o = 10 then 3 else if o = 11 then 2 else if o = 12 then 1 else 0
def oc : St → Nat
  | [] => 0
  | e :: s => oc s + (if e.1 = 10 ∨ e.1 = 13 ∨ e.1 = 14 then 1 else 0)
def wt : St → Nat
  | [] => 0
  | e :: s => wt s + (if e.1 ≤ 10 then 1 else 0)
def tpo : St → Nat
  | [] => 15
  | e :: _ => e.1
def Sh : St → Prop
  | [] => True
  | e :: s => ((e.1 = 10 ∨ e.1 = 13 ∨ e.1 = 14) ∨ rkN (tpo s) < rkN e.1) ∧ Sh s
theorem rkN_le (o : Nat) : rkN o ≤ 6 := by
  unfold rkN
  repeat' split
  all_goals omega
theorem Sh.len : ∀ {s : St}, Sh s → s.length ≤ 7 * oc s + rkN (tpo s)
  | [], _ => Nat.zero_le _
  | e :: s, h => by
    have ih := Sh.len h.2
    have h6 := rkN_le (tpo s)
    simp only [List.length_cons, oc, tpo]
    by_cases c : e.1 = 10 ∨ e.1 = 13 ∨ e.1 = 14
    · rw [if_pos c]; omega
    · rw [if_neg c]
      have := h.1.resolve_left c
      omega
theorem Sh.le {s : St} (h : Sh s) (ho : oc s ≤ 6) : s.length ≤ 48 := by
  have := h.len
  have := rkN_le (tpo s)
  omega
theorem Sh.app : ∀ {J s : St}, Sh (J ++ s) → Sh s
  | [], _, h => h
  | _ :: _, _, h => Sh.app h.2
theorem oc_app : ∀ (J s : St), oc (J ++ s) = oc J + oc s
  | [], s => by simp [oc]
  | e :: J, s => by simp only [List.cons_append, oc, oc_app J s]; omega
theorem wt_app : ∀ (J s : St), wt (J ++ s) = wt J + wt s
  | [], s => by simp [wt]
  | e :: J, s => by simp only [List.cons_append, wt, wt_app J s]; omega
theorem eff_app : ∀ (J s : St) (z : Zc), eff (J ++ s) z = eff s (eff J z)
  | [], _, _ => rfl
  | _ :: J, s, z => by simp only [List.cons_append, eff]; exact eff_app J s _
theorem eff_len : ∀ (J : St) (z : Zc), (∀ e, e ∈ J → e.1 ≤ 12) → (eff J z).1 = z.1 + wt J
  | [], _, _ => rfl
  | e :: J, z, h => by
    have h0 := h e List.mem_cons_self
    have ih := fun z => eff_len J z (fun e he => h e (List.mem_cons_of_mem _ he))
    simp only [eff, wt]
    by_cases c : e.1 = 11 ∨ e.1 = 12
    · rw [if_pos c, ih, if_neg (by omega)]; rfl
    · rw [if_neg c, ih, if_pos (by omega)]
      show z.1 + 1 + wt J = _
      omega
theorem split_ex (r : Nat) : ∀ s : St, ∃ J s', s = J ++ s' ∧ (∀ e, e ∈ J → r ≤ rkN e.1) ∧ (s' = [] ∨ rkN (tpo s') < r)
  | [] => ⟨[], [], rfl, by simp, Or.inl rfl⟩
  | e :: s => by
    by_cases c : r ≤ rkN e.1
    · obtain ⟨J, s', h1, h2, h3⟩ := split_ex r s
      exact ⟨e :: J, s', by rw [h1]; rfl, fun x hx => (List.mem_cons.mp hx).elim (fun q => by rw [q]; exact c) (h2 x), h3⟩
    · exact ⟨[], e :: s, rfl, by simp, Or.inr (by show rkN e.1 < r; omega)⟩
/-- the class's stack, top first -/
def SkX : St → Mem → Prop
  | [], _ => True
  | e :: s, M => (e.1 ≤ 14 ∧ M.1 21 s.length = nI e.1 ∧ ((e.1 = 11 ∨ e.1 = 12) → M.1 22 s.length = nI e.2)) ∧ SkX s M
theorem SkX.keep : ∀ {s : St} {M M' : Mem}, SkX s M → (∀ j, j < s.length → M'.1 21 j = M.1 21 j ∧ M'.1 22 j = M.1 22 j) → SkX s M'
  | [], _, _, _, _ => trivial
  | e :: s, M, M', h, g => by
    have g0 := g s.length (by simp)
    refine ⟨⟨h.1.1, by rw [g0.1]; exact h.1.2.1, fun c => by rw [g0.2]; exact h.1.2.2 c⟩, SkX.keep h.2 (fun j hj => g j (by simp; omega))⟩
def XV (T : Nat → Nat) (N q : Nat) (g : Nat → Nat → Int32) (st : Nat) (s : St) (z : Zc) (M : Mem) : Prop := TT1 T N M ∧ M.1 17 5 = nI q ∧ M.1 17 9 = nI st ∧ M.1 19 = g 19 ∧ M.1 20 = g 20 ∧ M.1 17 6 = nI z.1 ∧ M.1 17 7 = nI s.length ∧ M.1 17 8 = nI (oc s) ∧ (∀ i, i < z.1 → M.1 18 i = nI (z.2.1 i + 16 * z.2.2 i)) ∧ SkX s M
theorem code_mk {o v : Nat} (ho : o < 16) (hv : v < 1048576) : nI o ||| (nI v <<< ((4 : Int32) &&& 31)) = nI (o + 16 * v) := by
  rw [pk_shlN ((4 : Int32) &&& 31) 4 (by decide) (by omega), show v * 2 ^ 4 = 2 ^ 4 * v by omega, fa_or, Nat.or_comm, ← Nat.two_pow_add_eq_or_of_lt (show o < 2 ^ 4 by omega)]
  congr 1
  omega
section PX
variable {T : Nat → Nat} {N q : Nat} {g : Nat → Nat → Int32} {st : Nat} {s : St} {z : Zc} {M : Mem}
theorem add_x {o v : Nat} (h : XV T N q g st s z M) (hz : z.1 < 240) (ho : o < 16) (hv : v < 1048576) : ∃ M', (∀ n, f3_add n (nI o) (nI v) M = some ((), M')) ∧ XV T N q g st s (adz z o v) M' := by
  obtain ⟨a1, a2, a3, a4, a5, a6, a7, a8, a9, a10⟩ := h
  refine ⟨wI (wI M 18 z.1 (nI (o + 16 * v))) 17 6 (nI (z.1 + 1)), fun n => ?_, a1, a2, a3, a4, a5, rfl, a7, a8, fun i hi => ?_, a10.keep fun j _ => ⟨rfl, rfl⟩⟩
  · unfold f3_add b3_add_0
    rw [a6, if_neg (show ¬ (240 : Int32) ≤ nI z.1 from nI_ge (b := 240) hz (by decide)), chk_in hz (by decide), lt_v, lt_v, code_mk ho hv, nI_clamp (by omega), show (wI M 18 z.1 (nI (o + 16 * v))).1 17 6 = nI z.1 from a6, nI_1]
  · have hi' : i < z.1 + 1 := hi
    show (if i = z.1 then nI (o + 16 * v) else M.1 18 i) = nI ((if i = z.1 then o else z.2.1 i) + 16 * (if i = z.1 then v else z.2.2 i))
    by_cases c : i = z.1
    · rw [if_pos c, if_pos c, if_pos c]
    · rw [if_neg c, if_neg c, if_neg c]; exact a9 i (by omega)
theorem push_x {o : Nat} (h : XV T N q g st s z M) (hl : s.length < 64) : ∀ n, f3_push n (nI o) M = some ((), wI (wI (wI M 21 s.length (nI o)) 22 s.length (nI z.1)) 17 7 (nI (s.length + 1))) := by
  obtain ⟨a1, a2, a3, a4, a5, a6, a7, a8, a9, a10⟩ := h
  intro n
  unfold f3_push b3_push_0
  rw [a7, if_neg (show ¬ (64 : Int32) ≤ nI s.length from nI_ge (b := 64) hl (by decide)), chk_in hl (by decide), lt_v, nI_clamp (by omega), show (wI M 21 s.length (nI o)).1 17 7 = nI s.length from a7, chk_in hl (by decide), lt_v, lt_v, nI_clamp (by omega), show (wI M 21 s.length (nI o)).1 17 6 = nI z.1 from a6, show (wI (wI M 21 s.length (nI o)) 22 s.length (nI z.1)).1 17 7 = nI s.length from a7, nI_1]
theorem SkX.push {e : Nat × Nat} {M1 : Mem} (h : SkX s M) (he : e.1 ≤ 14) (h1 : ∀ j, M1.1 21 j = if j = s.length then nI e.1 else M.1 21 j) (h2 : ∀ j, M1.1 22 j = if j = s.length then nI e.2 else M.1 22 j) : SkX (e :: s) M1 := by
  refine ⟨⟨he, by rw [h1, if_pos rfl], fun _ => by rw [h2, if_pos rfl]⟩, h.keep fun j hj => ?_⟩
  rw [h1, h2, if_neg (by omega), if_neg (by omega)]
  exact ⟨rfl, rfl⟩
theorem SkX.push0 {e : Nat × Nat} {M1 : Mem} (h : SkX s M) (he : e.1 ≤ 14) (hne : ¬ (e.1 = 11 ∨ e.1 = 12)) (h1 : ∀ j, M1.1 21 j = if j = s.length then nI e.1 else M.1 21 j) (h2 : ∀ j, j ≠ s.length → M1.1 22 j = M.1 22 j) : SkX (e :: s) M1 := by
  refine ⟨⟨he, by rw [h1, if_pos rfl], fun c => absurd c hne⟩, h.keep fun j hj => ?_⟩
  rw [h1, h2 j (by omega), if_neg (by omega)]
  exact ⟨rfl, rfl⟩
theorem inner_x (h : XV T N q g st s z M) (hl : s.length ≤ 64) : ∀ n, f3_innermost n M = some (nI (tpo s), M) := by
  intro n
  unfold f3_innermost b3_innermost_0 b3_innermost_30
  have a7 := h.2.2.2.2.2.2.1
  have a10 := h.2.2.2.2.2.2.2.2.2
  cases s with
  | nil => rw [a7, if_pos (by decide)]; rfl
  | cons e s =>
    rw [List.length_cons] at a7 hl
    rw [a7, if_neg (nI_nle (by omega) (by omega)), if_neg (show ¬ (64 : Int32) < nI (s.length + 1) from nI_nlt (a := 64) hl (by decide)), nI_pred, chk_in (by omega) (by decide), nI_clamp (by omega), a10.1.2.1]
    rfl
theorem ranks_e : ∀ o, o < 16 → ranksL.getD o 0 = nI (rkN o) := by decide
theorem tpo_le {M : Mem} : ∀ {s : St}, SkX s M → tpo s ≤ 15
  | [], _ => Nat.le_refl _
  | _ :: _, h => Nat.le_succ_of_le h.1.1
theorem oc_le : ∀ s : St, oc s ≤ s.length
  | [] => Nat.le_refl _
  | e :: s => by
    have := oc_le s
    simp only [oc, List.length_cons]
    split <;> omega
theorem settle_loop {r : Nat} (hr1 : 1 ≤ r) (hr6 : r ≤ 6) : ∀ (J : St) (z : Zc) (i : Nat) (M : Mem), XV T N q g st (J ++ s) z M → (∀ e, e ∈ J → r ≤ rkN e.1 ∧ e.1 ≤ 12) → rkN (tpo s) < r → (J ++ s).length ≤ 60 → i + J.length < 64 → z.1 + wt J ≤ 240 → (∀ e, e ∈ J → (e.1 = 11 ∨ e.1 = 12) → e.2 < z.1 ∧ z.2.1 e.2 = e.1) → ∃ M', (∀ n, J.length + 2 < n → r3_settle n 2 [nI r, nI i] [] M = some ((), M')) ∧ XV T N q g st s (eff J z) M' := by
  intro J
  induction J with
  | nil =>
    intro z i M h hJ hs hl hi hz hj
    have h' : XV T N q g st s z M := h
    have hl' : s.length ≤ 60 := hl
    have ht := tpo_le h'.2.2.2.2.2.2.2.2.2
    refine ⟨M, fun n hn => ?_, h'⟩
    obtain ⟨n, rfl⟩ : ∃ n', n = n' + 1 := ⟨n - 1, by omega⟩
    rw [e3_settle_2]
    unfold b3_settle_2
    have hi' : i < 64 := by simpa using hi
    rw [if_neg (show ¬ (64 : Int32) ≤ nI i from nI_ge (b := 64) hi' (by decide)), bnd_e (inner_x h' (by omega) n), chk_in (by omega) (by decide), nI_clamp (by omega), ranks_e _ (by omega), if_pos (nI_lt hs (by omega))]
  | cons e J ih =>
    intro z i M h hJ hs hl hi hz hj
    obtain ⟨a1, a2, a3, a4, a5, a6, a7, a8, a9, a10⟩ := h
    have h0 : XV T N q g st (e :: (J ++ s)) z M := ⟨a1, a2, a3, a4, a5, a6, a7, a8, a9, a10⟩
    obtain ⟨e1, e2⟩ := hJ e List.mem_cons_self
    have ej := hj e List.mem_cons_self
    simp only [List.cons_append, List.length_cons] at a7 hl hi
    simp only [wt] at hz
    have a10' : SkX (e :: (J ++ s)) M := a10
    have hop : e.1 ≠ 13 ∧ e.1 ≠ 14 := by omega
    have hocl := oc_le (J ++ s)
    have ocE : oc (e :: (J ++ s)) = oc (J ++ s) + (if e.1 = 10 then 1 else 0) := by
      simp only [oc]
      congr 1
      by_cases c : e.1 = 10
      · rw [if_pos (Or.inl c), if_pos c]
      · rw [if_neg (by omega), if_neg c]
    have a8' : M.1 17 8 = nI (oc (J ++ s) + (if e.1 = 10 then 1 else 0)) := by rw [← ocE]; exact a8
    -- the pop
    have popJ : ∀ n, n ≥ 1 → r3_settle (n + 1) 2 [nI r, nI i] [] M = (if nI e.1 = (11 : Int32) then b3_settle_52 (r3_settle n) n (nI r) (nI i) (nI e.1) (wI M 17 7 (nI (J ++ s).length)) else if nI e.1 = (12 : Int32) then b3_settle_52 (r3_settle n) n (nI r) (nI i) (nI e.1) (wI M 17 7 (nI (J ++ s).length)) else if nI e.1 = (10 : Int32) then b3_settle_85 (r3_settle n) n (nI r) (nI i) (nI e.1) (M.1 17 8) 1 (wI M 17 7 (nI (J ++ s).length)) else b3_settle_85 (r3_settle n) n (nI r) (nI i) (nI e.1) (M.1 17 8) 0 (wI M 17 7 (nI (J ++ s).length))) := by
      intro n _
      rw [e3_settle_2]
      unfold b3_settle_2
      rw [if_neg (show ¬ (64 : Int32) ≤ nI i from nI_ge (b := 64) (by omega) (by decide)), bnd_e (inner_x h0 (by simp only [List.length_cons]; omega) n), show tpo (e :: (J ++ s)) = e.1 from rfl, chk_in (by omega) (by decide), nI_clamp (by omega), ranks_e _ (by omega), if_neg (nI_nlt e1 (by have := rkN_le e.1; omega)), a7, nI_pred, lt_v, show (wI M 17 7 (nI (J ++ s).length)).1 17 7 = nI (J ++ s).length from rfl, chk_in (by omega) (by decide), lt_v, nI_clamp (by omega), show (wI M 17 7 (nI (J ++ s).length)).1 21 (J ++ s).length = nI e.1 from a10'.1.2.1]
      rfl
    by_cases cj : e.1 = 11 ∨ e.1 = 12
    · obtain ⟨j1, j2⟩ := ej cj
      have hM1 : XV T N q g st (J ++ s) (paz z e.2) (wI (wI M 17 7 (nI (J ++ s).length)) 18 e.2 (nI (e.1 + 16 * z.1))) := by
        refine ⟨a1, a2, a3, a4, a5, a6, rfl, ?_, fun k hk => ?_, a10'.2.keep fun j _ => ⟨rfl, rfl⟩⟩
        · show M.1 17 8 = _
          rw [a8', if_neg (by omega)]; rfl
        · show (if k = e.2 then nI (e.1 + 16 * z.1) else M.1 18 k) = nI (z.2.1 k + 16 * (if k = e.2 then z.1 else z.2.2 k))
          by_cases c : k = e.2
          · rw [if_pos c, if_pos c, c, j2]
          · rw [if_neg c, if_neg c]; exact a9 k hk
      obtain ⟨M', r1, r2⟩ := ih (paz z e.2) (i + 1) _ hM1 (fun x hx => hJ x (List.mem_cons_of_mem _ hx)) hs (by omega) (by omega) (by show z.1 + wt J ≤ 240; omega) (fun x hx => hj x (List.mem_cons_of_mem _ hx))
      refine ⟨M', fun n hn => ?_, ?_⟩
      · simp only [List.length_cons] at hn
        obtain ⟨n, rfl⟩ : ∃ n', n = n' + 1 := ⟨n - 1, by omega⟩
        have go : b3_settle_52 (r3_settle n) n (nI r) (nI i) (nI e.1) (wI M 17 7 (nI (J ++ s).length)) = some ((), M') := by
          unfold b3_settle_52 b3_settle_95 f3_setLeap b3_setLeap_0
          rw [show (wI M 17 7 (nI (J ++ s).length)).1 17 7 = nI (J ++ s).length from rfl, chk_in (by omega) (by decide), nI_clamp (by omega), show (wI M 17 7 (nI (J ++ s).length)).1 22 (J ++ s).length = nI e.2 from a10'.1.2.2 cj, if_neg (nI_pos (by omega)), if_neg (show ¬ (240 : Int32) ≤ nI e.2 from nI_ge (b := 240) (by omega) (by decide)), chk_in (by omega) (by decide), lt_v, show (wI M 17 7 (nI (J ++ s).length)).1 17 6 = nI z.1 from a6, code_mk (by omega) (by omega), nI_clamp (by omega), bnd_s', lt_v, nI_1]
          exact r1 n (by omega)
        rw [popJ n (by omega)]
        by_cases c11 : nI e.1 = (11 : Int32)
        · rw [if_pos c11]; exact go
        · rw [if_neg c11, if_pos (show nI e.1 = (12 : Int32) by
            rcases cj with c | c
            · exact absurd (by rw [c]; rfl) c11
            · rw [c]; rfl)]
          exact go
      · rw [eff, if_pos cj]; exact r2
    · have hM0 : XV T N q g st (J ++ s) z (wI (wI M 17 7 (nI (J ++ s).length)) 17 8 (nI (oc (J ++ s)))) := ⟨a1, a2, a3, a4, a5, a6, rfl, rfl, a9, a10'.2.keep fun j _ => ⟨rfl, rfl⟩⟩
      have hw : (if e.1 ≤ 10 then 1 else 0) = 1 := if_pos (by omega)
      rw [hw] at hz
      obtain ⟨M1, f1, hM1⟩ := add_x (o := e.1) (v := 0) hM0 (by omega) (by omega) (by decide)
      obtain ⟨M', r1, r2⟩ := ih (adz z e.1 0) (i + 1) M1 hM1 (fun x hx => hJ x (List.mem_cons_of_mem _ hx)) hs (by omega) (by omega) (by show z.1 + 1 + wt J ≤ 240; omega) (fun x hx c => by
        have := hj x (List.mem_cons_of_mem _ hx) c
        refine ⟨by show x.2 < z.1 + 1; omega, ?_⟩
        show (if x.2 = z.1 then e.1 else z.2.1 x.2) = x.1
        rw [if_neg (by omega)]; exact this.2)
      refine ⟨M', fun n hn => ?_, ?_⟩
      · simp only [List.length_cons] at hn
        obtain ⟨n, rfl⟩ : ∃ n', n = n' + 1 := ⟨n - 1, by omega⟩
        have go : ∀ d : Nat, oc (J ++ s) + (if e.1 = 10 then 1 else 0) - d = oc (J ++ s) → d ≤ oc (J ++ s) + (if e.1 = 10 then 1 else 0) → b3_settle_85 (r3_settle n) n (nI r) (nI i) (nI e.1) (M.1 17 8) (nI d) (wI M 17 7 (nI (J ++ s).length)) = some ((), M') := by
          intro d hd hd2
          unfold b3_settle_85 b3_settle_95
          rw [a8', pk_sub hd2, hd, lt_v, ← nI_0, bnd_e (f1 n), lt_v, nI_1]
          exact r1 n (by omega)
        rw [popJ n (by omega), if_neg (c := nI _ = (11 : Int32)) (fun c => cj (Or.inl ((nI_eq (b := 11) (by omega) (by decide)).mp c))), if_neg (c := nI _ = (12 : Int32)) (fun c => cj (Or.inr ((nI_eq (b := 12) (by omega) (by decide)).mp c)))]
        by_cases c10 : e.1 = 10
        · rw [if_pos (show nI e.1 = (10 : Int32) by rw [c10]; rfl)]
          exact go 1 (by rw [if_pos c10]; omega) (by rw [if_pos c10]; omega)
        · rw [if_neg (c := nI _ = (10 : Int32)) (fun c => c10 ((nI_eq (b := 10) (by omega) (by decide)).mp c)), show (0 : Int32) = nI 0 from rfl]
          exact go 0 (by rw [if_neg c10]; omega) (by omega)
      · rw [eff, if_neg cj]; exact r2
theorem settle_x {r : Nat} (hr1 : 1 ≤ r) (hr6 : r ≤ 6) {J : St} (h : XV T N q g st (J ++ s) z M) (hJ : ∀ e, e ∈ J → r ≤ rkN e.1 ∧ e.1 ≤ 12) (hs : rkN (tpo s) < r) (hl : (J ++ s).length ≤ 60) (hz : z.1 + wt J ≤ 240) (hj : ∀ e, e ∈ J → (e.1 = 11 ∨ e.1 = 12) → e.2 < z.1 ∧ z.2.1 e.2 = e.1) : ∃ M', (∀ n, 100 ≤ n → f3_settle n (nI r) M = some ((), M')) ∧ XV T N q g st s (eff J z) M' := by
  have hJl : J.length ≤ (J ++ s).length := by simp
  obtain ⟨M', r1, r2⟩ := settle_loop hr1 hr6 J z 0 M h hJ hs hl (by omega) hz hj
  refine ⟨M', fun n hn => ?_, r2⟩
  have := r1 (n + 1) (by omega)
  rw [e3_settle_2, nI_0] at this
  exact this
theorem settle_0 {r : Nat} (hr1 : 1 ≤ r) (hr6 : r ≤ 6) (h : XV T N q g st s z M) (hs : rkN (tpo s) < r) (hl : s.length ≤ 60) : ∀ n, f3_settle n (nI r) M = some ((), M) := by
  intro n
  have ht := tpo_le h.2.2.2.2.2.2.2.2.2
  unfold f3_settle b3_settle_0 b3_settle_2
  rw [if_neg (by decide), bnd_e (inner_x h (by omega) n), chk_in (by omega) (by decide), nI_clamp (by omega), ranks_e _ (by omega), if_pos (nI_lt hs (by omega))]
end PX
