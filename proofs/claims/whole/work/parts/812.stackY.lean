/-! THE LAW's reader: the reference's side -/
def SkY : St → Mem → Prop
  | [], _ => True
  | e :: s, M => (e.1 ≤ 14 ∧ e.2 < 260 ∧ M.1 10 s.length = nI (1048576 * e.1 + e.2)) ∧ SkY s M
theorem SkY.keep : ∀ {s : St} {M M' : Mem}, SkY s M → (∀ j, j < s.length → M'.1 10 j = M.1 10 j) → SkY s M'
  | [], _, _, _, _ => trivial
  | e :: s, M, M', h, g => by
    have g0 := g s.length (by simp)
    exact ⟨⟨h.1.1, h.1.2.1, by rw [g0]; exact h.1.2.2⟩, SkY.keep h.2 (fun j hj => g j (by simp; omega))⟩
theorem SkY.at {M : Mem} {e : Nat × Nat} {R : St} : ∀ {A : St}, SkY (A ++ e :: R) M → e.1 ≤ 14 ∧ e.2 < 260 ∧ M.1 10 R.length = nI (1048576 * e.1 + e.2)
  | [], h => h.1
  | _ :: _, h => SkY.at h.2
def YV (T : Nat → Nat) (N q : Nat) (g : Nat → Nat → Int32) (p : Nat) (s : St) (z : Zc) (M : Mem) : Prop := (N ≤ 240 ∧ p ≤ N ∧ ∀ j, j < N → T j < 256) ∧ (∀ j, j < N → M.1 8 j &&& 255 = nI (T j)) ∧ M.1 0 12 = nI p ∧ M.1 0 13 = nI N ∧ M.1 0 19 = nI q ∧ (M.1 11 = g 11 ∧ M.1 12 = g 12 ∧ M.1 13 = g 13 ∧ M.1 14 = g 14) ∧ M.1 0 17 = nI z.1 ∧ M.1 0 18 = nI s.length ∧ M.1 0 16 = nI (oc s) ∧ (∀ i, i < z.1 → M.1 9 i = nI (1048576 * z.2.1 i + z.2.2 i)) ∧ SkY s M
theorem unit_div {o l : Nat} (ho : o ≤ 14) (hl : l < 1048576) : nI (1048576 * o + l) / (1048576 : Int32) = nI o := by
  rw [show (1048576 : Int32) = nI 1048576 from rfl, pk_div (by omega) (by decide) (by decide)]
  congr 1
  omega
theorem unit_rem {o l : Nat} (ho : o ≤ 14) (hl : l < 1048576) : nI (1048576 * o + l) - nI (1048576 * o + l) / (1048576 : Int32) * (1048576 : Int32) = nI l := by
  rw [show (1048576 : Int32) = nI 1048576 from rfl, pk_rem (by omega) (by decide) (by decide)]
  congr 1
  omega
def tpY : St → Int32
  | [] => -1
  | e :: _ => nI e.1
section PY
variable {T : Nat → Nat} {N q : Nat} {g : Nat → Nat → Int32} {p : Nat} {s : St} {z : Zc} {M : Mem}
theorem here_y (h : YV T N q g p s z M) (n : Nat) : f12_here n M = some (if p < N then nI (T p) else -1, M) := here_e (by have := h.1.1; omega) h.2.1 h.2.2.1 h.2.2.2.1 h.1.2.1
theorem digit_y (h : YV T N q g p s z M) (n : Nat) : f12_isDigit n M = some (if p < N ∧ dgt (T p) = true then 1 else 0, M) := digit_Y (by have := h.1.1; omega) h.1.2.2 h.2.1 h.2.2.1 h.2.2.2.1 h.1.2.1
theorem codes_y {o v : Nat} (h : YV T N q g p s z M) (hz : z.1 < 260) (n : Nat) : ∃ M', f12_codesOf n (nI o) (nI v) M = some ((), M') ∧ YV T N q g p s (adz z o v) M' ∧ M'.1 0 15 = M.1 0 15 := by
  obtain ⟨a1, a2, a3, a4, a5, a6, a7, a8, a9, a10, a11⟩ := h
  refine ⟨wI (wI M 9 z.1 (nI (1048576 * o + v))) 0 17 (nI (z.1 + 1)), ?_, ⟨a1, a2, a3, a4, a5, a6, rfl, a8, a9, fun i hi => ?_, a11.keep fun j _ => rfl⟩, rfl⟩
  · unfold f12_codesOf b12_codesOf_0
    rw [a7, chk_in hz (by decide), lt_v, lt_v, nI_clamp (by omega), show (1048576 : Int32) = nI 1048576 from rfl, pk_mul, nI_add, show (wI M 9 z.1 (nI (1048576 * o + v))).1 0 17 = nI z.1 from a7, nI_1]
  · have hi' : i < z.1 + 1 := hi
    show (if i = z.1 then nI (1048576 * o + v) else M.1 9 i) = nI (1048576 * (if i = z.1 then o else z.2.1 i) + (if i = z.1 then v else z.2.2 i))
    by_cases c : i = z.1
    · rw [if_pos c, if_pos c, if_pos c]
    · rw [if_neg c, if_neg c, if_neg c]; exact a10 i (by omega)
theorem wait_y (h : YV T N q g p s z M) (hl : s.length < 260) (n : Nat) : f12_waitTop n M = some (tpY s, M) := by
  have a8 := h.2.2.2.2.2.2.2.1
  have a11 := h.2.2.2.2.2.2.2.2.2.2
  unfold f12_waitTop b12_waitTop_0
  cases s with
  | nil => rw [a8, if_pos (by decide)]; rfl
  | cons e s =>
    rw [List.length_cons] at a8 hl
    rw [a8, if_neg (nI_ne0 (by omega) (by omega)), nI_pred, chk_in (by omega) (by decide), nI_clamp (by omega), a11.1.2.2, unit_div a11.1.1 (by have := a11.1.2.1; omega)]
    rfl
theorem opens_y {o : Nat} (h : YV T N q g p s z M) (hp : p < N) (hl : s.length < 200) (hc : oc s < 6) (ho : o = 10 ∨ o = 13 ∨ o = 14) (n : Nat) : ∃ M', f12_opens n (nI o) M = some (1, M') ∧ YV T N q g (p + 1) ((o, 0) :: s) z M' := by
  obtain ⟨a1, a2, a3, a4, a5, a6, a7, a8, a9, a10, a11⟩ := h
  have eo : oc ((o, 0) :: s) = oc s + 1 := by simp only [oc]; rw [if_pos ho]
  refine ⟨wI (wI (wI (wI M 0 16 (nI (oc s + 1))) 10 s.length (nI (1048576 * o))) 0 18 (nI (s.length + 1))) 0 12 (nI (p + 1)), ?_, ⟨a1.1, hp, a1.2.2⟩, a2, rfl, a4, a5, a6, a7, rfl, by rw [eo]; rfl, a10, ⟨⟨by simp only; omega, by show 0 < 260; decide, ?_⟩, a11.keep fun j hj => ?_⟩⟩
  · unfold f12_opens b12_opens_0
    rw [a9, if_neg (show ¬ nI (oc s) = (6 : Int32) from fun e => by have := (nI_eq (b := 6) (by omega) (by decide)).mp e; omega), lt_v, nI_1, show (wI M 0 16 (nI (oc s + 1))).1 0 18 = nI s.length from a8, chk_in (by omega) (by decide), lt_v, lt_v, lt_v, nI_clamp (by omega), show (1048576 : Int32) = nI 1048576 from rfl, pk_mul, show (wI (wI M 0 16 (nI (oc s + 1))) 10 s.length (nI (1048576 * o))).1 0 18 = nI s.length from a8, nI_1, show (wI (wI (wI M 0 16 (nI (oc s + 1))) 10 s.length (nI (1048576 * o))) 0 18 (nI (s.length + 1))).1 0 12 = nI p from a3, nI_1]
  · show (if s.length = s.length then nI (1048576 * o) else M.1 10 s.length) = _
    rw [if_pos rfl]; rfl
  · show (if j = s.length then nI (1048576 * o) else M.1 10 j) = M.1 10 j
    rw [if_neg (by omega)]
theorem opens_no {o : Int32} (h : YV T N q g p s z M) (hc : oc s = 6) (n : Nat) : f12_opens n o M = some (0, wI M 0 14 ((-1000 : Int32) * nI 5 - nI p)) := by
  obtain ⟨a1, a2, a3, a4, a5, a6, a7, a8, a9, a10, a11⟩ := h
  unfold f12_opens b12_opens_0
  rw [a9, hc, if_pos (by decide), wrong_e, bnd_s', chk_t (by decide), a3]
  rfl
/-- a sign of sums is put to wait -/
theorem put_y {o : Nat} (h : YV T N q g p s z M) (hp : p < N) (hl : s.length < 200) (ho : 2 ≤ o ∧ o ≤ 9) : YV T N q g (p + 1) ((o, 0) :: s) z (wI (wI (wI M 10 s.length (nI (1048576 * o))) 0 18 (nI (s.length + 1))) 0 12 (nI (p + 1))) := by
  obtain ⟨a1, a2, a3, a4, a5, a6, a7, a8, a9, a10, a11⟩ := h
  have eo : oc ((o, 0) :: s) = oc s := by simp only [oc]; rw [if_neg (by omega)]; rfl
  refine ⟨⟨a1.1, hp, a1.2.2⟩, a2, rfl, a4, a5, a6, a7, rfl, by rw [eo]; exact a9, a10, ⟨⟨by simp only; omega, by show 0 < 260; decide, ?_⟩, a11.keep fun j hj => ?_⟩⟩
  · show (if s.length = s.length then nI (1048576 * o) else M.1 10 s.length) = _
    rw [if_pos rfl]; rfl
  · show (if j = s.length then nI (1048576 * o) else M.1 10 j) = M.1 10 j
    rw [if_neg (by omega)]
theorem YV.next (h : YV T N q g p s z M) (hp : p < N) : YV T N q g (p + 1) s z (wI M 0 12 (nI (p + 1))) := by
  obtain ⟨a1, a2, a3, a4, a5, a6, a7, a8, a9, a10, a11⟩ := h
  exact ⟨⟨a1.1, hp, a1.2.2⟩, a2, rfl, a4, a5, a6, a7, a8, a9, a10, a11.keep fun _ _ => rfl⟩
/-- the top is taken off, and not an opening one -/
theorem YV.pop {e : Nat × Nat} (h : YV T N q g p (e :: s) z M) (he : ¬ (e.1 = 10 ∨ e.1 = 13 ∨ e.1 = 14)) : YV T N q g p s z (wI M 0 18 (nI s.length)) := by
  obtain ⟨a1, a2, a3, a4, a5, a6, a7, a8, a9, a10, a11⟩ := h
  have eo : oc (e :: s) = oc s := by simp only [oc]; rw [if_neg he]; rfl
  rw [eo] at a9
  exact ⟨a1, a2, a3, a4, a5, a6, a7, rfl, a9, a10, a11.2.keep fun _ _ => rfl⟩
theorem YV.popO {e : Nat × Nat} (h : YV T N q g p (e :: s) z M) : YV T N q g p s z (wI (wI M 0 18 (nI s.length)) 0 16 (nI (oc s))) := by
  obtain ⟨a1, a2, a3, a4, a5, a6, a7, a8, a9, a10, a11⟩ := h
  exact ⟨a1, a2, a3, a4, a5, a6, a7, rfl, rfl, a10, a11.2.keep fun _ _ => rfl⟩
theorem closes_loop {a : Nat} (ha : a = 0 ∨ a = 1) : ∀ (J : St) (z : Zc) (n : Nat) (M : Mem), YV T N q g p (J ++ s) z M → (J ++ s).length < 200 → J.length < n → z.1 + wt J ≤ 240 → (∀ e, e ∈ J → (4 ≤ e.1 ∧ e.1 ≤ 6) ∨ (a = 1 ∧ (e.1 = 2 ∨ e.1 = 3))) → (s = [] ∨ ¬ ((4 ≤ tpo s ∧ tpo s ≤ 6) ∨ (a = 1 ∧ (tpo s = 2 ∨ tpo s = 3)))) → ∃ M', r12_closesSums n 0 [nI a] [] M = some ((), M') ∧ YV T N q g p s (eff J z) M' := by
  intro J
  induction J with
  | nil =>
    intro z n M h hl hn hz hJ hs
    obtain ⟨n, rfl⟩ : ∃ n', n = n' + 1 := ⟨n - 1, by simp only [List.length_nil] at hn; omega⟩
    have h' : YV T N q g p s z M := h
    have hl' : s.length < 200 := hl
    have hw := wait_y h' (by omega) n
    refine ⟨M, ?_, h'⟩
    rw [e12_closesSums_0]
    unfold b12_closesSums_0 b12_closesSums_17 b12_closesSums_37
    simp only [hw, bnd_s']
    cases s with
    | nil =>
      rw [show tpY [] = -1 from rfl, if_pos (by decide), if_neg (show ¬ (-1 : Int32) = 2 by decide), if_neg (show ¬ (-1 : Int32) = 3 by decide)]
      split <;> rfl
    | cons e s =>
      have he := h'.2.2.2.2.2.2.2.2.2.2.1.1
      have hs := hs.resolve_left (by simp)
      simp only [tpo] at hs
      rw [show tpY (e :: s) = nI e.1 from rfl]
      have t17 : (if nI a = 0 then some ((), M) else if nI e.1 = (2 : Int32) then bnd (f12_codesOf n (nI e.1) 0 M) fun r12 M13 => lt (wI M13 0 18 (M13.1 0 18 - 1)) fun M15 => r12_closesSums n 0 [nI a] [] M15 else if nI e.1 = (3 : Int32) then bnd (f12_codesOf n (nI e.1) 0 M) fun r12 M13 => lt (wI M13 0 18 (M13.1 0 18 - 1)) fun M15 => r12_closesSums n 0 [nI a] [] M15 else some ((), M)) = some ((), M) := by
        rcases ha with rfl | rfl
        · rw [if_pos nI_0]
        · rw [if_neg (show ¬ nI 1 = 0 by decide), if_neg (show ¬ nI e.1 = (2 : Int32) from fun c => by have := (nI_eq (b := 2) (by omega) (by decide)).mp c; omega), if_neg (show ¬ nI e.1 = (3 : Int32) from fun c => by have := (nI_eq (b := 3) (by omega) (by decide)).mp c; omega)]
      by_cases c1 : e.1 < 4
      · rw [if_pos (show nI e.1 < (4 : Int32) from nI_lt (b := 4) c1 (by decide))]
        exact t17
      · rw [if_neg (show ¬ nI e.1 < (4 : Int32) from nI_nlt (b := 4) (by omega) (by omega)), if_neg (show ¬ nI e.1 ≤ (6 : Int32) from nI_ge (a := 6) (by omega) (by omega))]
        exact t17
  | cons e J ih =>
    intro z n M h hl hn hz hJ hs
    simp only [List.length_cons] at hn
    obtain ⟨n, rfl⟩ : ∃ n', n = n' + 1 := ⟨n - 1, by omega⟩
    have h' : YV T N q g p (e :: (J ++ s)) z M := h
    have hl' : (J ++ s).length + 1 < 200 := hl
    have hw := wait_y h' (by simp only [List.length_cons]; omega) n
    have he := hJ e List.mem_cons_self
    simp only [wt] at hz
    rw [if_pos (by omega)] at hz
    obtain ⟨M1, f1, h1, _⟩ := codes_y (o := e.1) (v := 0) h' (by omega) n
    have h2 := h1.pop (by omega)
    obtain ⟨M', r1, r2⟩ := ih (adz z e.1 0) n _ h2 (by omega) (by omega) (by show z.1 + 1 + wt J ≤ 240; omega) (fun x hx => hJ x (List.mem_cons_of_mem _ hx)) hs
    refine ⟨M', ?_, by rw [eff, if_neg (by omega)]; exact r2⟩
    have t37 : (bnd (f12_codesOf n (nI e.1) 0 M) fun r12 M13 => lt (wI M13 0 18 (M13.1 0 18 - 1)) fun M15 => r12_closesSums n 0 [nI a] [] M15) = some ((), M') := by
      rw [← nI_0, bnd_e f1, lt_v, h1.2.2.2.2.2.2.2.1, List.length_cons, nI_pred]
      exact r1
    rw [e12_closesSums_0]
    unfold b12_closesSums_0 b12_closesSums_17 b12_closesSums_37
    simp only [hw, bnd_s', show tpY (e :: (J ++ s)) = nI e.1 from rfl]
    by_cases c1 : e.1 < 4
    · have h23 := (he.resolve_left (by omega))
      rw [if_pos (show nI e.1 < (4 : Int32) from nI_lt (b := 4) c1 (by decide)), h23.1, if_neg (show ¬ nI 1 = 0 by decide)]
      rw [h23.1] at t37
      by_cases c2 : e.1 = 2
      · rw [if_pos (show nI e.1 = (2 : Int32) by rw [c2]; rfl)]; exact t37
      · rw [if_neg (c := nI _ = (2 : Int32)) (fun c => c2 ((nI_eq (b := 2) (by omega) (by decide)).mp c)), if_pos (show nI e.1 = (3 : Int32) by rw [h23.2.resolve_left c2]; rfl)]; exact t37
    · rw [if_neg (show ¬ nI e.1 < (4 : Int32) from nI_nlt (b := 4) (by omega) (by omega)), if_pos (show nI e.1 ≤ (6 : Int32) from nI_le (b := 6) (by omega) (by decide))]
      exact t37
theorem closes_y {a : Nat} (ha : a = 0 ∨ a = 1) {J : St} {n : Nat} (h : YV T N q g p (J ++ s) z M) (hl : (J ++ s).length < 200) (hn : 300 ≤ n) (hz : z.1 + wt J ≤ 240) (hJ : ∀ e, e ∈ J → (4 ≤ e.1 ∧ e.1 ≤ 6) ∨ (a = 1 ∧ (e.1 = 2 ∨ e.1 = 3))) (hs : s = [] ∨ ¬ ((4 ≤ tpo s ∧ tpo s ≤ 6) ∨ (a = 1 ∧ (tpo s = 2 ∨ tpo s = 3)))) : ∃ M', f12_closesSums n (nI a) M = some ((), M') ∧ YV T N q g p s (eff J z) M' := by
  have hJl : J.length ≤ (J ++ s).length := by simp
  obtain ⟨M', r1, r2⟩ := closes_loop ha J z (n + 1) M h hl (by omega) hz hJ hs
  rw [e12_closesSums_0] at r1
  exact ⟨M', r1, r2⟩
theorem ends_loop : ∀ (J : St) (z : Zc) (n : Nat) (M : Mem), YV T N q g p (J ++ s) z M → (J ++ s).length < 200 → J.length < n → z.1 + wt J ≤ 240 → (∀ e, e ∈ J → e.1 = 10) → tpo s ≠ 10 → ∃ M', r12_endsPiece n 0 [] [] M = some ((), M') ∧ YV T N q g p s (eff J z) M' := by
  intro J
  induction J with
  | nil =>
    intro z n M h hl hn hz hJ hs
    obtain ⟨n, rfl⟩ : ∃ n', n = n' + 1 := ⟨n - 1, by simp only [List.length_nil] at hn; omega⟩
    have h' : YV T N q g p s z M := h
    have hl' : s.length < 200 := hl
    have hw := wait_y h' (by omega) n
    refine ⟨M, ?_, h'⟩
    rw [e12_endsPiece_0]
    unfold b12_endsPiece_0
    rw [bnd_e hw]
    cases s with
    | nil => rw [show tpY [] = -1 from rfl, if_neg (by decide)]
    | cons e s =>
      have he := h'.2.2.2.2.2.2.2.2.2.2.1.1
      have hs' : e.1 ≠ 10 := hs
      rw [show tpY (e :: s) = nI e.1 from rfl, if_neg (c := nI _ = (10 : Int32)) (fun c => hs' ((nI_eq (b := 10) (by omega) (by decide)).mp c))]
  | cons e J ih =>
    intro z n M h hl hn hz hJ hs
    simp only [List.length_cons] at hn
    obtain ⟨n, rfl⟩ : ∃ n', n = n' + 1 := ⟨n - 1, by omega⟩
    have h' : YV T N q g p (e :: (J ++ s)) z M := h
    have hl' : (J ++ s).length + 1 < 200 := hl
    have hw := wait_y h' (by simp only [List.length_cons]; omega) n
    have he := hJ e List.mem_cons_self
    simp only [wt] at hz
    rw [if_pos (by omega)] at hz
    obtain ⟨M1, f1, h1, _⟩ := codes_y (o := e.1) (v := 0) h' (by omega) n
    have h2 := h1.popO
    have a9 := h1.2.2.2.2.2.2.2.2.1
    have eo : oc (e :: (J ++ s)) = oc (J ++ s) + 1 := by simp only [oc]; rw [if_pos (Or.inl he)]
    rw [eo] at a9
    obtain ⟨M', r1, r2⟩ := ih (adz z e.1 0) n _ h2 (by omega) (by omega) (by show z.1 + 1 + wt J ≤ 240; omega) (fun x hx => hJ x (List.mem_cons_of_mem _ hx)) hs
    refine ⟨M', ?_, by rw [eff, if_neg (by omega)]; exact r2⟩
    rw [e12_endsPiece_0]
    unfold b12_endsPiece_0
    rw [he] at f1
    rw [bnd_e hw, show tpY (e :: (J ++ s)) = nI e.1 from rfl, he, if_pos (by decide), bnd_e (show f12_codesOf n (10 : Int32) (0 : Int32) M = some ((), M1) from f1), lt_v, lt_v, h1.2.2.2.2.2.2.2.1, List.length_cons, nI_pred, show (wI M1 0 18 (nI (J ++ s).length)).1 0 16 = nI (oc (J ++ s) + 1) from a9, nI_pred]
    exact r1
theorem ends_y {J : St} {n : Nat} (h : YV T N q g p (J ++ s) z M) (hl : (J ++ s).length < 200) (hn : 300 ≤ n) (hz : z.1 + wt J ≤ 240) (hJ : ∀ e, e ∈ J → e.1 = 10) (hs : tpo s ≠ 10) : ∃ M', f12_endsPiece n M = some ((), M') ∧ YV T N q g p s (eff J z) M' := by
  have hJl : J.length ≤ (J ++ s).length := by simp
  obtain ⟨M', r1, r2⟩ := ends_loop J z (n + 1) M h hl (by omega) hz hJ hs
  rw [e12_endsPiece_0] at r1
  exact ⟨M', r1, r2⟩
theorem lands_loop {a : Nat} (ha : a = 0 ∨ a = 1) : ∀ (J : St) (z : Zc) (n : Nat) (M : Mem), YV T N q g p (J ++ s) z M → (J ++ s).length < 200 → J.length < n → z.1 ≤ 240 → (∀ e, e ∈ J → (e.1 = 11 ∨ (a = 1 ∧ e.1 = 12)) ∧ e.2 < z.1 ∧ z.2.1 e.2 = e.1 ∧ z.2.2 e.2 < 1048576) → (tpo s ≠ 11 ∧ (a = 1 → tpo s ≠ 12)) → ∃ M', r12_lands n 0 [nI a] [] M = some ((), M') ∧ YV T N q g p s (eff J z) M' := by
  intro J
  induction J with
  | nil =>
    intro z n M h hl hn hz hJ hs
    obtain ⟨n, rfl⟩ : ∃ n', n = n' + 1 := ⟨n - 1, by simp only [List.length_nil] at hn; omega⟩
    have h' : YV T N q g p s z M := h
    have hl' : s.length < 200 := hl
    have hw := wait_y h' (by omega) n
    refine ⟨M, ?_, h'⟩
    rw [e12_lands_0]
    unfold b12_lands_0
    rw [bnd_e hw, bnd_e hw]
    cases s with
    | nil =>
      rw [show tpY [] = -1 from rfl, if_neg (by decide), if_neg (show ¬ (-1 : Int32) = 12 by decide)]
      split <;> rfl
    | cons e s =>
      have he := h'.2.2.2.2.2.2.2.2.2.2.1.1
      simp only [tpo] at hs
      rw [show tpY (e :: s) = nI e.1 from rfl, if_neg (c := nI _ = (11 : Int32)) (fun c => hs.1 ((nI_eq (b := 11) (by omega) (by decide)).mp c))]
      rcases ha with rfl | rfl
      · rw [if_pos nI_0]
      · rw [if_neg (show ¬ nI 1 = 0 by decide), if_neg (c := nI _ = (12 : Int32)) (fun c => hs.2 rfl ((nI_eq (b := 12) (by omega) (by decide)).mp c))]
  | cons e J ih =>
    intro z n M h hl hn hz hJ hs
    simp only [List.length_cons] at hn
    obtain ⟨n, rfl⟩ : ∃ n', n = n' + 1 := ⟨n - 1, by omega⟩
    have h' : YV T N q g p (e :: (J ++ s)) z M := h
    have hl' : (J ++ s).length + 1 < 200 := hl
    have hw := wait_y h' (by simp only [List.length_cons]; omega) n
    obtain ⟨he, j1, j2, j3⟩ := hJ e List.mem_cons_self
    obtain ⟨a1, a2, a3, a4, a5, a6, a7, a8, a9, a10, a11⟩ := h'
    have eo : oc (e :: (J ++ s)) = oc (J ++ s) := by simp only [oc]; rw [if_neg (by omega)]; rfl
    rw [eo] at a9
    rw [List.length_cons] at a8
    have h1 : YV T N q g p (J ++ s) (paz z e.2) (wI (wI M 9 e.2 (nI (1048576 * e.1 + z.1))) 0 18 (nI (J ++ s).length)) := by
      refine ⟨a1, a2, a3, a4, a5, a6, a7, rfl, a9, fun i hi => ?_, a11.2.keep fun _ _ => rfl⟩
      show (if i = e.2 then nI (1048576 * e.1 + z.1) else M.1 9 i) = nI (1048576 * z.2.1 i + (if i = e.2 then z.1 else z.2.2 i))
      by_cases c : i = e.2
      · rw [if_pos c, if_pos c, c, j2]
      · rw [if_neg c, if_neg c]; exact a10 i hi
    obtain ⟨M', r1, r2⟩ := ih (paz z e.2) n _ h1 (by omega) (by omega) hz (fun x hx => by
      obtain ⟨b1, b2, b3, b4⟩ := hJ x (List.mem_cons_of_mem _ hx)
      refine ⟨b1, b2, b3, ?_⟩
      show (if x.2 = e.2 then z.1 else z.2.2 x.2) < _
      split
      · omega
      · exact b4) hs
    refine ⟨M', ?_, by rw [eff, if_pos (by omega)]; exact r2⟩
    have t22 : b12_lands_22 (r12_lands n) n (nI a) M = some ((), M') := by
      unfold b12_lands_22
      rw [a8, nI_pred, chk_in (by omega) (by decide), nI_clamp (show (J ++ s).length < 2 ^ 31 by omega), a11.1.2.2, unit_rem a11.1.1 (by have := a11.1.2.1; omega), lt_v, chk_in (by omega) (by decide), chk_in (by omega) (by decide), nI_clamp (show e.2 < 2 ^ 31 by omega), a10 e.2 j1, j2, unit_div a11.1.1 j3, lt_v, lt_v, a7, show (1048576 : Int32) = nI 1048576 from rfl, pk_mul, nI_add, show (wI M 9 e.2 (nI (1048576 * e.1 + z.1))).1 0 18 = nI ((J ++ s).length + 1) from a8, nI_pred]
      exact r1
    rw [e12_lands_0]
    unfold b12_lands_0
    rw [bnd_e hw, bnd_e hw, show tpY (e :: (J ++ s)) = nI e.1 from rfl]
    by_cases c : e.1 = 11
    · rw [if_pos (show nI e.1 = (11 : Int32) by rw [c]; rfl)]; exact t22
    · have h12 := he.resolve_left c
      rw [if_neg (c := nI _ = (11 : Int32)) (fun q => c ((nI_eq (b := 11) (by omega) (by decide)).mp q)), h12.1, if_neg (show ¬ nI 1 = 0 by decide), if_pos (show nI e.1 = (12 : Int32) by rw [h12.2]; rfl)]
      rw [h12.1] at t22
      exact t22
theorem lands_y {a : Nat} (ha : a = 0 ∨ a = 1) {J : St} {n : Nat} (h : YV T N q g p (J ++ s) z M) (hl : (J ++ s).length < 200) (hn : 300 ≤ n) (hz : z.1 ≤ 240) (hJ : ∀ e, e ∈ J → (e.1 = 11 ∨ (a = 1 ∧ e.1 = 12)) ∧ e.2 < z.1 ∧ z.2.1 e.2 = e.1 ∧ z.2.2 e.2 < 1048576) (hs : tpo s ≠ 11 ∧ (a = 1 → tpo s ≠ 12)) : ∃ M', f12_lands n (nI a) M = some ((), M') ∧ YV T N q g p s (eff J z) M' := by
  have hJl : J.length ≤ (J ++ s).length := by simp
  obtain ⟨M', r1, r2⟩ := lands_loop ha J z (n + 1) M h hl (by omega) hz hJ hs
  rw [e12_lands_0] at r1
  exact ⟨M', r1, r2⟩
theorem jumps_y {o n : Nat} (h : YV T N q g p s z M) (hp : p < N) (hl : s.length < 200) (hz : z.1 < 240) (ho : o = 11 ∨ o = 12) : ∃ M', f12_jumps n (nI o) M = some ((), M') ∧ YV T N q g (p + 1) ((o, z.1) :: s) (adz z o 0) M' := by
  obtain ⟨a1, a2, a3, a4, a5, a6, a7, a8, a9, a10, a11⟩ := h
  have eo : oc ((o, z.1) :: s) = oc s := by simp only [oc]; rw [if_neg (by omega)]; rfl
  have h1 : YV T N q g p ((o, z.1) :: s) z (wI (wI M 10 s.length (nI (1048576 * o + z.1))) 0 18 (nI (s.length + 1))) := by
    refine ⟨a1, a2, a3, a4, a5, a6, a7, rfl, by rw [eo]; exact a9, a10, ⟨⟨by simp only; omega, by simp only; omega, ?_⟩, a11.keep fun j hj => ?_⟩⟩
    · show (if s.length = s.length then nI (1048576 * o + z.1) else M.1 10 s.length) = _
      rw [if_pos rfl]
    · show (if j = s.length then nI (1048576 * o + z.1) else M.1 10 j) = M.1 10 j
      rw [if_neg (by omega)]
  obtain ⟨M1, f1, h2, _⟩ := codes_y (o := o) (v := 0) h1 (by omega) n
  refine ⟨_, ?_, h2.next hp⟩
  unfold f12_jumps b12_jumps_0
  rw [a8, chk_in (by omega) (by decide), lt_v, lt_v, a7, show (1048576 : Int32) = nI 1048576 from rfl, pk_mul, nI_add, nI_clamp (by omega), show (wI M 10 s.length (nI (1048576 * o + z.1))).1 0 18 = nI s.length from a8, nI_1, ← nI_0, bnd_e f1, lt_v, h2.2.2.1, nI_1]
theorem hasO_loop : ∀ (m n : Nat) (A R : St), A.length = m → m < n → YV T N q g p (A ++ R) z M → (A ++ R).length < 200 → r12_hasOpenSum n 2 [nI R.length] [] M = some (if ∃ e, e ∈ A ∧ e.1 = 14 then 1 else 0, M) := by
  intro m
  induction m with
  | zero =>
    intro n A R h1 h2 h hl
    obtain ⟨n, rfl⟩ : ∃ n', n = n' + 1 := ⟨n - 1, by omega⟩
    have : A = [] := List.length_eq_zero_iff.mp h1
    subst this
    have a8 := h.2.2.2.2.2.2.2.1
    rw [e12_hasOpenSum_2]
    unfold b12_hasOpenSum_2
    rw [a8, List.nil_append, if_pos (Int32.le_refl _), if_neg (by simp)]
  | succ m ih =>
    intro n A R h1 h2 h hl
    obtain ⟨n, rfl⟩ : ∃ n', n = n' + 1 := ⟨n - 1, by omega⟩
    have hne : A ≠ [] := fun e => by rw [e] at h1; simp at h1
    obtain ⟨A', e, rfl⟩ : ∃ A' e, A = A' ++ [e] := ⟨A.dropLast, A.getLast hne, (List.dropLast_concat_getLast hne).symm⟩
    have a8 := h.2.2.2.2.2.2.2.1
    have hh : YV T N q g p (A' ++ (e :: R)) z M := by
      rw [List.append_assoc] at h
      exact h
    have hat := SkY.at hh.2.2.2.2.2.2.2.2.2.2
    simp only [List.length_append, List.length_cons, List.length_nil] at h1 hl a8
    rw [e12_hasOpenSum_2]
    unfold b12_hasOpenSum_2
    rw [a8, if_neg (nI_ge (by omega) (by omega)), chk_in (by omega) (by decide), nI_clamp (by omega), hat.2.2, unit_div hat.1 (by have := hat.2.1; omega), lt_v, nI_1]
    by_cases c : e.1 = 14
    · rw [if_pos (show nI e.1 = (14 : Int32) by rw [c]; rfl), if_pos ⟨e, by simp, c⟩]
    · rw [if_neg (c := nI _ = (14 : Int32)) (fun q => c ((nI_eq (b := 14) (by omega) (by decide)).mp q))]
      have := ih n A' (e :: R) (by omega) (by omega) hh (by simp only [List.length_append, List.length_cons]; omega)
      rw [List.length_cons] at this
      rw [this]
      congr 2
      by_cases d : ∃ x, x ∈ A' ∧ x.1 = 14
      · rw [if_pos d, if_pos]
        obtain ⟨x, d1, d2⟩ := d
        exact ⟨x, by simp [d1], d2⟩
      · rw [if_neg d, if_neg]
        rintro ⟨x, d1, d2⟩
        simp at d1
        rcases d1 with d1 | d1
        · exact d ⟨x, d1, d2⟩
        · rw [d1] at d2; exact c d2
theorem hasO_y {A R : St} {n : Nat} (h : YV T N q g p (A ++ R) z M) (hl : (A ++ R).length < 200) (hn : 300 ≤ n) : f12_hasOpenSum n (nI R.length) M = some (if ∃ e, e ∈ A ∧ e.1 = 14 then 1 else 0, M) := by
  have hA : A.length ≤ (A ++ R).length := by simp
  have := hasO_loop A.length (n + 1) A R rfl (by omega) h hl
  rw [e12_hasOpenSum_2] at this
  exact this
theorem fact_y {n b : Nat} (hb : b < 256) : f12_factOf n (nI b) M = some (if fo b < 9 then nI (fo b) else -1, M) := by
  unfold f12_factOf b12_factOf_0 fo
  have L : ∀ k, k < 256 → (nI b = nI k) = (b = k) := fun k hk => propext (nI_eq (by omega) (by omega))
  simp only [show (nI b = (98 : Int32)) = (b = 98) from L 98 (by decide), show (nI b = (99 : Int32)) = (b = 99) from L 99 (by decide), show (nI b = (100 : Int32)) = (b = 100) from L 100 (by decide), show (nI b = (101 : Int32)) = (b = 101) from L 101 (by decide), show (nI b = (102 : Int32)) = (b = 102) from L 102 (by decide), show (nI b = (103 : Int32)) = (b = 103) from L 103 (by decide), show (nI b = (104 : Int32)) = (b = 104) from L 104 (by decide), show (nI b = (105 : Int32)) = (b = 105) from L 105 (by decide), show (nI b = (106 : Int32)) = (b = 106) from L 106 (by decide), show (nI b = (107 : Int32)) = (b = 107) from L 107 (by decide), show (nI b = (108 : Int32)) = (b = 108) from L 108 (by decide), show (nI b = (109 : Int32)) = (b = 109) from L 109 (by decide), show (nI b = (110 : Int32)) = (b = 110) from L 110 (by decide), show (nI b = (111 : Int32)) = (b = 111) from L 111 (by decide), show (nI b = (112 : Int32)) = (b = 112) from L 112 (by decide), show (nI b = (113 : Int32)) = (b = 113) from L 113 (by decide), show (nI b = (114 : Int32)) = (b = 114) from L 114 (by decide), show (nI b = (115 : Int32)) = (b = 115) from L 115 (by decide), show (nI b = (116 : Int32)) = (b = 116) from L 116 (by decide), show (nI b = (117 : Int32)) = (b = 117) from L 117 (by decide), show (nI b = (118 : Int32)) = (b = 118) from L 118 (by decide), show (nI b = (119 : Int32)) = (b = 119) from L 119 (by decide), show (nI b = (120 : Int32)) = (b = 120) from L 120 (by decide), show (nI b = (121 : Int32)) = (b = 121) from L 121 (by decide)]
  by_cases h : 98 ≤ b ∧ b ≤ 121
  · have : ∀ b, b < 122 → 98 ≤ b → b = 98 ∨ b = 99 ∨ b = 100 ∨ b = 101 ∨ b = 102 ∨ b = 103 ∨ b = 104 ∨ b = 105 ∨ b = 106 ∨ b = 107 ∨ b = 108 ∨ b = 109 ∨ b = 110 ∨ b = 111 ∨ b = 112 ∨ b = 113 ∨ b = 114 ∨ b = 115 ∨ b = 116 ∨ b = 117 ∨ b = 118 ∨ b = 119 ∨ b = 120 ∨ b = 121 := by intro b; omega
    rcases this b (by omega) h.1 with rfl | rfl | rfl | rfl | rfl | rfl | rfl | rfl | rfl | rfl | rfl | rfl | rfl | rfl | rfl | rfl | rfl | rfl | rfl | rfl | rfl | rfl | rfl | rfl
    all_goals rfl
  · have k : ∀ c, 98 ≤ c → c ≤ 121 → ¬ b = c := fun c h1 h2 => by omega
    simp only [k 98 (by decide) (by decide), k 99 (by decide) (by decide), k 100 (by decide) (by decide), k 101 (by decide) (by decide), k 102 (by decide) (by decide), k 103 (by decide) (by decide), k 104 (by decide) (by decide), k 105 (by decide) (by decide), k 106 (by decide) (by decide), k 107 (by decide) (by decide), k 108 (by decide) (by decide), k 109 (by decide) (by decide), k 110 (by decide) (by decide), k 111 (by decide) (by decide), k 112 (by decide) (by decide), k 113 (by decide) (by decide), k 114 (by decide) (by decide), k 115 (by decide) (by decide), k 116 (by decide) (by decide), k 117 (by decide) (by decide), k 118 (by decide) (by decide), k 119 (by decide) (by decide), k 120 (by decide) (by decide), k 121 (by decide) (by decide), if_false]
    rfl
theorem sums_y {n b : Nat} (hb : b < 256) : f12_sumSign n (nI b) M = some (if so b = 0 then -1 else nI (so b), M) := by
  unfold f12_sumSign b12_sumSign_0 so
  have L : ∀ k, k < 256 → (nI b = nI k) = (b = k) := fun k hk => propext (nI_eq (by omega) (by omega))
  simp only [show (nI b = (43 : Int32)) = (b = 43) from L 43 (by decide), show (nI b = (45 : Int32)) = (b = 45) from L 45 (by decide), show (nI b = (42 : Int32)) = (b = 42) from L 42 (by decide), show (nI b = (47 : Int32)) = (b = 47) from L 47 (by decide), show (nI b = (37 : Int32)) = (b = 37) from L 37 (by decide)]
  repeat' split
  all_goals first | rfl | omega
end PY
