/-! ways and their costs: OLD, BARRED -/
def cwd (A : Nat → Nat → Bool) (f : Nat → Nat) (s : Nat) : Nat → Nat → Nat → Prop
  | 0, c, p => p = s ∧ c = 0
  | d + 1, c, p => ∃ q w c', w < 4 ∧ q < 96 ∧ cwd A f s d c' q ∧ bes q w = p ∧ p < 96 ∧ A q p = true ∧ c = c' + f p
def fc (sq : Nat) (kd : Nat → Nat) (st wl q : Nat) : Nat := st + (if kof sq kd q = 1 then wl else 0)
def AY (sq : Nat) (kd : Nat → Nat) (_ p : Nat) : Bool := fl sq kd 1 p
/-- attained, bounded -/
def cf (D : Nat → Nat) : Nat := fb_ct (fun p => decide (D p ≠ 1000000)) 96
def CY (A : Nat → Nat → Bool) (f : Nat → Nat) (s : Nat) (D : Nat → Nat) : Prop := D s = 0 ∧ (∀ p, p < 96 → D p = 1000000 ∨ ∃ d, cwd A f s d (D p) p) ∧ ∀ p, p < 96 → D p ≠ 1000000 → D p + 101 ≤ 101 * cf D
def Clo (A : Nat → Nat → Bool) (f : Nat → Nat) (D : Nat → Nat) : Prop := ∀ p, p < 96 → ∀ v, v < 4 → D p ≠ 1000000 → bes p v < 96 → A p (bes p v) = true → D (bes p v) ≤ D p + f (bes p v)
theorem CY.low {A : Nat → Nat → Bool} {f : Nat → Nat} {s : Nat} {D : Nat → Nat} (h : CY A f s D) {p : Nat} (hp : p < 96) (hd : D p ≠ 1000000) : D p ≤ 9595 := by
  have := h.2.2 p hp hd
  have : cf D ≤ 96 := fb_ct_le (fun p => decide (D p ≠ 1000000)) 96
  omega
theorem CY.put {A : Nat → Nat → Bool} {f : Nat → Nat} {s : Nat} {D : Nat → Nat} (hf : ∀ q, f q ≤ 101) (h : CY A f s D) {p v : Nat} (hp : p < 96) (hv : v < 4) (hd : D p ≠ 1000000) (hb : bes p v < 96) (ha : A p (bes p v) = true) (hl : D p + f (bes p v) < D (bes p v)) : CY A f s (up D (bes p v) (D p + f (bes p v))) ∧ fb_sm (up D (bes p v) (D p + f (bes p v))) 96 < fb_sm D 96 := by
  have hlow := h.low hp hd
  have hq := hf (bes p v)
  obtain ⟨h1, h2, h3⟩ := h
  have hs : s ≠ bes p v := fun e => by rw [← e, h1] at hl; omega
  have hc : cf (up D (bes p v) (D p + f (bes p v))) + (if decide (D (bes p v) ≠ 1000000) = true then 1 else 0) = cf D + 1 := by
    have e1 := fb_ct_upd (fun x => decide (D x ≠ 1000000)) true (i := bes p v) (n := 96) hb
    rw [if_pos rfl] at e1
    have e2 : cf (up D (bes p v) (D p + f (bes p v))) = fb_ct (fun k => if k = bes p v then true else decide (D k ≠ 1000000)) 96 := fb_ct_cong fun k hk => by
      by_cases e : k = bes p v
      · rw [e, up_eq, if_pos rfl]
        exact decide_eq_true (by omega)
      · rw [up_ne e, if_neg e]
    rw [e2]
    exact e1
  have hcA : D (bes p v) = 1000000 → cf (up D (bes p v) (D p + f (bes p v))) = cf D + 1 := fun e => by
    rw [if_neg (by simp [e])] at hc
    omega
  have hcB : D (bes p v) ≠ 1000000 → cf (up D (bes p v) (D p + f (bes p v))) = cf D := fun e => by
    rw [if_pos (by simp [e])] at hc
    omega
  refine ⟨⟨by rw [up_ne hs]; exact h1, fun x hx => ?_, fun x hx hx2 => ?_⟩, ?_⟩
  · by_cases e : x = bes p v
    · subst e
      rw [up_eq]
      obtain ⟨d, hd2⟩ := (h2 p hp).resolve_left hd
      exact Or.inr ⟨d + 1, p, v, D p, hv, hp, hd2, rfl, hb, ha, rfl⟩
    · rw [up_ne e]
      exact h2 x hx
  · have hpp := h3 p hp hd
    by_cases e : x = bes p v
    · subst e
      rw [up_eq]
      by_cases e2 : D (bes p v) = 1000000
      · rw [hcA e2]; omega
      · have := h3 _ hx e2
        rw [hcB e2]; omega
    · rw [up_ne e] at hx2 ⊢
      have := h3 x hx hx2
      by_cases e2 : D (bes p v) = 1000000
      · rw [hcA e2]; omega
      · rw [hcB e2]; omega
  · have := fb_sm_upd D (D p + f (bes p v)) (i := bes p v) (n := 96) hb
    have e : fb_sm (up D (bes p v) (D p + f (bes p v))) 96 = fb_sm (fun k => if k = bes p v then D p + f (bes p v) else D k) 96 := rfl
    omega
theorem clo_min {A : Nat → Nat → Bool} {f : Nat → Nat} {s : Nat} {D : Nat → Nat} (hf : ∀ q, f q ≤ 101) (h : CY A f s D) (hc : Clo A f D) : ∀ {d c p : Nat}, p < 96 → cwd A f s d c p → D p ≤ c ∧ D p ≠ 1000000 := by
  intro d
  induction d with
  | zero => intro c p hp hw; rw [hw.1, h.1]; exact ⟨Nat.zero_le _, by decide⟩
  | succ d ih =>
    intro c p hp hw
    obtain ⟨q, v, c', h1, h2, h3, h4, h5, h6, h7⟩ := hw
    obtain ⟨i1, i2⟩ := ih h2 h3
    have a := hc q h2 v h1 i2 (by rw [h4]; exact h5) (by rw [h4]; exact h6)
    rw [h4] at a
    have b := h.low h2 i2
    have b2 := hf p
    exact ⟨by omega, by omega⟩
/-! the reference's table -/
def RY (A : Nat → Nat → Bool) (f : Nat → Nat) (s : Nat) (D0 D : Nat → Nat) (g i w : Nat) : Prop := CY A f s D ∧ fb_sm D 96 ≤ fb_sm D0 96 ∧ (g = 0 ∨ (g = 1 ∧ fb_sm D 96 < fb_sm D0 96)) ∧ (g = 0 → (∀ p, p < i → ∀ v, v < 4 → D p ≠ 1000000 → bes p v < 96 → A p (bes p v) = true → D (bes p v) ≤ D p + f (bes p v)) ∧ ∀ v, v < w → D i ≠ 1000000 → bes i v < 96 → A i (bes i v) = true → D (bes i v) ≤ D i + f (bes i v))
theorem RY.pass {A : Nat → Nat → Bool} {f : Nat → Nat} {s : Nat} {D0 D : Nat → Nat} {g i w : Nat} (h : RY A f s D0 D g i w) (hc : D i = 1000000 ∨ ¬ bes i w < 96 ∨ A i (bes i w) = false ∨ D (bes i w) ≤ D i + f (bes i w)) : RY A f s D0 D g i (w + 1) := by
  refine ⟨h.1, h.2.1, h.2.2.1, fun hg => ⟨(h.2.2.2 hg).1, fun v hv a1 a2 a3 => ?_⟩⟩
  by_cases e : v = w
  · subst e
    rcases hc with c | c | c | c
    · exact absurd c a1
    · exact absurd a2 c
    · rw [c] at a3; cases a3
    · exact c
  · exact (h.2.2.2 hg).2 v (by omega) a1 a2 a3
theorem RY.put {A : Nat → Nat → Bool} {f : Nat → Nat} {s : Nat} {D0 D : Nat → Nat} {g i w : Nat} (hf : ∀ q, f q ≤ 101) (h : RY A f s D0 D g i w) (hp : i < 96) (hv : w < 4) (hd : D i ≠ 1000000) (hb : bes i w < 96) (ha : A i (bes i w) = true) (hl : D i + f (bes i w) < D (bes i w)) : RY A f s D0 (up D (bes i w) (D i + f (bes i w))) 1 i (w + 1) := by
  obtain ⟨a, b⟩ := h.1.put hf hp hv hd hb ha hl
  have := h.2.1
  exact ⟨a, by omega, Or.inr ⟨rfl, by omega⟩, fun e => by cases e⟩
theorem RY.next {A : Nat → Nat → Bool} {f : Nat → Nat} {s : Nat} {D0 D : Nat → Nat} {g i : Nat} (h : RY A f s D0 D g i 4) : RY A f s D0 D g (i + 1) 0 := by
  refine ⟨h.1, h.2.1, h.2.2.1, fun hg => ⟨fun p hp v hv => ?_, fun v hv => by omega⟩⟩
  by_cases e : p = i
  · subst e; exact (h.2.2.2 hg).2 v hv
  · exact (h.2.2.2 hg).1 p (by omega) v hv
theorem costs_round {sq st wl : Nat} {kd : Nat → Nat} (hst : st ≤ 100) (hwl : wl ≤ 1) (D0 : Nat → Nat) : ∀ (m : Nat) (D : Nat → Nat) (g i w n : Nat) (M : Mem), RY (AY sq kd) (fc sq kd st wl) sq D0 D g i w → i < 96 → w ≤ 4 → 5 * (96 - i) - w ≤ m → 2 * m + 2 < n → TY sq kd M → (∀ p, p < 96 → M.1 26 p = nI (D p)) → ∃ n' D' g' M', n ≤ n' + 2 * m + 2 ∧ r12_laysCosts n 54 [nI st, nI wl, nI g, nI i, nI w] [] M = r12_laysCosts n' 35 [nI st, nI wl, nI g'] [] M' ∧ RY (AY sq kd) (fc sq kd st wl) sq D0 D' g' 96 0 ∧ TY sq kd M' ∧ ∀ p, p < 96 → M'.1 26 p = nI (D' p) := by
  have hf : ∀ q, fc sq kd st wl q ≤ 101 := fun q => by unfold fc; split <;> omega
  intro m
  induction m with
  | zero => intro D g i w n M h hi hw hm; omega
  | succ m ih =>
    intro D g i w n M h hi hw hm hn hT hM
    obtain ⟨n, rfl⟩ : ∃ n', n = n' + 1 := ⟨n - 1, by omega⟩
    rw [e12_laysCosts_54]
    unfold b12_laysCosts_54 b12_laysCosts_162
    by_cases e : w = 4
    · subst e
      have h2 := h.next
      rw [if_pos (by decide), lt_v, nI_1]
      obtain ⟨n, rfl⟩ : ∃ n', n = n' + 1 := ⟨n - 1, by omega⟩
      rw [e12_laysCosts_44]
      unfold b12_laysCosts_44
      by_cases e2 : i + 1 < 96
      · rw [if_neg (show ¬ (96 : Int32) ≤ nI (i + 1) from nI_ge (b := 96) e2 (by decide)), ← e12_laysCosts_54, ← nI_0]
        obtain ⟨n', D', g', M', a1, a2⟩ := ih D g (i + 1) 0 (n + 1) M h2 e2 (by omega) (by omega) (by omega) hT hM
        exact ⟨n', D', g', M', by omega, a2⟩
      · have : i + 1 = 96 := by omega
        rw [this] at h2 ⊢
        rw [if_pos (by decide)]
        exact ⟨n, D, g, M, by omega, rfl, h2, hT, hM⟩
    · have skip : RY (AY sq kd) (fc sq kd st wl) sq D0 D g i (w + 1) → ∃ n' D' g' M', n + 1 ≤ n' + 2 * (m + 1) + 2 ∧ (lt (nI w + (1 : Int32)) fun v33 => r12_laysCosts n 54 [nI st, nI wl, nI g, nI i, v33] [] M) = r12_laysCosts n' 35 [nI st, nI wl, nI g'] [] M' ∧ RY (AY sq kd) (fc sq kd st wl) sq D0 D' g' 96 0 ∧ TY sq kd M' ∧ ∀ p, p < 96 → M'.1 26 p = nI (D' p) := by
        intro h2
        rw [lt_v, nI_1]
        obtain ⟨n', D', g', M', a1, a2⟩ := ih D g i (w + 1) n M h2 hi (by omega) (by omega) (by omega) hT hM
        exact ⟨n', D', g', M', by omega, a2⟩
      rw [if_neg (show ¬ (4 : Int32) ≤ nI w from nI_ge (b := 4) (by omega) (by decide)), bnd_e (bes_Y hi (by omega)), chk_in hi (by decide), nI_clamp (by omega), hM i hi]
      by_cases hd : D i = 1000000
      · rw [hd, if_pos (show nI 1000000 = (1000000 : Int32) from rfl)]
        exact skip (h.pass (Or.inl hd))
      · have hlow := h.1.low hi hd
        rw [if_neg (show ¬ nI (D i) = (1000000 : Int32) from fun e => hd ((nI_eq (b := 1000000) (by omega) (by decide)).mp e))]
        by_cases hb : bes i w < 96
        · rw [bI_in hb, if_neg (nI_m1 (by omega)), bnd_e (isOpen_Y hT hb)]
          have hkk := (hT.2.2 _ hb).2
          have tail : AY sq kd i (bes i w) = true → ∃ n' D' g' M', n + 1 ≤ n' + 2 * (m + 1) + 2 ∧ b12_laysCosts_110 (r12_laysCosts n) n (nI st) (nI wl) (nI g) (nI i) (nI w) (nI (bes i w)) M = r12_laysCosts n' 35 [nI st, nI wl, nI g'] [] M' ∧ RY (AY sq kd) (fc sq kd st wl) sq D0 D' g' 96 0 ∧ TY sq kd M' ∧ ∀ p, p < 96 → M'.1 26 p = nI (D' p) := by
            intro ha
            have hs : b12_laysCosts_110 (r12_laysCosts n) n (nI st) (nI wl) (nI g) (nI i) (nI w) (nI (bes i w)) M = b12_laysCosts_133 (r12_laysCosts n) n (nI st) (nI wl) (nI g) (nI i) (nI w) (nI (bes i w)) (nI (D i + st)) (nI (fc sq kd st wl (bes i w) - st)) M := by
              unfold b12_laysCosts_110
              rw [chk_in hi (by decide), bnd_e (isOpen_Y hT hb), nI_clamp (by omega), hM i hi, nI_add]
              have hk1 : 1 ≤ kof sq kd (bes i w) := by simpa [AY, fl] using ha
              have hk2 : kof sq kd (bes i w) ≤ 2 := kof_le hkk
              by_cases ho : opn sq kd (bes i w) = true
              · have : kof sq kd (bes i w) = 2 := by simpa [opn] using ho
                rw [if_pos ho, if_neg (by decide)]
                unfold fc
                rw [this, if_neg (by decide), Nat.add_zero, Nat.sub_self, nI_0]
              · have : kof sq kd (bes i w) = 1 := by
                  have : ¬ kof sq kd (bes i w) = 2 := by simpa [opn] using ho
                  omega
                rw [if_neg ho, if_pos rfl]
                unfold fc
                rw [this, if_pos rfl, Nat.add_sub_cancel_left]
            rw [hs]
            unfold b12_laysCosts_133 b12_laysCosts_162
            have hfb := hf (bes i w)
            have hfe : D i + st + (fc sq kd st wl (bes i w) - st) = D i + fc sq kd st wl (bes i w) := by
              unfold fc; omega
            rw [lt_v, nI_add, hfe, chk_in hb (by decide), nI_clamp (by omega), hM _ hb]
            by_cases hl : D i + fc sq kd st wl (bes i w) < D (bes i w)
            · rw [if_pos (nI_lt hl (by
                by_cases e3 : D (bes i w) = 1000000
                · omega
                · have := h.1.low hb e3; omega)), chk_in hb (by decide), lt_v, lt_v, nI_1]
              obtain ⟨n', D', g', M', a1, a2⟩ := ih _ 1 i (w + 1) n (wI M 26 (bes i w) (nI (D i + fc sq kd st wl (bes i w)))) (h.put hf hi (by omega) hd hb ha hl) hi (by omega) (by omega) (by omega) (hT.keep rfl rfl) (fun p hp => by
                rw [wI_at, if_pos rfl]
                unfold up
                by_cases e3 : p = bes i w
                · rw [if_pos e3, if_pos e3]
                · rw [if_neg e3, if_neg e3]; exact hM p hp)
              exact ⟨n', D', g', M', by omega, a2⟩
            · rw [if_neg (nI_nlt (by omega) (by omega))]
              exact skip (h.pass (Or.inr (Or.inr (Or.inr (by omega)))))
          by_cases ho : opn sq kd (bes i w) = true
          · rw [if_pos ho, if_neg (by decide)]
            exact tail (by
              have : kof sq kd (bes i w) = 2 := by simpa [opn] using ho
              simp [AY, fl, this])
          · rw [if_neg ho, if_pos rfl, chk_in hb (by decide), nI_clamp (by omega), (hT.2.2 _ hb).1]
            have hne : bes i w ≠ sq := fun e => ho (by simp [opn, kof, e])
            have hkf : kof sq kd (bes i w) = kd (bes i w) := by unfold kof; rw [if_neg hne]
            by_cases hk : kd (bes i w) = 0
            · rw [hk, if_pos nI_0]
              exact skip (h.pass (Or.inr (Or.inr (Or.inl (by simp [AY, fl, hkf, hk])))))
            · rw [if_neg (nI_ne0 (by omega) (by omega))]
              exact tail (by simp [AY, fl, hkf]; omega)
        · rw [bI_out hb, if_pos rfl]
          exact skip (h.pass (Or.inr (Or.inl hb)))
theorem costs_loop {sq st wl : Nat} {kd : Nat → Nat} (hst : st ≤ 100) (hwl : wl ≤ 1) : ∀ (S : Nat) (D : Nat → Nat) (n : Nat) (M : Mem), CY (AY sq kd) (fc sq kd st wl) sq D → fb_sm D 96 ≤ S → 1000 * (S + 1) < n → TY sq kd M → (∀ p, p < 96 → M.1 26 p = nI (D p)) → ∃ D' M', r12_laysCosts n 35 [nI st, nI wl, 1] [] M = some ((), M') ∧ CY (AY sq kd) (fc sq kd st wl) sq D' ∧ Clo (AY sq kd) (fc sq kd st wl) D' ∧ ∀ p, p < 96 → M'.1 26 p = nI (D' p) := by
  intro S
  induction S with
  | zero =>
    intro D n M h hs hn hT hM
    obtain ⟨n, rfl⟩ : ∃ n', n = n' + 1 := ⟨n - 1, by omega⟩
    rw [e12_laysCosts_35]
    unfold b12_laysCosts_35 b12_laysCosts_44
    rw [if_neg (by decide), if_neg (by decide), ← e12_laysCosts_54, ← nI_0]
    obtain ⟨n', D', g', M', a1, a2, a3, a4, a5⟩ := costs_round hst hwl D 480 D 0 0 0 (n + 1) M ⟨h, Nat.le_refl _, Or.inl rfl, fun _ => ⟨fun p hp => by omega, fun v hv => by omega⟩⟩ (by decide) (by decide) (by decide) (by omega) hT hM
    rw [a2]
    obtain ⟨n', rfl⟩ : ∃ n1, n' = n1 + 1 := ⟨n' - 1, by omega⟩
    have hg : g' = 0 := by
      rcases a3.2.2.1 with e | ⟨e, e2⟩
      · exact e
      · omega
    rw [e12_laysCosts_35]
    unfold b12_laysCosts_35
    rw [hg, if_pos nI_0]
    exact ⟨D', M', rfl, a3.1, (a3.2.2.2 hg).1, a5⟩
  | succ S ih =>
    intro D n M h hs hn hT hM
    obtain ⟨n, rfl⟩ : ∃ n', n = n' + 1 := ⟨n - 1, by omega⟩
    rw [e12_laysCosts_35]
    unfold b12_laysCosts_35 b12_laysCosts_44
    rw [if_neg (by decide), if_neg (by decide), ← e12_laysCosts_54, ← nI_0]
    obtain ⟨n', D', g', M', a1, a2, a3, a4, a5⟩ := costs_round hst hwl D 480 D 0 0 0 (n + 1) M ⟨h, Nat.le_refl _, Or.inl rfl, fun _ => ⟨fun p hp => by omega, fun v hv => by omega⟩⟩ (by decide) (by decide) (by decide) (by omega) hT hM
    rw [a2]
    rcases a3.2.2.1 with e | ⟨e, e2⟩
    · obtain ⟨n', rfl⟩ : ∃ n1, n' = n1 + 1 := ⟨n' - 1, by omega⟩
      rw [e12_laysCosts_35]
      unfold b12_laysCosts_35
      rw [e, if_pos nI_0]
      exact ⟨D', M', rfl, a3.1, (a3.2.2.2 e).1, a5⟩
    · rw [e]
      exact ih D' n' M' a3.1 (by omega) (by omega) a4 a5
theorem costs_fill (x y : Int32) : ∀ (d i n : Nat) (M : Mem), i + d = 96 → d < n → ∃ n' M', n' + d + 1 = n ∧ r12_laysCosts n 2 [x, y, nI i] [] M = r12_laysCosts (n' + 1) 2 [x, y, nI 96] [] M' ∧ (∀ j, M'.1 26 j = if i ≤ j ∧ j < 96 then nI 1000000 else M.1 26 j) ∧ (∀ k, k ≠ 26 → M'.1 k = M.1 k) := by
  intro d
  induction d with
  | zero =>
    intro i n M h1 h2
    obtain ⟨n, rfl⟩ : ∃ n', n = n' + 1 := ⟨n - 1, by omega⟩
    have : i = 96 := by omega
    subst this
    exact ⟨n, M, rfl, rfl, fun j => by rw [if_neg (by omega)], fun k _ => rfl⟩
  | succ d ih =>
    intro i n M h1 h2
    obtain ⟨n, rfl⟩ : ∃ n', n = n' + 1 := ⟨n - 1, by omega⟩
    rw [e12_laysCosts_2]
    unfold b12_laysCosts_2
    rw [if_neg (show ¬ (96 : Int32) ≤ nI i from nI_ge (b := 96) (by omega) (by decide)), chk_in (by omega) (by decide), lt_v, lt_v, nI_1, nI_clamp (by omega)]
    obtain ⟨n', M', g1, g2, g3, g4⟩ := ih (i + 1) n (wI M 26 i (1000000 : Int32)) (by omega) (by omega)
    refine ⟨n', M', by omega, g2, fun j => ?_, fun k hk => ?_⟩
    · rw [g3 j, wI_at, if_pos rfl]
      by_cases e1 : j = i
      · rw [if_neg (by omega), if_pos e1, if_pos (by omega)]
        rfl
      · rw [if_neg e1]
        by_cases e2 : i + 1 ≤ j ∧ j < 96
        · rw [if_pos e2, if_pos (by omega)]
        · rw [if_neg e2, if_neg (by omega)]
    · rw [g4 k hk, (wI_o k hk).1]
/-- the costs of the reference -/
theorem costs_Y {sq n st wl : Nat} {kd : Nat → Nat} {M : Mem} (hst : st ≤ 100) (hwl : wl ≤ 1) (hn : 1000000000000 ≤ n) (hT : TY sq kd M) : ∃ D M', f12_laysCosts n (nI st) (nI wl) M = some ((), M') ∧ CY (AY sq kd) (fc sq kd st wl) sq D ∧ Clo (AY sq kd) (fc sq kd st wl) D ∧ ∀ p, p < 96 → M'.1 26 p = nI (D p) := by
  unfold f12_laysCosts b12_laysCosts_0
  obtain ⟨n', M1, g1, g2, g3, g4⟩ := costs_fill (nI st) (nI wl) 96 0 (n + 1) M (by omega) (by omega)
  rw [nI_0, e12_laysCosts_2] at g2
  rw [g2, e12_laysCosts_2]
  have hT1 : TY sq kd M1 := hT.keep (by rw [g4 0 (by decide)]) (g4 4 (by decide))
  unfold b12_laysCosts_2
  rw [if_pos (show (96 : Int32) ≤ nI 96 by decide), hT1.2.1, chk_in hT.1 (by decide), lt_v, nI_clamp (by have := hT.1; omega), ← e12_laysCosts_35]
  have hsm : fb_sm (fun p => if p = sq then 0 else 1000000) 96 ≤ 96 * 1000000 := fb_sm_bound fun k _ => by split <;> omega
  refine costs_loop hst hwl (96 * 1000000) (fun p => if p = sq then 0 else 1000000) (n' + 1) (wI M1 26 sq 0) ⟨if_pos rfl, fun p hp => ?_, fun p hp hd => ?_⟩ hsm (by omega) (hT1.keep rfl rfl) (fun p hp => ?_)
  · by_cases e : p = sq
    · exact Or.inr ⟨0, e, if_pos e⟩
    · exact Or.inl (if_neg e)
  · have e : p = sq := Decidable.byContradiction fun e => hd (if_neg e)
    have : 0 < cf (fun p => if p = sq then 0 else 1000000) := fb_ct_pos.mpr ⟨sq, hT.1, by simp⟩
    show (if p = sq then 0 else 1000000) + 101 ≤ _
    rw [if_pos e]
    omega
  · rw [wI_at, if_pos rfl]
    by_cases e : p = sq
    · rw [if_pos e]
      show _ = nI (if p = sq then 0 else 1000000)
      rw [if_pos e]
      rfl
    · rw [if_neg e, g3, if_pos (by omega)]
      show _ = nI (if p = sq then 0 else 1000000)
      rw [if_neg e]
/-! ways with their costs against ways -/
theorem cwd_wk {sq : Nat} {kd : Nat → Nat} {f : Nat → Nat} (hs : sq < 96) : ∀ {d c p : Nat}, cwd (AY sq kd) f sq d c p → wk (fl sq kd 1) sq d p := by
  intro d
  induction d with
  | zero => intro c p h; exact ⟨h.1, by simp [fl, kof], hs⟩
  | succ d ih =>
    intro c p h
    obtain ⟨q, v, c', h1, h2, h3, h4, h5, h6, h7⟩ := h
    exact ⟨q, v, h1, ih h3, h4, h5, h6⟩
theorem wk_cwd {sq : Nat} {kd : Nat → Nat} {f : Nat → Nat} : ∀ {d p : Nat}, wk (fl sq kd 1) sq d p → ∃ c, cwd (AY sq kd) f sq d c p := by
  intro d
  induction d with
  | zero => intro p h; exact ⟨0, h.1, rfl⟩
  | succ d ih =>
    intro p h
    obtain ⟨q, v, h1, h2, h3, h4, h5⟩ := h
    obtain ⟨c, hc⟩ := ih h2
    exact ⟨c + f p, q, v, c, h1, (wk_in h2).1, hc, h3, h4, h5, rfl⟩
theorem cwd_form {sq st wl s : Nat} {kd : Nat → Nat} {A : Nat → Nat → Bool} (hwl : wl ≤ 1) : ∀ {d c p : Nat}, cwd A (fc sq kd st wl) s d c p → ∃ k, k ≤ d ∧ c = st * d + k := by
  intro d
  induction d with
  | zero => intro c p h; exact ⟨0, Nat.le_refl _, by rw [h.2]; omega⟩
  | succ d ih =>
    intro c p h
    obtain ⟨q, v, c', h1, h2, h3, h4, h5, h6, h7⟩ := h
    obtain ⟨k, k1, k2⟩ := ih h3
    unfold fc at h7
    refine ⟨k + (if kof sq kd p = 1 then wl else 0), ?_, ?_⟩
    · split <;> omega
    · rw [h7, k2, Nat.mul_succ]; omega
theorem reach_Y {sq : Nat} {kd : Nat → Nat} {f D : Nat → Nat} (hf : ∀ q, f q ≤ 101) (hs : sq < 96) (h : CY (AY sq kd) f sq D) (hc : Clo (AY sq kd) f D) {p : Nat} (hp : p < 96) : D p = 1000000 ↔ ds (fl sq kd 1) sq p = 99 := by
  constructor
  · intro e
    refine Decidable.byContradiction fun g => ?_
    obtain ⟨c, h1⟩ := wk_cwd (f := f) (ds_wk hs hp g)
    exact (clo_min hf h hc hp h1).2 e
  · intro e
    refine Decidable.byContradiction fun g => ?_
    obtain ⟨d, hd⟩ := (h.2.1 p hp).resolve_left g
    have := (ds_min hs (cwd_wk hs hd)).2
    omega
/-- OLD: the same on both sides -/
theorem old_XY {sq : Nat} {kd : Nat → Nat} {D : Nat → Nat} (hs : sq < 96) (h : CY (AY sq kd) (fc sq kd 1 0) sq D) (hc : Clo (AY sq kd) (fc sq kd 1 0) D) {p : Nat} (hp : p < 96) (hd : D p ≠ 1000000) : D p = ds (fl sq kd 1) sq p := by
  have hf : ∀ q, fc sq kd 1 0 q ≤ 101 := fun q => by unfold fc; split <;> omega
  have hl : ∀ {d c p : Nat}, cwd (AY sq kd) (fc sq kd 1 0) sq d c p → c = d := by
    intro d
    induction d with
    | zero => intro c p h; exact h.2
    | succ d ih =>
      intro c p h
      obtain ⟨q, v, c', h1, h2, h3, h4, h5, h6, h7⟩ := h
      rw [h7, ih h3]
      unfold fc
      split <;> rfl
  have g : ds (fl sq kd 1) sq p ≠ 99 := fun e => hd ((reach_Y hf hs h hc hp).mpr e)
  obtain ⟨d, hd⟩ := (h.2.1 p hp).resolve_left hd
  have e1 := hl hd
  have := (ds_min hs (cwd_wk hs hd)).1
  obtain ⟨c, h1⟩ := wk_cwd (f := fc sq kd 1 0) (ds_wk hs hp g)
  have e2 := hl h1
  have := (clo_min hf h hc hp h1).1
  omega
/-- PROMISE 18: old -/
theorem st_old {Lw : Mem → Mem → Prop} (hL : LwOk Lw) {FU : Nat} (hFU : 1000000000000 ≤ FU) (t : Nat) (Mx My : Mem) (a0 a1 : Int32) (ht : t < 3072) (h : Inv Lw t Mx My) : ∃ (r : Int32) (Mx' My' : Mem), f11_old FU a0 a1 Mx = some (r, Mx') ∧ f12_old FU a0 a1 My = some (r, My') ∧ Inv Lw (t + 6) Mx' My' := by
  have h0 := h
  obtain ⟨⟨⟨sq, kd, dr, h1⟩, h2⟩, h3, h4, h5⟩ := h
  rcases place_XY a0 a1 with g | ⟨p, hp, e, g⟩
  · refine ⟨-1, Mx, My, ?_, ?_, h0.same hL⟩
    · unfold f11_old b11_old_0
      rw [bnd_e (g FU Mx).1, if_pos rfl]
    · unfold f12_old b12_old_0
      rw [bnd_e (g FU My).2, if_pos rfl]
  · have hf : ∀ q, fc sq kd 1 0 q ≤ 101 := fun q => by unfold fc; split <;> omega
    obtain ⟨X1, x1, x2⟩ := spread_spec (n := FU) (k0 := 28) (f := 1) (by omega) (by decide) (by decide) h1.1.1 h1.1
    obtain ⟨D, Y1, y1, y2, y3, y4⟩ := costs_Y (n := FU) (st := 1) (wl := 0) (by decide) (by decide) hFU h1.2.1.1
    have hr := reach_Y hf h1.1.1 y2 y3 hp
    have x : f11_old FU a0 a1 Mx = some (if ds (fl sq kd 1) sq p = 99 then -2 else nI (ds (fl sq kd 1) sq p), X1) := by
      unfold f11_old b11_old_0 f6_stepsByOldMap b6_stepsByOldMap_0
      rw [bnd_e (g FU Mx).1, if_neg (nI_m1 (by omega)), h1.1.2.1, show (1 : Int32) = nI 1 from rfl, bnd_e x1, chk_in hp (by decide), bnd_s', nI_clamp (by omega), x2 p hp]
      have := ds_le (fl sq kd 1) h1.1.1 hp
      by_cases c : ds (fl sq kd 1) sq p = 99
      · rw [c, if_pos (show nI 99 = (99 : Int32) from rfl), if_pos rfl]
      · rw [if_neg (show ¬ nI (ds (fl sq kd 1) sq p) = (99 : Int32) from fun e => c ((nI_eq (b := 99) (by omega) (by decide)).mp e)), if_neg c]
    have y : f12_old FU a0 a1 My = some (if ds (fl sq kd 1) sq p = 99 then -2 else nI (ds (fl sq kd 1) sq p), Y1) := by
      unfold f12_old b12_old_0
      rw [bnd_e (g FU My).2, if_neg (by decide), e, show (1 : Int32) = nI 1 from rfl, show (0 : Int32) = nI 0 from nI_0.symm, bnd_e y1, chk_in hp (by decide), lt_v, nI_clamp (by omega), y4 p hp]
      by_cases c : D p = 1000000
      · rw [c, if_pos (show nI 1000000 = (1000000 : Int32) from rfl), if_pos (hr.mp c)]
      · have := y2.low hp c
        rw [if_neg (show ¬ nI (D p) = (1000000 : Int32) from fun e => c ((nI_eq (b := 1000000) (by omega) (by decide)).mp e)), if_neg (fun e => c (hr.mpr e)), old_XY h1.1.1 y2 y3 hp c]
    have fx := fr11_old x
    have fy := fr12_old y
    have qy : Fq CSY [] My Y1 := fun k j hk _ => by
      have : k = 0 := by simpa using hk
      rw [this, (fy 0 (by decide) (fun e => by cases e)).1]
    refine ⟨_, X1, Y1, x, y, Inv.ask hL h1 h2 (h3.keep (by rw [(fx 1 (by decide) (fun e => by cases e)).1]) (fx 2 (by decide) (fun e => by cases e)).1 (qy 0 11 (by decide) (by decide)) (fy 8 (by decide) (fun e => by cases e)).1) h4 h5 (QXt.of fx (by decide)) (h1.2.2.1.1.keep (fx 10 (by decide) (fun e => by cases e)).2) (QXr.of fx (by decide)) (QY.of fy qy (by decide) (by decide)) ?_ (fy 5 (by decide) (fun e => by cases e)).1⟩
    refine ⟨h1.2.1.1.keep (by rw [(fy 0 (by decide) (fun e => by cases e)).1]) (fy 4 (by decide) (fun e => by cases e)).1, ?_⟩
    unfold LY LD
    rw [(fy 0 (by decide) (fun e => by cases e)).1, (fy 6 (by decide) (fun e => by cases e)).1]
    exact h1.2.1.2
