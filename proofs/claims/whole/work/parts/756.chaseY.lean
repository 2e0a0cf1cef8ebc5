/-! CHASE: the reference -/
def fs (k v : Nat) : Nat := if v = 4 then k else bes k v
theorem tr_iff {O : Nat → Bool} {C : Nat → Nat → Bool} {k t : Nat} (ht : t < 96) : trB O C k t = true ↔ t = k ∨ (O t = true ∧ ∀ u, u < 5 → fs t u < 96 → O (fs t u) = true → C k (fs t u) = true) := by
  unfold trB
  simp only [Bool.or_eq_true, Bool.and_eq_true, Bool.not_eq_true', decide_eq_true_eq]
  constructor
  · rintro (⟨a, b⟩ | e)
    · refine Or.inr ⟨a, fun u hu h1 h2 => ?_⟩
      have ng : ¬ gr (fun x => O x && !C k x) t = true := by rw [b]; decide
      rw [gr_iff ht] at ng
      by_cases e : u = 4
      · subst e
        cases hc : C k (fs t 4) with
        | true => rfl
        | false =>
          refine absurd (Or.inl ?_) ng
          simp only [fs, if_true] at hc
          simp [a, hc]
      · have e2 : fs t u = bes t u := by unfold fs; rw [if_neg e]
        rw [e2] at h1 h2 ⊢
        cases hc : C k (bes t u) with
        | true => rfl
        | false =>
          refine absurd (Or.inr ⟨u, by omega, h1, ?_⟩) ng
          simp [h2, hc]
    · exact Or.inl e
  · rintro (e | ⟨a, b⟩)
    · exact Or.inr e
    · refine Or.inl ⟨a, ?_⟩
      cases hg : gr (fun x => O x && !C k x) t with
      | false => rfl
      | true =>
        rw [gr_iff ht] at hg
        rcases hg with e | ⟨w, h1, h2, h3⟩
        · have := b 4 (by decide) (by simp [fs, ht]) (by simp [fs, a])
          simp only [fs, if_true] at this
          simp [this] at e
        · have e2 : fs t w = bes t w := by unfold fs; rw [if_neg (by omega)]
          simp only [Bool.and_eq_true, Bool.not_eq_true'] at h3
          have := b w (by omega) (by rw [e2]; exact h2) (by rw [e2]; exact h3.1)
          rw [e2, h3.2] at this
          cases this
theorem jn_iff {O : Nat → Bool} {C : Nat → Nat → Bool} {k t : Nat} : ∀ {w : Nat}, jn O C k w t = true ↔ C k t = true ∨ trB O C k t = true ∨ ∃ v, v < w ∧ bes k v < 96 ∧ O (bes k v) = true ∧ trB O C (bes k v) t = true := by
  intro w
  induction w with
  | zero =>
    simp only [jn, Bool.or_eq_true]
    constructor
    · rintro (e | e)
      · exact Or.inl e
      · exact Or.inr (Or.inl e)
    · rintro (e | e | ⟨v, h, _⟩)
      · exact Or.inl e
      · exact Or.inr e
      · omega
  | succ w ih =>
    simp only [jn, Bool.or_eq_true, Bool.and_eq_true, decide_eq_true_eq, ih]
    constructor
    · rintro ((e | e | ⟨v, h1, h2⟩) | ⟨h1, h2, h3⟩)
      · exact Or.inl e
      · exact Or.inr (Or.inl e)
      · exact Or.inr (Or.inr ⟨v, by omega, h2⟩)
      · exact Or.inr (Or.inr ⟨w, by omega, h1, h2, h3⟩)
    · rintro (e | e | ⟨v, h1, h2, h3, h4⟩)
      · exact Or.inl (Or.inl e)
      · exact Or.inl (Or.inr (Or.inl e))
      · by_cases e : v = w
        · subst e; exact Or.inr ⟨h2, h3, h4⟩
        · exact Or.inl (Or.inr (Or.inr ⟨v, by omega, h2, h3, h4⟩))
def Sure (O : Nat → Bool) (C : Nat → Nat → Bool) (k t : Nat) : Prop := k = t ∨ ∀ u, u < 5 → fs t u < 96 → O (fs t u) = true → C k (fs t u) = true
def Win (O : Nat → Bool) (C : Nat → Nat → Bool) (k t : Nat) : Prop := ∃ v, v < 5 ∧ fs k v < 96 ∧ O (fs k v) = true ∧ Sure O C (fs k v) t
theorem nx_iff {O : Nat → Bool} {C : Nat → Nat → Bool} {k t : Nat} (hk : k < 96) (ht : t < 96) (hc : C k t = false) : nxB O C k t = true ↔ O k = true ∧ O t = true ∧ Win O C k t := by
  unfold nxB
  constructor
  · intro h
    by_cases ho : O k = true
    · rw [if_pos ho, jn_iff] at h
      have key : ∀ v, v < 5 → fs k v < 96 → O (fs k v) = true → trB O C (fs k v) t = true → O k = true ∧ O t = true ∧ Win O C k t := by
        intro v h1 h2 h3 h4
        rw [tr_iff ht] at h4
        rcases h4 with e | ⟨e1, e2⟩
        · exact ⟨ho, by rw [e]; exact h3, v, h1, h2, h3, Or.inl e.symm⟩
        · exact ⟨ho, e1, v, h1, h2, h3, Or.inr e2⟩
      rcases h with e | e | ⟨v, h1, h2, h3, h4⟩
      · rw [hc] at e; cases e
      · exact key 4 (by decide) (by simp [fs, hk]) (by simp [fs, ho]) (by simp only [fs, if_true]; exact e)
      · have e2 : fs k v = bes k v := by unfold fs; rw [if_neg (by omega)]
        exact key v (by omega) (by rw [e2]; exact h2) (by rw [e2]; exact h3) (by rw [e2]; exact h4)
    · rw [if_neg ho, hc] at h; cases h
  · rintro ⟨h1, h2, v, v1, v2, v3, v4⟩
    rw [if_pos h1, jn_iff]
    have tr : trB O C (fs k v) t = true := by
      rw [tr_iff ht]
      rcases v4 with e | e
      · exact Or.inl e.symm
      · exact Or.inr ⟨h2, e⟩
    by_cases e : v = 4
    · subst e
      simp only [fs, if_true] at tr
      exact Or.inr (Or.inl tr)
    · have e2 : fs k v = bes k v := by unfold fs; rw [if_neg e]
      rw [e2] at v2 v3 tr
      exact Or.inr (Or.inr ⟨v, by omega, v2, v3, tr⟩)
theorem four_Y {n k v : Nat} {M : Mem} (hk : k < 96) (hv : v < 5) : f12_fourOrStay n (nI k) (nI v) M = some (if fs k v < 96 then nI (fs k v) else -1, M) := by
  unfold f12_fourOrStay b12_fourOrStay_0 fs
  by_cases e : v = 4
  · subst e
    rw [if_pos (show nI 4 = (4 : Int32) from rfl), if_pos rfl, if_pos hk]
  · rw [if_neg (show ¬ nI v = (4 : Int32) from fun q => e ((nI_eq (b := 4) (by omega) (by decide)).mp q)), if_neg e, bnd_e (bes_Y hk (by omega))]
    rfl
/-- the reference's table against the sets -/
def TT (C : Nat → Nat → Bool) (M : Mem) : Prop := ∀ k t, k < 96 → t < 96 → (M.1 27 (96 * k + t) = -1 ↔ C k t = false)
theorem sure_loop {sq k t : Nat} {kd : Nat → Nat} {C : Nat → Nat → Bool} {M : Mem} (hk : k < 96) (ht : t < 96) (hT : TY sq kd M) (hS : TT C M) : ∀ (d v n : Nat), v + d = 5 → d < n → ∃ b : Bool, r12_isSure n 9 [nI k, nI t, nI v] [] M = some (if b = true then 1 else 0, M) ∧ (b = true ↔ ∀ u, v ≤ u → u < 5 → fs t u < 96 → opn sq kd (fs t u) = true → C k (fs t u) = true) := by
  intro d
  induction d with
  | zero =>
    intro v n h1 h2
    obtain ⟨n, rfl⟩ : ∃ n', n = n' + 1 := ⟨n - 1, by omega⟩
    have : v = 5 := by omega
    subst this
    rw [e12_isSure_9]
    unfold b12_isSure_9
    rw [if_pos (by decide)]
    exact ⟨true, rfl, fun _ u a b => by omega, fun _ => rfl⟩
  | succ d ih =>
    intro v n h1 h2
    obtain ⟨n, rfl⟩ : ∃ n', n = n' + 1 := ⟨n - 1, by omega⟩
    rw [e12_isSure_9]
    unfold b12_isSure_9 b12_isSure_55
    rw [if_neg (show ¬ (5 : Int32) ≤ nI v from nI_ge (b := 5) (by omega) (by decide)), bnd_e (four_Y ht (by omega))]
    obtain ⟨b, b1, b2⟩ := ih (v + 1) n (by omega) (by omega)
    have go : (fs t v < 96 → opn sq kd (fs t v) = true → C k (fs t v) = true) → ∃ b : Bool, (lt (nI v + (1 : Int32)) fun v13 => r12_isSure n 9 [nI k, nI t, v13] [] M) = some (if b = true then 1 else 0, M) ∧ (b = true ↔ ∀ u, v ≤ u → u < 5 → fs t u < 96 → opn sq kd (fs t u) = true → C k (fs t u) = true) := by
      intro hv
      rw [lt_v, nI_1]
      refine ⟨b, b1, b2.trans ⟨fun h u a1 a2 a3 a4 => ?_, fun h u a1 a2 a3 a4 => h u (by omega) a2 a3 a4⟩⟩
      by_cases e : u = v
      · subst e; exact hv a3 a4
      · exact h u (by omega) a2 a3 a4
    by_cases hb : fs t v < 96
    · rw [if_pos hb, if_neg (nI_m1 (by omega)), bnd_e (isOpen_Y hT hb)]
      by_cases ho : opn sq kd (fs t v) = true
      · rw [if_pos ho, if_neg (by decide), show (96 : Int32) * nI k + nI (fs t v) = nI (96 * k + fs t v) by rw [show (96 : Int32) = nI 96 from rfl, pk_mul, nI_add], chk_in (by omega) (by decide), nI_clamp (by omega)]
        have hs := hS k (fs t v) hk hb
        by_cases c : C k (fs t v) = true
        · rw [if_neg (fun e => by rw [hs.mp e] at c; cases c)]
          exact go (fun _ _ => c)
        · rw [if_pos (hs.mpr (ts_nt c))]
          exact ⟨false, rfl, (fun e => by cases e), fun h => absurd (h v (Nat.le_refl _) (by omega) hb ho) c⟩
      · rw [if_neg ho, if_pos rfl]
        exact go (fun _ e => absurd e ho)
    · rw [if_neg hb, if_pos rfl]
      exact go (fun e => absurd e hb)
theorem isSure_Y {sq n k t : Nat} {kd : Nat → Nat} {C : Nat → Nat → Bool} {M : Mem} (hn : 10 ≤ n) (hk : k < 96) (ht : t < 96) (hT : TY sq kd M) (hS : TT C M) : ∃ b : Bool, f12_isSure n (nI k) (nI t) M = some (if b = true then 1 else 0, M) ∧ (b = true ↔ Sure (opn sq kd) C k t) := by
  unfold f12_isSure b12_isSure_0 Sure
  by_cases e : k = t
  · rw [if_pos (by rw [e])]
    exact ⟨true, rfl, fun _ => Or.inl e, fun _ => rfl⟩
  · rw [if_neg (fun q => e ((nI_eq (by omega) (by omega)).mp q))]
    obtain ⟨b, b1, b2⟩ := sure_loop hk ht hT hS 5 0 (n + 1) (by omega) (by omega)
    rw [nI_0, e12_isSure_9] at b1
    refine ⟨b, b1, b2.trans ⟨fun h => Or.inr (fun u a => h u (Nat.zero_le _) a), fun h u _ a => (h.resolve_left e) u a⟩⟩
theorem wins_loop {sq k t : Nat} {kd : Nat → Nat} {C : Nat → Nat → Bool} {M : Mem} (hk : k < 96) (ht : t < 96) (hT : TY sq kd M) (hS : TT C M) : ∀ (d v n : Nat), v + d = 5 → d + 10 < n → ∃ b : Bool, r12_winsBy n 2 [nI k, nI t, nI v] [] M = some (if b = true then 1 else 0, M) ∧ (b = true ↔ ∃ u, v ≤ u ∧ u < 5 ∧ fs k u < 96 ∧ opn sq kd (fs k u) = true ∧ Sure (opn sq kd) C (fs k u) t) := by
  intro d
  induction d with
  | zero =>
    intro v n h1 h2
    obtain ⟨n, rfl⟩ : ∃ n', n = n' + 1 := ⟨n - 1, by omega⟩
    have : v = 5 := by omega
    subst this
    rw [e12_winsBy_2]
    unfold b12_winsBy_2
    rw [if_pos (by decide)]
    exact ⟨false, rfl, (fun e => by cases e), fun ⟨u, a, b, _⟩ => by omega⟩
  | succ d ih =>
    intro v n h1 h2
    obtain ⟨n, rfl⟩ : ∃ n', n = n' + 1 := ⟨n - 1, by omega⟩
    rw [e12_winsBy_2]
    unfold b12_winsBy_2 b12_winsBy_42
    rw [if_neg (show ¬ (5 : Int32) ≤ nI v from nI_ge (b := 5) (by omega) (by decide)), bnd_e (four_Y hk (by omega))]
    obtain ⟨b, b1, b2⟩ := ih (v + 1) n (by omega) (by omega)
    have go : ¬ (fs k v < 96 ∧ opn sq kd (fs k v) = true ∧ Sure (opn sq kd) C (fs k v) t) → ∃ b : Bool, (lt (nI v + (1 : Int32)) fun v14 => r12_winsBy n 2 [nI k, nI t, v14] [] M) = some (if b = true then 1 else 0, M) ∧ (b = true ↔ ∃ u, v ≤ u ∧ u < 5 ∧ fs k u < 96 ∧ opn sq kd (fs k u) = true ∧ Sure (opn sq kd) C (fs k u) t) := by
      intro hv
      rw [lt_v, nI_1]
      refine ⟨b, b1, b2.trans ⟨fun ⟨u, a1, a2, a3⟩ => ⟨u, by omega, a2, a3⟩, fun ⟨u, a1, a2, a3⟩ => ?_⟩⟩
      by_cases e : u = v
      · subst e; exact absurd a3 hv
      · exact ⟨u, by omega, a2, a3⟩
    by_cases hb : fs k v < 96
    · rw [if_pos hb, if_neg (nI_m1 (by omega)), bnd_e (isOpen_Y hT hb)]
      by_cases ho : opn sq kd (fs k v) = true
      · obtain ⟨s, s1, s2⟩ := isSure_Y (n := n) (by omega) hb ht hT hS
        rw [if_pos ho, if_neg (by decide), bnd_e s1]
        cases s with
        | true =>
          rw [if_pos rfl, if_neg (by decide)]
          exact ⟨true, rfl, fun _ => ⟨v, Nat.le_refl _, by omega, hb, ho, s2.mp rfl⟩, fun _ => rfl⟩
        | false =>
          rw [if_neg (show ¬ false = true by decide), if_pos rfl]
          exact go (fun h => by have := s2.mpr h.2.2; cases this)
      · rw [if_neg ho, if_pos rfl]
        exact go (fun h => ho h.2.1)
    · rw [if_neg hb, if_pos rfl]
      exact go (fun h => hb h.1)
theorem wins_Y {sq n k t : Nat} {kd : Nat → Nat} {C : Nat → Nat → Bool} {M : Mem} (hn : 20 ≤ n) (hk : k < 96) (ht : t < 96) (hT : TY sq kd M) (hS : TT C M) : ∃ b : Bool, f12_winsBy n (nI k) (nI t) M = some (if b = true then 1 else 0, M) ∧ (b = true ↔ Win (opn sq kd) C k t) := by
  obtain ⟨b, b1, b2⟩ := wins_loop hk ht hT hS 5 0 (n + 1) (by omega) (by omega)
  rw [nI_0, e12_winsBy_2] at b1
  exact ⟨b, b1, b2.trans ⟨fun ⟨u, _, h⟩ => ⟨u, h⟩, fun ⟨u, h⟩ => ⟨u, Nat.zero_le _, h⟩⟩⟩
/-- what is new -/
def nw (O : Nat → Bool) (C : Nat → Nat → Bool) (c : Nat) : Bool := !C (c / 96) (c % 96) && nxB O C (c / 96) (c % 96)
theorem new_loop {sq : Nat} {kd : Nat → Nat} {C : Nat → Nat → Bool} {k t mv : Int32} (T : Nat → Int32) (hTT : ∀ c, c < 9216 → (T c = -1 ↔ C (c / 96) (c % 96) = false)) : ∀ (d c n : Nat) (M : Mem), c + d = 9216 → d + 30 < n → TY sq kd M → (∀ c, c < 9216 → M.1 27 c = T c) → (∀ j, j < c → M.1 28 j = if nw (opn sq kd) C j = true then 1 else 0) → ∃ n' M', n' + d + 1 = n ∧ r12_chase n 102 [k, t, mv, nI c] [] M = b12_chase_183 (r12_chase n') n' k t mv 0 M' ∧ TY sq kd M' ∧ (∀ c, c < 9216 → M'.1 27 c = T c) ∧ ∀ j, j < 9216 → M'.1 28 j = if nw (opn sq kd) C j = true then 1 else 0 := by
  intro d
  induction d with
  | zero =>
    intro c n M h1 h2 hT h27 h28
    obtain ⟨n, rfl⟩ : ∃ n', n = n' + 1 := ⟨n - 1, by omega⟩
    have : c = 9216 := by omega
    subst this
    rw [e12_chase_102]
    unfold b12_chase_102
    rw [if_pos (by decide)]
    exact ⟨n, M, rfl, rfl, hT, h27, h28⟩
  | succ d ih =>
    intro c n M h1 h2 hT h27 h28
    obtain ⟨n, rfl⟩ : ∃ n', n = n' + 1 := ⟨n - 1, by omega⟩
    have hc : c < 9216 := by omega
    have hk : c / 96 < 96 := by omega
    have ht : c % 96 < 96 := by omega
    have hS : TT C M := fun a b ha hb => by
      rw [h27 _ (by omega), hTT _ (by omega), show (96 * a + b) / 96 = a by omega, show (96 * a + b) % 96 = b by omega]
    have put : ∀ v : Int32, v = (if nw (opn sq kd) C c = true then 1 else 0) → ∃ n' M', n' + (d + 1) + 1 = n + 1 ∧ (chk (inb (nI c) 9216) <| lt (wI M 28 (nI c).toNatClampNeg (vp_nar .boolean v)) fun M41 => lt (nI c + (1 : Int32)) fun v42 => r12_chase n 102 [k, t, mv, v42] [] M41) = b12_chase_183 (r12_chase n') n' k t mv 0 M' ∧ TY sq kd M' ∧ (∀ c, c < 9216 → M'.1 27 c = T c) ∧ ∀ j, j < 9216 → M'.1 28 j = if nw (opn sq kd) C j = true then 1 else 0 := by
      intro v hv
      rw [chk_in hc (by decide), lt_v, lt_v, nI_1, nI_clamp (by omega)]
      have e : vp_nar .boolean v = v := by
        rw [hv]
        cases nw (opn sq kd) C c <;> rfl
      rw [e]
      obtain ⟨n', M', a1, a2⟩ := ih (c + 1) n (wI M 28 c v) (by omega) (by omega) (hT.keep rfl rfl) (fun j hj => h27 j hj) (fun j hj => by
        rw [wI_at, if_pos rfl]
        by_cases e : j = c
        · rw [if_pos e, hv, e]
        · rw [if_neg e]; exact h28 j (by omega))
      exact ⟨n', M', by omega, a2⟩
    rw [e12_chase_102]
    unfold b12_chase_102 b12_chase_172 b12_chase_173
    rw [if_neg (show ¬ (9216 : Int32) ≤ nI c from nI_ge (b := 9216) (by omega) (by decide)), chk_in hc (by decide), show (nI c).toNatClampNeg = c from nI_clamp (by omega), h27 c hc]
    have put' := put
    rw [show (nI c).toNatClampNeg = c from nI_clamp (by omega)] at put'
    have d1 : nI c / (96 : Int32) = nI (c / 96) := pk_div (d := 96) (by omega) (by decide) (by decide)
    have d2 : nI c - nI c / (96 : Int32) * (96 : Int32) = nI (c % 96) := pk_rem (d := 96) (by omega) (by decide) (by decide)
    by_cases e : T c = -1
    · have hcf := (hTT c hc).mp e
      rw [if_pos e, d2, d1, bnd_e (isOpen_Y hT hk)]
      by_cases o1 : opn sq kd (c / 96) = true
      · rw [if_pos o1, if_neg (by decide), bnd_e (isOpen_Y hT ht)]
        by_cases o2 : opn sq kd (c % 96) = true
        · obtain ⟨b, b1, b2⟩ := wins_Y (n := n) (by omega) hk ht hT hS
          rw [if_pos o2, if_neg (by decide), bnd_e b1]
          have hni := nx_iff (O := opn sq kd) hk ht hcf
          cases b with
          | true =>
            rw [if_pos rfl, if_neg (by decide)]
            refine put' 1 ?_
            rw [if_pos]
            simp only [nw, hcf, Bool.not_false, Bool.true_and]
            exact hni.mpr ⟨o1, o2, b2.mp rfl⟩
          | false =>
            rw [if_neg (show ¬ false = true by decide), if_pos rfl]
            refine put' 0 ?_
            rw [if_neg]
            simp only [nw, hcf, Bool.not_false, Bool.true_and]
            intro hh
            have := b2.mpr (hni.mp hh).2.2
            cases this
        · rw [if_neg o2, if_pos rfl]
          refine put' 0 ?_
          rw [if_neg]
          simp only [nw, hcf, Bool.not_false, Bool.true_and]
          exact fun hh => o2 ((nx_iff (O := opn sq kd) hk ht hcf).mp hh).2.1
      · rw [if_neg o1, if_pos rfl]
        refine put' 0 ?_
        rw [if_neg]
        simp only [nw, hcf, Bool.not_false, Bool.true_and]
        exact fun hh => o1 ((nx_iff (O := opn sq kd) hk ht hcf).mp hh).1
    · rw [if_neg e]
      refine put' 0 ?_
      rw [if_neg]
      have : C (c / 96) (c % 96) = true := by
        cases h : C (c / 96) (c % 96) with
        | true => rfl
        | false => exact absurd ((hTT c hc).mpr h) e
      simp [nw, this]
theorem apply_loop {sq m : Nat} {kd : Nat → Nat} {N : Nat → Bool} {k t : Int32} (hm : m ≤ 60) (T : Nat → Int32) : ∀ (d c n : Nat) (M : Mem), c + d = 9216 → d < n → TY sq kd M → (∀ j, j < 9216 → M.1 27 j = if j < c ∧ N j = true then nI m else T j) → (∀ j, j < 9216 → M.1 28 j = if N j = true then 1 else 0) → ∃ n' M', n' + d + 1 = n ∧ r12_chase n 183 [k, t, nI m, nI c] [] M = r12_chase n' 78 [k, t, nI (m + 1)] [] M' ∧ TY sq kd M' ∧ ∀ j, j < 9216 → M'.1 27 j = if N j = true then nI m else T j := by
  intro d
  induction d with
  | zero =>
    intro c n M h1 h2 hT h27 h28
    obtain ⟨n, rfl⟩ : ∃ n', n = n' + 1 := ⟨n - 1, by omega⟩
    have : c = 9216 := by omega
    subst this
    rw [e12_chase_183]
    unfold b12_chase_183
    rw [if_pos (by decide), lt_v, nI_1]
    exact ⟨n, M, rfl, rfl, hT, fun j hj => by rw [h27 j hj]; simp only [hj, true_and]⟩
  | succ d ih =>
    intro c n M h1 h2 hT h27 h28
    obtain ⟨n, rfl⟩ : ∃ n', n = n' + 1 := ⟨n - 1, by omega⟩
    have hc : c < 9216 := by omega
    rw [e12_chase_183]
    unfold b12_chase_183 b12_chase_210
    rw [if_neg (show ¬ (9216 : Int32) ≤ nI c from nI_ge (b := 9216) (by omega) (by decide)), chk_in hc (by decide), nI_clamp (by omega), h28 c hc]
    by_cases e : N c = true
    · rw [if_pos e, if_neg (by decide), chk_in hc (by decide), lt_v, lt_v, nI_1, byte99 (by omega)]
      obtain ⟨n', M', a1, a2⟩ := ih (c + 1) n (wI M 27 c (nI m)) (by omega) (by omega) (hT.keep rfl rfl) (fun j hj => by
        rw [wI_at, if_pos rfl]
        by_cases e2 : j = c
        · rw [if_pos e2, if_pos ⟨by omega, by rw [e2]; exact e⟩]
        · rw [if_neg e2, h27 j hj]
          by_cases e3 : j < c
          · simp only [e3, show j < c + 1 by omega, true_and]
          · simp only [e3, show ¬ j < c + 1 by omega, false_and]) (fun j hj => h28 j hj)
      exact ⟨n', M', by omega, a2⟩
    · rw [if_neg e, if_pos rfl, lt_v, nI_1]
      obtain ⟨n', M', a1, a2⟩ := ih (c + 1) n M (by omega) (by omega) hT (fun j hj => by
        rw [h27 j hj]
        by_cases e2 : j = c
        · rw [e2, if_neg (fun q => e q.2), if_neg (fun q => e q.2)]
        · by_cases e3 : j < c
          · simp only [e3, show j < c + 1 by omega, true_and]
          · simp only [e3, show ¬ j < c + 1 by omega, false_and]) h28
      exact ⟨n', M', by omega, a2⟩
theorem chase_loop {sq k t : Nat} {kd : Nat → Nat} (hk : k < 96) (ht : t < 96) : ∀ (d m n : Nat) (M : Mem), m + d = 60 → 20000 * (d + 1) < n → TY sq kd M → (∀ c, c < 9216 → (M.1 27 c = -1 ↔ Cm (opn sq kd) m (c / 96) (c % 96) = false)) → (∀ j, j < m → Cm (opn sq kd) j k t = false) → (Cm (opn sq kd) m k t = true → M.1 27 (96 * k + t) = nI m) → ∃ r M', r12_chase n 78 [nI k, nI t, nI (m + 1)] [] M = some (r, M') ∧ AnsC (opn sq kd) k t r := by
  intro d
  induction d with
  | zero =>
    intro m n M h1 h2 hT h27 hj hkt
    obtain ⟨n, rfl⟩ : ∃ n', n = n' + 1 := ⟨n - 1, by omega⟩
    have : m = 60 := by omega
    subst this
    have hc := h27 (96 * k + t) (by omega)
    rw [show (96 * k + t) / 96 = k by omega, show (96 * k + t) % 96 = t by omega] at hc
    rw [e12_chase_78]
    unfold b12_chase_78 b12_chase_222
    rw [if_pos (by decide), show (96 : Int32) * nI k + nI t = nI (96 * k + t) by rw [show (96 : Int32) = nI 96 from rfl, pk_mul, nI_add], chk_in (by omega) (by decide), nI_clamp (by omega)]
    by_cases c : Cm (opn sq kd) 60 k t = true
    · rw [if_neg (fun e => by rw [hc.mp e] at c; cases c), chk_in (by omega) (by decide)]
      exact ⟨_, M, rfl, Or.inl ⟨60, by omega, c, hj, hkt c⟩⟩
    · rw [if_pos (hc.mpr (ts_nt c))]
      refine ⟨_, M, rfl, Or.inr ⟨rfl, fun j hj2 => ?_⟩⟩
      by_cases e : j = 60
      · rw [e]; exact ts_nt c
      · exact hj j (by omega)
  | succ d ih =>
    intro m n M h1 h2 hT h27 hj hkt
    obtain ⟨n, rfl⟩ : ∃ n', n = n' + 1 := ⟨n - 1, by omega⟩
    have hc := h27 (96 * k + t) (by omega)
    rw [show (96 * k + t) / 96 = k by omega, show (96 * k + t) % 96 = t by omega] at hc
    rw [e12_chase_78]
    unfold b12_chase_78 b12_chase_222
    rw [if_neg (show ¬ (60 : Int32) < nI (m + 1) from nI_nlt (a := 60) (by omega) (by decide)), show (96 : Int32) * nI k + nI t = nI (96 * k + t) by rw [show (96 : Int32) = nI 96 from rfl, pk_mul, nI_add], chk_in (by omega) (by decide), nI_clamp (by omega)]
    by_cases c : Cm (opn sq kd) m k t = true
    · have hne : ¬ M.1 27 (96 * k + t) = -1 := fun e => by rw [hc.mp e] at c; cases c
      rw [if_neg hne, chk_in (by omega) (by decide), if_neg hne, chk_in (by omega) (by decide)]
      exact ⟨_, M, rfl, Or.inl ⟨m, by omega, c, hj, hkt c⟩⟩
    · rw [if_pos (hc.mpr (ts_nt c))]
      obtain ⟨n1, M1, a1, a2, a3, a4, a5⟩ := new_loop (sq := sq) (kd := kd) (C := Cm (opn sq kd) m) (k := nI k) (t := nI t) (mv := nI (m + 1)) (M.1 27) h27 9216 0 (n + 1) M (by omega) (by omega) hT (fun _ _ => rfl) (fun j hj => by omega)
      rw [nI_0, e12_chase_102] at a2
      rw [a2, ← e12_chase_183, ← nI_0]
      obtain ⟨n2, M2, b1, b2, b3, b4⟩ := apply_loop (sq := sq) (kd := kd) (N := nw (opn sq kd) (Cm (opn sq kd) m)) (k := nI k) (t := nI t) (show m + 1 ≤ 60 by omega) (M.1 27) 9216 0 (n1 + 1) M1 (by omega) (by omega) a3 (fun j hj => by rw [a4 j hj, if_neg (fun e => Nat.not_lt_zero _ e.1)]) a5
      rw [b2]
      refine ih (m + 1) n2 M2 (by omega) (by omega) b3 (fun c' hc' => ?_) (fun j hj2 => ?_) (fun h => ?_)
      · rw [b4 c' hc']
        show _ ↔ nxB (opn sq kd) (Cm (opn sq kd) m) (c' / 96) (c' % 96) = false
        have h0 := h27 c' hc'
        by_cases e : nw (opn sq kd) (Cm (opn sq kd) m) c' = true
        · rw [if_pos e]
          simp only [nw, Bool.and_eq_true] at e
          rw [e.2]
          exact ⟨fun q => absurd q (nI_m1 (by omega)), fun q => by cases q⟩
        · rw [if_neg e, h0]
          cases hcm : Cm (opn sq kd) m (c' / 96) (c' % 96) with
          | true => rw [nxB_sub hcm]
          | false =>
            simp only [nw, hcm, Bool.not_false, Bool.true_and] at e
            rw [ts_nt e]
      · by_cases e : j = m
        · rw [e]; exact ts_nt c
        · exact hj j (by omega)
      · rw [b4 _ (by omega), if_pos]
        have h : nxB (opn sq kd) (Cm (opn sq kd) m) k t = true := h
        simp only [nw]
        rw [show (96 * k + t) / 96 = k by omega, show (96 * k + t) % 96 = t by omega, ts_nt c, h]
        rfl
theorem chase_fill {sq : Nat} {kd : Nat → Nat} {k t : Int32} : ∀ (d c n : Nat) (M : Mem), c + d = 9216 → d < n → TY sq kd M → (∀ j, j < c → M.1 27 j = if j / 96 = j % 96 then 0 else -1) → ∃ n' M', n' + d + 1 = n ∧ r12_chase n 40 [k, t, nI c] [] M = b12_chase_78 (r12_chase n') n' k t 1 M' ∧ TY sq kd M' ∧ ∀ j, j < 9216 → M'.1 27 j = if j / 96 = j % 96 then 0 else -1 := by
  intro d
  induction d with
  | zero =>
    intro c n M h1 h2 hT h27
    obtain ⟨n, rfl⟩ : ∃ n', n = n' + 1 := ⟨n - 1, by omega⟩
    have : c = 9216 := by omega
    subst this
    rw [e12_chase_40]
    unfold b12_chase_40
    rw [if_pos (by decide)]
    exact ⟨n, M, rfl, rfl, hT, h27⟩
  | succ d ih =>
    intro c n M h1 h2 hT h27
    obtain ⟨n, rfl⟩ : ∃ n', n = n' + 1 := ⟨n - 1, by omega⟩
    have hc : c < 9216 := by omega
    have d1 : nI c / (96 : Int32) = nI (c / 96) := pk_div (d := 96) (by omega) (by decide) (by decide)
    have d2 : nI c - nI c / (96 : Int32) * (96 : Int32) = nI (c % 96) := pk_rem (d := 96) (by omega) (by decide) (by decide)
    have go : ∀ v : Int32, v.toInt8.toInt32.toInt8.toInt32 = (if c / 96 = c % 96 then 0 else -1) → ∃ n' M', n' + (d + 1) + 1 = n + 1 ∧ b12_chase_68 (r12_chase n) n k t (nI c) (nI c) v M = b12_chase_78 (r12_chase n') n' k t 1 M' ∧ TY sq kd M' ∧ ∀ j, j < 9216 → M'.1 27 j = if j / 96 = j % 96 then 0 else -1 := by
      intro v hv
      unfold b12_chase_68
      rw [chk_in hc (by decide), lt_v, lt_v, nI_1, nI_clamp (by omega), hv]
      obtain ⟨n', M', a1, a2⟩ := ih (c + 1) n (wI M 27 c (if c / 96 = c % 96 then 0 else -1)) (by omega) (by omega) (hT.keep rfl rfl) (fun j hj => by
        rw [wI_at, if_pos rfl]
        by_cases e : j = c
        · rw [if_pos e, e]
        · rw [if_neg e]; exact h27 j (by omega))
      exact ⟨n', M', by omega, a2⟩
    rw [e12_chase_40]
    unfold b12_chase_40
    rw [if_neg (show ¬ (9216 : Int32) ≤ nI c from nI_ge (b := 9216) (by omega) (by decide)), d2, d1]
    by_cases e : c / 96 = c % 96
    · rw [if_pos (by rw [e])]
      exact go 0 (by rw [if_pos e]; decide)
    · rw [if_neg (fun q => e ((nI_eq (by omega) (by omega)).mp q))]
      exact go (-1) (by rw [if_neg e]; decide)
/-- PROMISE 20: chase -/
theorem st_chase {Lw : Mem → Mem → Prop} (hL : LwOk Lw) {FU : Nat} (hFU : 10000000 ≤ FU) (t : Nat) (Mx My : Mem) (a0 a1 : Int32) (ht : t < 3072) (h : Inv Lw t Mx My) : ∃ (r : Int32) (Mx' My' : Mem), f11_chase FU a0 a1 Mx = some (r, Mx') ∧ f12_chase FU a0 a1 My = some (r, My') ∧ Inv Lw (t + 6) Mx' My' := by
  have h0 := h
  obtain ⟨⟨⟨sq, kd, dr, h1⟩, h2⟩, h3, h4, h5⟩ := h
  -- a place as a number
  have place : ∀ a : Int32, ((a < 0 ∨ 95 < a) ∧ f8_isOpen FU a Mx = some (0, Mx)) ∨ ∃ p, p < 96 ∧ a = nI p ∧ ¬ (a < 0 ∨ 95 < a) := by
    intro a
    by_cases c1 : a < 0
    · refine Or.inl ⟨Or.inl c1, ?_⟩
      unfold f8_isOpen b8_isOpen_0 f8_kindOf b8_kindOf_0 b8_kindOf_10
      rw [if_pos c1, bnd_s', if_neg (by decide)]
    · obtain ⟨p, hp, rfl⟩ := nI_of c1
      by_cases c2 : p < 96
      · exact Or.inr ⟨p, c2, rfl, fun e => e.elim c1 (nI_nlt (a := 95) (by omega) (by decide))⟩
      · exact Or.inl ⟨Or.inr (nI_lt (a := 95) (by omega) hp), isOpen_big (by omega) hp⟩
  rcases place a0 with ⟨c0, x0⟩ | ⟨k, hk, rfl, c0⟩
  · refine ⟨-1, Mx, My, ?_, ?_, h0.same hL⟩
    · unfold f11_chase b11_chase_0 b11_chase_22
      rw [bnd_e x0, if_pos rfl]
    · unfold f12_chase b12_chase_0 b12_chase_36
      rw [in_e, bnd_s', if_pos c0, if_pos rfl]
  · rcases place a1 with ⟨c1, x1⟩ | ⟨th, hth, rfl, c1⟩
    · refine ⟨-1, Mx, My, ?_, ?_, h0.same hL⟩
      · unfold f11_chase b11_chase_0 b11_chase_22
        rw [bnd_e (isOpen_X h1.1 hk)]
        by_cases o : opn sq kd k = true
        · rw [if_pos o, if_neg (by decide), bnd_e x1, if_pos rfl]
        · rw [if_neg o, if_pos rfl]
      · unfold f12_chase b12_chase_0 b12_chase_36
        rw [in_e, bnd_s', if_neg c0, if_neg (by decide), in_e, bnd_s', if_pos c1, if_pos rfl]
    · by_cases o : opn sq kd k = true ∧ opn sq kd th = true
      · obtain ⟨r, X', x, rx, px⟩ := catch_X (n := FU) (by omega) hk hth h1.1 h1.2.2.1.1
        obtain ⟨n1, Y1, b1, b2, b3, b4⟩ := chase_fill (sq := sq) (kd := kd) (k := nI k) (t := nI th) 9216 0 (FU + 1) My (by omega) (by omega) h1.2.1.1 (fun j hj => by omega)
        rw [nI_0, e12_chase_40] at b2
        obtain ⟨r', Y', y, ry⟩ := chase_loop (sq := sq) (kd := kd) hk hth 60 0 (n1 + 1) Y1 (by omega) (by omega) b3 (fun c hc => by
          rw [b4 c hc]
          show _ ↔ decide (c % 96 = c / 96) = false
          by_cases e : c / 96 = c % 96
          · rw [if_pos e]; simp [e]
          · rw [if_neg e]; simp; exact fun q => e q.symm) (fun j hj => by omega) (fun h => by
          rw [b4 _ (by omega), if_pos]
          · rfl
          · have h : decide (th = k) = true := h
            simp only [decide_eq_true_eq] at h
            omega)
        rw [show nI (0 + 1) = 1 from rfl, e12_chase_78] at y
        have e := rx.one ry
        subst e
        have x : f11_chase FU (nI k) (nI th) Mx = some (r, X') := by
          unfold f11_chase b11_chase_0
          rw [bnd_e (isOpen_X h1.1 hk), if_pos o.1, if_neg (by decide), bnd_e (isOpen_X h1.1 hth), if_pos o.2, if_neg (by decide), bnd_e x]
        have y : f12_chase FU (nI k) (nI th) My = some (r, Y') := by
          unfold f12_chase b12_chase_0
          rw [in_e, bnd_s', if_neg c0, if_neg (by decide), in_e, bnd_s', if_neg c1, if_neg (by decide), bnd_e (isOpen_Y h1.2.1.1 hk), if_pos o.1, if_neg (by decide), bnd_e (isOpen_Y h1.2.1.1 hth), if_pos o.2, if_neg (by decide), b2]
          exact y
        have fx := fr11_chase x
        have fy := fr12_chase y
        have qy := fq12_chase y
        refine ⟨r, X', Y', x, y, Inv.ask hL h1 h2 (h3.keep (by rw [(fx 1 (by decide) (fun _ => by decide)).1]) (fx 2 (by decide) (fun _ => by decide)).1 (qy 0 11 (by decide) (by decide)) (fy 8 (by decide) (fun e => by cases e)).1) h4 h5 (QXt.of fx (by decide)) px (QXr.of fx (by decide)) (QY.of fy qy (by decide) (by decide)) ?_ (fy 5 (by decide) (fun e => by cases e)).1⟩
        refine ⟨h1.2.1.1.keep (by rw [(fy 0 (by decide) (fun e => by cases e)).1]) (fy 4 (by decide) (fun e => by cases e)).1, ?_⟩
        unfold LY LD
        rw [(fy 0 (by decide) (fun e => by cases e)).1, (fy 6 (by decide) (fun e => by cases e)).1]
        exact h1.2.1.2
      · refine ⟨-1, Mx, My, ?_, ?_, h0.same hL⟩
        · unfold f11_chase b11_chase_0 b11_chase_22
          rw [bnd_e (isOpen_X h1.1 hk)]
          by_cases o1 : opn sq kd k = true
          · have o2 : ¬ opn sq kd th = true := fun e => o ⟨o1, e⟩
            rw [if_pos o1, if_neg (by decide), bnd_e (isOpen_X h1.1 hth), if_neg o2, if_pos rfl]
          · rw [if_neg o1, if_pos rfl]
        · unfold f12_chase b12_chase_0 b12_chase_36
          rw [in_e, bnd_s', if_neg c0, if_neg (by decide), in_e, bnd_s', if_neg c1, if_neg (by decide), bnd_e (isOpen_Y h1.2.1.1 hk)]
          by_cases o1 : opn sq kd k = true
          · have o2 : ¬ opn sq kd th = true := fun e => o ⟨o1, e⟩
            rw [if_pos o1, if_neg (by decide), bnd_e (isOpen_Y h1.2.1.1 hth), if_neg o2, if_pos rfl]
          · rw [if_neg o1, if_pos rfl]
