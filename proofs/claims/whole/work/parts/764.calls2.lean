/-! CALLS: both side by side -/
theorem lg_ge (a b : Int64) : 0 ≤ lg_cmp a b ↔ ¬ a < b := by
  unfold lg_cmp
  by_cases h : a < b
  · rw [if_neg (show ¬ a > b from Int64.lt_asymm h), if_neg (fun e => by rw [e] at h; exact Int64.lt_irrefl h)]
    exact ⟨fun e => absurd e (by decide), fun e => absurd h e⟩
  · by_cases g : a > b
    · rw [if_pos g]
      exact ⟨fun _ => h, fun _ => by decide⟩
    · rw [if_neg g, if_pos (Int64.le_antisymm (Int64.not_lt.mp g) (Int64.not_lt.mp h))]
      exact ⟨fun _ => h, fun _ => by decide⟩
def RC (many C R : Nat) (X Y : Mem) : Prop := X.1 326 5 = nI many ∧ X.2 326 6 = lN (C * 1000000000 + R) ∧ Y.1 0 45 = nI many ∧ Y.1 0 46 = nI C ∧ ∀ i, i < many → Y.1 25 i = nI (dg many R i)
theorem may_Y {sq n set m C R0 f : Nat} {kd dr : Nat → Nat} {M : Mem} (hn : 200000 ≤ n) (hs : set < 512) (hp : pcn set = m) (hC : csN (bw (opn sq kd) sq dr) m set 0 = C) (hc : C < 99) (hY : YT sq kd M) (hD : DY dr M) (hB : BY (bw (opn sq kd) sq dr) 512 M) (h45 : M.1 0 45 = nI m) (h46 : M.1 0 46 = nI C) (hf : f = 0 ∨ f = 1) (hR0 : R0 < 10 ^ m) (hdg : f = 0 → ∀ i, i < m → M.1 25 i = nI (dg m R0 i)) : ∃ M', f12_mayBeRow n (nI set) (nI f) M = some ((), M') ∧ Sr M M' ∧ YT sq kd M' ∧ ∀ i, i < m → M'.1 25 i = nI (dg m (pick f (rwN (bw (opn sq kd) sq dr) m set 0) R0) i) := by
  have hm : m ≤ 9 := by rw [← hp]; exact pcn_le set
  obtain ⟨M', r1, r2, r3, r4, r5⟩ := row_loop (sq := sq) (kd := kd) (dr := dr) hm m set 0 0 f R0 (n + 1) M hp hs (by decide) (by omega) (by omega) (by omega) hY hD hB h45 hf hR0 (fun e i hi => by rw [Nat.zero_add]; exact hdg e i hi)
  rw [nI_0, e12_mayBeRow_17, hC] at r1
  refine ⟨M', ?_, r2, r3, fun i hi => by have := r5 i hi; rw [Nat.zero_add] at this; exact this⟩
  unfold f12_mayBeRow b12_mayBeRow_0
  rw [lt_v, h46]
  exact r1
theorem sel_loop {sq mi : Nat} {kd dr : Nat → Nat} (hmi : mi ≤ 60) : ∀ (d set nX nY many C R : Nat) (X Y : Mem), set + d = 512 → 1 ≤ set → d + 100 < nX → d + 300000 < nY → DX dr X → RT (bw (opn sq kd) sq dr) dr 512 X → YT sq kd Y → DY dr Y → BY (bw (opn sq kd) sq dr) 512 Y → RC many C R X Y → many ≤ 9 → C ≤ 60 → R < 10 ^ many → ∃ many' C' R' X' Y', r5_choose nX 61 [nI mi, nI set] [] X = some ((), X') ∧ r12_laysCalls nY 16 [nI mi, nI set] [] Y = some ((), Y') ∧ YT sq kd Y' ∧ RC many' C' R' X' Y' ∧ many' ≤ 9 ∧ C' ≤ 60 ∧ R' < 10 ^ many' ∧ X'.1 326 4 = X.1 326 4 ∧ X'.2 327 = X.2 327 := by
  have hw : ∀ a b, bw (opn sq kd) sq dr a b ≤ 99 := bw_le
  intro d
  induction d with
  | zero =>
    intro set nX nY many C R X Y h1 h0 h2 h2' hD hR hY hDy hB hRC hm hC hRR
    obtain ⟨nX, rfl⟩ : ∃ n', nX = n' + 1 := ⟨nX - 1, by omega⟩
    obtain ⟨nY, rfl⟩ : ∃ n', nY = n' + 1 := ⟨nY - 1, by omega⟩
    have : set = 512 := by omega
    subst this
    rw [e5_choose_61, e12_laysCalls_16]
    unfold b5_choose_61 b12_laysCalls_16
    rw [if_pos (by decide), if_pos (by decide)]
    exact ⟨many, C, R, X, Y, rfl, rfl, hY, hRC, hm, hC, hRR, rfl, rfl⟩
  | succ d ih =>
    intro set nX nY many C R X Y h1 h0 h2 h2' hD hR hY hDy hB hRC hm hC hRR
    obtain ⟨nX, rfl⟩ : ∃ n', nX = n' + 1 := ⟨nX - 1, by omega⟩
    obtain ⟨nY, rfl⟩ : ∃ n', nY = n' + 1 := ⟨nY - 1, by omega⟩
    have hs : set < 512 := by omega
    have hpl := pcn_le set
    obtain ⟨m, hp⟩ : ∃ m, pcn set = m + 1 := ⟨pcn set - 1, by
      have : pcn set ≠ 0 := fun e => by have := pcn0 hs e; omega
      omega⟩
    obtain ⟨Y1, y1, y2, y3⟩ := round_Y (n := nY) (by omega) hs hp hY hDy hB
    have hD1 := y2.dy hDy
    have hB1 : BY (bw (opn sq kd) sq dr) 512 Y1 := fun s h k h2 => by rw [(y2.1 24 (by decide)).1]; exact hB s h k h2
    have hyl := yv_le hw (pcn set) set 0
    have hRC1 : RC many C R X Y1 := ⟨hRC.1, hRC.2.1, by rw [y2.2 45 (by decide)]; exact hRC.2.2.1, by rw [y2.2 46 (by decide)]; exact hRC.2.2.2.1, fun i hi => by rw [(y2.1 25 (by decide)).1]; exact hRC.2.2.2.2 i hi⟩
    have hbits : ∀ {n : Nat} {M : Mem}, 50 ≤ n → f12_bits n (nI set) M = some (nI (pcn set), M) := fun hn => by
      rw [bits_Y hn (by omega), show (24 : Nat) = 9 + 15 from rfl, pcn_bits hs]
    -- nothing changes
    have stay : ∃ many' C' R' X' Y', r5_choose nX 61 [nI mi, nI (set + 1)] [] X = some ((), X') ∧ r12_laysCalls nY 16 [nI mi, nI (set + 1)] [] Y1 = some ((), Y') ∧ YT sq kd Y' ∧ RC many' C' R' X' Y' ∧ many' ≤ 9 ∧ C' ≤ 60 ∧ R' < 10 ^ many' ∧ X'.1 326 4 = X.1 326 4 ∧ X'.2 327 = X.2 327 := ih (set + 1) nX nY many C R X Y1 (by omega) (by omega) (by omega) (by omega) hD hR y3 hD1 hB1 hRC1 hm hC hRR
    rw [e5_choose_61, e12_laysCalls_16]
    unfold b5_choose_61 b12_laysCalls_16 b5_choose_111 b5_choose_115 b12_laysCalls_113
    rw [if_neg (show ¬ (512 : Int32) ≤ nI set from nI_ge (b := 512) (by omega) (by decide)), if_neg (show ¬ (512 : Int32) ≤ nI set from nI_ge (b := 512) (by omega) (by decide)), bnd_e y1, show nI set * (10 : Int32) = nI (10 * set) by rw [show (10 : Int32) = nI 10 from rfl, pk_mul, Nat.mul_comm], chk_in (by omega) (by decide), lt_v, nI_clamp (by omega), bnd_e (count_X hs), hRC.1]
    by_cases ht : tld dr set
    · -- told
      have hrow : X.2 327 (10 * set) = lN (bvN (bw (opn sq kd) sq dr) (pcn set) set 0) := by
        have := hR set hs ht 0 (by decide)
        rw [Nat.add_zero] at this
        exact this
      obtain ⟨v1, v2, v3⟩ := bv_split hw (a := 0) hs (rfl : pcn set = pcn set)
      have hyc := yv_cs hw (pcn set) set 0 hs rfl
      rw [hrow, hRC.2.1]
      generalize hV : bvN (bw (opn sq kd) sq dr) (pcn set) set 0 = V at *
      generalize hC' : csN (bw (opn sq kd) sq dr) (pcn set) set 0 = C' at *
      generalize hR' : rwN (bw (opn sq kd) sq dr) (pcn set) set 0 = R' at *
      generalize hY' : yv (bw (opn sq kd) sq dr) (pcn set) set 0 = S at *
      have hpow : 10 ^ many ≤ 1000000000 := Nat.le_trans (Nat.pow_le_pow_right (by decide) hm) (by decide)
      have hpow2 : 10 ^ pcn set ≤ 1000000000 := Nat.le_trans (Nat.pow_le_pow_right (by decide) hpl) (by decide)
      have tl : ∀ {s0 : Int32}, b5_choose_116 (r5_choose nX) nX (nI mi) (nI set) (nI (pcn set)) s0 (lN V) X = if s0 = 0 then (lt (nI set + (1 : Int32)) fun v30 => r5_choose nX 61 [nI mi, v30] [] X) else if C' ≤ mi then (lt (nI set + (1 : Int32)) fun v30 => r5_choose nX 61 [nI mi, v30] [] (wJ (wI X 326 5 (nI (pcn set))) 326 6 (lN V))) else (lt (nI set + (1 : Int32)) fun v30 => r5_choose nX 61 [nI mi, v30] [] X) := by
        intro s0
        unfold b5_choose_116 b5_choose_155
        rw [bnd_e (told_t hD hs ht), if_neg (by decide)]
        by_cases q : s0 = 0
        · rw [if_pos q, if_pos q]
        · rw [if_neg q, if_neg q, nI_1, nI_l (by omega), show (1000000000 : Int64) = lN 1000000000 from rfl, lN_mul]
          by_cases q2 : C' ≤ mi
          · rw [if_pos q2, if_neg, lt_v, lt_v]
            rw [lg_ge]
            exact fun e => e ((pk_lLT (by omega) (by omega)).mpr (by omega))
          · rw [if_neg q2, if_pos]
            rw [lg_ge]
            exact fun e => by rw [pk_lLT (by omega) (by omega)] at e; omega
      rw [tl, tl]
      rw [if_neg (show ¬ (1 : Int32) = 0 by decide), if_pos rfl]
      simp only [lt_v, nI_1]
      by_cases c1 : C' ≤ mi
      · have hS : S = C' := hyc (Or.inl (by omega))
        subst hS
        rw [if_pos c1, if_neg (nI_nlt c1 (by omega)), bnd_e (hbits (by omega)), hRC1.2.2.1]
        -- the new row
        have better : ∀ (f R0 : Nat), (f = 0 ∨ f = 1) → R0 < 10 ^ pcn set → (f = 0 → ∀ i, i < pcn set → Y1.1 25 i = nI (dg (pcn set) R0 i)) → ∃ Y2, b12_laysCalls_91 (r12_laysCalls nY) nY (nI mi) (nI set) (nI S) (nI f) Y1 = r12_laysCalls nY 16 [nI mi, nI (set + 1)] [] Y2 ∧ YT sq kd Y2 ∧ DY dr Y2 ∧ BY (bw (opn sq kd) sq dr) 512 Y2 ∧ Y2.1 0 45 = nI (pcn set) ∧ Y2.1 0 46 = nI S ∧ ∀ i, i < pcn set → Y2.1 25 i = nI (dg (pcn set) (pick f R' R0) i) := by
          intro f R0 hf h1 h2
          have hYw : YT sq kd (wI (wI Y1 0 45 (nI (pcn set))) 0 46 (nI S)) := ⟨y3.1.keep rfl rfl, y3.2⟩
          obtain ⟨Y2, z1, z2, z3, z4⟩ := may_Y (n := nY) (f := f) (R0 := R0) (by omega) hs rfl hC' (by omega) hYw (fun k a b => hD1 k a b) (fun s h k h2 => hB1 s h k h2) rfl rfl hf h1 (fun e i hi => h2 e i hi)
          refine ⟨Y2, ?_, z3, fun k a b => by rw [z2.1 5 (by decide)]; exact hD1 k a b, fun s h k h2 => by rw [z2.1 24 (by decide)]; exact hB1 s h k h2, by rw [z2.2 45 (by decide)]; rfl, by rw [z2.2 46 (by decide)]; rfl, ?_⟩
          · unfold b12_laysCalls_91 b12_laysCalls_113
            rw [bnd_e (hbits (by omega)), lt_v, lt_v, bnd_e z1, lt_v, nI_1]
          · rw [hR'] at z4; exact z4
        have goNew : ∀ Y2 : Mem, YT sq kd Y2 → DY dr Y2 → BY (bw (opn sq kd) sq dr) 512 Y2 → Y2.1 0 45 = nI (pcn set) → Y2.1 0 46 = nI S → (∀ i, i < pcn set → Y2.1 25 i = nI (dg (pcn set) R' i)) → ∃ many' C' R' X' Y', r5_choose nX 61 [nI mi, nI (set + 1)] [] (wJ (wI X 326 5 (nI (pcn set))) 326 6 (lN V)) = some ((), X') ∧ r12_laysCalls nY 16 [nI mi, nI (set + 1)] [] Y2 = some ((), Y') ∧ YT sq kd Y' ∧ RC many' C' R' X' Y' ∧ many' ≤ 9 ∧ C' ≤ 60 ∧ R' < 10 ^ many' ∧ X'.1 326 4 = X.1 326 4 ∧ X'.2 327 = X.2 327 := by
          intro Y2 a1 a2 a3 a4 a5 a6
          exact ih (set + 1) nX nY (pcn set) S R' (wJ (wI X 326 5 (nI (pcn set))) 326 6 (lN V)) Y2 (by omega) (by omega) (by omega) (by omega) (hD.keep rfl rfl) (fun s h1 h2 a ha => hR s h1 h2 a ha) a1 a2 a3 ⟨rfl, by rw [wJ_at, if_pos rfl, if_pos rfl, v1], a4, a5, a6⟩ hpl (by omega) v2
        have goOld : ∀ Y2 : Mem, YT sq kd Y2 → DY dr Y2 → BY (bw (opn sq kd) sq dr) 512 Y2 → Y2.1 0 45 = nI many → Y2.1 0 46 = nI C → (∀ i, i < many → Y2.1 25 i = nI (dg many R i)) → ∃ many' C' R' X' Y', r5_choose nX 61 [nI mi, nI (set + 1)] [] X = some ((), X') ∧ r12_laysCalls nY 16 [nI mi, nI (set + 1)] [] Y2 = some ((), Y') ∧ YT sq kd Y' ∧ RC many' C' R' X' Y' ∧ many' ≤ 9 ∧ C' ≤ 60 ∧ R' < 10 ^ many' ∧ X'.1 326 4 = X.1 326 4 ∧ X'.2 327 = X.2 327 := by
          intro Y2 a1 a2 a3 a4 a5 a6
          exact ih (set + 1) nX nY many C R X Y2 (by omega) (by omega) (by omega) (by omega) hD hR a1 a2 a3 ⟨hRC.1, hRC.2.1, a4, a5, a6⟩ hm hC hRR
        unfold b12_laysCalls_67 b12_laysCalls_86
        simp only [bnd_e (hbits (show 50 ≤ nY by omega)), hRC1.2.2.1, hRC1.2.2.2.1]
        rcases Nat.lt_trichotomy (pcn set) many with c2 | c2 | c2
        · -- fewer doors
          rw [if_neg (nI_nlt (by omega) (by omega)), if_neg (fun e => by rw [nI_eq (by omega) (by omega)] at e; omega), if_pos (nI_lt c2 (by omega))]
          exact stay
        · -- as many
          rw [if_neg (show ¬ nI many < nI (pcn set) by rw [c2]; exact Int32.lt_irrefl), if_pos (show nI (pcn set) = nI many by rw [c2]), if_neg (show ¬ nI (pcn set) < nI many by rw [c2]; exact Int32.lt_irrefl), if_pos (show nI (pcn set) = nI many by rw [c2]), if_neg (show ¬ nI many < nI (pcn set) by rw [c2]; exact Int32.lt_irrefl)]
          rcases Nat.lt_trichotomy S C with c3 | c3 | c3
          · rw [if_neg (show ¬ 0 ≤ lg_cmp (lN V) (lN (C * 1000000000 + R)) by
              rw [lg_ge]
              exact fun e => e ((pk_lLT (by omega) (by omega)).mpr (by omega))), if_pos (nI_le (by omega) (by omega)), if_neg (nI_ge c3 (by omega))]
            obtain ⟨Y2, z1, z2, z3, z4, z5, z6, z7⟩ := better 1 0 (Or.inr rfl) (Nat.pow_pos (by decide)) (fun e => by cases e)
            rw [show (1 : Int32) = nI 1 from rfl, z1]
            exact goNew Y2 z2 z3 z4 z5 z6 (fun i hi => by have := z7 i hi; unfold pick at this; rw [if_pos (Or.inl rfl)] at this; exact this)
          · rw [if_pos (show nI S ≤ nI C by rw [c3]; exact Int32.le_refl _), if_pos (show nI C ≤ nI S by rw [c3]; exact Int32.le_refl _)]
            obtain ⟨Y2, z1, z2, z3, z4, z5, z6, z7⟩ := better 0 R (Or.inl rfl) (by rw [c2]; exact hRR) (fun _ i hi => by rw [c2]; exact hRC1.2.2.2.2 i (by omega))
            rw [show b12_laysCalls_91 (r12_laysCalls nY) nY (nI mi) (nI set) (nI S) 0 Y1 = r12_laysCalls nY 16 [nI mi, nI (set + 1)] [] Y2 from z1]
            by_cases c4 : R' < R
            · rw [if_neg (show ¬ 0 ≤ lg_cmp (lN V) (lN (C * 1000000000 + R)) by
                rw [lg_ge]
                exact fun e => e ((pk_lLT (by omega) (by omega)).mpr (by omega)))]
              exact goNew Y2 z2 z3 z4 z5 z6 (fun i hi => by have := z7 i hi; unfold pick at this; rw [if_pos (Or.inr c4)] at this; exact this)
            · rw [if_pos (show 0 ≤ lg_cmp (lN V) (lN (C * 1000000000 + R)) by
                rw [lg_ge]
                exact fun e => by rw [pk_lLT (by omega) (by omega)] at e; omega)]
              exact goOld Y2 z2 z3 z4 (by rw [z5, c2]) (by rw [z6, c3]) (fun i hi => by
                have := z7 i (by omega)
                unfold pick at this
                rw [if_neg (fun e => by rcases e with e | e <;> omega), c2] at this
                exact this)
          · rw [if_pos (show 0 ≤ lg_cmp (lN V) (lN (C * 1000000000 + R)) by
              rw [lg_ge]
              exact fun e => by rw [pk_lLT (by omega) (by omega)] at e; omega), if_neg (nI_ge c3 (by omega))]
            exact stay
        · -- more doors
          rw [if_pos (nI_lt c2 (by omega)), if_neg (nI_nlt (by omega) (by omega)), if_neg (fun e => by rw [nI_eq (by omega) (by omega)] at e; omega), if_pos (nI_lt c2 (by omega))]
          obtain ⟨Y2, z1, z2, z3, z4, z5, z6, z7⟩ := better 1 0 (Or.inr rfl) (Nat.pow_pos (by decide)) (fun e => by cases e)
          rw [show (1 : Int32) = nI 1 from rfl, z1]
          exact goNew Y2 z2 z3 z4 z5 z6 (fun i hi => by have := z7 i hi; unfold pick at this; rw [if_pos (Or.inl rfl)] at this; exact this)
      · have hS : mi < S := by
          refine Nat.lt_of_not_le fun e => c1 ?_
          have := hyc (Or.inr (by omega))
          omega
        rw [if_neg c1, if_pos (nI_lt hS (by omega))]
        have e : ∀ (p q r : Prop) [Decidable p] [Decidable q] [Decidable r] (x : Option (Unit × Mem)), (if p then x else if q then (if r then x else x) else x) = x := fun p q r _ _ _ x => by
          split
          · rfl
          · split
            · split <;> rfl
            · rfl
        rw [e]
        exact stay
    · -- not told
      have hno : ∃ j, j < 9 ∧ set.testBit j = true ∧ ¬ dr (j + 1) < 96 := by
        refine Classical.byContradiction fun hn => ht fun j hj hb => Classical.byContradiction fun hd => hn ⟨j, hj, hb, hd⟩
      obtain ⟨j, hj, hb, hd⟩ := hno
      have h99 := untold_cs hw hj (fun a => by
        unfold bw
        rw [if_neg (fun e => hd e.2)]) (pcn set) set 0 hs rfl hb
      have hS : mi < yv (bw (opn sq kd) sq dr) (pcn set) set 0 := by
        refine Nat.lt_of_not_le fun e => ?_
        have := yv_cs hw (pcn set) set 0 hs rfl (Or.inr (by omega))
        omega
      have tl : ∀ {s0 : Int32} {v : Int64}, b5_choose_116 (r5_choose nX) nX (nI mi) (nI set) (nI (pcn set)) s0 v X = r5_choose nX 61 [nI mi, nI (set + 1)] [] X := by
        intro s0 v
        unfold b5_choose_116 b5_choose_155
        rw [bnd_e (told_f hD hs ht), if_pos rfl, lt_v, nI_1]
      rw [tl, tl, if_pos (nI_lt hS (by omega)), lt_v, nI_1]
      have e : ∀ (p q r : Prop) [Decidable p] [Decidable q] [Decidable r] (x : Option (Unit × Mem)), (if p then x else if q then (if r then x else x) else x) = x := fun p q r _ _ _ x => by
        split
        · rfl
        · split
          · split <;> rfl
          · rfl
      rw [e]
      exact stay
/-- PROMISE 17: calls -/
theorem st_calls {Lw : Mem → Mem → Prop} (hL : LwOk Lw) {FU : Nat} (hFU : 10000000 ≤ FU) (t : Nat) (Mx My : Mem) (a0 a1 : Int32) (ht : t < 3072) (h : Inv Lw t Mx My) : ∃ (r : Int32) (Mx' My' : Mem), f11_calls FU a0 a1 Mx = some (r, Mx') ∧ f12_calls FU a0 a1 My = some (r, My') ∧ Inv Lw (t + 6) Mx' My' := by
  have h0 := h
  obtain ⟨⟨⟨sq, kd, dr, h1⟩, h2⟩, h3, h4, h5⟩ := h
  have z8 : (9 : Int32) ≤ a1 ↔ 8 < a1 := by
    simp only [fa_lt, fa_le, lt_lit (show 9 < 2 ^ 31 by decide), lt_lit (show 8 < 2 ^ 31 by decide)]
    omega
  have z100 : ¬ (a1 < 100 ∨ 101 < a1) ↔ (a1 = 100 ∨ a1 = 101) := by
    simp only [fa_lt, fa_eq, lt_lit (show 100 < 2 ^ 31 by decide), lt_lit (show 101 < 2 ^ 31 by decide)]
    omega
  have fold : f11_calls FU a0 a1 Mx = if a0 < 1 then some (-1, Mx) else if 60 < a0 then some (-1, Mx) else if (a1 < 0 ∨ 8 < a1) ∧ ¬ (a1 = 100 ∨ a1 = 101) then some (-1, Mx) else b11_calls_45 (fun _ _ _ _ => none) FU a0 a1 Mx := by
    unfold f11_calls b11_calls_0 b11_calls_14 b11_calls_15 b11_calls_43
    by_cases g1 : a0 < 1
    · simp only [if_pos g1]
      split
      · rfl
      · split <;> rfl
    · simp only [if_neg g1]
      by_cases g2 : 60 < a0
      · simp only [if_pos g2]
        split
        · rfl
        · split <;> rfl
      · simp only [if_neg g2]
        by_cases g3 : a1 < 0 ∨ 8 < a1
        · rw [if_pos trivial]
          have e : (if a1 = 100 then b11_calls_45 (fun _ _ _ _ => none) FU a0 a1 Mx else if a1 = 101 then b11_calls_45 (fun _ _ _ _ => none) FU a0 a1 Mx else some (-1, Mx)) = if (a1 < 0 ∨ 8 < a1) ∧ ¬ (a1 = 100 ∨ a1 = 101) then some (-1, Mx) else b11_calls_45 (fun _ _ _ _ => none) FU a0 a1 Mx := by
            by_cases q1 : a1 = 100
            · rw [if_pos q1, if_neg (fun e => e.2 (Or.inl q1))]
            · rw [if_neg q1]
              by_cases q2 : a1 = 101
              · rw [if_pos q2, if_neg (fun e => e.2 (Or.inr q2))]
              · rw [if_neg q2, if_pos ⟨g3, fun e => e.elim q1 q2⟩]
          rw [← e]
          rcases g3 with g3 | g3
          · rw [if_pos g3]
          · by_cases q : a1 < 0
            · rw [if_pos q]
            · rw [if_neg q, if_pos (z8.mpr g3)]
        · rw [if_neg (fun e => g3 (Or.inl e)), if_neg (fun e => g3 (Or.inr (z8.mp e))), if_neg (by decide), if_neg (fun e => g3 e.1)]
  have foldY : f12_calls FU a0 a1 My = if a0 < 1 then some (-1, My) else if 60 < a0 then some (-1, My) else if (a1 < 0 ∨ 8 < a1) ∧ ¬ (a1 = 100 ∨ a1 = 101) then some (-1, My) else b12_calls_33 (fun _ _ _ _ => none) FU a0 a1 My := by
    unfold f12_calls b12_calls_0 b12_calls_31
    rw [in_e, bnd_s']
    by_cases g1 : a0 < 1
    · rw [if_pos (Or.inl g1), if_pos rfl, if_pos g1]
    · rw [if_neg g1]
      by_cases g2 : 60 < a0
      · rw [if_pos (Or.inr g2), if_pos rfl, if_pos g2]
      · rw [if_neg (show ¬ (a0 < 1 ∨ 60 < a0) from fun e => e.elim g1 g2), if_neg (show ¬ (1 : Int32) = 0 by decide), if_neg g2, in_e, bnd_s']
        by_cases g3 : a1 < 0 ∨ 8 < a1
        · rw [if_pos g3, if_pos rfl, in_e, bnd_s']
          by_cases g4 : a1 < 100 ∨ 101 < a1
          · rw [if_pos g4, if_pos rfl, if_pos ⟨g3, fun e => (z100.mpr e) g4⟩]
          · rw [if_neg g4, if_neg (by decide), if_neg (fun e => e.2 (z100.mp g4))]
        · rw [if_neg g3, if_neg (by decide), if_neg (fun e => g3 e.1)]
  by_cases g1 : a0 < 1
  · exact ⟨-1, Mx, My, by rw [fold, if_pos g1], by rw [foldY, if_pos g1], h0.same hL⟩
  by_cases g2 : 60 < a0
  · exact ⟨-1, Mx, My, by rw [fold, if_neg g1, if_pos g2], by rw [foldY, if_neg g1, if_pos g2], h0.same hL⟩
  by_cases g3 : (a1 < 0 ∨ 8 < a1) ∧ ¬ (a1 = 100 ∨ a1 = 101)
  · exact ⟨-1, Mx, My, by rw [fold, if_neg g1, if_neg g2, if_pos g3], by rw [foldY, if_neg g1, if_neg g2, if_pos g3], h0.same hL⟩
  rw [if_neg g1, if_neg g2, if_neg g3] at fold foldY
  obtain ⟨mi, hmi, rfl⟩ : ∃ m : Nat, m ≤ 60 ∧ a0 = nI m := by
    have c0 : ¬ a0 < 0 := fun e => g1 (Int32.lt_trans e (by decide))
    obtain ⟨k, hk, rfl⟩ := nI_of c0
    exact ⟨k, Nat.le_of_not_lt fun e => g2 (nI_lt (a := 60) e hk), rfl⟩
  obtain ⟨b1, b2, b3, b4, b5, c, d1, d2, d3⟩ := h1
  -- the table
  have table : ∃ nX X1, 1000 ≤ nX ∧ f5_choose FU (nI mi) Mx = b5_choose_49 (r5_choose nX) nX (nI mi) X1 ∧ RT (bw (opn sq kd) sq dr) dr 512 X1 ∧ DX dr X1 ∧ X1.1 326 4 = nI c := by
    unfold f5_choose b5_choose_0
    by_cases hc : Mx.1 326 4 = Mx.1 3 9
    · rw [if_pos hc]
      refine ⟨FU, Mx, by omega, rfl, ?_, b4, by rw [hc]; exact d2⟩
      rw [d2] at hc
      rcases d3 with d3 | ⟨a, q1, q2, q3⟩
      · rw [d3] at hc
        exact absurd hc.symm (nI_m1 (by omega))
      · rw [q2] at hc
        exact q3 ((nI_eq (by omega) (by omega)).mp hc)
    · rw [if_neg hc]
      obtain ⟨M1, e1, e2⟩ := measure_X (n := FU) (by omega) b1 b4
      have f1 := fr5_measure e1
      rw [bnd_e e1]
      obtain ⟨n', M2, a1, a2, a3, a4⟩ := table_loop (w := bw (opn sq kd) sq dr) (dr := dr) (mi := nI mi) bw_le 512 0 (FU + 1) M1 (by omega) (by omega) (b4.keep (f1 6 (by decide) (fun e => by cases e)).1 (by rw [(f1 3 (by decide) (fun e => by cases e)).1])) e2 (fun s h => by omega)
      rw [nI_0, e5_choose_20] at a2
      rw [a2]
      have k3 : M2.1 3 = Mx.1 3 := (a4 3 (by decide)).1.trans (f1 3 (by decide) (fun e => by cases e)).1
      have k6 : M2.1 6 = Mx.1 6 := (a4 6 (by decide)).1.trans (f1 6 (by decide) (fun e => by cases e)).1
      refine ⟨n', wI M2 326 4 (M2.1 3 9), by omega, rfl, fun s h1 h2 a ha => a3 s h1 h2 a ha, b4.keep k6 (by show M2.1 3 8 = _; rw [k3]), ?_⟩
      rw [wI_at, if_pos rfl, if_pos rfl, k3]
      exact d2
  obtain ⟨nX, X1, x1, x2, x3, x4, x5⟩ := table
  obtain ⟨Y1, y1, y2, y3, y4⟩ := back_Y (n := FU) (by omega) b2 b5
  obtain ⟨many, C, R, X', Y', s1, s2, s3, s4, s5, s6, s7, s8, s9⟩ := sel_loop (sq := sq) (kd := kd) (dr := dr) hmi 511 1 (nX + 1) (FU + 1) 0 0 0 (wJ (wI X1 326 5 0) 326 6 0) (wI (wI Y1 0 45 0) 0 46 0) (by omega) (by omega) (by omega) (by omega) (x4.keep rfl rfl) (fun s h1 h2 a ha => x3 s h1 h2 a ha) ⟨y2.1.keep rfl rfl, y2.2⟩ (fun k a b => y3 k a b) (fun s h k h2 => y4 s h k h2) ⟨rfl, rfl, rfl, rfl, fun i hi => by omega⟩ (by decide) (by decide) (by decide)
  rw [show nI 1 = (1 : Int32) from rfl, e5_choose_61] at s1
  rw [show nI 1 = (1 : Int32) from rfl, e12_laysCalls_16] at s2
  have cx : f5_choose FU (nI mi) Mx = some ((), X') := by
    rw [x2]
    unfold b5_choose_49
    rw [lt_v, lt_v]
    exact s1
  have cy : f12_laysCalls FU (nI mi) My = some ((), Y') := by
    unfold f12_laysCalls b12_laysCalls_0
    rw [bnd_e y1, lt_v, lt_v]
    exact s2
  obtain ⟨t1, t2, t3, t4, t5⟩ := s4
  have hpow : 10 ^ many ≤ 1000000000 := Nat.le_trans (Nat.pow_le_pow_right (by decide) s5) (by decide)
  have key : ∃ r, f11_calls FU (nI mi) a1 Mx = some (r, X') ∧ f12_calls FU (nI mi) a1 My = some (r, Y') := by
    rw [fold, foldY]
    unfold b11_calls_45 b12_calls_33
    rw [bnd_e cx, bnd_e cy, t1, t3, t4]
    by_cases c1 : a1 = 100
    · rw [if_pos c1, if_pos (by rw [c1]; decide), if_pos c1]
      exact ⟨_, rfl, rfl⟩
    · rw [if_neg c1]
      by_cases c2 : a1 = 101
      · rw [if_pos c2, if_pos (by rw [c2]; decide), if_neg c1]
        unfold f5_stepsOfBest b5_stepsOfBest_0
        rw [bnd_s', t2, show (1000000000 : Int64) = lN 1000000000 from rfl, pk_lDiv (by omega) (by decide) (by decide), lN_i, show (C * 1000000000 + R) / 1000000000 = C by omega]
        exact ⟨_, rfl, rfl⟩
      · rw [if_neg c2]
        have g4 : ¬ (a1 < 0 ∨ 8 < a1) := fun e => g3 ⟨e, fun q => q.elim c1 c2⟩
        obtain ⟨k, hk, rfl⟩ : ∃ k : Nat, k ≤ 8 ∧ a1 = nI k := by
          have c0 : ¬ a1 < 0 := fun e => g4 (Or.inl e)
          obtain ⟨k, hk, rfl⟩ := nI_of c0
          exact ⟨k, Nat.le_of_not_lt fun e => g4 (Or.inr (nI_lt (a := 8) e hk)), rfl⟩
        rw [if_neg (show ¬ (100 : Int32) ≤ nI k from nI_ge (b := 100) (by omega) (by decide))]
        unfold f5_doorOfBest b5_doorOfBest_0 b5_doorOfBest_21
        rw [if_neg (nI_pos (by omega)), t1]
        by_cases c3 : many ≤ k
        · rw [if_pos (nI_le c3 (by omega)), if_pos (nI_le c3 (by omega)), bnd_s']
          exact ⟨_, rfl, rfl⟩
        · have e10 : 10 ^ (many - 1 - k) ≤ 100000000 := Nat.le_trans (Nat.pow_le_pow_right (by decide) (show many - 1 - k ≤ 8 by omega)) (by decide)
          have p10 : 0 < 10 ^ (many - 1 - k) := Nat.pow_pos (by decide)
          rw [if_neg (nI_ge (by omega) (by omega)), if_neg (nI_ge (by omega) (by omega)), if_pos (show nI many ≤ (9 : Int32) from nI_le (b := 9) s5 (by decide)), t2, show (1000000000 : Int64) = lN 1000000000 from rfl, pk_lRem (by omega) (by decide) (by decide), lN_i, show (C * 1000000000 + R) % 1000000000 = R by omega, lt_v, show nI many - (1 : Int32) = nI (many - 1) from pk_sub (b := 1) (by omega), pk_sub (by omega), chk_in (by omega) (by decide), nI_clamp (by omega), tens_e _ (by omega), chk_t (by
            rw [decide_eq_true_eq]
            exact nI_ne0 p10 (by omega)), bnd_s', pk_div (by omega) p10 (by omega), show nI (R / 10 ^ (many - 1 - k)) - nI (R / 10 ^ (many - 1 - k)) / (10 : Int32) * (10 : Int32) = nI (R / 10 ^ (many - 1 - k) % 10) from pk_rem (d := 10) (by
            have := Nat.div_le_self R (10 ^ (many - 1 - k))
            omega) (by decide) (by decide), chk_in (by omega) (by decide), nI_clamp (by omega), t5 k (by omega)]
          exact ⟨_, rfl, rfl⟩
  obtain ⟨r, x, y⟩ := key
  have fx := fr11_calls x
  have fy := fr12_calls y
  have qy := fq12_calls y
  have qx := fr5_choose cx
  refine ⟨r, X', Y', x, y, Inv.town hL (sq := sq) (kd := kd) (dr := dr) ⟨b1.keep (by rw [(fx 3 (by decide) (fun e => by cases e)).1]) (fx 4 (by decide) (fun e => by cases e)).1, s3, ⟨b3.1.keep (fx 10 (by decide) (fun e => by cases e)).2, fun p hp => by rw [(fx 7 (by decide) (fun e => by cases e)).1]; exact b3.2.1 p hp, fun p hp => by rw [(fx 8 (by decide) (fun e => by cases e)).1]; exact b3.2.2 p hp⟩, b4.keep (fx 6 (by decide) (fun e => by cases e)).1 (by rw [(fx 3 (by decide) (fun e => by cases e)).1]), fun k a b => by rw [(fy 5 (by decide) (fun e => by cases e)).1]; exact b5 k a b, c, by omega, by rw [(fx 3 (by decide) (fun e => by cases e)).1]; exact d2, Or.inr ⟨c, Nat.le_refl _, by rw [s8]; exact x5, fun _ => ?_⟩⟩ h2 (h3.keep (by rw [(fx 1 (by decide) (fun e => by cases e)).1]) (fx 2 (by decide) (fun e => by cases e)).1 (qy 0 11 (by decide) (by decide)) (fy 8 (by decide) (fun e => by cases e)).1) h4 h5 (QXr.of fx (by decide)) (QY.of fy qy (by decide) (by decide))⟩
  intro s hs2 ht2 a ha
  rw [s9]
  exact x3 s hs2 ht2 a ha
