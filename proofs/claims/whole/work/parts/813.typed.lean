/-! THE LAW's reader: what its code is worth -/
def Pend (z : Zc) (dep : Nat → Nat) (isB : Nat → Bool) (s : St) (i : Nat) : Prop := (z.2.1 i = 11 ∨ z.2.1 i = 12) ∧ isB i = true ∧ isB (i + 1) = false ∧ dep i = 1 ∧ dep (i + 1) = 0 ∧ (z.2.1 i, i) ∈ s
def TQ (zb z : Zc) (s : St) (d : Nat) (b : Bool) : Prop := zb.1 ≤ z.1 ∧ (∀ i, i < zb.1 → z.2.1 i = zb.2.1 i ∧ z.2.2 i = zb.2.2 i) ∧ (∀ i, i < z.1 → z.2.1 i ≤ 12 ∧ z.2.2 i < 1048576) ∧ (∀ e, e ∈ s → (e.1 = 11 ∨ e.1 = 12) → zb.1 ≤ e.2 ∧ e.2 < z.1 ∧ z.2.1 e.2 = e.1) ∧ ∃ (dep : Nat → Nat) (isB : Nat → Bool), dep zb.1 = 0 ∧ isB zb.1 = false ∧ dep z.1 = d ∧ isB z.1 = b ∧ ∀ i, zb.1 ≤ i → i < z.1 → LStp z.2.1 z.2.2 dep isB z.1 i ∨ Pend z dep isB s i
theorem LStp.cong {op vl dep op' vl' dep' : Nat → Nat} {isB isB' : Nat → Bool} {e e' i : Nat} (h : LStp op vl dep isB e i) (h1 : op' i = op i) (h2 : vl' i = vl i) (h3 : dep' i = dep i) (h4 : dep' (i + 1) = dep (i + 1)) (h5 : isB' i = isB i) (h6 : isB' (i + 1) = isB (i + 1)) (he : e ≤ e') (h7 : vl i ≤ e → dep' (vl i) = dep (vl i) ∧ isB' (vl i) = isB (vl i)) : LStp op' vl' dep' isB' e' i := by
  unfold LStp at h ⊢
  rw [h1, h2, h3, h4, h5, h6]
  rcases h with h | h | h | h | ⟨a1, a2, a3, a4, a5, a6, a7, a8, a9⟩
  · exact Or.inl h
  · exact Or.inr (Or.inl h)
  · exact Or.inr (Or.inr (Or.inl h))
  · exact Or.inr (Or.inr (Or.inr (Or.inl h)))
  · exact Or.inr (Or.inr (Or.inr (Or.inr ⟨a1, a2, a3, a4, a5, a6, by omega, by rw [(h7 a7).2]; exact a8, by rw [(h7 a7).1]; exact a9⟩)))
theorem TQ.start (z : Zc) (s : St) (hz : ∀ i, i < z.1 → z.2.1 i ≤ 12 ∧ z.2.2 i < 1048576) (hs : ∀ e, e ∈ s → ¬ (e.1 = 11 ∨ e.1 = 12)) : TQ z z s 0 false := ⟨Nat.le_refl _, fun _ _ => ⟨rfl, rfl⟩, hz, fun e he c => absurd c (hs e he), fun _ => 0, fun _ => false, rfl, rfl, rfl, rfl, fun i h1 h2 => by omega⟩
section TY
variable {zb z : Zc} {s : St} {d : Nat} {b : Bool}
theorem adz_op (z : Zc) (o v : Nat) : (adz z o v).2.1 z.1 = o := if_pos rfl
theorem adz_vl (z : Zc) (o v : Nat) : (adz z o v).2.2 z.1 = v := if_pos rfl
theorem adz_op' (z : Zc) (o v : Nat) {i : Nat} (h : i ≠ z.1) : (adz z o v).2.1 i = z.2.1 i := if_neg h
theorem adz_vl' (z : Zc) (o v : Nat) {i : Nat} (h : i ≠ z.1) : (adz z o v).2.2 i = z.2.2 i := if_neg h
theorem TQ.add {o v d' : Nat} {b' : Bool} {s' : St} (h : TQ zb z s d b) (ho : o ≤ 12) (hv : v < 1048576) (hs : ∀ e, e ∈ s → e ∈ s') (hj : ∀ e, e ∈ s' → (e.1 = 11 ∨ e.1 = 12) → e ∈ s ∨ e = (o, z.1)) (hstep : ∀ (dep : Nat → Nat) (isB : Nat → Bool), dep z.1 = d → isB z.1 = b → dep (z.1 + 1) = d' → isB (z.1 + 1) = b' → LStp (adz z o v).2.1 (adz z o v).2.2 dep isB (z.1 + 1) z.1 ∨ Pend (adz z o v) dep isB s' z.1) : TQ zb (adz z o v) s' d' b' := by
  obtain ⟨a1, a2, a3, a4, dep, isB, b1, b2, b3, b4, b5⟩ := h
  have e1 : (adz z o v).1 = z.1 + 1 := rfl
  refine ⟨by rw [e1]; omega, fun i hi => ?_, fun i hi => ?_, fun e he c => ?_, fun i => if i = z.1 + 1 then d' else dep i, fun i => if i = z.1 + 1 then b' else isB i, ?_, ?_, if_pos rfl, if_pos rfl, fun i h1 h2 => ?_⟩
  · rw [adz_op' z o v (by omega), adz_vl' z o v (by omega)]; exact a2 i hi
  · rw [e1] at hi
    by_cases c : i = z.1
    · rw [c, adz_op, adz_vl]; exact ⟨ho, hv⟩
    · rw [adz_op' z o v c, adz_vl' z o v c]; exact a3 i (by omega)
  · rcases hj e he c with q | q
    · have := a4 e q c
      rw [e1, adz_op' z o v (by omega)]
      exact ⟨this.1, by omega, this.2.2⟩
    · rw [q]
      exact ⟨a1, Nat.lt_succ_self _, adz_op z o v⟩
  · show (if zb.1 = z.1 + 1 then d' else dep zb.1) = 0
    rw [if_neg (by omega)]; exact b1
  · show (if zb.1 = z.1 + 1 then b' else isB zb.1) = false
    rw [if_neg (by omega)]; exact b2
  · rw [e1] at h2 ⊢
    by_cases c : i = z.1
    · subst c
      exact hstep _ _ (by show (if z.1 = z.1 + 1 then d' else dep z.1) = d; rw [if_neg (by omega)]; exact b3) (by show (if z.1 = z.1 + 1 then b' else isB z.1) = b; rw [if_neg (by omega)]; exact b4) (if_pos rfl) (if_pos rfl)
    · rcases b5 i h1 (by omega) with q | ⟨q1, q2, q3, q4, q5, q6⟩
      · refine Or.inl (q.cong (adz_op' z o v c) (adz_vl' z o v c) (if_neg (by omega)) (if_neg (by omega)) (if_neg (by omega)) (if_neg (by omega)) (by omega) (fun hv => ⟨if_neg (by omega), if_neg (by omega)⟩))
      · refine Or.inr ⟨by rw [adz_op' z o v c]; exact q1, ?_, ?_, ?_, ?_, hs _ (by rw [adz_op' z o v c]; exact q6)⟩
        · show (if i = z.1 + 1 then b' else isB i) = true
          rw [if_neg (by omega)]; exact q2
        · show (if i + 1 = z.1 + 1 then b' else isB (i + 1)) = false
          rw [if_neg (by omega)]; exact q3
        · show (if i = z.1 + 1 then d' else dep i) = 1
          rw [if_neg (by omega)]; exact q4
        · show (if i + 1 = z.1 + 1 then d' else dep (i + 1)) = 0
          rw [if_neg (by omega)]; exact q5
theorem TQ.list {s' : St} (h : TQ zb z s d b) (hs : ∀ e : Nat × Nat, (e.1 = 11 ∨ e.1 = 12) → (e ∈ s ↔ e ∈ s')) : TQ zb z s' d b := by
  obtain ⟨a1, a2, a3, a4, dep, isB, b1, b2, b3, b4, b5⟩ := h
  refine ⟨a1, a2, a3, fun e he c => a4 e ((hs e c).mpr he) c, dep, isB, b1, b2, b3, b4, fun i h1 h2 => ?_⟩
  rcases b5 i h1 h2 with q | ⟨q1, q2, q3, q4, q5, q6⟩
  · exact Or.inl q
  · exact Or.inr ⟨q1, q2, q3, q4, q5, (hs _ q1).mp q6⟩
theorem TQ.cons {e : Nat × Nat} (h : TQ zb z s d b) (he : ¬ (e.1 = 11 ∨ e.1 = 12)) : TQ zb z (e :: s) d b := h.list fun x hx => ⟨fun q => List.mem_cons_of_mem _ q, fun q => (List.mem_cons.mp q).resolve_left (fun r => by rw [r] at hx; exact he hx)⟩
theorem TQ.tail {e : Nat × Nat} (h : TQ zb z (e :: s) d b) (he : ¬ (e.1 = 11 ∨ e.1 = 12)) : TQ zb z s d b := h.list fun x hx => ⟨fun q => (List.mem_cons.mp q).resolve_left (fun r => by rw [r] at hx; exact he hx), fun q => List.mem_cons_of_mem _ q⟩
theorem TQ.num {o v : Nat} (h : TQ zb z s d false) (hd : d ≤ 60) (ho : o ≤ 1) (hv : v < 1048576) (h9 : o = 1 → v < 9) : TQ zb (adz z o v) s (d + 1) false :=
  h.add (by omega) hv (fun _ q => q) (fun _ q _ => Or.inl q) (fun dep isB c1 c2 c3 c4 => Or.inl (Or.inl ⟨by rw [adz_op]; exact ho, c2, c4, by rw [c3, c1], by rw [c1]; exact hd, by rw [adz_op, adz_vl]; exact h9⟩))
theorem TQ.ar {o : Nat} (h : TQ zb z s (d + 1) false) (hd : 1 ≤ d) (hd2 : d ≤ 60) (ho : 2 ≤ o ∧ o ≤ 6) : TQ zb (adz z o 0) s d false :=
  h.add (by omega) (by decide) (fun _ q => q) (fun _ q _ => Or.inl q) (fun dep isB c1 c2 c3 c4 => Or.inl (Or.inr (Or.inl ⟨by rw [adz_op]; exact ho.1, by rw [adz_op]; exact ho.2, c2, c4, by omega, by omega, by omega⟩)))
theorem TQ.cmp {o : Nat} (h : TQ zb z s 2 false) (ho : 7 ≤ o ∧ o ≤ 9) : TQ zb (adz z o 0) s 1 true :=
  h.add (by omega) (by decide) (fun _ q => q) (fun _ q _ => Or.inl q) (fun dep isB c1 c2 c3 c4 => Or.inl (Or.inr (Or.inr (Or.inl ⟨by rw [adz_op]; exact ho.1, by rw [adz_op]; exact ho.2, c2, c4, c1, c3⟩))))
theorem TQ.nt (h : TQ zb z s 1 true) : TQ zb (adz z 10 0) s 1 true :=
  h.add (by decide) (by decide) (fun _ q => q) (fun _ q _ => Or.inl q) (fun dep isB c1 c2 c3 c4 => Or.inl (Or.inr (Or.inr (Or.inr (Or.inl ⟨adz_op z 10 0, c2, c4, c1, c3⟩)))))
theorem TQ.jmp {o : Nat} (h : TQ zb z s 1 true) (ho : o = 11 ∨ o = 12) : TQ zb (adz z o 0) ((o, z.1) :: s) 0 false :=
  h.add (by omega) (by decide) (fun _ q => List.mem_cons_of_mem _ q) (fun _ q _ => (List.mem_cons.mp q).symm) (fun dep isB c1 c2 c3 c4 => Or.inr ⟨by rw [adz_op]; exact ho, c2, c4, c1, c3, by rw [adz_op]; exact List.mem_cons_self⟩)
theorem TQ.pat {e : Nat × Nat} (h : TQ zb z (e :: s) 1 true) (he : e.1 = 11 ∨ e.1 = 12) (hz : z.1 < 1048576) : TQ zb (paz z e.2) s 1 true := by
  obtain ⟨a1, a2, a3, a4, dep, isB, b1, b2, b3, b4, b5⟩ := h
  obtain ⟨j1, j2, j3⟩ := a4 e List.mem_cons_self he
  have v1 : (paz z e.2).2.2 e.2 = z.1 := if_pos rfl
  have v2 : ∀ i, i ≠ e.2 → (paz z e.2).2.2 i = z.2.2 i := fun i hi => if_neg hi
  have hold : isB e.2 = true ∧ isB (e.2 + 1) = false ∧ dep e.2 = 1 ∧ dep (e.2 + 1) = 0 := by
    rcases b5 e.2 j1 j2 with q | q
    · rcases q with q | q | q | q | q
      · exact absurd q.1 (by omega)
      · exact absurd q.2.1 (by omega)
      · exact absurd q.2.1 (by omega)
      · exact absurd q.1 (by omega)
      · exact ⟨q.2.1, q.2.2.1, q.2.2.2.1, q.2.2.2.2.1⟩
    · exact ⟨q.2.1, q.2.2.1, q.2.2.2.1, q.2.2.2.2.1⟩
  refine ⟨a1, fun i hi => ?_, fun i hi => ?_, fun x hx c => a4 x (List.mem_cons_of_mem _ hx) c, dep, isB, b1, b2, b3, b4, fun i h1 h2 => ?_⟩
  · rw [v2 i (by omega)]; exact a2 i hi
  · by_cases c : i = e.2
    · rw [c, v1]; exact ⟨(a3 e.2 j2).1, hz⟩
    · rw [v2 i c]; exact a3 i hi
  · by_cases c : i = e.2
    · subst c
      refine Or.inl (Or.inr (Or.inr (Or.inr (Or.inr ⟨?_, hold.1, hold.2.1, hold.2.2.1, hold.2.2.2, ?_, ?_, ?_, ?_⟩))))
      · show z.2.1 e.2 = 11 ∨ z.2.1 e.2 = 12
        rw [j3]; exact he
      · rw [v1]; omega
      · rw [v1]; exact Nat.le_refl _
      · rw [v1]; exact b4
      · rw [v1]; exact b3
    · rcases b5 i h1 h2 with q | ⟨q1, q2, q3, q4, q5, q6⟩
      · exact Or.inl (q.cong rfl (v2 i c) rfl rfl rfl rfl (Nat.le_refl _) (fun _ => ⟨rfl, rfl⟩))
      · exact Or.inr ⟨q1, q2, q3, q4, q5, (List.mem_cons.mp q6).resolve_left (fun r => c (congrArg Prod.snd r))⟩
theorem TQ.ars : ∀ {J : St} {z : Zc}, (∀ e, e ∈ J → 2 ≤ e.1 ∧ e.1 ≤ 6) → TQ zb z (J ++ s) (d + J.length) false → 1 ≤ d → d + J.length ≤ 60 → TQ zb (eff J z) s d false
  | [], _, _, h, _, _ => h
  | e :: J, z, hJ, h, hd, hl => by
    have he := hJ e List.mem_cons_self
    simp only [List.length_cons] at hl h
    rw [eff, if_neg (by omega)]
    refine TQ.ars (fun x hx => hJ x (List.mem_cons_of_mem _ hx)) ?_ hd (by omega)
    have h' : TQ zb z (e :: (J ++ s)) (d + J.length + 1) false := h
    exact (h'.tail (by omega)).ar (by omega) (by omega) he
theorem TQ.nots : ∀ {J : St} {z : Zc}, (∀ e, e ∈ J → e.1 = 10) → TQ zb z (J ++ s) 1 true → TQ zb (eff J z) s 1 true
  | [], _, _, h => h
  | e :: J, z, hJ, h => by
    have he := hJ e List.mem_cons_self
    have h' : TQ zb z (e :: (J ++ s)) 1 true := h
    rw [eff, if_neg (by omega)]
    refine TQ.nots (fun x hx => hJ x (List.mem_cons_of_mem _ hx)) ?_
    rw [he]
    exact (h'.tail (by omega)).nt
theorem TQ.jmps : ∀ {J : St} {z : Zc}, (∀ e, e ∈ J → e.1 = 11 ∨ e.1 = 12) → z.1 < 1048576 → TQ zb z (J ++ s) 1 true → TQ zb (eff J z) s 1 true
  | [], _, _, _, h => h
  | e :: J, z, hJ, hz, h => by
    have he := hJ e List.mem_cons_self
    have h' : TQ zb z (e :: (J ++ s)) 1 true := h
    rw [eff, if_pos he]
    exact TQ.jmps (fun x hx => hJ x (List.mem_cons_of_mem _ hx)) hz (h'.pat he hz)
theorem TQ.typ {t : Bool} (h : TQ zb z [] 1 t) : Typ z.2.1 z.2.2 zb.1 z.1 t := by
  obtain ⟨a1, a2, a3, a4, dep, isB, b1, b2, b3, b4, b5⟩ := h
  exact ⟨dep, isB, b1, b2, b3, b4, fun i h1 h2 => (b5 i h1 h2).resolve_right (fun q => by have := q.2.2.2.2.2; simp at this)⟩
theorem Typ.cong {op vl op' vl' : Nat → Nat} {a e : Nat} {t : Bool} (h : Typ op vl a e t) (g : ∀ i, a ≤ i → i < e → op' i = op i ∧ vl' i = vl i) : Typ op' vl' a e t := by
  obtain ⟨dep, isB, b1, b2, b3, b4, b5⟩ := h
  exact ⟨dep, isB, b1, b2, b3, b4, fun i h1 h2 => (b5 i h1 h2).cong (g i h1 h2).1 (g i h1 h2).2 rfl rfl rfl rfl (Nat.le_refl _) (fun _ => ⟨rfl, rfl⟩)⟩
end TY
/-- how many values wait under a sum -/
def dpt : St → Nat
  | [] => 0
  | e :: s => dpt s + (if e.1 = 14 then 0 else 1)
theorem dpt_app : ∀ (J s : St), dpt (J ++ s) = dpt J + dpt s
  | [], s => by simp [dpt]
  | e :: J, s => by simp only [List.cons_append, dpt, dpt_app J s]; omega
theorem dpt_ar : ∀ {J : St}, (∀ e, e ∈ J → e.1 ≠ 14) → dpt J = J.length
  | [], _ => rfl
  | e :: J, h => by rw [dpt, if_neg (h e List.mem_cons_self), dpt_ar (fun x hx => h x (List.mem_cons_of_mem _ hx)), List.length_cons]
theorem dpt_le : ∀ (J : St), dpt J ≤ J.length
  | [] => Nat.le_refl _
  | e :: J => by
    have := dpt_le J
    rw [dpt, List.length_cons]
    split <;> omega
theorem dpt_br : ∀ {B : St}, (∀ e, e ∈ B → e = (14, 0)) → dpt B = 0 ∧ wt B = 0 ∧ oc B = B.length
  | [], _ => ⟨rfl, rfl, rfl⟩
  | e :: B, h => by
    have h1 := dpt_br (fun x hx => h x (List.mem_cons_of_mem _ hx))
    have h2 := h e List.mem_cons_self
    subst h2
    simp only [dpt, wt, oc, List.length_cons, h1]
    exact ⟨rfl, rfl, rfl⟩
