/-! what a run of a method comes to: pieces -/
def chk {α : Type} (b : Bool) (k : Option α) : Option α := if b = true then k else none
def bnd {α β : Type} (o : Option (α × Mem)) (k : α → Mem → Option β) : Option β := match o with
  | none => none
  | some q => k q.1 q.2
def lt {α β : Type} (a : α) (k : α → β) : β := k a
theorem chk_1 {α : Type} {b : Bool} {k : Option α} {o : α} (h : chk b k = some o) : b = true := by
  unfold chk at h
  by_cases hb : b = true
  · exact hb
  · rw [if_neg hb] at h; cases h
theorem chk_2 {α : Type} {b : Bool} {k : Option α} {o : α} (h : chk b k = some o) : k = some o := by
  have hb := chk_1 h
  unfold chk at h
  rwa [if_pos hb] at h
theorem bnd_s {α β : Type} {o : Option (α × Mem)} {k : α → Mem → Option β} {x : β} (h : bnd o k = some x) : ∃ (r : α) (M : Mem), o = some (r, M) ∧ k r M = some x := by
  cases o with
  | none => cases h
  | some q => exact ⟨q.1, q.2, rfl, h⟩
theorem lt_c {α β : Type} {a x : α} {k : α → β} {o : β} (e : x = a) (h : lt a k = o) : k x = o := by subst e; exact h
theorem ite_t {α : Type} {c : Prop} [Decidable c] {a b x : α} (h : c) (hf : (if c then a else b) = x) : a = x := by rwa [if_pos h] at hf
theorem ite_f {α : Type} {c : Prop} [Decidable c] {a b x : α} (h : ¬ c) (hf : (if c then a else b) = x) : b = x := by rwa [if_neg h] at hf
theorem ret_s {α : Type} {a r : α} {M M' : Mem} (h : some (a, M) = some (r, M')) : a = r ∧ M = M' := by
  cases h
  exact ⟨rfl, rfl⟩
section PC
variable {p : Program} {l : Launch} {e : Env} {R : Room} {s : State} {m : MethodId} {args : Array Value} {below : List Frame} {meth : Method} {c : Code} {H : Heap} {locs : List Loc} {cells slots : Nat} {Q : State → Prop} {cc : ByteArray} {nL : Nat} {own : String} {z : Zt} {d : Cds} {N b : Nat} {M M' : Mem} {pc : Nat} {ls : Array Slot} {rest st0 As : List Value} {y : MethodName} {bytes : ByteArray} {maxL index n : Nat} {ret : Option FieldType} {rm : Room}
theorem pcVi {r : Int32} (C : Cx p s m args c cc nL own z N b) (hP : va_P z.1 vwCl (pw d N b M) H) (hS : va_S (pA N b) s.heap H locs) {k ci : Nat} {fs : List Value} {Cn : String} {T : u_T} {Nf : Nat} (hk : k < N) (hd : d k (M.1 k) (M.2 k) = .inr (ci, fs)) (hc : vwCl[ci]? = some (Cn, T, Nf)) (hM : CI l z d N b y bytes maxL ret rm (.ref (b + k) :: As) M M' r) (hy : yV Cn y bytes maxL ret n) (hl : Cond.methodLink own index y ∈ lw_good) (hrc : rm.cells = 0) (hrs : rm.slots = 0) (hn : As.length = n) (hR : rm.frames + 1 ≤ R.frames ∧ 8 + (maxL + 11) + rm.locals ≤ R.locals) (hls : ls.size = nL) (hst : st0 = As.reverse ++ .ref (b + k) :: rest) (hroom : (rest.map fun v => v.category).sum ≤ 8) (hdg : decode cc pc = .ok (.invokevirtual index, 3)) (hcs : cells ≤ R.cells ∧ slots ≤ R.slots)
    (kk : ∀ (H1 : Heap) (locs1 : List Loc), va_P z.1 vwCl (pw d N b M') H1 → va_S (pA N b) s.heap H1 locs1 → W p l e R s m args below meth c H1 locs1 cells slots Q (F0 m (pc + 3) ls (.int r :: rest))) : W p l e R s m args below meth c H locs cells slots Q (F0 m pc ls st0) := by
  refine va_calli (va_runV (As := As) (rest := rest) C.1 hM (cwV n C.1.2.2.2.2 (gV hl hy) rfl hrc hrs ⟨hy.2.2.2.2.1, hy.2.2.2.2.2.1, hy.2.2.2.2.2.2.1, hy.2.2.2.2.2.2.2⟩ hR) ⟨Pw_blind, va_recv C.2.1.1 hP hc (by rw [pw_get hk, hd]), fun U hU hW => ⟨rfl, by rw [hU]; exact hP, C.2.to hS hU hW⟩⟩ rfl hn hls hst (lv_room hroom) hdg hcs) hS (fun q _ h => h) (fun q h => h) (fun r2 u t H1 locs1 ht hvm hw hB hz hk1 hS1 => ?_)
  obtain ⟨rfl, rfl⟩ := hw
  exact kk H1 locs1 (by rw [← ht]; exact hB) hS1
theorem pcNi {r : Int32} (C : Cx p s m args c cc nL own z N b) (hP : va_P z.1 vwCl (pw d N b M) H) (hS : va_S (pA N b) s.heap H locs) {k ci : Nat} {fs : List Value} {Cn host : String} {T : u_T} {Nf : Nat} (hk : k < N) (hd : d k (M.1 k) (M.2 k) = .inr (ci, fs)) (hc : vwCl[ci]? = some (Cn, T, Nf)) (hM : CI l z d N b y bytes maxL ret rm (.ref (b + k) :: As) M M' r) (hy : yV Cn y bytes maxL ret n) (hl : Cond.methodLinkNest own index y host ∈ tables_1) (hrc : rm.cells = 0) (hrs : rm.slots = 0) (hn : As.length = n) (hR : rm.frames + 1 ≤ R.frames ∧ 8 + (maxL + 11) + rm.locals ≤ R.locals) (hls : ls.size = nL) (hst : st0 = As.reverse ++ .ref (b + k) :: rest) (hroom : (rest.map fun v => v.category).sum ≤ 8) (hdg : decode cc pc = .ok (.invokevirtual index, 3)) (hcs : cells ≤ R.cells ∧ slots ≤ R.slots)
    (kk : ∀ (H1 : Heap) (locs1 : List Loc), va_P z.1 vwCl (pw d N b M') H1 → va_S (pA N b) s.heap H1 locs1 → W p l e R s m args below meth c H1 locs1 cells slots Q (F0 m (pc + 3) ls (.int r :: rest))) : W p l e R s m args below meth c H locs cells slots Q (F0 m pc ls st0) := by
  refine va_calli (va_runVN (As := As) (rest := rest) C.1 hM ⟨va_cnB n C.1.2.2.2.2 (gC hy.2.2.2.1) rfl hrc hrs (C.2.1.2.1 _ hl rfl) (C.1.2.2.2.2 _ hy.2.2.1) ⟨hy.2.2.2.2.2.1, hy.2.2.2.2.2.2.1, hy.2.2.2.2.2.2.2⟩ hR, C.1.2.2.2.2 _ hy.1, C.1.2.2.2.2 _ hy.2.1⟩ ⟨Pw_blind, va_recv C.2.1.1 hP hc (by rw [pw_get hk, hd]), fun U hU hW => ⟨rfl, by rw [hU]; exact hP, C.2.to hS hU hW⟩⟩ rfl hn hls hst (lv_room hroom) hdg hcs) hS (fun q _ h => h) (fun q h => h) (fun r2 u t H1 locs1 ht hvm hw hB hz hk1 hS1 => ?_)
  obtain ⟨rfl, rfl⟩ := hw
  exact kk H1 locs1 (by rw [← ht]; exact hB) hS1
theorem pcSi {r : Int32} (C : Cx p s m args c cc nL own z N b) (hP : va_P z.1 vwCl (pw d N b M) H) (hS : va_S (pA N b) s.heap H locs) (hM : CI l z d N b y bytes maxL ret rm As M M' r) (hy : yS y bytes maxL ret n) (hl : Cond.methodLink own index y ∈ lw_good) (hrc : rm.cells = 0) (hrs : rm.slots = 0) (hn : As.length = n) (hR : rm.frames + 1 ≤ R.frames ∧ 8 + (maxL + 11) + rm.locals ≤ R.locals) (hls : ls.size = nL) (hst : st0 = As.reverse ++ rest) (hroom : (rest.map fun v => v.category).sum ≤ 8) (hdg : decode cc pc = .ok (.invokestatic index, 3)) (hcs : cells ≤ R.cells ∧ slots ≤ R.slots)
    (kk : ∀ (H1 : Heap) (locs1 : List Loc), va_P z.1 vwCl (pw d N b M') H1 → va_S (pA N b) s.heap H1 locs1 → W p l e R s m args below meth c H1 locs1 cells slots Q (F0 m (pc + 3) ls (.int r :: rest))) : W p l e R s m args below meth c H locs cells slots Q (F0 m pc ls st0) := by
  refine va_calli (va_runS (As := As) (rest := rest) C.1 hM (va_cwS n C.1.2.2.2.2 (gS hl hy) rfl hrc hrs ⟨hy.2.2.2.1, hy.2.2.2.2.1, hy.2.2.2.2.2⟩ hR) ⟨Pw_blind, fun U hU hW => ⟨rfl, by rw [hU]; exact hP, C.2.to hS hU hW⟩⟩ rfl hn hls hst (lv_room hroom) hdg hcs) hS (fun q _ h => h) (fun q h => h) (fun r2 u t H1 locs1 ht hvm hw hB hz hk1 hS1 => ?_)
  obtain ⟨rfl, rfl⟩ := hw
  exact kk H1 locs1 (by rw [← ht]; exact hB) hS1
theorem pcTi {r : Int32} (C : Cx p s m args c cc nL own z N b) (hP : va_P z.1 vwCl (pw d N b M) H) (hS : va_S (pA N b) s.heap H locs) {host : String} (hM : CI l z d N b y bytes maxL ret rm As M M' r) (hy : yS y bytes maxL ret n) (hl : Cond.methodLinkNest own index y host ∈ tables_1) (hrc : rm.cells = 0) (hrs : rm.slots = 0) (hn : As.length = n) (hR : rm.frames + 1 ≤ R.frames ∧ 8 + (maxL + 11) + rm.locals ≤ R.locals) (hls : ls.size = nL) (hst : st0 = As.reverse ++ rest) (hroom : (rest.map fun v => v.category).sum ≤ 8) (hdg : decode cc pc = .ok (.invokestatic index, 3)) (hcs : cells ≤ R.cells ∧ slots ≤ R.slots)
    (kk : ∀ (H1 : Heap) (locs1 : List Loc), va_P z.1 vwCl (pw d N b M') H1 → va_S (pA N b) s.heap H1 locs1 → W p l e R s m args below meth c H1 locs1 cells slots Q (F0 m (pc + 3) ls (.int r :: rest))) : W p l e R s m args below meth c H locs cells slots Q (F0 m pc ls st0) := by
  refine va_calli (va_runSN (As := As) (rest := rest) C.1 hM ⟨va_cnB n C.1.2.2.2.2 (gC hy.2.2.1) rfl hrc hrs (C.2.1.2.1 _ hl rfl) (C.1.2.2.2.2 _ hy.2.1) ⟨hy.2.2.2.1, hy.2.2.2.2.1, hy.2.2.2.2.2⟩ hR, C.1.2.2.2.2 _ hy.1, trivial⟩ ⟨Pw_blind, fun U hU hW => ⟨rfl, by rw [hU]; exact hP, C.2.to hS hU hW⟩⟩ rfl hn hls hst (lv_room hroom) hdg hcs) hS (fun q _ h => h) (fun q h => h) (fun r2 u t H1 locs1 ht hvm hw hB hz hk1 hS1 => ?_)
  obtain ⟨rfl, rfl⟩ := hw
  exact kk H1 locs1 (by rw [← ht]; exact hB) hS1
theorem pcVl {r : Int64} (C : Cx p s m args c cc nL own z N b) (hP : va_P z.1 vwCl (pw d N b M) H) (hS : va_S (pA N b) s.heap H locs) {k ci : Nat} {fs : List Value} {Cn : String} {T : u_T} {Nf : Nat} (hk : k < N) (hd : d k (M.1 k) (M.2 k) = .inr (ci, fs)) (hc : vwCl[ci]? = some (Cn, T, Nf)) (hM : CL l z d N b y bytes maxL ret rm (.ref (b + k) :: As) M M' r) (hy : yV Cn y bytes maxL ret n) (hl : Cond.methodLink own index y ∈ lw_good) (hrc : rm.cells = 0) (hrs : rm.slots = 0) (hn : As.length = n) (hR : rm.frames + 1 ≤ R.frames ∧ 8 + (maxL + 11) + rm.locals ≤ R.locals) (hls : ls.size = nL) (hst : st0 = As.reverse ++ .ref (b + k) :: rest) (hroom : (rest.map fun v => v.category).sum ≤ 8) (hdg : decode cc pc = .ok (.invokevirtual index, 3)) (hcs : cells ≤ R.cells ∧ slots ≤ R.slots)
    (kk : ∀ (H1 : Heap) (locs1 : List Loc), va_P z.1 vwCl (pw d N b M') H1 → va_S (pA N b) s.heap H1 locs1 → W p l e R s m args below meth c H1 locs1 cells slots Q (F0 m (pc + 3) ls (.long r :: rest))) : W p l e R s m args below meth c H locs cells slots Q (F0 m pc ls st0) := by
  refine va_calll (va_runV (As := As) (rest := rest) C.1 hM (cwV n C.1.2.2.2.2 (gV hl hy) rfl hrc hrs ⟨hy.2.2.2.2.1, hy.2.2.2.2.2.1, hy.2.2.2.2.2.2.1, hy.2.2.2.2.2.2.2⟩ hR) ⟨Pw_blind, va_recv C.2.1.1 hP hc (by rw [pw_get hk, hd]), fun U hU hW => ⟨rfl, by rw [hU]; exact hP, C.2.to hS hU hW⟩⟩ rfl hn hls hst (lv_room hroom) hdg hcs) hS (fun q _ h => h) (fun q h => h) (fun r2 u t H1 locs1 ht hvm hw hB hz hk1 hS1 => ?_)
  obtain ⟨rfl, rfl⟩ := hw
  exact kk H1 locs1 (by rw [← ht]; exact hB) hS1
theorem pcNl {r : Int64} (C : Cx p s m args c cc nL own z N b) (hP : va_P z.1 vwCl (pw d N b M) H) (hS : va_S (pA N b) s.heap H locs) {k ci : Nat} {fs : List Value} {Cn host : String} {T : u_T} {Nf : Nat} (hk : k < N) (hd : d k (M.1 k) (M.2 k) = .inr (ci, fs)) (hc : vwCl[ci]? = some (Cn, T, Nf)) (hM : CL l z d N b y bytes maxL ret rm (.ref (b + k) :: As) M M' r) (hy : yV Cn y bytes maxL ret n) (hl : Cond.methodLinkNest own index y host ∈ tables_1) (hrc : rm.cells = 0) (hrs : rm.slots = 0) (hn : As.length = n) (hR : rm.frames + 1 ≤ R.frames ∧ 8 + (maxL + 11) + rm.locals ≤ R.locals) (hls : ls.size = nL) (hst : st0 = As.reverse ++ .ref (b + k) :: rest) (hroom : (rest.map fun v => v.category).sum ≤ 8) (hdg : decode cc pc = .ok (.invokevirtual index, 3)) (hcs : cells ≤ R.cells ∧ slots ≤ R.slots)
    (kk : ∀ (H1 : Heap) (locs1 : List Loc), va_P z.1 vwCl (pw d N b M') H1 → va_S (pA N b) s.heap H1 locs1 → W p l e R s m args below meth c H1 locs1 cells slots Q (F0 m (pc + 3) ls (.long r :: rest))) : W p l e R s m args below meth c H locs cells slots Q (F0 m pc ls st0) := by
  refine va_calll (va_runVN (As := As) (rest := rest) C.1 hM ⟨va_cnB n C.1.2.2.2.2 (gC hy.2.2.2.1) rfl hrc hrs (C.2.1.2.1 _ hl rfl) (C.1.2.2.2.2 _ hy.2.2.1) ⟨hy.2.2.2.2.2.1, hy.2.2.2.2.2.2.1, hy.2.2.2.2.2.2.2⟩ hR, C.1.2.2.2.2 _ hy.1, C.1.2.2.2.2 _ hy.2.1⟩ ⟨Pw_blind, va_recv C.2.1.1 hP hc (by rw [pw_get hk, hd]), fun U hU hW => ⟨rfl, by rw [hU]; exact hP, C.2.to hS hU hW⟩⟩ rfl hn hls hst (lv_room hroom) hdg hcs) hS (fun q _ h => h) (fun q h => h) (fun r2 u t H1 locs1 ht hvm hw hB hz hk1 hS1 => ?_)
  obtain ⟨rfl, rfl⟩ := hw
  exact kk H1 locs1 (by rw [← ht]; exact hB) hS1
theorem pcSl {r : Int64} (C : Cx p s m args c cc nL own z N b) (hP : va_P z.1 vwCl (pw d N b M) H) (hS : va_S (pA N b) s.heap H locs) (hM : CL l z d N b y bytes maxL ret rm As M M' r) (hy : yS y bytes maxL ret n) (hl : Cond.methodLink own index y ∈ lw_good) (hrc : rm.cells = 0) (hrs : rm.slots = 0) (hn : As.length = n) (hR : rm.frames + 1 ≤ R.frames ∧ 8 + (maxL + 11) + rm.locals ≤ R.locals) (hls : ls.size = nL) (hst : st0 = As.reverse ++ rest) (hroom : (rest.map fun v => v.category).sum ≤ 8) (hdg : decode cc pc = .ok (.invokestatic index, 3)) (hcs : cells ≤ R.cells ∧ slots ≤ R.slots)
    (kk : ∀ (H1 : Heap) (locs1 : List Loc), va_P z.1 vwCl (pw d N b M') H1 → va_S (pA N b) s.heap H1 locs1 → W p l e R s m args below meth c H1 locs1 cells slots Q (F0 m (pc + 3) ls (.long r :: rest))) : W p l e R s m args below meth c H locs cells slots Q (F0 m pc ls st0) := by
  refine va_calll (va_runS (As := As) (rest := rest) C.1 hM (va_cwS n C.1.2.2.2.2 (gS hl hy) rfl hrc hrs ⟨hy.2.2.2.1, hy.2.2.2.2.1, hy.2.2.2.2.2⟩ hR) ⟨Pw_blind, fun U hU hW => ⟨rfl, by rw [hU]; exact hP, C.2.to hS hU hW⟩⟩ rfl hn hls hst (lv_room hroom) hdg hcs) hS (fun q _ h => h) (fun q h => h) (fun r2 u t H1 locs1 ht hvm hw hB hz hk1 hS1 => ?_)
  obtain ⟨rfl, rfl⟩ := hw
  exact kk H1 locs1 (by rw [← ht]; exact hB) hS1
theorem pcTl {r : Int64} (C : Cx p s m args c cc nL own z N b) (hP : va_P z.1 vwCl (pw d N b M) H) (hS : va_S (pA N b) s.heap H locs) {host : String} (hM : CL l z d N b y bytes maxL ret rm As M M' r) (hy : yS y bytes maxL ret n) (hl : Cond.methodLinkNest own index y host ∈ tables_1) (hrc : rm.cells = 0) (hrs : rm.slots = 0) (hn : As.length = n) (hR : rm.frames + 1 ≤ R.frames ∧ 8 + (maxL + 11) + rm.locals ≤ R.locals) (hls : ls.size = nL) (hst : st0 = As.reverse ++ rest) (hroom : (rest.map fun v => v.category).sum ≤ 8) (hdg : decode cc pc = .ok (.invokestatic index, 3)) (hcs : cells ≤ R.cells ∧ slots ≤ R.slots)
    (kk : ∀ (H1 : Heap) (locs1 : List Loc), va_P z.1 vwCl (pw d N b M') H1 → va_S (pA N b) s.heap H1 locs1 → W p l e R s m args below meth c H1 locs1 cells slots Q (F0 m (pc + 3) ls (.long r :: rest))) : W p l e R s m args below meth c H locs cells slots Q (F0 m pc ls st0) := by
  refine va_calll (va_runSN (As := As) (rest := rest) C.1 hM ⟨va_cnB n C.1.2.2.2.2 (gC hy.2.2.1) rfl hrc hrs (C.2.1.2.1 _ hl rfl) (C.1.2.2.2.2 _ hy.2.1) ⟨hy.2.2.2.1, hy.2.2.2.2.1, hy.2.2.2.2.2⟩ hR, C.1.2.2.2.2 _ hy.1, trivial⟩ ⟨Pw_blind, fun U hU hW => ⟨rfl, by rw [hU]; exact hP, C.2.to hS hU hW⟩⟩ rfl hn hls hst (lv_room hroom) hdg hcs) hS (fun q _ h => h) (fun q h => h) (fun r2 u t H1 locs1 ht hvm hw hB hz hk1 hS1 => ?_)
  obtain ⟨rfl, rfl⟩ := hw
  exact kk H1 locs1 (by rw [← ht]; exact hB) hS1
theorem pcVv  (C : Cx p s m args c cc nL own z N b) (hP : va_P z.1 vwCl (pw d N b M) H) (hS : va_S (pA N b) s.heap H locs) {k ci : Nat} {fs : List Value} {Cn : String} {T : u_T} {Nf : Nat} (hk : k < N) (hd : d k (M.1 k) (M.2 k) = .inr (ci, fs)) (hc : vwCl[ci]? = some (Cn, T, Nf)) (hM : CV l z d N b y bytes maxL ret rm (.ref (b + k) :: As) M M') (hy : yV Cn y bytes maxL ret n) (hl : Cond.methodLink own index y ∈ lw_good) (hrc : rm.cells = 0) (hrs : rm.slots = 0) (hn : As.length = n) (hR : rm.frames + 1 ≤ R.frames ∧ 8 + (maxL + 11) + rm.locals ≤ R.locals) (hls : ls.size = nL) (hst : st0 = As.reverse ++ .ref (b + k) :: rest) (hroom : (rest.map fun v => v.category).sum ≤ 8) (hdg : decode cc pc = .ok (.invokevirtual index, 3)) (hcs : cells ≤ R.cells ∧ slots ≤ R.slots)
    (kk : ∀ (H1 : Heap) (locs1 : List Loc), va_P z.1 vwCl (pw d N b M') H1 → va_S (pA N b) s.heap H1 locs1 → W p l e R s m args below meth c H1 locs1 cells slots Q (F0 m (pc + 3) ls (rest))) : W p l e R s m args below meth c H locs cells slots Q (F0 m pc ls st0) := by
  refine va_callv (va_runV (As := As) (rest := rest) C.1 hM (cwV n C.1.2.2.2.2 (gV hl hy) rfl hrc hrs ⟨hy.2.2.2.2.1, hy.2.2.2.2.2.1, hy.2.2.2.2.2.2.1, hy.2.2.2.2.2.2.2⟩ hR) ⟨Pw_blind, va_recv C.2.1.1 hP hc (by rw [pw_get hk, hd]), fun U hU hW => ⟨rfl, by rw [hU]; exact hP, C.2.to hS hU hW⟩⟩ rfl hn hls hst (lv_room hroom) hdg hcs) hS (fun q _ h => h) (fun q h => h) (fun u t H1 locs1 ht hvm hw hB hz hk1 hS1 => ?_)
  subst hw
  exact kk H1 locs1 (by rw [← ht]; exact hB) hS1
theorem pcNv  (C : Cx p s m args c cc nL own z N b) (hP : va_P z.1 vwCl (pw d N b M) H) (hS : va_S (pA N b) s.heap H locs) {k ci : Nat} {fs : List Value} {Cn host : String} {T : u_T} {Nf : Nat} (hk : k < N) (hd : d k (M.1 k) (M.2 k) = .inr (ci, fs)) (hc : vwCl[ci]? = some (Cn, T, Nf)) (hM : CV l z d N b y bytes maxL ret rm (.ref (b + k) :: As) M M') (hy : yV Cn y bytes maxL ret n) (hl : Cond.methodLinkNest own index y host ∈ tables_1) (hrc : rm.cells = 0) (hrs : rm.slots = 0) (hn : As.length = n) (hR : rm.frames + 1 ≤ R.frames ∧ 8 + (maxL + 11) + rm.locals ≤ R.locals) (hls : ls.size = nL) (hst : st0 = As.reverse ++ .ref (b + k) :: rest) (hroom : (rest.map fun v => v.category).sum ≤ 8) (hdg : decode cc pc = .ok (.invokevirtual index, 3)) (hcs : cells ≤ R.cells ∧ slots ≤ R.slots)
    (kk : ∀ (H1 : Heap) (locs1 : List Loc), va_P z.1 vwCl (pw d N b M') H1 → va_S (pA N b) s.heap H1 locs1 → W p l e R s m args below meth c H1 locs1 cells slots Q (F0 m (pc + 3) ls (rest))) : W p l e R s m args below meth c H locs cells slots Q (F0 m pc ls st0) := by
  refine va_callv (va_runVN (As := As) (rest := rest) C.1 hM ⟨va_cnB n C.1.2.2.2.2 (gC hy.2.2.2.1) rfl hrc hrs (C.2.1.2.1 _ hl rfl) (C.1.2.2.2.2 _ hy.2.2.1) ⟨hy.2.2.2.2.2.1, hy.2.2.2.2.2.2.1, hy.2.2.2.2.2.2.2⟩ hR, C.1.2.2.2.2 _ hy.1, C.1.2.2.2.2 _ hy.2.1⟩ ⟨Pw_blind, va_recv C.2.1.1 hP hc (by rw [pw_get hk, hd]), fun U hU hW => ⟨rfl, by rw [hU]; exact hP, C.2.to hS hU hW⟩⟩ rfl hn hls hst (lv_room hroom) hdg hcs) hS (fun q _ h => h) (fun q h => h) (fun u t H1 locs1 ht hvm hw hB hz hk1 hS1 => ?_)
  subst hw
  exact kk H1 locs1 (by rw [← ht]; exact hB) hS1
theorem pcSv  (C : Cx p s m args c cc nL own z N b) (hP : va_P z.1 vwCl (pw d N b M) H) (hS : va_S (pA N b) s.heap H locs) (hM : CV l z d N b y bytes maxL ret rm As M M') (hy : yS y bytes maxL ret n) (hl : Cond.methodLink own index y ∈ lw_good) (hrc : rm.cells = 0) (hrs : rm.slots = 0) (hn : As.length = n) (hR : rm.frames + 1 ≤ R.frames ∧ 8 + (maxL + 11) + rm.locals ≤ R.locals) (hls : ls.size = nL) (hst : st0 = As.reverse ++ rest) (hroom : (rest.map fun v => v.category).sum ≤ 8) (hdg : decode cc pc = .ok (.invokestatic index, 3)) (hcs : cells ≤ R.cells ∧ slots ≤ R.slots)
    (kk : ∀ (H1 : Heap) (locs1 : List Loc), va_P z.1 vwCl (pw d N b M') H1 → va_S (pA N b) s.heap H1 locs1 → W p l e R s m args below meth c H1 locs1 cells slots Q (F0 m (pc + 3) ls (rest))) : W p l e R s m args below meth c H locs cells slots Q (F0 m pc ls st0) := by
  refine va_callv (va_runS (As := As) (rest := rest) C.1 hM (va_cwS n C.1.2.2.2.2 (gS hl hy) rfl hrc hrs ⟨hy.2.2.2.1, hy.2.2.2.2.1, hy.2.2.2.2.2⟩ hR) ⟨Pw_blind, fun U hU hW => ⟨rfl, by rw [hU]; exact hP, C.2.to hS hU hW⟩⟩ rfl hn hls hst (lv_room hroom) hdg hcs) hS (fun q _ h => h) (fun q h => h) (fun u t H1 locs1 ht hvm hw hB hz hk1 hS1 => ?_)
  subst hw
  exact kk H1 locs1 (by rw [← ht]; exact hB) hS1
theorem pcTv  (C : Cx p s m args c cc nL own z N b) (hP : va_P z.1 vwCl (pw d N b M) H) (hS : va_S (pA N b) s.heap H locs) {host : String} (hM : CV l z d N b y bytes maxL ret rm As M M') (hy : yS y bytes maxL ret n) (hl : Cond.methodLinkNest own index y host ∈ tables_1) (hrc : rm.cells = 0) (hrs : rm.slots = 0) (hn : As.length = n) (hR : rm.frames + 1 ≤ R.frames ∧ 8 + (maxL + 11) + rm.locals ≤ R.locals) (hls : ls.size = nL) (hst : st0 = As.reverse ++ rest) (hroom : (rest.map fun v => v.category).sum ≤ 8) (hdg : decode cc pc = .ok (.invokestatic index, 3)) (hcs : cells ≤ R.cells ∧ slots ≤ R.slots)
    (kk : ∀ (H1 : Heap) (locs1 : List Loc), va_P z.1 vwCl (pw d N b M') H1 → va_S (pA N b) s.heap H1 locs1 → W p l e R s m args below meth c H1 locs1 cells slots Q (F0 m (pc + 3) ls (rest))) : W p l e R s m args below meth c H locs cells slots Q (F0 m pc ls st0) := by
  refine va_callv (va_runSN (As := As) (rest := rest) C.1 hM ⟨va_cnB n C.1.2.2.2.2 (gC hy.2.2.1) rfl hrc hrs (C.2.1.2.1 _ hl rfl) (C.1.2.2.2.2 _ hy.2.1) ⟨hy.2.2.2.1, hy.2.2.2.2.1, hy.2.2.2.2.2⟩ hR, C.1.2.2.2.2 _ hy.1, trivial⟩ ⟨Pw_blind, fun U hU hW => ⟨rfl, by rw [hU]; exact hP, C.2.to hS hU hW⟩⟩ rfl hn hls hst (lv_room hroom) hdg hcs) hS (fun q _ h => h) (fun q h => h) (fun u t H1 locs1 ht hvm hw hB hz hk1 hS1 => ?_)
  subst hw
  exact kk H1 locs1 (by rw [← ht]; exact hB) hS1
end PC
/-! a contract out of a walk -/
theorem CI.ofW {l : Launch} {z : Zt} {d : Cds} {N b : Nat} {y : MethodName} {bytes : ByteArray} {maxL : Nat} {ret : Option FieldType} {rm : Room} {av : List Value} {M M' : Mem} {r : Int32} {lv : List (Nat × Value)} (hy : plainName y.cls = true) (hav : (lg_sl av).length ≤ maxL) (hlv : lv_args 0 av = lv)
    (body : ∀ (p : Program) (e : Env) (s : State) (m : MethodId) (args : Array Value) (below : List Frame) (meth : Method) (c : Code) (ls : Array Slot), Cx p s m args c bytes maxL y.cls z N b → meth.sig.returnType = ret → meth.locks = false → va_P z.1 vwCl (pw d N b M) s.heap → va_S (pA N b) s.heap s.heap [] → lv_has ls maxL lv →
      W p l e rm s m args below meth c s.heap [] 0 0 (MQ below (va_Qi (fun (r' : Int32) (M2 : Mem) => r' = r ∧ M2 = M') (fun M2 t => va_P z.1 vwCl (pw d N b M2) t.heap) (pA N b)) args s 0 0 (pA N b)) (F0 m 0 ls [])) : CI l z d N b y bytes maxL ret rm av M M' r := by
  refine Met.ofW (cc := bytes) (maxL := maxL) (ret := ret) hy rfl ?_
  intro p e s m args below meth c s₁ B hml hv
  obtain ⟨rfl, hP, hG⟩ := hv
  have hts := atoms_spec (ws := Cond.code y bytes maxL ret :: lw_good) B.pre
  rw [lg_entry_eq]
  exact body p e s m _ below meth c _ ⟨⟨B.exec, B.bytes, hml, findClass_of_methodNamed B.named, fun w hw => hts w (List.mem_cons_of_mem _ hw)⟩, hG⟩ B.returns B.notSynchronized hP va_S.rf (hlv ▸ lv_entry av hav)
theorem CL.ofW {l : Launch} {z : Zt} {d : Cds} {N b : Nat} {y : MethodName} {bytes : ByteArray} {maxL : Nat} {ret : Option FieldType} {rm : Room} {av : List Value} {M M' : Mem} {r : Int64} {lv : List (Nat × Value)} (hy : plainName y.cls = true) (hav : (lg_sl av).length ≤ maxL) (hlv : lv_args 0 av = lv)
    (body : ∀ (p : Program) (e : Env) (s : State) (m : MethodId) (args : Array Value) (below : List Frame) (meth : Method) (c : Code) (ls : Array Slot), Cx p s m args c bytes maxL y.cls z N b → meth.sig.returnType = ret → meth.locks = false → va_P z.1 vwCl (pw d N b M) s.heap → va_S (pA N b) s.heap s.heap [] → lv_has ls maxL lv →
      W p l e rm s m args below meth c s.heap [] 0 0 (MQ below (va_Ql (fun (r' : Int64) (M2 : Mem) => r' = r ∧ M2 = M') (fun M2 t => va_P z.1 vwCl (pw d N b M2) t.heap) (pA N b)) args s 0 0 (pA N b)) (F0 m 0 ls [])) : CL l z d N b y bytes maxL ret rm av M M' r := by
  refine Met.ofW (cc := bytes) (maxL := maxL) (ret := ret) hy rfl ?_
  intro p e s m args below meth c s₁ B hml hv
  obtain ⟨rfl, hP, hG⟩ := hv
  have hts := atoms_spec (ws := Cond.code y bytes maxL ret :: lw_good) B.pre
  rw [lg_entry_eq]
  exact body p e s m _ below meth c _ ⟨⟨B.exec, B.bytes, hml, findClass_of_methodNamed B.named, fun w hw => hts w (List.mem_cons_of_mem _ hw)⟩, hG⟩ B.returns B.notSynchronized hP va_S.rf (hlv ▸ lv_entry av hav)
theorem CV.ofW {l : Launch} {z : Zt} {d : Cds} {N b : Nat} {y : MethodName} {bytes : ByteArray} {maxL : Nat} {ret : Option FieldType} {rm : Room} {av : List Value} {M M' : Mem} {lv : List (Nat × Value)} (hy : plainName y.cls = true) (hav : (lg_sl av).length ≤ maxL) (hlv : lv_args 0 av = lv)
    (body : ∀ (p : Program) (e : Env) (s : State) (m : MethodId) (args : Array Value) (below : List Frame) (meth : Method) (c : Code) (ls : Array Slot), Cx p s m args c bytes maxL y.cls z N b → meth.sig.returnType = ret → meth.locks = false → va_P z.1 vwCl (pw d N b M) s.heap → va_S (pA N b) s.heap s.heap [] → lv_has ls maxL lv →
      W p l e rm s m args below meth c s.heap [] 0 0 (MQ below (va_Qv (fun (M2 : Mem) => M2 = M') (fun M2 t => va_P z.1 vwCl (pw d N b M2) t.heap) (pA N b)) args s 0 0 (pA N b)) (F0 m 0 ls [])) : CV l z d N b y bytes maxL ret rm av M M' := by
  refine Met.ofW (cc := bytes) (maxL := maxL) (ret := ret) hy rfl ?_
  intro p e s m args below meth c s₁ B hml hv
  obtain ⟨rfl, hP, hG⟩ := hv
  have hts := atoms_spec (ws := Cond.code y bytes maxL ret :: lw_good) B.pre
  rw [lg_entry_eq]
  exact body p e s m _ below meth c _ ⟨⟨B.exec, B.bytes, hml, findClass_of_methodNamed B.named, fun w hw => hts w (List.mem_cons_of_mem _ hw)⟩, hG⟩ B.returns B.notSynchronized hP va_S.rf (hlv ▸ lv_entry av hav)
section PR
variable {p : Program} {l : Launch} {e : Env} {R : Room} {s : State} {m : MethodId} {args : Array Value} {below : List Frame} {meth : Method} {c : Code} {H : Heap} {locs : List Loc} {cc : ByteArray} {nL : Nat} {own : String} {z : Zt} {d : Cds} {N b : Nat} {M M' : Mem} {pc : Nat} {ls : Array Slot}
theorem prI {r v : Int32} (C : Cx p s m args c cc nL own z N b) (hr : meth.sig.returnType = some .int) (hlocks : meth.locks = false) (hP : va_P z.1 vwCl (pw d N b M) H) (hS : va_S (pA N b) s.heap H locs) (hf : some (v, M) = some (r, M')) (hdg : decode cc pc = .ok (.ireturn, 1)) :
    W p l e R s m args below meth c H locs 0 0 (MQ below (va_Qi (fun (r' : Int32) (M2 : Mem) => r' = r ∧ M2 = M') (fun M2 t => va_P z.1 vwCl (pw d N b M2) t.heap) (pA N b)) args s 0 0 (pA N b)) (F0 m pc ls [.int v]) := by
  obtain ⟨rfl, rfl⟩ := ret_s hf
  exact W.iret C.1.1 C.1.2.1 hr (fun t ht hW => ⟨⟨v, M, rfl, ⟨rfl, rfl⟩, by show va_P _ _ _ t.heap; rw [ht]; exact hP⟩, hS.F ht⟩) hS.2.2 hdg
theorem prZ {r v : Int32} (C : Cx p s m args c cc nL own z N b) (hr : meth.sig.returnType = some .boolean) (hlocks : meth.locks = false) (hP : va_P z.1 vwCl (pw d N b M) H) (hS : va_S (pA N b) s.heap H locs) (hf : some (v, M) = some (r, M')) (hv : narrow .boolean (.int v) = .int v) (hdg : decode cc pc = .ok (.ireturn, 1)) :
    W p l e R s m args below meth c H locs 0 0 (MQ below (va_Qi (fun (r' : Int32) (M2 : Mem) => r' = r ∧ M2 = M') (fun M2 t => va_P z.1 vwCl (pw d N b M2) t.heap) (pA N b)) args s 0 0 (pA N b)) (F0 m pc ls [.int v]) := by
  obtain ⟨rfl, rfl⟩ := ret_s hf
  exact W.zret C.1.1 C.1.2.1 hr hv (fun t ht hW => ⟨⟨v, M, rfl, ⟨rfl, rfl⟩, by show va_P _ _ _ t.heap; rw [ht]; exact hP⟩, hS.F ht⟩) hS.2.2 hdg
theorem prL {r v : Int64} (C : Cx p s m args c cc nL own z N b) (hr : meth.sig.returnType = some .long) (hlocks : meth.locks = false) (hP : va_P z.1 vwCl (pw d N b M) H) (hS : va_S (pA N b) s.heap H locs) (hf : some (v, M) = some (r, M')) (hdg : decode cc pc = .ok (.lreturn, 1)) :
    W p l e R s m args below meth c H locs 0 0 (MQ below (va_Ql (fun (r' : Int64) (M2 : Mem) => r' = r ∧ M2 = M') (fun M2 t => va_P z.1 vwCl (pw d N b M2) t.heap) (pA N b)) args s 0 0 (pA N b)) (F0 m pc ls [.long v]) := by
  obtain ⟨rfl, rfl⟩ := ret_s hf
  exact W.lret C.1.1 C.1.2.1 hr (fun t ht hW => ⟨⟨v, M, rfl, ⟨rfl, rfl⟩, by show va_P _ _ _ t.heap; rw [ht]; exact hP⟩, hS.F ht⟩) hS.2.2 hdg
theorem prV {r v : Unit} (C : Cx p s m args c cc nL own z N b) (hr : meth.sig.returnType = none) (hlocks : meth.locks = false) (hP : va_P z.1 vwCl (pw d N b M) H) (hS : va_S (pA N b) s.heap H locs) (hf : some (v, M) = some (r, M')) (hdg : decode cc pc = .ok (.return_, 1)) :
    W p l e R s m args below meth c H locs 0 0 (MQ below (va_Qv (fun (M2 : Mem) => M2 = M') (fun M2 t => va_P z.1 vwCl (pw d N b M2) t.heap) (pA N b)) args s 0 0 (pA N b)) (F0 m pc ls []) := by
  obtain ⟨rfl, rfl⟩ := ret_s hf
  exact W.vret C.1.1 C.1.2.1 hr (fun t ht hW => ⟨⟨M, rfl, rfl, by show va_P _ _ _ t.heap; rw [ht]; exact hP⟩, hS.F ht⟩) hS.2.2 hdg
end PR
