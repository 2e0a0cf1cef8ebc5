/-! words: those of the tables that stay good over calls -/
def lw_good : List Cond := lw_tbl.filter goodWord
theorem gw {w : Cond} (i : Nat) (h : tables_1[i]? = some w) (g : goodWord w = true) : w ∈ lw_good := List.mem_filter.mpr ⟨List.mem_append_right _ (List.mem_of_getElem? h), g⟩
theorem gp {w : Cond} (i : Nat) (h : (k2_sels lw_privs)[i]? = some w) (g : goodWord w = true) : w ∈ lw_good := List.mem_filter.mpr ⟨List.mem_append_left _ (List.mem_of_getElem? h), g⟩
theorem gins {ws : List Cond} (ps : List Nat) (h : ws = ps.filterMap (fun i => tables_1[i]?)) (g : ws.all goodWord = true) : ∀ w ∈ ws, w ∈ lw_good := by
  intro w hw
  have hg := List.all_eq_true.mp g w hw
  rw [h] at hw
  obtain ⟨i, -, hi⟩ := List.mem_filterMap.mp hw
  exact gw i hi hg
theorem gdd {w : Cond} (h : w ∈ lw_good) : (w.onTables && w.keeps) = true ∨ ∃ ty, w = .arrayClass ty := good_of_word (List.mem_filter.mp h).2
/-- the bundle of words that a call of y needs, the link apart -/
def yV (C : String) (y : MethodName) (bytes : ByteArray) (maxL : Nat) (ret : Option FieldType) (n : Nat) : Prop := Cond.instanceMethod y ∈ lw_good ∧ Cond.selects C y y ∈ lw_good ∧ Cond.initialized y.cls ∈ lw_good ∧ Cond.code y bytes maxL ret ∈ lw_good ∧ y.cls = C ∧ y.cls ≠ "java/lang/invoke/MethodHandle" ∧ y.cls ≠ "java/lang/invoke/VarHandle" ∧ (parseMethodDescriptor y.desc).map (fun d => d.parameters.length) = some n
def yS (y : MethodName) (bytes : ByteArray) (maxL : Nat) (ret : Option FieldType) (n : Nat) : Prop := Cond.static y ∈ lw_good ∧ Cond.initialized y.cls ∈ lw_good ∧ Cond.code y bytes maxL ret ∈ lw_good ∧ y.cls ≠ "java/lang/invoke/MethodHandle" ∧ y.cls ≠ "java/lang/invoke/VarHandle" ∧ (parseMethodDescriptor y.desc).map (fun d => d.parameters.length) = some n
theorem gV {own C : String} {index maxL n : Nat} {y : MethodName} {bytes : ByteArray} {ret : Option FieldType} (h1 : Cond.methodLink own index y ∈ lw_good) (h : yV C y bytes maxL ret n) : GoodIn lw_good (wsV own index C y (Cond.code y bytes maxL ret :: lw_good)) := by
  intro w hw
  obtain ⟨h2, h3, h4, h5, h6, -⟩ := h
  subst h6
  have : w ∈ lw_good := by
    simp only [wsV, List.cons_append, List.nil_append, List.mem_cons] at hw
    rcases hw with rfl | rfl | rfl | rfl | rfl | hw
    · exact h1
    · exact h2
    · exact h3
    · exact h4
    · exact h5
    · exact hw
  exact ⟨this, gdd this⟩
theorem gS {own : String} {index maxL n : Nat} {y : MethodName} {bytes : ByteArray} {ret : Option FieldType} (h1 : Cond.methodLink own index y ∈ lw_good) (h : yS y bytes maxL ret n) : GoodIn lw_good (va_wsS own index y (Cond.code y bytes maxL ret :: lw_good)) := by
  intro w hw
  obtain ⟨h2, h3, h4, -⟩ := h
  have : w ∈ lw_good := by
    simp only [va_wsS, List.cons_append, List.nil_append, List.mem_cons] at hw
    rcases hw with rfl | rfl | rfl | rfl | hw
    · exact h1
    · exact h2
    · exact h3
    · exact h4
    · exact hw
  exact ⟨this, gdd this⟩
theorem gC {y : MethodName} {bytes : ByteArray} {maxL : Nat} {ret : Option FieldType} (h : Cond.code y bytes maxL ret ∈ lw_good) : GoodIn lw_good (Cond.code y bytes maxL ret :: lw_good) := by
  intro w hw
  have : w ∈ lw_good := by
    rcases List.mem_cons.mp hw with rfl | hw
    · exact h
    · exact hw
  exact ⟨this, gdd this⟩
def isNest : Cond → Bool
  | .fieldLinkNest _ _ _ _ _ _ => true
  | .methodLinkNest _ _ _ _ => true
  | _ => false
/-! the memory of a pool: by cell and place -/
abbrev Mem : Type := (Nat → Nat → Int32) × (Nat → Nat → Int64)
def wI (M : Mem) (k j : Nat) (v : Int32) : Mem := (fun a i => if a = k then (if i = j then v else M.1 a i) else M.1 a i, M.2)
def wJ (M : Mem) (k j : Nat) (v : Int64) : Mem := (M.1, fun a i => if a = k then (if i = j then v else M.2 a i) else M.2 a i)
/-- a whole row of a cell anew -/
def wR (M : Mem) (k : Nat) (f : Nat → Int32) : Mem := (fun a i => if a = k then f i else M.1 a i, M.2)
abbrev Cds : Type := Nat → (Nat → Int32) → (Nat → Int64) → va_E
def pw (d : Cds) (N b : Nat) (M : Mem) : va_W := (List.range N).map (fun k => (b + k, d k (M.1 k) (M.2 k)))
def pA (N b : Nat) : Nat → Prop := fun q => b ≤ q ∧ q < b + N
theorem pw_get {d : Cds} {N b k : Nat} {M : Mem} (h : k < N) : (pw d N b M)[k]? = some (b + k, d k (M.1 k) (M.2 k)) := by
  simp [pw, h]
theorem pw_at {d : Cds} {N b k : Nat} {M : Mem} {q : Nat × va_E} (h : (pw d N b M)[k]? = some q) : k < N ∧ q = (b + k, d k (M.1 k) (M.2 k)) := by
  have hk : k < N := by
    have := (List.getElem?_eq_some_iff.mp h).1
    simpa [pw] using this
  rw [pw_get hk] at h
  exact ⟨hk, (Option.some.inj h).symm⟩
theorem pw_D {d : Cds} {N b : Nat} {M : Mem} : va_D (pA N b) (pw d N b M) := by
  refine ⟨fun i j p q hi hj h => ?_, fun k q h => ?_⟩
  · obtain ⟨h1, rfl⟩ := pw_at hi
    obtain ⟨h2, rfl⟩ := pw_at hj
    simp only at h
    omega
  · obtain ⟨h1, rfl⟩ := pw_at h
    simp only [pA]
    omega
theorem pw_set {d : Cds} {N b k : Nat} {M M' : Mem} {e : va_E} (hk : k < N) (he : e = d k (M'.1 k) (M'.2 k)) (ho : ∀ a, a ≠ k → M'.1 a = M.1 a ∧ M'.2 a = M.2 a) : (pw d N b M).set k (b + k, e) = pw d N b M' := by
  apply List.ext_getElem?
  intro i
  rw [List.getElem?_set]
  by_cases h : k = i
  · subst h
    rw [if_pos rfl, if_pos (by simp [pw, hk]), pw_get hk, he]
  · rw [if_neg h]
    by_cases hi : i < N
    · rw [pw_get hi, pw_get hi, (ho i (Ne.symm h)).1, (ho i (Ne.symm h)).2]
    · have h1 : N ≤ i := Nat.not_lt.mp hi
      rw [List.getElem?_eq_none (by simp [pw, h1]), List.getElem?_eq_none (by simp [pw, h1])]
theorem wI_o {M : Mem} {k j : Nat} {v : Int32} : ∀ a, a ≠ k → (wI M k j v).1 a = M.1 a ∧ (wI M k j v).2 a = M.2 a := by
  intro a h
  exact ⟨by funext i; simp [wI, h], rfl⟩
theorem wJ_o {M : Mem} {k j : Nat} {v : Int64} : ∀ a, a ≠ k → (wJ M k j v).1 a = M.1 a ∧ (wJ M k j v).2 a = M.2 a := by
  intro a h
  exact ⟨rfl, by funext i; simp [wJ, h]⟩
theorem wR_o {M : Mem} {k : Nat} {f : Nat → Int32} : ∀ a, a ≠ k → (wR M k f).1 a = M.1 a ∧ (wR M k f).2 a = M.2 a := by
  intro a h
  exact ⟨by funext i; simp [wR, h], rfl⟩
theorem wI_k {M : Mem} {k j : Nat} {v : Int32} : (wI M k j v).1 k = upd (M.1 k) j v := by
  funext i; simp [wI, upd]
theorem wJ_k {M : Mem} {k j : Nat} {v : Int64} : (wJ M k j v).2 k = vp_updL (M.2 k) j v := by
  funext i; simp [wJ, vp_updL]
theorem wR_k {M : Mem} {k : Nat} {f : Nat → Int32} : (wR M k f).1 k = f := by
  funext i; simp [wR]
theorem wI_2 {M : Mem} {k j : Nat} {v : Int32} : (wI M k j v).2 = M.2 := rfl
theorem wJ_1 {M : Mem} {k j : Nat} {v : Int64} : (wJ M k j v).1 = M.1 := rfl
theorem wR_2 {M : Mem} {k : Nat} {f : Nat → Int32} : (wR M k f).2 = M.2 := rfl
/-! what is given of the launch: classes, array classes, nest links, statics -/
abbrev Zt : Type := va_G × (ClassId × ClassId × ClassId × ClassId × ClassId) × Nat × Nat × (Nat → Nat) × (Nat → Nat)
def ztys (z : Zt) : List (ClassId × FieldType) := [(z.2.1.1, .int), (z.2.1.2.1, .long), (z.2.1.2.2.1, .byte), (z.2.1.2.2.2.1, .boolean), (z.2.1.2.2.2.2, .object "BronzeKing$PlaceSet")]
def ranksL : List Int32 := [0, 0, 5, 5, 6, 6, 6, 4, 4, 4, 3, 2, 1, 0, 0, 0]
def tensL : List Int32 := [1, 10, 100, 1000, 10000, 100000, 1000000, 10000000, 100000000]
def strLens : List Nat := [9, 5, 3]
def strByts : List (List Int32) := [[104, 100, 109, 120, 121, 119, 110, 98, 118], [43, 45, 42, 47, 37], [60, 62, 61]]
def Sx (z : Zt) (A : Nat → Prop) (U : State) (H : Heap) : Prop :=
  va_Z "BronzeKing$LawReader" "RANKS" "[I" (.ref z.2.2.1) A U H ∧ va_T .int z.2.2.1 16 (fun j => .int (ranksL.getD j 0)) A U H ∧
  va_Z "BronzeKing$Rounds" "TENS" "[I" (.ref z.2.2.2.1) A U H ∧ va_T .int z.2.2.2.1 9 (fun j => .int (tensL.getD j 0)) A U H ∧
  vk_S 3 strLens strByts z.2.2.2.2.1 z.2.2.2.2.2 A U H ∧ va_Z "java/lang/String" "COMPACT_STRINGS" "Z" (.int 1) A U H
def Kx (z : Zt) (U : State) : Prop := va_K z.1 vwCl (ztys z) U ∧ (∀ w ∈ tables_1, isNest w = true → va_Nw w U) ∧ vk_R "BronzeKing$LawReader" 100 "hdmxywnbv" (z.2.2.2.2.1 0) U ∧ vk_R "BronzeKing$LawReader" 107 "+-*/%" (z.2.2.2.2.1 1) U ∧ vk_R "BronzeKing$LawReader" 122 "<>=" (z.2.2.2.2.1 2) U
def Gx (z : Zt) (A : Nat → Prop) (U : State) : Prop := Kx z U ∧ Sx z A U U.heap
theorem isNest_warm {w : Cond} (h : isNest w = true) {s U : State} (hW : s.WarmedH U.vm) (hZ : va_Nw w s) : va_Nw w U := by
  cases w <;> first | exact va_Nw.warmF hW hZ | exact va_Nw.warmM hW hZ | (simp [isNest] at h)
theorem isNest_tab {w : Cond} (h : isNest w = true) : w.onTables = true := by
  cases w <;> first | rfl | (simp [isNest] at h)
theorem Sx.kept {z : Zt} {A : Nat → Prop} {U : State} {H H1 : Heap} (h : Sx z A U H) (hq : ∀ a : Nat, a < H.size → ¬ A a → H1[a]? = H[a]?) : Sx z A U H1 :=
  ⟨h.1.kept hq, h.2.1.kept hq, h.2.2.1.kept hq, h.2.2.2.1.kept hq, h.2.2.2.2.1.kept hq, h.2.2.2.2.2.kept hq⟩
theorem Sx.moved {z : Zt} {A : Nat → Prop} {u U : State} {H : Heap} (hvm : u.vm.Alike U.vm) (h : Sx z A u H) : Sx z A U H :=
  ⟨va_Z.moved hvm h.1, va_T.moved hvm h.2.1, va_Z.moved hvm h.2.2.1, va_T.moved hvm h.2.2.2.1, vk_S.moved hvm h.2.2.2.2.1, va_Z.moved hvm h.2.2.2.2.2⟩
theorem Kx.warm {z : Zt} {s U : State} (hW : s.WarmedH U.vm) (h : Kx z s) : Kx z U :=
  ⟨va_K.moved hW.alike h.1, fun w hw hn => isNest_warm hn hW (h.2.1 w hw hn), vk_R.warm hW h.2.2.1, vk_R.warm hW h.2.2.2.1, vk_R.warm hW h.2.2.2.2⟩
theorem Kx.same {z : Zt} {u U : State} (hv : U.vm = u.vm) (h : Kx z u) : Kx z U :=
  ⟨va_K.moved (by rw [hv]; exact Vm.Alike.refl u.vm) h.1, fun w hw hn => va_Nw.same (isNest_tab hn) hv.symm (h.2.1 w hw hn), vk_R.same hv h.2.2.1, vk_R.same hv h.2.2.2.1, vk_R.same hv h.2.2.2.2⟩
theorem Gx.to {z : Zt} {A : Nat → Prop} {s U : State} {H : Heap} {locs : List Loc} (h : Gx z A s) (hS : va_S A s.heap H locs) (hU : U.heap = H) (hW : s.WarmedH U.vm) : Gx z A U :=
  ⟨Kx.warm hW h.1, by rw [hU]; exact Sx.moved hW.alike (h.2.kept hS.2.1)⟩
theorem Gx.same {z : Zt} {A : Nat → Prop} {u U : State} (hv : U.vm = u.vm) (hh : U.heap = u.heap) (h : Gx z A u) : Gx z A U :=
  ⟨Kx.same hv h.1, by rw [hh]; exact Sx.moved (by rw [hv]; exact Vm.Alike.refl u.vm) h.2⟩
/-! contracts over a pool -/
def Pw (z : Zt) (d : Cds) (N b : Nat) (M : Mem) (U : State) : Prop := va_P z.1 vwCl (pw d N b M) U.heap ∧ Gx z (pA N b) U
def CI (l : Launch) (z : Zt) (d : Cds) (N b : Nat) (y : MethodName) (bytes : ByteArray) (maxL : Nat) (ret : Option FieldType) (rm : Room) (av : List Value) (M M' : Mem) (r : Int32) : Prop :=
  Met l y (Cond.code y bytes maxL ret :: lw_good) rm (va_Pc av (Pw z d N b M)) (va_Qi (fun (r' : Int32) (M2 : Mem) => r' = r ∧ M2 = M') (fun M2 t => va_P z.1 vwCl (pw d N b M2) t.heap) (pA N b)) 0 0 (pA N b)
def CL (l : Launch) (z : Zt) (d : Cds) (N b : Nat) (y : MethodName) (bytes : ByteArray) (maxL : Nat) (ret : Option FieldType) (rm : Room) (av : List Value) (M M' : Mem) (r : Int64) : Prop :=
  Met l y (Cond.code y bytes maxL ret :: lw_good) rm (va_Pc av (Pw z d N b M)) (va_Ql (fun (r' : Int64) (M2 : Mem) => r' = r ∧ M2 = M') (fun M2 t => va_P z.1 vwCl (pw d N b M2) t.heap) (pA N b)) 0 0 (pA N b)
def CV (l : Launch) (z : Zt) (d : Cds) (N b : Nat) (y : MethodName) (bytes : ByteArray) (maxL : Nat) (ret : Option FieldType) (rm : Room) (av : List Value) (M M' : Mem) : Prop :=
  Met l y (Cond.code y bytes maxL ret :: lw_good) rm (va_Pc av (Pw z d N b M)) (va_Qv (fun (M2 : Mem) => M2 = M') (fun M2 t => va_P z.1 vwCl (pw d N b M2) t.heap) (pA N b)) 0 0 (pA N b)
theorem Pw_blind {z : Zt} {d : Cds} {N b : Nat} {M : Mem} {av : List Value} : FrameBlind (va_Pc av (Pw z d N b M)) := fun a U g mk q => ⟨q.1, q.2.1, Gx.same (u := U) (U := U.calling g mk a) rfl rfl q.2.2⟩
/-- what stands at a method's entry -/
def Cx (p : Program) (s : State) (m : MethodId) (args : Array Value) (c : Code) (cc : ByteArray) (nL : Nat) (own : String) (z : Zt) (N b : Nat) : Prop :=
  CallFix p m c cc nL s args lw_good own ∧ Gx z (pA N b) s
section PX
variable {p : Program} {l : Launch} {e : Env} {R : Room} {s : State} {m : MethodId} {args : Array Value} {below : List Frame} {meth : Method} {c : Code} {H : Heap} {locs : List Loc} {cells slots : Nat} {Q : State → Prop} {cc : ByteArray} {nL : Nat} {own : String} {z : Zt} {d : Cds} {N b : Nat} {M : Mem} {pc : Nat} {ls : Array Slot} {rest : List Value}
/-- a field is read -/
theorem pg (C : Cx p s m args c cc nL own z N b) (hP : va_P z.1 vwCl (pw d N b M) H) {k ci j index : Nat} {Cn ref : String} {T : u_T} {Nf : Nat} {fs : List Value} {v : Value} (hk : k < N) (hd : d k (M.1 k) (M.2 k) = .inr (ci, fs)) (hc : vwCl[ci]? = some (Cn, T, Nf)) (hin : ∀ w ∈ u_ws Cn T Nf, w ∈ lw_good) (hj : j < Nf) (hlink : Cond.fieldLink own index ref (T j).2.1 (T j).2.2.1 ∈ lw_good) (hsame : (T j).1 = ref) (hv : fs[j]? = some v) (hdg : decode cc pc = .ok (.getfield index, 3))
    (kk : W p l e R s m args below meth c H locs cells slots Q (F0 m (pc + 3) ls (v :: rest))) : W p l e R s m args below meth c H locs cells slots Q (F0 m pc ls (.ref (b + k) :: rest)) :=
  va_get C.1.1 C.1.2.1 C.1.2.2.2.2 hin C.1.2.2.2.1 C.2.1.1 hP k (by rw [pw_get hk, hd]) hc j hj (C.1.2.2.2.2 _ hlink) (fun x h => by rw [← hsame]; exact h) hv hdg kk
theorem pgN (C : Cx p s m args c cc nL own z N b) (hP : va_P z.1 vwCl (pw d N b M) H) {k ci j index : Nat} {Cn ref host : String} {T : u_T} {Nf : Nat} {fs : List Value} {v : Value} (hk : k < N) (hd : d k (M.1 k) (M.2 k) = .inr (ci, fs)) (hc : vwCl[ci]? = some (Cn, T, Nf)) (hin : ∀ w ∈ u_ws Cn T Nf, w ∈ lw_good) (hj : j < Nf) (hlink : Cond.fieldLinkNest own index ref (T j).2.1 (T j).2.2.1 host ∈ tables_1) (hsame : (T j).1 = ref) (hv : fs[j]? = some v) (hdg : decode cc pc = .ok (.getfield index, 3))
    (kk : W p l e R s m args below meth c H locs cells slots Q (F0 m (pc + 3) ls (v :: rest))) : W p l e R s m args below meth c H locs cells slots Q (F0 m pc ls (.ref (b + k) :: rest)) :=
  va_getN C.1.1 C.1.2.1 C.1.2.2.2.2 hin C.1.2.2.2.1 C.2.1.1 hP k (by rw [pw_get hk, hd]) hc j hj (va_Nw.use rfl (C.2.1.2.1 _ hlink rfl)) (fun x h => by rw [← hsame]; exact h) hv hdg kk
/-- a field of int or boolean is written -/
theorem ppI (C : Cx p s m args c cc nL own z N b) (hP : va_P z.1 vwCl (pw d N b M) H) (hS : va_S (pA N b) s.heap H locs) {k ci j index : Nat} {Cn ref : String} {T : u_T} {Nf : Nat} {fs : List Value} {v : Int32} {ty : FieldType} (hk : k < N) (hd : d k (M.1 k) (M.2 k) = .inr (ci, fs)) (hc : vwCl[ci]? = some (Cn, T, Nf)) (hin : ∀ w ∈ u_ws Cn T Nf, w ∈ lw_good) (ty0 : Nat → FieldType) (hty : ∀ k, k < Nf → parseFieldDescriptor (T k).2.2.1 = some (ty0 k)) (hnm : ∀ a, a < Nf → ∀ b, b < Nf → a ≠ b → (T a).2.1 ≠ (T b).2.1) (hj : j < Nf) (hlink : Cond.fieldLink own index ref (T j).2.1 (T j).2.2.1 ∈ lw_good) (hsame : (T j).1 = ref) (hfin : (T j).2.2.2 = false) (hdd : parseFieldDescriptor (T j).2.2.1 = some ty) (hn : narrow ty (.int v) = .int v) (hfit : fits ty (.int v) = true) (hl : j < fs.length) (hd' : Sum.inr (ci, fs.set j (.int v)) = d k (upd (M.1 k) j v) (M.2 k)) (hdg : decode cc pc = .ok (.putfield index, 3))
    (kk : ∀ (M1 : Mem) (H1 : Heap) (locs1 : List Loc), M1 = wI M k j v → va_P z.1 vwCl (pw d N b M1) H1 → va_S (pA N b) s.heap H1 locs1 → W p l e R s m args below meth c H1 locs1 cells slots Q (F0 m (pc + 3) ls rest)) : W p l e R s m args below meth c H locs cells slots Q (F0 m pc ls (.int v :: .ref (b + k) :: rest)) := by
  refine va_put C.1.1 C.1.2.1 C.1.2.2.2.2 hin ty0 hty hnm C.1.2.2.2.1 C.2.1.1 hP pw_D hS k (by rw [pw_get hk, hd]) hc j hj (C.1.2.2.2.2 _ hlink) (fun x h => by rw [← hsame]; exact h) hfin hdd hn hfit hl hdg (fun H1 locs1 h1 h2 h3 => kk _ H1 locs1 rfl ?_ h3)
  rw [pw_set (M' := wI M k j v) hk (by rw [wI_k, wI_2]; exact hd') wI_o] at h1
  exact h1
theorem ppIN (C : Cx p s m args c cc nL own z N b) (hP : va_P z.1 vwCl (pw d N b M) H) (hS : va_S (pA N b) s.heap H locs) {k ci j index : Nat} {Cn ref host : String} {T : u_T} {Nf : Nat} {fs : List Value} {v : Int32} {ty : FieldType} (hk : k < N) (hd : d k (M.1 k) (M.2 k) = .inr (ci, fs)) (hc : vwCl[ci]? = some (Cn, T, Nf)) (hin : ∀ w ∈ u_ws Cn T Nf, w ∈ lw_good) (ty0 : Nat → FieldType) (hty : ∀ k, k < Nf → parseFieldDescriptor (T k).2.2.1 = some (ty0 k)) (hnm : ∀ a, a < Nf → ∀ b, b < Nf → a ≠ b → (T a).2.1 ≠ (T b).2.1) (hj : j < Nf) (hlink : Cond.fieldLinkNest own index ref (T j).2.1 (T j).2.2.1 host ∈ tables_1) (hsame : (T j).1 = ref) (hfin : (T j).2.2.2 = false) (hdd : parseFieldDescriptor (T j).2.2.1 = some ty) (hn : narrow ty (.int v) = .int v) (hfit : fits ty (.int v) = true) (hl : j < fs.length) (hd' : Sum.inr (ci, fs.set j (.int v)) = d k (upd (M.1 k) j v) (M.2 k)) (hdg : decode cc pc = .ok (.putfield index, 3))
    (kk : ∀ (M1 : Mem) (H1 : Heap) (locs1 : List Loc), M1 = wI M k j v → va_P z.1 vwCl (pw d N b M1) H1 → va_S (pA N b) s.heap H1 locs1 → W p l e R s m args below meth c H1 locs1 cells slots Q (F0 m (pc + 3) ls rest)) : W p l e R s m args below meth c H locs cells slots Q (F0 m pc ls (.int v :: .ref (b + k) :: rest)) := by
  refine va_putN C.1.1 C.1.2.1 C.1.2.2.2.2 hin ty0 hty hnm C.1.2.2.2.1 C.2.1.1 hP pw_D hS k (by rw [pw_get hk, hd]) hc j hj (va_Nw.use rfl (C.2.1.2.1 _ hlink rfl)) (fun x h => by rw [← hsame]; exact h) hfin hdd hn hfit hl hdg (fun H1 locs1 h1 h2 h3 => kk _ H1 locs1 rfl ?_ h3)
  rw [pw_set (M' := wI M k j v) hk (by rw [wI_k, wI_2]; exact hd') wI_o] at h1
  exact h1
theorem ppJ (C : Cx p s m args c cc nL own z N b) (hP : va_P z.1 vwCl (pw d N b M) H) (hS : va_S (pA N b) s.heap H locs) {k ci j index : Nat} {Cn ref : String} {T : u_T} {Nf : Nat} {fs : List Value} {v : Int64} {ty : FieldType} (hk : k < N) (hd : d k (M.1 k) (M.2 k) = .inr (ci, fs)) (hc : vwCl[ci]? = some (Cn, T, Nf)) (hin : ∀ w ∈ u_ws Cn T Nf, w ∈ lw_good) (ty0 : Nat → FieldType) (hty : ∀ k, k < Nf → parseFieldDescriptor (T k).2.2.1 = some (ty0 k)) (hnm : ∀ a, a < Nf → ∀ b, b < Nf → a ≠ b → (T a).2.1 ≠ (T b).2.1) (hj : j < Nf) (hlink : Cond.fieldLink own index ref (T j).2.1 (T j).2.2.1 ∈ lw_good) (hsame : (T j).1 = ref) (hfin : (T j).2.2.2 = false) (hdd : parseFieldDescriptor (T j).2.2.1 = some ty) (hn : narrow ty (.long v) = .long v) (hfit : fits ty (.long v) = true) (hl : j < fs.length) (hd' : Sum.inr (ci, fs.set j (.long v)) = d k (M.1 k) (vp_updL (M.2 k) j v)) (hdg : decode cc pc = .ok (.putfield index, 3))
    (kk : ∀ (M1 : Mem) (H1 : Heap) (locs1 : List Loc), M1 = wJ M k j v → va_P z.1 vwCl (pw d N b M1) H1 → va_S (pA N b) s.heap H1 locs1 → W p l e R s m args below meth c H1 locs1 cells slots Q (F0 m (pc + 3) ls rest)) : W p l e R s m args below meth c H locs cells slots Q (F0 m pc ls (.long v :: .ref (b + k) :: rest)) := by
  refine va_put C.1.1 C.1.2.1 C.1.2.2.2.2 hin ty0 hty hnm C.1.2.2.2.1 C.2.1.1 hP pw_D hS k (by rw [pw_get hk, hd]) hc j hj (C.1.2.2.2.2 _ hlink) (fun x h => by rw [← hsame]; exact h) hfin hdd hn hfit hl hdg (fun H1 locs1 h1 h2 h3 => kk _ H1 locs1 rfl ?_ h3)
  rw [pw_set (M' := wJ M k j v) hk (by rw [wJ_k, wJ_1]; exact hd') wJ_o] at h1
  exact h1
/-- an index that is inside -/
def inb (i : Int32) (n : Nat) : Bool := decide (¬ (i < 0 ∨ n ≤ i.toNatClampNeg))
theorem inb_in {i : Int32} {n : Nat} (h : inb i n = true) : vp_in i n := of_decide_eq_true (p := ¬ (i < 0 ∨ n ≤ i.toNatClampNeg)) h
theorem paI (C : Cx p s m args c cc nL own z N b) (hP : va_P z.1 vwCl (pw d N b M) H) {k n : Nat} {i : Int32} (hk : k < N) (hd : d k (M.1 k) (M.2 k) = .inl (z.2.1.1, n, .inl (M.1 k))) (hin : inb i n = true) (hdg : decode cc pc = .ok (.iaload, 1))
    (kk : W p l e R s m args below meth c H locs cells slots Q (F0 m (pc + 1) ls (.int (M.1 k i.toNatClampNeg) :: rest))) : W p l e R s m args below meth c H locs cells slots Q (F0 m pc ls (.int i :: .ref (b + k) :: rest)) :=
  va_iald C.1.1 C.1.2.1 C.2.1.1 hP k 0 (by rw [pw_get hk, hd]) rfl (inb_in hin) hdg kk
theorem paJ (C : Cx p s m args c cc nL own z N b) (hP : va_P z.1 vwCl (pw d N b M) H) {k n : Nat} {i : Int32} (hk : k < N) (hd : d k (M.1 k) (M.2 k) = .inl (z.2.1.2.1, n, .inr (.inl (M.2 k)))) (hin : inb i n = true) (hdg : decode cc pc = .ok (.laload, 1))
    (kk : W p l e R s m args below meth c H locs cells slots Q (F0 m (pc + 1) ls (.long (M.2 k i.toNatClampNeg) :: rest))) : W p l e R s m args below meth c H locs cells slots Q (F0 m pc ls (.int i :: .ref (b + k) :: rest)) :=
  va_lald C.1.1 C.1.2.1 C.2.1.1 hP k 1 (by rw [pw_get hk, hd]) rfl (inb_in hin) hdg kk
theorem paB (C : Cx p s m args c cc nL own z N b) (hP : va_P z.1 vwCl (pw d N b M) H) {k n : Nat} {i : Int32} (hk : k < N) (hd : d k (M.1 k) (M.2 k) = .inl (z.2.1.2.2.1, n, .inl (M.1 k))) (hin : inb i n = true) (hdg : decode cc pc = .ok (.baload, 1))
    (kk : W p l e R s m args below meth c H locs cells slots Q (F0 m (pc + 1) ls (.int (M.1 k i.toNatClampNeg) :: rest))) : W p l e R s m args below meth c H locs cells slots Q (F0 m pc ls (.int i :: .ref (b + k) :: rest)) :=
  va_bald C.1.1 C.1.2.1 C.2.1.1 hP k 2 (by rw [pw_get hk, hd]) rfl (inb_in hin) hdg kk
theorem paL (C : Cx p s m args c cc nL own z N b) (hP : va_P z.1 vwCl (pw d N b M) H) {k : Nat} {x : vp_A} {t0 : Nat} {cA : ClassId} {ty : FieldType} {v : Int32} (hk : k < N) (hd : d k (M.1 k) (M.2 k) = .inl (cA, x)) (ht : (ztys z)[t0]? = some (cA, ty)) (hv : Int32.ofNat x.1 = v) (hdg : decode cc pc = .ok (.arraylength, 1))
    (kk : W p l e R s m args below meth c H locs cells slots Q (F0 m (pc + 1) ls (.int v :: rest))) : W p l e R s m args below meth c H locs cells slots Q (F0 m pc ls (.ref (b + k) :: rest)) :=
  va_alen C.1.1 C.1.2.1 C.2.1.1 hP k t0 (by rw [pw_get hk, hd]) ht hv hdg kk
theorem paO (C : Cx p s m args c cc nL own z N b) (hP : va_P z.1 vwCl (pw d N b M) H) {k n : Nat} {i : Int32} {f : Nat → Option Nat} {k2 : Nat} (hk : k < N) (hd : d k (M.1 k) (M.2 k) = .inl (z.2.1.2.2.2.2, n, .inr (.inr (.inr (.inr f))))) (hin : inb i n = true) (hf : f i.toNatClampNeg = some (b + k2)) (hdg : decode cc pc = .ok (.aaload, 1))
    (kk : W p l e R s m args below meth c H locs cells slots Q (F0 m (pc + 1) ls (.ref (b + k2) :: rest))) : W p l e R s m args below meth c H locs cells slots Q (F0 m pc ls (.int i :: .ref (b + k) :: rest)) :=
  va_aldq C.1.1 C.1.2.1 C.2.1.1 hP k 4 (by rw [pw_get hk, hd]) rfl (inb_in hin) hdg (by rw [hf]; exact kk)
theorem psI (C : Cx p s m args c cc nL own z N b) (hP : va_P z.1 vwCl (pw d N b M) H) (hS : va_S (pA N b) s.heap H locs) {k n : Nat} {i v : Int32} (hk : k < N) (hd : ∀ f g, d k f g = .inl (z.2.1.1, n, .inl f)) (hin : inb i n = true) (hdg : decode cc pc = .ok (.iastore, 1))
    (kk : ∀ (M1 : Mem) (H1 : Heap) (locs1 : List Loc), M1 = wI M k i.toNatClampNeg v → va_P z.1 vwCl (pw d N b M1) H1 → va_S (pA N b) s.heap H1 locs1 → W p l e R s m args below meth c H1 locs1 cells slots Q (F0 m (pc + 1) ls rest)) : W p l e R s m args below meth c H locs cells slots Q (F0 m pc ls (.int v :: .int i :: .ref (b + k) :: rest)) := by
  refine va_iast C.1.1 C.1.2.1 C.2.1.1 hP pw_D hS k 0 (by rw [pw_get hk, hd]) rfl (inb_in hin) hdg (fun H1 locs1 h1 h2 h3 => kk _ H1 locs1 rfl ?_ h3)
  rw [pw_set (M' := wI M k i.toNatClampNeg v) hk (by rw [wI_k, hd]) wI_o] at h1
  exact h1
theorem psB (C : Cx p s m args c cc nL own z N b) (hP : va_P z.1 vwCl (pw d N b M) H) (hS : va_S (pA N b) s.heap H locs) {k n : Nat} {i v : Int32} (hk : k < N) (hd : ∀ f g, d k f g = .inl (z.2.1.2.2.1, n, .inl f)) (hin : inb i n = true) (hdg : decode cc pc = .ok (.bastore, 1))
    (kk : ∀ (M1 : Mem) (H1 : Heap) (locs1 : List Loc), M1 = wI M k i.toNatClampNeg v.toInt8.toInt32 → va_P z.1 vwCl (pw d N b M1) H1 → va_S (pA N b) s.heap H1 locs1 → W p l e R s m args below meth c H1 locs1 cells slots Q (F0 m (pc + 1) ls rest)) : W p l e R s m args below meth c H locs cells slots Q (F0 m pc ls (.int v :: .int i :: .ref (b + k) :: rest)) := by
  refine va_bast C.1.1 C.1.2.1 C.2.1.1 hP pw_D hS k 2 (by rw [pw_get hk, hd]) rfl (inb_in hin) hdg (fun H1 locs1 h1 h2 h3 => kk _ H1 locs1 rfl ?_ h3)
  rw [vp_nar_byte, pw_set (M' := wI M k i.toNatClampNeg v.toInt8.toInt32) hk (by rw [wI_k, hd]) wI_o] at h1
  exact h1
theorem psJ (C : Cx p s m args c cc nL own z N b) (hP : va_P z.1 vwCl (pw d N b M) H) (hS : va_S (pA N b) s.heap H locs) {k n : Nat} {i : Int32} {v : Int64} (hk : k < N) (hd : ∀ f g, d k f g = .inl (z.2.1.2.1, n, .inr (.inl g))) (hin : inb i n = true) (hdg : decode cc pc = .ok (.lastore, 1))
    (kk : ∀ (M1 : Mem) (H1 : Heap) (locs1 : List Loc), M1 = wJ M k i.toNatClampNeg v → va_P z.1 vwCl (pw d N b M1) H1 → va_S (pA N b) s.heap H1 locs1 → W p l e R s m args below meth c H1 locs1 cells slots Q (F0 m (pc + 1) ls rest)) : W p l e R s m args below meth c H locs cells slots Q (F0 m pc ls (.long v :: .int i :: .ref (b + k) :: rest)) := by
  refine va_last C.1.1 C.1.2.1 C.2.1.1 hP pw_D hS k 1 (by rw [pw_get hk, hd]) rfl (inb_in hin) hdg (fun H1 locs1 h1 h2 h3 => kk _ H1 locs1 rfl ?_ h3)
  rw [pw_set (M' := wJ M k i.toNatClampNeg v) hk (by rw [wJ_k, hd]) wJ_o] at h1
  exact h1
end PX
