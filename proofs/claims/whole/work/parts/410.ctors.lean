theorem CC.ofW {l : Launch} {z : Zt} {D : Cdr} {b : Nat} {y : MethodName} {bytes : ByteArray} {maxL : Nat} {rm : Room} {av : List Value} {N N' : Nat} {M : Mem} {Rf : Rm} {P : Mem × Rm → Prop} {mc ms : Nat} {lv : List (Nat × Value)} (hy : plainName y.cls = true) (hnm : y.name = "<init>") (hav : (lg_sl av).length ≤ maxL) (hlv : lv_args 0 av = lv)
    (body : ∀ (p : Program) (e : Env) (s : State) (m : MethodId) (args : Array Value) (below : List Frame) (meth : Method) (c : Code) (ls : Array Slot), Cq p s m args c bytes maxL y.cls z b → meth.sig.returnType = none → meth.locks = false → meth.name = "<init>" → s.heap.size = b + N → va_P z.1 vwCl (pw (dR D Rf) N b M) s.heap → va_S (Bx b) s.heap s.heap [] → lv_has ls maxL lv →
      W p l e rm s m args below meth c s.heap [] 0 0 (MQ below (va_Qv P (fun u t => va_P z.1 vwCl (pw (dR D u.2) N' b u.1) t.heap) (Bx b)) args s mc ms (Bx b)) (F0 m 0 ls [])) : CC l z D b y bytes maxL rm av N M Rf N' P mc ms := by
  refine Met.ofW (cc := bytes) (maxL := maxL) (ret := none) hy rfl ?_
  intro p e s m args below meth c s₁ B hml hv
  obtain ⟨rfl, hP, hsz, hG⟩ := hv
  have hts := atoms_spec (ws := Cond.code y bytes maxL none :: lw_good) B.pre
  have hin : meth.name = "<init>" := by rw [(name_of_methodNamed B.named B.method).1]; exact hnm
  rw [lg_entry_eq]
  exact body p e s m _ below meth c _ ⟨⟨B.exec, B.bytes, hml, findClass_of_methodNamed B.named, fun w hw => hts w (List.mem_cons_of_mem _ hw)⟩, hG⟩ B.returns B.notSynchronized hin hsz hP va_S.rf (hlv ▸ lv_entry av hav)
section QR
variable {p : Program} {l : Launch} {e : Env} {R : Room} {s : State} {m : MethodId} {args : Array Value} {below : List Frame} {meth : Method} {c : Code} {H : Heap} {locs : List Loc} {cells slots : Nat} {Q : State → Prop} {cc : ByteArray} {nL : Nat} {own : String} {z : Zt} {D : Cdr} {Rf : Rm} {N b mc ms : Nat} {M M' : Mem} {pc : Nat} {ls : Array Slot} {rest st0 As : List Value} {y : MethodName} {bytes : ByteArray} {maxL index n : Nat} {ret : Option FieldType} {rm : Room} {d : Cds}
theorem qrV {P : Mem × Rm → Prop} (C : Cq p s m args c cc nL own z b) (hr : meth.sig.returnType = none) (hlocks : meth.locks = false) (hP : va_P z.1 vwCl (pw (dR D Rf) N b M) H) (hS : va_S (Bx b) s.heap H locs) (hp : P (M, Rf)) (hdg : decode cc pc = .ok (.return_, 1)) :
    W p l e R s m args below meth c H locs mc ms (MQ below (va_Qv P (fun u t => va_P z.1 vwCl (pw (dR D u.2) N b u.1) t.heap) (Bx b)) args s mc ms (Bx b)) (F0 m pc ls []) :=
  W.vret C.1.1 C.1.2.1 hr (fun t ht hW => ⟨⟨(M, Rf), rfl, hp, by show va_P _ _ _ t.heap; rw [ht]; exact hP⟩, hS.F ht⟩) hS.2.2 hdg
/-- a method that works in the pool is called from a constructor -/
theorem qcS (C : Cq p s m args c cc nL own z b) (hP : va_P z.1 vwCl (pw d N b M) H) (hS : va_S (Bx b) s.heap H locs) (hM : CV l z d N b y bytes maxL ret rm As M M') (hy : yS y bytes maxL ret n) (hl : Cond.methodLink own index y ∈ lw_good) (hrc : rm.cells = 0) (hrs : rm.slots = 0) (hn : As.length = n) (hR : rm.frames + 1 ≤ R.frames ∧ 8 + (maxL + 11) + rm.locals ≤ R.locals) (hls : ls.size = nL) (hst : st0 = As.reverse ++ rest) (hroom : (rest.map fun v => v.category).sum ≤ 8) (hdg : decode cc pc = .ok (.invokestatic index, 3)) (hcs : cells ≤ R.cells ∧ slots ≤ R.slots)
    (kk : ∀ (H1 : Heap) (locs1 : List Loc), va_P z.1 vwCl (pw d N b M') H1 → va_S (Bx b) s.heap H1 locs1 → W p l e R s m args below meth c H1 locs1 cells slots Q (F0 m (pc + 3) ls rest)) : W p l e R s m args below meth c H locs cells slots Q (F0 m pc ls st0) := by
  have hAB : ∀ q, pA N b q → Bx b q := fun q h => h.1
  refine va_callv (va_runS (As := As) (rest := rest) C.1 hM (va_cwS n C.1.2.2.2.2 (gS hl hy) rfl hrc hrs ⟨hy.2.2.2.1, hy.2.2.2.2.1, hy.2.2.2.2.2⟩ hR) ⟨Pw_blind, fun U hU hW => ⟨rfl, by rw [hU]; exact hP, (C.2.to hS hU hW).narrow hAB⟩⟩ rfl hn hls hst (lv_room hroom) hdg hcs) hS (fun q _ h => hAB q h) hAB (fun u t H1 locs1 ht hvm hw hB hz hk1 hS1 => ?_)
  subst hw
  exact kk H1 locs1 (by rw [← ht]; exact hB) hS1
theorem qcV (C : Cq p s m args c cc nL own z b) (hP : va_P z.1 vwCl (pw d N b M) H) (hS : va_S (Bx b) s.heap H locs) {k ci : Nat} {fs : List Value} {Cn : String} {T : u_T} {Nf : Nat} (hk : k < N) (hd : d k (M.1 k) (M.2 k) = .inr (ci, fs)) (hc : vwCl[ci]? = some (Cn, T, Nf)) (hM : CV l z d N b y bytes maxL ret rm (.ref (b + k) :: As) M M') (hy : yV Cn y bytes maxL ret n) (hl : Cond.methodLink own index y ∈ lw_good) (hrc : rm.cells = 0) (hrs : rm.slots = 0) (hn : As.length = n) (hR : rm.frames + 1 ≤ R.frames ∧ 8 + (maxL + 11) + rm.locals ≤ R.locals) (hls : ls.size = nL) (hst : st0 = As.reverse ++ .ref (b + k) :: rest) (hroom : (rest.map fun v => v.category).sum ≤ 8) (hdg : decode cc pc = .ok (.invokevirtual index, 3)) (hcs : cells ≤ R.cells ∧ slots ≤ R.slots)
    (kk : ∀ (H1 : Heap) (locs1 : List Loc), va_P z.1 vwCl (pw d N b M') H1 → va_S (Bx b) s.heap H1 locs1 → W p l e R s m args below meth c H1 locs1 cells slots Q (F0 m (pc + 3) ls rest)) : W p l e R s m args below meth c H locs cells slots Q (F0 m pc ls st0) := by
  have hAB : ∀ q, pA N b q → Bx b q := fun q h => h.1
  refine va_callv (va_runV (As := As) (rest := rest) C.1 hM (cwV n C.1.2.2.2.2 (gV hl hy) rfl hrc hrs ⟨hy.2.2.2.2.1, hy.2.2.2.2.2.1, hy.2.2.2.2.2.2.1, hy.2.2.2.2.2.2.2⟩ hR) ⟨Pw_blind, va_recv C.2.1.1 hP hc (by rw [pw_get hk, hd]), fun U hU hW => ⟨rfl, by rw [hU]; exact hP, (C.2.to hS hU hW).narrow hAB⟩⟩ rfl hn hls hst (lv_room hroom) hdg hcs) hS (fun q _ h => hAB q h) hAB (fun u t H1 locs1 ht hvm hw hB hz hk1 hS1 => ?_)
  subst hw
  exact kk H1 locs1 (by rw [← ht]; exact hB) hS1
theorem qsI (C : Cq p s m args c cc nL own z b) (hP : va_P z.1 vwCl (pw (dR D Rf) N b M) H) (hS : va_S (Bx b) s.heap H locs) {k n : Nat} {i v : Int32} (hk : k < N) (hd : ∀ f g, dR D Rf k f g = .inl (z.2.1.1, n, .inl f)) (hin : vp_in i n) (hdg : decode cc pc = .ok (.iastore, 1))
    (kk : ∀ (H1 : Heap) (locs1 : List Loc), va_P z.1 vwCl (pw (dR D Rf) N b (wI M k i.toNatClampNeg v)) H1 → va_S (Bx b) s.heap H1 locs1 → W p l e R s m args below meth c H1 locs1 cells slots Q (F0 m (pc + 1) ls rest)) : W p l e R s m args below meth c H locs cells slots Q (F0 m pc ls (.int v :: .int i :: .ref (b + k) :: rest)) := by
  refine va_iast C.1.1 C.1.2.1 C.2.1.1 hP pw_DB hS k 0 (by rw [pw_get hk, hd]) rfl hin hdg (fun H1 locs1 h1 h2 h3 => kk H1 locs1 ?_ h3)
  rw [pw_set (M' := wI M k i.toNatClampNeg v) hk (by rw [wI_k, hd]) wI_o] at h1
  exact h1
end QR
theorem pr_int {s : State} : ∀ cA cB : ClassId, va_RA s cA .int → va_RA s cB .int → cA = cB := fun _ _ h1 h2 => Option.some.inj ((va_nm_int h1).symm.trans (va_nm_int h2))
theorem pr_long {s : State} : ∀ cA cB : ClassId, va_RA s cA .long → va_RA s cB .long → cA = cB := fun _ _ h1 h2 => Option.some.inj ((va_nm_long h1).symm.trans (va_nm_long h2))
theorem pr_byte {s : State} : ∀ cA cB : ClassId, va_RA s cA .byte → va_RA s cB .byte → cA = cB := fun _ _ h1 h2 => Option.some.inj ((va_nm_byte h1).symm.trans (va_nm_byte h2))
theorem pr_boolean {s : State} : ∀ cA cB : ClassId, va_RA s cA .boolean → va_RA s cB .boolean → cA = cB := fun _ _ h1 h2 => Option.some.inj ((va_nm_boolean h1).symm.trans (va_nm_boolean h2))
set_option maxHeartbeats 4000000 in
set_option maxRecDepth 100000 in
theorem wgZJ7_fill_53178_5 {p : Program} {l : Launch} {e : Env} {s : State} {m : MethodId} {args : Array Value} {below : List Frame} {meth : Method} {c : Code} {z : Zt} {b N : Nat} {d : Cds} {k0 L0 : Nat} (hk0 : k0 < N ∧ ∀ f g, d k0 f g = .inl (z.2.1.1, L0, .inl f)) (C : Cx p s m args c cJ7_fill_53178 4 RJ7 z N b) (hr : meth.sig.returnType = none) (hk : meth.locks = false) {r : Unit} {M' : Mem} {rc : Nat → List Int32 → List Int64 → Mem → Option (Unit × Mem)} {n : Nat} (q5 : ∀ (i1 : Int32) (i2 : Int32) (i3 : Int32) (M : Mem) (H : Heap) (locs : List Loc) (ls : Array Slot), rc 5 [i1, i2, i3] [] M = some (r, M') → va_P z.1 vwCl (pw d N b M) H → va_S (pA N b) s.heap H locs → lv_has ls 4 [(0, .ref (b + k0)), (1, .int i1), (2, .int i2), (3, .int i3)] → W p l e rmZJ7_fill_53178 s m args below meth c H locs 0 0 (MQ below (va_Qv (fun (M2 : Mem) => M2 = M') (fun M2 t => va_P z.1 vwCl (pw d N b M2) t.heap) (pA N b)) args s 0 0 (pA N b)) (F0 m 5 ls [])) {i1 : Int32} {i2 : Int32} {i3 : Int32} {M : Mem} {H : Heap} {locs : List Loc} {ls : Array Slot} (hf : bZJ7_fill_53178_5 k0 L0 rc n i1 i2 i3 M = some (r, M')) (hP : va_P z.1 vwCl (pw d N b M) H) (hS : va_S (pA N b) s.heap H locs) (hl : lv_has ls 4 [(0, .ref (b + k0)), (1, .int i1), (2, .int i2), (3, .int i3)]) : W p l e rmZJ7_fill_53178 s m args below meth c H locs 0 0 (MQ below (va_Qv (fun (M2 : Mem) => M2 = M') (fun M2 t => va_P z.1 vwCl (pw d N b M2) t.heap) (pA N b)) args s 0 0 (pA N b)) (F0 m 5 ls []) := by
  have hx := C.1.1
  have hb := C.1.2.1
  unfold bZJ7_fill_53178_5 at hf
  refine lv_iload_n hx hb dJ7_fill_53178_5 rfl (lv_at hl 2 rfl) ?_
  refine lv_iload_n hx hb dJ7_fill_53178_6 rfl (lv_at hl 3 rfl) ?_
  refine lv_icmp_ge (tgt := 20) hx hb dJ7_fill_53178_7 (by decide) (fun c2 => ?_) (fun c2 => ?_)
  · replace hf := ite_t c2 hf
    exact prV C hr hk hP hS hf dJ7_fill_53178_20
  · replace hf := ite_f c2 hf
    refine lv_aload_n hx hb dJ7_fill_53178_10 rfl (lv_at hl 0 rfl) ?_
    refine lv_iload_n hx hb dJ7_fill_53178_11 rfl (lv_at hl 2 rfl) ?_
    refine lv_iload_n hx hb dJ7_fill_53178_12 rfl (lv_at hl 1 rfl) ?_
    have h3 := chk_1 hf
    replace hf := chk_2 hf
    refine psI C hP hS (k := k0) hk0.1 (hk0.2) h3 dJ7_fill_53178_13 (fun M4 H locs eM4 hP hS => ?_)
    replace hf := lt_c eM4 hf
    obtain ⟨v5, ev5⟩ : ∃ v : Int32, v = i2 + (1 : Int32) := ⟨_, rfl⟩
    replace hf := lt_c ev5 hf
    refine lv_iinc (v := v5) (lv' := [(2, .int v5), (0, .ref (b + k0)), (1, .int i1), (3, .int i3)]) hx hb dJ7_fill_53178_14 hl (k := 2) rfl (by rw [ev5]; rfl) (by decide) rfl (fun ls hl => ?_)
    refine lv_goto (tgt := 5) hx hb dJ7_fill_53178_17 (by decide) ?_
    exact q5 i1 v5 i3 M4 _ _ _ hf hP hS (lv_sub hl [1, 2, 0, 3] rfl)
set_option maxHeartbeats 4000000 in
set_option maxRecDepth 100000 in
theorem wgZJ7_fill_53178_0 {p : Program} {l : Launch} {e : Env} {s : State} {m : MethodId} {args : Array Value} {below : List Frame} {meth : Method} {c : Code} {z : Zt} {b N : Nat} {d : Cds} {k0 L0 : Nat} (hk0 : k0 < N ∧ ∀ f g, d k0 f g = .inl (z.2.1.1, L0, .inl f)) (C : Cx p s m args c cJ7_fill_53178 4 RJ7 z N b) (hr : meth.sig.returnType = none) (hk : meth.locks = false) {r : Unit} {M' : Mem} {rc : Nat → List Int32 → List Int64 → Mem → Option (Unit × Mem)} {n : Nat} (q5 : ∀ (i1 : Int32) (i2 : Int32) (i3 : Int32) (M : Mem) (H : Heap) (locs : List Loc) (ls : Array Slot), rc 5 [i1, i2, i3] [] M = some (r, M') → va_P z.1 vwCl (pw d N b M) H → va_S (pA N b) s.heap H locs → lv_has ls 4 [(0, .ref (b + k0)), (1, .int i1), (2, .int i2), (3, .int i3)] → W p l e rmZJ7_fill_53178 s m args below meth c H locs 0 0 (MQ below (va_Qv (fun (M2 : Mem) => M2 = M') (fun M2 t => va_P z.1 vwCl (pw d N b M2) t.heap) (pA N b)) args s 0 0 (pA N b)) (F0 m 5 ls [])) {a1 : Int32} {M : Mem} {H : Heap} {locs : List Loc} {ls : Array Slot} (hf : bZJ7_fill_53178_0 k0 L0 rc n a1 M = some (r, M')) (hP : va_P z.1 vwCl (pw d N b M) H) (hS : va_S (pA N b) s.heap H locs) (hl : lv_has ls 4 [(0, .ref (b + k0)), (1, .int a1)]) : W p l e rmZJ7_fill_53178 s m args below meth c H locs 0 0 (MQ below (va_Qv (fun (M2 : Mem) => M2 = M') (fun M2 t => va_P z.1 vwCl (pw d N b M2) t.heap) (pA N b)) args s 0 0 (pA N b)) (F0 m 0 ls []) := by
  have hx := C.1.1
  have hb := C.1.2.1
  unfold bZJ7_fill_53178_0 at hf
  refine lv_iconst (v := (0 : Int32)) hx hb dJ7_fill_53178_0 (by decide) ?_
  refine lv_istore_n (lv' := [(2, .int (0 : Int32)), (0, .ref (b + k0)), (1, .int a1)]) hx hb dJ7_fill_53178_1 rfl hl (by decide) rfl (fun ls hl => ?_)
  refine lv_aload_n hx hb dJ7_fill_53178_2 rfl (lv_at hl 1 rfl) ?_
  refine paL C hP (k := k0) (t0 := 0) (v := (Int32.ofNat L0)) hk0.1 (hk0.2 _ _) rfl rfl dJ7_fill_53178_3 ?_
  refine lv_topi (fun v1 ev1 => ?_)
  replace hf := lt_c ev1 hf
  refine lv_istore_n (lv' := [(3, .int v1), (2, .int (0 : Int32)), (0, .ref (b + k0)), (1, .int a1)]) hx hb dJ7_fill_53178_4 rfl hl (by decide) rfl (fun ls hl => ?_)
  exact wgZJ7_fill_53178_5 (n := n) hk0 C hr hk q5 hf hP hS (lv_sub hl [2, 3, 1, 0] rfl)
set_option maxHeartbeats 4000000 in
set_option maxRecDepth 100000 in
theorem lgZJ7_fill_53178 {p : Program} {l : Launch} {e : Env} {s : State} {m : MethodId} {args : Array Value} {below : List Frame} {meth : Method} {c : Code} {z : Zt} {b N : Nat} {d : Cds} {k0 L0 : Nat} (hk0 : k0 < N ∧ ∀ f g, d k0 f g = .inl (z.2.1.1, L0, .inl f)) (C : Cx p s m args c cJ7_fill_53178 4 RJ7 z N b) (hr : meth.sig.returnType = none) (hk : meth.locks = false) {r : Unit} {M' : Mem} (n : Nat) : (∀ (i1 : Int32) (i2 : Int32) (i3 : Int32) (M : Mem) (H : Heap) (locs : List Loc) (ls : Array Slot), (rZJ7_fill_53178 k0 L0 n) 5 [i1, i2, i3] [] M = some (r, M') → va_P z.1 vwCl (pw d N b M) H → va_S (pA N b) s.heap H locs → lv_has ls 4 [(0, .ref (b + k0)), (1, .int i1), (2, .int i2), (3, .int i3)] → W p l e rmZJ7_fill_53178 s m args below meth c H locs 0 0 (MQ below (va_Qv (fun (M2 : Mem) => M2 = M') (fun M2 t => va_P z.1 vwCl (pw d N b M2) t.heap) (pA N b)) args s 0 0 (pA N b)) (F0 m 5 ls [])) := by
  induction n with
  | zero => exact fun _ _ _ _ _ _ _ hf => (by cases hf)
  | succ n ih => exact fun _ _ _ _ _ _ _ hf hP hS hl => wgZJ7_fill_53178_5 (n := n) hk0 C hr hk ih ((eZJ7_fill_53178_5 _ _ n _ _ _ _).symm.trans hf) hP hS hl
theorem cgZJ7_fill_53178 {l : Launch} {z : Zt} {b n N : Nat} {d : Cds} {k0 L0 : Nat} (hk0 : k0 < N ∧ ∀ f g, d k0 f g = .inl (z.2.1.1, L0, .inl f)) {a1 : Int32} {M M' : Mem} {r : Unit} (hf : fZJ7_fill_53178 n k0 L0 a1 M = some (r, M')) : CV l z d N b yJ7_fill_53178 cJ7_fill_53178 4 none rmZJ7_fill_53178 [.ref (b + k0), .int a1] M M' :=
  CV.ofW (lv := [(0, .ref (b + k0)), (1, .int a1)]) (by decide) (Nat.le_of_ble_eq_true rfl) rfl (fun p e s m args below meth c ls C hr hk hP hS hl => wgZJ7_fill_53178_0 (n := n) hk0 C hr hk (lgZJ7_fill_53178 hk0 C hr hk n) hf hP hS hl)

theorem dX4_init_0 : decode cX4_init 0 = .ok (.aload_n 0, 1) := by decide +kernel
theorem dX4_init_1 : decode cX4_init 1 = .ok (.invokespecial 3, 3) := by decide +kernel
theorem dX4_init_4 : decode cX4_init 4 = .ok (.aload_n 0, 1) := by decide +kernel
theorem dX4_init_5 : decode cX4_init 5 = .ok (.lconst 0, 1) := by decide +kernel
theorem dX4_init_6 : decode cX4_init 6 = .ok (.putfield 9, 3) := by decide +kernel
theorem dX4_init_9 : decode cX4_init 9 = .ok (.aload_n 0, 1) := by decide +kernel
theorem dX4_init_10 : decode cX4_init 10 = .ok (.lconst 0, 1) := by decide +kernel
theorem dX4_init_11 : decode cX4_init 11 = .ok (.putfield 15, 3) := by decide +kernel
theorem dX4_init_14 : decode cX4_init 14 = .ok (.return_, 1) := by decide +kernel
theorem y4_init_w : yI yX4_init cX4_init 1 0 := ⟨g_57, g_4, g_58, rfl, by decide, by decide, by decide +kernel⟩
abbrev rmq4_init : Room := { frames := 1, cells := 0, slots := 0, locals := 12 }
set_option maxHeartbeats 4000000 in
set_option maxRecDepth 100000 in
theorem cq4_init_k {l : Launch} {z : Zt} {b : Nat} {k : Nat} (hk : isPS k = true) {M : Mem} {Rf : Rm} : CC l z (xc z) b yX4_init cX4_init 1 rmq4_init [.ref (b + k)] (k + 1) M Rf (k + 1) (fun u => u = ((wJ (wJ M k 0 (0 : Int64)) k 1 (0 : Int64)), Rf)) 0 0 := by
  refine CC.ofW (lv := [(0, .ref (b + k))]) (by decide) rfl (Nat.le_of_ble_eq_true rfl) rfl ?_
  intro p e s m args below meth c ls C hr hk2 hnm hsz hP hS hl
  have hx := C.1.1
  have hb := C.1.2.1
  have hcl : s.heap.size + 0 = b + (k + 1) := by omega
  refine lv_aload_n hx hb dX4_init_0 rfl (lv_at hl 0 rfl) ?_
  refine W.objInit hx hb C.1.2.2.2.1 (C.1.2.2.2.2 _ g_59) (C.1.2.2.2.2 _ g_30) (C.1.2.2.2.2 _ g_31) rfl (by rw [C.1.2.2.1]; exact hl.1) rfl dX4_init_1 (Nat.le_of_ble_eq_true rfl) (Nat.le_of_ble_eq_true rfl) ?_
  refine W.eq (g2 := F0 m 4 ls []) rfl ?_
  refine lv_aload_n hx hb dX4_init_4 rfl (lv_at hl 0 rfl) ?_
  refine lv_lconst (v := (0 : Int64)) hx hb dX4_init_5 (by decide) ?_
  refine qpJ C hP hS (k := k) (j := 0) (ty := .long) (by omega) ((xr_ps hk) _ _) rfl iw_4 tyX4 tyX4_ok nmX4 (Nat.le_of_ble_eq_true rfl) g_60 rfl rfl (by decide +kernel) rfl rfl (Nat.le_of_ble_eq_true rfl) (by rw [xr_ps hk]; rfl) dX4_init_6 (fun H locs hP hS => ?_)
  obtain ⟨M1, eM1⟩ : ∃ X : Mem, X = wJ M k 0 (0 : Int64) := ⟨_, rfl⟩
  rw [← eM1] at hP
  refine lv_aload_n hx hb dX4_init_9 rfl (lv_at hl 0 rfl) ?_
  refine lv_lconst (v := (0 : Int64)) hx hb dX4_init_10 (by decide) ?_
  refine qpJ C hP hS (k := k) (j := 1) (ty := .long) (by omega) ((xr_ps hk) _ _) rfl iw_4 tyX4 tyX4_ok nmX4 (Nat.le_of_ble_eq_true rfl) g_61 rfl rfl (by decide +kernel) rfl rfl (Nat.le_of_ble_eq_true rfl) (by rw [xr_ps hk]; rfl) dX4_init_11 (fun H locs hP hS => ?_)
  obtain ⟨M2, eM2⟩ : ∃ X : Mem, X = wJ M1 k 1 (0 : Int64) := ⟨_, rfl⟩
  rw [← eM2] at hP
  exact qrV C hr hk2 hP hS (by subst eM1 eM2; rfl) dX4_init_14
theorem dX7_init_0 : decode cX7_init 0 = .ok (.aload_n 0, 1) := by decide +kernel
theorem dX7_init_1 : decode cX7_init 1 = .ok (.invokespecial 3, 3) := by decide +kernel
theorem dX7_init_4 : decode cX7_init 4 = .ok (.aload_n 0, 1) := by decide +kernel
theorem dX7_init_5 : decode cX7_init 5 = .ok (.sipush 260, 3) := by decide +kernel
theorem dX7_init_8 : decode cX7_init 8 = .ok (.newarray .int, 2) := by decide +kernel
theorem dX7_init_10 : decode cX7_init 10 = .ok (.putfield 11, 3) := by decide +kernel
theorem dX7_init_13 : decode cX7_init 13 = .ok (.aload_n 0, 1) := by decide +kernel
theorem dX7_init_14 : decode cX7_init 14 = .ok (.iconst 0, 1) := by decide +kernel
theorem dX7_init_15 : decode cX7_init 15 = .ok (.putfield 15, 3) := by decide +kernel
theorem dX7_init_18 : decode cX7_init 18 = .ok (.return_, 1) := by decide +kernel
theorem y7_init_w : yI yX7_init cX7_init 1 0 := ⟨g_35, g_2, g_36, rfl, by decide, by decide, by decide +kernel⟩
abbrev rmq7_init : Room := { frames := 1, cells := 1, slots := 260, locals := 12 }
set_option maxHeartbeats 4000000 in
set_option maxRecDepth 100000 in
theorem cq7_init_1 {l : Launch} {z : Zt} {b : Nat} {M : Mem} {Rf : Rm} : CC l z (xc z) b yX7_init cX7_init 1 rmq7_init [.ref (b + 1)] 2 M Rf 3 (fun u => u = ((wI (zM M 2) 1 1 (0 : Int32)), (uR (zR Rf 2) 1 0 (some (b + 2))))) 1 260 := by
  refine CC.ofW (lv := [(0, .ref (b + 1))]) (by decide) rfl (Nat.le_of_ble_eq_true rfl) rfl ?_
  intro p e s m args below meth c ls C hr hk2 hnm hsz hP hS hl
  have hx := C.1.1
  have hb := C.1.2.1
  have hcl : s.heap.size + 0 = b + 2 := by omega
  refine lv_aload_n hx hb dX7_init_0 rfl (lv_at hl 0 rfl) ?_
  refine W.objInit hx hb C.1.2.2.2.1 (C.1.2.2.2.2 _ g_37) (C.1.2.2.2.2 _ g_30) (C.1.2.2.2.2 _ g_31) rfl (by rw [C.1.2.2.1]; exact hl.1) rfl dX7_init_1 (Nat.le_of_ble_eq_true rfl) (Nat.le_of_ble_eq_true rfl) ?_
  refine W.eq (g2 := F0 m 4 ls []) rfl ?_
  refine lv_aload_n hx hb dX7_init_4 rfl (lv_at hl 0 rfl) ?_
  refine lv_sipush (v := (260 : Int32)) hx hb dX7_init_5 (by decide) ?_
  refine qna (atype := .int) C (by omega) (by omega) hP hS hcl g_47 rfl (a0 := (260, .inl (fun _ => 0))) (N' := 260) (t0 := 0) rfl pr_int (fun _ => rfl) (by decide) (by decide) (Nat.le_of_ble_eq_true rfl) (Nat.le_of_ble_eq_true rfl) (Nat.le_of_ble_eq_true rfl) rfl dX7_init_8 (fun H hP hS hcl => ?_)
  have hP : va_P z.1 vwCl (pw (dR (xc z) (zR Rf 2)) 3 b (zM M 2)) H := hP
  obtain ⟨M1, eM1⟩ : ∃ X : Mem, X = zM M 2 := ⟨_, rfl⟩
  rw [← eM1] at hP
  obtain ⟨R1, eR1⟩ : ∃ X : Rm, X = zR Rf 2 := ⟨_, rfl⟩
  rw [← eR1] at hP
  refine W.widen (k := 1) (n := 260) (Nat.le_of_ble_eq_true rfl) (Nat.le_of_ble_eq_true rfl) ?_
  have hcl : s.heap.size + 1 = b + 3 := by omega
  refine qpR C hnm hP hS (k := 1) (j := 0) (v := b + 2) (ty := tyX7 0) (Nat.le_of_ble_eq_true rfl) (xr_1 _ _) rfl iw_7 tyX7 tyX7_ok nmX7 (Nat.le_of_ble_eq_true rfl) g_38 rfl rfl rfl (by decide +kernel) rfl rfl (Nat.le_of_ble_eq_true rfl) rfl dX7_init_10 (fun H locs hP hS => ?_)
  obtain ⟨R2, eR2⟩ : ∃ X : Rm, X = uR R1 1 0 (some (b + 2)) := ⟨_, rfl⟩
  rw [← eR2] at hP
  refine lv_aload_n hx hb dX7_init_13 rfl (lv_at hl 0 rfl) ?_
  refine lv_iconst (v := (0 : Int32)) hx hb dX7_init_14 (by decide) ?_
  refine qpI C hP hS (k := 1) (j := 1) (ty := .int) (Nat.le_of_ble_eq_true rfl) (xr_1 _ _) rfl iw_7 tyX7 tyX7_ok nmX7 (Nat.le_of_ble_eq_true rfl) g_40 rfl rfl (by decide +kernel) rfl rfl (Nat.le_of_ble_eq_true rfl) rfl dX7_init_15 (fun H locs hP hS => ?_)
  obtain ⟨M3, eM3⟩ : ∃ X : Mem, X = wI M1 1 1 (0 : Int32) := ⟨_, rfl⟩
  rw [← eM3] at hP
  exact qrV C hr hk2 hP hS (by subst eM1 eR1 eR2 eM3; rfl) dX7_init_18
