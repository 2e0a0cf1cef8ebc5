theorem CC.ofW {l : Launch} {z : Zt} {D : Cdr} {b : Nat} {y : MethodName} {bytes : ByteArray} {maxL : Nat} {rm : Room} {av : List Value} {N N' : Nat} {M : Mem} {Rf : Rm} {P : Mem × Rm → Prop} {mc ms : Nat} {lv : List (Nat × Value)} (hy : plainName y.cls = true) (hnm : y.name = "<init>") (hav : (lg_sl av).length ≤ maxL) (hlv : lv_args 0 av = lv)
    (body : ∀ (p : Program) (e : Env) (s : State) (m : MethodId) (args : Array Value) (below : List Frame) (meth : Method) (c : Code) (ls : Array Slot), Cq p s m args c bytes maxL y.cls z b → meth.sig.returnType = none → meth.locks = false → meth.name = "<init>" → va_AO "BronzeKing$PlaceSet" s → s.heap.size = b + N → va_P z.1 vwCl (pw (dR D Rf) N b M) s.heap → va_S (Bx b) s.heap s.heap [] → lv_has ls maxL lv →
      W p l e rm s m args below meth c s.heap [] 0 0 (MQ below (va_Qv P (fun u t => va_P z.1 vwCl (pw (dR D u.2) N' b u.1) t.heap) (Bx b)) args s mc ms (Bx b)) (F0 m 0 ls [])) : CC l z D b y bytes maxL rm av N M Rf N' P mc ms := by
  refine Met.ofW (cc := bytes) (maxL := maxL) (ret := none) hy rfl ?_
  intro p e s m args below meth c s₁ B hml hv
  obtain ⟨rfl, hP, hsz, hG, hAO⟩ := hv
  have hts := atoms_spec (ws := Cond.code y bytes maxL none :: lw_good) B.pre
  have hin : meth.name = "<init>" := by rw [(name_of_methodNamed B.named B.method).1]; exact hnm
  rw [lg_entry_eq]
  exact body p e s m _ below meth c _ ⟨⟨B.exec, B.bytes, hml, findClass_of_methodNamed B.named, fun w hw => hts w (List.mem_cons_of_mem _ hw)⟩, hG⟩ B.returns B.notSynchronized hin hAO hsz hP va_S.rf (hlv ▸ lv_entry av hav)
section QR
variable {p : Program} {l : Launch} {e : Env} {R : Room} {s : State} {m : MethodId} {args : Array Value} {below : List Frame} {meth : Method} {c : Code} {H : Heap} {locs : List Loc} {cells slots : Nat} {Q : State → Prop} {cc : ByteArray} {nL : Nat} {own : String} {z : Zt} {D : Cdr} {Rf : Rm} {N b mc ms : Nat} {M M' : Mem} {pc : Nat} {ls : Array Slot} {rest st0 As : List Value} {y : MethodName} {bytes : ByteArray} {maxL index n : Nat} {ret : Option FieldType} {rm : Room} {d : Cds}
theorem qrV {P : Mem × Rm → Prop} (C : Cq p s m args c cc nL own z b) (hr : meth.sig.returnType = none) (hlocks : meth.locks = false) (hP : va_P z.1 vwCl (pw (dR D Rf) N b M) H) (hS : va_S (Bx b) s.heap H locs) (hp : P (M, Rf)) (hdg : decode cc pc = .ok (.return_, 1)) :
    W p l e R s m args below meth c H locs mc ms (MQ below (va_Qv P (fun u t => va_P z.1 vwCl (pw (dR D u.2) N b u.1) t.heap) (Bx b)) args s mc ms (Bx b)) (F0 m pc ls []) :=
  W.vret C.1.1 C.1.2.1 hr (fun t ht hW => ⟨⟨(M, Rf), rfl, hp, by show va_P _ _ _ t.heap; rw [ht]; exact hP⟩, hS.F ht⟩) hS.2.2 hdg
/-- a method that works in the pool is called from a constructor -/
theorem qcS (C : Cq p s m args c cc nL own z b) (hP : va_P z.1 vwCl (pw d N b M) H) (hS : va_S (Bx b) s.heap H locs) (hM : CV l z d N b y bytes maxL ret rm As M M') (hy : yS y bytes maxL ret n) (hl : Cond.methodLink own index y ∈ lw_good) (hrc : rm.cells = 0) (hrs : rm.slots = 0) (hn : As.length = n) (hR : rm.frames + 1 ≤ R.frames ∧ 8 + (maxL + 11) + rm.locals ≤ R.locals) (hls : ls.size = nL) (hst : st0 = As.reverse ++ rest) (hroom : (rest.map fun v => v.category).sum ≤ 8) (hdg : decode cc pc = .ok (.invokestatic index, 3)) (hcs : cells ≤ R.cells ∧ slots ≤ R.slots)
    (kk : ∀ (H1 : Heap) (locs1 : List Loc), va_P z.1 vwCl (pw d N b M') H1 → va_S (Bx b) s.heap H1 locs1 → W p l e R s m args below meth c H1 locs1 cells slots Q (F0 m (pc + 3) ls rest)) : W p l e R s m args below meth c H locs cells slots Q (F0 m pc ls st0) := by
  have hAB : ∀ q, pA N b q → Bx b q := fun q h => h.1
  refine va_callv (va_runS (As := As) (rest := rest) C.1 hM (va_cwS n C.1.2.2.2.2 (gS hl hy) rfl hrc hrs ⟨hy.2.2.2.1, hy.2.2.2.2.1, hy.2.2.2.2.2⟩ hR) ⟨Pw_blind, fun U hU hW => ⟨rfl, by rw [hU]; exact hP, (C.2.to hS hU hW).narrow hAB⟩⟩ rfl hn hls hst (lv_room hroom) hdg hcs) hS (fun q _ h => hAB q h) hAB (fun u t H1 locs1 ht hvm hw hB hz hk1 hS1 => ?_)
  subst hw
  exact kk H1 locs1 (by rw [← ht]; exact hB) hS1
theorem qcV (C : Cq p s m args c cc nL own z b) (hP : va_P z.1 vwCl (pw d N b M) H) (hS : va_S (Bx b) s.heap H locs) {k ci : Nat} {fs : List Value} {Cn : String} {T : u_T} {Nf : Nat} (hk : k < N) (hd : d k (M.1 k) (M.2 k) = .inr (ci, fs)) (hc : vwCl[ci]? = some (Cn, T, Nf)) (hM : CV l z d N b y bytes maxL ret rm (.ref (b + k) :: As) M M') (hy : yV Cn y bytes maxL ret n) (hl : Cond.methodLink own index y ∈ lw_good) (hrc : rm.cells = 0) (hrs : rm.slots = 0) (hn : As.length = n) (hR : rm.frames + 1 ≤ R.frames ∧ 8 + (maxL + 11) + rm.locals ≤ R.locals) (hls : ls.size = nL) (hst : st0 = As.reverse ++ .ref (b + k) :: rest) (hroom : (rest.map fun v => v.category).sum ≤ 8) (hdg : decode cc pc = .ok (.invokevirtual index, 3)) (hcs : cells ≤ R.cells ∧ slots ≤ R.slots)
    (kk : ∀ (H1 : Heap) (locs1 : List Loc), va_P z.1 vwCl (pw d N b M') H1 → va_S (Bx b) s.heap H1 locs1 → W p l e R s m args below meth c H1 locs1 cells slots Q (F0 m (pc + 3) ls rest)) : W p l e R s m args below meth c H locs cells slots Q (F0 m pc ls st0) := by
  have hAB : ∀ q, pA N b q → Bx b q := fun q h => h.1
  refine va_callv (va_runV (As := As) (rest := rest) C.1 hM (cwV n C.1.2.2.2.2 (gV hl hy) rfl hrc hrs ⟨hy.2.2.2.2.1, hy.2.2.2.2.2.1, hy.2.2.2.2.2.2.1, hy.2.2.2.2.2.2.2⟩ hR) ⟨Pw_blind, va_recv C.2.1.1 hP hc (by rw [pw_get hk, hd]), fun U hU hW => ⟨rfl, by rw [hU]; exact hP, (C.2.to hS hU hW).narrow hAB⟩⟩ rfl hn hls hst (lv_room hroom) hdg hcs) hS (fun q _ h => hAB q h) hAB (fun u t H1 locs1 ht hvm hw hB hz hk1 hS1 => ?_)
  subst hw
  exact kk H1 locs1 (by rw [← ht]; exact hB) hS1
theorem qsI (C : Cq p s m args c cc nL own z b) (hP : va_P z.1 vwCl (pw (dR D Rf) N b M) H) (hS : va_S (Bx b) s.heap H locs) {k n : Nat} {i v : Int32} (hk : k < N) (hd : ∀ f g, dR D Rf k f g = .inl (z.2.1.1, n, .inl f)) (hin : vp_in i n) (hdg : decode cc pc = .ok (.iastore, 1))
    (kk : ∀ (H1 : Heap) (locs1 : List Loc), va_P z.1 vwCl (pw (dR D Rf) N b (wI M k i.toNatClampNeg v)) H1 → va_S (Bx b) s.heap H1 locs1 → W p l e R s m args below meth c H1 locs1 cells slots Q (F0 m (pc + 1) ls rest)) : W p l e R s m args below meth c H locs cells slots Q (F0 m pc ls (.int v :: .int i :: .ref (b + k) :: rest)) := by
  refine va_iast C.1.1 C.1.2.1 C.2.1.1 hP pw_DB hS k 0 (by rw [pw_get hk, hd]) rfl hin hdg (fun H1 locs1 h1 h2 h3 => kk H1 locs1 ?_ h3)
  rw [pw_set (M' := wI M k i.toNatClampNeg v) hk (by rw [wI_k, hd]) wI_o] at h1
  exact h1
end QR
theorem pr_int {s : State} : ∀ cA cB : ClassId, va_RA s cA .int → va_RA s cB .int → cA = cB := fun _ _ h1 h2 => Option.some.inj ((va_nm_int h1).symm.trans (va_nm_int h2))
theorem pr_long {s : State} : ∀ cA cB : ClassId, va_RA s cA .long → va_RA s cB .long → cA = cB := fun _ _ h1 h2 => Option.some.inj ((va_nm_long h1).symm.trans (va_nm_long h2))
theorem pr_byte {s : State} : ∀ cA cB : ClassId, va_RA s cA .byte → va_RA s cB .byte → cA = cB := fun _ _ h1 h2 => Option.some.inj ((va_nm_byte h1).symm.trans (va_nm_byte h2))
theorem pr_boolean {s : State} : ∀ cA cB : ClassId, va_RA s cA .boolean → va_RA s cB .boolean → cA = cB := fun _ _ h1 h2 => Option.some.inj ((va_nm_boolean h1).symm.trans (va_nm_boolean h2))
set_option maxHeartbeats 4000000 in
set_option maxRecDepth 100000 in
theorem wgZJ7_fill_53178_5 {p : Program} {l : Launch} {e : Env} {s : State} {m : MethodId} {args : Array Value} {below : List Frame} {meth : Method} {c : Code} {z : Zt} {b N : Nat} {d : Cds} {k0 L0 : Nat} (hk0 : k0 < N ∧ ∀ f g, d k0 f g = .inl (z.2.1.1, L0, .inl f)) (C : Cx p s m args c cJ7_fill_53178 4 RJ7 z N b) (hr : meth.sig.returnType = none) (hk : meth.locks = false) {r : Unit} {M' : Mem} {rc : Nat → List Int32 → List Int64 → Mem → Option (Unit × Mem)} {n : Nat} (q5 : ∀ (i1 : Int32) (i2 : Int32) (i3 : Int32) (M : Mem) (H : Heap) (locs : List Loc) (ls : Array Slot), rc 5 [i1, i2, i3] [] M = some (r, M') → va_P z.1 vwCl (pw d N b M) H → va_S (pA N b) s.heap H locs → lv_has ls 4 [(0, .ref (b + k0)), (1, .int i1), (2, .int i2), (3, .int i3)] → W p l e rmZJ7_fill_53178 s m args below meth c H locs 0 0 (MQ below (va_Qv (fun (M2 : Mem) => M2 = M') (fun M2 t => va_P z.1 vwCl (pw d N b M2) t.heap) (pA N b)) args s 0 0 (pA N b)) (F0 m 5 ls [])) {i1 : Int32} {i2 : Int32} {i3 : Int32} {M : Mem} {H : Heap} {locs : List Loc} {ls : Array Slot} (hf : bZJ7_fill_53178_5 k0 L0 rc n i1 i2 i3 M = some (r, M')) (hP : va_P z.1 vwCl (pw d N b M) H) (hS : va_S (pA N b) s.heap H locs) (hl : lv_has ls 4 [(0, .ref (b + k0)), (1, .int i1), (2, .int i2), (3, .int i3)]) : W p l e rmZJ7_fill_53178 s m args below meth c H locs 0 0 (MQ below (va_Qv (fun (M2 : Mem) => M2 = M') (fun M2 t => va_P z.1 vwCl (pw d N b M2) t.heap) (pA N b)) args s 0 0 (pA N b)) (F0 m 5 ls []) := by
  have hx := C.1.1
  have hb := C.1.2.1
  unfold bZJ7_fill_53178_5 at hf
  refine lv_iload_n hx hb dJ7_fill_53178_5 rfl (lv_at hl 2 rfl) ?_
  refine lv_iload_n hx hb dJ7_fill_53178_6 rfl (lv_at hl 3 rfl) ?_
  refine lv_icmp_ge (tgt := 20) hx hb dJ7_fill_53178_7 (by decide) (fun c2 => ?_) (fun c2 => ?_)
  · replace hf := ite_t c2 hf
    exact prV C hr hk hP hS hf dJ7_fill_53178_20
  · replace hf := ite_f c2 hf
    refine lv_aload_n hx hb dJ7_fill_53178_10 rfl (lv_at hl 0 rfl) ?_
    refine lv_iload_n hx hb dJ7_fill_53178_11 rfl (lv_at hl 2 rfl) ?_
    refine lv_iload_n hx hb dJ7_fill_53178_12 rfl (lv_at hl 1 rfl) ?_
    have h3 := chk_1 hf
    replace hf := chk_2 hf
    refine psI C hP hS (k := k0) hk0.1 (hk0.2) h3 dJ7_fill_53178_13 (fun M4 H locs eM4 hP hS => ?_)
    replace hf := lt_c eM4 hf
    obtain ⟨v5, ev5⟩ : ∃ v : Int32, v = i2 + (1 : Int32) := ⟨_, rfl⟩
    replace hf := lt_c ev5 hf
    refine lv_iinc (v := v5) (lv' := [(2, .int v5), (0, .ref (b + k0)), (1, .int i1), (3, .int i3)]) hx hb dJ7_fill_53178_14 hl (k := 2) rfl (by rw [ev5]; rfl) (by decide) rfl (fun ls hl => ?_)
    refine lv_goto (tgt := 5) hx hb dJ7_fill_53178_17 (by decide) ?_
    exact q5 i1 v5 i3 M4 _ _ _ hf hP hS (lv_sub hl [1, 2, 0, 3] rfl)
set_option maxHeartbeats 4000000 in
set_option maxRecDepth 100000 in
theorem wgZJ7_fill_53178_0 {p : Program} {l : Launch} {e : Env} {s : State} {m : MethodId} {args : Array Value} {below : List Frame} {meth : Method} {c : Code} {z : Zt} {b N : Nat} {d : Cds} {k0 L0 : Nat} (hk0 : k0 < N ∧ ∀ f g, d k0 f g = .inl (z.2.1.1, L0, .inl f)) (C : Cx p s m args c cJ7_fill_53178 4 RJ7 z N b) (hr : meth.sig.returnType = none) (hk : meth.locks = false) {r : Unit} {M' : Mem} {rc : Nat → List Int32 → List Int64 → Mem → Option (Unit × Mem)} {n : Nat} (q5 : ∀ (i1 : Int32) (i2 : Int32) (i3 : Int32) (M : Mem) (H : Heap) (locs : List Loc) (ls : Array Slot), rc 5 [i1, i2, i3] [] M = some (r, M') → va_P z.1 vwCl (pw d N b M) H → va_S (pA N b) s.heap H locs → lv_has ls 4 [(0, .ref (b + k0)), (1, .int i1), (2, .int i2), (3, .int i3)] → W p l e rmZJ7_fill_53178 s m args below meth c H locs 0 0 (MQ below (va_Qv (fun (M2 : Mem) => M2 = M') (fun M2 t => va_P z.1 vwCl (pw d N b M2) t.heap) (pA N b)) args s 0 0 (pA N b)) (F0 m 5 ls [])) {a1 : Int32} {M : Mem} {H : Heap} {locs : List Loc} {ls : Array Slot} (hf : bZJ7_fill_53178_0 k0 L0 rc n a1 M = some (r, M')) (hP : va_P z.1 vwCl (pw d N b M) H) (hS : va_S (pA N b) s.heap H locs) (hl : lv_has ls 4 [(0, .ref (b + k0)), (1, .int a1)]) : W p l e rmZJ7_fill_53178 s m args below meth c H locs 0 0 (MQ below (va_Qv (fun (M2 : Mem) => M2 = M') (fun M2 t => va_P z.1 vwCl (pw d N b M2) t.heap) (pA N b)) args s 0 0 (pA N b)) (F0 m 0 ls []) := by
  have hx := C.1.1
  have hb := C.1.2.1
  unfold bZJ7_fill_53178_0 at hf
  refine lv_iconst (v := (0 : Int32)) hx hb dJ7_fill_53178_0 (by decide) ?_
  refine lv_istore_n (lv' := [(2, .int (0 : Int32)), (0, .ref (b + k0)), (1, .int a1)]) hx hb dJ7_fill_53178_1 rfl hl (by decide) rfl (fun ls hl => ?_)
  refine lv_aload_n hx hb dJ7_fill_53178_2 rfl (lv_at hl 1 rfl) ?_
  refine paL C hP (k := k0) (t0 := 0) (v := (Int32.ofNat L0)) hk0.1 (hk0.2 _ _) rfl rfl dJ7_fill_53178_3 ?_
  refine lv_topi (fun v1 ev1 => ?_)
  replace hf := lt_c ev1 hf
  refine lv_istore_n (lv' := [(3, .int v1), (2, .int (0 : Int32)), (0, .ref (b + k0)), (1, .int a1)]) hx hb dJ7_fill_53178_4 rfl hl (by decide) rfl (fun ls hl => ?_)
  exact wgZJ7_fill_53178_5 (n := n) hk0 C hr hk q5 hf hP hS (lv_sub hl [2, 3, 1, 0] rfl)
set_option maxHeartbeats 4000000 in
set_option maxRecDepth 100000 in
theorem lgZJ7_fill_53178 {p : Program} {l : Launch} {e : Env} {s : State} {m : MethodId} {args : Array Value} {below : List Frame} {meth : Method} {c : Code} {z : Zt} {b N : Nat} {d : Cds} {k0 L0 : Nat} (hk0 : k0 < N ∧ ∀ f g, d k0 f g = .inl (z.2.1.1, L0, .inl f)) (C : Cx p s m args c cJ7_fill_53178 4 RJ7 z N b) (hr : meth.sig.returnType = none) (hk : meth.locks = false) {r : Unit} {M' : Mem} (n : Nat) : (∀ (i1 : Int32) (i2 : Int32) (i3 : Int32) (M : Mem) (H : Heap) (locs : List Loc) (ls : Array Slot), (rZJ7_fill_53178 k0 L0 n) 5 [i1, i2, i3] [] M = some (r, M') → va_P z.1 vwCl (pw d N b M) H → va_S (pA N b) s.heap H locs → lv_has ls 4 [(0, .ref (b + k0)), (1, .int i1), (2, .int i2), (3, .int i3)] → W p l e rmZJ7_fill_53178 s m args below meth c H locs 0 0 (MQ below (va_Qv (fun (M2 : Mem) => M2 = M') (fun M2 t => va_P z.1 vwCl (pw d N b M2) t.heap) (pA N b)) args s 0 0 (pA N b)) (F0 m 5 ls [])) := by
  induction n with
  | zero => exact fun _ _ _ _ _ _ _ hf => (by cases hf)
  | succ n ih => exact fun _ _ _ _ _ _ _ hf hP hS hl => wgZJ7_fill_53178_5 (n := n) hk0 C hr hk ih ((eZJ7_fill_53178_5 _ _ n _ _ _ _).symm.trans hf) hP hS hl
theorem cgZJ7_fill_53178 {l : Launch} {z : Zt} {b n N : Nat} {d : Cds} {k0 L0 : Nat} (hk0 : k0 < N ∧ ∀ f g, d k0 f g = .inl (z.2.1.1, L0, .inl f)) {a1 : Int32} {M M' : Mem} {r : Unit} (hf : fZJ7_fill_53178 n k0 L0 a1 M = some (r, M')) : CV l z d N b yJ7_fill_53178 cJ7_fill_53178 4 none rmZJ7_fill_53178 [.ref (b + k0), .int a1] M M' :=
  CV.ofW (lv := [(0, .ref (b + k0)), (1, .int a1)]) (by decide) (Nat.le_of_ble_eq_true rfl) rfl (fun p e s m args below meth c ls C hr hk hP hS hl => wgZJ7_fill_53178_0 (n := n) hk0 C hr hk (lgZJ7_fill_53178 hk0 C hr hk n) hf hP hS hl)

theorem dX4_init_0 : decode cX4_init 0 = .ok (.aload_n 0, 1) := by decide +kernel
theorem dX4_init_1 : decode cX4_init 1 = .ok (.invokespecial 3, 3) := by decide +kernel
theorem dX4_init_4 : decode cX4_init 4 = .ok (.aload_n 0, 1) := by decide +kernel
theorem dX4_init_5 : decode cX4_init 5 = .ok (.lconst 0, 1) := by decide +kernel
theorem dX4_init_6 : decode cX4_init 6 = .ok (.putfield 9, 3) := by decide +kernel
theorem dX4_init_9 : decode cX4_init 9 = .ok (.aload_n 0, 1) := by decide +kernel
theorem dX4_init_10 : decode cX4_init 10 = .ok (.lconst 0, 1) := by decide +kernel
theorem dX4_init_11 : decode cX4_init 11 = .ok (.putfield 15, 3) := by decide +kernel
theorem dX4_init_14 : decode cX4_init 14 = .ok (.return_, 1) := by decide +kernel
theorem y4_init_w : yI yX4_init cX4_init 1 0 := ⟨g_57, g_4, g_58, rfl, by decide, by decide, by decide +kernel⟩
abbrev rmq4_init : Room := { frames := 1, cells := 0, slots := 0, locals := 12 }
set_option maxHeartbeats 4000000 in
set_option maxRecDepth 100000 in
theorem cq4_init_k {l : Launch} {z : Zt} {b : Nat} {k : Nat} (hk : isPS k = true) {M : Mem} {Rf : Rm} : CC l z (xc z) b yX4_init cX4_init 1 rmq4_init [.ref (b + k)] (k + 1) M Rf (k + 1) (fun u => u = ((wJ (wJ M k 0 (0 : Int64)) k 1 (0 : Int64)), Rf)) 0 0 := by
  refine CC.ofW (lv := [(0, .ref (b + k))]) (by decide) rfl (Nat.le_of_ble_eq_true rfl) rfl ?_
  intro p e s m args below meth c ls C hr hk2 hnm hAO hsz hP hS hl
  have hx := C.1.1
  have hb := C.1.2.1
  have hcl : s.heap.size + 0 = b + (k + 1) := by omega
  refine lv_aload_n hx hb dX4_init_0 rfl (lv_at hl 0 rfl) ?_
  refine W.objInit hx hb C.1.2.2.2.1 (C.1.2.2.2.2 _ g_59) (C.1.2.2.2.2 _ g_30) (C.1.2.2.2.2 _ g_31) rfl (by rw [C.1.2.2.1]; exact hl.1) rfl dX4_init_1 (Nat.le_of_ble_eq_true rfl) (Nat.le_of_ble_eq_true rfl) ?_
  refine W.eq (g2 := F0 m 4 ls []) rfl ?_
  refine lv_aload_n hx hb dX4_init_4 rfl (lv_at hl 0 rfl) ?_
  refine lv_lconst (v := (0 : Int64)) hx hb dX4_init_5 (by decide) ?_
  refine qpJ C hP hS (k := k) (j := 0) (ty := .long) (by omega) ((xr_ps hk) _ _) rfl iw_4 tyX4 tyX4_ok nmX4 (Nat.le_of_ble_eq_true rfl) g_60 rfl rfl (by decide +kernel) rfl rfl (Nat.le_of_ble_eq_true rfl) (by rw [xr_ps hk]; rfl) dX4_init_6 (fun H locs hP hS => ?_)
  obtain ⟨M1, eM1⟩ : ∃ X : Mem, X = wJ M k 0 (0 : Int64) := ⟨_, rfl⟩
  rw [← eM1] at hP
  refine lv_aload_n hx hb dX4_init_9 rfl (lv_at hl 0 rfl) ?_
  refine lv_lconst (v := (0 : Int64)) hx hb dX4_init_10 (by decide) ?_
  refine qpJ C hP hS (k := k) (j := 1) (ty := .long) (by omega) ((xr_ps hk) _ _) rfl iw_4 tyX4 tyX4_ok nmX4 (Nat.le_of_ble_eq_true rfl) g_61 rfl rfl (by decide +kernel) rfl rfl (Nat.le_of_ble_eq_true rfl) (by rw [xr_ps hk]; rfl) dX4_init_11 (fun H locs hP hS => ?_)
  obtain ⟨M2, eM2⟩ : ∃ X : Mem, X = wJ M1 k 1 (0 : Int64) := ⟨_, rfl⟩
  rw [← eM2] at hP
  exact qrV C hr hk2 hP hS (by subst eM1 eM2; rfl) dX4_init_14
theorem dX7_init_0 : decode cX7_init 0 = .ok (.aload_n 0, 1) := by decide +kernel
theorem dX7_init_1 : decode cX7_init 1 = .ok (.invokespecial 3, 3) := by decide +kernel
theorem dX7_init_4 : decode cX7_init 4 = .ok (.aload_n 0, 1) := by decide +kernel
theorem dX7_init_5 : decode cX7_init 5 = .ok (.sipush 260, 3) := by decide +kernel
theorem dX7_init_8 : decode cX7_init 8 = .ok (.newarray .int, 2) := by decide +kernel
theorem dX7_init_10 : decode cX7_init 10 = .ok (.putfield 11, 3) := by decide +kernel
theorem dX7_init_13 : decode cX7_init 13 = .ok (.aload_n 0, 1) := by decide +kernel
theorem dX7_init_14 : decode cX7_init 14 = .ok (.iconst 0, 1) := by decide +kernel
theorem dX7_init_15 : decode cX7_init 15 = .ok (.putfield 15, 3) := by decide +kernel
theorem dX7_init_18 : decode cX7_init 18 = .ok (.return_, 1) := by decide +kernel
theorem y7_init_w : yI yX7_init cX7_init 1 0 := ⟨g_35, g_2, g_36, rfl, by decide, by decide, by decide +kernel⟩
abbrev rmq7_init : Room := { frames := 1, cells := 1, slots := 260, locals := 12 }
set_option maxHeartbeats 4000000 in
set_option maxRecDepth 100000 in
theorem cq7_init_1 {l : Launch} {z : Zt} {b : Nat} {M : Mem} {Rf : Rm} : CC l z (xc z) b yX7_init cX7_init 1 rmq7_init [.ref (b + 1)] 2 M Rf 3 (fun u => u = ((wI (zM M 2) 1 1 (0 : Int32)), (uR (zR Rf 2) 1 0 (some (b + 2))))) 1 260 := by
  refine CC.ofW (lv := [(0, .ref (b + 1))]) (by decide) rfl (Nat.le_of_ble_eq_true rfl) rfl ?_
  intro p e s m args below meth c ls C hr hk2 hnm hAO hsz hP hS hl
  have hx := C.1.1
  have hb := C.1.2.1
  have hcl : s.heap.size + 0 = b + 2 := by omega
  refine lv_aload_n hx hb dX7_init_0 rfl (lv_at hl 0 rfl) ?_
  refine W.objInit hx hb C.1.2.2.2.1 (C.1.2.2.2.2 _ g_37) (C.1.2.2.2.2 _ g_30) (C.1.2.2.2.2 _ g_31) rfl (by rw [C.1.2.2.1]; exact hl.1) rfl dX7_init_1 (Nat.le_of_ble_eq_true rfl) (Nat.le_of_ble_eq_true rfl) ?_
  refine W.eq (g2 := F0 m 4 ls []) rfl ?_
  refine lv_aload_n hx hb dX7_init_4 rfl (lv_at hl 0 rfl) ?_
  refine lv_sipush (v := (260 : Int32)) hx hb dX7_init_5 (by decide) ?_
  refine qna (atype := .int) C (by omega) (by omega) hP hS hcl g_47 rfl (a0 := (260, .inl (fun _ => 0))) (N' := 260) (t0 := 0) rfl pr_int (fun _ => rfl) (by decide) (by decide) (Nat.le_of_ble_eq_true rfl) (Nat.le_of_ble_eq_true rfl) (Nat.le_of_ble_eq_true rfl) rfl dX7_init_8 (fun H hP hS hcl => ?_)
  have hP : va_P z.1 vwCl (pw (dR (xc z) (zR Rf 2)) 3 b (zM M 2)) H := hP
  obtain ⟨M1, eM1⟩ : ∃ X : Mem, X = zM M 2 := ⟨_, rfl⟩
  rw [← eM1] at hP
  obtain ⟨R1, eR1⟩ : ∃ X : Rm, X = zR Rf 2 := ⟨_, rfl⟩
  rw [← eR1] at hP
  refine W.widen (k := 1) (n := 260) (Nat.le_of_ble_eq_true rfl) (Nat.le_of_ble_eq_true rfl) ?_
  have hcl : s.heap.size + 1 = b + 3 := by omega
  refine qpR C hnm hP hS (k := 1) (j := 0) (v := b + 2) (ty := tyX7 0) (Nat.le_of_ble_eq_true rfl) (xr_1 _ _) rfl iw_7 tyX7 tyX7_ok nmX7 (Nat.le_of_ble_eq_true rfl) g_38 rfl rfl rfl (by decide +kernel) rfl rfl (Nat.le_of_ble_eq_true rfl) rfl dX7_init_10 (fun H locs hP hS => ?_)
  obtain ⟨R2, eR2⟩ : ∃ X : Rm, X = uR R1 1 0 (some (b + 2)) := ⟨_, rfl⟩
  rw [← eR2] at hP
  refine lv_aload_n hx hb dX7_init_13 rfl (lv_at hl 0 rfl) ?_
  refine lv_iconst (v := (0 : Int32)) hx hb dX7_init_14 (by decide) ?_
  refine qpI C hP hS (k := 1) (j := 1) (ty := .int) (Nat.le_of_ble_eq_true rfl) (xr_1 _ _) rfl iw_7 tyX7 tyX7_ok nmX7 (Nat.le_of_ble_eq_true rfl) g_40 rfl rfl (by decide +kernel) rfl rfl (Nat.le_of_ble_eq_true rfl) rfl dX7_init_15 (fun H locs hP hS => ?_)
  obtain ⟨M3, eM3⟩ : ∃ X : Mem, X = wI M1 1 1 (0 : Int32) := ⟨_, rfl⟩
  rw [← eM3] at hP
  exact qrV C hr hk2 hP hS (by subst eM1 eR1 eR2 eM3; rfl) dX7_init_18
theorem dX8_init_0 : decode cX8_init 0 = .ok (.aload_n 0, 1) := by decide +kernel
theorem dX8_init_1 : decode cX8_init 1 = .ok (.invokespecial 3, 3) := by decide +kernel
theorem dX8_init_4 : decode cX8_init 4 = .ok (.aload_n 0, 1) := by decide +kernel
theorem dX8_init_5 : decode cX8_init 5 = .ok (.bipush 96, 2) := by decide +kernel
theorem dX8_init_7 : decode cX8_init 7 = .ok (.newarray .int, 2) := by decide +kernel
theorem dX8_init_9 : decode cX8_init 9 = .ok (.putfield 9, 3) := by decide +kernel
theorem dX8_init_12 : decode cX8_init 12 = .ok (.aload_n 0, 1) := by decide +kernel
theorem dX8_init_13 : decode cX8_init 13 = .ok (.bipush 96, 2) := by decide +kernel
theorem dX8_init_15 : decode cX8_init 15 = .ok (.newarray .int, 2) := by decide +kernel
theorem dX8_init_17 : decode cX8_init 17 = .ok (.putfield 15, 3) := by decide +kernel
theorem dX8_init_20 : decode cX8_init 20 = .ok (.aload_n 0, 1) := by decide +kernel
theorem dX8_init_21 : decode cX8_init 21 = .ok (.bipush 10, 2) := by decide +kernel
theorem dX8_init_23 : decode cX8_init 23 = .ok (.newarray .int, 2) := by decide +kernel
theorem dX8_init_25 : decode cX8_init 25 = .ok (.putfield 18, 3) := by decide +kernel
theorem dX8_init_28 : decode cX8_init 28 = .ok (.aload_n 0, 1) := by decide +kernel
theorem dX8_init_29 : decode cX8_init 29 = .ok (.bipush 96, 2) := by decide +kernel
theorem dX8_init_31 : decode cX8_init 31 = .ok (.newarray .int, 2) := by decide +kernel
theorem dX8_init_33 : decode cX8_init 33 = .ok (.putfield 21, 3) := by decide +kernel
theorem dX8_init_36 : decode cX8_init 36 = .ok (.aload_n 0, 1) := by decide +kernel
theorem dX8_init_37 : decode cX8_init 37 = .ok (.bipush 96, 2) := by decide +kernel
theorem dX8_init_39 : decode cX8_init 39 = .ok (.newarray .int, 2) := by decide +kernel
theorem dX8_init_41 : decode cX8_init 41 = .ok (.putfield 24, 3) := by decide +kernel
theorem dX8_init_44 : decode cX8_init 44 = .ok (.aload_n 0, 1) := by decide +kernel
theorem dX8_init_45 : decode cX8_init 45 = .ok (.bipush 96, 2) := by decide +kernel
theorem dX8_init_47 : decode cX8_init 47 = .ok (.newarray .int, 2) := by decide +kernel
theorem dX8_init_49 : decode cX8_init 49 = .ok (.putfield 27, 3) := by decide +kernel
theorem dX8_init_52 : decode cX8_init 52 = .ok (.aload_n 0, 1) := by decide +kernel
theorem dX8_init_53 : decode cX8_init 53 = .ok (.new 30, 3) := by decide +kernel
theorem dX8_init_56 : decode cX8_init 56 = .ok (.dup, 1) := by decide +kernel
theorem dX8_init_57 : decode cX8_init 57 = .ok (.invokespecial 32, 3) := by decide +kernel
theorem dX8_init_60 : decode cX8_init 60 = .ok (.putfield 33, 3) := by decide +kernel
theorem dX8_init_63 : decode cX8_init 63 = .ok (.aload_n 0, 1) := by decide +kernel
theorem dX8_init_64 : decode cX8_init 64 = .ok (.iconst 0, 1) := by decide +kernel
theorem dX8_init_65 : decode cX8_init 65 = .ok (.putfield 37, 3) := by decide +kernel
theorem dX8_init_68 : decode cX8_init 68 = .ok (.aload_n 0, 1) := by decide +kernel
theorem dX8_init_69 : decode cX8_init 69 = .ok (.iconst 0, 1) := by decide +kernel
theorem dX8_init_70 : decode cX8_init 70 = .ok (.putfield 41, 3) := by decide +kernel
theorem dX8_init_73 : decode cX8_init 73 = .ok (.aload_n 0, 1) := by decide +kernel
theorem dX8_init_74 : decode cX8_init 74 = .ok (.iconst 0, 1) := by decide +kernel
theorem dX8_init_75 : decode cX8_init 75 = .ok (.putfield 44, 3) := by decide +kernel
theorem dX8_init_78 : decode cX8_init 78 = .ok (.aload_n 0, 1) := by decide +kernel
theorem dX8_init_79 : decode cX8_init 79 = .ok (.getfield 9, 3) := by decide +kernel
theorem dX8_init_82 : decode cX8_init 82 = .ok (.iconst 2, 1) := by decide +kernel
theorem dX8_init_83 : decode cX8_init 83 = .ok (.invokestatic 47, 3) := by decide +kernel
theorem dX8_init_86 : decode cX8_init 86 = .ok (.aload_n 0, 1) := by decide +kernel
theorem dX8_init_87 : decode cX8_init 87 = .ok (.getfield 18, 3) := by decide +kernel
theorem dX8_init_90 : decode cX8_init 90 = .ok (.iconst (-1), 1) := by decide +kernel
theorem dX8_init_91 : decode cX8_init 91 = .ok (.invokestatic 47, 3) := by decide +kernel
theorem dX8_init_94 : decode cX8_init 94 = .ok (.return_, 1) := by decide +kernel
theorem y8_init_w : yI yX8_init cX8_init 1 0 := ⟨g_51, g_3, g_52, rfl, by decide, by decide, by decide +kernel⟩
abbrev rmq8_init : Room := { frames := 2, cells := 7, slots := 492, locals := 32 }
set_option maxHeartbeats 4000000 in
set_option maxRecDepth 100000 in
theorem cq8_init_3 {l : Launch} {z : Zt} {b : Nat} {FU : Nat} (hFU : 1000 ≤ FU) {M : Mem} {Rf : Rm} : CC l z (xc z) b yX8_init cX8_init 1 rmq8_init [.ref (b + 3)] 4 M Rf 11 (fun u => u = ((wR (wR (wI (wI (wI (wJ (wJ (zM (zM (zM (zM (zM (zM (zM M 4) 5) 6) 7) 8) 9) 10) 10 0 0) 10 1 0) 3 7 (0 : Int32)) 3 8 (0 : Int32)) 3 9 (0 : Int32)) 4 (fun j => if j < 96 then (2 : Int32) else (wI (wI (wI (wJ (wJ (zM (zM (zM (zM (zM (zM (zM M 4) 5) 6) 7) 8) 9) 10) 10 0 0) 10 1 0) 3 7 (0 : Int32)) 3 8 (0 : Int32)) 3 9 (0 : Int32)).1 4 j)) 6 (fun j => if j < 10 then (-1 : Int32) else (wR (wI (wI (wI (wJ (wJ (zM (zM (zM (zM (zM (zM (zM M 4) 5) 6) 7) 8) 9) 10) 10 0 0) 10 1 0) 3 7 (0 : Int32)) 3 8 (0 : Int32)) 3 9 (0 : Int32)) 4 (fun j => if j < 96 then (2 : Int32) else (wI (wI (wI (wJ (wJ (zM (zM (zM (zM (zM (zM (zM M 4) 5) 6) 7) 8) 9) 10) 10 0 0) 10 1 0) 3 7 (0 : Int32)) 3 8 (0 : Int32)) 3 9 (0 : Int32)).1 4 j)).1 6 j)), (uR (zR (uR (zR (uR (zR (uR (zR (uR (zR (uR (zR (uR (zR Rf 4) 3 0 (some (b + 4))) 5) 3 1 (some (b + 5))) 6) 3 2 (some (b + 6))) 7) 3 3 (some (b + 7))) 8) 3 4 (some (b + 8))) 9) 3 5 (some (b + 9))) 10) 3 6 (some (b + 10))))) 7 492 := by
  refine CC.ofW (lv := [(0, .ref (b + 3))]) (by decide) rfl (Nat.le_of_ble_eq_true rfl) rfl ?_
  intro p e s m args below meth c ls C hr hk2 hnm hAO hsz hP hS hl
  have hx := C.1.1
  have hb := C.1.2.1
  have hcl : s.heap.size + 0 = b + 4 := by omega
  have hfill : ∀ (k L : Nat) (v : Int32) (M : Mem), L ≤ 500 → ∃ M2, fZJ7_fill_53178 FU k L v M = some ((), M2) ∧ M2 = wR M k (fun j => if j < L then v else M.1 k j) := fun k L v M h => ⟨_, fill_spec k L v M (by omega) (by omega), rfl⟩
  refine lv_aload_n hx hb dX8_init_0 rfl (lv_at hl 0 rfl) ?_
  refine W.objInit hx hb C.1.2.2.2.1 (C.1.2.2.2.2 _ g_53) (C.1.2.2.2.2 _ g_30) (C.1.2.2.2.2 _ g_31) rfl (by rw [C.1.2.2.1]; exact hl.1) rfl dX8_init_1 (Nat.le_of_ble_eq_true rfl) (Nat.le_of_ble_eq_true rfl) ?_
  refine W.eq (g2 := F0 m 4 ls []) rfl ?_
  refine lv_aload_n hx hb dX8_init_4 rfl (lv_at hl 0 rfl) ?_
  refine lv_bipush (v := (96 : Int32)) hx hb dX8_init_5 (by decide) ?_
  refine qna (atype := .int) C (by omega) (by omega) hP hS hcl g_47 rfl (a0 := (96, .inl (fun _ => 0))) (N' := 96) (t0 := 0) rfl pr_int (fun _ => rfl) (by decide) (by decide) (Nat.le_of_ble_eq_true rfl) (Nat.le_of_ble_eq_true rfl) (Nat.le_of_ble_eq_true rfl) rfl dX8_init_7 (fun H hP hS hcl => ?_)
  have hP : va_P z.1 vwCl (pw (dR (xc z) (zR Rf 4)) 5 b (zM M 4)) H := hP
  obtain ⟨M1, eM1⟩ : ∃ X : Mem, X = zM M 4 := ⟨_, rfl⟩
  rw [← eM1] at hP
  obtain ⟨R1, eR1⟩ : ∃ X : Rm, X = zR Rf 4 := ⟨_, rfl⟩
  rw [← eR1] at hP
  refine W.widen (k := 1) (n := 96) (Nat.le_of_ble_eq_true rfl) (Nat.le_of_ble_eq_true rfl) ?_
  have hcl : s.heap.size + 1 = b + 5 := by omega
  refine qpR C hnm hP hS (k := 3) (j := 0) (v := b + 4) (ty := tyX8 0) (Nat.le_of_ble_eq_true rfl) (xr_3 _ _) rfl iw_8 tyX8 tyX8_ok nmX8 (Nat.le_of_ble_eq_true rfl) g_70 rfl rfl rfl (by decide +kernel) rfl rfl (Nat.le_of_ble_eq_true rfl) rfl dX8_init_9 (fun H locs hP hS => ?_)
  obtain ⟨R2, eR2⟩ : ∃ X : Rm, X = uR R1 3 0 (some (b + 4)) := ⟨_, rfl⟩
  rw [← eR2] at hP
  refine lv_aload_n hx hb dX8_init_12 rfl (lv_at hl 0 rfl) ?_
  refine lv_bipush (v := (96 : Int32)) hx hb dX8_init_13 (by decide) ?_
  refine qna (atype := .int) C (by omega) (by omega) hP hS hcl g_47 rfl (a0 := (96, .inl (fun _ => 0))) (N' := 96) (t0 := 0) rfl pr_int (fun _ => rfl) (by decide) (by decide) (Nat.le_of_ble_eq_true rfl) (Nat.le_of_ble_eq_true rfl) (Nat.le_of_ble_eq_true rfl) rfl dX8_init_15 (fun H hP hS hcl => ?_)
  have hP : va_P z.1 vwCl (pw (dR (xc z) (zR R2 5)) 6 b (zM M1 5)) H := hP
  obtain ⟨M3, eM3⟩ : ∃ X : Mem, X = zM M1 5 := ⟨_, rfl⟩
  rw [← eM3] at hP
  obtain ⟨R3, eR3⟩ : ∃ X : Rm, X = zR R2 5 := ⟨_, rfl⟩
  rw [← eR3] at hP
  refine W.widen (k := 2) (n := 192) (Nat.le_of_ble_eq_true rfl) (Nat.le_of_ble_eq_true rfl) ?_
  have hcl : s.heap.size + 2 = b + 6 := by omega
  refine qpR C hnm hP hS (k := 3) (j := 1) (v := b + 5) (ty := tyX8 1) (Nat.le_of_ble_eq_true rfl) (xr_3 _ _) rfl iw_8 tyX8 tyX8_ok nmX8 (Nat.le_of_ble_eq_true rfl) g_71 rfl rfl rfl (by decide +kernel) rfl rfl (Nat.le_of_ble_eq_true rfl) rfl dX8_init_17 (fun H locs hP hS => ?_)
  obtain ⟨R4, eR4⟩ : ∃ X : Rm, X = uR R3 3 1 (some (b + 5)) := ⟨_, rfl⟩
  rw [← eR4] at hP
  refine lv_aload_n hx hb dX8_init_20 rfl (lv_at hl 0 rfl) ?_
  refine lv_bipush (v := (10 : Int32)) hx hb dX8_init_21 (by decide) ?_
  refine qna (atype := .int) C (by omega) (by omega) hP hS hcl g_47 rfl (a0 := (10, .inl (fun _ => 0))) (N' := 10) (t0 := 0) rfl pr_int (fun _ => rfl) (by decide) (by decide) (Nat.le_of_ble_eq_true rfl) (Nat.le_of_ble_eq_true rfl) (Nat.le_of_ble_eq_true rfl) rfl dX8_init_23 (fun H hP hS hcl => ?_)
  have hP : va_P z.1 vwCl (pw (dR (xc z) (zR R4 6)) 7 b (zM M3 6)) H := hP
  obtain ⟨M5, eM5⟩ : ∃ X : Mem, X = zM M3 6 := ⟨_, rfl⟩
  rw [← eM5] at hP
  obtain ⟨R5, eR5⟩ : ∃ X : Rm, X = zR R4 6 := ⟨_, rfl⟩
  rw [← eR5] at hP
  refine W.widen (k := 3) (n := 202) (Nat.le_of_ble_eq_true rfl) (Nat.le_of_ble_eq_true rfl) ?_
  have hcl : s.heap.size + 3 = b + 7 := by omega
  refine qpR C hnm hP hS (k := 3) (j := 2) (v := b + 6) (ty := tyX8 2) (Nat.le_of_ble_eq_true rfl) (xr_3 _ _) rfl iw_8 tyX8 tyX8_ok nmX8 (Nat.le_of_ble_eq_true rfl) g_72 rfl rfl rfl (by decide +kernel) rfl rfl (Nat.le_of_ble_eq_true rfl) rfl dX8_init_25 (fun H locs hP hS => ?_)
  obtain ⟨R6, eR6⟩ : ∃ X : Rm, X = uR R5 3 2 (some (b + 6)) := ⟨_, rfl⟩
  rw [← eR6] at hP
  refine lv_aload_n hx hb dX8_init_28 rfl (lv_at hl 0 rfl) ?_
  refine lv_bipush (v := (96 : Int32)) hx hb dX8_init_29 (by decide) ?_
  refine qna (atype := .int) C (by omega) (by omega) hP hS hcl g_47 rfl (a0 := (96, .inl (fun _ => 0))) (N' := 96) (t0 := 0) rfl pr_int (fun _ => rfl) (by decide) (by decide) (Nat.le_of_ble_eq_true rfl) (Nat.le_of_ble_eq_true rfl) (Nat.le_of_ble_eq_true rfl) rfl dX8_init_31 (fun H hP hS hcl => ?_)
  have hP : va_P z.1 vwCl (pw (dR (xc z) (zR R6 7)) 8 b (zM M5 7)) H := hP
  obtain ⟨M7, eM7⟩ : ∃ X : Mem, X = zM M5 7 := ⟨_, rfl⟩
  rw [← eM7] at hP
  obtain ⟨R7, eR7⟩ : ∃ X : Rm, X = zR R6 7 := ⟨_, rfl⟩
  rw [← eR7] at hP
  refine W.widen (k := 4) (n := 298) (Nat.le_of_ble_eq_true rfl) (Nat.le_of_ble_eq_true rfl) ?_
  have hcl : s.heap.size + 4 = b + 8 := by omega
  refine qpR C hnm hP hS (k := 3) (j := 3) (v := b + 7) (ty := tyX8 3) (Nat.le_of_ble_eq_true rfl) (xr_3 _ _) rfl iw_8 tyX8 tyX8_ok nmX8 (Nat.le_of_ble_eq_true rfl) g_76 rfl rfl rfl (by decide +kernel) rfl rfl (Nat.le_of_ble_eq_true rfl) rfl dX8_init_33 (fun H locs hP hS => ?_)
  obtain ⟨R8, eR8⟩ : ∃ X : Rm, X = uR R7 3 3 (some (b + 7)) := ⟨_, rfl⟩
  rw [← eR8] at hP
  refine lv_aload_n hx hb dX8_init_36 rfl (lv_at hl 0 rfl) ?_
  refine lv_bipush (v := (96 : Int32)) hx hb dX8_init_37 (by decide) ?_
  refine qna (atype := .int) C (by omega) (by omega) hP hS hcl g_47 rfl (a0 := (96, .inl (fun _ => 0))) (N' := 96) (t0 := 0) rfl pr_int (fun _ => rfl) (by decide) (by decide) (Nat.le_of_ble_eq_true rfl) (Nat.le_of_ble_eq_true rfl) (Nat.le_of_ble_eq_true rfl) rfl dX8_init_39 (fun H hP hS hcl => ?_)
  have hP : va_P z.1 vwCl (pw (dR (xc z) (zR R8 8)) 9 b (zM M7 8)) H := hP
  obtain ⟨M9, eM9⟩ : ∃ X : Mem, X = zM M7 8 := ⟨_, rfl⟩
  rw [← eM9] at hP
  obtain ⟨R9, eR9⟩ : ∃ X : Rm, X = zR R8 8 := ⟨_, rfl⟩
  rw [← eR9] at hP
  refine W.widen (k := 5) (n := 394) (Nat.le_of_ble_eq_true rfl) (Nat.le_of_ble_eq_true rfl) ?_
  have hcl : s.heap.size + 5 = b + 9 := by omega
  refine qpR C hnm hP hS (k := 3) (j := 4) (v := b + 8) (ty := tyX8 4) (Nat.le_of_ble_eq_true rfl) (xr_3 _ _) rfl iw_8 tyX8 tyX8_ok nmX8 (Nat.le_of_ble_eq_true rfl) g_80 rfl rfl rfl (by decide +kernel) rfl rfl (Nat.le_of_ble_eq_true rfl) rfl dX8_init_41 (fun H locs hP hS => ?_)
  obtain ⟨R10, eR10⟩ : ∃ X : Rm, X = uR R9 3 4 (some (b + 8)) := ⟨_, rfl⟩
  rw [← eR10] at hP
  refine lv_aload_n hx hb dX8_init_44 rfl (lv_at hl 0 rfl) ?_
  refine lv_bipush (v := (96 : Int32)) hx hb dX8_init_45 (by decide) ?_
  refine qna (atype := .int) C (by omega) (by omega) hP hS hcl g_47 rfl (a0 := (96, .inl (fun _ => 0))) (N' := 96) (t0 := 0) rfl pr_int (fun _ => rfl) (by decide) (by decide) (Nat.le_of_ble_eq_true rfl) (Nat.le_of_ble_eq_true rfl) (Nat.le_of_ble_eq_true rfl) rfl dX8_init_47 (fun H hP hS hcl => ?_)
  have hP : va_P z.1 vwCl (pw (dR (xc z) (zR R10 9)) 10 b (zM M9 9)) H := hP
  obtain ⟨M11, eM11⟩ : ∃ X : Mem, X = zM M9 9 := ⟨_, rfl⟩
  rw [← eM11] at hP
  obtain ⟨R11, eR11⟩ : ∃ X : Rm, X = zR R10 9 := ⟨_, rfl⟩
  rw [← eR11] at hP
  refine W.widen (k := 6) (n := 490) (Nat.le_of_ble_eq_true rfl) (Nat.le_of_ble_eq_true rfl) ?_
  have hcl : s.heap.size + 6 = b + 10 := by omega
  refine qpR C hnm hP hS (k := 3) (j := 5) (v := b + 9) (ty := tyX8 5) (Nat.le_of_ble_eq_true rfl) (xr_3 _ _) rfl iw_8 tyX8 tyX8_ok nmX8 (Nat.le_of_ble_eq_true rfl) g_83 rfl rfl rfl (by decide +kernel) rfl rfl (Nat.le_of_ble_eq_true rfl) rfl dX8_init_49 (fun H locs hP hS => ?_)
  obtain ⟨R12, eR12⟩ : ∃ X : Rm, X = uR R11 3 5 (some (b + 9)) := ⟨_, rfl⟩
  rw [← eR12] at hP
  refine lv_aload_n hx hb dX8_init_52 rfl (lv_at hl 0 rfl) ?_
  refine qnw C (by omega) hP hS hcl (ci := 4) iw_4 tyX4 tyX4_ok g_54 g_55 g_4 rfl (fs := [.long 0, .long 0]) (by decide) (Nat.le_of_ble_eq_true rfl) (Nat.le_of_ble_eq_true rfl) rfl dX8_init_53 (fun H hP hS hcl => ?_)
  have hP : va_P z.1 vwCl (pw (dR (xc z) (zR R12 10)) 11 b (zM M11 10)) H := hP
  obtain ⟨M13, eM13⟩ : ∃ X : Mem, X = zM M11 10 := ⟨_, rfl⟩
  rw [← eM13] at hP
  obtain ⟨R13, eR13⟩ : ∃ X : Rm, X = zR R12 10 := ⟨_, rfl⟩
  rw [← eR13] at hP
  refine W.widen (k := 7) (n := 492) (Nat.le_of_ble_eq_true rfl) (Nat.le_of_ble_eq_true rfl) ?_
  have hcl : s.heap.size + 7 = b + 11 := by omega
  refine lv_dup hx hb dX8_init_56 rfl ?_
  refine qcN (As := []) (k := 10) C hAO hP hS hcl (Nat.le_of_ble_eq_true rfl) (cq4_init_k ps_10) y4_init_w g_56 rfl rfl rfl ⟨Nat.le_of_ble_eq_true rfl, Nat.le_of_ble_eq_true rfl⟩ hl.1 rfl (Nat.le_of_ble_eq_true rfl) dX8_init_57 ⟨Nat.le_of_ble_eq_true rfl, Nat.le_of_ble_eq_true rfl⟩ (fun u H locs hu hP hS => ?_)
  obtain ⟨M14, R14⟩ := u
  -- sub M14 R14 M13 R13 10
  have hP : va_P z.1 vwCl (pw (dR (xc z) R14) 11 b M14) H := hP
  obtain ⟨eM14, eR14⟩ := Prod.mk.inj hu
  refine qpR C hnm hP hS (k := 3) (j := 6) (v := b + 10) (ty := tyX8 6) (Nat.le_of_ble_eq_true rfl) (xr_3 _ _) rfl iw_8 tyX8 tyX8_ok nmX8 (Nat.le_of_ble_eq_true rfl) g_84 rfl rfl rfl (by decide +kernel) rfl rfl (Nat.le_of_ble_eq_true rfl) rfl dX8_init_60 (fun H locs hP hS => ?_)
  obtain ⟨R15, eR15⟩ : ∃ X : Rm, X = uR R14 3 6 (some (b + 10)) := ⟨_, rfl⟩
  rw [← eR15] at hP
  refine lv_aload_n hx hb dX8_init_63 rfl (lv_at hl 0 rfl) ?_
  refine lv_iconst (v := (0 : Int32)) hx hb dX8_init_64 (by decide) ?_
  refine qpI C hP hS (k := 3) (j := 7) (ty := .int) (Nat.le_of_ble_eq_true rfl) (xr_3 _ _) rfl iw_8 tyX8 tyX8_ok nmX8 (Nat.le_of_ble_eq_true rfl) g_88 rfl rfl (by decide +kernel) rfl rfl (Nat.le_of_ble_eq_true rfl) rfl dX8_init_65 (fun H locs hP hS => ?_)
  obtain ⟨M16, eM16⟩ : ∃ X : Mem, X = wI M14 3 7 (0 : Int32) := ⟨_, rfl⟩
  rw [← eM16] at hP
  refine lv_aload_n hx hb dX8_init_68 rfl (lv_at hl 0 rfl) ?_
  refine lv_iconst (v := (0 : Int32)) hx hb dX8_init_69 (by decide) ?_
  refine qpI C hP hS (k := 3) (j := 8) (ty := .int) (Nat.le_of_ble_eq_true rfl) (xr_3 _ _) rfl iw_8 tyX8 tyX8_ok nmX8 (Nat.le_of_ble_eq_true rfl) g_93 rfl rfl (by decide +kernel) rfl rfl (Nat.le_of_ble_eq_true rfl) rfl dX8_init_70 (fun H locs hP hS => ?_)
  obtain ⟨M17, eM17⟩ : ∃ X : Mem, X = wI M16 3 8 (0 : Int32) := ⟨_, rfl⟩
  rw [← eM17] at hP
  refine lv_aload_n hx hb dX8_init_73 rfl (lv_at hl 0 rfl) ?_
  refine lv_iconst (v := (0 : Int32)) hx hb dX8_init_74 (by decide) ?_
  refine qpI C hP hS (k := 3) (j := 9) (ty := .int) (Nat.le_of_ble_eq_true rfl) (xr_3 _ _) rfl iw_8 tyX8 tyX8_ok nmX8 (Nat.le_of_ble_eq_true rfl) g_96 rfl rfl (by decide +kernel) rfl rfl (Nat.le_of_ble_eq_true rfl) rfl dX8_init_75 (fun H locs hP hS => ?_)
  obtain ⟨M18, eM18⟩ : ∃ X : Mem, X = wI M17 3 9 (0 : Int32) := ⟨_, rfl⟩
  rw [← eM18] at hP
  refine lv_aload_n hx hb dX8_init_78 rfl (lv_at hl 0 rfl) ?_
  have hgv : (R15 3 0 : Option Nat) = some (b + 4) := by simp [eR1, eR2, eR3, eR4, eR5, eR6, eR7, eR8, eR9, eR10, eR11, eR12, eR13, eR14, eR15, uR, zR]
  refine qg C hP (k := 3) (j := 0) (v := .ref (b + 4)) (Nat.le_of_ble_eq_true rfl) (xr_3 _ _) rfl iw_8 (Nat.le_of_ble_eq_true rfl) g_70 rfl (by rw [hgv]; rfl) dX8_init_79 ?_
  refine lv_iconst (v := (2 : Int32)) hx hb dX8_init_82 (by decide) ?_
  obtain ⟨M19, hfl19, eM19⟩ := hfill 4 96 (2 : Int32) M18 (by decide)
  refine qcS (As := [.ref (b + 4), .int (2 : Int32)]) C hP hS (cgZJ7_fill_53178 (k0 := 4) (L0 := 96) ⟨Nat.le_of_ble_eq_true rfl, xr_4⟩ hfl19) yZJ7_fill_53178_w g_67 rfl rfl rfl ⟨Nat.le_of_ble_eq_true rfl, Nat.le_of_ble_eq_true rfl⟩ hl.1 rfl (Nat.le_of_ble_eq_true rfl) dX8_init_83 ⟨Nat.le_of_ble_eq_true rfl, Nat.le_of_ble_eq_true rfl⟩ (fun H locs hP hS => ?_)
  refine lv_aload_n hx hb dX8_init_86 rfl (lv_at hl 0 rfl) ?_
  have hgv : (R15 3 2 : Option Nat) = some (b + 6) := by simp [eR1, eR2, eR3, eR4, eR5, eR6, eR7, eR8, eR9, eR10, eR11, eR12, eR13, eR14, eR15, uR, zR]
  refine qg C hP (k := 3) (j := 2) (v := .ref (b + 6)) (Nat.le_of_ble_eq_true rfl) (xr_3 _ _) rfl iw_8 (Nat.le_of_ble_eq_true rfl) g_72 rfl (by rw [hgv]; rfl) dX8_init_87 ?_
  refine lv_iconst (v := (-1 : Int32)) hx hb dX8_init_90 (by decide) ?_
  obtain ⟨M20, hfl20, eM20⟩ := hfill 6 10 (-1 : Int32) M19 (by decide)
  refine qcS (As := [.ref (b + 6), .int (-1 : Int32)]) C hP hS (cgZJ7_fill_53178 (k0 := 6) (L0 := 10) ⟨Nat.le_of_ble_eq_true rfl, xr_6⟩ hfl20) yZJ7_fill_53178_w g_67 rfl rfl rfl ⟨Nat.le_of_ble_eq_true rfl, Nat.le_of_ble_eq_true rfl⟩ hl.1 rfl (Nat.le_of_ble_eq_true rfl) dX8_init_91 ⟨Nat.le_of_ble_eq_true rfl, Nat.le_of_ble_eq_true rfl⟩ (fun H locs hP hS => ?_)
  exact qrV C hr hk2 hP hS (by subst eM1 eR1 eR2 eM3 eR3 eR4 eM5 eR5 eR6 eM7 eR7 eR8 eM9 eR9 eR10 eM11 eR11 eR12 eM13 eR13 eM14 eR14 eR15 eM16 eM17 eM18 eM19 eM20; rfl) dX8_init_94
theorem dX2_init_0 : decode cX2_init 0 = .ok (.aload_n 0, 1) := by decide +kernel
theorem dX2_init_1 : decode cX2_init 1 = .ok (.invokespecial 3, 3) := by decide +kernel
theorem dX2_init_4 : decode cX2_init 4 = .ok (.aload_n 0, 1) := by decide +kernel
theorem dX2_init_5 : decode cX2_init 5 = .ok (.sipush 240, 3) := by decide +kernel
theorem dX2_init_8 : decode cX2_init 8 = .ok (.newarray .int, 2) := by decide +kernel
theorem dX2_init_10 : decode cX2_init 10 = .ok (.putfield 9, 3) := by decide +kernel
theorem dX2_init_13 : decode cX2_init 13 = .ok (.aload_n 0, 1) := by decide +kernel
theorem dX2_init_14 : decode cX2_init 14 = .ok (.bipush 33, 2) := by decide +kernel
theorem dX2_init_16 : decode cX2_init 16 = .ok (.newarray .int, 2) := by decide +kernel
theorem dX2_init_18 : decode cX2_init 18 = .ok (.putfield 15, 3) := by decide +kernel
theorem dX2_init_21 : decode cX2_init 21 = .ok (.aload_n 0, 1) := by decide +kernel
theorem dX2_init_22 : decode cX2_init 22 = .ok (.bipush 16, 2) := by decide +kernel
theorem dX2_init_24 : decode cX2_init 24 = .ok (.newarray .int, 2) := by decide +kernel
theorem dX2_init_26 : decode cX2_init 26 = .ok (.putfield 18, 3) := by decide +kernel
theorem dX2_init_29 : decode cX2_init 29 = .ok (.aload_n 0, 1) := by decide +kernel
theorem dX2_init_30 : decode cX2_init 30 = .ok (.iconst 0, 1) := by decide +kernel
theorem dX2_init_31 : decode cX2_init 31 = .ok (.putfield 21, 3) := by decide +kernel
theorem dX2_init_34 : decode cX2_init 34 = .ok (.aload_n 0, 1) := by decide +kernel
theorem dX2_init_35 : decode cX2_init 35 = .ok (.bipush 9, 2) := by decide +kernel
theorem dX2_init_37 : decode cX2_init 37 = .ok (.newarray .int, 2) := by decide +kernel
theorem dX2_init_39 : decode cX2_init 39 = .ok (.putfield 25, 3) := by decide +kernel
theorem dX2_init_42 : decode cX2_init 42 = .ok (.aload_n 0, 1) := by decide +kernel
theorem dX2_init_43 : decode cX2_init 43 = .ok (.bipush 64, 2) := by decide +kernel
theorem dX2_init_45 : decode cX2_init 45 = .ok (.newarray .int, 2) := by decide +kernel
theorem dX2_init_47 : decode cX2_init 47 = .ok (.putfield 28, 3) := by decide +kernel
theorem dX2_init_50 : decode cX2_init 50 = .ok (.return_, 1) := by decide +kernel
theorem y2_init_w : yI yX2_init cX2_init 1 0 := ⟨g_122, g_6, g_123, rfl, by decide, by decide, by decide +kernel⟩
abbrev rmq2_init : Room := { frames := 1, cells := 5, slots := 362, locals := 12 }
set_option maxHeartbeats 4000000 in
set_option maxRecDepth 100000 in
theorem cq2_init_11 {l : Launch} {z : Zt} {b : Nat} {M : Mem} {Rf : Rm} : CC l z (xc z) b yX2_init cX2_init 1 rmq2_init [.ref (b + 11)] 12 M Rf 17 (fun u => u = ((zM (zM (wI (zM (zM (zM M 12) 13) 14) 11 3 (0 : Int32)) 15) 16), (uR (zR (uR (zR (uR (zR (uR (zR (uR (zR Rf 12) 11 0 (some (b + 12))) 13) 11 1 (some (b + 13))) 14) 11 2 (some (b + 14))) 15) 11 4 (some (b + 15))) 16) 11 5 (some (b + 16))))) 5 362 := by
  refine CC.ofW (lv := [(0, .ref (b + 11))]) (by decide) rfl (Nat.le_of_ble_eq_true rfl) rfl ?_
  intro p e s m args below meth c ls C hr hk2 hnm hAO hsz hP hS hl
  have hx := C.1.1
  have hb := C.1.2.1
  have hcl : s.heap.size + 0 = b + 12 := by omega
  refine lv_aload_n hx hb dX2_init_0 rfl (lv_at hl 0 rfl) ?_
  refine W.objInit hx hb C.1.2.2.2.1 (C.1.2.2.2.2 _ g_124) (C.1.2.2.2.2 _ g_30) (C.1.2.2.2.2 _ g_31) rfl (by rw [C.1.2.2.1]; exact hl.1) rfl dX2_init_1 (Nat.le_of_ble_eq_true rfl) (Nat.le_of_ble_eq_true rfl) ?_
  refine W.eq (g2 := F0 m 4 ls []) rfl ?_
  refine lv_aload_n hx hb dX2_init_4 rfl (lv_at hl 0 rfl) ?_
  refine lv_sipush (v := (240 : Int32)) hx hb dX2_init_5 (by decide) ?_
  refine qna (atype := .int) C (by omega) (by omega) hP hS hcl g_47 rfl (a0 := (240, .inl (fun _ => 0))) (N' := 240) (t0 := 0) rfl pr_int (fun _ => rfl) (by decide) (by decide) (Nat.le_of_ble_eq_true rfl) (Nat.le_of_ble_eq_true rfl) (Nat.le_of_ble_eq_true rfl) rfl dX2_init_8 (fun H hP hS hcl => ?_)
  have hP : va_P z.1 vwCl (pw (dR (xc z) (zR Rf 12)) 13 b (zM M 12)) H := hP
  obtain ⟨M1, eM1⟩ : ∃ X : Mem, X = zM M 12 := ⟨_, rfl⟩
  rw [← eM1] at hP
  obtain ⟨R1, eR1⟩ : ∃ X : Rm, X = zR Rf 12 := ⟨_, rfl⟩
  rw [← eR1] at hP
  refine W.widen (k := 1) (n := 240) (Nat.le_of_ble_eq_true rfl) (Nat.le_of_ble_eq_true rfl) ?_
  have hcl : s.heap.size + 1 = b + 13 := by omega
  refine qpR C hnm hP hS (k := 11) (j := 0) (v := b + 12) (ty := tyX2 0) (Nat.le_of_ble_eq_true rfl) (xr_11 _ _) rfl iw_2 tyX2 tyX2_ok nmX2 (Nat.le_of_ble_eq_true rfl) g_125 rfl rfl rfl (by decide +kernel) rfl rfl (Nat.le_of_ble_eq_true rfl) rfl dX2_init_10 (fun H locs hP hS => ?_)
  obtain ⟨R2, eR2⟩ : ∃ X : Rm, X = uR R1 11 0 (some (b + 12)) := ⟨_, rfl⟩
  rw [← eR2] at hP
  refine lv_aload_n hx hb dX2_init_13 rfl (lv_at hl 0 rfl) ?_
  refine lv_bipush (v := (33 : Int32)) hx hb dX2_init_14 (by decide) ?_
  refine qna (atype := .int) C (by omega) (by omega) hP hS hcl g_47 rfl (a0 := (33, .inl (fun _ => 0))) (N' := 33) (t0 := 0) rfl pr_int (fun _ => rfl) (by decide) (by decide) (Nat.le_of_ble_eq_true rfl) (Nat.le_of_ble_eq_true rfl) (Nat.le_of_ble_eq_true rfl) rfl dX2_init_16 (fun H hP hS hcl => ?_)
  have hP : va_P z.1 vwCl (pw (dR (xc z) (zR R2 13)) 14 b (zM M1 13)) H := hP
  obtain ⟨M3, eM3⟩ : ∃ X : Mem, X = zM M1 13 := ⟨_, rfl⟩
  rw [← eM3] at hP
  obtain ⟨R3, eR3⟩ : ∃ X : Rm, X = zR R2 13 := ⟨_, rfl⟩
  rw [← eR3] at hP
  refine W.widen (k := 2) (n := 273) (Nat.le_of_ble_eq_true rfl) (Nat.le_of_ble_eq_true rfl) ?_
  have hcl : s.heap.size + 2 = b + 14 := by omega
  refine qpR C hnm hP hS (k := 11) (j := 1) (v := b + 13) (ty := tyX2 1) (Nat.le_of_ble_eq_true rfl) (xr_11 _ _) rfl iw_2 tyX2 tyX2_ok nmX2 (Nat.le_of_ble_eq_true rfl) g_126 rfl rfl rfl (by decide +kernel) rfl rfl (Nat.le_of_ble_eq_true rfl) rfl dX2_init_18 (fun H locs hP hS => ?_)
  obtain ⟨R4, eR4⟩ : ∃ X : Rm, X = uR R3 11 1 (some (b + 13)) := ⟨_, rfl⟩
  rw [← eR4] at hP
  refine lv_aload_n hx hb dX2_init_21 rfl (lv_at hl 0 rfl) ?_
  refine lv_bipush (v := (16 : Int32)) hx hb dX2_init_22 (by decide) ?_
  refine qna (atype := .int) C (by omega) (by omega) hP hS hcl g_47 rfl (a0 := (16, .inl (fun _ => 0))) (N' := 16) (t0 := 0) rfl pr_int (fun _ => rfl) (by decide) (by decide) (Nat.le_of_ble_eq_true rfl) (Nat.le_of_ble_eq_true rfl) (Nat.le_of_ble_eq_true rfl) rfl dX2_init_24 (fun H hP hS hcl => ?_)
  have hP : va_P z.1 vwCl (pw (dR (xc z) (zR R4 14)) 15 b (zM M3 14)) H := hP
  obtain ⟨M5, eM5⟩ : ∃ X : Mem, X = zM M3 14 := ⟨_, rfl⟩
  rw [← eM5] at hP
  obtain ⟨R5, eR5⟩ : ∃ X : Rm, X = zR R4 14 := ⟨_, rfl⟩
  rw [← eR5] at hP
  refine W.widen (k := 3) (n := 289) (Nat.le_of_ble_eq_true rfl) (Nat.le_of_ble_eq_true rfl) ?_
  have hcl : s.heap.size + 3 = b + 15 := by omega
  refine qpR C hnm hP hS (k := 11) (j := 2) (v := b + 14) (ty := tyX2 2) (Nat.le_of_ble_eq_true rfl) (xr_11 _ _) rfl iw_2 tyX2 tyX2_ok nmX2 (Nat.le_of_ble_eq_true rfl) g_127 rfl rfl rfl (by decide +kernel) rfl rfl (Nat.le_of_ble_eq_true rfl) rfl dX2_init_26 (fun H locs hP hS => ?_)
  obtain ⟨R6, eR6⟩ : ∃ X : Rm, X = uR R5 11 2 (some (b + 14)) := ⟨_, rfl⟩
  rw [← eR6] at hP
  refine lv_aload_n hx hb dX2_init_29 rfl (lv_at hl 0 rfl) ?_
  refine lv_iconst (v := (0 : Int32)) hx hb dX2_init_30 (by decide) ?_
  refine qpI C hP hS (k := 11) (j := 3) (ty := .int) (Nat.le_of_ble_eq_true rfl) (xr_11 _ _) rfl iw_2 tyX2 tyX2_ok nmX2 (Nat.le_of_ble_eq_true rfl) g_128 rfl rfl (by decide +kernel) rfl rfl (Nat.le_of_ble_eq_true rfl) rfl dX2_init_31 (fun H locs hP hS => ?_)
  obtain ⟨M7, eM7⟩ : ∃ X : Mem, X = wI M5 11 3 (0 : Int32) := ⟨_, rfl⟩
  rw [← eM7] at hP
  refine lv_aload_n hx hb dX2_init_34 rfl (lv_at hl 0 rfl) ?_
  refine lv_bipush (v := (9 : Int32)) hx hb dX2_init_35 (by decide) ?_
  refine qna (atype := .int) C (by omega) (by omega) hP hS hcl g_47 rfl (a0 := (9, .inl (fun _ => 0))) (N' := 9) (t0 := 0) rfl pr_int (fun _ => rfl) (by decide) (by decide) (Nat.le_of_ble_eq_true rfl) (Nat.le_of_ble_eq_true rfl) (Nat.le_of_ble_eq_true rfl) rfl dX2_init_37 (fun H hP hS hcl => ?_)
  have hP : va_P z.1 vwCl (pw (dR (xc z) (zR R6 15)) 16 b (zM M7 15)) H := hP
  obtain ⟨M8, eM8⟩ : ∃ X : Mem, X = zM M7 15 := ⟨_, rfl⟩
  rw [← eM8] at hP
  obtain ⟨R8, eR8⟩ : ∃ X : Rm, X = zR R6 15 := ⟨_, rfl⟩
  rw [← eR8] at hP
  refine W.widen (k := 4) (n := 298) (Nat.le_of_ble_eq_true rfl) (Nat.le_of_ble_eq_true rfl) ?_
  have hcl : s.heap.size + 4 = b + 16 := by omega
  refine qpR C hnm hP hS (k := 11) (j := 4) (v := b + 15) (ty := tyX2 4) (Nat.le_of_ble_eq_true rfl) (xr_11 _ _) rfl iw_2 tyX2 tyX2_ok nmX2 (Nat.le_of_ble_eq_true rfl) g_130 rfl rfl rfl (by decide +kernel) rfl rfl (Nat.le_of_ble_eq_true rfl) rfl dX2_init_39 (fun H locs hP hS => ?_)
  obtain ⟨R9, eR9⟩ : ∃ X : Rm, X = uR R8 11 4 (some (b + 15)) := ⟨_, rfl⟩
  rw [← eR9] at hP
  refine lv_aload_n hx hb dX2_init_42 rfl (lv_at hl 0 rfl) ?_
  refine lv_bipush (v := (64 : Int32)) hx hb dX2_init_43 (by decide) ?_
  refine qna (atype := .int) C (by omega) (by omega) hP hS hcl g_47 rfl (a0 := (64, .inl (fun _ => 0))) (N' := 64) (t0 := 0) rfl pr_int (fun _ => rfl) (by decide) (by decide) (Nat.le_of_ble_eq_true rfl) (Nat.le_of_ble_eq_true rfl) (Nat.le_of_ble_eq_true rfl) rfl dX2_init_45 (fun H hP hS hcl => ?_)
  have hP : va_P z.1 vwCl (pw (dR (xc z) (zR R9 16)) 17 b (zM M8 16)) H := hP
  obtain ⟨M10, eM10⟩ : ∃ X : Mem, X = zM M8 16 := ⟨_, rfl⟩
  rw [← eM10] at hP
  obtain ⟨R10, eR10⟩ : ∃ X : Rm, X = zR R9 16 := ⟨_, rfl⟩
  rw [← eR10] at hP
  refine W.widen (k := 5) (n := 362) (Nat.le_of_ble_eq_true rfl) (Nat.le_of_ble_eq_true rfl) ?_
  have hcl : s.heap.size + 5 = b + 17 := by omega
  refine qpR C hnm hP hS (k := 11) (j := 5) (v := b + 16) (ty := tyX2 5) (Nat.le_of_ble_eq_true rfl) (xr_11 _ _) rfl iw_2 tyX2 tyX2_ok nmX2 (Nat.le_of_ble_eq_true rfl) g_131 rfl rfl rfl (by decide +kernel) rfl rfl (Nat.le_of_ble_eq_true rfl) rfl dX2_init_47 (fun H locs hP hS => ?_)
  obtain ⟨R11, eR11⟩ : ∃ X : Rm, X = uR R10 11 5 (some (b + 16)) := ⟨_, rfl⟩
  rw [← eR11] at hP
  exact qrV C hr hk2 hP hS (by subst eM1 eR1 eR2 eM3 eR3 eR4 eM5 eR5 eR6 eM7 eM8 eR8 eR9 eM10 eR10 eR11; rfl) dX2_init_50
theorem dX3_init_0 : decode cX3_init 0 = .ok (.aload_n 0, 1) := by decide +kernel
theorem dX3_init_1 : decode cX3_init 1 = .ok (.invokespecial 3, 3) := by decide +kernel
theorem dX3_init_4 : decode cX3_init 4 = .ok (.aload_n 0, 1) := by decide +kernel
theorem dX3_init_5 : decode cX3_init 5 = .ok (.sipush 240, 3) := by decide +kernel
theorem dX3_init_8 : decode cX3_init 8 = .ok (.newarray .int, 2) := by decide +kernel
theorem dX3_init_10 : decode cX3_init 10 = .ok (.putfield 9, 3) := by decide +kernel
theorem dX3_init_13 : decode cX3_init 13 = .ok (.aload_n 0, 1) := by decide +kernel
theorem dX3_init_14 : decode cX3_init 14 = .ok (.bipush 33, 2) := by decide +kernel
theorem dX3_init_16 : decode cX3_init 16 = .ok (.newarray .int, 2) := by decide +kernel
theorem dX3_init_18 : decode cX3_init 18 = .ok (.putfield 15, 3) := by decide +kernel
theorem dX3_init_21 : decode cX3_init 21 = .ok (.aload_n 0, 1) := by decide +kernel
theorem dX3_init_22 : decode cX3_init 22 = .ok (.bipush 16, 2) := by decide +kernel
theorem dX3_init_24 : decode cX3_init 24 = .ok (.newarray .int, 2) := by decide +kernel
theorem dX3_init_26 : decode cX3_init 26 = .ok (.putfield 18, 3) := by decide +kernel
theorem dX3_init_29 : decode cX3_init 29 = .ok (.aload_n 0, 1) := by decide +kernel
theorem dX3_init_30 : decode cX3_init 30 = .ok (.bipush 64, 2) := by decide +kernel
theorem dX3_init_32 : decode cX3_init 32 = .ok (.newarray .int, 2) := by decide +kernel
theorem dX3_init_34 : decode cX3_init 34 = .ok (.putfield 21, 3) := by decide +kernel
theorem dX3_init_37 : decode cX3_init 37 = .ok (.aload_n 0, 1) := by decide +kernel
theorem dX3_init_38 : decode cX3_init 38 = .ok (.bipush 64, 2) := by decide +kernel
theorem dX3_init_40 : decode cX3_init 40 = .ok (.newarray .int, 2) := by decide +kernel
theorem dX3_init_42 : decode cX3_init 42 = .ok (.putfield 24, 3) := by decide +kernel
theorem dX3_init_45 : decode cX3_init 45 = .ok (.aload_n 0, 1) := by decide +kernel
theorem dX3_init_46 : decode cX3_init 46 = .ok (.iconst 0, 1) := by decide +kernel
theorem dX3_init_47 : decode cX3_init 47 = .ok (.putfield 27, 3) := by decide +kernel
theorem dX3_init_50 : decode cX3_init 50 = .ok (.aload_n 0, 1) := by decide +kernel
theorem dX3_init_51 : decode cX3_init 51 = .ok (.iconst 0, 1) := by decide +kernel
theorem dX3_init_52 : decode cX3_init 52 = .ok (.putfield 31, 3) := by decide +kernel
theorem dX3_init_55 : decode cX3_init 55 = .ok (.aload_n 0, 1) := by decide +kernel
theorem dX3_init_56 : decode cX3_init 56 = .ok (.iconst 0, 1) := by decide +kernel
theorem dX3_init_57 : decode cX3_init 57 = .ok (.putfield 34, 3) := by decide +kernel
theorem dX3_init_60 : decode cX3_init 60 = .ok (.aload_n 0, 1) := by decide +kernel
theorem dX3_init_61 : decode cX3_init 61 = .ok (.iconst 0, 1) := by decide +kernel
theorem dX3_init_62 : decode cX3_init 62 = .ok (.putfield 37, 3) := by decide +kernel
theorem dX3_init_65 : decode cX3_init 65 = .ok (.aload_n 0, 1) := by decide +kernel
theorem dX3_init_66 : decode cX3_init 66 = .ok (.iconst 0, 1) := by decide +kernel
theorem dX3_init_67 : decode cX3_init 67 = .ok (.putfield 40, 3) := by decide +kernel
theorem dX3_init_70 : decode cX3_init 70 = .ok (.aload_n 0, 1) := by decide +kernel
theorem dX3_init_71 : decode cX3_init 71 = .ok (.iconst 0, 1) := by decide +kernel
theorem dX3_init_72 : decode cX3_init 72 = .ok (.putfield 43, 3) := by decide +kernel
theorem dX3_init_75 : decode cX3_init 75 = .ok (.aload_n 0, 1) := by decide +kernel
theorem dX3_init_76 : decode cX3_init 76 = .ok (.iconst 0, 1) := by decide +kernel
theorem dX3_init_77 : decode cX3_init 77 = .ok (.putfield 46, 3) := by decide +kernel
theorem dX3_init_80 : decode cX3_init 80 = .ok (.return_, 1) := by decide +kernel
theorem y3_init_w : yI yX3_init cX3_init 1 0 := ⟨g_148, g_7, g_149, rfl, by decide, by decide, by decide +kernel⟩
abbrev rmq3_init : Room := { frames := 1, cells := 5, slots := 417, locals := 12 }
set_option maxHeartbeats 4000000 in
set_option maxRecDepth 100000 in
theorem cq3_init_17 {l : Launch} {z : Zt} {b : Nat} {M : Mem} {Rf : Rm} : CC l z (xc z) b yX3_init cX3_init 1 rmq3_init [.ref (b + 17)] 18 M Rf 23 (fun u => u = ((wI (wI (wI (wI (wI (wI (wI (zM (zM (zM (zM (zM M 18) 19) 20) 21) 22) 17 5 (0 : Int32)) 17 6 (0 : Int32)) 17 7 (0 : Int32)) 17 8 (0 : Int32)) 17 9 (0 : Int32)) 17 10 (0 : Int32)) 17 11 (0 : Int32)), (uR (zR (uR (zR (uR (zR (uR (zR (uR (zR Rf 18) 17 0 (some (b + 18))) 19) 17 1 (some (b + 19))) 20) 17 2 (some (b + 20))) 21) 17 3 (some (b + 21))) 22) 17 4 (some (b + 22))))) 5 417 := by
  refine CC.ofW (lv := [(0, .ref (b + 17))]) (by decide) rfl (Nat.le_of_ble_eq_true rfl) rfl ?_
  intro p e s m args below meth c ls C hr hk2 hnm hAO hsz hP hS hl
  have hx := C.1.1
  have hb := C.1.2.1
  have hcl : s.heap.size + 0 = b + 18 := by omega
  refine lv_aload_n hx hb dX3_init_0 rfl (lv_at hl 0 rfl) ?_
  refine W.objInit hx hb C.1.2.2.2.1 (C.1.2.2.2.2 _ g_150) (C.1.2.2.2.2 _ g_30) (C.1.2.2.2.2 _ g_31) rfl (by rw [C.1.2.2.1]; exact hl.1) rfl dX3_init_1 (Nat.le_of_ble_eq_true rfl) (Nat.le_of_ble_eq_true rfl) ?_
  refine W.eq (g2 := F0 m 4 ls []) rfl ?_
  refine lv_aload_n hx hb dX3_init_4 rfl (lv_at hl 0 rfl) ?_
  refine lv_sipush (v := (240 : Int32)) hx hb dX3_init_5 (by decide) ?_
  refine qna (atype := .int) C (by omega) (by omega) hP hS hcl g_47 rfl (a0 := (240, .inl (fun _ => 0))) (N' := 240) (t0 := 0) rfl pr_int (fun _ => rfl) (by decide) (by decide) (Nat.le_of_ble_eq_true rfl) (Nat.le_of_ble_eq_true rfl) (Nat.le_of_ble_eq_true rfl) rfl dX3_init_8 (fun H hP hS hcl => ?_)
  have hP : va_P z.1 vwCl (pw (dR (xc z) (zR Rf 18)) 19 b (zM M 18)) H := hP
  obtain ⟨M1, eM1⟩ : ∃ X : Mem, X = zM M 18 := ⟨_, rfl⟩
  rw [← eM1] at hP
  obtain ⟨R1, eR1⟩ : ∃ X : Rm, X = zR Rf 18 := ⟨_, rfl⟩
  rw [← eR1] at hP
  refine W.widen (k := 1) (n := 240) (Nat.le_of_ble_eq_true rfl) (Nat.le_of_ble_eq_true rfl) ?_
  have hcl : s.heap.size + 1 = b + 19 := by omega
  refine qpR C hnm hP hS (k := 17) (j := 0) (v := b + 18) (ty := tyX3 0) (Nat.le_of_ble_eq_true rfl) (xr_17 _ _) rfl iw_3 tyX3 tyX3_ok nmX3 (Nat.le_of_ble_eq_true rfl) g_151 rfl rfl rfl (by decide +kernel) rfl rfl (Nat.le_of_ble_eq_true rfl) rfl dX3_init_10 (fun H locs hP hS => ?_)
  obtain ⟨R2, eR2⟩ : ∃ X : Rm, X = uR R1 17 0 (some (b + 18)) := ⟨_, rfl⟩
  rw [← eR2] at hP
  refine lv_aload_n hx hb dX3_init_13 rfl (lv_at hl 0 rfl) ?_
  refine lv_bipush (v := (33 : Int32)) hx hb dX3_init_14 (by decide) ?_
  refine qna (atype := .int) C (by omega) (by omega) hP hS hcl g_47 rfl (a0 := (33, .inl (fun _ => 0))) (N' := 33) (t0 := 0) rfl pr_int (fun _ => rfl) (by decide) (by decide) (Nat.le_of_ble_eq_true rfl) (Nat.le_of_ble_eq_true rfl) (Nat.le_of_ble_eq_true rfl) rfl dX3_init_16 (fun H hP hS hcl => ?_)
  have hP : va_P z.1 vwCl (pw (dR (xc z) (zR R2 19)) 20 b (zM M1 19)) H := hP
  obtain ⟨M3, eM3⟩ : ∃ X : Mem, X = zM M1 19 := ⟨_, rfl⟩
  rw [← eM3] at hP
  obtain ⟨R3, eR3⟩ : ∃ X : Rm, X = zR R2 19 := ⟨_, rfl⟩
  rw [← eR3] at hP
  refine W.widen (k := 2) (n := 273) (Nat.le_of_ble_eq_true rfl) (Nat.le_of_ble_eq_true rfl) ?_
  have hcl : s.heap.size + 2 = b + 20 := by omega
  refine qpR C hnm hP hS (k := 17) (j := 1) (v := b + 19) (ty := tyX3 1) (Nat.le_of_ble_eq_true rfl) (xr_17 _ _) rfl iw_3 tyX3 tyX3_ok nmX3 (Nat.le_of_ble_eq_true rfl) g_153 rfl rfl rfl (by decide +kernel) rfl rfl (Nat.le_of_ble_eq_true rfl) rfl dX3_init_18 (fun H locs hP hS => ?_)
  obtain ⟨R4, eR4⟩ : ∃ X : Rm, X = uR R3 17 1 (some (b + 19)) := ⟨_, rfl⟩
  rw [← eR4] at hP
  refine lv_aload_n hx hb dX3_init_21 rfl (lv_at hl 0 rfl) ?_
  refine lv_bipush (v := (16 : Int32)) hx hb dX3_init_22 (by decide) ?_
  refine qna (atype := .int) C (by omega) (by omega) hP hS hcl g_47 rfl (a0 := (16, .inl (fun _ => 0))) (N' := 16) (t0 := 0) rfl pr_int (fun _ => rfl) (by decide) (by decide) (Nat.le_of_ble_eq_true rfl) (Nat.le_of_ble_eq_true rfl) (Nat.le_of_ble_eq_true rfl) rfl dX3_init_24 (fun H hP hS hcl => ?_)
  have hP : va_P z.1 vwCl (pw (dR (xc z) (zR R4 20)) 21 b (zM M3 20)) H := hP
  obtain ⟨M5, eM5⟩ : ∃ X : Mem, X = zM M3 20 := ⟨_, rfl⟩
  rw [← eM5] at hP
  obtain ⟨R5, eR5⟩ : ∃ X : Rm, X = zR R4 20 := ⟨_, rfl⟩
  rw [← eR5] at hP
  refine W.widen (k := 3) (n := 289) (Nat.le_of_ble_eq_true rfl) (Nat.le_of_ble_eq_true rfl) ?_
  have hcl : s.heap.size + 3 = b + 21 := by omega
  refine qpR C hnm hP hS (k := 17) (j := 2) (v := b + 20) (ty := tyX3 2) (Nat.le_of_ble_eq_true rfl) (xr_17 _ _) rfl iw_3 tyX3 tyX3_ok nmX3 (Nat.le_of_ble_eq_true rfl) g_155 rfl rfl rfl (by decide +kernel) rfl rfl (Nat.le_of_ble_eq_true rfl) rfl dX3_init_26 (fun H locs hP hS => ?_)
  obtain ⟨R6, eR6⟩ : ∃ X : Rm, X = uR R5 17 2 (some (b + 20)) := ⟨_, rfl⟩
  rw [← eR6] at hP
  refine lv_aload_n hx hb dX3_init_29 rfl (lv_at hl 0 rfl) ?_
  refine lv_bipush (v := (64 : Int32)) hx hb dX3_init_30 (by decide) ?_
  refine qna (atype := .int) C (by omega) (by omega) hP hS hcl g_47 rfl (a0 := (64, .inl (fun _ => 0))) (N' := 64) (t0 := 0) rfl pr_int (fun _ => rfl) (by decide) (by decide) (Nat.le_of_ble_eq_true rfl) (Nat.le_of_ble_eq_true rfl) (Nat.le_of_ble_eq_true rfl) rfl dX3_init_32 (fun H hP hS hcl => ?_)
  have hP : va_P z.1 vwCl (pw (dR (xc z) (zR R6 21)) 22 b (zM M5 21)) H := hP
  obtain ⟨M7, eM7⟩ : ∃ X : Mem, X = zM M5 21 := ⟨_, rfl⟩
  rw [← eM7] at hP
  obtain ⟨R7, eR7⟩ : ∃ X : Rm, X = zR R6 21 := ⟨_, rfl⟩
  rw [← eR7] at hP
  refine W.widen (k := 4) (n := 353) (Nat.le_of_ble_eq_true rfl) (Nat.le_of_ble_eq_true rfl) ?_
  have hcl : s.heap.size + 4 = b + 22 := by omega
  refine qpR C hnm hP hS (k := 17) (j := 3) (v := b + 21) (ty := tyX3 3) (Nat.le_of_ble_eq_true rfl) (xr_17 _ _) rfl iw_3 tyX3 tyX3_ok nmX3 (Nat.le_of_ble_eq_true rfl) g_157 rfl rfl rfl (by decide +kernel) rfl rfl (Nat.le_of_ble_eq_true rfl) rfl dX3_init_34 (fun H locs hP hS => ?_)
  obtain ⟨R8, eR8⟩ : ∃ X : Rm, X = uR R7 17 3 (some (b + 21)) := ⟨_, rfl⟩
  rw [← eR8] at hP
  refine lv_aload_n hx hb dX3_init_37 rfl (lv_at hl 0 rfl) ?_
  refine lv_bipush (v := (64 : Int32)) hx hb dX3_init_38 (by decide) ?_
  refine qna (atype := .int) C (by omega) (by omega) hP hS hcl g_47 rfl (a0 := (64, .inl (fun _ => 0))) (N' := 64) (t0 := 0) rfl pr_int (fun _ => rfl) (by decide) (by decide) (Nat.le_of_ble_eq_true rfl) (Nat.le_of_ble_eq_true rfl) (Nat.le_of_ble_eq_true rfl) rfl dX3_init_40 (fun H hP hS hcl => ?_)
  have hP : va_P z.1 vwCl (pw (dR (xc z) (zR R8 22)) 23 b (zM M7 22)) H := hP
  obtain ⟨M9, eM9⟩ : ∃ X : Mem, X = zM M7 22 := ⟨_, rfl⟩
  rw [← eM9] at hP
  obtain ⟨R9, eR9⟩ : ∃ X : Rm, X = zR R8 22 := ⟨_, rfl⟩
  rw [← eR9] at hP
  refine W.widen (k := 5) (n := 417) (Nat.le_of_ble_eq_true rfl) (Nat.le_of_ble_eq_true rfl) ?_
  have hcl : s.heap.size + 5 = b + 23 := by omega
  refine qpR C hnm hP hS (k := 17) (j := 4) (v := b + 22) (ty := tyX3 4) (Nat.le_of_ble_eq_true rfl) (xr_17 _ _) rfl iw_3 tyX3 tyX3_ok nmX3 (Nat.le_of_ble_eq_true rfl) g_158 rfl rfl rfl (by decide +kernel) rfl rfl (Nat.le_of_ble_eq_true rfl) rfl dX3_init_42 (fun H locs hP hS => ?_)
  obtain ⟨R10, eR10⟩ : ∃ X : Rm, X = uR R9 17 4 (some (b + 22)) := ⟨_, rfl⟩
  rw [← eR10] at hP
  refine lv_aload_n hx hb dX3_init_45 rfl (lv_at hl 0 rfl) ?_
  refine lv_iconst (v := (0 : Int32)) hx hb dX3_init_46 (by decide) ?_
  refine qpI C hP hS (k := 17) (j := 5) (ty := .int) (Nat.le_of_ble_eq_true rfl) (xr_17 _ _) rfl iw_3 tyX3 tyX3_ok nmX3 (Nat.le_of_ble_eq_true rfl) g_159 rfl rfl (by decide +kernel) rfl rfl (Nat.le_of_ble_eq_true rfl) rfl dX3_init_47 (fun H locs hP hS => ?_)
  obtain ⟨M11, eM11⟩ : ∃ X : Mem, X = wI M9 17 5 (0 : Int32) := ⟨_, rfl⟩
  rw [← eM11] at hP
  refine lv_aload_n hx hb dX3_init_50 rfl (lv_at hl 0 rfl) ?_
  refine lv_iconst (v := (0 : Int32)) hx hb dX3_init_51 (by decide) ?_
  refine qpI C hP hS (k := 17) (j := 6) (ty := .int) (Nat.le_of_ble_eq_true rfl) (xr_17 _ _) rfl iw_3 tyX3 tyX3_ok nmX3 (Nat.le_of_ble_eq_true rfl) g_161 rfl rfl (by decide +kernel) rfl rfl (Nat.le_of_ble_eq_true rfl) rfl dX3_init_52 (fun H locs hP hS => ?_)
  obtain ⟨M12, eM12⟩ : ∃ X : Mem, X = wI M11 17 6 (0 : Int32) := ⟨_, rfl⟩
  rw [← eM12] at hP
  refine lv_aload_n hx hb dX3_init_55 rfl (lv_at hl 0 rfl) ?_
  refine lv_iconst (v := (0 : Int32)) hx hb dX3_init_56 (by decide) ?_
  refine qpI C hP hS (k := 17) (j := 7) (ty := .int) (Nat.le_of_ble_eq_true rfl) (xr_17 _ _) rfl iw_3 tyX3 tyX3_ok nmX3 (Nat.le_of_ble_eq_true rfl) g_162 rfl rfl (by decide +kernel) rfl rfl (Nat.le_of_ble_eq_true rfl) rfl dX3_init_57 (fun H locs hP hS => ?_)
  obtain ⟨M13, eM13⟩ : ∃ X : Mem, X = wI M12 17 7 (0 : Int32) := ⟨_, rfl⟩
  rw [← eM13] at hP
  refine lv_aload_n hx hb dX3_init_60 rfl (lv_at hl 0 rfl) ?_
  refine lv_iconst (v := (0 : Int32)) hx hb dX3_init_61 (by decide) ?_
  refine qpI C hP hS (k := 17) (j := 8) (ty := .int) (Nat.le_of_ble_eq_true rfl) (xr_17 _ _) rfl iw_3 tyX3 tyX3_ok nmX3 (Nat.le_of_ble_eq_true rfl) g_163 rfl rfl (by decide +kernel) rfl rfl (Nat.le_of_ble_eq_true rfl) rfl dX3_init_62 (fun H locs hP hS => ?_)
  obtain ⟨M14, eM14⟩ : ∃ X : Mem, X = wI M13 17 8 (0 : Int32) := ⟨_, rfl⟩
  rw [← eM14] at hP
  refine lv_aload_n hx hb dX3_init_65 rfl (lv_at hl 0 rfl) ?_
  refine lv_iconst (v := (0 : Int32)) hx hb dX3_init_66 (by decide) ?_
  refine qpI C hP hS (k := 17) (j := 9) (ty := .int) (Nat.le_of_ble_eq_true rfl) (xr_17 _ _) rfl iw_3 tyX3 tyX3_ok nmX3 (Nat.le_of_ble_eq_true rfl) g_164 rfl rfl (by decide +kernel) rfl rfl (Nat.le_of_ble_eq_true rfl) rfl dX3_init_67 (fun H locs hP hS => ?_)
  obtain ⟨M15, eM15⟩ : ∃ X : Mem, X = wI M14 17 9 (0 : Int32) := ⟨_, rfl⟩
  rw [← eM15] at hP
  refine lv_aload_n hx hb dX3_init_70 rfl (lv_at hl 0 rfl) ?_
  refine lv_iconst (v := (0 : Int32)) hx hb dX3_init_71 (by decide) ?_
  refine qpI C hP hS (k := 17) (j := 10) (ty := .int) (Nat.le_of_ble_eq_true rfl) (xr_17 _ _) rfl iw_3 tyX3 tyX3_ok nmX3 (Nat.le_of_ble_eq_true rfl) g_165 rfl rfl (by decide +kernel) rfl rfl (Nat.le_of_ble_eq_true rfl) rfl dX3_init_72 (fun H locs hP hS => ?_)
  obtain ⟨M16, eM16⟩ : ∃ X : Mem, X = wI M15 17 10 (0 : Int32) := ⟨_, rfl⟩
  rw [← eM16] at hP
  refine lv_aload_n hx hb dX3_init_75 rfl (lv_at hl 0 rfl) ?_
  refine lv_iconst (v := (0 : Int32)) hx hb dX3_init_76 (by decide) ?_
  refine qpI C hP hS (k := 17) (j := 11) (ty := .int) (Nat.le_of_ble_eq_true rfl) (xr_17 _ _) rfl iw_3 tyX3 tyX3_ok nmX3 (Nat.le_of_ble_eq_true rfl) g_166 rfl rfl (by decide +kernel) rfl rfl (Nat.le_of_ble_eq_true rfl) rfl dX3_init_77 (fun H locs hP hS => ?_)
  obtain ⟨M17, eM17⟩ : ∃ X : Mem, X = wI M16 17 11 (0 : Int32) := ⟨_, rfl⟩
  rw [← eM17] at hP
  exact qrV C hr hk2 hP hS (by subst eM1 eR1 eR2 eM3 eR3 eR4 eM5 eR5 eR6 eM7 eR7 eR8 eM9 eR9 eR10 eM11 eM12 eM13 eM14 eM15 eM16 eM17; rfl) dX3_init_80
theorem dX10_init_0 : decode cX10_init 0 = .ok (.aload_n 0, 1) := by decide +kernel
theorem dX10_init_1 : decode cX10_init 1 = .ok (.invokespecial 3, 3) := by decide +kernel
theorem dX10_init_4 : decode cX10_init 4 = .ok (.aload_n 0, 1) := by decide +kernel
theorem dX10_init_5 : decode cX10_init 5 = .ok (.bipush 24, 2) := by decide +kernel
theorem dX10_init_7 : decode cX10_init 7 = .ok (.newarray .int, 2) := by decide +kernel
theorem dX10_init_9 : decode cX10_init 9 = .ok (.putfield 9, 3) := by decide +kernel
theorem dX10_init_12 : decode cX10_init 12 = .ok (.aload_n 0, 1) := by decide +kernel
theorem dX10_init_13 : decode cX10_init 13 = .ok (.aload_n 1, 1) := by decide +kernel
theorem dX10_init_14 : decode cX10_init 14 = .ok (.putfield 15, 3) := by decide +kernel
theorem dX10_init_17 : decode cX10_init 17 = .ok (.aload_n 0, 1) := by decide +kernel
theorem dX10_init_18 : decode cX10_init 18 = .ok (.aload_n 2, 1) := by decide +kernel
theorem dX10_init_19 : decode cX10_init 19 = .ok (.putfield 19, 3) := by decide +kernel
theorem dX10_init_22 : decode cX10_init 22 = .ok (.return_, 1) := by decide +kernel
theorem y10_init_w : yI yX10_init cX10_init 3 2 := ⟨g_195, g_8, g_196, rfl, by decide, by decide, by decide +kernel⟩
abbrev rmq10_init : Room := { frames := 1, cells := 1, slots := 24, locals := 12 }
set_option maxHeartbeats 4000000 in
set_option maxRecDepth 100000 in
theorem cq10_init_23 {l : Launch} {z : Zt} {b : Nat} {M : Mem} {Rf : Rm} : CC l z (xc z) b yX10_init cX10_init 3 rmq10_init [.ref (b + 23), .ref (b + 3), .ref (b + 11)] 24 M Rf 25 (fun u => u = ((zM M 24), (uR (uR (uR (zR Rf 24) 23 2 (some (b + 24))) 23 0 (some (b + 3))) 23 1 (some (b + 11))))) 1 24 := by
  refine CC.ofW (lv := [(0, .ref (b + 23)), (1, .ref (b + 3)), (2, .ref (b + 11))]) (by decide) rfl (Nat.le_of_ble_eq_true rfl) rfl ?_
  intro p e s m args below meth c ls C hr hk2 hnm hAO hsz hP hS hl
  have hx := C.1.1
  have hb := C.1.2.1
  have hcl : s.heap.size + 0 = b + 24 := by omega
  refine lv_aload_n hx hb dX10_init_0 rfl (lv_at hl 0 rfl) ?_
  refine W.objInit hx hb C.1.2.2.2.1 (C.1.2.2.2.2 _ g_197) (C.1.2.2.2.2 _ g_30) (C.1.2.2.2.2 _ g_31) rfl (by rw [C.1.2.2.1]; exact hl.1) rfl dX10_init_1 (Nat.le_of_ble_eq_true rfl) (Nat.le_of_ble_eq_true rfl) ?_
  refine W.eq (g2 := F0 m 4 ls []) rfl ?_
  refine lv_aload_n hx hb dX10_init_4 rfl (lv_at hl 0 rfl) ?_
  refine lv_bipush (v := (24 : Int32)) hx hb dX10_init_5 (by decide) ?_
  refine qna (atype := .int) C (by omega) (by omega) hP hS hcl g_47 rfl (a0 := (24, .inl (fun _ => 0))) (N' := 24) (t0 := 0) rfl pr_int (fun _ => rfl) (by decide) (by decide) (Nat.le_of_ble_eq_true rfl) (Nat.le_of_ble_eq_true rfl) (Nat.le_of_ble_eq_true rfl) rfl dX10_init_7 (fun H hP hS hcl => ?_)
  have hP : va_P z.1 vwCl (pw (dR (xc z) (zR Rf 24)) 25 b (zM M 24)) H := hP
  obtain ⟨M1, eM1⟩ : ∃ X : Mem, X = zM M 24 := ⟨_, rfl⟩
  rw [← eM1] at hP
  obtain ⟨R1, eR1⟩ : ∃ X : Rm, X = zR Rf 24 := ⟨_, rfl⟩
  rw [← eR1] at hP
  refine W.widen (k := 1) (n := 24) (Nat.le_of_ble_eq_true rfl) (Nat.le_of_ble_eq_true rfl) ?_
  have hcl : s.heap.size + 1 = b + 25 := by omega
  refine qpR C hnm hP hS (k := 23) (j := 2) (v := b + 24) (ty := tyX10 2) (Nat.le_of_ble_eq_true rfl) (xr_23 _ _) rfl iw_10 tyX10 tyX10_ok nmX10 (Nat.le_of_ble_eq_true rfl) g_200 rfl rfl rfl (by decide +kernel) rfl rfl (Nat.le_of_ble_eq_true rfl) rfl dX10_init_9 (fun H locs hP hS => ?_)
  obtain ⟨R2, eR2⟩ : ∃ X : Rm, X = uR R1 23 2 (some (b + 24)) := ⟨_, rfl⟩
  rw [← eR2] at hP
  refine lv_aload_n hx hb dX10_init_12 rfl (lv_at hl 0 rfl) ?_
  refine lv_aload_n hx hb dX10_init_13 rfl (lv_at hl 1 rfl) ?_
  refine qpR C hnm hP hS (k := 23) (j := 0) (v := b + 3) (ty := tyX10 0) (Nat.le_of_ble_eq_true rfl) (xr_23 _ _) rfl iw_10 tyX10 tyX10_ok nmX10 (Nat.le_of_ble_eq_true rfl) g_198 rfl rfl rfl (by decide +kernel) rfl rfl (Nat.le_of_ble_eq_true rfl) rfl dX10_init_14 (fun H locs hP hS => ?_)
  obtain ⟨R3, eR3⟩ : ∃ X : Rm, X = uR R2 23 0 (some (b + 3)) := ⟨_, rfl⟩
  rw [← eR3] at hP
  refine lv_aload_n hx hb dX10_init_17 rfl (lv_at hl 0 rfl) ?_
  refine lv_aload_n hx hb dX10_init_18 rfl (lv_at hl 2 rfl) ?_
  refine qpR C hnm hP hS (k := 23) (j := 1) (v := b + 11) (ty := tyX10 1) (Nat.le_of_ble_eq_true rfl) (xr_23 _ _) rfl iw_10 tyX10 tyX10_ok nmX10 (Nat.le_of_ble_eq_true rfl) g_199 rfl rfl rfl (by decide +kernel) rfl rfl (Nat.le_of_ble_eq_true rfl) rfl dX10_init_19 (fun H locs hP hS => ?_)
  obtain ⟨R4, eR4⟩ : ∃ X : Rm, X = uR R3 23 1 (some (b + 11)) := ⟨_, rfl⟩
  rw [← eR4] at hP
  exact qrV C hr hk2 hP hS (by subst eM1 eR1 eR2 eR3 eR4; rfl) dX10_init_22
theorem dX9_init_0 : decode cX9_init 0 = .ok (.aload_n 0, 1) := by decide +kernel
theorem dX9_init_1 : decode cX9_init 1 = .ok (.invokespecial 3, 3) := by decide +kernel
theorem dX9_init_4 : decode cX9_init 4 = .ok (.aload_n 0, 1) := by decide +kernel
theorem dX9_init_5 : decode cX9_init 5 = .ok (.bipush 24, 2) := by decide +kernel
theorem dX9_init_7 : decode cX9_init 7 = .ok (.newarray .int, 2) := by decide +kernel
theorem dX9_init_9 : decode cX9_init 9 = .ok (.putfield 9, 3) := by decide +kernel
theorem dX9_init_12 : decode cX9_init 12 = .ok (.aload_n 0, 1) := by decide +kernel
theorem dX9_init_13 : decode cX9_init 13 = .ok (.iconst 0, 1) := by decide +kernel
theorem dX9_init_14 : decode cX9_init 14 = .ok (.putfield 15, 3) := by decide +kernel
theorem dX9_init_17 : decode cX9_init 17 = .ok (.aload_n 0, 1) := by decide +kernel
theorem dX9_init_18 : decode cX9_init 18 = .ok (.iconst 0, 1) := by decide +kernel
theorem dX9_init_19 : decode cX9_init 19 = .ok (.putfield 19, 3) := by decide +kernel
theorem dX9_init_22 : decode cX9_init 22 = .ok (.aload_n 0, 1) := by decide +kernel
theorem dX9_init_23 : decode cX9_init 23 = .ok (.iconst 0, 1) := by decide +kernel
theorem dX9_init_24 : decode cX9_init 24 = .ok (.putfield 22, 3) := by decide +kernel
theorem dX9_init_27 : decode cX9_init 27 = .ok (.aload_n 0, 1) := by decide +kernel
theorem dX9_init_28 : decode cX9_init 28 = .ok (.iconst 0, 1) := by decide +kernel
theorem dX9_init_29 : decode cX9_init 29 = .ok (.putfield 25, 3) := by decide +kernel
theorem dX9_init_32 : decode cX9_init 32 = .ok (.aload_n 0, 1) := by decide +kernel
theorem dX9_init_33 : decode cX9_init 33 = .ok (.iconst 0, 1) := by decide +kernel
theorem dX9_init_34 : decode cX9_init 34 = .ok (.putfield 28, 3) := by decide +kernel
theorem dX9_init_37 : decode cX9_init 37 = .ok (.aload_n 0, 1) := by decide +kernel
theorem dX9_init_38 : decode cX9_init 38 = .ok (.iconst 0, 1) := by decide +kernel
theorem dX9_init_39 : decode cX9_init 39 = .ok (.putfield 31, 3) := by decide +kernel
theorem dX9_init_42 : decode cX9_init 42 = .ok (.aload_n 0, 1) := by decide +kernel
theorem dX9_init_43 : decode cX9_init 43 = .ok (.aload_n 1, 1) := by decide +kernel
theorem dX9_init_44 : decode cX9_init 44 = .ok (.putfield 34, 3) := by decide +kernel
theorem dX9_init_47 : decode cX9_init 47 = .ok (.return_, 1) := by decide +kernel
theorem y9_init_w : yI yX9_init cX9_init 2 1 := ⟨g_211, g_9, g_212, rfl, by decide, by decide, by decide +kernel⟩
abbrev rmq9_init : Room := { frames := 1, cells := 1, slots := 24, locals := 12 }
set_option maxHeartbeats 4000000 in
set_option maxRecDepth 100000 in
theorem cq9_init_25 {l : Launch} {z : Zt} {b : Nat} {M : Mem} {Rf : Rm} : CC l z (xc z) b yX9_init cX9_init 2 rmq9_init [.ref (b + 25), .ref (b + 11)] 26 M Rf 27 (fun u => u = ((wI (wI (wI (wI (wI (wI (zM M 26) 25 2 (0 : Int32)) 25 3 (0 : Int32)) 25 4 (0 : Int32)) 25 5 (0 : Int32)) 25 6 (0 : Int32)) 25 7 (0 : Int32)), (uR (uR (zR Rf 26) 25 1 (some (b + 26))) 25 0 (some (b + 11))))) 1 24 := by
  refine CC.ofW (lv := [(0, .ref (b + 25)), (1, .ref (b + 11))]) (by decide) rfl (Nat.le_of_ble_eq_true rfl) rfl ?_
  intro p e s m args below meth c ls C hr hk2 hnm hAO hsz hP hS hl
  have hx := C.1.1
  have hb := C.1.2.1
  have hcl : s.heap.size + 0 = b + 26 := by omega
  refine lv_aload_n hx hb dX9_init_0 rfl (lv_at hl 0 rfl) ?_
  refine W.objInit hx hb C.1.2.2.2.1 (C.1.2.2.2.2 _ g_213) (C.1.2.2.2.2 _ g_30) (C.1.2.2.2.2 _ g_31) rfl (by rw [C.1.2.2.1]; exact hl.1) rfl dX9_init_1 (Nat.le_of_ble_eq_true rfl) (Nat.le_of_ble_eq_true rfl) ?_
  refine W.eq (g2 := F0 m 4 ls []) rfl ?_
  refine lv_aload_n hx hb dX9_init_4 rfl (lv_at hl 0 rfl) ?_
  refine lv_bipush (v := (24 : Int32)) hx hb dX9_init_5 (by decide) ?_
  refine qna (atype := .int) C (by omega) (by omega) hP hS hcl g_47 rfl (a0 := (24, .inl (fun _ => 0))) (N' := 24) (t0 := 0) rfl pr_int (fun _ => rfl) (by decide) (by decide) (Nat.le_of_ble_eq_true rfl) (Nat.le_of_ble_eq_true rfl) (Nat.le_of_ble_eq_true rfl) rfl dX9_init_7 (fun H hP hS hcl => ?_)
  have hP : va_P z.1 vwCl (pw (dR (xc z) (zR Rf 26)) 27 b (zM M 26)) H := hP
  obtain ⟨M1, eM1⟩ : ∃ X : Mem, X = zM M 26 := ⟨_, rfl⟩
  rw [← eM1] at hP
  obtain ⟨R1, eR1⟩ : ∃ X : Rm, X = zR Rf 26 := ⟨_, rfl⟩
  rw [← eR1] at hP
  refine W.widen (k := 1) (n := 24) (Nat.le_of_ble_eq_true rfl) (Nat.le_of_ble_eq_true rfl) ?_
  have hcl : s.heap.size + 1 = b + 27 := by omega
  refine qpR C hnm hP hS (k := 25) (j := 1) (v := b + 26) (ty := tyX9 1) (Nat.le_of_ble_eq_true rfl) (xr_25 _ _) rfl iw_9 tyX9 tyX9_ok nmX9 (Nat.le_of_ble_eq_true rfl) g_215 rfl rfl rfl (by decide +kernel) rfl rfl (Nat.le_of_ble_eq_true rfl) rfl dX9_init_9 (fun H locs hP hS => ?_)
  obtain ⟨R2, eR2⟩ : ∃ X : Rm, X = uR R1 25 1 (some (b + 26)) := ⟨_, rfl⟩
  rw [← eR2] at hP
  refine lv_aload_n hx hb dX9_init_12 rfl (lv_at hl 0 rfl) ?_
  refine lv_iconst (v := (0 : Int32)) hx hb dX9_init_13 (by decide) ?_
  refine qpI C hP hS (k := 25) (j := 2) (ty := .int) (Nat.le_of_ble_eq_true rfl) (xr_25 _ _) rfl iw_9 tyX9 tyX9_ok nmX9 (Nat.le_of_ble_eq_true rfl) g_217 rfl rfl (by decide +kernel) rfl rfl (Nat.le_of_ble_eq_true rfl) rfl dX9_init_14 (fun H locs hP hS => ?_)
  obtain ⟨M3, eM3⟩ : ∃ X : Mem, X = wI M1 25 2 (0 : Int32) := ⟨_, rfl⟩
  rw [← eM3] at hP
  refine lv_aload_n hx hb dX9_init_17 rfl (lv_at hl 0 rfl) ?_
  refine lv_iconst (v := (0 : Int32)) hx hb dX9_init_18 (by decide) ?_
  refine qpI C hP hS (k := 25) (j := 3) (ty := .int) (Nat.le_of_ble_eq_true rfl) (xr_25 _ _) rfl iw_9 tyX9 tyX9_ok nmX9 (Nat.le_of_ble_eq_true rfl) g_219 rfl rfl (by decide +kernel) rfl rfl (Nat.le_of_ble_eq_true rfl) rfl dX9_init_19 (fun H locs hP hS => ?_)
  obtain ⟨M4, eM4⟩ : ∃ X : Mem, X = wI M3 25 3 (0 : Int32) := ⟨_, rfl⟩
  rw [← eM4] at hP
  refine lv_aload_n hx hb dX9_init_22 rfl (lv_at hl 0 rfl) ?_
  refine lv_iconst (v := (0 : Int32)) hx hb dX9_init_23 (by decide) ?_
  refine qpI C hP hS (k := 25) (j := 4) (ty := .int) (Nat.le_of_ble_eq_true rfl) (xr_25 _ _) rfl iw_9 tyX9 tyX9_ok nmX9 (Nat.le_of_ble_eq_true rfl) g_220 rfl rfl (by decide +kernel) rfl rfl (Nat.le_of_ble_eq_true rfl) rfl dX9_init_24 (fun H locs hP hS => ?_)
  obtain ⟨M5, eM5⟩ : ∃ X : Mem, X = wI M4 25 4 (0 : Int32) := ⟨_, rfl⟩
  rw [← eM5] at hP
  refine lv_aload_n hx hb dX9_init_27 rfl (lv_at hl 0 rfl) ?_
  refine lv_iconst (v := (0 : Int32)) hx hb dX9_init_28 (by decide) ?_
  refine qpI C hP hS (k := 25) (j := 5) (ty := .int) (Nat.le_of_ble_eq_true rfl) (xr_25 _ _) rfl iw_9 tyX9 tyX9_ok nmX9 (Nat.le_of_ble_eq_true rfl) g_221 rfl rfl (by decide +kernel) rfl rfl (Nat.le_of_ble_eq_true rfl) rfl dX9_init_29 (fun H locs hP hS => ?_)
  obtain ⟨M6, eM6⟩ : ∃ X : Mem, X = wI M5 25 5 (0 : Int32) := ⟨_, rfl⟩
  rw [← eM6] at hP
  refine lv_aload_n hx hb dX9_init_32 rfl (lv_at hl 0 rfl) ?_
  refine lv_iconst (v := (0 : Int32)) hx hb dX9_init_33 (by decide) ?_
  refine qpI C hP hS (k := 25) (j := 6) (ty := .int) (Nat.le_of_ble_eq_true rfl) (xr_25 _ _) rfl iw_9 tyX9 tyX9_ok nmX9 (Nat.le_of_ble_eq_true rfl) g_223 rfl rfl (by decide +kernel) rfl rfl (Nat.le_of_ble_eq_true rfl) rfl dX9_init_34 (fun H locs hP hS => ?_)
  obtain ⟨M7, eM7⟩ : ∃ X : Mem, X = wI M6 25 6 (0 : Int32) := ⟨_, rfl⟩
  rw [← eM7] at hP
  refine lv_aload_n hx hb dX9_init_37 rfl (lv_at hl 0 rfl) ?_
  refine lv_iconst (v := (0 : Int32)) hx hb dX9_init_38 (by decide) ?_
  refine qpI C hP hS (k := 25) (j := 7) (ty := .int) (Nat.le_of_ble_eq_true rfl) (xr_25 _ _) rfl iw_9 tyX9 tyX9_ok nmX9 (Nat.le_of_ble_eq_true rfl) g_225 rfl rfl (by decide +kernel) rfl rfl (Nat.le_of_ble_eq_true rfl) rfl dX9_init_39 (fun H locs hP hS => ?_)
  obtain ⟨M8, eM8⟩ : ∃ X : Mem, X = wI M7 25 7 (0 : Int32) := ⟨_, rfl⟩
  rw [← eM8] at hP
  refine lv_aload_n hx hb dX9_init_42 rfl (lv_at hl 0 rfl) ?_
  refine lv_aload_n hx hb dX9_init_43 rfl (lv_at hl 1 rfl) ?_
  refine qpR C hnm hP hS (k := 25) (j := 0) (v := b + 11) (ty := tyX9 0) (Nat.le_of_ble_eq_true rfl) (xr_25 _ _) rfl iw_9 tyX9 tyX9_ok nmX9 (Nat.le_of_ble_eq_true rfl) g_214 rfl rfl rfl (by decide +kernel) rfl rfl (Nat.le_of_ble_eq_true rfl) rfl dX9_init_44 (fun H locs hP hS => ?_)
  obtain ⟨R9, eR9⟩ : ∃ X : Rm, X = uR R2 25 0 (some (b + 11)) := ⟨_, rfl⟩
  rw [← eR9] at hP
  exact qrV C hr hk2 hP hS (by subst eM1 eR1 eR2 eM3 eM4 eM5 eM6 eM7 eM8 eR9; rfl) dX9_init_47
theorem dX5_init_0 : decode cX5_init 0 = .ok (.aload_n 0, 1) := by decide +kernel
theorem dX5_init_1 : decode cX5_init 1 = .ok (.invokespecial 5, 3) := by decide +kernel
theorem dX5_init_4 : decode cX5_init 4 = .ok (.aload_n 0, 1) := by decide +kernel
theorem dX5_init_5 : decode cX5_init 5 = .ok (.sipush 5120, 3) := by decide +kernel
theorem dX5_init_8 : decode cX5_init 8 = .ok (.newarray .long, 2) := by decide +kernel
theorem dX5_init_10 : decode cX5_init 10 = .ok (.putfield 11, 3) := by decide +kernel
theorem dX5_init_13 : decode cX5_init 13 = .ok (.aload_n 0, 1) := by decide +kernel
theorem dX5_init_14 : decode cX5_init 14 = .ok (.bipush 100, 2) := by decide +kernel
theorem dX5_init_16 : decode cX5_init 16 = .ok (.newarray .int, 2) := by decide +kernel
theorem dX5_init_18 : decode cX5_init 18 = .ok (.putfield 15, 3) := by decide +kernel
theorem dX5_init_21 : decode cX5_init 21 = .ok (.aload_n 0, 1) := by decide +kernel
theorem dX5_init_22 : decode cX5_init 22 = .ok (.bipush 96, 2) := by decide +kernel
theorem dX5_init_24 : decode cX5_init 24 = .ok (.newarray .int, 2) := by decide +kernel
theorem dX5_init_26 : decode cX5_init 26 = .ok (.putfield 19, 3) := by decide +kernel
theorem dX5_init_29 : decode cX5_init 29 = .ok (.aload_n 0, 1) := by decide +kernel
theorem dX5_init_30 : decode cX5_init 30 = .ok (.iconst (-1), 1) := by decide +kernel
theorem dX5_init_31 : decode cX5_init 31 = .ok (.putfield 22, 3) := by decide +kernel
theorem dX5_init_34 : decode cX5_init 34 = .ok (.aload_n 0, 1) := by decide +kernel
theorem dX5_init_35 : decode cX5_init 35 = .ok (.iconst 0, 1) := by decide +kernel
theorem dX5_init_36 : decode cX5_init 36 = .ok (.putfield 26, 3) := by decide +kernel
theorem dX5_init_39 : decode cX5_init 39 = .ok (.aload_n 0, 1) := by decide +kernel
theorem dX5_init_40 : decode cX5_init 40 = .ok (.lconst 0, 1) := by decide +kernel
theorem dX5_init_41 : decode cX5_init 41 = .ok (.putfield 29, 3) := by decide +kernel
theorem dX5_init_44 : decode cX5_init 44 = .ok (.aload_n 0, 1) := by decide +kernel
theorem dX5_init_45 : decode cX5_init 45 = .ok (.aload_n 1, 1) := by decide +kernel
theorem dX5_init_46 : decode cX5_init 46 = .ok (.putfield 33, 3) := by decide +kernel
theorem dX5_init_49 : decode cX5_init 49 = .ok (.return_, 1) := by decide +kernel
theorem y5_init_w : yI yX5_init cX5_init 2 1 := ⟨g_320, g_12, g_321, rfl, by decide, by decide, by decide +kernel⟩
abbrev rmq5_init : Room := { frames := 1, cells := 3, slots := 5316, locals := 12 }
set_option maxHeartbeats 4000000 in
set_option maxRecDepth 100000 in
theorem cq5_init_326 {l : Launch} {z : Zt} {b : Nat} {M : Mem} {Rf : Rm} : CC l z (xc z) b yX5_init cX5_init 2 rmq5_init [.ref (b + 326), .ref (b + 3)] 327 M Rf 330 (fun u => u = ((wJ (wI (wI (zM (zM (zM M 327) 328) 329) 326 4 (-1 : Int32)) 326 5 (0 : Int32)) 326 6 (0 : Int64)), (uR (uR (zR (uR (zR (uR (zR Rf 327) 326 1 (some (b + 327))) 328) 326 2 (some (b + 328))) 329) 326 3 (some (b + 329))) 326 0 (some (b + 3))))) 3 5316 := by
  refine CC.ofW (lv := [(0, .ref (b + 326)), (1, .ref (b + 3))]) (by decide) rfl (Nat.le_of_ble_eq_true rfl) rfl ?_
  intro p e s m args below meth c ls C hr hk2 hnm hAO hsz hP hS hl
  have hx := C.1.1
  have hb := C.1.2.1
  have hcl : s.heap.size + 0 = b + 327 := by omega
  refine lv_aload_n hx hb dX5_init_0 rfl (lv_at hl 0 rfl) ?_
  refine W.objInit hx hb C.1.2.2.2.1 (C.1.2.2.2.2 _ g_322) (C.1.2.2.2.2 _ g_30) (C.1.2.2.2.2 _ g_31) rfl (by rw [C.1.2.2.1]; exact hl.1) rfl dX5_init_1 (Nat.le_of_ble_eq_true rfl) (Nat.le_of_ble_eq_true rfl) ?_
  refine W.eq (g2 := F0 m 4 ls []) rfl ?_
  refine lv_aload_n hx hb dX5_init_4 rfl (lv_at hl 0 rfl) ?_
  refine lv_sipush (v := (5120 : Int32)) hx hb dX5_init_5 (by decide) ?_
  refine qna (atype := .long) C (by omega) (by omega) hP hS hcl g_346 rfl (a0 := (5120, .inr (.inl (fun _ => 0)))) (N' := 5120) (t0 := 1) rfl pr_long (fun _ => rfl) (by decide) (by decide) (Nat.le_of_ble_eq_true rfl) (Nat.le_of_ble_eq_true rfl) (Nat.le_of_ble_eq_true rfl) rfl dX5_init_8 (fun H hP hS hcl => ?_)
  have hP : va_P z.1 vwCl (pw (dR (xc z) (zR Rf 327)) 328 b (zM M 327)) H := hP
  obtain ⟨M1, eM1⟩ : ∃ X : Mem, X = zM M 327 := ⟨_, rfl⟩
  rw [← eM1] at hP
  obtain ⟨R1, eR1⟩ : ∃ X : Rm, X = zR Rf 327 := ⟨_, rfl⟩
  rw [← eR1] at hP
  refine W.widen (k := 1) (n := 5120) (Nat.le_of_ble_eq_true rfl) (Nat.le_of_ble_eq_true rfl) ?_
  have hcl : s.heap.size + 1 = b + 328 := by omega
  refine qpR C hnm hP hS (k := 326) (j := 1) (v := b + 327) (ty := tyX5 1) (Nat.le_of_ble_eq_true rfl) (xr_326 _ _) rfl iw_5 tyX5 tyX5_ok nmX5 (Nat.le_of_ble_eq_true rfl) g_324 rfl rfl rfl (by decide +kernel) rfl rfl (Nat.le_of_ble_eq_true rfl) rfl dX5_init_10 (fun H locs hP hS => ?_)
  obtain ⟨R2, eR2⟩ : ∃ X : Rm, X = uR R1 326 1 (some (b + 327)) := ⟨_, rfl⟩
  rw [← eR2] at hP
  refine lv_aload_n hx hb dX5_init_13 rfl (lv_at hl 0 rfl) ?_
  refine lv_bipush (v := (100 : Int32)) hx hb dX5_init_14 (by decide) ?_
  refine qna (atype := .int) C (by omega) (by omega) hP hS hcl g_47 rfl (a0 := (100, .inl (fun _ => 0))) (N' := 100) (t0 := 0) rfl pr_int (fun _ => rfl) (by decide) (by decide) (Nat.le_of_ble_eq_true rfl) (Nat.le_of_ble_eq_true rfl) (Nat.le_of_ble_eq_true rfl) rfl dX5_init_16 (fun H hP hS hcl => ?_)
  have hP : va_P z.1 vwCl (pw (dR (xc z) (zR R2 328)) 329 b (zM M1 328)) H := hP
  obtain ⟨M3, eM3⟩ : ∃ X : Mem, X = zM M1 328 := ⟨_, rfl⟩
  rw [← eM3] at hP
  obtain ⟨R3, eR3⟩ : ∃ X : Rm, X = zR R2 328 := ⟨_, rfl⟩
  rw [← eR3] at hP
  refine W.widen (k := 2) (n := 5220) (Nat.le_of_ble_eq_true rfl) (Nat.le_of_ble_eq_true rfl) ?_
  have hcl : s.heap.size + 2 = b + 329 := by omega
  refine qpR C hnm hP hS (k := 326) (j := 2) (v := b + 328) (ty := tyX5 2) (Nat.le_of_ble_eq_true rfl) (xr_326 _ _) rfl iw_5 tyX5 tyX5_ok nmX5 (Nat.le_of_ble_eq_true rfl) g_325 rfl rfl rfl (by decide +kernel) rfl rfl (Nat.le_of_ble_eq_true rfl) rfl dX5_init_18 (fun H locs hP hS => ?_)
  obtain ⟨R4, eR4⟩ : ∃ X : Rm, X = uR R3 326 2 (some (b + 328)) := ⟨_, rfl⟩
  rw [← eR4] at hP
  refine lv_aload_n hx hb dX5_init_21 rfl (lv_at hl 0 rfl) ?_
  refine lv_bipush (v := (96 : Int32)) hx hb dX5_init_22 (by decide) ?_
  refine qna (atype := .int) C (by omega) (by omega) hP hS hcl g_47 rfl (a0 := (96, .inl (fun _ => 0))) (N' := 96) (t0 := 0) rfl pr_int (fun _ => rfl) (by decide) (by decide) (Nat.le_of_ble_eq_true rfl) (Nat.le_of_ble_eq_true rfl) (Nat.le_of_ble_eq_true rfl) rfl dX5_init_24 (fun H hP hS hcl => ?_)
  have hP : va_P z.1 vwCl (pw (dR (xc z) (zR R4 329)) 330 b (zM M3 329)) H := hP
  obtain ⟨M5, eM5⟩ : ∃ X : Mem, X = zM M3 329 := ⟨_, rfl⟩
  rw [← eM5] at hP
  obtain ⟨R5, eR5⟩ : ∃ X : Rm, X = zR R4 329 := ⟨_, rfl⟩
  rw [← eR5] at hP
  refine W.widen (k := 3) (n := 5316) (Nat.le_of_ble_eq_true rfl) (Nat.le_of_ble_eq_true rfl) ?_
  have hcl : s.heap.size + 3 = b + 330 := by omega
  refine qpR C hnm hP hS (k := 326) (j := 3) (v := b + 329) (ty := tyX5 3) (Nat.le_of_ble_eq_true rfl) (xr_326 _ _) rfl iw_5 tyX5 tyX5_ok nmX5 (Nat.le_of_ble_eq_true rfl) g_326 rfl rfl rfl (by decide +kernel) rfl rfl (Nat.le_of_ble_eq_true rfl) rfl dX5_init_26 (fun H locs hP hS => ?_)
  obtain ⟨R6, eR6⟩ : ∃ X : Rm, X = uR R5 326 3 (some (b + 329)) := ⟨_, rfl⟩
  rw [← eR6] at hP
  refine lv_aload_n hx hb dX5_init_29 rfl (lv_at hl 0 rfl) ?_
  refine lv_iconst (v := (-1 : Int32)) hx hb dX5_init_30 (by decide) ?_
  refine qpI C hP hS (k := 326) (j := 4) (ty := .int) (Nat.le_of_ble_eq_true rfl) (xr_326 _ _) rfl iw_5 tyX5 tyX5_ok nmX5 (Nat.le_of_ble_eq_true rfl) g_327 rfl rfl (by decide +kernel) rfl rfl (Nat.le_of_ble_eq_true rfl) rfl dX5_init_31 (fun H locs hP hS => ?_)
  obtain ⟨M7, eM7⟩ : ∃ X : Mem, X = wI M5 326 4 (-1 : Int32) := ⟨_, rfl⟩
  rw [← eM7] at hP
  refine lv_aload_n hx hb dX5_init_34 rfl (lv_at hl 0 rfl) ?_
  refine lv_iconst (v := (0 : Int32)) hx hb dX5_init_35 (by decide) ?_
  refine qpI C hP hS (k := 326) (j := 5) (ty := .int) (Nat.le_of_ble_eq_true rfl) (xr_326 _ _) rfl iw_5 tyX5 tyX5_ok nmX5 (Nat.le_of_ble_eq_true rfl) g_328 rfl rfl (by decide +kernel) rfl rfl (Nat.le_of_ble_eq_true rfl) rfl dX5_init_36 (fun H locs hP hS => ?_)
  obtain ⟨M8, eM8⟩ : ∃ X : Mem, X = wI M7 326 5 (0 : Int32) := ⟨_, rfl⟩
  rw [← eM8] at hP
  refine lv_aload_n hx hb dX5_init_39 rfl (lv_at hl 0 rfl) ?_
  refine lv_lconst (v := (0 : Int64)) hx hb dX5_init_40 (by decide) ?_
  refine qpJ C hP hS (k := 326) (j := 6) (ty := .long) (Nat.le_of_ble_eq_true rfl) (xr_326 _ _) rfl iw_5 tyX5 tyX5_ok nmX5 (Nat.le_of_ble_eq_true rfl) g_330 rfl rfl (by decide +kernel) rfl rfl (Nat.le_of_ble_eq_true rfl) rfl dX5_init_41 (fun H locs hP hS => ?_)
  obtain ⟨M9, eM9⟩ : ∃ X : Mem, X = wJ M8 326 6 (0 : Int64) := ⟨_, rfl⟩
  rw [← eM9] at hP
  refine lv_aload_n hx hb dX5_init_44 rfl (lv_at hl 0 rfl) ?_
  refine lv_aload_n hx hb dX5_init_45 rfl (lv_at hl 1 rfl) ?_
  refine qpR C hnm hP hS (k := 326) (j := 0) (v := b + 3) (ty := tyX5 0) (Nat.le_of_ble_eq_true rfl) (xr_326 _ _) rfl iw_5 tyX5 tyX5_ok nmX5 (Nat.le_of_ble_eq_true rfl) g_323 rfl rfl rfl (by decide +kernel) rfl rfl (Nat.le_of_ble_eq_true rfl) rfl dX5_init_46 (fun H locs hP hS => ?_)
  obtain ⟨R10, eR10⟩ : ∃ X : Rm, X = uR R6 326 0 (some (b + 3)) := ⟨_, rfl⟩
  rw [← eR10] at hP
  exact qrV C hr hk2 hP hS (by subst eM1 eR1 eR2 eM3 eR3 eR4 eM5 eR5 eR6 eM7 eM8 eM9 eR10; rfl) dX5_init_49
theorem dX0_init_0 : decode cX0_init 0 = .ok (.aload_n 0, 1) := by decide +kernel
theorem dX0_init_1 : decode cX0_init 1 = .ok (.invokespecial 3, 3) := by decide +kernel
theorem dX0_init_4 : decode cX0_init 4 = .ok (.aload_n 0, 1) := by decide +kernel
theorem dX0_init_5 : decode cX0_init 5 = .ok (.bipush 96, 2) := by decide +kernel
theorem dX0_init_7 : decode cX0_init 7 = .ok (.newarray .int, 2) := by decide +kernel
theorem dX0_init_9 : decode cX0_init 9 = .ok (.putfield 9, 3) := by decide +kernel
theorem dX0_init_12 : decode cX0_init 12 = .ok (.aload_n 0, 1) := by decide +kernel
theorem dX0_init_13 : decode cX0_init 13 = .ok (.bipush 60, 2) := by decide +kernel
theorem dX0_init_15 : decode cX0_init 15 = .ok (.newarray .int, 2) := by decide +kernel
theorem dX0_init_17 : decode cX0_init 17 = .ok (.putfield 15, 3) := by decide +kernel
theorem dX0_init_20 : decode cX0_init 20 = .ok (.aload_n 0, 1) := by decide +kernel
theorem dX0_init_21 : decode cX0_init 21 = .ok (.iconst 0, 1) := by decide +kernel
theorem dX0_init_22 : decode cX0_init 22 = .ok (.putfield 18, 3) := by decide +kernel
theorem dX0_init_25 : decode cX0_init 25 = .ok (.aload_n 0, 1) := by decide +kernel
theorem dX0_init_26 : decode cX0_init 26 = .ok (.iconst 1, 1) := by decide +kernel
theorem dX0_init_27 : decode cX0_init 27 = .ok (.putfield 22, 3) := by decide +kernel
theorem dX0_init_30 : decode cX0_init 30 = .ok (.aload_n 0, 1) := by decide +kernel
theorem dX0_init_31 : decode cX0_init 31 = .ok (.bipush (-2), 2) := by decide +kernel
theorem dX0_init_33 : decode cX0_init 33 = .ok (.putfield 25, 3) := by decide +kernel
theorem dX0_init_36 : decode cX0_init 36 = .ok (.aload_n 0, 1) := by decide +kernel
theorem dX0_init_37 : decode cX0_init 37 = .ok (.iconst 0, 1) := by decide +kernel
theorem dX0_init_38 : decode cX0_init 38 = .ok (.putfield 28, 3) := by decide +kernel
theorem dX0_init_41 : decode cX0_init 41 = .ok (.aload_n 0, 1) := by decide +kernel
theorem dX0_init_42 : decode cX0_init 42 = .ok (.iconst 0, 1) := by decide +kernel
theorem dX0_init_43 : decode cX0_init 43 = .ok (.putfield 31, 3) := by decide +kernel
theorem dX0_init_46 : decode cX0_init 46 = .ok (.aload_n 0, 1) := by decide +kernel
theorem dX0_init_47 : decode cX0_init 47 = .ok (.iconst 0, 1) := by decide +kernel
theorem dX0_init_48 : decode cX0_init 48 = .ok (.putfield 34, 3) := by decide +kernel
theorem dX0_init_51 : decode cX0_init 51 = .ok (.return_, 1) := by decide +kernel
theorem y0_init_w : yI yX0_init cX0_init 1 0 := ⟨g_350, g_13, g_351, rfl, by decide, by decide, by decide +kernel⟩
abbrev rmq0_init : Room := { frames := 1, cells := 2, slots := 156, locals := 12 }
set_option maxHeartbeats 4000000 in
set_option maxRecDepth 100000 in
theorem cq0_init_330 {l : Launch} {z : Zt} {b : Nat} {M : Mem} {Rf : Rm} : CC l z (xc z) b yX0_init cX0_init 1 rmq0_init [.ref (b + 330)] 331 M Rf 333 (fun u => u = ((wI (wI (wI (wI (wI (wI (zM (zM M 331) 332) 330 2 (0 : Int32)) 330 3 (1 : Int32)) 330 4 (-2 : Int32)) 330 5 (0 : Int32)) 330 6 (0 : Int32)) 330 7 (0 : Int32)), (uR (zR (uR (zR Rf 331) 330 0 (some (b + 331))) 332) 330 1 (some (b + 332))))) 2 156 := by
  refine CC.ofW (lv := [(0, .ref (b + 330))]) (by decide) rfl (Nat.le_of_ble_eq_true rfl) rfl ?_
  intro p e s m args below meth c ls C hr hk2 hnm hAO hsz hP hS hl
  have hx := C.1.1
  have hb := C.1.2.1
  have hcl : s.heap.size + 0 = b + 331 := by omega
  refine lv_aload_n hx hb dX0_init_0 rfl (lv_at hl 0 rfl) ?_
  refine W.objInit hx hb C.1.2.2.2.1 (C.1.2.2.2.2 _ g_352) (C.1.2.2.2.2 _ g_30) (C.1.2.2.2.2 _ g_31) rfl (by rw [C.1.2.2.1]; exact hl.1) rfl dX0_init_1 (Nat.le_of_ble_eq_true rfl) (Nat.le_of_ble_eq_true rfl) ?_
  refine W.eq (g2 := F0 m 4 ls []) rfl ?_
  refine lv_aload_n hx hb dX0_init_4 rfl (lv_at hl 0 rfl) ?_
  refine lv_bipush (v := (96 : Int32)) hx hb dX0_init_5 (by decide) ?_
  refine qna (atype := .int) C (by omega) (by omega) hP hS hcl g_47 rfl (a0 := (96, .inl (fun _ => 0))) (N' := 96) (t0 := 0) rfl pr_int (fun _ => rfl) (by decide) (by decide) (Nat.le_of_ble_eq_true rfl) (Nat.le_of_ble_eq_true rfl) (Nat.le_of_ble_eq_true rfl) rfl dX0_init_7 (fun H hP hS hcl => ?_)
  have hP : va_P z.1 vwCl (pw (dR (xc z) (zR Rf 331)) 332 b (zM M 331)) H := hP
  obtain ⟨M1, eM1⟩ : ∃ X : Mem, X = zM M 331 := ⟨_, rfl⟩
  rw [← eM1] at hP
  obtain ⟨R1, eR1⟩ : ∃ X : Rm, X = zR Rf 331 := ⟨_, rfl⟩
  rw [← eR1] at hP
  refine W.widen (k := 1) (n := 96) (Nat.le_of_ble_eq_true rfl) (Nat.le_of_ble_eq_true rfl) ?_
  have hcl : s.heap.size + 1 = b + 332 := by omega
  refine qpR C hnm hP hS (k := 330) (j := 0) (v := b + 331) (ty := tyX0 0) (Nat.le_of_ble_eq_true rfl) (xr_330 _ _) rfl iw_0 tyX0 tyX0_ok nmX0 (Nat.le_of_ble_eq_true rfl) g_353 rfl rfl rfl (by decide +kernel) rfl rfl (Nat.le_of_ble_eq_true rfl) rfl dX0_init_9 (fun H locs hP hS => ?_)
  obtain ⟨R2, eR2⟩ : ∃ X : Rm, X = uR R1 330 0 (some (b + 331)) := ⟨_, rfl⟩
  rw [← eR2] at hP
  refine lv_aload_n hx hb dX0_init_12 rfl (lv_at hl 0 rfl) ?_
  refine lv_bipush (v := (60 : Int32)) hx hb dX0_init_13 (by decide) ?_
  refine qna (atype := .int) C (by omega) (by omega) hP hS hcl g_47 rfl (a0 := (60, .inl (fun _ => 0))) (N' := 60) (t0 := 0) rfl pr_int (fun _ => rfl) (by decide) (by decide) (Nat.le_of_ble_eq_true rfl) (Nat.le_of_ble_eq_true rfl) (Nat.le_of_ble_eq_true rfl) rfl dX0_init_15 (fun H hP hS hcl => ?_)
  have hP : va_P z.1 vwCl (pw (dR (xc z) (zR R2 332)) 333 b (zM M1 332)) H := hP
  obtain ⟨M3, eM3⟩ : ∃ X : Mem, X = zM M1 332 := ⟨_, rfl⟩
  rw [← eM3] at hP
  obtain ⟨R3, eR3⟩ : ∃ X : Rm, X = zR R2 332 := ⟨_, rfl⟩
  rw [← eR3] at hP
  refine W.widen (k := 2) (n := 156) (Nat.le_of_ble_eq_true rfl) (Nat.le_of_ble_eq_true rfl) ?_
  have hcl : s.heap.size + 2 = b + 333 := by omega
  refine qpR C hnm hP hS (k := 330) (j := 1) (v := b + 332) (ty := tyX0 1) (Nat.le_of_ble_eq_true rfl) (xr_330 _ _) rfl iw_0 tyX0 tyX0_ok nmX0 (Nat.le_of_ble_eq_true rfl) g_356 rfl rfl rfl (by decide +kernel) rfl rfl (Nat.le_of_ble_eq_true rfl) rfl dX0_init_17 (fun H locs hP hS => ?_)
  obtain ⟨R4, eR4⟩ : ∃ X : Rm, X = uR R3 330 1 (some (b + 332)) := ⟨_, rfl⟩
  rw [← eR4] at hP
  refine lv_aload_n hx hb dX0_init_20 rfl (lv_at hl 0 rfl) ?_
  refine lv_iconst (v := (0 : Int32)) hx hb dX0_init_21 (by decide) ?_
  refine qpI C hP hS (k := 330) (j := 2) (ty := .int) (Nat.le_of_ble_eq_true rfl) (xr_330 _ _) rfl iw_0 tyX0 tyX0_ok nmX0 (Nat.le_of_ble_eq_true rfl) g_359 rfl rfl (by decide +kernel) rfl rfl (Nat.le_of_ble_eq_true rfl) rfl dX0_init_22 (fun H locs hP hS => ?_)
  obtain ⟨M5, eM5⟩ : ∃ X : Mem, X = wI M3 330 2 (0 : Int32) := ⟨_, rfl⟩
  rw [← eM5] at hP
  refine lv_aload_n hx hb dX0_init_25 rfl (lv_at hl 0 rfl) ?_
  refine lv_iconst (v := (1 : Int32)) hx hb dX0_init_26 (by decide) ?_
  refine qpI C hP hS (k := 330) (j := 3) (ty := .int) (Nat.le_of_ble_eq_true rfl) (xr_330 _ _) rfl iw_0 tyX0 tyX0_ok nmX0 (Nat.le_of_ble_eq_true rfl) g_362 rfl rfl (by decide +kernel) rfl rfl (Nat.le_of_ble_eq_true rfl) rfl dX0_init_27 (fun H locs hP hS => ?_)
  obtain ⟨M6, eM6⟩ : ∃ X : Mem, X = wI M5 330 3 (1 : Int32) := ⟨_, rfl⟩
  rw [← eM6] at hP
  refine lv_aload_n hx hb dX0_init_30 rfl (lv_at hl 0 rfl) ?_
  refine lv_bipush (v := (-2 : Int32)) hx hb dX0_init_31 (by decide) ?_
  refine qpI C hP hS (k := 330) (j := 4) (ty := .int) (Nat.le_of_ble_eq_true rfl) (xr_330 _ _) rfl iw_0 tyX0 tyX0_ok nmX0 (Nat.le_of_ble_eq_true rfl) g_364 rfl rfl (by decide +kernel) rfl rfl (Nat.le_of_ble_eq_true rfl) rfl dX0_init_33 (fun H locs hP hS => ?_)
  obtain ⟨M7, eM7⟩ : ∃ X : Mem, X = wI M6 330 4 (-2 : Int32) := ⟨_, rfl⟩
  rw [← eM7] at hP
  refine lv_aload_n hx hb dX0_init_36 rfl (lv_at hl 0 rfl) ?_
  refine lv_iconst (v := (0 : Int32)) hx hb dX0_init_37 (by decide) ?_
  refine qpI C hP hS (k := 330) (j := 5) (ty := .int) (Nat.le_of_ble_eq_true rfl) (xr_330 _ _) rfl iw_0 tyX0 tyX0_ok nmX0 (Nat.le_of_ble_eq_true rfl) g_367 rfl rfl (by decide +kernel) rfl rfl (Nat.le_of_ble_eq_true rfl) rfl dX0_init_38 (fun H locs hP hS => ?_)
  obtain ⟨M8, eM8⟩ : ∃ X : Mem, X = wI M7 330 5 (0 : Int32) := ⟨_, rfl⟩
  rw [← eM8] at hP
  refine lv_aload_n hx hb dX0_init_41 rfl (lv_at hl 0 rfl) ?_
  refine lv_iconst (v := (0 : Int32)) hx hb dX0_init_42 (by decide) ?_
  refine qpI C hP hS (k := 330) (j := 6) (ty := .int) (Nat.le_of_ble_eq_true rfl) (xr_330 _ _) rfl iw_0 tyX0 tyX0_ok nmX0 (Nat.le_of_ble_eq_true rfl) g_370 rfl rfl (by decide +kernel) rfl rfl (Nat.le_of_ble_eq_true rfl) rfl dX0_init_43 (fun H locs hP hS => ?_)
  obtain ⟨M9, eM9⟩ : ∃ X : Mem, X = wI M8 330 6 (0 : Int32) := ⟨_, rfl⟩
  rw [← eM9] at hP
  refine lv_aload_n hx hb dX0_init_46 rfl (lv_at hl 0 rfl) ?_
  refine lv_iconst (v := (0 : Int32)) hx hb dX0_init_47 (by decide) ?_
  refine qpI C hP hS (k := 330) (j := 7) (ty := .int) (Nat.le_of_ble_eq_true rfl) (xr_330 _ _) rfl iw_0 tyX0 tyX0_ok nmX0 (Nat.le_of_ble_eq_true rfl) g_373 rfl rfl (by decide +kernel) rfl rfl (Nat.le_of_ble_eq_true rfl) rfl dX0_init_48 (fun H locs hP hS => ?_)
  obtain ⟨M10, eM10⟩ : ∃ X : Mem, X = wI M9 330 7 (0 : Int32) := ⟨_, rfl⟩
  rw [← eM10] at hP
  exact qrV C hr hk2 hP hS (by subst eM1 eR1 eR2 eM3 eR3 eR4 eM5 eM6 eM7 eM8 eM9 eM10; rfl) dX0_init_51
set_option maxHeartbeats 4000000 in
set_option maxRecDepth 100000 in
theorem cq0_init_333 {l : Launch} {z : Zt} {b : Nat} {M : Mem} {Rf : Rm} : CC l z (xc z) b yX0_init cX0_init 1 rmq0_init [.ref (b + 333)] 334 M Rf 336 (fun u => u = ((wI (wI (wI (wI (wI (wI (zM (zM M 334) 335) 333 2 (0 : Int32)) 333 3 (1 : Int32)) 333 4 (-2 : Int32)) 333 5 (0 : Int32)) 333 6 (0 : Int32)) 333 7 (0 : Int32)), (uR (zR (uR (zR Rf 334) 333 0 (some (b + 334))) 335) 333 1 (some (b + 335))))) 2 156 := by
  refine CC.ofW (lv := [(0, .ref (b + 333))]) (by decide) rfl (Nat.le_of_ble_eq_true rfl) rfl ?_
  intro p e s m args below meth c ls C hr hk2 hnm hAO hsz hP hS hl
  have hx := C.1.1
  have hb := C.1.2.1
  have hcl : s.heap.size + 0 = b + 334 := by omega
  refine lv_aload_n hx hb dX0_init_0 rfl (lv_at hl 0 rfl) ?_
  refine W.objInit hx hb C.1.2.2.2.1 (C.1.2.2.2.2 _ g_352) (C.1.2.2.2.2 _ g_30) (C.1.2.2.2.2 _ g_31) rfl (by rw [C.1.2.2.1]; exact hl.1) rfl dX0_init_1 (Nat.le_of_ble_eq_true rfl) (Nat.le_of_ble_eq_true rfl) ?_
  refine W.eq (g2 := F0 m 4 ls []) rfl ?_
  refine lv_aload_n hx hb dX0_init_4 rfl (lv_at hl 0 rfl) ?_
  refine lv_bipush (v := (96 : Int32)) hx hb dX0_init_5 (by decide) ?_
  refine qna (atype := .int) C (by omega) (by omega) hP hS hcl g_47 rfl (a0 := (96, .inl (fun _ => 0))) (N' := 96) (t0 := 0) rfl pr_int (fun _ => rfl) (by decide) (by decide) (Nat.le_of_ble_eq_true rfl) (Nat.le_of_ble_eq_true rfl) (Nat.le_of_ble_eq_true rfl) rfl dX0_init_7 (fun H hP hS hcl => ?_)
  have hP : va_P z.1 vwCl (pw (dR (xc z) (zR Rf 334)) 335 b (zM M 334)) H := hP
  obtain ⟨M1, eM1⟩ : ∃ X : Mem, X = zM M 334 := ⟨_, rfl⟩
  rw [← eM1] at hP
  obtain ⟨R1, eR1⟩ : ∃ X : Rm, X = zR Rf 334 := ⟨_, rfl⟩
  rw [← eR1] at hP
  refine W.widen (k := 1) (n := 96) (Nat.le_of_ble_eq_true rfl) (Nat.le_of_ble_eq_true rfl) ?_
  have hcl : s.heap.size + 1 = b + 335 := by omega
  refine qpR C hnm hP hS (k := 333) (j := 0) (v := b + 334) (ty := tyX0 0) (Nat.le_of_ble_eq_true rfl) (xr_333 _ _) rfl iw_0 tyX0 tyX0_ok nmX0 (Nat.le_of_ble_eq_true rfl) g_353 rfl rfl rfl (by decide +kernel) rfl rfl (Nat.le_of_ble_eq_true rfl) rfl dX0_init_9 (fun H locs hP hS => ?_)
  obtain ⟨R2, eR2⟩ : ∃ X : Rm, X = uR R1 333 0 (some (b + 334)) := ⟨_, rfl⟩
  rw [← eR2] at hP
  refine lv_aload_n hx hb dX0_init_12 rfl (lv_at hl 0 rfl) ?_
  refine lv_bipush (v := (60 : Int32)) hx hb dX0_init_13 (by decide) ?_
  refine qna (atype := .int) C (by omega) (by omega) hP hS hcl g_47 rfl (a0 := (60, .inl (fun _ => 0))) (N' := 60) (t0 := 0) rfl pr_int (fun _ => rfl) (by decide) (by decide) (Nat.le_of_ble_eq_true rfl) (Nat.le_of_ble_eq_true rfl) (Nat.le_of_ble_eq_true rfl) rfl dX0_init_15 (fun H hP hS hcl => ?_)
  have hP : va_P z.1 vwCl (pw (dR (xc z) (zR R2 335)) 336 b (zM M1 335)) H := hP
  obtain ⟨M3, eM3⟩ : ∃ X : Mem, X = zM M1 335 := ⟨_, rfl⟩
  rw [← eM3] at hP
  obtain ⟨R3, eR3⟩ : ∃ X : Rm, X = zR R2 335 := ⟨_, rfl⟩
  rw [← eR3] at hP
  refine W.widen (k := 2) (n := 156) (Nat.le_of_ble_eq_true rfl) (Nat.le_of_ble_eq_true rfl) ?_
  have hcl : s.heap.size + 2 = b + 336 := by omega
  refine qpR C hnm hP hS (k := 333) (j := 1) (v := b + 335) (ty := tyX0 1) (Nat.le_of_ble_eq_true rfl) (xr_333 _ _) rfl iw_0 tyX0 tyX0_ok nmX0 (Nat.le_of_ble_eq_true rfl) g_356 rfl rfl rfl (by decide +kernel) rfl rfl (Nat.le_of_ble_eq_true rfl) rfl dX0_init_17 (fun H locs hP hS => ?_)
  obtain ⟨R4, eR4⟩ : ∃ X : Rm, X = uR R3 333 1 (some (b + 335)) := ⟨_, rfl⟩
  rw [← eR4] at hP
  refine lv_aload_n hx hb dX0_init_20 rfl (lv_at hl 0 rfl) ?_
  refine lv_iconst (v := (0 : Int32)) hx hb dX0_init_21 (by decide) ?_
  refine qpI C hP hS (k := 333) (j := 2) (ty := .int) (Nat.le_of_ble_eq_true rfl) (xr_333 _ _) rfl iw_0 tyX0 tyX0_ok nmX0 (Nat.le_of_ble_eq_true rfl) g_359 rfl rfl (by decide +kernel) rfl rfl (Nat.le_of_ble_eq_true rfl) rfl dX0_init_22 (fun H locs hP hS => ?_)
  obtain ⟨M5, eM5⟩ : ∃ X : Mem, X = wI M3 333 2 (0 : Int32) := ⟨_, rfl⟩
  rw [← eM5] at hP
  refine lv_aload_n hx hb dX0_init_25 rfl (lv_at hl 0 rfl) ?_
  refine lv_iconst (v := (1 : Int32)) hx hb dX0_init_26 (by decide) ?_
  refine qpI C hP hS (k := 333) (j := 3) (ty := .int) (Nat.le_of_ble_eq_true rfl) (xr_333 _ _) rfl iw_0 tyX0 tyX0_ok nmX0 (Nat.le_of_ble_eq_true rfl) g_362 rfl rfl (by decide +kernel) rfl rfl (Nat.le_of_ble_eq_true rfl) rfl dX0_init_27 (fun H locs hP hS => ?_)
  obtain ⟨M6, eM6⟩ : ∃ X : Mem, X = wI M5 333 3 (1 : Int32) := ⟨_, rfl⟩
  rw [← eM6] at hP
  refine lv_aload_n hx hb dX0_init_30 rfl (lv_at hl 0 rfl) ?_
  refine lv_bipush (v := (-2 : Int32)) hx hb dX0_init_31 (by decide) ?_
  refine qpI C hP hS (k := 333) (j := 4) (ty := .int) (Nat.le_of_ble_eq_true rfl) (xr_333 _ _) rfl iw_0 tyX0 tyX0_ok nmX0 (Nat.le_of_ble_eq_true rfl) g_364 rfl rfl (by decide +kernel) rfl rfl (Nat.le_of_ble_eq_true rfl) rfl dX0_init_33 (fun H locs hP hS => ?_)
  obtain ⟨M7, eM7⟩ : ∃ X : Mem, X = wI M6 333 4 (-2 : Int32) := ⟨_, rfl⟩
  rw [← eM7] at hP
  refine lv_aload_n hx hb dX0_init_36 rfl (lv_at hl 0 rfl) ?_
  refine lv_iconst (v := (0 : Int32)) hx hb dX0_init_37 (by decide) ?_
  refine qpI C hP hS (k := 333) (j := 5) (ty := .int) (Nat.le_of_ble_eq_true rfl) (xr_333 _ _) rfl iw_0 tyX0 tyX0_ok nmX0 (Nat.le_of_ble_eq_true rfl) g_367 rfl rfl (by decide +kernel) rfl rfl (Nat.le_of_ble_eq_true rfl) rfl dX0_init_38 (fun H locs hP hS => ?_)
  obtain ⟨M8, eM8⟩ : ∃ X : Mem, X = wI M7 333 5 (0 : Int32) := ⟨_, rfl⟩
  rw [← eM8] at hP
  refine lv_aload_n hx hb dX0_init_41 rfl (lv_at hl 0 rfl) ?_
  refine lv_iconst (v := (0 : Int32)) hx hb dX0_init_42 (by decide) ?_
  refine qpI C hP hS (k := 333) (j := 6) (ty := .int) (Nat.le_of_ble_eq_true rfl) (xr_333 _ _) rfl iw_0 tyX0 tyX0_ok nmX0 (Nat.le_of_ble_eq_true rfl) g_370 rfl rfl (by decide +kernel) rfl rfl (Nat.le_of_ble_eq_true rfl) rfl dX0_init_43 (fun H locs hP hS => ?_)
  obtain ⟨M9, eM9⟩ : ∃ X : Mem, X = wI M8 333 6 (0 : Int32) := ⟨_, rfl⟩
  rw [← eM9] at hP
  refine lv_aload_n hx hb dX0_init_46 rfl (lv_at hl 0 rfl) ?_
  refine lv_iconst (v := (0 : Int32)) hx hb dX0_init_47 (by decide) ?_
  refine qpI C hP hS (k := 333) (j := 7) (ty := .int) (Nat.le_of_ble_eq_true rfl) (xr_333 _ _) rfl iw_0 tyX0 tyX0_ok nmX0 (Nat.le_of_ble_eq_true rfl) g_373 rfl rfl (by decide +kernel) rfl rfl (Nat.le_of_ble_eq_true rfl) rfl dX0_init_48 (fun H locs hP hS => ?_)
  obtain ⟨M10, eM10⟩ : ∃ X : Mem, X = wI M9 333 7 (0 : Int32) := ⟨_, rfl⟩
  rw [← eM10] at hP
  exact qrV C hr hk2 hP hS (by subst eM1 eR1 eR2 eM3 eR3 eR4 eM5 eM6 eM7 eM8 eM9 eM10; rfl) dX0_init_51
set_option maxHeartbeats 4000000 in
set_option maxRecDepth 100000 in
theorem cq0_init_336 {l : Launch} {z : Zt} {b : Nat} {M : Mem} {Rf : Rm} : CC l z (xc z) b yX0_init cX0_init 1 rmq0_init [.ref (b + 336)] 337 M Rf 339 (fun u => u = ((wI (wI (wI (wI (wI (wI (zM (zM M 337) 338) 336 2 (0 : Int32)) 336 3 (1 : Int32)) 336 4 (-2 : Int32)) 336 5 (0 : Int32)) 336 6 (0 : Int32)) 336 7 (0 : Int32)), (uR (zR (uR (zR Rf 337) 336 0 (some (b + 337))) 338) 336 1 (some (b + 338))))) 2 156 := by
  refine CC.ofW (lv := [(0, .ref (b + 336))]) (by decide) rfl (Nat.le_of_ble_eq_true rfl) rfl ?_
  intro p e s m args below meth c ls C hr hk2 hnm hAO hsz hP hS hl
  have hx := C.1.1
  have hb := C.1.2.1
  have hcl : s.heap.size + 0 = b + 337 := by omega
  refine lv_aload_n hx hb dX0_init_0 rfl (lv_at hl 0 rfl) ?_
  refine W.objInit hx hb C.1.2.2.2.1 (C.1.2.2.2.2 _ g_352) (C.1.2.2.2.2 _ g_30) (C.1.2.2.2.2 _ g_31) rfl (by rw [C.1.2.2.1]; exact hl.1) rfl dX0_init_1 (Nat.le_of_ble_eq_true rfl) (Nat.le_of_ble_eq_true rfl) ?_
  refine W.eq (g2 := F0 m 4 ls []) rfl ?_
  refine lv_aload_n hx hb dX0_init_4 rfl (lv_at hl 0 rfl) ?_
  refine lv_bipush (v := (96 : Int32)) hx hb dX0_init_5 (by decide) ?_
  refine qna (atype := .int) C (by omega) (by omega) hP hS hcl g_47 rfl (a0 := (96, .inl (fun _ => 0))) (N' := 96) (t0 := 0) rfl pr_int (fun _ => rfl) (by decide) (by decide) (Nat.le_of_ble_eq_true rfl) (Nat.le_of_ble_eq_true rfl) (Nat.le_of_ble_eq_true rfl) rfl dX0_init_7 (fun H hP hS hcl => ?_)
  have hP : va_P z.1 vwCl (pw (dR (xc z) (zR Rf 337)) 338 b (zM M 337)) H := hP
  obtain ⟨M1, eM1⟩ : ∃ X : Mem, X = zM M 337 := ⟨_, rfl⟩
  rw [← eM1] at hP
  obtain ⟨R1, eR1⟩ : ∃ X : Rm, X = zR Rf 337 := ⟨_, rfl⟩
  rw [← eR1] at hP
  refine W.widen (k := 1) (n := 96) (Nat.le_of_ble_eq_true rfl) (Nat.le_of_ble_eq_true rfl) ?_
  have hcl : s.heap.size + 1 = b + 338 := by omega
  refine qpR C hnm hP hS (k := 336) (j := 0) (v := b + 337) (ty := tyX0 0) (Nat.le_of_ble_eq_true rfl) (xr_336 _ _) rfl iw_0 tyX0 tyX0_ok nmX0 (Nat.le_of_ble_eq_true rfl) g_353 rfl rfl rfl (by decide +kernel) rfl rfl (Nat.le_of_ble_eq_true rfl) rfl dX0_init_9 (fun H locs hP hS => ?_)
  obtain ⟨R2, eR2⟩ : ∃ X : Rm, X = uR R1 336 0 (some (b + 337)) := ⟨_, rfl⟩
  rw [← eR2] at hP
  refine lv_aload_n hx hb dX0_init_12 rfl (lv_at hl 0 rfl) ?_
  refine lv_bipush (v := (60 : Int32)) hx hb dX0_init_13 (by decide) ?_
  refine qna (atype := .int) C (by omega) (by omega) hP hS hcl g_47 rfl (a0 := (60, .inl (fun _ => 0))) (N' := 60) (t0 := 0) rfl pr_int (fun _ => rfl) (by decide) (by decide) (Nat.le_of_ble_eq_true rfl) (Nat.le_of_ble_eq_true rfl) (Nat.le_of_ble_eq_true rfl) rfl dX0_init_15 (fun H hP hS hcl => ?_)
  have hP : va_P z.1 vwCl (pw (dR (xc z) (zR R2 338)) 339 b (zM M1 338)) H := hP
  obtain ⟨M3, eM3⟩ : ∃ X : Mem, X = zM M1 338 := ⟨_, rfl⟩
  rw [← eM3] at hP
  obtain ⟨R3, eR3⟩ : ∃ X : Rm, X = zR R2 338 := ⟨_, rfl⟩
  rw [← eR3] at hP
  refine W.widen (k := 2) (n := 156) (Nat.le_of_ble_eq_true rfl) (Nat.le_of_ble_eq_true rfl) ?_
  have hcl : s.heap.size + 2 = b + 339 := by omega
  refine qpR C hnm hP hS (k := 336) (j := 1) (v := b + 338) (ty := tyX0 1) (Nat.le_of_ble_eq_true rfl) (xr_336 _ _) rfl iw_0 tyX0 tyX0_ok nmX0 (Nat.le_of_ble_eq_true rfl) g_356 rfl rfl rfl (by decide +kernel) rfl rfl (Nat.le_of_ble_eq_true rfl) rfl dX0_init_17 (fun H locs hP hS => ?_)
  obtain ⟨R4, eR4⟩ : ∃ X : Rm, X = uR R3 336 1 (some (b + 338)) := ⟨_, rfl⟩
  rw [← eR4] at hP
  refine lv_aload_n hx hb dX0_init_20 rfl (lv_at hl 0 rfl) ?_
  refine lv_iconst (v := (0 : Int32)) hx hb dX0_init_21 (by decide) ?_
  refine qpI C hP hS (k := 336) (j := 2) (ty := .int) (Nat.le_of_ble_eq_true rfl) (xr_336 _ _) rfl iw_0 tyX0 tyX0_ok nmX0 (Nat.le_of_ble_eq_true rfl) g_359 rfl rfl (by decide +kernel) rfl rfl (Nat.le_of_ble_eq_true rfl) rfl dX0_init_22 (fun H locs hP hS => ?_)
  obtain ⟨M5, eM5⟩ : ∃ X : Mem, X = wI M3 336 2 (0 : Int32) := ⟨_, rfl⟩
  rw [← eM5] at hP
  refine lv_aload_n hx hb dX0_init_25 rfl (lv_at hl 0 rfl) ?_
  refine lv_iconst (v := (1 : Int32)) hx hb dX0_init_26 (by decide) ?_
  refine qpI C hP hS (k := 336) (j := 3) (ty := .int) (Nat.le_of_ble_eq_true rfl) (xr_336 _ _) rfl iw_0 tyX0 tyX0_ok nmX0 (Nat.le_of_ble_eq_true rfl) g_362 rfl rfl (by decide +kernel) rfl rfl (Nat.le_of_ble_eq_true rfl) rfl dX0_init_27 (fun H locs hP hS => ?_)
  obtain ⟨M6, eM6⟩ : ∃ X : Mem, X = wI M5 336 3 (1 : Int32) := ⟨_, rfl⟩
  rw [← eM6] at hP
  refine lv_aload_n hx hb dX0_init_30 rfl (lv_at hl 0 rfl) ?_
  refine lv_bipush (v := (-2 : Int32)) hx hb dX0_init_31 (by decide) ?_
  refine qpI C hP hS (k := 336) (j := 4) (ty := .int) (Nat.le_of_ble_eq_true rfl) (xr_336 _ _) rfl iw_0 tyX0 tyX0_ok nmX0 (Nat.le_of_ble_eq_true rfl) g_364 rfl rfl (by decide +kernel) rfl rfl (Nat.le_of_ble_eq_true rfl) rfl dX0_init_33 (fun H locs hP hS => ?_)
  obtain ⟨M7, eM7⟩ : ∃ X : Mem, X = wI M6 336 4 (-2 : Int32) := ⟨_, rfl⟩
  rw [← eM7] at hP
  refine lv_aload_n hx hb dX0_init_36 rfl (lv_at hl 0 rfl) ?_
  refine lv_iconst (v := (0 : Int32)) hx hb dX0_init_37 (by decide) ?_
  refine qpI C hP hS (k := 336) (j := 5) (ty := .int) (Nat.le_of_ble_eq_true rfl) (xr_336 _ _) rfl iw_0 tyX0 tyX0_ok nmX0 (Nat.le_of_ble_eq_true rfl) g_367 rfl rfl (by decide +kernel) rfl rfl (Nat.le_of_ble_eq_true rfl) rfl dX0_init_38 (fun H locs hP hS => ?_)
  obtain ⟨M8, eM8⟩ : ∃ X : Mem, X = wI M7 336 5 (0 : Int32) := ⟨_, rfl⟩
  rw [← eM8] at hP
  refine lv_aload_n hx hb dX0_init_41 rfl (lv_at hl 0 rfl) ?_
  refine lv_iconst (v := (0 : Int32)) hx hb dX0_init_42 (by decide) ?_
  refine qpI C hP hS (k := 336) (j := 6) (ty := .int) (Nat.le_of_ble_eq_true rfl) (xr_336 _ _) rfl iw_0 tyX0 tyX0_ok nmX0 (Nat.le_of_ble_eq_true rfl) g_370 rfl rfl (by decide +kernel) rfl rfl (Nat.le_of_ble_eq_true rfl) rfl dX0_init_43 (fun H locs hP hS => ?_)
  obtain ⟨M9, eM9⟩ : ∃ X : Mem, X = wI M8 336 6 (0 : Int32) := ⟨_, rfl⟩
  rw [← eM9] at hP
  refine lv_aload_n hx hb dX0_init_46 rfl (lv_at hl 0 rfl) ?_
  refine lv_iconst (v := (0 : Int32)) hx hb dX0_init_47 (by decide) ?_
  refine qpI C hP hS (k := 336) (j := 7) (ty := .int) (Nat.le_of_ble_eq_true rfl) (xr_336 _ _) rfl iw_0 tyX0 tyX0_ok nmX0 (Nat.le_of_ble_eq_true rfl) g_373 rfl rfl (by decide +kernel) rfl rfl (Nat.le_of_ble_eq_true rfl) rfl dX0_init_48 (fun H locs hP hS => ?_)
  obtain ⟨M10, eM10⟩ : ∃ X : Mem, X = wI M9 336 7 (0 : Int32) := ⟨_, rfl⟩
  rw [← eM10] at hP
  exact qrV C hr hk2 hP hS (by subst eM1 eR1 eR2 eM3 eR3 eR4 eM5 eM6 eM7 eM8 eM9 eM10; rfl) dX0_init_51
theorem dX6_init_0 : decode cX6_init 0 = .ok (.aload_n 0, 1) := by decide +kernel
theorem dX6_init_1 : decode cX6_init 1 = .ok (.invokespecial 3, 3) := by decide +kernel
theorem dX6_init_4 : decode cX6_init 4 = .ok (.aload_n 0, 1) := by decide +kernel
theorem dX6_init_5 : decode cX6_init 5 = .ok (.bipush 96, 2) := by decide +kernel
theorem dX6_init_7 : decode cX6_init 7 = .ok (.newarray .int, 2) := by decide +kernel
theorem dX6_init_9 : decode cX6_init 9 = .ok (.putfield 9, 3) := by decide +kernel
theorem dX6_init_12 : decode cX6_init 12 = .ok (.aload_n 0, 1) := by decide +kernel
theorem dX6_init_13 : decode cX6_init 13 = .ok (.bipush 96, 2) := by decide +kernel
theorem dX6_init_15 : decode cX6_init 15 = .ok (.newarray .int, 2) := by decide +kernel
theorem dX6_init_17 : decode cX6_init 17 = .ok (.putfield 15, 3) := by decide +kernel
theorem dX6_init_20 : decode cX6_init 20 = .ok (.aload_n 0, 1) := by decide +kernel
theorem dX6_init_21 : decode cX6_init 21 = .ok (.bipush 96, 2) := by decide +kernel
theorem dX6_init_23 : decode cX6_init 23 = .ok (.newarray .int, 2) := by decide +kernel
theorem dX6_init_25 : decode cX6_init 25 = .ok (.putfield 18, 3) := by decide +kernel
theorem dX6_init_28 : decode cX6_init 28 = .ok (.aload_n 0, 1) := by decide +kernel
theorem dX6_init_29 : decode cX6_init 29 = .ok (.bipush 96, 2) := by decide +kernel
theorem dX6_init_31 : decode cX6_init 31 = .ok (.newarray .int, 2) := by decide +kernel
theorem dX6_init_33 : decode cX6_init 33 = .ok (.putfield 21, 3) := by decide +kernel
theorem dX6_init_36 : decode cX6_init 36 = .ok (.aload_n 0, 1) := by decide +kernel
theorem dX6_init_37 : decode cX6_init 37 = .ok (.bipush 96, 2) := by decide +kernel
theorem dX6_init_39 : decode cX6_init 39 = .ok (.anewarray 24, 3) := by decide +kernel
theorem dX6_init_42 : decode cX6_init 42 = .ok (.putfield 26, 3) := by decide +kernel
theorem dX6_init_45 : decode cX6_init 45 = .ok (.aload_n 0, 1) := by decide +kernel
theorem dX6_init_46 : decode cX6_init 46 = .ok (.new 24, 3) := by decide +kernel
theorem dX6_init_49 : decode cX6_init 49 = .ok (.dup, 1) := by decide +kernel
theorem dX6_init_50 : decode cX6_init 50 = .ok (.invokespecial 30, 3) := by decide +kernel
theorem dX6_init_53 : decode cX6_init 53 = .ok (.putfield 31, 3) := by decide +kernel
theorem dX6_init_56 : decode cX6_init 56 = .ok (.aload_n 0, 1) := by decide +kernel
theorem dX6_init_57 : decode cX6_init 57 = .ok (.new 24, 3) := by decide +kernel
theorem dX6_init_60 : decode cX6_init 60 = .ok (.dup, 1) := by decide +kernel
theorem dX6_init_61 : decode cX6_init 61 = .ok (.invokespecial 30, 3) := by decide +kernel
theorem dX6_init_64 : decode cX6_init 64 = .ok (.putfield 35, 3) := by decide +kernel
theorem dX6_init_67 : decode cX6_init 67 = .ok (.aload_n 0, 1) := by decide +kernel
theorem dX6_init_68 : decode cX6_init 68 = .ok (.bipush (-2), 2) := by decide +kernel
theorem dX6_init_70 : decode cX6_init 70 = .ok (.putfield 38, 3) := by decide +kernel
theorem dX6_init_73 : decode cX6_init 73 = .ok (.aload_n 0, 1) := by decide +kernel
theorem dX6_init_74 : decode cX6_init 74 = .ok (.bipush (-2), 2) := by decide +kernel
theorem dX6_init_76 : decode cX6_init 76 = .ok (.putfield 42, 3) := by decide +kernel
theorem dX6_init_79 : decode cX6_init 79 = .ok (.aload_n 0, 1) := by decide +kernel
theorem dX6_init_80 : decode cX6_init 80 = .ok (.iconst 0, 1) := by decide +kernel
theorem dX6_init_81 : decode cX6_init 81 = .ok (.putfield 45, 3) := by decide +kernel
theorem dX6_init_84 : decode cX6_init 84 = .ok (.aload_n 0, 1) := by decide +kernel
theorem dX6_init_85 : decode cX6_init 85 = .ok (.iconst 0, 1) := by decide +kernel
theorem dX6_init_86 : decode cX6_init 86 = .ok (.putfield 48, 3) := by decide +kernel
theorem dX6_init_89 : decode cX6_init 89 = .ok (.aload_n 0, 1) := by decide +kernel
theorem dX6_init_90 : decode cX6_init 90 = .ok (.bipush (-2), 2) := by decide +kernel
theorem dX6_init_92 : decode cX6_init 92 = .ok (.putfield 51, 3) := by decide +kernel
theorem dX6_init_95 : decode cX6_init 95 = .ok (.aload_n 0, 1) := by decide +kernel
theorem dX6_init_96 : decode cX6_init 96 = .ok (.aload_n 1, 1) := by decide +kernel
theorem dX6_init_97 : decode cX6_init 97 = .ok (.putfield 54, 3) := by decide +kernel
theorem dX6_init_100 : decode cX6_init 100 = .ok (.iconst 0, 1) := by decide +kernel
theorem dX6_init_101 : decode cX6_init 101 = .ok (.istore_n 2, 1) := by decide +kernel
theorem dX6_init_102 : decode cX6_init 102 = .ok (.iload_n 2, 1) := by decide +kernel
theorem dX6_init_103 : decode cX6_init 103 = .ok (.bipush 96, 2) := by decide +kernel
theorem dX6_init_105 : decode cX6_init 105 = .ok (.if_icmp .ge 22, 3) := by decide +kernel
theorem dX6_init_108 : decode cX6_init 108 = .ok (.aload_n 0, 1) := by decide +kernel
theorem dX6_init_109 : decode cX6_init 109 = .ok (.getfield 26, 3) := by decide +kernel
theorem dX6_init_112 : decode cX6_init 112 = .ok (.iload_n 2, 1) := by decide +kernel
theorem dX6_init_113 : decode cX6_init 113 = .ok (.new 24, 3) := by decide +kernel
theorem dX6_init_116 : decode cX6_init 116 = .ok (.dup, 1) := by decide +kernel
theorem dX6_init_117 : decode cX6_init 117 = .ok (.invokespecial 30, 3) := by decide +kernel
theorem dX6_init_120 : decode cX6_init 120 = .ok (.aastore, 1) := by decide +kernel
theorem dX6_init_121 : decode cX6_init 121 = .ok (.iinc 2 1, 3) := by decide +kernel
theorem dX6_init_124 : decode cX6_init 124 = .ok (.goto (-22), 3) := by decide +kernel
theorem dX6_init_127 : decode cX6_init 127 = .ok (.return_, 1) := by decide +kernel
theorem y6_init_w : yI yX6_init cX6_init 3 1 := ⟨g_247, g_10, g_248, rfl, by decide, by decide, by decide +kernel⟩
abbrev rmq6_init : Room := { frames := 2, cells := 103, slots := 676, locals := 32 }
set_option maxHeartbeats 4000000 in
set_option maxRecDepth 100000 in
theorem lq6_init {p : Program} {l : Launch} {e : Env} {s : State} {m : MethodId} {args : Array Value} {below : List Frame} {meth : Method} {c : Code} {z : Zt} {b : Nat} (C : Cq p s m args c cX6_init 3 RX6 z b) (hr : meth.sig.returnType = none) (hk2 : meth.locks = false) (hAO : va_AO "BronzeKing$PlaceSet" s) (hsz : s.heap.size = b + 28) {P : Mem × Rm → Prop} {M0 : Mem} {R0 : Rm} (hp : ∀ u : Mem × Rm, ((∀ k j, k < 35 → u.1.1 k j = M0.1 k j) ∧ (∀ k j, k < 35 → u.1.2 k j = M0.2 k j) ∧ (∀ k j, k < 35 → k ≠ 32 → u.2 k j = R0 k j) ∧ (∀ j, j < 96 → u.2 32 j = some (b + (35 + 1 * j)))) → P u) (n : Nat) : ∀ (i : Nat) (M : Mem) (Rf : Rm) (H : Heap) (locs : List Loc) (ls : Array Slot), i + n = 96 → va_P z.1 vwCl (pw (dR (xc z) Rf) (35 + 1 * i) b M) H → va_S (Bx b) s.heap H locs → lv_has ls 3 [(0, .ref (b + 27)), (1, .ref (b + 3)), (2, .int (nI i))] → (∀ k j, k < 35 → M.1 k j = M0.1 k j) → (∀ k j, k < 35 → M.2 k j = M0.2 k j) → (∀ k j, k < 35 → k ≠ 32 → Rf k j = R0 k j) → ((∀ j, j < i → Rf 32 j = some (b + (35 + 1 * j)))) → R0 27 5 = some (b + 32) → W p l e rmq6_init s m args below meth c H locs (7 + 1 * i) (484 + 2 * i) (MQ below (va_Qv (P : Mem × Rm → Prop) (fun u t => va_P z.1 vwCl (pw (dR (xc z) u.2) 131 b u.1) t.heap) (Bx b)) args s 103 676 (Bx b)) (F0 m 102 ls []) := by
  have hx := C.1.1
  have hb := C.1.2.1
  induction n with
  | zero =>
    intro i M Rf H locs ls hi hP hS hl h1 h2 h3 h4 h5_0
    have hi : i = 96 := by omega
    subst hi
    refine lv_iload_n hx hb dX6_init_102 rfl (lv_at hl 2 rfl) ?_
    refine lv_bipush (v := (96 : Int32)) hx hb dX6_init_103 (by decide) ?_
    refine lv_icmp_ge (tgt := 127) hx hb dX6_init_105 (by decide) (fun _ => ?_) (fun h => absurd (by decide) h)
    refine W.widen (k := 103) (n := 676) (Nat.le_of_ble_eq_true rfl) (Nat.le_of_ble_eq_true rfl) ?_
    exact qrV (N := 131) C hr hk2 hP hS (hp _ ⟨h1, h2, h3, h4⟩) dX6_init_127
  | succ n ih =>
    intro i M Rf H locs ls hi hP hS hl h1 h2 h3 h4 h5_0
    refine lv_iload_n hx hb dX6_init_102 rfl (lv_at hl 2 rfl) ?_
    refine lv_bipush (v := (96 : Int32)) hx hb dX6_init_103 (by decide) ?_
    refine lv_icmp_ge (tgt := 127) hx hb dX6_init_105 (by decide) (fun h => absurd h (nI_ge (b := 96) (by omega) (by decide))) (fun _ => ?_)
    have hcl : s.heap.size + (7 + 1 * i) = b + (35 + 1 * i) := by omega
    refine lv_aload_n hx hb dX6_init_108 rfl (lv_at hl 0 rfl) ?_
    have hgv0 : (Rf 27 5 : Option Nat) = some (b + 32) := by rw [h3 _ _ (by decide) (by decide)]; exact h5_0
    refine qg C hP (k := 27) (j := 5) (v := .ref (b + 32)) (by omega) (xr_27 _ _) rfl iw_6 (Nat.le_of_ble_eq_true rfl) g_259 rfl (by rw [hgv0]; rfl) dX6_init_109 ?_
    refine lv_iload_n hx hb dX6_init_112 rfl (lv_at hl 2 rfl) ?_
    have hps : isPS (35 + 1 * i) = true := by simp [isPS]; omega
    refine qnw C (by omega) hP hS hcl (ci := 4) iw_4 tyX4 tyX4_ok g_250 g_55 g_4 rfl (fs := [.long 0, .long 0]) (by decide) (by show _ ≤ 103; omega) (by show _ ≤ 676; omega) (by unfold xc; rw [if_pos hps]) dX6_init_113 (fun H hP hS hcl => ?_)
    refine lv_dup hx hb dX6_init_116 rfl ?_
    refine qcN (As := []) (k := (35 + 1 * i)) C hAO hP hS hcl (by omega) (cq4_init_k hps) y4_init_w g_252 rfl rfl rfl ⟨Nat.le_of_ble_eq_true rfl, Nat.le_of_ble_eq_true rfl⟩ hl.1 rfl (Nat.le_of_ble_eq_true rfl) dX6_init_117 ⟨by show _ ≤ 103; omega, by show _ ≤ 676; omega⟩ (fun u H locs hu hP hS => ?_)
    obtain ⟨Ma0, Ra0⟩ := u
    obtain ⟨eMa0, eRa0⟩ := Prod.mk.inj hu
    have hP : va_P z.1 vwCl (pw (dR (xc z) Ra0) ((35 + 1 * i) + 1) b Ma0) H := hP
    refine qaO C hP hS (k := 32) (kv := (35 + 1 * i)) (n := 96) (by omega) (by omega) (fun _ _ _ => rfl) (xr_ps hps _ _) (vp_in_nI (by omega) (by decide)) dX6_init_120 (fun H locs hP hS => ?_)
    rw [nI_clamp (by omega)] at hP
    obtain ⟨Rb0, eRb0⟩ : ∃ X : Rm, X = uR Ra0 32 i (some (b + (35 + 1 * i))) := ⟨_, rfl⟩
    rw [← eRb0] at hP
    have hcl : s.heap.size + (7 + 1 * i + 1) = b + (35 + 1 * i + 1) := by omega
    refine W.widen (k := 7 + 1 * i + 1) (n := 484 + 2 * i + 2) (by omega) (by omega) ?_
    have hP : va_P z.1 vwCl (pw (dR (xc z) Rb0) (35 + 1 * i + 1) b Ma0) H := hP
    obtain ⟨v9, ev9⟩ : ∃ v : Int32, v = nI i + (1 : Int32) := ⟨_, rfl⟩
    refine lv_iinc (v := v9) (lv' := [(2, .int v9), (0, .ref (b + 27)), (1, .ref (b + 3))]) hx hb dX6_init_121 hl (k := 2) rfl (by rw [ev9]; rfl) (by decide) rfl (fun ls hl => ?_)
    refine lv_goto (tgt := 102) hx hb dX6_init_124 (by decide) ?_
    rw [nI_1] at ev9
    subst ev9
    refine W.eq (g2 := F0 m 102 ls []) rfl ?_
    have nM1 : ∀ k j, k < 35 → Ma0.1 k j = M0.1 k j := by intro k j hk; simp only [eMa0]; simp [wJ, zM, show ∀ q, ¬ k = 35 + 1 * i + q from fun q => by omega, show ¬ k = 35 + 1 * i by omega, show ¬ k = 35 + i by omega, h1 k j hk]
    have nM2 : ∀ k j, k < 35 → Ma0.2 k j = M0.2 k j := by intro k j hk; simp only [eMa0]; simp [wJ, zM, show ∀ q, ¬ k = 35 + 1 * i + q from fun q => by omega, show ¬ k = 35 + 1 * i by omega, show ¬ k = 35 + i by omega, h2 k j hk]
    have nR : ∀ k j, k < 35 → k ≠ 32 → Rb0 k j = R0 k j := by intro k j hk hn0; simp only [eRb0, eRa0]; simp [uR, zR, hn0, show ∀ q, ¬ k = 35 + 1 * i + q from fun q => by omega, show ¬ k = 35 + 1 * i by omega, show ¬ k = 35 + i by omega, h3 k j hk hn0]
    have nr0 : ∀ j, j < i + 1 → Rb0 32 j = some (b + (35 + 1 * j)) := by
      intro j hj
      simp only [eRb0, eRa0]
      by_cases hji : j = i
      · subst hji
        simp [uR, zR, show ∀ q, ¬ 32 = 35 + 1 * j + q from fun q => by omega, show ¬ 32 = 35 + 1 * j by omega, show ¬ 32 = 35 + j by omega]
        try omega
      · simp [uR, zR, hji, show ∀ q, ¬ 32 = 35 + 1 * i + q from fun q => by omega, show ¬ 32 = 35 + 1 * i by omega, show ¬ 32 = 35 + i by omega, h4 j (by omega)]
    refine W.widen (k := 7 + 1 * (i + 1)) (n := 484 + 2 * (i + 1)) (by omega) (by omega) ?_
    have eN : 35 + 1 * i + 1 = 35 + 1 * (i + 1) := by omega
    rw [eN] at hP
    exact ih (i + 1) Ma0 Rb0 H locs ls (by omega) hP hS (lv_sub hl [1, 2, 0] rfl) nM1 nM2 nR nr0 h5_0
set_option maxHeartbeats 4000000 in
set_option maxRecDepth 100000 in
theorem cq6_init_27 {l : Launch} {z : Zt} {b : Nat} {M : Mem} {Rf : Rm} : CC l z (xc z) b yX6_init cX6_init 3 rmq6_init [.ref (b + 27), .ref (b + 3)] 28 M Rf 131 (fun u => (∀ k j, k < 35 → u.1.1 k j = (wI (wI (wI (wI (wI (wJ (wJ (zM (wJ (wJ (zM (zM (zM (zM (zM (zM M 28) 29) 30) 31) 32) 33) 33 0 0) 33 1 0) 34) 34 0 0) 34 1 0) 27 8 (-2 : Int32)) 27 9 (-2 : Int32)) 27 10 (0 : Int32)) 27 11 (0 : Int32)) 27 12 (-2 : Int32)).1 k j) ∧ (∀ k j, k < 35 → u.1.2 k j = (wI (wI (wI (wI (wI (wJ (wJ (zM (wJ (wJ (zM (zM (zM (zM (zM (zM M 28) 29) 30) 31) 32) 33) 33 0 0) 33 1 0) 34) 34 0 0) 34 1 0) 27 8 (-2 : Int32)) 27 9 (-2 : Int32)) 27 10 (0 : Int32)) 27 11 (0 : Int32)) 27 12 (-2 : Int32)).2 k j) ∧ (∀ k j, k < 35 → k ≠ 32 → u.2 k j = (uR (uR (zR (uR (zR (uR (zR (uR (zR (uR (zR (uR (zR (uR (zR Rf 28) 27 1 (some (b + 28))) 29) 27 2 (some (b + 29))) 30) 27 3 (some (b + 30))) 31) 27 4 (some (b + 31))) 32) 27 5 (some (b + 32))) 33) 27 6 (some (b + 33))) 34) 27 7 (some (b + 34))) 27 0 (some (b + 3))) k j) ∧ (∀ j, j < 96 → u.2 32 j = some (b + (35 + 1 * j)))) 103 676 := by
  refine CC.ofW (lv := [(0, .ref (b + 27)), (1, .ref (b + 3))]) (by decide) rfl (Nat.le_of_ble_eq_true rfl) rfl ?_
  intro p e s m args below meth c ls C hr hk2 hnm hAO hsz hP hS hl
  have hx := C.1.1
  have hb := C.1.2.1
  have hcl : s.heap.size + 0 = b + 28 := by omega
  refine lv_aload_n hx hb dX6_init_0 rfl (lv_at hl 0 rfl) ?_
  refine W.objInit hx hb C.1.2.2.2.1 (C.1.2.2.2.2 _ g_249) (C.1.2.2.2.2 _ g_30) (C.1.2.2.2.2 _ g_31) rfl (by rw [C.1.2.2.1]; exact hl.1) rfl dX6_init_1 (Nat.le_of_ble_eq_true rfl) (Nat.le_of_ble_eq_true rfl) ?_
  refine W.eq (g2 := F0 m 4 ls []) rfl ?_
  refine lv_aload_n hx hb dX6_init_4 rfl (lv_at hl 0 rfl) ?_
  refine lv_bipush (v := (96 : Int32)) hx hb dX6_init_5 (by decide) ?_
  refine qna (atype := .int) C (by omega) (by omega) hP hS hcl g_47 rfl (a0 := (96, .inl (fun _ => 0))) (N' := 96) (t0 := 0) rfl pr_int (fun _ => rfl) (by decide) (by decide) (Nat.le_of_ble_eq_true rfl) (Nat.le_of_ble_eq_true rfl) (Nat.le_of_ble_eq_true rfl) rfl dX6_init_7 (fun H hP hS hcl => ?_)
  have hP : va_P z.1 vwCl (pw (dR (xc z) (zR Rf 28)) 29 b (zM M 28)) H := hP
  obtain ⟨M1, eM1⟩ : ∃ X : Mem, X = zM M 28 := ⟨_, rfl⟩
  rw [← eM1] at hP
  obtain ⟨R1, eR1⟩ : ∃ X : Rm, X = zR Rf 28 := ⟨_, rfl⟩
  rw [← eR1] at hP
  refine W.widen (k := 1) (n := 96) (Nat.le_of_ble_eq_true rfl) (Nat.le_of_ble_eq_true rfl) ?_
  have hcl : s.heap.size + 1 = b + 29 := by omega
  refine qpR C hnm hP hS (k := 27) (j := 1) (v := b + 28) (ty := tyX6 1) (Nat.le_of_ble_eq_true rfl) (xr_27 _ _) rfl iw_6 tyX6 tyX6_ok nmX6 (Nat.le_of_ble_eq_true rfl) g_254 rfl rfl rfl (by decide +kernel) rfl rfl (Nat.le_of_ble_eq_true rfl) rfl dX6_init_9 (fun H locs hP hS => ?_)
  obtain ⟨R2, eR2⟩ : ∃ X : Rm, X = uR R1 27 1 (some (b + 28)) := ⟨_, rfl⟩
  rw [← eR2] at hP
  refine lv_aload_n hx hb dX6_init_12 rfl (lv_at hl 0 rfl) ?_
  refine lv_bipush (v := (96 : Int32)) hx hb dX6_init_13 (by decide) ?_
  refine qna (atype := .int) C (by omega) (by omega) hP hS hcl g_47 rfl (a0 := (96, .inl (fun _ => 0))) (N' := 96) (t0 := 0) rfl pr_int (fun _ => rfl) (by decide) (by decide) (Nat.le_of_ble_eq_true rfl) (Nat.le_of_ble_eq_true rfl) (Nat.le_of_ble_eq_true rfl) rfl dX6_init_15 (fun H hP hS hcl => ?_)
  have hP : va_P z.1 vwCl (pw (dR (xc z) (zR R2 29)) 30 b (zM M1 29)) H := hP
  obtain ⟨M3, eM3⟩ : ∃ X : Mem, X = zM M1 29 := ⟨_, rfl⟩
  rw [← eM3] at hP
  obtain ⟨R3, eR3⟩ : ∃ X : Rm, X = zR R2 29 := ⟨_, rfl⟩
  rw [← eR3] at hP
  refine W.widen (k := 2) (n := 192) (Nat.le_of_ble_eq_true rfl) (Nat.le_of_ble_eq_true rfl) ?_
  have hcl : s.heap.size + 2 = b + 30 := by omega
  refine qpR C hnm hP hS (k := 27) (j := 2) (v := b + 29) (ty := tyX6 2) (Nat.le_of_ble_eq_true rfl) (xr_27 _ _) rfl iw_6 tyX6 tyX6_ok nmX6 (Nat.le_of_ble_eq_true rfl) g_255 rfl rfl rfl (by decide +kernel) rfl rfl (Nat.le_of_ble_eq_true rfl) rfl dX6_init_17 (fun H locs hP hS => ?_)
  obtain ⟨R4, eR4⟩ : ∃ X : Rm, X = uR R3 27 2 (some (b + 29)) := ⟨_, rfl⟩
  rw [← eR4] at hP
  refine lv_aload_n hx hb dX6_init_20 rfl (lv_at hl 0 rfl) ?_
  refine lv_bipush (v := (96 : Int32)) hx hb dX6_init_21 (by decide) ?_
  refine qna (atype := .int) C (by omega) (by omega) hP hS hcl g_47 rfl (a0 := (96, .inl (fun _ => 0))) (N' := 96) (t0 := 0) rfl pr_int (fun _ => rfl) (by decide) (by decide) (Nat.le_of_ble_eq_true rfl) (Nat.le_of_ble_eq_true rfl) (Nat.le_of_ble_eq_true rfl) rfl dX6_init_23 (fun H hP hS hcl => ?_)
  have hP : va_P z.1 vwCl (pw (dR (xc z) (zR R4 30)) 31 b (zM M3 30)) H := hP
  obtain ⟨M5, eM5⟩ : ∃ X : Mem, X = zM M3 30 := ⟨_, rfl⟩
  rw [← eM5] at hP
  obtain ⟨R5, eR5⟩ : ∃ X : Rm, X = zR R4 30 := ⟨_, rfl⟩
  rw [← eR5] at hP
  refine W.widen (k := 3) (n := 288) (Nat.le_of_ble_eq_true rfl) (Nat.le_of_ble_eq_true rfl) ?_
  have hcl : s.heap.size + 3 = b + 31 := by omega
  refine qpR C hnm hP hS (k := 27) (j := 3) (v := b + 30) (ty := tyX6 3) (Nat.le_of_ble_eq_true rfl) (xr_27 _ _) rfl iw_6 tyX6 tyX6_ok nmX6 (Nat.le_of_ble_eq_true rfl) g_256 rfl rfl rfl (by decide +kernel) rfl rfl (Nat.le_of_ble_eq_true rfl) rfl dX6_init_25 (fun H locs hP hS => ?_)
  obtain ⟨R6, eR6⟩ : ∃ X : Rm, X = uR R5 27 3 (some (b + 30)) := ⟨_, rfl⟩
  rw [← eR6] at hP
  refine lv_aload_n hx hb dX6_init_28 rfl (lv_at hl 0 rfl) ?_
  refine lv_bipush (v := (96 : Int32)) hx hb dX6_init_29 (by decide) ?_
  refine qna (atype := .int) C (by omega) (by omega) hP hS hcl g_47 rfl (a0 := (96, .inl (fun _ => 0))) (N' := 96) (t0 := 0) rfl pr_int (fun _ => rfl) (by decide) (by decide) (Nat.le_of_ble_eq_true rfl) (Nat.le_of_ble_eq_true rfl) (Nat.le_of_ble_eq_true rfl) rfl dX6_init_31 (fun H hP hS hcl => ?_)
  have hP : va_P z.1 vwCl (pw (dR (xc z) (zR R6 31)) 32 b (zM M5 31)) H := hP
  obtain ⟨M7, eM7⟩ : ∃ X : Mem, X = zM M5 31 := ⟨_, rfl⟩
  rw [← eM7] at hP
  obtain ⟨R7, eR7⟩ : ∃ X : Rm, X = zR R6 31 := ⟨_, rfl⟩
  rw [← eR7] at hP
  refine W.widen (k := 4) (n := 384) (Nat.le_of_ble_eq_true rfl) (Nat.le_of_ble_eq_true rfl) ?_
  have hcl : s.heap.size + 4 = b + 32 := by omega
  refine qpR C hnm hP hS (k := 27) (j := 4) (v := b + 31) (ty := tyX6 4) (Nat.le_of_ble_eq_true rfl) (xr_27 _ _) rfl iw_6 tyX6 tyX6_ok nmX6 (Nat.le_of_ble_eq_true rfl) g_258 rfl rfl rfl (by decide +kernel) rfl rfl (Nat.le_of_ble_eq_true rfl) rfl dX6_init_33 (fun H locs hP hS => ?_)
  obtain ⟨R8, eR8⟩ : ∃ X : Rm, X = uR R7 27 4 (some (b + 31)) := ⟨_, rfl⟩
  rw [← eR8] at hP
  refine lv_aload_n hx hb dX6_init_36 rfl (lv_at hl 0 rfl) ?_
  refine lv_bipush (v := (96 : Int32)) hx hb dX6_init_37 (by decide) ?_
  refine qnO C (by omega) hP hS hcl g_250 hAO (N' := 96) (by decide) (by decide) (by decide) (Nat.le_of_ble_eq_true rfl) (Nat.le_of_ble_eq_true rfl) rfl dX6_init_39 (fun H hP hS hcl => ?_)
  have hP : va_P z.1 vwCl (pw (dR (xc z) (zR R8 32)) 33 b (zM M7 32)) H := hP
  obtain ⟨M9, eM9⟩ : ∃ X : Mem, X = zM M7 32 := ⟨_, rfl⟩
  rw [← eM9] at hP
  obtain ⟨R9, eR9⟩ : ∃ X : Rm, X = zR R8 32 := ⟨_, rfl⟩
  rw [← eR9] at hP
  refine W.widen (k := 5) (n := 480) (Nat.le_of_ble_eq_true rfl) (Nat.le_of_ble_eq_true rfl) ?_
  have hcl : s.heap.size + 5 = b + 33 := by omega
  refine qpR C hnm hP hS (k := 27) (j := 5) (v := b + 32) (ty := tyX6 5) (Nat.le_of_ble_eq_true rfl) (xr_27 _ _) rfl iw_6 tyX6 tyX6_ok nmX6 (Nat.le_of_ble_eq_true rfl) g_259 rfl rfl rfl (by decide +kernel) rfl rfl (Nat.le_of_ble_eq_true rfl) rfl dX6_init_42 (fun H locs hP hS => ?_)
  obtain ⟨R10, eR10⟩ : ∃ X : Rm, X = uR R9 27 5 (some (b + 32)) := ⟨_, rfl⟩
  rw [← eR10] at hP
  refine lv_aload_n hx hb dX6_init_45 rfl (lv_at hl 0 rfl) ?_
  refine qnw C (by omega) hP hS hcl (ci := 4) iw_4 tyX4 tyX4_ok g_250 g_55 g_4 rfl (fs := [.long 0, .long 0]) (by decide) (Nat.le_of_ble_eq_true rfl) (Nat.le_of_ble_eq_true rfl) rfl dX6_init_46 (fun H hP hS hcl => ?_)
  have hP : va_P z.1 vwCl (pw (dR (xc z) (zR R10 33)) 34 b (zM M9 33)) H := hP
  obtain ⟨M11, eM11⟩ : ∃ X : Mem, X = zM M9 33 := ⟨_, rfl⟩
  rw [← eM11] at hP
  obtain ⟨R11, eR11⟩ : ∃ X : Rm, X = zR R10 33 := ⟨_, rfl⟩
  rw [← eR11] at hP
  refine W.widen (k := 6) (n := 482) (Nat.le_of_ble_eq_true rfl) (Nat.le_of_ble_eq_true rfl) ?_
  have hcl : s.heap.size + 6 = b + 34 := by omega
  refine lv_dup hx hb dX6_init_49 rfl ?_
  refine qcN (As := []) (k := 33) C hAO hP hS hcl (Nat.le_of_ble_eq_true rfl) (cq4_init_k ps_33) y4_init_w g_252 rfl rfl rfl ⟨Nat.le_of_ble_eq_true rfl, Nat.le_of_ble_eq_true rfl⟩ hl.1 rfl (Nat.le_of_ble_eq_true rfl) dX6_init_50 ⟨Nat.le_of_ble_eq_true rfl, Nat.le_of_ble_eq_true rfl⟩ (fun u H locs hu hP hS => ?_)
  obtain ⟨M12, R12⟩ := u
  -- sub M12 R12 M11 R11 33
  have hP : va_P z.1 vwCl (pw (dR (xc z) R12) 34 b M12) H := hP
  obtain ⟨eM12, eR12⟩ := Prod.mk.inj hu
  refine qpR C hnm hP hS (k := 27) (j := 6) (v := b + 33) (ty := tyX6 6) (Nat.le_of_ble_eq_true rfl) (xr_27 _ _) rfl iw_6 tyX6 tyX6_ok nmX6 (Nat.le_of_ble_eq_true rfl) g_260 rfl rfl rfl (by decide +kernel) rfl rfl (Nat.le_of_ble_eq_true rfl) rfl dX6_init_53 (fun H locs hP hS => ?_)
  obtain ⟨R13, eR13⟩ : ∃ X : Rm, X = uR R12 27 6 (some (b + 33)) := ⟨_, rfl⟩
  rw [← eR13] at hP
  refine lv_aload_n hx hb dX6_init_56 rfl (lv_at hl 0 rfl) ?_
  refine qnw C (by omega) hP hS hcl (ci := 4) iw_4 tyX4 tyX4_ok g_250 g_55 g_4 rfl (fs := [.long 0, .long 0]) (by decide) (Nat.le_of_ble_eq_true rfl) (Nat.le_of_ble_eq_true rfl) rfl dX6_init_57 (fun H hP hS hcl => ?_)
  have hP : va_P z.1 vwCl (pw (dR (xc z) (zR R13 34)) 35 b (zM M12 34)) H := hP
  obtain ⟨M14, eM14⟩ : ∃ X : Mem, X = zM M12 34 := ⟨_, rfl⟩
  rw [← eM14] at hP
  obtain ⟨R14, eR14⟩ : ∃ X : Rm, X = zR R13 34 := ⟨_, rfl⟩
  rw [← eR14] at hP
  refine W.widen (k := 7) (n := 484) (Nat.le_of_ble_eq_true rfl) (Nat.le_of_ble_eq_true rfl) ?_
  have hcl : s.heap.size + 7 = b + 35 := by omega
  refine lv_dup hx hb dX6_init_60 rfl ?_
  refine qcN (As := []) (k := 34) C hAO hP hS hcl (Nat.le_of_ble_eq_true rfl) (cq4_init_k ps_34) y4_init_w g_252 rfl rfl rfl ⟨Nat.le_of_ble_eq_true rfl, Nat.le_of_ble_eq_true rfl⟩ hl.1 rfl (Nat.le_of_ble_eq_true rfl) dX6_init_61 ⟨Nat.le_of_ble_eq_true rfl, Nat.le_of_ble_eq_true rfl⟩ (fun u H locs hu hP hS => ?_)
  obtain ⟨M15, R15⟩ := u
  -- sub M15 R15 M14 R14 34
  have hP : va_P z.1 vwCl (pw (dR (xc z) R15) 35 b M15) H := hP
  obtain ⟨eM15, eR15⟩ := Prod.mk.inj hu
  refine qpR C hnm hP hS (k := 27) (j := 7) (v := b + 34) (ty := tyX6 7) (Nat.le_of_ble_eq_true rfl) (xr_27 _ _) rfl iw_6 tyX6 tyX6_ok nmX6 (Nat.le_of_ble_eq_true rfl) g_261 rfl rfl rfl (by decide +kernel) rfl rfl (Nat.le_of_ble_eq_true rfl) rfl dX6_init_64 (fun H locs hP hS => ?_)
  obtain ⟨R16, eR16⟩ : ∃ X : Rm, X = uR R15 27 7 (some (b + 34)) := ⟨_, rfl⟩
  rw [← eR16] at hP
  refine lv_aload_n hx hb dX6_init_67 rfl (lv_at hl 0 rfl) ?_
  refine lv_bipush (v := (-2 : Int32)) hx hb dX6_init_68 (by decide) ?_
  refine qpI C hP hS (k := 27) (j := 8) (ty := .int) (Nat.le_of_ble_eq_true rfl) (xr_27 _ _) rfl iw_6 tyX6 tyX6_ok nmX6 (Nat.le_of_ble_eq_true rfl) g_262 rfl rfl (by decide +kernel) rfl rfl (Nat.le_of_ble_eq_true rfl) rfl dX6_init_70 (fun H locs hP hS => ?_)
  obtain ⟨M17, eM17⟩ : ∃ X : Mem, X = wI M15 27 8 (-2 : Int32) := ⟨_, rfl⟩
  rw [← eM17] at hP
  refine lv_aload_n hx hb dX6_init_73 rfl (lv_at hl 0 rfl) ?_
  refine lv_bipush (v := (-2 : Int32)) hx hb dX6_init_74 (by decide) ?_
  refine qpI C hP hS (k := 27) (j := 9) (ty := .int) (Nat.le_of_ble_eq_true rfl) (xr_27 _ _) rfl iw_6 tyX6 tyX6_ok nmX6 (Nat.le_of_ble_eq_true rfl) g_264 rfl rfl (by decide +kernel) rfl rfl (Nat.le_of_ble_eq_true rfl) rfl dX6_init_76 (fun H locs hP hS => ?_)
  obtain ⟨M18, eM18⟩ : ∃ X : Mem, X = wI M17 27 9 (-2 : Int32) := ⟨_, rfl⟩
  rw [← eM18] at hP
  refine lv_aload_n hx hb dX6_init_79 rfl (lv_at hl 0 rfl) ?_
  refine lv_iconst (v := (0 : Int32)) hx hb dX6_init_80 (by decide) ?_
  refine qpI C hP hS (k := 27) (j := 10) (ty := .int) (Nat.le_of_ble_eq_true rfl) (xr_27 _ _) rfl iw_6 tyX6 tyX6_ok nmX6 (Nat.le_of_ble_eq_true rfl) g_266 rfl rfl (by decide +kernel) rfl rfl (Nat.le_of_ble_eq_true rfl) rfl dX6_init_81 (fun H locs hP hS => ?_)
  obtain ⟨M19, eM19⟩ : ∃ X : Mem, X = wI M18 27 10 (0 : Int32) := ⟨_, rfl⟩
  rw [← eM19] at hP
  refine lv_aload_n hx hb dX6_init_84 rfl (lv_at hl 0 rfl) ?_
  refine lv_iconst (v := (0 : Int32)) hx hb dX6_init_85 (by decide) ?_
  refine qpI C hP hS (k := 27) (j := 11) (ty := .int) (Nat.le_of_ble_eq_true rfl) (xr_27 _ _) rfl iw_6 tyX6 tyX6_ok nmX6 (Nat.le_of_ble_eq_true rfl) g_268 rfl rfl (by decide +kernel) rfl rfl (Nat.le_of_ble_eq_true rfl) rfl dX6_init_86 (fun H locs hP hS => ?_)
  obtain ⟨M20, eM20⟩ : ∃ X : Mem, X = wI M19 27 11 (0 : Int32) := ⟨_, rfl⟩
  rw [← eM20] at hP
  refine lv_aload_n hx hb dX6_init_89 rfl (lv_at hl 0 rfl) ?_
  refine lv_bipush (v := (-2 : Int32)) hx hb dX6_init_90 (by decide) ?_
  refine qpI C hP hS (k := 27) (j := 12) (ty := .int) (Nat.le_of_ble_eq_true rfl) (xr_27 _ _) rfl iw_6 tyX6 tyX6_ok nmX6 (Nat.le_of_ble_eq_true rfl) g_270 rfl rfl (by decide +kernel) rfl rfl (Nat.le_of_ble_eq_true rfl) rfl dX6_init_92 (fun H locs hP hS => ?_)
  obtain ⟨M21, eM21⟩ : ∃ X : Mem, X = wI M20 27 12 (-2 : Int32) := ⟨_, rfl⟩
  rw [← eM21] at hP
  refine lv_aload_n hx hb dX6_init_95 rfl (lv_at hl 0 rfl) ?_
  refine lv_aload_n hx hb dX6_init_96 rfl (lv_at hl 1 rfl) ?_
  refine qpR C hnm hP hS (k := 27) (j := 0) (v := b + 3) (ty := tyX6 0) (Nat.le_of_ble_eq_true rfl) (xr_27 _ _) rfl iw_6 tyX6 tyX6_ok nmX6 (Nat.le_of_ble_eq_true rfl) g_253 rfl rfl rfl (by decide +kernel) rfl rfl (Nat.le_of_ble_eq_true rfl) rfl dX6_init_97 (fun H locs hP hS => ?_)
  obtain ⟨R22, eR22⟩ : ∃ X : Rm, X = uR R16 27 0 (some (b + 3)) := ⟨_, rfl⟩
  rw [← eR22] at hP
  refine lv_iconst (v := (0 : Int32)) hx hb dX6_init_100 (by decide) ?_
  refine lv_istore_n (lv' := [(2, .int (0 : Int32)), (0, .ref (b + 27)), (1, .ref (b + 3))]) hx hb dX6_init_101 rfl hl (by decide) rfl (fun ls hl => ?_)
  refine lq6_init C hr hk2 hAO hsz (M0 := M21) (R0 := R22) (fun u h => by subst eM1 eR1 eR2 eM3 eR3 eR4 eM5 eR5 eR6 eM7 eR7 eR8 eM9 eR9 eR10 eM11 eR11 eM12 eR12 eR13 eM14 eR14 eM15 eR15 eR16 eM17 eM18 eM19 eM20 eM21 eR22; exact h) 96 0 M21 R22 H locs ls (by omega) hP hS (by rw [nI_0]; exact lv_sub hl [1, 2, 0] rfl) (fun _ _ _ => rfl) (fun _ _ _ => rfl) (fun _ _ _ _ => rfl) (fun j h => by omega) (by simp [eM1, eR1, eR2, eM3, eR3, eR4, eM5, eR5, eR6, eM7, eR7, eR8, eM9, eR9, eR10, eM11, eR11, eM12, eR12, eR13, eM14, eR14, eM15, eR15, eR16, eM17, eM18, eM19, eM20, eM21, eR22, uR, zR])
theorem dX1_init_0 : decode cX1_init 0 = .ok (.aload_n 0, 1) := by decide +kernel
theorem dX1_init_1 : decode cX1_init 1 = .ok (.invokespecial 3, 3) := by decide +kernel
theorem dX1_init_4 : decode cX1_init 4 = .ok (.aload_n 0, 1) := by decide +kernel
theorem dX1_init_5 : decode cX1_init 5 = .ok (.bipush 96, 2) := by decide +kernel
theorem dX1_init_7 : decode cX1_init 7 = .ok (.anewarray 9, 3) := by decide +kernel
theorem dX1_init_10 : decode cX1_init 10 = .ok (.putfield 11, 3) := by decide +kernel
theorem dX1_init_13 : decode cX1_init 13 = .ok (.aload_n 0, 1) := by decide +kernel
theorem dX1_init_14 : decode cX1_init 14 = .ok (.bipush 96, 2) := by decide +kernel
theorem dX1_init_16 : decode cX1_init 16 = .ok (.anewarray 9, 3) := by decide +kernel
theorem dX1_init_19 : decode cX1_init 19 = .ok (.putfield 17, 3) := by decide +kernel
theorem dX1_init_22 : decode cX1_init 22 = .ok (.aload_n 0, 1) := by decide +kernel
theorem dX1_init_23 : decode cX1_init 23 = .ok (.aload_n 1, 1) := by decide +kernel
theorem dX1_init_24 : decode cX1_init 24 = .ok (.putfield 20, 3) := by decide +kernel
theorem dX1_init_27 : decode cX1_init 27 = .ok (.iconst 0, 1) := by decide +kernel
theorem dX1_init_28 : decode cX1_init 28 = .ok (.istore_n 2, 1) := by decide +kernel
theorem dX1_init_29 : decode cX1_init 29 = .ok (.iload_n 2, 1) := by decide +kernel
theorem dX1_init_30 : decode cX1_init 30 = .ok (.bipush 96, 2) := by decide +kernel
theorem dX1_init_32 : decode cX1_init 32 = .ok (.if_icmp .ge 35, 3) := by decide +kernel
theorem dX1_init_35 : decode cX1_init 35 = .ok (.aload_n 0, 1) := by decide +kernel
theorem dX1_init_36 : decode cX1_init 36 = .ok (.getfield 11, 3) := by decide +kernel
theorem dX1_init_39 : decode cX1_init 39 = .ok (.iload_n 2, 1) := by decide +kernel
theorem dX1_init_40 : decode cX1_init 40 = .ok (.new 9, 3) := by decide +kernel
theorem dX1_init_43 : decode cX1_init 43 = .ok (.dup, 1) := by decide +kernel
theorem dX1_init_44 : decode cX1_init 44 = .ok (.invokespecial 24, 3) := by decide +kernel
theorem dX1_init_47 : decode cX1_init 47 = .ok (.aastore, 1) := by decide +kernel
theorem dX1_init_48 : decode cX1_init 48 = .ok (.aload_n 0, 1) := by decide +kernel
theorem dX1_init_49 : decode cX1_init 49 = .ok (.getfield 17, 3) := by decide +kernel
theorem dX1_init_52 : decode cX1_init 52 = .ok (.iload_n 2, 1) := by decide +kernel
theorem dX1_init_53 : decode cX1_init 53 = .ok (.new 9, 3) := by decide +kernel
theorem dX1_init_56 : decode cX1_init 56 = .ok (.dup, 1) := by decide +kernel
theorem dX1_init_57 : decode cX1_init 57 = .ok (.invokespecial 24, 3) := by decide +kernel
theorem dX1_init_60 : decode cX1_init 60 = .ok (.aastore, 1) := by decide +kernel
theorem dX1_init_61 : decode cX1_init 61 = .ok (.iinc 2 1, 3) := by decide +kernel
theorem dX1_init_64 : decode cX1_init 64 = .ok (.goto (-35), 3) := by decide +kernel
theorem dX1_init_67 : decode cX1_init 67 = .ok (.return_, 1) := by decide +kernel
theorem y1_init_w : yI yX1_init cX1_init 3 1 := ⟨g_302, g_11, g_303, rfl, by decide, by decide, by decide +kernel⟩
abbrev rmq1_init : Room := { frames := 2, cells := 194, slots := 576, locals := 32 }
set_option maxHeartbeats 4000000 in
set_option maxRecDepth 100000 in
theorem lq1_init {p : Program} {l : Launch} {e : Env} {s : State} {m : MethodId} {args : Array Value} {below : List Frame} {meth : Method} {c : Code} {z : Zt} {b : Nat} (C : Cq p s m args c cX1_init 3 RX1 z b) (hr : meth.sig.returnType = none) (hk2 : meth.locks = false) (hAO : va_AO "BronzeKing$PlaceSet" s) (hsz : s.heap.size = b + 132) {P : Mem × Rm → Prop} {M0 : Mem} {R0 : Rm} (hp : ∀ u : Mem × Rm, ((∀ k j, k < 134 → u.1.1 k j = M0.1 k j) ∧ (∀ k j, k < 134 → u.1.2 k j = M0.2 k j) ∧ (∀ k j, k < 134 → k ≠ 132 → k ≠ 133 → u.2 k j = R0 k j) ∧ (∀ j, j < 96 → u.2 132 j = some (b + (134 + 2 * j))) ∧ (∀ j, j < 96 → u.2 133 j = some (b + (135 + 2 * j)))) → P u) (n : Nat) : ∀ (i : Nat) (M : Mem) (Rf : Rm) (H : Heap) (locs : List Loc) (ls : Array Slot), i + n = 96 → va_P z.1 vwCl (pw (dR (xc z) Rf) (134 + 2 * i) b M) H → va_S (Bx b) s.heap H locs → lv_has ls 3 [(0, .ref (b + 131)), (1, .ref (b + 3)), (2, .int (nI i))] → (∀ k j, k < 134 → M.1 k j = M0.1 k j) → (∀ k j, k < 134 → M.2 k j = M0.2 k j) → (∀ k j, k < 134 → k ≠ 132 → k ≠ 133 → Rf k j = R0 k j) → ((∀ j, j < i → Rf 132 j = some (b + (134 + 2 * j))) ∧ (∀ j, j < i → Rf 133 j = some (b + (135 + 2 * j)))) → R0 131 1 = some (b + 132) → R0 131 2 = some (b + 133) → W p l e rmq1_init s m args below meth c H locs (2 + 2 * i) (192 + 4 * i) (MQ below (va_Qv (P : Mem × Rm → Prop) (fun u t => va_P z.1 vwCl (pw (dR (xc z) u.2) 326 b u.1) t.heap) (Bx b)) args s 194 576 (Bx b)) (F0 m 29 ls []) := by
  have hx := C.1.1
  have hb := C.1.2.1
  induction n with
  | zero =>
    intro i M Rf H locs ls hi hP hS hl h1 h2 h3 h4 h5_0 h5_1
    have hi : i = 96 := by omega
    subst hi
    refine lv_iload_n hx hb dX1_init_29 rfl (lv_at hl 2 rfl) ?_
    refine lv_bipush (v := (96 : Int32)) hx hb dX1_init_30 (by decide) ?_
    refine lv_icmp_ge (tgt := 67) hx hb dX1_init_32 (by decide) (fun _ => ?_) (fun h => absurd (by decide) h)
    refine W.widen (k := 194) (n := 576) (Nat.le_of_ble_eq_true rfl) (Nat.le_of_ble_eq_true rfl) ?_
    exact qrV (N := 326) C hr hk2 hP hS (hp _ ⟨h1, h2, h3, h4⟩) dX1_init_67
  | succ n ih =>
    intro i M Rf H locs ls hi hP hS hl h1 h2 h3 h4 h5_0 h5_1
    refine lv_iload_n hx hb dX1_init_29 rfl (lv_at hl 2 rfl) ?_
    refine lv_bipush (v := (96 : Int32)) hx hb dX1_init_30 (by decide) ?_
    refine lv_icmp_ge (tgt := 67) hx hb dX1_init_32 (by decide) (fun h => absurd h (nI_ge (b := 96) (by omega) (by decide))) (fun _ => ?_)
    have hcl : s.heap.size + (2 + 2 * i) = b + (134 + 2 * i) := by omega
    refine lv_aload_n hx hb dX1_init_35 rfl (lv_at hl 0 rfl) ?_
    have hgv0 : (Rf 131 1 : Option Nat) = some (b + 132) := by rw [h3 _ _ (by decide) (by decide) (by decide)]; exact h5_0
    refine qg C hP (k := 131) (j := 1) (v := .ref (b + 132)) (by omega) (xr_131 _ _) rfl iw_1 (Nat.le_of_ble_eq_true rfl) g_308 rfl (by rw [hgv0]; rfl) dX1_init_36 ?_
    refine lv_iload_n hx hb dX1_init_39 rfl (lv_at hl 2 rfl) ?_
    have hps : isPS (134 + 2 * i) = true := by simp [isPS]; omega
    refine qnw C (by omega) hP hS hcl (ci := 4) iw_4 tyX4 tyX4_ok g_305 g_55 g_4 rfl (fs := [.long 0, .long 0]) (by decide) (by show _ ≤ 194; omega) (by show _ ≤ 576; omega) (by unfold xc; rw [if_pos hps]) dX1_init_40 (fun H hP hS hcl => ?_)
    refine lv_dup hx hb dX1_init_43 rfl ?_
    refine qcN (As := []) (k := (134 + 2 * i)) C hAO hP hS hcl (by omega) (cq4_init_k hps) y4_init_w g_306 rfl rfl rfl ⟨Nat.le_of_ble_eq_true rfl, Nat.le_of_ble_eq_true rfl⟩ hl.1 rfl (Nat.le_of_ble_eq_true rfl) dX1_init_44 ⟨by show _ ≤ 194; omega, by show _ ≤ 576; omega⟩ (fun u H locs hu hP hS => ?_)
    obtain ⟨Ma0, Ra0⟩ := u
    obtain ⟨eMa0, eRa0⟩ := Prod.mk.inj hu
    have hP : va_P z.1 vwCl (pw (dR (xc z) Ra0) ((134 + 2 * i) + 1) b Ma0) H := hP
    refine qaO C hP hS (k := 132) (kv := (134 + 2 * i)) (n := 96) (by omega) (by omega) (fun _ _ _ => rfl) (xr_ps hps _ _) (vp_in_nI (by omega) (by decide)) dX1_init_47 (fun H locs hP hS => ?_)
    rw [nI_clamp (by omega)] at hP
    obtain ⟨Rb0, eRb0⟩ : ∃ X : Rm, X = uR Ra0 132 i (some (b + (134 + 2 * i))) := ⟨_, rfl⟩
    rw [← eRb0] at hP
    have hcl : s.heap.size + (2 + 2 * i + 1) = b + (134 + 2 * i + 1) := by omega
    refine W.widen (k := 2 + 2 * i + 1) (n := 192 + 4 * i + 2) (by omega) (by omega) ?_
    have hP : va_P z.1 vwCl (pw (dR (xc z) Rb0) (134 + 2 * i + 1) b Ma0) H := hP
    refine lv_aload_n hx hb dX1_init_48 rfl (lv_at hl 0 rfl) ?_
    have hgv1 : (Rb0 131 2 : Option Nat) = some (b + 133) := by simp only [eRb0, eRa0]; simp [uR, zR, show ¬ (131 : Nat) = 134 + 2 * i by omega, h3 131 2 (by decide) (by decide) (by decide), h5_1]
    refine qg C hP (k := 131) (j := 2) (v := .ref (b + 133)) (by omega) (xr_131 _ _) rfl iw_1 (Nat.le_of_ble_eq_true rfl) g_309 rfl (by rw [hgv1]; rfl) dX1_init_49 ?_
    refine lv_iload_n hx hb dX1_init_52 rfl (lv_at hl 2 rfl) ?_
    have hps : isPS (134 + 2 * i + 1) = true := by simp [isPS]; omega
    refine qnw C (by omega) hP hS hcl (ci := 4) iw_4 tyX4 tyX4_ok g_305 g_55 g_4 rfl (fs := [.long 0, .long 0]) (by decide) (by show _ ≤ 194; omega) (by show _ ≤ 576; omega) (by unfold xc; rw [if_pos hps]) dX1_init_53 (fun H hP hS hcl => ?_)
    refine lv_dup hx hb dX1_init_56 rfl ?_
    refine qcN (As := []) (k := (134 + 2 * i + 1)) C hAO hP hS hcl (by omega) (cq4_init_k hps) y4_init_w g_306 rfl rfl rfl ⟨Nat.le_of_ble_eq_true rfl, Nat.le_of_ble_eq_true rfl⟩ hl.1 rfl (Nat.le_of_ble_eq_true rfl) dX1_init_57 ⟨by show _ ≤ 194; omega, by show _ ≤ 576; omega⟩ (fun u H locs hu hP hS => ?_)
    obtain ⟨Ma1, Ra1⟩ := u
    obtain ⟨eMa1, eRa1⟩ := Prod.mk.inj hu
    have hP : va_P z.1 vwCl (pw (dR (xc z) Ra1) ((134 + 2 * i + 1) + 1) b Ma1) H := hP
    refine qaO C hP hS (k := 133) (kv := (134 + 2 * i + 1)) (n := 96) (by omega) (by omega) (fun _ _ _ => rfl) (xr_ps hps _ _) (vp_in_nI (by omega) (by decide)) dX1_init_60 (fun H locs hP hS => ?_)
    rw [nI_clamp (by omega)] at hP
    obtain ⟨Rb1, eRb1⟩ : ∃ X : Rm, X = uR Ra1 133 i (some (b + (134 + 2 * i + 1))) := ⟨_, rfl⟩
    rw [← eRb1] at hP
    have hcl : s.heap.size + (2 + 2 * i + 2) = b + (134 + 2 * i + 2) := by omega
    refine W.widen (k := 2 + 2 * i + 2) (n := 192 + 4 * i + 4) (by omega) (by omega) ?_
    have hP : va_P z.1 vwCl (pw (dR (xc z) Rb1) (134 + 2 * i + 2) b Ma1) H := hP
    obtain ⟨v9, ev9⟩ : ∃ v : Int32, v = nI i + (1 : Int32) := ⟨_, rfl⟩
    refine lv_iinc (v := v9) (lv' := [(2, .int v9), (0, .ref (b + 131)), (1, .ref (b + 3))]) hx hb dX1_init_61 hl (k := 2) rfl (by rw [ev9]; rfl) (by decide) rfl (fun ls hl => ?_)
    refine lv_goto (tgt := 29) hx hb dX1_init_64 (by decide) ?_
    rw [nI_1] at ev9
    subst ev9
    refine W.eq (g2 := F0 m 29 ls []) rfl ?_
    have nM1 : ∀ k j, k < 134 → Ma1.1 k j = M0.1 k j := by intro k j hk; simp only [eMa1, eMa0]; simp [wJ, zM, show ∀ q, ¬ k = 134 + 2 * i + q from fun q => by omega, show ¬ k = 134 + 2 * i by omega, h1 k j hk]
    have nM2 : ∀ k j, k < 134 → Ma1.2 k j = M0.2 k j := by intro k j hk; simp only [eMa1, eMa0]; simp [wJ, zM, show ∀ q, ¬ k = 134 + 2 * i + q from fun q => by omega, show ¬ k = 134 + 2 * i by omega, h2 k j hk]
    have nR : ∀ k j, k < 134 → k ≠ 132 → k ≠ 133 → Rb1 k j = R0 k j := by intro k j hk hn0 hn1; simp only [eRb1, eRa1, eRb0, eRa0]; simp [uR, zR, hn0, hn1, show ∀ q, ¬ k = 134 + 2 * i + q from fun q => by omega, show ¬ k = 134 + 2 * i by omega, h3 k j hk hn0 hn1]
    have nr0 : ∀ j, j < i + 1 → Rb1 132 j = some (b + (134 + 2 * j)) := by
      intro j hj
      simp only [eRb1, eRa1, eRb0, eRa0]
      by_cases hji : j = i
      · subst hji
        simp [uR, zR, show ∀ q, ¬ 132 = 134 + 2 * j + q from fun q => by omega, show ¬ 132 = 134 + 2 * j by omega]
        try omega
      · simp [uR, zR, hji, show ∀ q, ¬ 132 = 134 + 2 * i + q from fun q => by omega, show ¬ 132 = 134 + 2 * i by omega, h4.1 j (by omega)]
    have nr1 : ∀ j, j < i + 1 → Rb1 133 j = some (b + (135 + 2 * j)) := by
      intro j hj
      simp only [eRb1, eRa1, eRb0, eRa0]
      by_cases hji : j = i
      · subst hji
        simp [uR, zR, show ∀ q, ¬ 133 = 134 + 2 * j + q from fun q => by omega, show ¬ 133 = 134 + 2 * j by omega]
        try omega
      · simp [uR, zR, hji, show ∀ q, ¬ 133 = 134 + 2 * i + q from fun q => by omega, show ¬ 133 = 134 + 2 * i by omega, h4.2 j (by omega)]
    refine W.widen (k := 2 + 2 * (i + 1)) (n := 192 + 4 * (i + 1)) (by omega) (by omega) ?_
    have eN : 134 + 2 * i + 2 = 134 + 2 * (i + 1) := by omega
    rw [eN] at hP
    exact ih (i + 1) Ma1 Rb1 H locs ls (by omega) hP hS (lv_sub hl [1, 2, 0] rfl) nM1 nM2 nR ⟨nr0, nr1⟩ h5_0 h5_1
set_option maxHeartbeats 4000000 in
set_option maxRecDepth 100000 in
theorem cq1_init_131 {l : Launch} {z : Zt} {b : Nat} {M : Mem} {Rf : Rm} : CC l z (xc z) b yX1_init cX1_init 3 rmq1_init [.ref (b + 131), .ref (b + 3)] 132 M Rf 326 (fun u => (∀ k j, k < 134 → u.1.1 k j = (zM (zM M 132) 133).1 k j) ∧ (∀ k j, k < 134 → u.1.2 k j = (zM (zM M 132) 133).2 k j) ∧ (∀ k j, k < 134 → k ≠ 132 → k ≠ 133 → u.2 k j = (uR (uR (zR (uR (zR Rf 132) 131 1 (some (b + 132))) 133) 131 2 (some (b + 133))) 131 0 (some (b + 3))) k j) ∧ (∀ j, j < 96 → u.2 132 j = some (b + (134 + 2 * j))) ∧ (∀ j, j < 96 → u.2 133 j = some (b + (135 + 2 * j)))) 194 576 := by
  refine CC.ofW (lv := [(0, .ref (b + 131)), (1, .ref (b + 3))]) (by decide) rfl (Nat.le_of_ble_eq_true rfl) rfl ?_
  intro p e s m args below meth c ls C hr hk2 hnm hAO hsz hP hS hl
  have hx := C.1.1
  have hb := C.1.2.1
  have hcl : s.heap.size + 0 = b + 132 := by omega
  refine lv_aload_n hx hb dX1_init_0 rfl (lv_at hl 0 rfl) ?_
  refine W.objInit hx hb C.1.2.2.2.1 (C.1.2.2.2.2 _ g_304) (C.1.2.2.2.2 _ g_30) (C.1.2.2.2.2 _ g_31) rfl (by rw [C.1.2.2.1]; exact hl.1) rfl dX1_init_1 (Nat.le_of_ble_eq_true rfl) (Nat.le_of_ble_eq_true rfl) ?_
  refine W.eq (g2 := F0 m 4 ls []) rfl ?_
  refine lv_aload_n hx hb dX1_init_4 rfl (lv_at hl 0 rfl) ?_
  refine lv_bipush (v := (96 : Int32)) hx hb dX1_init_5 (by decide) ?_
  refine qnO C (by omega) hP hS hcl g_305 hAO (N' := 96) (by decide) (by decide) (by decide) (Nat.le_of_ble_eq_true rfl) (Nat.le_of_ble_eq_true rfl) rfl dX1_init_7 (fun H hP hS hcl => ?_)
  have hP : va_P z.1 vwCl (pw (dR (xc z) (zR Rf 132)) 133 b (zM M 132)) H := hP
  obtain ⟨M1, eM1⟩ : ∃ X : Mem, X = zM M 132 := ⟨_, rfl⟩
  rw [← eM1] at hP
  obtain ⟨R1, eR1⟩ : ∃ X : Rm, X = zR Rf 132 := ⟨_, rfl⟩
  rw [← eR1] at hP
  refine W.widen (k := 1) (n := 96) (Nat.le_of_ble_eq_true rfl) (Nat.le_of_ble_eq_true rfl) ?_
  have hcl : s.heap.size + 1 = b + 133 := by omega
  refine qpR C hnm hP hS (k := 131) (j := 1) (v := b + 132) (ty := tyX1 1) (Nat.le_of_ble_eq_true rfl) (xr_131 _ _) rfl iw_1 tyX1 tyX1_ok nmX1 (Nat.le_of_ble_eq_true rfl) g_308 rfl rfl rfl (by decide +kernel) rfl rfl (Nat.le_of_ble_eq_true rfl) rfl dX1_init_10 (fun H locs hP hS => ?_)
  obtain ⟨R2, eR2⟩ : ∃ X : Rm, X = uR R1 131 1 (some (b + 132)) := ⟨_, rfl⟩
  rw [← eR2] at hP
  refine lv_aload_n hx hb dX1_init_13 rfl (lv_at hl 0 rfl) ?_
  refine lv_bipush (v := (96 : Int32)) hx hb dX1_init_14 (by decide) ?_
  refine qnO C (by omega) hP hS hcl g_305 hAO (N' := 96) (by decide) (by decide) (by decide) (Nat.le_of_ble_eq_true rfl) (Nat.le_of_ble_eq_true rfl) rfl dX1_init_16 (fun H hP hS hcl => ?_)
  have hP : va_P z.1 vwCl (pw (dR (xc z) (zR R2 133)) 134 b (zM M1 133)) H := hP
  obtain ⟨M3, eM3⟩ : ∃ X : Mem, X = zM M1 133 := ⟨_, rfl⟩
  rw [← eM3] at hP
  obtain ⟨R3, eR3⟩ : ∃ X : Rm, X = zR R2 133 := ⟨_, rfl⟩
  rw [← eR3] at hP
  refine W.widen (k := 2) (n := 192) (Nat.le_of_ble_eq_true rfl) (Nat.le_of_ble_eq_true rfl) ?_
  have hcl : s.heap.size + 2 = b + 134 := by omega
  refine qpR C hnm hP hS (k := 131) (j := 2) (v := b + 133) (ty := tyX1 2) (Nat.le_of_ble_eq_true rfl) (xr_131 _ _) rfl iw_1 tyX1 tyX1_ok nmX1 (Nat.le_of_ble_eq_true rfl) g_309 rfl rfl rfl (by decide +kernel) rfl rfl (Nat.le_of_ble_eq_true rfl) rfl dX1_init_19 (fun H locs hP hS => ?_)
  obtain ⟨R4, eR4⟩ : ∃ X : Rm, X = uR R3 131 2 (some (b + 133)) := ⟨_, rfl⟩
  rw [← eR4] at hP
  refine lv_aload_n hx hb dX1_init_22 rfl (lv_at hl 0 rfl) ?_
  refine lv_aload_n hx hb dX1_init_23 rfl (lv_at hl 1 rfl) ?_
  refine qpR C hnm hP hS (k := 131) (j := 0) (v := b + 3) (ty := tyX1 0) (Nat.le_of_ble_eq_true rfl) (xr_131 _ _) rfl iw_1 tyX1 tyX1_ok nmX1 (Nat.le_of_ble_eq_true rfl) g_307 rfl rfl rfl (by decide +kernel) rfl rfl (Nat.le_of_ble_eq_true rfl) rfl dX1_init_24 (fun H locs hP hS => ?_)
  obtain ⟨R5, eR5⟩ : ∃ X : Rm, X = uR R4 131 0 (some (b + 3)) := ⟨_, rfl⟩
  rw [← eR5] at hP
  refine lv_iconst (v := (0 : Int32)) hx hb dX1_init_27 (by decide) ?_
  refine lv_istore_n (lv' := [(2, .int (0 : Int32)), (0, .ref (b + 131)), (1, .ref (b + 3))]) hx hb dX1_init_28 rfl hl (by decide) rfl (fun ls hl => ?_)
  refine lq1_init C hr hk2 hAO hsz (M0 := M3) (R0 := R5) (fun u h => by subst eM1 eR1 eR2 eM3 eR3 eR4 eR5; exact h) 96 0 M3 R5 H locs ls (by omega) hP hS (by rw [nI_0]; exact lv_sub hl [1, 2, 0] rfl) (fun _ _ _ => rfl) (fun _ _ _ => rfl) (fun _ _ _ _ _ => rfl) ⟨fun j h => by omega, fun j h => by omega⟩ (by simp [eM1, eR1, eR2, eM3, eR3, eR4, eR5, uR, zR]) (by simp [eM1, eR1, eR2, eM3, eR3, eR4, eR5, uR, zR])
