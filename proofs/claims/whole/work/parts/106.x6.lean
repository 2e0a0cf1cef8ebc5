-- java/lang/Math.floorMod(II)I
theorem CI.ofWF {l : Launch} {z : Zt} {d : Cds} {N b : Nat} {y : MethodName} {bytes : ByteArray} {maxL : Nat} {ret : Option FieldType} {rm : Room} {av : List Value} {M M' : Mem} {r : Int32} {lv : List (Nat × Value)} (hy : plainFor y = true) (hav : (lg_sl av).length ≤ maxL) (hlv : lv_args 0 av = lv)
    (body : ∀ (p : Program) (e : Env) (s : State) (m : MethodId) (args : Array Value) (below : List Frame) (meth : Method) (c : Code) (ls : Array Slot), Cx p s m args c bytes maxL y.cls z N b → meth.sig.returnType = ret → meth.locks = false → va_P z.1 vwCl (pw d N b M) s.heap → va_S (pA N b) s.heap s.heap [] → lv_has ls maxL lv →
      W p l e rm s m args below meth c s.heap [] 0 0 (MQ below (va_Qi (fun (r' : Int32) (M2 : Mem) => r' = r ∧ M2 = M') (fun M2 t => va_P z.1 vwCl (pw d N b M2) t.heap) (pA N b)) args s 0 0 (pA N b)) (F0 m 0 ls [])) : CI l z d N b y bytes maxL ret rm av M M' r := by
  refine va_MetF (cc := bytes) (maxL := maxL) (ret := ret) hy rfl ?_
  intro p e s m args below meth c s₁ B hml hv
  obtain ⟨rfl, hP, hG⟩ := hv
  have hts := atoms_spec (ws := Cond.code y bytes maxL ret :: lw_good) B.pre
  rw [lg_entry_eq]
  exact body p e s m _ below meth c _ ⟨⟨B.exec, B.bytes, hml, findClass_of_methodNamed B.named, fun w hw => hts w (List.mem_cons_of_mem _ hw)⟩, hG⟩ B.returns B.notSynchronized hP va_S.rf (hlv ▸ lv_entry av hav)
theorem dJ9_floorMod_7cf53_0 : decode cJ9_floorMod_7cf53 0 = .ok (.iload_n 0, 1) := by decide +kernel
theorem dJ9_floorMod_7cf53_1 : decode cJ9_floorMod_7cf53 1 = .ok (.iload_n 1, 1) := by decide +kernel
theorem dJ9_floorMod_7cf53_2 : decode cJ9_floorMod_7cf53 2 = .ok (.irem, 1) := by decide +kernel
theorem dJ9_floorMod_7cf53_3 : decode cJ9_floorMod_7cf53 3 = .ok (.istore_n 2, 1) := by decide +kernel
theorem dJ9_floorMod_7cf53_4 : decode cJ9_floorMod_7cf53 4 = .ok (.iload_n 0, 1) := by decide +kernel
theorem dJ9_floorMod_7cf53_5 : decode cJ9_floorMod_7cf53 5 = .ok (.iload_n 1, 1) := by decide +kernel
theorem dJ9_floorMod_7cf53_6 : decode cJ9_floorMod_7cf53 6 = .ok (.ixor, 1) := by decide +kernel
theorem dJ9_floorMod_7cf53_7 : decode cJ9_floorMod_7cf53 7 = .ok (.ifCond .ge 11, 3) := by decide +kernel
theorem dJ9_floorMod_7cf53_10 : decode cJ9_floorMod_7cf53 10 = .ok (.iload_n 2, 1) := by decide +kernel
theorem dJ9_floorMod_7cf53_11 : decode cJ9_floorMod_7cf53 11 = .ok (.ifCond .eq 7, 3) := by decide +kernel
theorem dJ9_floorMod_7cf53_14 : decode cJ9_floorMod_7cf53 14 = .ok (.iload_n 2, 1) := by decide +kernel
theorem dJ9_floorMod_7cf53_15 : decode cJ9_floorMod_7cf53 15 = .ok (.iload_n 1, 1) := by decide +kernel
theorem dJ9_floorMod_7cf53_16 : decode cJ9_floorMod_7cf53 16 = .ok (.iadd, 1) := by decide +kernel
theorem dJ9_floorMod_7cf53_17 : decode cJ9_floorMod_7cf53 17 = .ok (.ireturn, 1) := by decide +kernel
theorem dJ9_floorMod_7cf53_18 : decode cJ9_floorMod_7cf53 18 = .ok (.iload_n 2, 1) := by decide +kernel
theorem dJ9_floorMod_7cf53_19 : decode cJ9_floorMod_7cf53 19 = .ok (.ireturn, 1) := by decide +kernel
def bZJ9_floorMod_7cf53_18 (rc : Nat → List Int32 → List Int64 → Mem → Option (Int32 × Mem)) (n : Nat) (i2 : Int32) (M : Mem) : Option (Int32 × Mem) :=
  some (i2, M)
def bZJ9_floorMod_7cf53_0 (rc : Nat → List Int32 → List Int64 → Mem → Option (Int32 × Mem)) (n : Nat) (a0 : Int32) (a1 : Int32) (M : Mem) : Option (Int32 × Mem) :=
  chk (decide (¬ a1 = 0)) <|
  lt (a0 - a0 / a1 * a1) fun v2 =>
  (if 0 ≤ (a0 ^^^ a1) then (
   bZJ9_floorMod_7cf53_18  rc n v2 M)
  else (
   (if v2 = 0 then (
    bZJ9_floorMod_7cf53_18  rc n v2 M)
   else (
    some ((v2 + a1), M)))))
def fZJ9_floorMod_7cf53 (n : Nat) (a0 : Int32) (a1 : Int32) (M : Mem) : Option (Int32 × Mem) := bZJ9_floorMod_7cf53_0 (fun _ _ _ _ => none) n a0 a1 M
abbrev rmZJ9_floorMod_7cf53 : Room := { frames := 0, cells := 0, slots := 0, locals := 0 }
theorem yZJ9_floorMod_7cf53_w : yS yJ9_floorMod_7cf53 cJ9_floorMod_7cf53 3 (some .int) 2 := ⟨g_715, g_17, g_716, by decide, by decide, by decide +kernel⟩
set_option maxHeartbeats 4000000 in
set_option maxRecDepth 100000 in
theorem wZJ9_floorMod_7cf53_18 {p : Program} {l : Launch} {e : Env} {s : State} {m : MethodId} {args : Array Value} {below : List Frame} {meth : Method} {c : Code} {z : Zt} {b : Nat}  (C : Cx p s m args c cJ9_floorMod_7cf53 3 RJ9 z 339 b) (hr : meth.sig.returnType = (some .int)) (hk : meth.locks = false) {r : Int32} {M' : Mem} {rc : Nat → List Int32 → List Int64 → Mem → Option (Int32 × Mem)} {n : Nat}  {i2 : Int32} {M : Mem} {H : Heap} {locs : List Loc} {ls : Array Slot} (hf : bZJ9_floorMod_7cf53_18  rc n i2 M = some (r, M')) (hP : va_P z.1 vwCl (pw (xd z b) 339 b M) H) (hS : va_S (pA 339 b) s.heap H locs) (hl : lv_has ls 3 [(2, .int i2)]) : W p l e rmZJ9_floorMod_7cf53 s m args below meth c H locs 0 0 (MQ below (va_Qi (fun (r' : Int32) (M2 : Mem) => r' = r ∧ M2 = M') (fun M2 t => va_P z.1 vwCl (pw (xd z b) 339 b M2) t.heap) (pA 339 b)) args s 0 0 (pA 339 b)) (F0 m 18 ls []) := by
  have hx := C.1.1
  have hb := C.1.2.1
  unfold bZJ9_floorMod_7cf53_18 at hf
  refine lv_iload_n hx hb dJ9_floorMod_7cf53_18 rfl (lv_at hl 0 rfl) ?_
  exact prI C hr hk hP hS hf dJ9_floorMod_7cf53_19
set_option maxHeartbeats 4000000 in
set_option maxRecDepth 100000 in
theorem wZJ9_floorMod_7cf53_0 {p : Program} {l : Launch} {e : Env} {s : State} {m : MethodId} {args : Array Value} {below : List Frame} {meth : Method} {c : Code} {z : Zt} {b : Nat}  (C : Cx p s m args c cJ9_floorMod_7cf53 3 RJ9 z 339 b) (hr : meth.sig.returnType = (some .int)) (hk : meth.locks = false) {r : Int32} {M' : Mem} {rc : Nat → List Int32 → List Int64 → Mem → Option (Int32 × Mem)} {n : Nat}  {a0 : Int32} {a1 : Int32} {M : Mem} {H : Heap} {locs : List Loc} {ls : Array Slot} (hf : bZJ9_floorMod_7cf53_0  rc n a0 a1 M = some (r, M')) (hP : va_P z.1 vwCl (pw (xd z b) 339 b M) H) (hS : va_S (pA 339 b) s.heap H locs) (hl : lv_has ls 3 [(0, .int a0), (1, .int a1)]) : W p l e rmZJ9_floorMod_7cf53 s m args below meth c H locs 0 0 (MQ below (va_Qi (fun (r' : Int32) (M2 : Mem) => r' = r ∧ M2 = M') (fun M2 t => va_P z.1 vwCl (pw (xd z b) 339 b M2) t.heap) (pA 339 b)) args s 0 0 (pA 339 b)) (F0 m 0 ls []) := by
  have hx := C.1.1
  have hb := C.1.2.1
  unfold bZJ9_floorMod_7cf53_0 at hf
  refine lv_iload_n hx hb dJ9_floorMod_7cf53_0 rfl (lv_at hl 0 rfl) ?_
  refine lv_iload_n hx hb dJ9_floorMod_7cf53_1 rfl (lv_at hl 1 rfl) ?_
  have h1 := of_decide_eq_true (chk_1 hf)
  replace hf := chk_2 hf
  refine lv_irem hx hb dJ9_floorMod_7cf53_2 h1 ?_
  refine lv_topi (fun v2 ev2 => ?_)
  replace hf := lt_c ev2 hf
  refine lv_istore_n (lv' := [(2, .int v2), (0, .int a0), (1, .int a1)]) hx hb dJ9_floorMod_7cf53_3 rfl hl (by decide) rfl (fun ls hl => ?_)
  refine lv_iload_n hx hb dJ9_floorMod_7cf53_4 rfl (lv_at hl 1 rfl) ?_
  refine lv_iload_n hx hb dJ9_floorMod_7cf53_5 rfl (lv_at hl 2 rfl) ?_
  refine lv_ixor hx hb dJ9_floorMod_7cf53_6 ?_
  refine lv_if_ge (tgt := 18) hx hb dJ9_floorMod_7cf53_7 (by decide) (fun c3 => ?_) (fun c3 => ?_)
  · replace hf := ite_t c3 hf
    exact wZJ9_floorMod_7cf53_18 (n := n)  C hr hk  hf hP hS (lv_sub hl [0] rfl)
  · replace hf := ite_f c3 hf
    refine lv_iload_n hx hb dJ9_floorMod_7cf53_10 rfl (lv_at hl 0 rfl) ?_
    refine lv_if_eq (tgt := 18) hx hb dJ9_floorMod_7cf53_11 (by decide) (fun c4 => ?_) (fun c4 => ?_)
    · replace hf := ite_t c4 hf
      exact wZJ9_floorMod_7cf53_18 (n := n)  C hr hk  hf hP hS (lv_sub hl [0] rfl)
    · replace hf := ite_f c4 hf
      refine lv_iload_n hx hb dJ9_floorMod_7cf53_14 rfl (lv_at hl 0 rfl) ?_
      refine lv_iload_n hx hb dJ9_floorMod_7cf53_15 rfl (lv_at hl 2 rfl) ?_
      refine lv_iadd hx hb dJ9_floorMod_7cf53_16 ?_
      exact prI C hr hk hP hS hf dJ9_floorMod_7cf53_17
theorem cZJ9_floorMod_7cf53 {l : Launch} {z : Zt} {b n : Nat}  {a0 : Int32} {a1 : Int32} {M M' : Mem} {r : Int32} (hf : fZJ9_floorMod_7cf53 n  a0 a1 M = some (r, M')) : CI l z (xd z b) 339 b yJ9_floorMod_7cf53 cJ9_floorMod_7cf53 3 (some .int) rmZJ9_floorMod_7cf53 [.int a0, .int a1] M M' r :=
  CI.ofWF (lv := [(0, .int a0), (1, .int a1)]) (by decide +kernel) (Nat.le_of_ble_eq_true rfl) rfl (fun p e s m args below meth c ls C hr hk hP hS hl => wZJ9_floorMod_7cf53_0 (n := n)  C hr hk  hf hP hS hl)

-- BronzeKing$Vigil.mark(IIZ)V
theorem dX9_mark_0 : decode cX9_mark 0 = .ok (.iload_n 2, 1) := by decide +kernel
theorem dX9_mark_1 : decode cX9_mark 1 = .ok (.iload_n 1, 1) := by decide +kernel
theorem dX9_mark_2 : decode cX9_mark 2 = .ok (.isub, 1) := by decide +kernel
theorem dX9_mark_3 : decode cX9_mark 3 = .ok (.bipush 24, 2) := by decide +kernel
theorem dX9_mark_5 : decode cX9_mark 5 = .ok (.invokestatic 69, 3) := by decide +kernel
theorem dX9_mark_8 : decode cX9_mark 8 = .ok (.iconst 1, 1) := by decide +kernel
theorem dX9_mark_9 : decode cX9_mark 9 = .ok (.iadd, 1) := by decide +kernel
theorem dX9_mark_10 : decode cX9_mark 10 = .ok (.istore 4, 2) := by decide +kernel
theorem dX9_mark_12 : decode cX9_mark 12 = .ok (.iconst 0, 1) := by decide +kernel
theorem dX9_mark_13 : decode cX9_mark 13 = .ok (.istore 5, 2) := by decide +kernel
theorem dX9_mark_15 : decode cX9_mark 15 = .ok (.iload 5, 2) := by decide +kernel
theorem dX9_mark_17 : decode cX9_mark 17 = .ok (.iload 4, 2) := by decide +kernel
theorem dX9_mark_19 : decode cX9_mark 19 = .ok (.if_icmp .ge 47, 3) := by decide +kernel
theorem dX9_mark_22 : decode cX9_mark 22 = .ok (.iconst 1, 1) := by decide +kernel
theorem dX9_mark_23 : decode cX9_mark 23 = .ok (.iload_n 1, 1) := by decide +kernel
theorem dX9_mark_24 : decode cX9_mark 24 = .ok (.iload 5, 2) := by decide +kernel
theorem dX9_mark_26 : decode cX9_mark 26 = .ok (.iadd, 1) := by decide +kernel
theorem dX9_mark_27 : decode cX9_mark 27 = .ok (.bipush 24, 2) := by decide +kernel
theorem dX9_mark_29 : decode cX9_mark 29 = .ok (.irem, 1) := by decide +kernel
theorem dX9_mark_30 : decode cX9_mark 30 = .ok (.ishl, 1) := by decide +kernel
theorem dX9_mark_31 : decode cX9_mark 31 = .ok (.istore 6, 2) := by decide +kernel
theorem dX9_mark_33 : decode cX9_mark 33 = .ok (.aload_n 0, 1) := by decide +kernel
theorem dX9_mark_34 : decode cX9_mark 34 = .ok (.iload_n 3, 1) := by decide +kernel
theorem dX9_mark_35 : decode cX9_mark 35 = .ok (.ifCond .eq 13, 3) := by decide +kernel
theorem dX9_mark_38 : decode cX9_mark 38 = .ok (.aload_n 0, 1) := by decide +kernel
theorem dX9_mark_39 : decode cX9_mark 39 = .ok (.getfield 19, 3) := by decide +kernel
theorem dX9_mark_42 : decode cX9_mark 42 = .ok (.iload 6, 2) := by decide +kernel
theorem dX9_mark_44 : decode cX9_mark 44 = .ok (.ior, 1) := by decide +kernel
theorem dX9_mark_45 : decode cX9_mark 45 = .ok (.goto 12, 3) := by decide +kernel
theorem dX9_mark_48 : decode cX9_mark 48 = .ok (.aload_n 0, 1) := by decide +kernel
theorem dX9_mark_49 : decode cX9_mark 49 = .ok (.getfield 19, 3) := by decide +kernel
theorem dX9_mark_52 : decode cX9_mark 52 = .ok (.iload 6, 2) := by decide +kernel
theorem dX9_mark_54 : decode cX9_mark 54 = .ok (.iconst (-1), 1) := by decide +kernel
theorem dX9_mark_55 : decode cX9_mark 55 = .ok (.ixor, 1) := by decide +kernel
theorem dX9_mark_56 : decode cX9_mark 56 = .ok (.iand, 1) := by decide +kernel
theorem dX9_mark_57 : decode cX9_mark 57 = .ok (.putfield 19, 3) := by decide +kernel
theorem dX9_mark_60 : decode cX9_mark 60 = .ok (.iinc 5 1, 3) := by decide +kernel
theorem dX9_mark_63 : decode cX9_mark 63 = .ok (.goto (-48), 3) := by decide +kernel
theorem dX9_mark_66 : decode cX9_mark 66 = .ok (.return_, 1) := by decide +kernel
def b9_mark_57 (rc : Nat → List Int32 → List Int64 → Mem → Option (Unit × Mem)) (n : Nat) (i1 : Int32) (i3 : Int32) (i4 : Int32) (i5 : Int32) (s1 : Int32) (M : Mem) : Option (Unit × Mem) :=
  lt (wI M 25 3 s1) fun M8 =>
  lt (i5 + (1 : Int32)) fun v9 =>
  rc 15 [i1, i3, i4, v9] [] M8
def b9_mark_15 (rc : Nat → List Int32 → List Int64 → Mem → Option (Unit × Mem)) (n : Nat) (i1 : Int32) (i3 : Int32) (i4 : Int32) (i5 : Int32) (M : Mem) : Option (Unit × Mem) :=
  (if i4 ≤ i5 then (
   some ((), M))
  else (
   lt ((1 : Int32) <<< (((i1 + i5) - (i1 + i5) / (24 : Int32) * (24 : Int32)) &&& 31)) fun v6 =>
   (if i3 = 0 then (
    b9_mark_57  rc n i1 i3 i4 i5 ((M.1 25 3) &&& (v6 ^^^ (-1 : Int32))) M)
   else (
    b9_mark_57  rc n i1 i3 i4 i5 ((M.1 25 3) ||| v6) M))))
def b9_mark_0 (rc : Nat → List Int32 → List Int64 → Mem → Option (Unit × Mem)) (n : Nat) (a1 : Int32) (a2 : Int32) (a3 : Int32) (M : Mem) : Option (Unit × Mem) :=
  bnd (fZJ9_floorMod_7cf53 n (a2 - a1) (24 : Int32) M) fun r1 M2 =>
  lt (r1 + (1 : Int32)) fun v4 =>
  b9_mark_15  rc n a1 a3 v4 (0 : Int32) M2
def r9_mark : Nat → Nat → List Int32 → List Int64 → Mem → Option (Unit × Mem)
  | 0 => fun _ _ _ _ => none
  | n + 1 => fun pc li lj M =>
    if pc = 15 then (match li, lj with | [i1, i3, i4, i5], [] => b9_mark_15  (r9_mark  n) n i1 i3 i4 i5 M | _, _ => none) else
    none
theorem e9_mark_15  (n : Nat) (i1 : Int32) (i3 : Int32) (i4 : Int32) (i5 : Int32) (M : Mem) : r9_mark  (n + 1) 15 [i1, i3, i4, i5] [] M = b9_mark_15  (r9_mark  n) n i1 i3 i4 i5 M := by
  rw [r9_mark]
  simp
def f9_mark (n : Nat) (a1 : Int32) (a2 : Int32) (a3 : Int32) (M : Mem) : Option (Unit × Mem) := b9_mark_0 (r9_mark n) n a1 a2 a3 M
abbrev rm9_mark : Room := { frames := 1, cells := 0, slots := 0, locals := 22 }
theorem y9_mark_w : yV RX9 yX9_mark cX9_mark 7 none 3 := ⟨g_712, gp 19 rfl rfl, g_9, g_713, rfl, by decide, by decide, by decide +kernel⟩
set_option maxHeartbeats 4000000 in
set_option maxRecDepth 100000 in
theorem w9_mark_57 {p : Program} {l : Launch} {e : Env} {s : State} {m : MethodId} {args : Array Value} {below : List Frame} {meth : Method} {c : Code} {z : Zt} {b : Nat}  (C : Cx p s m args c cX9_mark 7 RX9 z 339 b) (hr : meth.sig.returnType = none) (hk : meth.locks = false) {r : Unit} {M' : Mem} {rc : Nat → List Int32 → List Int64 → Mem → Option (Unit × Mem)} {n : Nat} (q15 : ∀ (i1 : Int32) (i3 : Int32) (i4 : Int32) (i5 : Int32) (M : Mem) (H : Heap) (locs : List Loc) (ls : Array Slot), rc 15 [i1, i3, i4, i5] [] M = some (r, M') → va_P z.1 vwCl (pw (xd z b) 339 b M) H → va_S (pA 339 b) s.heap H locs → lv_has ls 7 [(0, .ref (b + 25)), (1, .int i1), (3, .int i3), (4, .int i4), (5, .int i5)] → W p l e rm9_mark s m args below meth c H locs 0 0 (MQ below (va_Qv (fun (M2 : Mem) => M2 = M') (fun M2 t => va_P z.1 vwCl (pw (xd z b) 339 b M2) t.heap) (pA 339 b)) args s 0 0 (pA 339 b)) (F0 m 15 ls [])) {i1 : Int32} {i3 : Int32} {i4 : Int32} {i5 : Int32} {s1 : Int32} {M : Mem} {H : Heap} {locs : List Loc} {ls : Array Slot} (hf : b9_mark_57  rc n i1 i3 i4 i5 s1 M = some (r, M')) (hP : va_P z.1 vwCl (pw (xd z b) 339 b M) H) (hS : va_S (pA 339 b) s.heap H locs) (hl : lv_has ls 7 [(0, .ref (b + 25)), (1, .int i1), (3, .int i3), (4, .int i4), (5, .int i5)]) : W p l e rm9_mark s m args below meth c H locs 0 0 (MQ below (va_Qv (fun (M2 : Mem) => M2 = M') (fun M2 t => va_P z.1 vwCl (pw (xd z b) 339 b M2) t.heap) (pA 339 b)) args s 0 0 (pA 339 b)) (F0 m 57 ls [.int s1, .ref (b + 25)]) := by
  have hx := C.1.1
  have hb := C.1.2.1
  unfold b9_mark_57 at hf
  refine ppI C hP hS (k := 25) (j := 3) (ty := .int) (Nat.le_of_ble_eq_true rfl) (xd_25 _ _) rfl iw_9 tyX9 tyX9_ok nmX9 (Nat.le_of_ble_eq_true rfl) g_219 rfl rfl (by decide +kernel) rfl rfl (Nat.le_of_ble_eq_true rfl) (xu_25_3 _ _ _) dX9_mark_57 (fun M8 H locs eM8 hP hS => ?_)
  replace hf := lt_c eM8 hf
  obtain ⟨v9, ev9⟩ : ∃ v : Int32, v = i5 + (1 : Int32) := ⟨_, rfl⟩
  replace hf := lt_c ev9 hf
  refine lv_iinc (v := v9) (lv' := [(5, .int v9), (0, .ref (b + 25)), (1, .int i1), (3, .int i3), (4, .int i4)]) hx hb dX9_mark_60 hl (k := 4) rfl (by rw [ev9]; rfl) (by decide) rfl (fun ls hl => ?_)
  refine lv_goto (tgt := 15) hx hb dX9_mark_63 (by decide) ?_
  exact q15 i1 i3 i4 v9 M8 _ _ _ hf hP hS (lv_sub hl [1, 2, 3, 4, 0] rfl)
set_option maxHeartbeats 4000000 in
set_option maxRecDepth 100000 in
theorem w9_mark_15 {p : Program} {l : Launch} {e : Env} {s : State} {m : MethodId} {args : Array Value} {below : List Frame} {meth : Method} {c : Code} {z : Zt} {b : Nat}  (C : Cx p s m args c cX9_mark 7 RX9 z 339 b) (hr : meth.sig.returnType = none) (hk : meth.locks = false) {r : Unit} {M' : Mem} {rc : Nat → List Int32 → List Int64 → Mem → Option (Unit × Mem)} {n : Nat} (q15 : ∀ (i1 : Int32) (i3 : Int32) (i4 : Int32) (i5 : Int32) (M : Mem) (H : Heap) (locs : List Loc) (ls : Array Slot), rc 15 [i1, i3, i4, i5] [] M = some (r, M') → va_P z.1 vwCl (pw (xd z b) 339 b M) H → va_S (pA 339 b) s.heap H locs → lv_has ls 7 [(0, .ref (b + 25)), (1, .int i1), (3, .int i3), (4, .int i4), (5, .int i5)] → W p l e rm9_mark s m args below meth c H locs 0 0 (MQ below (va_Qv (fun (M2 : Mem) => M2 = M') (fun M2 t => va_P z.1 vwCl (pw (xd z b) 339 b M2) t.heap) (pA 339 b)) args s 0 0 (pA 339 b)) (F0 m 15 ls [])) {i1 : Int32} {i3 : Int32} {i4 : Int32} {i5 : Int32} {M : Mem} {H : Heap} {locs : List Loc} {ls : Array Slot} (hf : b9_mark_15  rc n i1 i3 i4 i5 M = some (r, M')) (hP : va_P z.1 vwCl (pw (xd z b) 339 b M) H) (hS : va_S (pA 339 b) s.heap H locs) (hl : lv_has ls 7 [(0, .ref (b + 25)), (1, .int i1), (3, .int i3), (4, .int i4), (5, .int i5)]) : W p l e rm9_mark s m args below meth c H locs 0 0 (MQ below (va_Qv (fun (M2 : Mem) => M2 = M') (fun M2 t => va_P z.1 vwCl (pw (xd z b) 339 b M2) t.heap) (pA 339 b)) args s 0 0 (pA 339 b)) (F0 m 15 ls []) := by
  have hx := C.1.1
  have hb := C.1.2.1
  unfold b9_mark_15 at hf
  refine lv_iload hx hb dX9_mark_15 (lv_at hl 4 rfl) ?_
  refine lv_iload hx hb dX9_mark_17 (lv_at hl 3 rfl) ?_
  refine lv_icmp_ge (tgt := 66) hx hb dX9_mark_19 (by decide) (fun c5 => ?_) (fun c5 => ?_)
  · replace hf := ite_t c5 hf
    exact prV C hr hk hP hS hf dX9_mark_66
  · replace hf := ite_f c5 hf
    refine lv_iconst (v := (1 : Int32)) hx hb dX9_mark_22 (by decide) ?_
    refine lv_iload_n hx hb dX9_mark_23 rfl (lv_at hl 1 rfl) ?_
    refine lv_iload hx hb dX9_mark_24 (lv_at hl 4 rfl) ?_
    refine lv_iadd hx hb dX9_mark_26 ?_
    refine lv_bipush (v := (24 : Int32)) hx hb dX9_mark_27 (by decide) ?_
    refine lv_irem hx hb dX9_mark_29 (by decide) ?_
    refine lv_ishl hx hb dX9_mark_30 ?_
    refine lv_topi (fun v6 ev6 => ?_)
    replace hf := lt_c ev6 hf
    refine lv_istore (lv' := [(6, .int v6), (0, .ref (b + 25)), (1, .int i1), (3, .int i3), (4, .int i4), (5, .int i5)]) hx hb dX9_mark_31 hl (by decide) rfl (fun ls hl => ?_)
    refine lv_aload_n hx hb dX9_mark_33 rfl (lv_at hl 1 rfl) ?_
    refine lv_iload_n hx hb dX9_mark_34 rfl (lv_at hl 3 rfl) ?_
    refine lv_if_eq (tgt := 48) hx hb dX9_mark_35 (by decide) (fun c7 => ?_) (fun c7 => ?_)
    · replace hf := ite_t c7 hf
      refine lv_aload_n hx hb dX9_mark_48 rfl (lv_at hl 1 rfl) ?_
      refine pg C hP (k := 25) (j := 3) (Nat.le_of_ble_eq_true rfl) (xd_25 _ _) rfl iw_9 (Nat.le_of_ble_eq_true rfl) g_219 rfl rfl dX9_mark_49 ?_
      refine lv_iload hx hb dX9_mark_52 (lv_at hl 0 rfl) ?_
      refine lv_iconst (v := (-1 : Int32)) hx hb dX9_mark_54 (by decide) ?_
      refine lv_ixor hx hb dX9_mark_55 ?_
      refine lv_iand hx hb dX9_mark_56 ?_
      exact w9_mark_57 (n := n)  C hr hk q15 hf hP hS (lv_sub hl [1, 2, 3, 4, 5] rfl)
    · replace hf := ite_f c7 hf
      refine lv_aload_n hx hb dX9_mark_38 rfl (lv_at hl 1 rfl) ?_
      refine pg C hP (k := 25) (j := 3) (Nat.le_of_ble_eq_true rfl) (xd_25 _ _) rfl iw_9 (Nat.le_of_ble_eq_true rfl) g_219 rfl rfl dX9_mark_39 ?_
      refine lv_iload hx hb dX9_mark_42 (lv_at hl 0 rfl) ?_
      refine lv_ior hx hb dX9_mark_44 ?_
      refine lv_goto (tgt := 57) hx hb dX9_mark_45 (by decide) ?_
      exact w9_mark_57 (n := n)  C hr hk q15 hf hP hS (lv_sub hl [1, 2, 3, 4, 5] rfl)
set_option maxHeartbeats 4000000 in
set_option maxRecDepth 100000 in
theorem w9_mark_0 {p : Program} {l : Launch} {e : Env} {s : State} {m : MethodId} {args : Array Value} {below : List Frame} {meth : Method} {c : Code} {z : Zt} {b : Nat}  (C : Cx p s m args c cX9_mark 7 RX9 z 339 b) (hr : meth.sig.returnType = none) (hk : meth.locks = false) {r : Unit} {M' : Mem} {rc : Nat → List Int32 → List Int64 → Mem → Option (Unit × Mem)} {n : Nat} (q15 : ∀ (i1 : Int32) (i3 : Int32) (i4 : Int32) (i5 : Int32) (M : Mem) (H : Heap) (locs : List Loc) (ls : Array Slot), rc 15 [i1, i3, i4, i5] [] M = some (r, M') → va_P z.1 vwCl (pw (xd z b) 339 b M) H → va_S (pA 339 b) s.heap H locs → lv_has ls 7 [(0, .ref (b + 25)), (1, .int i1), (3, .int i3), (4, .int i4), (5, .int i5)] → W p l e rm9_mark s m args below meth c H locs 0 0 (MQ below (va_Qv (fun (M2 : Mem) => M2 = M') (fun M2 t => va_P z.1 vwCl (pw (xd z b) 339 b M2) t.heap) (pA 339 b)) args s 0 0 (pA 339 b)) (F0 m 15 ls [])) {a1 : Int32} {a2 : Int32} {a3 : Int32} {M : Mem} {H : Heap} {locs : List Loc} {ls : Array Slot} (hf : b9_mark_0  rc n a1 a2 a3 M = some (r, M')) (hP : va_P z.1 vwCl (pw (xd z b) 339 b M) H) (hS : va_S (pA 339 b) s.heap H locs) (hl : lv_has ls 7 [(0, .ref (b + 25)), (1, .int a1), (2, .int a2), (3, .int a3)]) : W p l e rm9_mark s m args below meth c H locs 0 0 (MQ below (va_Qv (fun (M2 : Mem) => M2 = M') (fun M2 t => va_P z.1 vwCl (pw (xd z b) 339 b M2) t.heap) (pA 339 b)) args s 0 0 (pA 339 b)) (F0 m 0 ls []) := by
  have hx := C.1.1
  have hb := C.1.2.1
  unfold b9_mark_0 at hf
  refine lv_iload_n hx hb dX9_mark_0 rfl (lv_at hl 2 rfl) ?_
  refine lv_iload_n hx hb dX9_mark_1 rfl (lv_at hl 1 rfl) ?_
  refine lv_isub hx hb dX9_mark_2 ?_
  refine lv_bipush (v := (24 : Int32)) hx hb dX9_mark_3 (by decide) ?_
  obtain ⟨r1, M2, h3, hf⟩ := bnd_s hf
  refine pcSi (As := [.int (a2 - a1), .int (24 : Int32)]) C hP hS (cZJ9_floorMod_7cf53  h3) yZJ9_floorMod_7cf53_w g_714 rfl rfl rfl ⟨Nat.le_of_ble_eq_true rfl, Nat.le_of_ble_eq_true rfl⟩ hl.1 rfl (Nat.le_of_ble_eq_true rfl) dX9_mark_5 ⟨Nat.le_of_ble_eq_true rfl, Nat.le_of_ble_eq_true rfl⟩ (fun H locs hP hS => ?_)
  refine lv_iconst (v := (1 : Int32)) hx hb dX9_mark_8 (by decide) ?_
  refine lv_iadd hx hb dX9_mark_9 ?_
  refine lv_topi (fun v4 ev4 => ?_)
  replace hf := lt_c ev4 hf
  refine lv_istore (lv' := [(4, .int v4), (0, .ref (b + 25)), (1, .int a1), (2, .int a2), (3, .int a3)]) hx hb dX9_mark_10 hl (by decide) rfl (fun ls hl => ?_)
  refine lv_iconst (v := (0 : Int32)) hx hb dX9_mark_12 (by decide) ?_
  refine lv_istore (lv' := [(5, .int (0 : Int32)), (4, .int v4), (0, .ref (b + 25)), (1, .int a1), (2, .int a2), (3, .int a3)]) hx hb dX9_mark_13 hl (by decide) rfl (fun ls hl => ?_)
  exact w9_mark_15 (n := n)  C hr hk q15 hf hP hS (lv_sub hl [2, 3, 5, 1, 0] rfl)
set_option maxHeartbeats 4000000 in
set_option maxRecDepth 100000 in
theorem l9_mark {p : Program} {l : Launch} {e : Env} {s : State} {m : MethodId} {args : Array Value} {below : List Frame} {meth : Method} {c : Code} {z : Zt} {b : Nat}  (C : Cx p s m args c cX9_mark 7 RX9 z 339 b) (hr : meth.sig.returnType = none) (hk : meth.locks = false) {r : Unit} {M' : Mem} (n : Nat) : (∀ (i1 : Int32) (i3 : Int32) (i4 : Int32) (i5 : Int32) (M : Mem) (H : Heap) (locs : List Loc) (ls : Array Slot), (r9_mark  n) 15 [i1, i3, i4, i5] [] M = some (r, M') → va_P z.1 vwCl (pw (xd z b) 339 b M) H → va_S (pA 339 b) s.heap H locs → lv_has ls 7 [(0, .ref (b + 25)), (1, .int i1), (3, .int i3), (4, .int i4), (5, .int i5)] → W p l e rm9_mark s m args below meth c H locs 0 0 (MQ below (va_Qv (fun (M2 : Mem) => M2 = M') (fun M2 t => va_P z.1 vwCl (pw (xd z b) 339 b M2) t.heap) (pA 339 b)) args s 0 0 (pA 339 b)) (F0 m 15 ls [])) := by
  induction n with
  | zero => exact fun _ _ _ _ _ _ _ _ hf => (by cases hf)
  | succ n ih => exact fun _ _ _ _ _ _ _ _ hf hP hS hl => w9_mark_15 (n := n)  C hr hk ih ((e9_mark_15  n _ _ _ _ _).symm.trans hf) hP hS hl
theorem c9_mark {l : Launch} {z : Zt} {b n : Nat}  {a1 : Int32} {a2 : Int32} {a3 : Int32} {M M' : Mem} {r : Unit} (hf : f9_mark n  a1 a2 a3 M = some (r, M')) : CV l z (xd z b) 339 b yX9_mark cX9_mark 7 none rm9_mark [.ref (b + 25), .int a1, .int a2, .int a3] M M' :=
  CV.ofW (lv := [(0, .ref (b + 25)), (1, .int a1), (2, .int a2), (3, .int a3)]) (by decide) (Nat.le_of_ble_eq_true rfl) rfl (fun p e s m args below meth c ls C hr hk hP hS hl => w9_mark_0 (n := n)  C hr hk (l9_mark  C hr hk n) hf hP hS hl)

-- BronzeKing$Vigil.readLine(LBronzeKing$Tape;I)I
theorem dX9_readLine_0 : decode cX9_readLine 0 = .ok (.aload_n 0, 1) := by decide +kernel
theorem dX9_readLine_1 : decode cX9_readLine 1 = .ok (.aload_n 1, 1) := by decide +kernel
theorem dX9_readLine_2 : decode cX9_readLine 2 = .ok (.iload_n 2, 1) := by decide +kernel
theorem dX9_readLine_3 : decode cX9_readLine 3 = .ok (.invokevirtual 62, 3) := by decide +kernel
theorem dX9_readLine_6 : decode cX9_readLine 6 = .ok (.istore_n 3, 1) := by decide +kernel
theorem dX9_readLine_7 : decode cX9_readLine 7 = .ok (.iload_n 3, 1) := by decide +kernel
theorem dX9_readLine_8 : decode cX9_readLine 8 = .ok (.ifCond .ge 5, 3) := by decide +kernel
theorem dX9_readLine_11 : decode cX9_readLine 11 = .ok (.iload_n 3, 1) := by decide +kernel
theorem dX9_readLine_12 : decode cX9_readLine 12 = .ok (.ireturn, 1) := by decide +kernel
theorem dX9_readLine_13 : decode cX9_readLine 13 = .ok (.iload_n 3, 1) := by decide +kernel
theorem dX9_readLine_14 : decode cX9_readLine 14 = .ok (.istore 4, 2) := by decide +kernel
theorem dX9_readLine_16 : decode cX9_readLine 16 = .ok (.aload_n 1, 1) := by decide +kernel
theorem dX9_readLine_17 : decode cX9_readLine 17 = .ok (.aload_n 0, 1) := by decide +kernel
theorem dX9_readLine_18 : decode cX9_readLine 18 = .ok (.getfield 22, 3) := by decide +kernel
theorem dX9_readLine_21 : decode cX9_readLine 21 = .ok (.iload_n 2, 1) := by decide +kernel
theorem dX9_readLine_22 : decode cX9_readLine 22 = .ok (.invokevirtual 52, 3) := by decide +kernel
theorem dX9_readLine_25 : decode cX9_readLine 25 = .ok (.bipush 58, 2) := by decide +kernel
theorem dX9_readLine_27 : decode cX9_readLine 27 = .ok (.if_icmp .ne 29, 3) := by decide +kernel
theorem dX9_readLine_30 : decode cX9_readLine 30 = .ok (.aload_n 0, 1) := by decide +kernel
theorem dX9_readLine_31 : decode cX9_readLine 31 = .ok (.dup, 1) := by decide +kernel
theorem dX9_readLine_32 : decode cX9_readLine 32 = .ok (.getfield 22, 3) := by decide +kernel
theorem dX9_readLine_35 : decode cX9_readLine 35 = .ok (.iconst 1, 1) := by decide +kernel
theorem dX9_readLine_36 : decode cX9_readLine 36 = .ok (.iadd, 1) := by decide +kernel
theorem dX9_readLine_37 : decode cX9_readLine 37 = .ok (.putfield 22, 3) := by decide +kernel
theorem dX9_readLine_40 : decode cX9_readLine 40 = .ok (.aload_n 0, 1) := by decide +kernel
theorem dX9_readLine_41 : decode cX9_readLine 41 = .ok (.aload_n 1, 1) := by decide +kernel
theorem dX9_readLine_42 : decode cX9_readLine 42 = .ok (.iload_n 2, 1) := by decide +kernel
theorem dX9_readLine_43 : decode cX9_readLine 43 = .ok (.invokevirtual 62, 3) := by decide +kernel
theorem dX9_readLine_46 : decode cX9_readLine 46 = .ok (.istore 4, 2) := by decide +kernel
theorem dX9_readLine_48 : decode cX9_readLine 48 = .ok (.iload 4, 2) := by decide +kernel
theorem dX9_readLine_50 : decode cX9_readLine 50 = .ok (.ifCond .ge 6, 3) := by decide +kernel
theorem dX9_readLine_53 : decode cX9_readLine 53 = .ok (.iload 4, 2) := by decide +kernel
theorem dX9_readLine_55 : decode cX9_readLine 55 = .ok (.ireturn, 1) := by decide +kernel
theorem dX9_readLine_56 : decode cX9_readLine 56 = .ok (.aload_n 1, 1) := by decide +kernel
theorem dX9_readLine_57 : decode cX9_readLine 57 = .ok (.aload_n 0, 1) := by decide +kernel
theorem dX9_readLine_58 : decode cX9_readLine 58 = .ok (.getfield 22, 3) := by decide +kernel
theorem dX9_readLine_61 : decode cX9_readLine 61 = .ok (.iload_n 2, 1) := by decide +kernel
theorem dX9_readLine_62 : decode cX9_readLine 62 = .ok (.invokevirtual 52, 3) := by decide +kernel
theorem dX9_readLine_65 : decode cX9_readLine 65 = .ok (.istore 5, 2) := by decide +kernel
theorem dX9_readLine_67 : decode cX9_readLine 67 = .ok (.iload 5, 2) := by decide +kernel
theorem dX9_readLine_69 : decode cX9_readLine 69 = .ok (.bipush 45, 2) := by decide +kernel
theorem dX9_readLine_71 : decode cX9_readLine 71 = .ok (.if_icmp .eq 19, 3) := by decide +kernel
theorem dX9_readLine_74 : decode cX9_readLine 74 = .ok (.iload 5, 2) := by decide +kernel
theorem dX9_readLine_76 : decode cX9_readLine 76 = .ok (.bipush 63, 2) := by decide +kernel
theorem dX9_readLine_78 : decode cX9_readLine 78 = .ok (.if_icmp .eq 12, 3) := by decide +kernel
theorem dX9_readLine_81 : decode cX9_readLine 81 = .ok (.iconst 1, 1) := by decide +kernel
theorem dX9_readLine_82 : decode cX9_readLine 82 = .ok (.aload_n 0, 1) := by decide +kernel
theorem dX9_readLine_83 : decode cX9_readLine 83 = .ok (.getfield 22, 3) := by decide +kernel
theorem dX9_readLine_86 : decode cX9_readLine 86 = .ok (.invokestatic 56, 3) := by decide +kernel
theorem dX9_readLine_89 : decode cX9_readLine 89 = .ok (.ireturn, 1) := by decide +kernel
theorem dX9_readLine_90 : decode cX9_readLine 90 = .ok (.aload_n 0, 1) := by decide +kernel
theorem dX9_readLine_91 : decode cX9_readLine 91 = .ok (.dup, 1) := by decide +kernel
theorem dX9_readLine_92 : decode cX9_readLine 92 = .ok (.getfield 22, 3) := by decide +kernel
theorem dX9_readLine_95 : decode cX9_readLine 95 = .ok (.iconst 1, 1) := by decide +kernel
theorem dX9_readLine_96 : decode cX9_readLine 96 = .ok (.iadd, 1) := by decide +kernel
theorem dX9_readLine_97 : decode cX9_readLine 97 = .ok (.putfield 22, 3) := by decide +kernel
theorem dX9_readLine_100 : decode cX9_readLine 100 = .ok (.aload_n 0, 1) := by decide +kernel
theorem dX9_readLine_101 : decode cX9_readLine 101 = .ok (.iload_n 3, 1) := by decide +kernel
theorem dX9_readLine_102 : decode cX9_readLine 102 = .ok (.iload 4, 2) := by decide +kernel
theorem dX9_readLine_104 : decode cX9_readLine 104 = .ok (.iload 5, 2) := by decide +kernel
theorem dX9_readLine_106 : decode cX9_readLine 106 = .ok (.bipush 45, 2) := by decide +kernel
theorem dX9_readLine_108 : decode cX9_readLine 108 = .ok (.if_icmp .ne 7, 3) := by decide +kernel
theorem dX9_readLine_111 : decode cX9_readLine 111 = .ok (.iconst 1, 1) := by decide +kernel
theorem dX9_readLine_112 : decode cX9_readLine 112 = .ok (.goto 4, 3) := by decide +kernel
theorem dX9_readLine_115 : decode cX9_readLine 115 = .ok (.iconst 0, 1) := by decide +kernel
theorem dX9_readLine_116 : decode cX9_readLine 116 = .ok (.invokevirtual 65, 3) := by decide +kernel
theorem dX9_readLine_119 : decode cX9_readLine 119 = .ok (.iconst 0, 1) := by decide +kernel
theorem dX9_readLine_120 : decode cX9_readLine 120 = .ok (.ireturn, 1) := by decide +kernel
def b9_readLine_116 (rc : Nat → List Int32 → List Int64 → Mem → Option (Int32 × Mem)) (n : Nat) (s1 : Int32) (s2 : Int32) (s3 : Int32) (M : Mem) : Option (Int32 × Mem) :=
  bnd (f9_mark n s1 s2 s3 M) fun r24 M25 =>
  some ((0 : Int32), M25)
def b9_readLine_90 (rc : Nat → List Int32 → List Int64 → Mem → Option (Int32 × Mem)) (n : Nat) (i3 : Int32) (i4 : Int32) (i5 : Int32) (M : Mem) : Option (Int32 × Mem) :=
  lt (wI M 25 4 ((M.1 25 4) + (1 : Int32))) fun M22 =>
  (if i5 = (45 : Int32) then (
   b9_readLine_116  rc n i3 i4 (1 : Int32) M22)
  else (
   b9_readLine_116  rc n i3 i4 (0 : Int32) M22))
def b9_readLine_56 (rc : Nat → List Int32 → List Int64 → Mem → Option (Int32 × Mem)) (n : Nat) (i2 : Int32) (i3 : Int32) (i4 : Int32) (M : Mem) : Option (Int32 × Mem) :=
  bnd (f7_at n (M.1 25 4) i2 M) fun r14 M15 =>
  (if r14 = (45 : Int32) then (
   b9_readLine_90  rc n i3 i4 r14 M15)
  else (
   (if r14 = (63 : Int32) then (
    b9_readLine_90  rc n i3 i4 r14 M15)
   else (
    bnd (f11_faultAt n (1 : Int32) (M15.1 25 4) M15) fun r19 M20 =>
    some (r19, M20)))))
def b9_readLine_0 (rc : Nat → List Int32 → List Int64 → Mem → Option (Int32 × Mem)) (n : Nat) (a2 : Int32) (M : Mem) : Option (Int32 × Mem) :=
  bnd (f9_readHour n a2 M) fun r1 M2 =>
  (if 0 ≤ r1 then (
   bnd (f7_at n (M2.1 25 4) a2 M2) fun r5 M6 =>
   (if r5 = (58 : Int32) then (
    lt (wI M6 25 4 ((M6.1 25 4) + (1 : Int32))) fun M9 =>
    bnd (f9_readHour n a2 M9) fun r10 M11 =>
    (if 0 ≤ r10 then (
     b9_readLine_56  rc n a2 r1 r10 M11)
    else (
     some (r10, M11))))
   else (
    b9_readLine_56  rc n a2 r1 r1 M6)))
  else (
   some (r1, M2)))
def f9_readLine (n : Nat) (a2 : Int32) (M : Mem) : Option (Int32 × Mem) := b9_readLine_0 (fun _ _ _ _ => none) n a2 M
abbrev rm9_readLine : Room := { frames := 2, cells := 0, slots := 0, locals := 48 }
theorem y9_readLine_w : yV RX9 yX9_readLine cX9_readLine 6 (some .int) 2 := ⟨g_701, gp 17 rfl rfl, g_9, g_702, rfl, by decide, by decide, by decide +kernel⟩
set_option maxHeartbeats 4000000 in
set_option maxRecDepth 100000 in
theorem w9_readLine_116 {p : Program} {l : Launch} {e : Env} {s : State} {m : MethodId} {args : Array Value} {below : List Frame} {meth : Method} {c : Code} {z : Zt} {b : Nat}  (C : Cx p s m args c cX9_readLine 6 RX9 z 339 b) (hr : meth.sig.returnType = (some .int)) (hk : meth.locks = false) {r : Int32} {M' : Mem} {rc : Nat → List Int32 → List Int64 → Mem → Option (Int32 × Mem)} {n : Nat}  {s1 : Int32} {s2 : Int32} {s3 : Int32} {M : Mem} {H : Heap} {locs : List Loc} {ls : Array Slot} (hf : b9_readLine_116  rc n s1 s2 s3 M = some (r, M')) (hP : va_P z.1 vwCl (pw (xd z b) 339 b M) H) (hS : va_S (pA 339 b) s.heap H locs) (hl : lv_has ls 6 []) : W p l e rm9_readLine s m args below meth c H locs 0 0 (MQ below (va_Qi (fun (r' : Int32) (M2 : Mem) => r' = r ∧ M2 = M') (fun M2 t => va_P z.1 vwCl (pw (xd z b) 339 b M2) t.heap) (pA 339 b)) args s 0 0 (pA 339 b)) (F0 m 116 ls [.int s3, .int s2, .int s1, .ref (b + 25)]) := by
  have hx := C.1.1
  have hb := C.1.2.1
  unfold b9_readLine_116 at hf
  obtain ⟨r24, M25, h26, hf⟩ := bnd_s hf
  refine pcVv (As := [.int s1, .int s2, .int s3]) C hP hS (k := 25) (Nat.le_of_ble_eq_true rfl) (xd_25 _ _) rfl (c9_mark  h26) y9_mark_w g_710 rfl rfl rfl ⟨Nat.le_of_ble_eq_true rfl, Nat.le_of_ble_eq_true rfl⟩ hl.1 rfl (Nat.le_of_ble_eq_true rfl) dX9_readLine_116 ⟨Nat.le_of_ble_eq_true rfl, Nat.le_of_ble_eq_true rfl⟩ (fun H locs hP hS => ?_)
  refine lv_iconst (v := (0 : Int32)) hx hb dX9_readLine_119 (by decide) ?_
  exact prI C hr hk hP hS hf dX9_readLine_120
set_option maxHeartbeats 4000000 in
set_option maxRecDepth 100000 in
theorem w9_readLine_90 {p : Program} {l : Launch} {e : Env} {s : State} {m : MethodId} {args : Array Value} {below : List Frame} {meth : Method} {c : Code} {z : Zt} {b : Nat}  (C : Cx p s m args c cX9_readLine 6 RX9 z 339 b) (hr : meth.sig.returnType = (some .int)) (hk : meth.locks = false) {r : Int32} {M' : Mem} {rc : Nat → List Int32 → List Int64 → Mem → Option (Int32 × Mem)} {n : Nat}  {i3 : Int32} {i4 : Int32} {i5 : Int32} {M : Mem} {H : Heap} {locs : List Loc} {ls : Array Slot} (hf : b9_readLine_90  rc n i3 i4 i5 M = some (r, M')) (hP : va_P z.1 vwCl (pw (xd z b) 339 b M) H) (hS : va_S (pA 339 b) s.heap H locs) (hl : lv_has ls 6 [(0, .ref (b + 25)), (3, .int i3), (4, .int i4), (5, .int i5)]) : W p l e rm9_readLine s m args below meth c H locs 0 0 (MQ below (va_Qi (fun (r' : Int32) (M2 : Mem) => r' = r ∧ M2 = M') (fun M2 t => va_P z.1 vwCl (pw (xd z b) 339 b M2) t.heap) (pA 339 b)) args s 0 0 (pA 339 b)) (F0 m 90 ls []) := by
  have hx := C.1.1
  have hb := C.1.2.1
  unfold b9_readLine_90 at hf
  refine lv_aload_n hx hb dX9_readLine_90 rfl (lv_at hl 0 rfl) ?_
  refine lv_dup hx hb dX9_readLine_91 rfl ?_
  refine pg C hP (k := 25) (j := 4) (Nat.le_of_ble_eq_true rfl) (xd_25 _ _) rfl iw_9 (Nat.le_of_ble_eq_true rfl) g_220 rfl rfl dX9_readLine_92 ?_
  refine lv_iconst (v := (1 : Int32)) hx hb dX9_readLine_95 (by decide) ?_
  refine lv_iadd hx hb dX9_readLine_96 ?_
  refine ppI C hP hS (k := 25) (j := 4) (ty := .int) (Nat.le_of_ble_eq_true rfl) (xd_25 _ _) rfl iw_9 tyX9 tyX9_ok nmX9 (Nat.le_of_ble_eq_true rfl) g_220 rfl rfl (by decide +kernel) rfl rfl (Nat.le_of_ble_eq_true rfl) (xu_25_4 _ _ _) dX9_readLine_97 (fun M22 H locs eM22 hP hS => ?_)
  replace hf := lt_c eM22 hf
  refine lv_aload_n hx hb dX9_readLine_100 rfl (lv_at hl 0 rfl) ?_
  refine lv_iload_n hx hb dX9_readLine_101 rfl (lv_at hl 1 rfl) ?_
  refine lv_iload hx hb dX9_readLine_102 (lv_at hl 2 rfl) ?_
  refine lv_iload hx hb dX9_readLine_104 (lv_at hl 3 rfl) ?_
  refine lv_bipush (v := (45 : Int32)) hx hb dX9_readLine_106 (by decide) ?_
  refine lv_icmp_ne (tgt := 115) hx hb dX9_readLine_108 (by decide) (fun c23 => ?_) (fun c23 => ?_)
  · replace hf := ite_f c23 hf
    refine lv_iconst (v := (0 : Int32)) hx hb dX9_readLine_115 (by decide) ?_
    exact w9_readLine_116 (n := n)  C hr hk  hf hP hS (lv_sub hl [] rfl)
  · replace hf := ite_t c23 hf
    refine lv_iconst (v := (1 : Int32)) hx hb dX9_readLine_111 (by decide) ?_
    refine lv_goto (tgt := 116) hx hb dX9_readLine_112 (by decide) ?_
    exact w9_readLine_116 (n := n)  C hr hk  hf hP hS (lv_sub hl [] rfl)
set_option maxHeartbeats 4000000 in
set_option maxRecDepth 100000 in
theorem w9_readLine_56 {p : Program} {l : Launch} {e : Env} {s : State} {m : MethodId} {args : Array Value} {below : List Frame} {meth : Method} {c : Code} {z : Zt} {b : Nat}  (C : Cx p s m args c cX9_readLine 6 RX9 z 339 b) (hr : meth.sig.returnType = (some .int)) (hk : meth.locks = false) {r : Int32} {M' : Mem} {rc : Nat → List Int32 → List Int64 → Mem → Option (Int32 × Mem)} {n : Nat}  {i2 : Int32} {i3 : Int32} {i4 : Int32} {M : Mem} {H : Heap} {locs : List Loc} {ls : Array Slot} (hf : b9_readLine_56  rc n i2 i3 i4 M = some (r, M')) (hP : va_P z.1 vwCl (pw (xd z b) 339 b M) H) (hS : va_S (pA 339 b) s.heap H locs) (hl : lv_has ls 6 [(0, .ref (b + 25)), (1, .ref (b + 1)), (2, .int i2), (3, .int i3), (4, .int i4)]) : W p l e rm9_readLine s m args below meth c H locs 0 0 (MQ below (va_Qi (fun (r' : Int32) (M2 : Mem) => r' = r ∧ M2 = M') (fun M2 t => va_P z.1 vwCl (pw (xd z b) 339 b M2) t.heap) (pA 339 b)) args s 0 0 (pA 339 b)) (F0 m 56 ls []) := by
  have hx := C.1.1
  have hb := C.1.2.1
  unfold b9_readLine_56 at hf
  refine lv_aload_n hx hb dX9_readLine_56 rfl (lv_at hl 1 rfl) ?_
  refine lv_aload_n hx hb dX9_readLine_57 rfl (lv_at hl 0 rfl) ?_
  refine pg C hP (k := 25) (j := 4) (Nat.le_of_ble_eq_true rfl) (xd_25 _ _) rfl iw_9 (Nat.le_of_ble_eq_true rfl) g_220 rfl rfl dX9_readLine_58 ?_
  refine lv_iload_n hx hb dX9_readLine_61 rfl (lv_at hl 2 rfl) ?_
  obtain ⟨r14, M15, h16, hf⟩ := bnd_s hf
  refine pcVi (As := [.int (M.1 25 4), .int i2]) C hP hS (k := 1) (Nat.le_of_ble_eq_true rfl) (xd_1 _ _) rfl (c7_at  h16) y7_at_w g_707 rfl rfl rfl ⟨Nat.le_of_ble_eq_true rfl, Nat.le_of_ble_eq_true rfl⟩ hl.1 rfl (Nat.le_of_ble_eq_true rfl) dX9_readLine_62 ⟨Nat.le_of_ble_eq_true rfl, Nat.le_of_ble_eq_true rfl⟩ (fun H locs hP hS => ?_)
  refine lv_istore (lv' := [(5, .int r14), (0, .ref (b + 25)), (1, .ref (b + 1)), (2, .int i2), (3, .int i3), (4, .int i4)]) hx hb dX9_readLine_65 hl (by decide) rfl (fun ls hl => ?_)
  refine lv_iload hx hb dX9_readLine_67 (lv_at hl 0 rfl) ?_
  refine lv_bipush (v := (45 : Int32)) hx hb dX9_readLine_69 (by decide) ?_
  refine lv_icmp_eq (tgt := 90) hx hb dX9_readLine_71 (by decide) (fun c17 => ?_) (fun c17 => ?_)
  · replace hf := ite_t c17 hf
    exact w9_readLine_90 (n := n)  C hr hk  hf hP hS (lv_sub hl [1, 4, 5, 0] rfl)
  · replace hf := ite_f c17 hf
    refine lv_iload hx hb dX9_readLine_74 (lv_at hl 0 rfl) ?_
    refine lv_bipush (v := (63 : Int32)) hx hb dX9_readLine_76 (by decide) ?_
    refine lv_icmp_eq (tgt := 90) hx hb dX9_readLine_78 (by decide) (fun c18 => ?_) (fun c18 => ?_)
    · replace hf := ite_t c18 hf
      exact w9_readLine_90 (n := n)  C hr hk  hf hP hS (lv_sub hl [1, 4, 5, 0] rfl)
    · replace hf := ite_f c18 hf
      refine lv_iconst (v := (1 : Int32)) hx hb dX9_readLine_81 (by decide) ?_
      refine lv_aload_n hx hb dX9_readLine_82 rfl (lv_at hl 1 rfl) ?_
      refine pg C hP (k := 25) (j := 4) (Nat.le_of_ble_eq_true rfl) (xd_25 _ _) rfl iw_9 (Nat.le_of_ble_eq_true rfl) g_220 rfl rfl dX9_readLine_83 ?_
      obtain ⟨r19, M20, h21, hf⟩ := bnd_s hf
      refine pcTi (As := [.int (1 : Int32), .int (M15.1 25 4)]) C hP hS (c11_faultAt  h21) y11_faultAt_w g_709 rfl rfl rfl ⟨Nat.le_of_ble_eq_true rfl, Nat.le_of_ble_eq_true rfl⟩ hl.1 rfl (Nat.le_of_ble_eq_true rfl) dX9_readLine_86 ⟨Nat.le_of_ble_eq_true rfl, Nat.le_of_ble_eq_true rfl⟩ (fun H locs hP hS => ?_)
      exact prI C hr hk hP hS hf dX9_readLine_89
set_option maxHeartbeats 4000000 in
set_option maxRecDepth 100000 in
theorem w9_readLine_0 {p : Program} {l : Launch} {e : Env} {s : State} {m : MethodId} {args : Array Value} {below : List Frame} {meth : Method} {c : Code} {z : Zt} {b : Nat}  (C : Cx p s m args c cX9_readLine 6 RX9 z 339 b) (hr : meth.sig.returnType = (some .int)) (hk : meth.locks = false) {r : Int32} {M' : Mem} {rc : Nat → List Int32 → List Int64 → Mem → Option (Int32 × Mem)} {n : Nat}  {a2 : Int32} {M : Mem} {H : Heap} {locs : List Loc} {ls : Array Slot} (hf : b9_readLine_0  rc n a2 M = some (r, M')) (hP : va_P z.1 vwCl (pw (xd z b) 339 b M) H) (hS : va_S (pA 339 b) s.heap H locs) (hl : lv_has ls 6 [(0, .ref (b + 25)), (1, .ref (b + 1)), (2, .int a2)]) : W p l e rm9_readLine s m args below meth c H locs 0 0 (MQ below (va_Qi (fun (r' : Int32) (M2 : Mem) => r' = r ∧ M2 = M') (fun M2 t => va_P z.1 vwCl (pw (xd z b) 339 b M2) t.heap) (pA 339 b)) args s 0 0 (pA 339 b)) (F0 m 0 ls []) := by
  have hx := C.1.1
  have hb := C.1.2.1
  unfold b9_readLine_0 at hf
  refine lv_aload_n hx hb dX9_readLine_0 rfl (lv_at hl 0 rfl) ?_
  refine lv_aload_n hx hb dX9_readLine_1 rfl (lv_at hl 1 rfl) ?_
  refine lv_iload_n hx hb dX9_readLine_2 rfl (lv_at hl 2 rfl) ?_
  obtain ⟨r1, M2, h3, hf⟩ := bnd_s hf
  refine pcVi (As := [.ref (b + 1), .int a2]) C hP hS (k := 25) (Nat.le_of_ble_eq_true rfl) (xd_25 _ _) rfl (c9_readHour  h3) y9_readHour_w g_703 rfl rfl rfl ⟨Nat.le_of_ble_eq_true rfl, Nat.le_of_ble_eq_true rfl⟩ hl.1 rfl (Nat.le_of_ble_eq_true rfl) dX9_readLine_3 ⟨Nat.le_of_ble_eq_true rfl, Nat.le_of_ble_eq_true rfl⟩ (fun H locs hP hS => ?_)
  refine lv_istore_n (lv' := [(3, .int r1), (0, .ref (b + 25)), (1, .ref (b + 1)), (2, .int a2)]) hx hb dX9_readLine_6 rfl hl (by decide) rfl (fun ls hl => ?_)
  refine lv_iload_n hx hb dX9_readLine_7 rfl (lv_at hl 0 rfl) ?_
  refine lv_if_ge (tgt := 13) hx hb dX9_readLine_8 (by decide) (fun c4 => ?_) (fun c4 => ?_)
  · replace hf := ite_t c4 hf
    refine lv_iload_n hx hb dX9_readLine_13 rfl (lv_at hl 0 rfl) ?_
    refine lv_istore (lv' := [(4, .int r1), (3, .int r1), (0, .ref (b + 25)), (1, .ref (b + 1)), (2, .int a2)]) hx hb dX9_readLine_14 hl (by decide) rfl (fun ls hl => ?_)
    refine lv_aload_n hx hb dX9_readLine_16 rfl (lv_at hl 3 rfl) ?_
    refine lv_aload_n hx hb dX9_readLine_17 rfl (lv_at hl 2 rfl) ?_
    refine pg C hP (k := 25) (j := 4) (Nat.le_of_ble_eq_true rfl) (xd_25 _ _) rfl iw_9 (Nat.le_of_ble_eq_true rfl) g_220 rfl rfl dX9_readLine_18 ?_
    refine lv_iload_n hx hb dX9_readLine_21 rfl (lv_at hl 4 rfl) ?_
    obtain ⟨r5, M6, h7, hf⟩ := bnd_s hf
    refine pcVi (As := [.int (M2.1 25 4), .int a2]) C hP hS (k := 1) (Nat.le_of_ble_eq_true rfl) (xd_1 _ _) rfl (c7_at  h7) y7_at_w g_707 rfl rfl rfl ⟨Nat.le_of_ble_eq_true rfl, Nat.le_of_ble_eq_true rfl⟩ hl.1 rfl (Nat.le_of_ble_eq_true rfl) dX9_readLine_22 ⟨Nat.le_of_ble_eq_true rfl, Nat.le_of_ble_eq_true rfl⟩ (fun H locs hP hS => ?_)
    refine lv_bipush (v := (58 : Int32)) hx hb dX9_readLine_25 (by decide) ?_
    refine lv_icmp_ne (tgt := 56) hx hb dX9_readLine_27 (by decide) (fun c8 => ?_) (fun c8 => ?_)
    · replace hf := ite_f c8 hf
      exact w9_readLine_56 (n := n)  C hr hk  hf hP hS (lv_sub hl [2, 3, 4, 1, 0] rfl)
    · replace hf := ite_t c8 hf
      refine lv_aload_n hx hb dX9_readLine_30 rfl (lv_at hl 2 rfl) ?_
      refine lv_dup hx hb dX9_readLine_31 rfl ?_
      refine pg C hP (k := 25) (j := 4) (Nat.le_of_ble_eq_true rfl) (xd_25 _ _) rfl iw_9 (Nat.le_of_ble_eq_true rfl) g_220 rfl rfl dX9_readLine_32 ?_
      refine lv_iconst (v := (1 : Int32)) hx hb dX9_readLine_35 (by decide) ?_
      refine lv_iadd hx hb dX9_readLine_36 ?_
      refine ppI C hP hS (k := 25) (j := 4) (ty := .int) (Nat.le_of_ble_eq_true rfl) (xd_25 _ _) rfl iw_9 tyX9 tyX9_ok nmX9 (Nat.le_of_ble_eq_true rfl) g_220 rfl rfl (by decide +kernel) rfl rfl (Nat.le_of_ble_eq_true rfl) (xu_25_4 _ _ _) dX9_readLine_37 (fun M9 H locs eM9 hP hS => ?_)
      replace hf := lt_c eM9 hf
      refine lv_aload_n hx hb dX9_readLine_40 rfl (lv_at hl 2 rfl) ?_
      refine lv_aload_n hx hb dX9_readLine_41 rfl (lv_at hl 3 rfl) ?_
      refine lv_iload_n hx hb dX9_readLine_42 rfl (lv_at hl 4 rfl) ?_
      obtain ⟨r10, M11, h12, hf⟩ := bnd_s hf
      refine pcVi (As := [.ref (b + 1), .int a2]) C hP hS (k := 25) (Nat.le_of_ble_eq_true rfl) (xd_25 _ _) rfl (c9_readHour  h12) y9_readHour_w g_703 rfl rfl rfl ⟨Nat.le_of_ble_eq_true rfl, Nat.le_of_ble_eq_true rfl⟩ hl.1 rfl (Nat.le_of_ble_eq_true rfl) dX9_readLine_43 ⟨Nat.le_of_ble_eq_true rfl, Nat.le_of_ble_eq_true rfl⟩ (fun H locs hP hS => ?_)
      refine lv_istore (lv' := [(4, .int r10), (3, .int r1), (0, .ref (b + 25)), (1, .ref (b + 1)), (2, .int a2)]) hx hb dX9_readLine_46 hl (by decide) rfl (fun ls hl => ?_)
      refine lv_iload hx hb dX9_readLine_48 (lv_at hl 0 rfl) ?_
      refine lv_if_ge (tgt := 56) hx hb dX9_readLine_50 (by decide) (fun c13 => ?_) (fun c13 => ?_)
      · replace hf := ite_t c13 hf
        exact w9_readLine_56 (n := n)  C hr hk  hf hP hS (lv_sub hl [2, 3, 4, 1, 0] rfl)
      · replace hf := ite_f c13 hf
        refine lv_iload hx hb dX9_readLine_53 (lv_at hl 0 rfl) ?_
        exact prI C hr hk hP hS hf dX9_readLine_55
  · replace hf := ite_f c4 hf
    refine lv_iload_n hx hb dX9_readLine_11 rfl (lv_at hl 0 rfl) ?_
    exact prI C hr hk hP hS hf dX9_readLine_12
theorem c9_readLine {l : Launch} {z : Zt} {b n : Nat}  {a2 : Int32} {M M' : Mem} {r : Int32} (hf : f9_readLine n  a2 M = some (r, M')) : CI l z (xd z b) 339 b yX9_readLine cX9_readLine 6 (some .int) rm9_readLine [.ref (b + 25), .ref (b + 1), .int a2] M M' r :=
  CI.ofW (lv := [(0, .ref (b + 25)), (1, .ref (b + 1)), (2, .int a2)]) (by decide) (Nat.le_of_ble_eq_true rfl) rfl (fun p e s m args below meth c ls C hr hk hP hS hl => w9_readLine_0 (n := n)  C hr hk  hf hP hS hl)

-- BronzeKing$Vigil.read(LBronzeKing$Tape;I)I
theorem dX9_read_0 : decode cX9_read 0 = .ok (.aload_n 0, 1) := by decide +kernel
theorem dX9_read_1 : decode cX9_read 1 = .ok (.aload_n 0, 1) := by decide +kernel
theorem dX9_read_2 : decode cX9_read 2 = .ok (.getfield 15, 3) := by decide +kernel
theorem dX9_read_5 : decode cX9_read 5 = .ok (.putfield 19, 3) := by decide +kernel
theorem dX9_read_8 : decode cX9_read 8 = .ok (.aload_n 0, 1) := by decide +kernel
theorem dX9_read_9 : decode cX9_read 9 = .ok (.iconst 0, 1) := by decide +kernel
theorem dX9_read_10 : decode cX9_read 10 = .ok (.putfield 22, 3) := by decide +kernel
theorem dX9_read_13 : decode cX9_read 13 = .ok (.iconst 1, 1) := by decide +kernel
theorem dX9_read_14 : decode cX9_read 14 = .ok (.istore_n 3, 1) := by decide +kernel
theorem dX9_read_15 : decode cX9_read 15 = .ok (.iload_n 3, 1) := by decide +kernel
theorem dX9_read_16 : decode cX9_read 16 = .ok (.bipush 24, 2) := by decide +kernel
theorem dX9_read_18 : decode cX9_read 18 = .ok (.if_icmp .gt 76, 3) := by decide +kernel
theorem dX9_read_21 : decode cX9_read 21 = .ok (.aload_n 0, 1) := by decide +kernel
theorem dX9_read_22 : decode cX9_read 22 = .ok (.aload_n 1, 1) := by decide +kernel
theorem dX9_read_23 : decode cX9_read 23 = .ok (.iload_n 2, 1) := by decide +kernel
theorem dX9_read_24 : decode cX9_read 24 = .ok (.invokevirtual 48, 3) := by decide +kernel
theorem dX9_read_27 : decode cX9_read 27 = .ok (.istore 4, 2) := by decide +kernel
theorem dX9_read_29 : decode cX9_read 29 = .ok (.iload 4, 2) := by decide +kernel
theorem dX9_read_31 : decode cX9_read 31 = .ok (.ifCond .eq 6, 3) := by decide +kernel
theorem dX9_read_34 : decode cX9_read 34 = .ok (.iload 4, 2) := by decide +kernel
theorem dX9_read_36 : decode cX9_read 36 = .ok (.ireturn, 1) := by decide +kernel
theorem dX9_read_37 : decode cX9_read 37 = .ok (.aload_n 0, 1) := by decide +kernel
theorem dX9_read_38 : decode cX9_read 38 = .ok (.getfield 22, 3) := by decide +kernel
theorem dX9_read_41 : decode cX9_read 41 = .ok (.iload_n 2, 1) := by decide +kernel
theorem dX9_read_42 : decode cX9_read 42 = .ok (.if_icmp .lt 13, 3) := by decide +kernel
theorem dX9_read_45 : decode cX9_read 45 = .ok (.aload_n 0, 1) := by decide +kernel
theorem dX9_read_46 : decode cX9_read 46 = .ok (.aload_n 0, 1) := by decide +kernel
theorem dX9_read_47 : decode cX9_read 47 = .ok (.getfield 19, 3) := by decide +kernel
theorem dX9_read_50 : decode cX9_read 50 = .ok (.putfield 15, 3) := by decide +kernel
theorem dX9_read_53 : decode cX9_read 53 = .ok (.iload_n 3, 1) := by decide +kernel
theorem dX9_read_54 : decode cX9_read 54 = .ok (.ireturn, 1) := by decide +kernel
theorem dX9_read_55 : decode cX9_read 55 = .ok (.aload_n 1, 1) := by decide +kernel
theorem dX9_read_56 : decode cX9_read 56 = .ok (.aload_n 0, 1) := by decide +kernel
theorem dX9_read_57 : decode cX9_read 57 = .ok (.getfield 22, 3) := by decide +kernel
theorem dX9_read_60 : decode cX9_read 60 = .ok (.iload_n 2, 1) := by decide +kernel
theorem dX9_read_61 : decode cX9_read 61 = .ok (.invokevirtual 52, 3) := by decide +kernel
theorem dX9_read_64 : decode cX9_read 64 = .ok (.bipush 59, 2) := by decide +kernel
theorem dX9_read_66 : decode cX9_read 66 = .ok (.if_icmp .eq 12, 3) := by decide +kernel
theorem dX9_read_69 : decode cX9_read 69 = .ok (.iconst 1, 1) := by decide +kernel
theorem dX9_read_70 : decode cX9_read 70 = .ok (.aload_n 0, 1) := by decide +kernel
theorem dX9_read_71 : decode cX9_read 71 = .ok (.getfield 22, 3) := by decide +kernel
theorem dX9_read_74 : decode cX9_read 74 = .ok (.invokestatic 56, 3) := by decide +kernel
theorem dX9_read_77 : decode cX9_read 77 = .ok (.ireturn, 1) := by decide +kernel
theorem dX9_read_78 : decode cX9_read 78 = .ok (.aload_n 0, 1) := by decide +kernel
theorem dX9_read_79 : decode cX9_read 79 = .ok (.dup, 1) := by decide +kernel
theorem dX9_read_80 : decode cX9_read 80 = .ok (.getfield 22, 3) := by decide +kernel
theorem dX9_read_83 : decode cX9_read 83 = .ok (.iconst 1, 1) := by decide +kernel
theorem dX9_read_84 : decode cX9_read 84 = .ok (.iadd, 1) := by decide +kernel
theorem dX9_read_85 : decode cX9_read 85 = .ok (.putfield 22, 3) := by decide +kernel
theorem dX9_read_88 : decode cX9_read 88 = .ok (.iinc 3 1, 3) := by decide +kernel
theorem dX9_read_91 : decode cX9_read 91 = .ok (.goto (-76), 3) := by decide +kernel
theorem dX9_read_94 : decode cX9_read 94 = .ok (.aload_n 1, 1) := by decide +kernel
theorem dX9_read_95 : decode cX9_read 95 = .ok (.aload_n 0, 1) := by decide +kernel
theorem dX9_read_96 : decode cX9_read 96 = .ok (.getfield 22, 3) := by decide +kernel
theorem dX9_read_99 : decode cX9_read 99 = .ok (.iload_n 2, 1) := by decide +kernel
theorem dX9_read_100 : decode cX9_read 100 = .ok (.invokevirtual 52, 3) := by decide +kernel
theorem dX9_read_103 : decode cX9_read 103 = .ok (.invokestatic 59, 3) := by decide +kernel
theorem dX9_read_106 : decode cX9_read 106 = .ok (.ifCond .eq 7, 3) := by decide +kernel
theorem dX9_read_109 : decode cX9_read 109 = .ok (.iconst 4, 1) := by decide +kernel
theorem dX9_read_110 : decode cX9_read 110 = .ok (.goto 4, 3) := by decide +kernel
theorem dX9_read_113 : decode cX9_read 113 = .ok (.iconst 1, 1) := by decide +kernel
theorem dX9_read_114 : decode cX9_read 114 = .ok (.aload_n 0, 1) := by decide +kernel
theorem dX9_read_115 : decode cX9_read 115 = .ok (.getfield 22, 3) := by decide +kernel
theorem dX9_read_118 : decode cX9_read 118 = .ok (.invokestatic 56, 3) := by decide +kernel
theorem dX9_read_121 : decode cX9_read 121 = .ok (.ireturn, 1) := by decide +kernel
def b9_read_114 (rc : Nat → List Int32 → List Int64 → Mem → Option (Int32 × Mem)) (n : Nat) (s0 : Int32) (M : Mem) : Option (Int32 × Mem) :=
  bnd (f11_faultAt n s0 (M.1 25 4) M) fun r26 M27 =>
  some (r26, M27)
def b9_read_15 (rc : Nat → List Int32 → List Int64 → Mem → Option (Int32 × Mem)) (n : Nat) (i2 : Int32) (i3 : Int32) (M : Mem) : Option (Int32 × Mem) :=
  (if (24 : Int32) < i3 then (
   bnd (f7_at n (M.1 25 4) i2 M) fun r4 M5 =>
   bnd (f11_isDigit n r4 M5) fun r7 M8 =>
   (if r7 = 0 then (
    b9_read_114  rc n (1 : Int32) M8)
   else (
    b9_read_114  rc n (4 : Int32) M8)))
  else (
   bnd (f9_readLine n i2 M) fun r11 M12 =>
   (if r11 = 0 then (
    (if (M12.1 25 4) < i2 then (
     bnd (f7_at n (M12.1 25 4) i2 M12) fun r16 M17 =>
     (if r16 = (59 : Int32) then (
      lt (wI M17 25 4 ((M17.1 25 4) + (1 : Int32))) fun M20 =>
      lt (i3 + (1 : Int32)) fun v21 =>
      rc 15 [i2, v21] [] M20)
     else (
      bnd (f11_faultAt n (1 : Int32) (M17.1 25 4) M17) fun r22 M23 =>
      some (r22, M23))))
    else (
     lt (wI M12 25 2 (M12.1 25 3)) fun M25 =>
     some (i3, M25))))
   else (
    some (r11, M12)))))
def b9_read_0 (rc : Nat → List Int32 → List Int64 → Mem → Option (Int32 × Mem)) (n : Nat) (a2 : Int32) (M : Mem) : Option (Int32 × Mem) :=
  lt (wI M 25 3 (M.1 25 2)) fun M1 =>
  lt (wI M1 25 4 (0 : Int32)) fun M2 =>
  b9_read_15  rc n a2 (1 : Int32) M2
def r9_read : Nat → Nat → List Int32 → List Int64 → Mem → Option (Int32 × Mem)
  | 0 => fun _ _ _ _ => none
  | n + 1 => fun pc li lj M =>
    if pc = 15 then (match li, lj with | [i2, i3], [] => b9_read_15  (r9_read  n) n i2 i3 M | _, _ => none) else
    none
theorem e9_read_15  (n : Nat) (i2 : Int32) (i3 : Int32) (M : Mem) : r9_read  (n + 1) 15 [i2, i3] [] M = b9_read_15  (r9_read  n) n i2 i3 M := by
  rw [r9_read]
  simp
def f9_read (n : Nat) (a2 : Int32) (M : Mem) : Option (Int32 × Mem) := b9_read_0 (r9_read n) n a2 M
abbrev rm9_read : Room := { frames := 3, cells := 0, slots := 0, locals := 73 }
theorem y9_read_w : yV RX9 yX9_read cX9_read 5 (some .int) 2 := ⟨g_696, g_697, g_9, g_698, rfl, by decide, by decide, by decide +kernel⟩
set_option maxHeartbeats 4000000 in
set_option maxRecDepth 100000 in
theorem w9_read_114 {p : Program} {l : Launch} {e : Env} {s : State} {m : MethodId} {args : Array Value} {below : List Frame} {meth : Method} {c : Code} {z : Zt} {b : Nat}  (C : Cx p s m args c cX9_read 5 RX9 z 339 b) (hr : meth.sig.returnType = (some .int)) (hk : meth.locks = false) {r : Int32} {M' : Mem} {rc : Nat → List Int32 → List Int64 → Mem → Option (Int32 × Mem)} {n : Nat} (q15 : ∀ (i2 : Int32) (i3 : Int32) (M : Mem) (H : Heap) (locs : List Loc) (ls : Array Slot), rc 15 [i2, i3] [] M = some (r, M') → va_P z.1 vwCl (pw (xd z b) 339 b M) H → va_S (pA 339 b) s.heap H locs → lv_has ls 5 [(0, .ref (b + 25)), (1, .ref (b + 1)), (2, .int i2), (3, .int i3)] → W p l e rm9_read s m args below meth c H locs 0 0 (MQ below (va_Qi (fun (r' : Int32) (M2 : Mem) => r' = r ∧ M2 = M') (fun M2 t => va_P z.1 vwCl (pw (xd z b) 339 b M2) t.heap) (pA 339 b)) args s 0 0 (pA 339 b)) (F0 m 15 ls [])) {s0 : Int32} {M : Mem} {H : Heap} {locs : List Loc} {ls : Array Slot} (hf : b9_read_114  rc n s0 M = some (r, M')) (hP : va_P z.1 vwCl (pw (xd z b) 339 b M) H) (hS : va_S (pA 339 b) s.heap H locs) (hl : lv_has ls 5 [(0, .ref (b + 25))]) : W p l e rm9_read s m args below meth c H locs 0 0 (MQ below (va_Qi (fun (r' : Int32) (M2 : Mem) => r' = r ∧ M2 = M') (fun M2 t => va_P z.1 vwCl (pw (xd z b) 339 b M2) t.heap) (pA 339 b)) args s 0 0 (pA 339 b)) (F0 m 114 ls [.int s0]) := by
  have hx := C.1.1
  have hb := C.1.2.1
  unfold b9_read_114 at hf
  refine lv_aload_n hx hb dX9_read_114 rfl (lv_at hl 0 rfl) ?_
  refine pg C hP (k := 25) (j := 4) (Nat.le_of_ble_eq_true rfl) (xd_25 _ _) rfl iw_9 (Nat.le_of_ble_eq_true rfl) g_220 rfl rfl dX9_read_115 ?_
  obtain ⟨r26, M27, h28, hf⟩ := bnd_s hf
  refine pcTi (As := [.int s0, .int (M.1 25 4)]) C hP hS (c11_faultAt  h28) y11_faultAt_w g_709 rfl rfl rfl ⟨Nat.le_of_ble_eq_true rfl, Nat.le_of_ble_eq_true rfl⟩ hl.1 rfl (Nat.le_of_ble_eq_true rfl) dX9_read_118 ⟨Nat.le_of_ble_eq_true rfl, Nat.le_of_ble_eq_true rfl⟩ (fun H locs hP hS => ?_)
  exact prI C hr hk hP hS hf dX9_read_121
set_option maxHeartbeats 4000000 in
set_option maxRecDepth 100000 in
theorem w9_read_15 {p : Program} {l : Launch} {e : Env} {s : State} {m : MethodId} {args : Array Value} {below : List Frame} {meth : Method} {c : Code} {z : Zt} {b : Nat}  (C : Cx p s m args c cX9_read 5 RX9 z 339 b) (hr : meth.sig.returnType = (some .int)) (hk : meth.locks = false) {r : Int32} {M' : Mem} {rc : Nat → List Int32 → List Int64 → Mem → Option (Int32 × Mem)} {n : Nat} (q15 : ∀ (i2 : Int32) (i3 : Int32) (M : Mem) (H : Heap) (locs : List Loc) (ls : Array Slot), rc 15 [i2, i3] [] M = some (r, M') → va_P z.1 vwCl (pw (xd z b) 339 b M) H → va_S (pA 339 b) s.heap H locs → lv_has ls 5 [(0, .ref (b + 25)), (1, .ref (b + 1)), (2, .int i2), (3, .int i3)] → W p l e rm9_read s m args below meth c H locs 0 0 (MQ below (va_Qi (fun (r' : Int32) (M2 : Mem) => r' = r ∧ M2 = M') (fun M2 t => va_P z.1 vwCl (pw (xd z b) 339 b M2) t.heap) (pA 339 b)) args s 0 0 (pA 339 b)) (F0 m 15 ls [])) {i2 : Int32} {i3 : Int32} {M : Mem} {H : Heap} {locs : List Loc} {ls : Array Slot} (hf : b9_read_15  rc n i2 i3 M = some (r, M')) (hP : va_P z.1 vwCl (pw (xd z b) 339 b M) H) (hS : va_S (pA 339 b) s.heap H locs) (hl : lv_has ls 5 [(0, .ref (b + 25)), (1, .ref (b + 1)), (2, .int i2), (3, .int i3)]) : W p l e rm9_read s m args below meth c H locs 0 0 (MQ below (va_Qi (fun (r' : Int32) (M2 : Mem) => r' = r ∧ M2 = M') (fun M2 t => va_P z.1 vwCl (pw (xd z b) 339 b M2) t.heap) (pA 339 b)) args s 0 0 (pA 339 b)) (F0 m 15 ls []) := by
  have hx := C.1.1
  have hb := C.1.2.1
  unfold b9_read_15 at hf
  refine lv_iload_n hx hb dX9_read_15 rfl (lv_at hl 3 rfl) ?_
  refine lv_bipush (v := (24 : Int32)) hx hb dX9_read_16 (by decide) ?_
  refine lv_icmp_gt (tgt := 94) hx hb dX9_read_18 (by decide) (fun c3 => ?_) (fun c3 => ?_)
  · replace hf := ite_t c3 hf
    refine lv_aload_n hx hb dX9_read_94 rfl (lv_at hl 1 rfl) ?_
    refine lv_aload_n hx hb dX9_read_95 rfl (lv_at hl 0 rfl) ?_
    refine pg C hP (k := 25) (j := 4) (Nat.le_of_ble_eq_true rfl) (xd_25 _ _) rfl iw_9 (Nat.le_of_ble_eq_true rfl) g_220 rfl rfl dX9_read_96 ?_
    refine lv_iload_n hx hb dX9_read_99 rfl (lv_at hl 2 rfl) ?_
    obtain ⟨r4, M5, h6, hf⟩ := bnd_s hf
    refine pcVi (As := [.int (M.1 25 4), .int i2]) C hP hS (k := 1) (Nat.le_of_ble_eq_true rfl) (xd_1 _ _) rfl (c7_at  h6) y7_at_w g_707 rfl rfl rfl ⟨Nat.le_of_ble_eq_true rfl, Nat.le_of_ble_eq_true rfl⟩ hl.1 rfl (Nat.le_of_ble_eq_true rfl) dX9_read_100 ⟨Nat.le_of_ble_eq_true rfl, Nat.le_of_ble_eq_true rfl⟩ (fun H locs hP hS => ?_)
    obtain ⟨r7, M8, h9, hf⟩ := bnd_s hf
    refine pcTi (As := [.int r4]) C hP hS (c11_isDigit  h9) y11_isDigit_w g_708 rfl rfl rfl ⟨Nat.le_of_ble_eq_true rfl, Nat.le_of_ble_eq_true rfl⟩ hl.1 rfl (Nat.le_of_ble_eq_true rfl) dX9_read_103 ⟨Nat.le_of_ble_eq_true rfl, Nat.le_of_ble_eq_true rfl⟩ (fun H locs hP hS => ?_)
    refine lv_if_eq (tgt := 113) hx hb dX9_read_106 (by decide) (fun c10 => ?_) (fun c10 => ?_)
    · replace hf := ite_t c10 hf
      refine lv_iconst (v := (1 : Int32)) hx hb dX9_read_113 (by decide) ?_
      exact w9_read_114 (n := n)  C hr hk q15 hf hP hS (lv_sub hl [0] rfl)
    · replace hf := ite_f c10 hf
      refine lv_iconst (v := (4 : Int32)) hx hb dX9_read_109 (by decide) ?_
      refine lv_goto (tgt := 114) hx hb dX9_read_110 (by decide) ?_
      exact w9_read_114 (n := n)  C hr hk q15 hf hP hS (lv_sub hl [0] rfl)
  · replace hf := ite_f c3 hf
    refine lv_aload_n hx hb dX9_read_21 rfl (lv_at hl 0 rfl) ?_
    refine lv_aload_n hx hb dX9_read_22 rfl (lv_at hl 1 rfl) ?_
    refine lv_iload_n hx hb dX9_read_23 rfl (lv_at hl 2 rfl) ?_
    obtain ⟨r11, M12, h13, hf⟩ := bnd_s hf
    refine pcVi (As := [.ref (b + 1), .int i2]) C hP hS (k := 25) (Nat.le_of_ble_eq_true rfl) (xd_25 _ _) rfl (c9_readLine  h13) y9_readLine_w g_699 rfl rfl rfl ⟨Nat.le_of_ble_eq_true rfl, Nat.le_of_ble_eq_true rfl⟩ hl.1 rfl (Nat.le_of_ble_eq_true rfl) dX9_read_24 ⟨Nat.le_of_ble_eq_true rfl, Nat.le_of_ble_eq_true rfl⟩ (fun H locs hP hS => ?_)
    refine lv_istore (lv' := [(4, .int r11), (0, .ref (b + 25)), (1, .ref (b + 1)), (2, .int i2), (3, .int i3)]) hx hb dX9_read_27 hl (by decide) rfl (fun ls hl => ?_)
    refine lv_iload hx hb dX9_read_29 (lv_at hl 0 rfl) ?_
    refine lv_if_eq (tgt := 37) hx hb dX9_read_31 (by decide) (fun c14 => ?_) (fun c14 => ?_)
    · replace hf := ite_t c14 hf
      refine lv_aload_n hx hb dX9_read_37 rfl (lv_at hl 1 rfl) ?_
      refine pg C hP (k := 25) (j := 4) (Nat.le_of_ble_eq_true rfl) (xd_25 _ _) rfl iw_9 (Nat.le_of_ble_eq_true rfl) g_220 rfl rfl dX9_read_38 ?_
      refine lv_iload_n hx hb dX9_read_41 rfl (lv_at hl 3 rfl) ?_
      refine lv_icmp_lt (tgt := 55) hx hb dX9_read_42 (by decide) (fun c15 => ?_) (fun c15 => ?_)
      · replace hf := ite_t c15 hf
        refine lv_aload_n hx hb dX9_read_55 rfl (lv_at hl 2 rfl) ?_
        refine lv_aload_n hx hb dX9_read_56 rfl (lv_at hl 1 rfl) ?_
        refine pg C hP (k := 25) (j := 4) (Nat.le_of_ble_eq_true rfl) (xd_25 _ _) rfl iw_9 (Nat.le_of_ble_eq_true rfl) g_220 rfl rfl dX9_read_57 ?_
        refine lv_iload_n hx hb dX9_read_60 rfl (lv_at hl 3 rfl) ?_
        obtain ⟨r16, M17, h18, hf⟩ := bnd_s hf
        refine pcVi (As := [.int (M12.1 25 4), .int i2]) C hP hS (k := 1) (Nat.le_of_ble_eq_true rfl) (xd_1 _ _) rfl (c7_at  h18) y7_at_w g_707 rfl rfl rfl ⟨Nat.le_of_ble_eq_true rfl, Nat.le_of_ble_eq_true rfl⟩ hl.1 rfl (Nat.le_of_ble_eq_true rfl) dX9_read_61 ⟨Nat.le_of_ble_eq_true rfl, Nat.le_of_ble_eq_true rfl⟩ (fun H locs hP hS => ?_)
        refine lv_bipush (v := (59 : Int32)) hx hb dX9_read_64 (by decide) ?_
        refine lv_icmp_eq (tgt := 78) hx hb dX9_read_66 (by decide) (fun c19 => ?_) (fun c19 => ?_)
        · replace hf := ite_t c19 hf
          refine lv_aload_n hx hb dX9_read_78 rfl (lv_at hl 1 rfl) ?_
          refine lv_dup hx hb dX9_read_79 rfl ?_
          refine pg C hP (k := 25) (j := 4) (Nat.le_of_ble_eq_true rfl) (xd_25 _ _) rfl iw_9 (Nat.le_of_ble_eq_true rfl) g_220 rfl rfl dX9_read_80 ?_
          refine lv_iconst (v := (1 : Int32)) hx hb dX9_read_83 (by decide) ?_
          refine lv_iadd hx hb dX9_read_84 ?_
          refine ppI C hP hS (k := 25) (j := 4) (ty := .int) (Nat.le_of_ble_eq_true rfl) (xd_25 _ _) rfl iw_9 tyX9 tyX9_ok nmX9 (Nat.le_of_ble_eq_true rfl) g_220 rfl rfl (by decide +kernel) rfl rfl (Nat.le_of_ble_eq_true rfl) (xu_25_4 _ _ _) dX9_read_85 (fun M20 H locs eM20 hP hS => ?_)
          replace hf := lt_c eM20 hf
          obtain ⟨v21, ev21⟩ : ∃ v : Int32, v = i3 + (1 : Int32) := ⟨_, rfl⟩
          replace hf := lt_c ev21 hf
          refine lv_iinc (v := v21) (lv' := [(3, .int v21), (4, .int r11), (0, .ref (b + 25)), (1, .ref (b + 1)), (2, .int i2)]) hx hb dX9_read_88 hl (k := 4) rfl (by rw [ev21]; rfl) (by decide) rfl (fun ls hl => ?_)
          refine lv_goto (tgt := 15) hx hb dX9_read_91 (by decide) ?_
          exact q15 i2 v21 M20 _ _ _ hf hP hS (lv_sub hl [2, 3, 4, 0] rfl)
        · replace hf := ite_f c19 hf
          refine lv_iconst (v := (1 : Int32)) hx hb dX9_read_69 (by decide) ?_
          refine lv_aload_n hx hb dX9_read_70 rfl (lv_at hl 1 rfl) ?_
          refine pg C hP (k := 25) (j := 4) (Nat.le_of_ble_eq_true rfl) (xd_25 _ _) rfl iw_9 (Nat.le_of_ble_eq_true rfl) g_220 rfl rfl dX9_read_71 ?_
          obtain ⟨r22, M23, h24, hf⟩ := bnd_s hf
          refine pcTi (As := [.int (1 : Int32), .int (M17.1 25 4)]) C hP hS (c11_faultAt  h24) y11_faultAt_w g_709 rfl rfl rfl ⟨Nat.le_of_ble_eq_true rfl, Nat.le_of_ble_eq_true rfl⟩ hl.1 rfl (Nat.le_of_ble_eq_true rfl) dX9_read_74 ⟨Nat.le_of_ble_eq_true rfl, Nat.le_of_ble_eq_true rfl⟩ (fun H locs hP hS => ?_)
          exact prI C hr hk hP hS hf dX9_read_77
      · replace hf := ite_f c15 hf
        refine lv_aload_n hx hb dX9_read_45 rfl (lv_at hl 1 rfl) ?_
        refine lv_aload_n hx hb dX9_read_46 rfl (lv_at hl 1 rfl) ?_
        refine pg C hP (k := 25) (j := 3) (Nat.le_of_ble_eq_true rfl) (xd_25 _ _) rfl iw_9 (Nat.le_of_ble_eq_true rfl) g_219 rfl rfl dX9_read_47 ?_
        refine ppI C hP hS (k := 25) (j := 2) (ty := .int) (Nat.le_of_ble_eq_true rfl) (xd_25 _ _) rfl iw_9 tyX9 tyX9_ok nmX9 (Nat.le_of_ble_eq_true rfl) g_217 rfl rfl (by decide +kernel) rfl rfl (Nat.le_of_ble_eq_true rfl) (xu_25_2 _ _ _) dX9_read_50 (fun M25 H locs eM25 hP hS => ?_)
        replace hf := lt_c eM25 hf
        refine lv_iload_n hx hb dX9_read_53 rfl (lv_at hl 4 rfl) ?_
        exact prI C hr hk hP hS hf dX9_read_54
    · replace hf := ite_f c14 hf
      refine lv_iload hx hb dX9_read_34 (lv_at hl 0 rfl) ?_
      exact prI C hr hk hP hS hf dX9_read_36
set_option maxHeartbeats 4000000 in
set_option maxRecDepth 100000 in
theorem w9_read_0 {p : Program} {l : Launch} {e : Env} {s : State} {m : MethodId} {args : Array Value} {below : List Frame} {meth : Method} {c : Code} {z : Zt} {b : Nat}  (C : Cx p s m args c cX9_read 5 RX9 z 339 b) (hr : meth.sig.returnType = (some .int)) (hk : meth.locks = false) {r : Int32} {M' : Mem} {rc : Nat → List Int32 → List Int64 → Mem → Option (Int32 × Mem)} {n : Nat} (q15 : ∀ (i2 : Int32) (i3 : Int32) (M : Mem) (H : Heap) (locs : List Loc) (ls : Array Slot), rc 15 [i2, i3] [] M = some (r, M') → va_P z.1 vwCl (pw (xd z b) 339 b M) H → va_S (pA 339 b) s.heap H locs → lv_has ls 5 [(0, .ref (b + 25)), (1, .ref (b + 1)), (2, .int i2), (3, .int i3)] → W p l e rm9_read s m args below meth c H locs 0 0 (MQ below (va_Qi (fun (r' : Int32) (M2 : Mem) => r' = r ∧ M2 = M') (fun M2 t => va_P z.1 vwCl (pw (xd z b) 339 b M2) t.heap) (pA 339 b)) args s 0 0 (pA 339 b)) (F0 m 15 ls [])) {a2 : Int32} {M : Mem} {H : Heap} {locs : List Loc} {ls : Array Slot} (hf : b9_read_0  rc n a2 M = some (r, M')) (hP : va_P z.1 vwCl (pw (xd z b) 339 b M) H) (hS : va_S (pA 339 b) s.heap H locs) (hl : lv_has ls 5 [(0, .ref (b + 25)), (1, .ref (b + 1)), (2, .int a2)]) : W p l e rm9_read s m args below meth c H locs 0 0 (MQ below (va_Qi (fun (r' : Int32) (M2 : Mem) => r' = r ∧ M2 = M') (fun M2 t => va_P z.1 vwCl (pw (xd z b) 339 b M2) t.heap) (pA 339 b)) args s 0 0 (pA 339 b)) (F0 m 0 ls []) := by
  have hx := C.1.1
  have hb := C.1.2.1
  unfold b9_read_0 at hf
  refine lv_aload_n hx hb dX9_read_0 rfl (lv_at hl 0 rfl) ?_
  refine lv_aload_n hx hb dX9_read_1 rfl (lv_at hl 0 rfl) ?_
  refine pg C hP (k := 25) (j := 2) (Nat.le_of_ble_eq_true rfl) (xd_25 _ _) rfl iw_9 (Nat.le_of_ble_eq_true rfl) g_217 rfl rfl dX9_read_2 ?_
  refine ppI C hP hS (k := 25) (j := 3) (ty := .int) (Nat.le_of_ble_eq_true rfl) (xd_25 _ _) rfl iw_9 tyX9 tyX9_ok nmX9 (Nat.le_of_ble_eq_true rfl) g_219 rfl rfl (by decide +kernel) rfl rfl (Nat.le_of_ble_eq_true rfl) (xu_25_3 _ _ _) dX9_read_5 (fun M1 H locs eM1 hP hS => ?_)
  replace hf := lt_c eM1 hf
  refine lv_aload_n hx hb dX9_read_8 rfl (lv_at hl 0 rfl) ?_
  refine lv_iconst (v := (0 : Int32)) hx hb dX9_read_9 (by decide) ?_
  refine ppI C hP hS (k := 25) (j := 4) (ty := .int) (Nat.le_of_ble_eq_true rfl) (xd_25 _ _) rfl iw_9 tyX9 tyX9_ok nmX9 (Nat.le_of_ble_eq_true rfl) g_220 rfl rfl (by decide +kernel) rfl rfl (Nat.le_of_ble_eq_true rfl) (xu_25_4 _ _ _) dX9_read_10 (fun M2 H locs eM2 hP hS => ?_)
  replace hf := lt_c eM2 hf
  refine lv_iconst (v := (1 : Int32)) hx hb dX9_read_13 (by decide) ?_
  refine lv_istore_n (lv' := [(3, .int (1 : Int32)), (0, .ref (b + 25)), (1, .ref (b + 1)), (2, .int a2)]) hx hb dX9_read_14 rfl hl (by decide) rfl (fun ls hl => ?_)
  exact w9_read_15 (n := n)  C hr hk q15 hf hP hS (lv_sub hl [1, 2, 3, 0] rfl)
set_option maxHeartbeats 4000000 in
set_option maxRecDepth 100000 in
theorem l9_read {p : Program} {l : Launch} {e : Env} {s : State} {m : MethodId} {args : Array Value} {below : List Frame} {meth : Method} {c : Code} {z : Zt} {b : Nat}  (C : Cx p s m args c cX9_read 5 RX9 z 339 b) (hr : meth.sig.returnType = (some .int)) (hk : meth.locks = false) {r : Int32} {M' : Mem} (n : Nat) : (∀ (i2 : Int32) (i3 : Int32) (M : Mem) (H : Heap) (locs : List Loc) (ls : Array Slot), (r9_read  n) 15 [i2, i3] [] M = some (r, M') → va_P z.1 vwCl (pw (xd z b) 339 b M) H → va_S (pA 339 b) s.heap H locs → lv_has ls 5 [(0, .ref (b + 25)), (1, .ref (b + 1)), (2, .int i2), (3, .int i3)] → W p l e rm9_read s m args below meth c H locs 0 0 (MQ below (va_Qi (fun (r' : Int32) (M2 : Mem) => r' = r ∧ M2 = M') (fun M2 t => va_P z.1 vwCl (pw (xd z b) 339 b M2) t.heap) (pA 339 b)) args s 0 0 (pA 339 b)) (F0 m 15 ls [])) := by
  induction n with
  | zero => exact fun _ _ _ _ _ _ hf => (by cases hf)
  | succ n ih => exact fun _ _ _ _ _ _ hf hP hS hl => w9_read_15 (n := n)  C hr hk ih ((e9_read_15  n _ _ _).symm.trans hf) hP hS hl
theorem c9_read {l : Launch} {z : Zt} {b n : Nat}  {a2 : Int32} {M M' : Mem} {r : Int32} (hf : f9_read n  a2 M = some (r, M')) : CI l z (xd z b) 339 b yX9_read cX9_read 5 (some .int) rm9_read [.ref (b + 25), .ref (b + 1), .int a2] M M' r :=
  CI.ofW (lv := [(0, .ref (b + 25)), (1, .ref (b + 1)), (2, .int a2)]) (by decide) (Nat.le_of_ble_eq_true rfl) rfl (fun p e s m args below meth c ls C hr hk hP hS hl => w9_read_0 (n := n)  C hr hk (l9_read  C hr hk n) hf hP hS hl)

-- BronzeKing$Walker.drawHour(LBronzeKing$Course;)I
theorem dX10_drawHour_0 : decode cX10_drawHour 0 = .ok (.iconst 0, 1) := by decide +kernel
theorem dX10_drawHour_1 : decode cX10_drawHour 1 = .ok (.istore_n 2, 1) := by decide +kernel
theorem dX10_drawHour_2 : decode cX10_drawHour 2 = .ok (.iconst 0, 1) := by decide +kernel
theorem dX10_drawHour_3 : decode cX10_drawHour 3 = .ok (.istore_n 3, 1) := by decide +kernel
theorem dX10_drawHour_4 : decode cX10_drawHour 4 = .ok (.iload_n 3, 1) := by decide +kernel
theorem dX10_drawHour_5 : decode cX10_drawHour 5 = .ok (.bipush 24, 2) := by decide +kernel
theorem dX10_drawHour_7 : decode cX10_drawHour 7 = .ok (.if_icmp .ge 36, 3) := by decide +kernel
theorem dX10_drawHour_10 : decode cX10_drawHour 10 = .ok (.aload_n 0, 1) := by decide +kernel
theorem dX10_drawHour_11 : decode cX10_drawHour 11 = .ok (.getfield 9, 3) := by decide +kernel
theorem dX10_drawHour_14 : decode cX10_drawHour 14 = .ok (.iload_n 3, 1) := by decide +kernel
theorem dX10_drawHour_15 : decode cX10_drawHour 15 = .ok (.aload_n 0, 1) := by decide +kernel
theorem dX10_drawHour_16 : decode cX10_drawHour 16 = .ok (.getfield 19, 3) := by decide +kernel
theorem dX10_drawHour_19 : decode cX10_drawHour 19 = .ok (.iload_n 3, 1) := by decide +kernel
theorem dX10_drawHour_20 : decode cX10_drawHour 20 = .ok (.aload_n 1, 1) := by decide +kernel
theorem dX10_drawHour_21 : decode cX10_drawHour 21 = .ok (.getfield 23, 3) := by decide +kernel
theorem dX10_drawHour_24 : decode cX10_drawHour 24 = .ok (.invokevirtual 43, 3) := by decide +kernel
theorem dX10_drawHour_27 : decode cX10_drawHour 27 = .ok (.iastore, 1) := by decide +kernel
theorem dX10_drawHour_28 : decode cX10_drawHour 28 = .ok (.iload_n 2, 1) := by decide +kernel
theorem dX10_drawHour_29 : decode cX10_drawHour 29 = .ok (.aload_n 0, 1) := by decide +kernel
theorem dX10_drawHour_30 : decode cX10_drawHour 30 = .ok (.getfield 9, 3) := by decide +kernel
theorem dX10_drawHour_33 : decode cX10_drawHour 33 = .ok (.iload_n 3, 1) := by decide +kernel
theorem dX10_drawHour_34 : decode cX10_drawHour 34 = .ok (.iaload, 1) := by decide +kernel
theorem dX10_drawHour_35 : decode cX10_drawHour 35 = .ok (.iadd, 1) := by decide +kernel
theorem dX10_drawHour_36 : decode cX10_drawHour 36 = .ok (.istore_n 2, 1) := by decide +kernel
theorem dX10_drawHour_37 : decode cX10_drawHour 37 = .ok (.iinc 3 1, 3) := by decide +kernel
theorem dX10_drawHour_40 : decode cX10_drawHour 40 = .ok (.goto (-36), 3) := by decide +kernel
theorem dX10_drawHour_43 : decode cX10_drawHour 43 = .ok (.iload_n 2, 1) := by decide +kernel
theorem dX10_drawHour_44 : decode cX10_drawHour 44 = .ok (.ifCond .gt 6, 3) := by decide +kernel
theorem dX10_drawHour_47 : decode cX10_drawHour 47 = .ok (.bipush (-2), 2) := by decide +kernel
theorem dX10_drawHour_49 : decode cX10_drawHour 49 = .ok (.ireturn, 1) := by decide +kernel
theorem dX10_drawHour_50 : decode cX10_drawHour 50 = .ok (.aload_n 1, 1) := by decide +kernel
theorem dX10_drawHour_51 : decode cX10_drawHour 51 = .ok (.invokevirtual 49, 3) := by decide +kernel
theorem dX10_drawHour_54 : decode cX10_drawHour 54 = .ok (.iload_n 2, 1) := by decide +kernel
theorem dX10_drawHour_55 : decode cX10_drawHour 55 = .ok (.irem, 1) := by decide +kernel
theorem dX10_drawHour_56 : decode cX10_drawHour 56 = .ok (.istore_n 3, 1) := by decide +kernel
theorem dX10_drawHour_57 : decode cX10_drawHour 57 = .ok (.iconst 0, 1) := by decide +kernel
theorem dX10_drawHour_58 : decode cX10_drawHour 58 = .ok (.istore 4, 2) := by decide +kernel
theorem dX10_drawHour_60 : decode cX10_drawHour 60 = .ok (.iload 4, 2) := by decide +kernel
theorem dX10_drawHour_62 : decode cX10_drawHour 62 = .ok (.bipush 24, 2) := by decide +kernel
theorem dX10_drawHour_64 : decode cX10_drawHour 64 = .ok (.if_icmp .ge 26, 3) := by decide +kernel
theorem dX10_drawHour_67 : decode cX10_drawHour 67 = .ok (.iload_n 3, 1) := by decide +kernel
theorem dX10_drawHour_68 : decode cX10_drawHour 68 = .ok (.aload_n 0, 1) := by decide +kernel
theorem dX10_drawHour_69 : decode cX10_drawHour 69 = .ok (.getfield 9, 3) := by decide +kernel
theorem dX10_drawHour_72 : decode cX10_drawHour 72 = .ok (.iload 4, 2) := by decide +kernel
theorem dX10_drawHour_74 : decode cX10_drawHour 74 = .ok (.iaload, 1) := by decide +kernel
theorem dX10_drawHour_75 : decode cX10_drawHour 75 = .ok (.isub, 1) := by decide +kernel
theorem dX10_drawHour_76 : decode cX10_drawHour 76 = .ok (.istore_n 3, 1) := by decide +kernel
theorem dX10_drawHour_77 : decode cX10_drawHour 77 = .ok (.iload_n 3, 1) := by decide +kernel
theorem dX10_drawHour_78 : decode cX10_drawHour 78 = .ok (.ifCond .ge 6, 3) := by decide +kernel
theorem dX10_drawHour_81 : decode cX10_drawHour 81 = .ok (.iload 4, 2) := by decide +kernel
theorem dX10_drawHour_83 : decode cX10_drawHour 83 = .ok (.ireturn, 1) := by decide +kernel
theorem dX10_drawHour_84 : decode cX10_drawHour 84 = .ok (.iinc 4 1, 3) := by decide +kernel
theorem dX10_drawHour_87 : decode cX10_drawHour 87 = .ok (.goto (-27), 3) := by decide +kernel
theorem dX10_drawHour_90 : decode cX10_drawHour 90 = .ok (.bipush (-2), 2) := by decide +kernel
theorem dX10_drawHour_92 : decode cX10_drawHour 92 = .ok (.ireturn, 1) := by decide +kernel
def b10_drawHour_60 (k0 : Nat) (rc : Nat → List Int32 → List Int64 → Mem → Option (Int32 × Mem)) (n : Nat) (i3 : Int32) (i4 : Int32) (M : Mem) : Option (Int32 × Mem) :=
  (if (24 : Int32) ≤ i4 then (
   some ((-2 : Int32), M))
  else (
   chk (inb i4 24) <|
   lt (i3 - (M.1 24 i4.toNatClampNeg)) fun v18 =>
   (if 0 ≤ v18 then (
    lt (i4 + (1 : Int32)) fun v20 =>
    rc 60 [v18, v20] [] M)
   else (
    some (i4, M)))))
def b10_drawHour_4 (k0 : Nat) (rc : Nat → List Int32 → List Int64 → Mem → Option (Int32 × Mem)) (n : Nat) (i2 : Int32) (i3 : Int32) (M : Mem) : Option (Int32 × Mem) :=
  (if (24 : Int32) ≤ i3 then (
   (if 0 < i2 then (
    bnd (f0_draw n k0 M) fun r3 M4 =>
    chk (decide (¬ i2 = 0)) <|
    lt (r3 - r3 / i2 * i2) fun v7 =>
    b10_drawHour_60 k0 rc n v7 (0 : Int32) M4)
   else (
    some ((-2 : Int32), M))))
  else (
   bnd (f2_weightOf n i3 (M.1 k0 2) M) fun r8 M9 =>
   chk (inb i3 24) <|
   lt (wI M9 24 i3.toNatClampNeg r8) fun M12 =>
   chk (inb i3 24) <|
   lt (i2 + (M12.1 24 i3.toNatClampNeg)) fun v14 =>
   lt (i3 + (1 : Int32)) fun v15 =>
   rc 4 [v14, v15] [] M12))
def b10_drawHour_0 (k0 : Nat) (rc : Nat → List Int32 → List Int64 → Mem → Option (Int32 × Mem)) (n : Nat) (M : Mem) : Option (Int32 × Mem) :=
  b10_drawHour_4 k0 rc n (0 : Int32) (0 : Int32) M
def r10_drawHour (k0 : Nat) : Nat → Nat → List Int32 → List Int64 → Mem → Option (Int32 × Mem)
  | 0 => fun _ _ _ _ => none
  | n + 1 => fun pc li lj M =>
    if pc = 4 then (match li, lj with | [i2, i3], [] => b10_drawHour_4 k0 (r10_drawHour k0 n) n i2 i3 M | _, _ => none) else
    if pc = 60 then (match li, lj with | [i3, i4], [] => b10_drawHour_60 k0 (r10_drawHour k0 n) n i3 i4 M | _, _ => none) else
    none
theorem e10_drawHour_4 (k0 : Nat) (n : Nat) (i2 : Int32) (i3 : Int32) (M : Mem) : r10_drawHour k0 (n + 1) 4 [i2, i3] [] M = b10_drawHour_4 k0 (r10_drawHour k0 n) n i2 i3 M := by
  rw [r10_drawHour]
  simp
theorem e10_drawHour_60 (k0 : Nat) (n : Nat) (i3 : Int32) (i4 : Int32) (M : Mem) : r10_drawHour k0 (n + 1) 60 [i3, i4] [] M = b10_drawHour_60 k0 (r10_drawHour k0 n) n i3 i4 M := by
  rw [r10_drawHour]
  simp
def f10_drawHour (n : Nat) (k0 : Nat) (M : Mem) : Option (Int32 × Mem) := b10_drawHour_0 k0 (r10_drawHour k0 n) n M
abbrev rm10_drawHour : Room := { frames := 4, cells := 0, slots := 0, locals := 94 }
theorem y10_drawHour_w : yV RX10 yX10_drawHour cX10_drawHour 5 (some .int) 1 := ⟨g_731, gp 20 rfl rfl, g_8, g_732, rfl, by decide, by decide, by decide +kernel⟩
set_option maxHeartbeats 4000000 in
set_option maxRecDepth 100000 in
theorem w10_drawHour_60 {p : Program} {l : Launch} {e : Env} {s : State} {m : MethodId} {args : Array Value} {below : List Frame} {meth : Method} {c : Code} {z : Zt} {b : Nat} {k0 : Nat} (hk0 : isCo k0) (C : Cx p s m args c cX10_drawHour 5 RX10 z 339 b) (hr : meth.sig.returnType = (some .int)) (hk : meth.locks = false) {r : Int32} {M' : Mem} {rc : Nat → List Int32 → List Int64 → Mem → Option (Int32 × Mem)} {n : Nat} (q4 : ∀ (i2 : Int32) (i3 : Int32) (M : Mem) (H : Heap) (locs : List Loc) (ls : Array Slot), rc 4 [i2, i3] [] M = some (r, M') → va_P z.1 vwCl (pw (xd z b) 339 b M) H → va_S (pA 339 b) s.heap H locs → lv_has ls 5 [(0, .ref (b + 23)), (1, .ref (b + k0)), (2, .int i2), (3, .int i3)] → W p l e rm10_drawHour s m args below meth c H locs 0 0 (MQ below (va_Qi (fun (r' : Int32) (M2 : Mem) => r' = r ∧ M2 = M') (fun M2 t => va_P z.1 vwCl (pw (xd z b) 339 b M2) t.heap) (pA 339 b)) args s 0 0 (pA 339 b)) (F0 m 4 ls [])) (q60 : ∀ (i3 : Int32) (i4 : Int32) (M : Mem) (H : Heap) (locs : List Loc) (ls : Array Slot), rc 60 [i3, i4] [] M = some (r, M') → va_P z.1 vwCl (pw (xd z b) 339 b M) H → va_S (pA 339 b) s.heap H locs → lv_has ls 5 [(0, .ref (b + 23)), (3, .int i3), (4, .int i4)] → W p l e rm10_drawHour s m args below meth c H locs 0 0 (MQ below (va_Qi (fun (r' : Int32) (M2 : Mem) => r' = r ∧ M2 = M') (fun M2 t => va_P z.1 vwCl (pw (xd z b) 339 b M2) t.heap) (pA 339 b)) args s 0 0 (pA 339 b)) (F0 m 60 ls [])) {i3 : Int32} {i4 : Int32} {M : Mem} {H : Heap} {locs : List Loc} {ls : Array Slot} (hf : b10_drawHour_60 k0 rc n i3 i4 M = some (r, M')) (hP : va_P z.1 vwCl (pw (xd z b) 339 b M) H) (hS : va_S (pA 339 b) s.heap H locs) (hl : lv_has ls 5 [(0, .ref (b + 23)), (3, .int i3), (4, .int i4)]) : W p l e rm10_drawHour s m args below meth c H locs 0 0 (MQ below (va_Qi (fun (r' : Int32) (M2 : Mem) => r' = r ∧ M2 = M') (fun M2 t => va_P z.1 vwCl (pw (xd z b) 339 b M2) t.heap) (pA 339 b)) args s 0 0 (pA 339 b)) (F0 m 60 ls []) := by
  have hx := C.1.1
  have hb := C.1.2.1
  unfold b10_drawHour_60 at hf
  refine lv_iload hx hb dX10_drawHour_60 (lv_at hl 2 rfl) ?_
  refine lv_bipush (v := (24 : Int32)) hx hb dX10_drawHour_62 (by decide) ?_
  refine lv_icmp_ge (tgt := 90) hx hb dX10_drawHour_64 (by decide) (fun c16 => ?_) (fun c16 => ?_)
  · replace hf := ite_t c16 hf
    refine lv_bipush (v := (-2 : Int32)) hx hb dX10_drawHour_90 (by decide) ?_
    exact prI C hr hk hP hS hf dX10_drawHour_92
  · replace hf := ite_f c16 hf
    refine lv_iload_n hx hb dX10_drawHour_67 rfl (lv_at hl 1 rfl) ?_
    refine lv_aload_n hx hb dX10_drawHour_68 rfl (lv_at hl 0 rfl) ?_
    refine pg C hP (k := 23) (j := 2) (Nat.le_of_ble_eq_true rfl) (xd_23 _ _) rfl iw_10 (Nat.le_of_ble_eq_true rfl) g_200 rfl rfl dX10_drawHour_69 ?_
    refine lv_iload hx hb dX10_drawHour_72 (lv_at hl 2 rfl) ?_
    have h17 := chk_1 hf
    replace hf := chk_2 hf
    refine paI C hP (k := 24) (Nat.le_of_ble_eq_true rfl) (xd_24 _ _) h17 dX10_drawHour_74 ?_
    refine lv_isub hx hb dX10_drawHour_75 ?_
    refine lv_topi (fun v18 ev18 => ?_)
    replace hf := lt_c ev18 hf
    refine lv_istore_n (lv' := [(3, .int v18), (0, .ref (b + 23)), (4, .int i4)]) hx hb dX10_drawHour_76 rfl hl (by decide) rfl (fun ls hl => ?_)
    refine lv_iload_n hx hb dX10_drawHour_77 rfl (lv_at hl 0 rfl) ?_
    refine lv_if_ge (tgt := 84) hx hb dX10_drawHour_78 (by decide) (fun c19 => ?_) (fun c19 => ?_)
    · replace hf := ite_t c19 hf
      obtain ⟨v20, ev20⟩ : ∃ v : Int32, v = i4 + (1 : Int32) := ⟨_, rfl⟩
      replace hf := lt_c ev20 hf
      refine lv_iinc (v := v20) (lv' := [(4, .int v20), (3, .int v18), (0, .ref (b + 23))]) hx hb dX10_drawHour_84 hl (k := 2) rfl (by rw [ev20]; rfl) (by decide) rfl (fun ls hl => ?_)
      refine lv_goto (tgt := 60) hx hb dX10_drawHour_87 (by decide) ?_
      exact q60 v18 v20 M _ _ _ hf hP hS (lv_sub hl [2, 1, 0] rfl)
    · replace hf := ite_f c19 hf
      refine lv_iload hx hb dX10_drawHour_81 (lv_at hl 2 rfl) ?_
      exact prI C hr hk hP hS hf dX10_drawHour_83
set_option maxHeartbeats 4000000 in
set_option maxRecDepth 100000 in
theorem w10_drawHour_4 {p : Program} {l : Launch} {e : Env} {s : State} {m : MethodId} {args : Array Value} {below : List Frame} {meth : Method} {c : Code} {z : Zt} {b : Nat} {k0 : Nat} (hk0 : isCo k0) (C : Cx p s m args c cX10_drawHour 5 RX10 z 339 b) (hr : meth.sig.returnType = (some .int)) (hk : meth.locks = false) {r : Int32} {M' : Mem} {rc : Nat → List Int32 → List Int64 → Mem → Option (Int32 × Mem)} {n : Nat} (q4 : ∀ (i2 : Int32) (i3 : Int32) (M : Mem) (H : Heap) (locs : List Loc) (ls : Array Slot), rc 4 [i2, i3] [] M = some (r, M') → va_P z.1 vwCl (pw (xd z b) 339 b M) H → va_S (pA 339 b) s.heap H locs → lv_has ls 5 [(0, .ref (b + 23)), (1, .ref (b + k0)), (2, .int i2), (3, .int i3)] → W p l e rm10_drawHour s m args below meth c H locs 0 0 (MQ below (va_Qi (fun (r' : Int32) (M2 : Mem) => r' = r ∧ M2 = M') (fun M2 t => va_P z.1 vwCl (pw (xd z b) 339 b M2) t.heap) (pA 339 b)) args s 0 0 (pA 339 b)) (F0 m 4 ls [])) (q60 : ∀ (i3 : Int32) (i4 : Int32) (M : Mem) (H : Heap) (locs : List Loc) (ls : Array Slot), rc 60 [i3, i4] [] M = some (r, M') → va_P z.1 vwCl (pw (xd z b) 339 b M) H → va_S (pA 339 b) s.heap H locs → lv_has ls 5 [(0, .ref (b + 23)), (3, .int i3), (4, .int i4)] → W p l e rm10_drawHour s m args below meth c H locs 0 0 (MQ below (va_Qi (fun (r' : Int32) (M2 : Mem) => r' = r ∧ M2 = M') (fun M2 t => va_P z.1 vwCl (pw (xd z b) 339 b M2) t.heap) (pA 339 b)) args s 0 0 (pA 339 b)) (F0 m 60 ls [])) {i2 : Int32} {i3 : Int32} {M : Mem} {H : Heap} {locs : List Loc} {ls : Array Slot} (hf : b10_drawHour_4 k0 rc n i2 i3 M = some (r, M')) (hP : va_P z.1 vwCl (pw (xd z b) 339 b M) H) (hS : va_S (pA 339 b) s.heap H locs) (hl : lv_has ls 5 [(0, .ref (b + 23)), (1, .ref (b + k0)), (2, .int i2), (3, .int i3)]) : W p l e rm10_drawHour s m args below meth c H locs 0 0 (MQ below (va_Qi (fun (r' : Int32) (M2 : Mem) => r' = r ∧ M2 = M') (fun M2 t => va_P z.1 vwCl (pw (xd z b) 339 b M2) t.heap) (pA 339 b)) args s 0 0 (pA 339 b)) (F0 m 4 ls []) := by
  have hx := C.1.1
  have hb := C.1.2.1
  unfold b10_drawHour_4 at hf
  refine lv_iload_n hx hb dX10_drawHour_4 rfl (lv_at hl 3 rfl) ?_
  refine lv_bipush (v := (24 : Int32)) hx hb dX10_drawHour_5 (by decide) ?_
  refine lv_icmp_ge (tgt := 43) hx hb dX10_drawHour_7 (by decide) (fun c1 => ?_) (fun c1 => ?_)
  · replace hf := ite_t c1 hf
    refine lv_iload_n hx hb dX10_drawHour_43 rfl (lv_at hl 2 rfl) ?_
    refine lv_if_gt (tgt := 50) hx hb dX10_drawHour_44 (by decide) (fun c2 => ?_) (fun c2 => ?_)
    · replace hf := ite_t c2 hf
      refine lv_aload_n hx hb dX10_drawHour_50 rfl (lv_at hl 1 rfl) ?_
      obtain ⟨r3, M4, h5, hf⟩ := bnd_s hf
      refine pcVi (As := []) C hP hS (k := k0) (co_lt hk0) ((co_d hk0) _ _) rfl (c0_draw hk0 h5) y0_draw_w g_758 rfl rfl rfl ⟨Nat.le_of_ble_eq_true rfl, Nat.le_of_ble_eq_true rfl⟩ hl.1 rfl (Nat.le_of_ble_eq_true rfl) dX10_drawHour_51 ⟨Nat.le_of_ble_eq_true rfl, Nat.le_of_ble_eq_true rfl⟩ (fun H locs hP hS => ?_)
      refine lv_iload_n hx hb dX10_drawHour_54 rfl (lv_at hl 2 rfl) ?_
      have h6 := of_decide_eq_true (chk_1 hf)
      replace hf := chk_2 hf
      refine lv_irem hx hb dX10_drawHour_55 h6 ?_
      refine lv_topi (fun v7 ev7 => ?_)
      replace hf := lt_c ev7 hf
      refine lv_istore_n (lv' := [(3, .int v7), (0, .ref (b + 23)), (1, .ref (b + k0)), (2, .int i2)]) hx hb dX10_drawHour_56 rfl hl (by decide) rfl (fun ls hl => ?_)
      refine lv_iconst (v := (0 : Int32)) hx hb dX10_drawHour_57 (by decide) ?_
      refine lv_istore (lv' := [(4, .int (0 : Int32)), (3, .int v7), (0, .ref (b + 23)), (1, .ref (b + k0)), (2, .int i2)]) hx hb dX10_drawHour_58 hl (by decide) rfl (fun ls hl => ?_)
      exact w10_drawHour_60 (n := n) hk0 C hr hk q4 q60 hf hP hS (lv_sub hl [2, 1, 0] rfl)
    · replace hf := ite_f c2 hf
      refine lv_bipush (v := (-2 : Int32)) hx hb dX10_drawHour_47 (by decide) ?_
      exact prI C hr hk hP hS hf dX10_drawHour_49
  · replace hf := ite_f c1 hf
    refine lv_aload_n hx hb dX10_drawHour_10 rfl (lv_at hl 0 rfl) ?_
    refine pg C hP (k := 23) (j := 2) (Nat.le_of_ble_eq_true rfl) (xd_23 _ _) rfl iw_10 (Nat.le_of_ble_eq_true rfl) g_200 rfl rfl dX10_drawHour_11 ?_
    refine lv_iload_n hx hb dX10_drawHour_14 rfl (lv_at hl 3 rfl) ?_
    refine lv_aload_n hx hb dX10_drawHour_15 rfl (lv_at hl 0 rfl) ?_
    refine pg C hP (k := 23) (j := 1) (Nat.le_of_ble_eq_true rfl) (xd_23 _ _) rfl iw_10 (Nat.le_of_ble_eq_true rfl) g_199 rfl rfl dX10_drawHour_16 ?_
    refine lv_iload_n hx hb dX10_drawHour_19 rfl (lv_at hl 3 rfl) ?_
    refine lv_aload_n hx hb dX10_drawHour_20 rfl (lv_at hl 1 rfl) ?_
    refine pgN C hP (k := k0) (j := 2) (co_lt hk0) ((co_d hk0) _ _) rfl iw_0 (Nat.le_of_ble_eq_true rfl) g_360 rfl rfl dX10_drawHour_21 ?_
    obtain ⟨r8, M9, h10, hf⟩ := bnd_s hf
    refine pcVi (As := [.int i3, .int (M.1 k0 2)]) C hP hS (k := 11) (Nat.le_of_ble_eq_true rfl) (xd_11 _ _) rfl (c2_weightOf  h10) y2_weightOf_w g_733 rfl rfl rfl ⟨Nat.le_of_ble_eq_true rfl, Nat.le_of_ble_eq_true rfl⟩ hl.1 rfl (Nat.le_of_ble_eq_true rfl) dX10_drawHour_24 ⟨Nat.le_of_ble_eq_true rfl, Nat.le_of_ble_eq_true rfl⟩ (fun H locs hP hS => ?_)
    have h11 := chk_1 hf
    replace hf := chk_2 hf
    refine psI C hP hS (k := 24) (Nat.le_of_ble_eq_true rfl) (xd_24) h11 dX10_drawHour_27 (fun M12 H locs eM12 hP hS => ?_)
    replace hf := lt_c eM12 hf
    refine lv_iload_n hx hb dX10_drawHour_28 rfl (lv_at hl 2 rfl) ?_
    refine lv_aload_n hx hb dX10_drawHour_29 rfl (lv_at hl 0 rfl) ?_
    refine pg C hP (k := 23) (j := 2) (Nat.le_of_ble_eq_true rfl) (xd_23 _ _) rfl iw_10 (Nat.le_of_ble_eq_true rfl) g_200 rfl rfl dX10_drawHour_30 ?_
    refine lv_iload_n hx hb dX10_drawHour_33 rfl (lv_at hl 3 rfl) ?_
    have h13 := chk_1 hf
    replace hf := chk_2 hf
    refine paI C hP (k := 24) (Nat.le_of_ble_eq_true rfl) (xd_24 _ _) h13 dX10_drawHour_34 ?_
    refine lv_iadd hx hb dX10_drawHour_35 ?_
    refine lv_topi (fun v14 ev14 => ?_)
    replace hf := lt_c ev14 hf
    refine lv_istore_n (lv' := [(2, .int v14), (0, .ref (b + 23)), (1, .ref (b + k0)), (3, .int i3)]) hx hb dX10_drawHour_36 rfl hl (by decide) rfl (fun ls hl => ?_)
    obtain ⟨v15, ev15⟩ : ∃ v : Int32, v = i3 + (1 : Int32) := ⟨_, rfl⟩
    replace hf := lt_c ev15 hf
    refine lv_iinc (v := v15) (lv' := [(3, .int v15), (2, .int v14), (0, .ref (b + 23)), (1, .ref (b + k0))]) hx hb dX10_drawHour_37 hl (k := 3) rfl (by rw [ev15]; rfl) (by decide) rfl (fun ls hl => ?_)
    refine lv_goto (tgt := 4) hx hb dX10_drawHour_40 (by decide) ?_
    exact q4 v14 v15 M12 _ _ _ hf hP hS (lv_sub hl [2, 3, 1, 0] rfl)
set_option maxHeartbeats 4000000 in
set_option maxRecDepth 100000 in
theorem w10_drawHour_0 {p : Program} {l : Launch} {e : Env} {s : State} {m : MethodId} {args : Array Value} {below : List Frame} {meth : Method} {c : Code} {z : Zt} {b : Nat} {k0 : Nat} (hk0 : isCo k0) (C : Cx p s m args c cX10_drawHour 5 RX10 z 339 b) (hr : meth.sig.returnType = (some .int)) (hk : meth.locks = false) {r : Int32} {M' : Mem} {rc : Nat → List Int32 → List Int64 → Mem → Option (Int32 × Mem)} {n : Nat} (q4 : ∀ (i2 : Int32) (i3 : Int32) (M : Mem) (H : Heap) (locs : List Loc) (ls : Array Slot), rc 4 [i2, i3] [] M = some (r, M') → va_P z.1 vwCl (pw (xd z b) 339 b M) H → va_S (pA 339 b) s.heap H locs → lv_has ls 5 [(0, .ref (b + 23)), (1, .ref (b + k0)), (2, .int i2), (3, .int i3)] → W p l e rm10_drawHour s m args below meth c H locs 0 0 (MQ below (va_Qi (fun (r' : Int32) (M2 : Mem) => r' = r ∧ M2 = M') (fun M2 t => va_P z.1 vwCl (pw (xd z b) 339 b M2) t.heap) (pA 339 b)) args s 0 0 (pA 339 b)) (F0 m 4 ls [])) (q60 : ∀ (i3 : Int32) (i4 : Int32) (M : Mem) (H : Heap) (locs : List Loc) (ls : Array Slot), rc 60 [i3, i4] [] M = some (r, M') → va_P z.1 vwCl (pw (xd z b) 339 b M) H → va_S (pA 339 b) s.heap H locs → lv_has ls 5 [(0, .ref (b + 23)), (3, .int i3), (4, .int i4)] → W p l e rm10_drawHour s m args below meth c H locs 0 0 (MQ below (va_Qi (fun (r' : Int32) (M2 : Mem) => r' = r ∧ M2 = M') (fun M2 t => va_P z.1 vwCl (pw (xd z b) 339 b M2) t.heap) (pA 339 b)) args s 0 0 (pA 339 b)) (F0 m 60 ls []))  {M : Mem} {H : Heap} {locs : List Loc} {ls : Array Slot} (hf : b10_drawHour_0 k0 rc n  M = some (r, M')) (hP : va_P z.1 vwCl (pw (xd z b) 339 b M) H) (hS : va_S (pA 339 b) s.heap H locs) (hl : lv_has ls 5 [(0, .ref (b + 23)), (1, .ref (b + k0))]) : W p l e rm10_drawHour s m args below meth c H locs 0 0 (MQ below (va_Qi (fun (r' : Int32) (M2 : Mem) => r' = r ∧ M2 = M') (fun M2 t => va_P z.1 vwCl (pw (xd z b) 339 b M2) t.heap) (pA 339 b)) args s 0 0 (pA 339 b)) (F0 m 0 ls []) := by
  have hx := C.1.1
  have hb := C.1.2.1
  unfold b10_drawHour_0 at hf
  refine lv_iconst (v := (0 : Int32)) hx hb dX10_drawHour_0 (by decide) ?_
  refine lv_istore_n (lv' := [(2, .int (0 : Int32)), (0, .ref (b + 23)), (1, .ref (b + k0))]) hx hb dX10_drawHour_1 rfl hl (by decide) rfl (fun ls hl => ?_)
  refine lv_iconst (v := (0 : Int32)) hx hb dX10_drawHour_2 (by decide) ?_
  refine lv_istore_n (lv' := [(3, .int (0 : Int32)), (2, .int (0 : Int32)), (0, .ref (b + 23)), (1, .ref (b + k0))]) hx hb dX10_drawHour_3 rfl hl (by decide) rfl (fun ls hl => ?_)
  exact w10_drawHour_4 (n := n) hk0 C hr hk q4 q60 hf hP hS (lv_sub hl [2, 3, 1, 0] rfl)
set_option maxHeartbeats 4000000 in
set_option maxRecDepth 100000 in
theorem l10_drawHour {p : Program} {l : Launch} {e : Env} {s : State} {m : MethodId} {args : Array Value} {below : List Frame} {meth : Method} {c : Code} {z : Zt} {b : Nat} {k0 : Nat} (hk0 : isCo k0) (C : Cx p s m args c cX10_drawHour 5 RX10 z 339 b) (hr : meth.sig.returnType = (some .int)) (hk : meth.locks = false) {r : Int32} {M' : Mem} (n : Nat) : (∀ (i2 : Int32) (i3 : Int32) (M : Mem) (H : Heap) (locs : List Loc) (ls : Array Slot), (r10_drawHour k0 n) 4 [i2, i3] [] M = some (r, M') → va_P z.1 vwCl (pw (xd z b) 339 b M) H → va_S (pA 339 b) s.heap H locs → lv_has ls 5 [(0, .ref (b + 23)), (1, .ref (b + k0)), (2, .int i2), (3, .int i3)] → W p l e rm10_drawHour s m args below meth c H locs 0 0 (MQ below (va_Qi (fun (r' : Int32) (M2 : Mem) => r' = r ∧ M2 = M') (fun M2 t => va_P z.1 vwCl (pw (xd z b) 339 b M2) t.heap) (pA 339 b)) args s 0 0 (pA 339 b)) (F0 m 4 ls [])) ∧ (∀ (i3 : Int32) (i4 : Int32) (M : Mem) (H : Heap) (locs : List Loc) (ls : Array Slot), (r10_drawHour k0 n) 60 [i3, i4] [] M = some (r, M') → va_P z.1 vwCl (pw (xd z b) 339 b M) H → va_S (pA 339 b) s.heap H locs → lv_has ls 5 [(0, .ref (b + 23)), (3, .int i3), (4, .int i4)] → W p l e rm10_drawHour s m args below meth c H locs 0 0 (MQ below (va_Qi (fun (r' : Int32) (M2 : Mem) => r' = r ∧ M2 = M') (fun M2 t => va_P z.1 vwCl (pw (xd z b) 339 b M2) t.heap) (pA 339 b)) args s 0 0 (pA 339 b)) (F0 m 60 ls [])) := by
  induction n with
  | zero => exact ⟨fun _ _ _ _ _ _ hf => (by cases hf), fun _ _ _ _ _ _ hf => (by cases hf)⟩
  | succ n ih => exact ⟨fun _ _ _ _ _ _ hf hP hS hl => w10_drawHour_4 (n := n) hk0 C hr hk ih.1 ih.2 ((e10_drawHour_4 _ n _ _ _).symm.trans hf) hP hS hl, fun _ _ _ _ _ _ hf hP hS hl => w10_drawHour_60 (n := n) hk0 C hr hk ih.1 ih.2 ((e10_drawHour_60 _ n _ _ _).symm.trans hf) hP hS hl⟩
theorem c10_drawHour {l : Launch} {z : Zt} {b n : Nat} {k0 : Nat} (hk0 : isCo k0)  {M M' : Mem} {r : Int32} (hf : f10_drawHour n k0  M = some (r, M')) : CI l z (xd z b) 339 b yX10_drawHour cX10_drawHour 5 (some .int) rm10_drawHour [.ref (b + 23), .ref (b + k0)] M M' r :=
  CI.ofW (lv := [(0, .ref (b + 23)), (1, .ref (b + k0))]) (by decide) (Nat.le_of_ble_eq_true rfl) rfl (fun p e s m args below meth c ls C hr hk hP hS hl => w10_drawHour_0 (n := n) hk0 C hr hk (l10_drawHour hk0 C hr hk n).1 (l10_drawHour hk0 C hr hk n).2 hf hP hS hl)

-- BronzeKing$Walker.lookAt(LBronzeKing$Course;I)V
theorem dX10_lookAt_0 : decode cX10_lookAt 0 = .ok (.aload_n 0, 1) := by decide +kernel
theorem dX10_lookAt_1 : decode cX10_lookAt 1 = .ok (.getfield 19, 3) := by decide +kernel
theorem dX10_lookAt_4 : decode cX10_lookAt 4 = .ok (.iload_n 2, 1) := by decide +kernel
theorem dX10_lookAt_5 : decode cX10_lookAt 5 = .ok (.aload_n 1, 1) := by decide +kernel
theorem dX10_lookAt_6 : decode cX10_lookAt 6 = .ok (.getfield 116, 3) := by decide +kernel
theorem dX10_lookAt_9 : decode cX10_lookAt 9 = .ok (.iload_n 2, 1) := by decide +kernel
theorem dX10_lookAt_10 : decode cX10_lookAt 10 = .ok (.iaload, 1) := by decide +kernel
theorem dX10_lookAt_11 : decode cX10_lookAt 11 = .ok (.aload_n 0, 1) := by decide +kernel
theorem dX10_lookAt_12 : decode cX10_lookAt 12 = .ok (.getfield 15, 3) := by decide +kernel
theorem dX10_lookAt_15 : decode cX10_lookAt 15 = .ok (.getfield 119, 3) := by decide +kernel
theorem dX10_lookAt_18 : decode cX10_lookAt 18 = .ok (.iload_n 2, 1) := by decide +kernel
theorem dX10_lookAt_19 : decode cX10_lookAt 19 = .ok (.iaload, 1) := by decide +kernel
theorem dX10_lookAt_20 : decode cX10_lookAt 20 = .ok (.aload_n 0, 1) := by decide +kernel
theorem dX10_lookAt_21 : decode cX10_lookAt 21 = .ok (.getfield 15, 3) := by decide +kernel
theorem dX10_lookAt_24 : decode cX10_lookAt 24 = .ok (.getfield 88, 3) := by decide +kernel
theorem dX10_lookAt_27 : decode cX10_lookAt 27 = .ok (.iload_n 2, 1) := by decide +kernel
theorem dX10_lookAt_28 : decode cX10_lookAt 28 = .ok (.iaload, 1) := by decide +kernel
theorem dX10_lookAt_29 : decode cX10_lookAt 29 = .ok (.invokevirtual 122, 3) := by decide +kernel
theorem dX10_lookAt_32 : decode cX10_lookAt 32 = .ok (.return_, 1) := by decide +kernel
def b10_lookAt_0 (k0 : Nat) (rc : Nat → List Int32 → List Int64 → Mem → Option (Unit × Mem)) (n : Nat) (a2 : Int32) (M : Mem) : Option (Unit × Mem) :=
  chk (inb a2 96) <|
  chk (inb a2 96) <|
  chk (inb a2 96) <|
  bnd (f2_setPlace n a2 (M.1 (k0 + 1) a2.toNatClampNeg) (M.1 8 a2.toNatClampNeg) (M.1 7 a2.toNatClampNeg) M) fun r4 M5 =>
  some ((), M5)
def f10_lookAt (n : Nat) (k0 : Nat) (a2 : Int32) (M : Mem) : Option (Unit × Mem) := b10_lookAt_0 k0 (fun _ _ _ _ => none) n a2 M
abbrev rm10_lookAt : Room := { frames := 1, cells := 0, slots := 0, locals := 24 }
theorem y10_lookAt_w : yV RX10 yX10_lookAt cX10_lookAt 3 none 2 := ⟨g_788, gp 24 rfl rfl, g_8, g_789, rfl, by decide, by decide, by decide +kernel⟩
set_option maxHeartbeats 4000000 in
set_option maxRecDepth 100000 in
theorem w10_lookAt_0 {p : Program} {l : Launch} {e : Env} {s : State} {m : MethodId} {args : Array Value} {below : List Frame} {meth : Method} {c : Code} {z : Zt} {b : Nat} {k0 : Nat} (hk0 : isCo k0) (C : Cx p s m args c cX10_lookAt 3 RX10 z 339 b) (hr : meth.sig.returnType = none) (hk : meth.locks = false) {r : Unit} {M' : Mem} {rc : Nat → List Int32 → List Int64 → Mem → Option (Unit × Mem)} {n : Nat}  {a2 : Int32} {M : Mem} {H : Heap} {locs : List Loc} {ls : Array Slot} (hf : b10_lookAt_0 k0 rc n a2 M = some (r, M')) (hP : va_P z.1 vwCl (pw (xd z b) 339 b M) H) (hS : va_S (pA 339 b) s.heap H locs) (hl : lv_has ls 3 [(0, .ref (b + 23)), (1, .ref (b + k0)), (2, .int a2)]) : W p l e rm10_lookAt s m args below meth c H locs 0 0 (MQ below (va_Qv (fun (M2 : Mem) => M2 = M') (fun M2 t => va_P z.1 vwCl (pw (xd z b) 339 b M2) t.heap) (pA 339 b)) args s 0 0 (pA 339 b)) (F0 m 0 ls []) := by
  have hx := C.1.1
  have hb := C.1.2.1
  unfold b10_lookAt_0 at hf
  refine lv_aload_n hx hb dX10_lookAt_0 rfl (lv_at hl 0 rfl) ?_
  refine pg C hP (k := 23) (j := 1) (Nat.le_of_ble_eq_true rfl) (xd_23 _ _) rfl iw_10 (Nat.le_of_ble_eq_true rfl) g_199 rfl rfl dX10_lookAt_1 ?_
  refine lv_iload_n hx hb dX10_lookAt_4 rfl (lv_at hl 2 rfl) ?_
  refine lv_aload_n hx hb dX10_lookAt_5 rfl (lv_at hl 1 rfl) ?_
  refine pgN C hP (k := k0) (j := 0) (co_lt hk0) ((co_d hk0) _ _) rfl iw_0 (Nat.le_of_ble_eq_true rfl) g_354 rfl rfl dX10_lookAt_6 ?_
  refine lv_iload_n hx hb dX10_lookAt_9 rfl (lv_at hl 2 rfl) ?_
  have h1 := chk_1 hf
  replace hf := chk_2 hf
  refine paI C hP (k := k0 + 1) (co_lt1 hk0) ((co_d1 hk0) _ _) h1 dX10_lookAt_10 ?_
  refine lv_aload_n hx hb dX10_lookAt_11 rfl (lv_at hl 0 rfl) ?_
  refine pg C hP (k := 23) (j := 0) (Nat.le_of_ble_eq_true rfl) (xd_23 _ _) rfl iw_10 (Nat.le_of_ble_eq_true rfl) g_198 rfl rfl dX10_lookAt_12 ?_
  refine pgN C hP (k := 3) (j := 4) (Nat.le_of_ble_eq_true rfl) (xd_3 _ _) rfl iw_8 (Nat.le_of_ble_eq_true rfl) g_81 rfl rfl dX10_lookAt_15 ?_
  refine lv_iload_n hx hb dX10_lookAt_18 rfl (lv_at hl 2 rfl) ?_
  have h2 := chk_1 hf
  replace hf := chk_2 hf
  refine paI C hP (k := 8) (Nat.le_of_ble_eq_true rfl) (xd_8 _ _) h2 dX10_lookAt_19 ?_
  refine lv_aload_n hx hb dX10_lookAt_20 rfl (lv_at hl 0 rfl) ?_
  refine pg C hP (k := 23) (j := 0) (Nat.le_of_ble_eq_true rfl) (xd_23 _ _) rfl iw_10 (Nat.le_of_ble_eq_true rfl) g_198 rfl rfl dX10_lookAt_21 ?_
  refine pgN C hP (k := 3) (j := 3) (Nat.le_of_ble_eq_true rfl) (xd_3 _ _) rfl iw_8 (Nat.le_of_ble_eq_true rfl) g_77 rfl rfl dX10_lookAt_24 ?_
  refine lv_iload_n hx hb dX10_lookAt_27 rfl (lv_at hl 2 rfl) ?_
  have h3 := chk_1 hf
  replace hf := chk_2 hf
  refine paI C hP (k := 7) (Nat.le_of_ble_eq_true rfl) (xd_7 _ _) h3 dX10_lookAt_28 ?_
  obtain ⟨r4, M5, h6, hf⟩ := bnd_s hf
  refine pcVv (As := [.int a2, .int (M.1 (k0 + 1) a2.toNatClampNeg), .int (M.1 8 a2.toNatClampNeg), .int (M.1 7 a2.toNatClampNeg)]) C hP hS (k := 11) (Nat.le_of_ble_eq_true rfl) (xd_11 _ _) rfl (c2_setPlace  h6) y2_setPlace_w g_790 rfl rfl rfl ⟨Nat.le_of_ble_eq_true rfl, Nat.le_of_ble_eq_true rfl⟩ hl.1 rfl (Nat.le_of_ble_eq_true rfl) dX10_lookAt_29 ⟨Nat.le_of_ble_eq_true rfl, Nat.le_of_ble_eq_true rfl⟩ (fun H locs hP hS => ?_)
  exact prV C hr hk hP hS hf dX10_lookAt_32
theorem c10_lookAt {l : Launch} {z : Zt} {b n : Nat} {k0 : Nat} (hk0 : isCo k0) {a2 : Int32} {M M' : Mem} {r : Unit} (hf : f10_lookAt n k0 a2 M = some (r, M')) : CV l z (xd z b) 339 b yX10_lookAt cX10_lookAt 3 none rm10_lookAt [.ref (b + 23), .ref (b + k0), .int a2] M M' :=
  CV.ofW (lv := [(0, .ref (b + 23)), (1, .ref (b + k0)), (2, .int a2)]) (by decide) (Nat.le_of_ble_eq_true rfl) rfl (fun p e s m args below meth c ls C hr hk hP hS hl => w10_lookAt_0 (n := n) hk0 C hr hk  hf hP hS hl)

-- BronzeKing$Walker.nextPlace(LBronzeKing$Course;II)I
theorem dX10_nextPlace_0 : decode cX10_nextPlace 0 = .ok (.iload_n 2, 1) := by decide +kernel
theorem dX10_nextPlace_1 : decode cX10_nextPlace 1 = .ok (.aload_n 0, 1) := by decide +kernel
theorem dX10_nextPlace_2 : decode cX10_nextPlace 2 = .ok (.getfield 15, 3) := by decide +kernel
theorem dX10_nextPlace_5 : decode cX10_nextPlace 5 = .ok (.getfield 53, 3) := by decide +kernel
theorem dX10_nextPlace_8 : decode cX10_nextPlace 8 = .ok (.if_icmp .eq 28, 3) := by decide +kernel
theorem dX10_nextPlace_11 : decode cX10_nextPlace 11 = .ok (.aload_n 0, 1) := by decide +kernel
theorem dX10_nextPlace_12 : decode cX10_nextPlace 12 = .ok (.getfield 15, 3) := by decide +kernel
theorem dX10_nextPlace_15 : decode cX10_nextPlace 15 = .ok (.getfield 88, 3) := by decide +kernel
theorem dX10_nextPlace_18 : decode cX10_nextPlace 18 = .ok (.iload_n 2, 1) := by decide +kernel
theorem dX10_nextPlace_19 : decode cX10_nextPlace 19 = .ok (.iaload, 1) := by decide +kernel
theorem dX10_nextPlace_20 : decode cX10_nextPlace 20 = .ok (.bipush 59, 2) := by decide +kernel
theorem dX10_nextPlace_22 : decode cX10_nextPlace 22 = .ok (.iload_n 3, 1) := by decide +kernel
theorem dX10_nextPlace_23 : decode cX10_nextPlace 23 = .ok (.isub, 1) := by decide +kernel
theorem dX10_nextPlace_24 : decode cX10_nextPlace 24 = .ok (.if_icmp .lt 12, 3) := by decide +kernel
theorem dX10_nextPlace_27 : decode cX10_nextPlace 27 = .ok (.aload_n 0, 1) := by decide +kernel
theorem dX10_nextPlace_28 : decode cX10_nextPlace 28 = .ok (.getfield 15, 3) := by decide +kernel
theorem dX10_nextPlace_31 : decode cX10_nextPlace 31 = .ok (.iload_n 2, 1) := by decide +kernel
theorem dX10_nextPlace_32 : decode cX10_nextPlace 32 = .ok (.invokevirtual 96, 3) := by decide +kernel
theorem dX10_nextPlace_35 : decode cX10_nextPlace 35 = .ok (.ireturn, 1) := by decide +kernel
theorem dX10_nextPlace_36 : decode cX10_nextPlace 36 = .ok (.aload_n 0, 1) := by decide +kernel
theorem dX10_nextPlace_37 : decode cX10_nextPlace 37 = .ok (.aload_n 1, 1) := by decide +kernel
theorem dX10_nextPlace_38 : decode cX10_nextPlace 38 = .ok (.iload_n 2, 1) := by decide +kernel
theorem dX10_nextPlace_39 : decode cX10_nextPlace 39 = .ok (.invokevirtual 99, 3) := by decide +kernel
theorem dX10_nextPlace_42 : decode cX10_nextPlace 42 = .ok (.aload_n 0, 1) := by decide +kernel
theorem dX10_nextPlace_43 : decode cX10_nextPlace 43 = .ok (.getfield 19, 3) := by decide +kernel
theorem dX10_nextPlace_46 : decode cX10_nextPlace 46 = .ok (.invokevirtual 102, 3) := by decide +kernel
theorem dX10_nextPlace_49 : decode cX10_nextPlace 49 = .ok (.ifCond .eq 5, 3) := by decide +kernel
theorem dX10_nextPlace_52 : decode cX10_nextPlace 52 = .ok (.iload_n 2, 1) := by decide +kernel
theorem dX10_nextPlace_53 : decode cX10_nextPlace 53 = .ok (.ireturn, 1) := by decide +kernel
theorem dX10_nextPlace_54 : decode cX10_nextPlace 54 = .ok (.iconst 0, 1) := by decide +kernel
theorem dX10_nextPlace_55 : decode cX10_nextPlace 55 = .ok (.istore 4, 2) := by decide +kernel
theorem dX10_nextPlace_57 : decode cX10_nextPlace 57 = .ok (.iload_n 2, 1) := by decide +kernel
theorem dX10_nextPlace_58 : decode cX10_nextPlace 58 = .ok (.istore 5, 2) := by decide +kernel
theorem dX10_nextPlace_60 : decode cX10_nextPlace 60 = .ok (.iconst 0, 1) := by decide +kernel
theorem dX10_nextPlace_61 : decode cX10_nextPlace 61 = .ok (.istore 6, 2) := by decide +kernel
theorem dX10_nextPlace_63 : decode cX10_nextPlace 63 = .ok (.iload 6, 2) := by decide +kernel
theorem dX10_nextPlace_65 : decode cX10_nextPlace 65 = .ok (.iconst 4, 1) := by decide +kernel
theorem dX10_nextPlace_66 : decode cX10_nextPlace 66 = .ok (.if_icmp .ge 75, 3) := by decide +kernel
theorem dX10_nextPlace_69 : decode cX10_nextPlace 69 = .ok (.iload_n 2, 1) := by decide +kernel
theorem dX10_nextPlace_70 : decode cX10_nextPlace 70 = .ok (.iload 6, 2) := by decide +kernel
theorem dX10_nextPlace_72 : decode cX10_nextPlace 72 = .ok (.invokestatic 106, 3) := by decide +kernel
theorem dX10_nextPlace_75 : decode cX10_nextPlace 75 = .ok (.istore 7, 2) := by decide +kernel
theorem dX10_nextPlace_77 : decode cX10_nextPlace 77 = .ok (.aload_n 0, 1) := by decide +kernel
theorem dX10_nextPlace_78 : decode cX10_nextPlace 78 = .ok (.getfield 15, 3) := by decide +kernel
theorem dX10_nextPlace_81 : decode cX10_nextPlace 81 = .ok (.iload 7, 2) := by decide +kernel
theorem dX10_nextPlace_83 : decode cX10_nextPlace 83 = .ok (.invokevirtual 109, 3) := by decide +kernel
theorem dX10_nextPlace_86 : decode cX10_nextPlace 86 = .ok (.ifCond .eq 49, 3) := by decide +kernel
theorem dX10_nextPlace_89 : decode cX10_nextPlace 89 = .ok (.aload_n 0, 1) := by decide +kernel
theorem dX10_nextPlace_90 : decode cX10_nextPlace 90 = .ok (.aload_n 1, 1) := by decide +kernel
theorem dX10_nextPlace_91 : decode cX10_nextPlace 91 = .ok (.iload 7, 2) := by decide +kernel
theorem dX10_nextPlace_93 : decode cX10_nextPlace 93 = .ok (.invokevirtual 99, 3) := by decide +kernel
theorem dX10_nextPlace_96 : decode cX10_nextPlace 96 = .ok (.aload_n 0, 1) := by decide +kernel
theorem dX10_nextPlace_97 : decode cX10_nextPlace 97 = .ok (.getfield 19, 3) := by decide +kernel
theorem dX10_nextPlace_100 : decode cX10_nextPlace 100 = .ok (.bipush 101, 2) := by decide +kernel
theorem dX10_nextPlace_102 : decode cX10_nextPlace 102 = .ok (.sipush 9999, 3) := by decide +kernel
theorem dX10_nextPlace_105 : decode cX10_nextPlace 105 = .ok (.invokevirtual 113, 3) := by decide +kernel
theorem dX10_nextPlace_108 : decode cX10_nextPlace 108 = .ok (.istore 8, 2) := by decide +kernel
theorem dX10_nextPlace_110 : decode cX10_nextPlace 110 = .ok (.iload 8, 2) := by decide +kernel
theorem dX10_nextPlace_112 : decode cX10_nextPlace 112 = .ok (.iload 4, 2) := by decide +kernel
theorem dX10_nextPlace_114 : decode cX10_nextPlace 114 = .ok (.if_icmp .le 8, 3) := by decide +kernel
theorem dX10_nextPlace_117 : decode cX10_nextPlace 117 = .ok (.iload 7, 2) := by decide +kernel
theorem dX10_nextPlace_119 : decode cX10_nextPlace 119 = .ok (.goto 5, 3) := by decide +kernel
theorem dX10_nextPlace_122 : decode cX10_nextPlace 122 = .ok (.iload 5, 2) := by decide +kernel
theorem dX10_nextPlace_124 : decode cX10_nextPlace 124 = .ok (.istore 5, 2) := by decide +kernel
theorem dX10_nextPlace_126 : decode cX10_nextPlace 126 = .ok (.iload 4, 2) := by decide +kernel
theorem dX10_nextPlace_128 : decode cX10_nextPlace 128 = .ok (.iload 8, 2) := by decide +kernel
theorem dX10_nextPlace_130 : decode cX10_nextPlace 130 = .ok (.invokestatic 91, 3) := by decide +kernel
theorem dX10_nextPlace_133 : decode cX10_nextPlace 133 = .ok (.istore 4, 2) := by decide +kernel
theorem dX10_nextPlace_135 : decode cX10_nextPlace 135 = .ok (.iinc 6 1, 3) := by decide +kernel
theorem dX10_nextPlace_138 : decode cX10_nextPlace 138 = .ok (.goto (-75), 3) := by decide +kernel
theorem dX10_nextPlace_141 : decode cX10_nextPlace 141 = .ok (.iload 5, 2) := by decide +kernel
theorem dX10_nextPlace_143 : decode cX10_nextPlace 143 = .ok (.ireturn, 1) := by decide +kernel
def b10_nextPlace_135 (k0 : Nat) (rc : Nat → List Int32 → List Int64 → Mem → Option (Int32 × Mem)) (n : Nat) (i2 : Int32) (i4 : Int32) (i5 : Int32) (i6 : Int32) (M : Mem) : Option (Int32 × Mem) :=
  lt (i6 + (1 : Int32)) fun v30 =>
  rc 63 [i2, i4, i5, v30] [] M
def b10_nextPlace_124 (k0 : Nat) (rc : Nat → List Int32 → List Int64 → Mem → Option (Int32 × Mem)) (n : Nat) (i2 : Int32) (i4 : Int32) (i6 : Int32) (i8 : Int32) (s0 : Int32) (M : Mem) : Option (Int32 × Mem) :=
  lt (if i4 < i8 then i8 else i4) fun v29 =>
  b10_nextPlace_135 k0 rc n i2 v29 s0 i6 M
def b10_nextPlace_63 (k0 : Nat) (rc : Nat → List Int32 → List Int64 → Mem → Option (Int32 × Mem)) (n : Nat) (i2 : Int32) (i4 : Int32) (i5 : Int32) (i6 : Int32) (M : Mem) : Option (Int32 × Mem) :=
  (if (4 : Int32) ≤ i6 then (
   some (i5, M))
  else (
   bnd (f11_beside n i2 i6 M) fun r15 M16 =>
   bnd (f8_isOpen n r15 M16) fun r18 M19 =>
   (if r18 = 0 then (
    b10_nextPlace_135 k0 rc n i2 i4 i5 i6 M19)
   else (
    bnd (f10_lookAt n k0 r15 M19) fun r22 M23 =>
    bnd (f2_valueOf n (101 : Int32) (9999 : Int32) M23) fun r25 M26 =>
    (if r25 ≤ i4 then (
     b10_nextPlace_124 k0 rc n i2 i4 i6 r25 i5 M26)
    else (
     b10_nextPlace_124 k0 rc n i2 i4 i6 r25 r15 M26))))))
def b10_nextPlace_36 (k0 : Nat) (rc : Nat → List Int32 → List Int64 → Mem → Option (Int32 × Mem)) (n : Nat) (i2 : Int32) (M : Mem) : Option (Int32 × Mem) :=
  bnd (f10_lookAt n k0 i2 M) fun r7 M8 =>
  bnd (f2_standsStill n M8) fun r10 M11 =>
  (if r10 = 0 then (
   b10_nextPlace_63 k0 rc n i2 (0 : Int32) i2 (0 : Int32) M11)
  else (
   some (i2, M11)))
def b10_nextPlace_0 (k0 : Nat) (rc : Nat → List Int32 → List Int64 → Mem → Option (Int32 × Mem)) (n : Nat) (a2 : Int32) (a3 : Int32) (M : Mem) : Option (Int32 × Mem) :=
  (if a2 = (M.1 3 7) then (
   b10_nextPlace_36 k0 rc n a2 M)
  else (
   chk (inb a2 96) <|
   (if (M.1 7 a2.toNatClampNeg) < ((59 : Int32) - a3) then (
    b10_nextPlace_36 k0 rc n a2 M)
   else (
    bnd (f8_stepHome n a2 M) fun r4 M5 =>
    some (r4, M5)))))
def r10_nextPlace (k0 : Nat) : Nat → Nat → List Int32 → List Int64 → Mem → Option (Int32 × Mem)
  | 0 => fun _ _ _ _ => none
  | n + 1 => fun pc li lj M =>
    if pc = 63 then (match li, lj with | [i2, i4, i5, i6], [] => b10_nextPlace_63 k0 (r10_nextPlace k0 n) n i2 i4 i5 i6 M | _, _ => none) else
    none
theorem e10_nextPlace_63 (k0 : Nat) (n : Nat) (i2 : Int32) (i4 : Int32) (i5 : Int32) (i6 : Int32) (M : Mem) : r10_nextPlace k0 (n + 1) 63 [i2, i4, i5, i6] [] M = b10_nextPlace_63 k0 (r10_nextPlace k0 n) n i2 i4 i5 i6 M := by
  rw [r10_nextPlace]
  simp
def f10_nextPlace (n : Nat) (k0 : Nat) (a2 : Int32) (a3 : Int32) (M : Mem) : Option (Int32 × Mem) := b10_nextPlace_0 k0 (r10_nextPlace k0 n) n a2 a3 M
abbrev rm10_nextPlace : Room := { frames := 3, cells := 0, slots := 0, locals := 72 }
theorem y10_nextPlace_w : yV RX10 yX10_nextPlace cX10_nextPlace 9 (some .int) 3 := ⟨g_780, gp 23 rfl rfl, g_8, g_781, rfl, by decide, by decide, by decide +kernel⟩
set_option maxHeartbeats 4000000 in
set_option maxRecDepth 100000 in
theorem w10_nextPlace_135 {p : Program} {l : Launch} {e : Env} {s : State} {m : MethodId} {args : Array Value} {below : List Frame} {meth : Method} {c : Code} {z : Zt} {b : Nat} {k0 : Nat} (hk0 : isCo k0) (C : Cx p s m args c cX10_nextPlace 9 RX10 z 339 b) (hr : meth.sig.returnType = (some .int)) (hk : meth.locks = false) {r : Int32} {M' : Mem} {rc : Nat → List Int32 → List Int64 → Mem → Option (Int32 × Mem)} {n : Nat} (q63 : ∀ (i2 : Int32) (i4 : Int32) (i5 : Int32) (i6 : Int32) (M : Mem) (H : Heap) (locs : List Loc) (ls : Array Slot), rc 63 [i2, i4, i5, i6] [] M = some (r, M') → va_P z.1 vwCl (pw (xd z b) 339 b M) H → va_S (pA 339 b) s.heap H locs → lv_has ls 9 [(0, .ref (b + 23)), (1, .ref (b + k0)), (2, .int i2), (4, .int i4), (5, .int i5), (6, .int i6)] → W p l e rm10_nextPlace s m args below meth c H locs 0 0 (MQ below (va_Qi (fun (r' : Int32) (M2 : Mem) => r' = r ∧ M2 = M') (fun M2 t => va_P z.1 vwCl (pw (xd z b) 339 b M2) t.heap) (pA 339 b)) args s 0 0 (pA 339 b)) (F0 m 63 ls [])) {i2 : Int32} {i4 : Int32} {i5 : Int32} {i6 : Int32} {M : Mem} {H : Heap} {locs : List Loc} {ls : Array Slot} (hf : b10_nextPlace_135 k0 rc n i2 i4 i5 i6 M = some (r, M')) (hP : va_P z.1 vwCl (pw (xd z b) 339 b M) H) (hS : va_S (pA 339 b) s.heap H locs) (hl : lv_has ls 9 [(0, .ref (b + 23)), (1, .ref (b + k0)), (2, .int i2), (4, .int i4), (5, .int i5), (6, .int i6)]) : W p l e rm10_nextPlace s m args below meth c H locs 0 0 (MQ below (va_Qi (fun (r' : Int32) (M2 : Mem) => r' = r ∧ M2 = M') (fun M2 t => va_P z.1 vwCl (pw (xd z b) 339 b M2) t.heap) (pA 339 b)) args s 0 0 (pA 339 b)) (F0 m 135 ls []) := by
  have hx := C.1.1
  have hb := C.1.2.1
  unfold b10_nextPlace_135 at hf
  obtain ⟨v30, ev30⟩ : ∃ v : Int32, v = i6 + (1 : Int32) := ⟨_, rfl⟩
  replace hf := lt_c ev30 hf
  refine lv_iinc (v := v30) (lv' := [(6, .int v30), (0, .ref (b + 23)), (1, .ref (b + k0)), (2, .int i2), (4, .int i4), (5, .int i5)]) hx hb dX10_nextPlace_135 hl (k := 5) rfl (by rw [ev30]; rfl) (by decide) rfl (fun ls hl => ?_)
  refine lv_goto (tgt := 63) hx hb dX10_nextPlace_138 (by decide) ?_
  exact q63 i2 i4 i5 v30 M _ _ _ hf hP hS (lv_sub hl [1, 2, 3, 4, 5, 0] rfl)
set_option maxHeartbeats 4000000 in
set_option maxRecDepth 100000 in
theorem w10_nextPlace_124 {p : Program} {l : Launch} {e : Env} {s : State} {m : MethodId} {args : Array Value} {below : List Frame} {meth : Method} {c : Code} {z : Zt} {b : Nat} {k0 : Nat} (hk0 : isCo k0) (C : Cx p s m args c cX10_nextPlace 9 RX10 z 339 b) (hr : meth.sig.returnType = (some .int)) (hk : meth.locks = false) {r : Int32} {M' : Mem} {rc : Nat → List Int32 → List Int64 → Mem → Option (Int32 × Mem)} {n : Nat} (q63 : ∀ (i2 : Int32) (i4 : Int32) (i5 : Int32) (i6 : Int32) (M : Mem) (H : Heap) (locs : List Loc) (ls : Array Slot), rc 63 [i2, i4, i5, i6] [] M = some (r, M') → va_P z.1 vwCl (pw (xd z b) 339 b M) H → va_S (pA 339 b) s.heap H locs → lv_has ls 9 [(0, .ref (b + 23)), (1, .ref (b + k0)), (2, .int i2), (4, .int i4), (5, .int i5), (6, .int i6)] → W p l e rm10_nextPlace s m args below meth c H locs 0 0 (MQ below (va_Qi (fun (r' : Int32) (M2 : Mem) => r' = r ∧ M2 = M') (fun M2 t => va_P z.1 vwCl (pw (xd z b) 339 b M2) t.heap) (pA 339 b)) args s 0 0 (pA 339 b)) (F0 m 63 ls [])) {i2 : Int32} {i4 : Int32} {i6 : Int32} {i8 : Int32} {s0 : Int32} {M : Mem} {H : Heap} {locs : List Loc} {ls : Array Slot} (hf : b10_nextPlace_124 k0 rc n i2 i4 i6 i8 s0 M = some (r, M')) (hP : va_P z.1 vwCl (pw (xd z b) 339 b M) H) (hS : va_S (pA 339 b) s.heap H locs) (hl : lv_has ls 9 [(0, .ref (b + 23)), (1, .ref (b + k0)), (2, .int i2), (4, .int i4), (6, .int i6), (8, .int i8)]) : W p l e rm10_nextPlace s m args below meth c H locs 0 0 (MQ below (va_Qi (fun (r' : Int32) (M2 : Mem) => r' = r ∧ M2 = M') (fun M2 t => va_P z.1 vwCl (pw (xd z b) 339 b M2) t.heap) (pA 339 b)) args s 0 0 (pA 339 b)) (F0 m 124 ls [.int s0]) := by
  have hx := C.1.1
  have hb := C.1.2.1
  unfold b10_nextPlace_124 at hf
  refine lv_istore (lv' := [(5, .int s0), (0, .ref (b + 23)), (1, .ref (b + k0)), (2, .int i2), (4, .int i4), (6, .int i6), (8, .int i8)]) hx hb dX10_nextPlace_124 hl (by decide) rfl (fun ls hl => ?_)
  refine lv_iload hx hb dX10_nextPlace_126 (lv_at hl 4 rfl) ?_
  refine lv_iload hx hb dX10_nextPlace_128 (lv_at hl 6 rfl) ?_
  refine va_mmax hx hb (by rw [C.1.2.2.1]; exact hl.1.symm) C.1.2.2.2.1 (C.1.2.2.2.2 _ g_801) (C.1.2.2.2.2 _ g_564) (C.1.2.2.2.2 _ g_17) (C.1.2.2.2.2 _ g_565) (Nat.le_of_ble_eq_true rfl) (Nat.le_of_ble_eq_true rfl) (Nat.le_of_ble_eq_true rfl) (Nat.le_of_ble_eq_true rfl) dX10_nextPlace_130 ?_
  refine lv_topi (fun v29 ev29 => ?_)
  replace hf := lt_c ev29 hf
  refine lv_istore (lv' := [(4, .int v29), (5, .int s0), (0, .ref (b + 23)), (1, .ref (b + k0)), (2, .int i2), (6, .int i6), (8, .int i8)]) hx hb dX10_nextPlace_133 hl (by decide) rfl (fun ls hl => ?_)
  exact w10_nextPlace_135 (n := n) hk0 C hr hk q63 hf hP hS (lv_sub hl [2, 3, 4, 0, 1, 5] rfl)
set_option maxHeartbeats 4000000 in
set_option maxRecDepth 100000 in
theorem w10_nextPlace_63 {p : Program} {l : Launch} {e : Env} {s : State} {m : MethodId} {args : Array Value} {below : List Frame} {meth : Method} {c : Code} {z : Zt} {b : Nat} {k0 : Nat} (hk0 : isCo k0) (C : Cx p s m args c cX10_nextPlace 9 RX10 z 339 b) (hr : meth.sig.returnType = (some .int)) (hk : meth.locks = false) {r : Int32} {M' : Mem} {rc : Nat → List Int32 → List Int64 → Mem → Option (Int32 × Mem)} {n : Nat} (q63 : ∀ (i2 : Int32) (i4 : Int32) (i5 : Int32) (i6 : Int32) (M : Mem) (H : Heap) (locs : List Loc) (ls : Array Slot), rc 63 [i2, i4, i5, i6] [] M = some (r, M') → va_P z.1 vwCl (pw (xd z b) 339 b M) H → va_S (pA 339 b) s.heap H locs → lv_has ls 9 [(0, .ref (b + 23)), (1, .ref (b + k0)), (2, .int i2), (4, .int i4), (5, .int i5), (6, .int i6)] → W p l e rm10_nextPlace s m args below meth c H locs 0 0 (MQ below (va_Qi (fun (r' : Int32) (M2 : Mem) => r' = r ∧ M2 = M') (fun M2 t => va_P z.1 vwCl (pw (xd z b) 339 b M2) t.heap) (pA 339 b)) args s 0 0 (pA 339 b)) (F0 m 63 ls [])) {i2 : Int32} {i4 : Int32} {i5 : Int32} {i6 : Int32} {M : Mem} {H : Heap} {locs : List Loc} {ls : Array Slot} (hf : b10_nextPlace_63 k0 rc n i2 i4 i5 i6 M = some (r, M')) (hP : va_P z.1 vwCl (pw (xd z b) 339 b M) H) (hS : va_S (pA 339 b) s.heap H locs) (hl : lv_has ls 9 [(0, .ref (b + 23)), (1, .ref (b + k0)), (2, .int i2), (4, .int i4), (5, .int i5), (6, .int i6)]) : W p l e rm10_nextPlace s m args below meth c H locs 0 0 (MQ below (va_Qi (fun (r' : Int32) (M2 : Mem) => r' = r ∧ M2 = M') (fun M2 t => va_P z.1 vwCl (pw (xd z b) 339 b M2) t.heap) (pA 339 b)) args s 0 0 (pA 339 b)) (F0 m 63 ls []) := by
  have hx := C.1.1
  have hb := C.1.2.1
  unfold b10_nextPlace_63 at hf
  refine lv_iload hx hb dX10_nextPlace_63 (lv_at hl 5 rfl) ?_
  refine lv_iconst (v := (4 : Int32)) hx hb dX10_nextPlace_65 (by decide) ?_
  refine lv_icmp_ge (tgt := 141) hx hb dX10_nextPlace_66 (by decide) (fun c14 => ?_) (fun c14 => ?_)
  · replace hf := ite_t c14 hf
    refine lv_iload hx hb dX10_nextPlace_141 (lv_at hl 4 rfl) ?_
    exact prI C hr hk hP hS hf dX10_nextPlace_143
  · replace hf := ite_f c14 hf
    refine lv_iload_n hx hb dX10_nextPlace_69 rfl (lv_at hl 2 rfl) ?_
    refine lv_iload hx hb dX10_nextPlace_70 (lv_at hl 5 rfl) ?_
    obtain ⟨r15, M16, h17, hf⟩ := bnd_s hf
    refine pcTi (As := [.int i2, .int i6]) C hP hS (c11_beside  h17) y11_beside_w g_798 rfl rfl rfl ⟨Nat.le_of_ble_eq_true rfl, Nat.le_of_ble_eq_true rfl⟩ hl.1 rfl (Nat.le_of_ble_eq_true rfl) dX10_nextPlace_72 ⟨Nat.le_of_ble_eq_true rfl, Nat.le_of_ble_eq_true rfl⟩ (fun H locs hP hS => ?_)
    refine lv_istore (lv' := [(7, .int r15), (0, .ref (b + 23)), (1, .ref (b + k0)), (2, .int i2), (4, .int i4), (5, .int i5), (6, .int i6)]) hx hb dX10_nextPlace_75 hl (by decide) rfl (fun ls hl => ?_)
    refine lv_aload_n hx hb dX10_nextPlace_77 rfl (lv_at hl 1 rfl) ?_
    refine pg C hP (k := 23) (j := 0) (Nat.le_of_ble_eq_true rfl) (xd_23 _ _) rfl iw_10 (Nat.le_of_ble_eq_true rfl) g_198 rfl rfl dX10_nextPlace_78 ?_
    refine lv_iload hx hb dX10_nextPlace_81 (lv_at hl 0 rfl) ?_
    obtain ⟨r18, M19, h20, hf⟩ := bnd_s hf
    refine pcVi (As := [.int r15]) C hP hS (k := 3) (Nat.le_of_ble_eq_true rfl) (xd_3 _ _) rfl (c8_isOpen  h20) y8_isOpen_w g_799 rfl rfl rfl ⟨Nat.le_of_ble_eq_true rfl, Nat.le_of_ble_eq_true rfl⟩ hl.1 rfl (Nat.le_of_ble_eq_true rfl) dX10_nextPlace_83 ⟨Nat.le_of_ble_eq_true rfl, Nat.le_of_ble_eq_true rfl⟩ (fun H locs hP hS => ?_)
    refine lv_if_eq (tgt := 135) hx hb dX10_nextPlace_86 (by decide) (fun c21 => ?_) (fun c21 => ?_)
    · replace hf := ite_t c21 hf
      exact w10_nextPlace_135 (n := n) hk0 C hr hk q63 hf hP hS (lv_sub hl [1, 2, 3, 4, 5, 6] rfl)
    · replace hf := ite_f c21 hf
      refine lv_aload_n hx hb dX10_nextPlace_89 rfl (lv_at hl 1 rfl) ?_
      refine lv_aload_n hx hb dX10_nextPlace_90 rfl (lv_at hl 2 rfl) ?_
      refine lv_iload hx hb dX10_nextPlace_91 (lv_at hl 0 rfl) ?_
      obtain ⟨r22, M23, h24, hf⟩ := bnd_s hf
      refine pcVv (As := [.ref (b + k0), .int r15]) C hP hS (k := 23) (Nat.le_of_ble_eq_true rfl) (xd_23 _ _) rfl (c10_lookAt hk0 h24) y10_lookAt_w g_786 rfl rfl rfl ⟨Nat.le_of_ble_eq_true rfl, Nat.le_of_ble_eq_true rfl⟩ hl.1 rfl (Nat.le_of_ble_eq_true rfl) dX10_nextPlace_93 ⟨Nat.le_of_ble_eq_true rfl, Nat.le_of_ble_eq_true rfl⟩ (fun H locs hP hS => ?_)
      refine lv_aload_n hx hb dX10_nextPlace_96 rfl (lv_at hl 1 rfl) ?_
      refine pg C hP (k := 23) (j := 1) (Nat.le_of_ble_eq_true rfl) (xd_23 _ _) rfl iw_10 (Nat.le_of_ble_eq_true rfl) g_199 rfl rfl dX10_nextPlace_97 ?_
      refine lv_bipush (v := (101 : Int32)) hx hb dX10_nextPlace_100 (by decide) ?_
      refine lv_sipush (v := (9999 : Int32)) hx hb dX10_nextPlace_102 (by decide) ?_
      obtain ⟨r25, M26, h27, hf⟩ := bnd_s hf
      refine pcVi (As := [.int (101 : Int32), .int (9999 : Int32)]) C hP hS (k := 11) (Nat.le_of_ble_eq_true rfl) (xd_11 _ _) rfl (c2_valueOf  h27) y2_valueOf_w g_800 rfl rfl rfl ⟨Nat.le_of_ble_eq_true rfl, Nat.le_of_ble_eq_true rfl⟩ hl.1 rfl (Nat.le_of_ble_eq_true rfl) dX10_nextPlace_105 ⟨Nat.le_of_ble_eq_true rfl, Nat.le_of_ble_eq_true rfl⟩ (fun H locs hP hS => ?_)
      refine lv_istore (lv' := [(8, .int r25), (7, .int r15), (0, .ref (b + 23)), (1, .ref (b + k0)), (2, .int i2), (4, .int i4), (5, .int i5), (6, .int i6)]) hx hb dX10_nextPlace_108 hl (by decide) rfl (fun ls hl => ?_)
      refine lv_iload hx hb dX10_nextPlace_110 (lv_at hl 0 rfl) ?_
      refine lv_iload hx hb dX10_nextPlace_112 (lv_at hl 5 rfl) ?_
      refine lv_icmp_le (tgt := 122) hx hb dX10_nextPlace_114 (by decide) (fun c28 => ?_) (fun c28 => ?_)
      · replace hf := ite_t c28 hf
        refine lv_iload hx hb dX10_nextPlace_122 (lv_at hl 6 rfl) ?_
        exact w10_nextPlace_124 (n := n) hk0 C hr hk q63 hf hP hS (lv_sub hl [2, 3, 4, 5, 7, 0] rfl)
      · replace hf := ite_f c28 hf
        refine lv_iload hx hb dX10_nextPlace_117 (lv_at hl 1 rfl) ?_
        refine lv_goto (tgt := 124) hx hb dX10_nextPlace_119 (by decide) ?_
        exact w10_nextPlace_124 (n := n) hk0 C hr hk q63 hf hP hS (lv_sub hl [2, 3, 4, 5, 7, 0] rfl)
set_option maxHeartbeats 4000000 in
set_option maxRecDepth 100000 in
theorem w10_nextPlace_36 {p : Program} {l : Launch} {e : Env} {s : State} {m : MethodId} {args : Array Value} {below : List Frame} {meth : Method} {c : Code} {z : Zt} {b : Nat} {k0 : Nat} (hk0 : isCo k0) (C : Cx p s m args c cX10_nextPlace 9 RX10 z 339 b) (hr : meth.sig.returnType = (some .int)) (hk : meth.locks = false) {r : Int32} {M' : Mem} {rc : Nat → List Int32 → List Int64 → Mem → Option (Int32 × Mem)} {n : Nat} (q63 : ∀ (i2 : Int32) (i4 : Int32) (i5 : Int32) (i6 : Int32) (M : Mem) (H : Heap) (locs : List Loc) (ls : Array Slot), rc 63 [i2, i4, i5, i6] [] M = some (r, M') → va_P z.1 vwCl (pw (xd z b) 339 b M) H → va_S (pA 339 b) s.heap H locs → lv_has ls 9 [(0, .ref (b + 23)), (1, .ref (b + k0)), (2, .int i2), (4, .int i4), (5, .int i5), (6, .int i6)] → W p l e rm10_nextPlace s m args below meth c H locs 0 0 (MQ below (va_Qi (fun (r' : Int32) (M2 : Mem) => r' = r ∧ M2 = M') (fun M2 t => va_P z.1 vwCl (pw (xd z b) 339 b M2) t.heap) (pA 339 b)) args s 0 0 (pA 339 b)) (F0 m 63 ls [])) {i2 : Int32} {M : Mem} {H : Heap} {locs : List Loc} {ls : Array Slot} (hf : b10_nextPlace_36 k0 rc n i2 M = some (r, M')) (hP : va_P z.1 vwCl (pw (xd z b) 339 b M) H) (hS : va_S (pA 339 b) s.heap H locs) (hl : lv_has ls 9 [(0, .ref (b + 23)), (1, .ref (b + k0)), (2, .int i2)]) : W p l e rm10_nextPlace s m args below meth c H locs 0 0 (MQ below (va_Qi (fun (r' : Int32) (M2 : Mem) => r' = r ∧ M2 = M') (fun M2 t => va_P z.1 vwCl (pw (xd z b) 339 b M2) t.heap) (pA 339 b)) args s 0 0 (pA 339 b)) (F0 m 36 ls []) := by
  have hx := C.1.1
  have hb := C.1.2.1
  unfold b10_nextPlace_36 at hf
  refine lv_aload_n hx hb dX10_nextPlace_36 rfl (lv_at hl 0 rfl) ?_
  refine lv_aload_n hx hb dX10_nextPlace_37 rfl (lv_at hl 1 rfl) ?_
  refine lv_iload_n hx hb dX10_nextPlace_38 rfl (lv_at hl 2 rfl) ?_
  obtain ⟨r7, M8, h9, hf⟩ := bnd_s hf
  refine pcVv (As := [.ref (b + k0), .int i2]) C hP hS (k := 23) (Nat.le_of_ble_eq_true rfl) (xd_23 _ _) rfl (c10_lookAt hk0 h9) y10_lookAt_w g_786 rfl rfl rfl ⟨Nat.le_of_ble_eq_true rfl, Nat.le_of_ble_eq_true rfl⟩ hl.1 rfl (Nat.le_of_ble_eq_true rfl) dX10_nextPlace_39 ⟨Nat.le_of_ble_eq_true rfl, Nat.le_of_ble_eq_true rfl⟩ (fun H locs hP hS => ?_)
  refine lv_aload_n hx hb dX10_nextPlace_42 rfl (lv_at hl 0 rfl) ?_
  refine pg C hP (k := 23) (j := 1) (Nat.le_of_ble_eq_true rfl) (xd_23 _ _) rfl iw_10 (Nat.le_of_ble_eq_true rfl) g_199 rfl rfl dX10_nextPlace_43 ?_
  obtain ⟨r10, M11, h12, hf⟩ := bnd_s hf
  refine pcVi (As := []) C hP hS (k := 11) (Nat.le_of_ble_eq_true rfl) (xd_11 _ _) rfl (c2_standsStill  h12) y2_standsStill_w g_794 rfl rfl rfl ⟨Nat.le_of_ble_eq_true rfl, Nat.le_of_ble_eq_true rfl⟩ hl.1 rfl (Nat.le_of_ble_eq_true rfl) dX10_nextPlace_46 ⟨Nat.le_of_ble_eq_true rfl, Nat.le_of_ble_eq_true rfl⟩ (fun H locs hP hS => ?_)
  refine lv_if_eq (tgt := 54) hx hb dX10_nextPlace_49 (by decide) (fun c13 => ?_) (fun c13 => ?_)
  · replace hf := ite_t c13 hf
    refine lv_iconst (v := (0 : Int32)) hx hb dX10_nextPlace_54 (by decide) ?_
    refine lv_istore (lv' := [(4, .int (0 : Int32)), (0, .ref (b + 23)), (1, .ref (b + k0)), (2, .int i2)]) hx hb dX10_nextPlace_55 hl (by decide) rfl (fun ls hl => ?_)
    refine lv_iload_n hx hb dX10_nextPlace_57 rfl (lv_at hl 3 rfl) ?_
    refine lv_istore (lv' := [(5, .int i2), (4, .int (0 : Int32)), (0, .ref (b + 23)), (1, .ref (b + k0)), (2, .int i2)]) hx hb dX10_nextPlace_58 hl (by decide) rfl (fun ls hl => ?_)
    refine lv_iconst (v := (0 : Int32)) hx hb dX10_nextPlace_60 (by decide) ?_
    refine lv_istore (lv' := [(6, .int (0 : Int32)), (5, .int i2), (4, .int (0 : Int32)), (0, .ref (b + 23)), (1, .ref (b + k0)), (2, .int i2)]) hx hb dX10_nextPlace_61 hl (by decide) rfl (fun ls hl => ?_)
    exact w10_nextPlace_63 (n := n) hk0 C hr hk q63 hf hP hS (lv_sub hl [3, 4, 5, 2, 1, 0] rfl)
  · replace hf := ite_f c13 hf
    refine lv_iload_n hx hb dX10_nextPlace_52 rfl (lv_at hl 2 rfl) ?_
    exact prI C hr hk hP hS hf dX10_nextPlace_53
set_option maxHeartbeats 4000000 in
set_option maxRecDepth 100000 in
theorem w10_nextPlace_0 {p : Program} {l : Launch} {e : Env} {s : State} {m : MethodId} {args : Array Value} {below : List Frame} {meth : Method} {c : Code} {z : Zt} {b : Nat} {k0 : Nat} (hk0 : isCo k0) (C : Cx p s m args c cX10_nextPlace 9 RX10 z 339 b) (hr : meth.sig.returnType = (some .int)) (hk : meth.locks = false) {r : Int32} {M' : Mem} {rc : Nat → List Int32 → List Int64 → Mem → Option (Int32 × Mem)} {n : Nat} (q63 : ∀ (i2 : Int32) (i4 : Int32) (i5 : Int32) (i6 : Int32) (M : Mem) (H : Heap) (locs : List Loc) (ls : Array Slot), rc 63 [i2, i4, i5, i6] [] M = some (r, M') → va_P z.1 vwCl (pw (xd z b) 339 b M) H → va_S (pA 339 b) s.heap H locs → lv_has ls 9 [(0, .ref (b + 23)), (1, .ref (b + k0)), (2, .int i2), (4, .int i4), (5, .int i5), (6, .int i6)] → W p l e rm10_nextPlace s m args below meth c H locs 0 0 (MQ below (va_Qi (fun (r' : Int32) (M2 : Mem) => r' = r ∧ M2 = M') (fun M2 t => va_P z.1 vwCl (pw (xd z b) 339 b M2) t.heap) (pA 339 b)) args s 0 0 (pA 339 b)) (F0 m 63 ls [])) {a2 : Int32} {a3 : Int32} {M : Mem} {H : Heap} {locs : List Loc} {ls : Array Slot} (hf : b10_nextPlace_0 k0 rc n a2 a3 M = some (r, M')) (hP : va_P z.1 vwCl (pw (xd z b) 339 b M) H) (hS : va_S (pA 339 b) s.heap H locs) (hl : lv_has ls 9 [(0, .ref (b + 23)), (1, .ref (b + k0)), (2, .int a2), (3, .int a3)]) : W p l e rm10_nextPlace s m args below meth c H locs 0 0 (MQ below (va_Qi (fun (r' : Int32) (M2 : Mem) => r' = r ∧ M2 = M') (fun M2 t => va_P z.1 vwCl (pw (xd z b) 339 b M2) t.heap) (pA 339 b)) args s 0 0 (pA 339 b)) (F0 m 0 ls []) := by
  have hx := C.1.1
  have hb := C.1.2.1
  unfold b10_nextPlace_0 at hf
  refine lv_iload_n hx hb dX10_nextPlace_0 rfl (lv_at hl 2 rfl) ?_
  refine lv_aload_n hx hb dX10_nextPlace_1 rfl (lv_at hl 0 rfl) ?_
  refine pg C hP (k := 23) (j := 0) (Nat.le_of_ble_eq_true rfl) (xd_23 _ _) rfl iw_10 (Nat.le_of_ble_eq_true rfl) g_198 rfl rfl dX10_nextPlace_2 ?_
  refine pgN C hP (k := 3) (j := 7) (Nat.le_of_ble_eq_true rfl) (xd_3 _ _) rfl iw_8 (Nat.le_of_ble_eq_true rfl) g_91 rfl rfl dX10_nextPlace_5 ?_
  refine lv_icmp_eq (tgt := 36) hx hb dX10_nextPlace_8 (by decide) (fun c1 => ?_) (fun c1 => ?_)
  · replace hf := ite_t c1 hf
    exact w10_nextPlace_36 (n := n) hk0 C hr hk q63 hf hP hS (lv_sub hl [0, 1, 2] rfl)
  · replace hf := ite_f c1 hf
    refine lv_aload_n hx hb dX10_nextPlace_11 rfl (lv_at hl 0 rfl) ?_
    refine pg C hP (k := 23) (j := 0) (Nat.le_of_ble_eq_true rfl) (xd_23 _ _) rfl iw_10 (Nat.le_of_ble_eq_true rfl) g_198 rfl rfl dX10_nextPlace_12 ?_
    refine pgN C hP (k := 3) (j := 3) (Nat.le_of_ble_eq_true rfl) (xd_3 _ _) rfl iw_8 (Nat.le_of_ble_eq_true rfl) g_77 rfl rfl dX10_nextPlace_15 ?_
    refine lv_iload_n hx hb dX10_nextPlace_18 rfl (lv_at hl 2 rfl) ?_
    have h2 := chk_1 hf
    replace hf := chk_2 hf
    refine paI C hP (k := 7) (Nat.le_of_ble_eq_true rfl) (xd_7 _ _) h2 dX10_nextPlace_19 ?_
    refine lv_bipush (v := (59 : Int32)) hx hb dX10_nextPlace_20 (by decide) ?_
    refine lv_iload_n hx hb dX10_nextPlace_22 rfl (lv_at hl 3 rfl) ?_
    refine lv_isub hx hb dX10_nextPlace_23 ?_
    refine lv_icmp_lt (tgt := 36) hx hb dX10_nextPlace_24 (by decide) (fun c3 => ?_) (fun c3 => ?_)
    · replace hf := ite_t c3 hf
      exact w10_nextPlace_36 (n := n) hk0 C hr hk q63 hf hP hS (lv_sub hl [0, 1, 2] rfl)
    · replace hf := ite_f c3 hf
      refine lv_aload_n hx hb dX10_nextPlace_27 rfl (lv_at hl 0 rfl) ?_
      refine pg C hP (k := 23) (j := 0) (Nat.le_of_ble_eq_true rfl) (xd_23 _ _) rfl iw_10 (Nat.le_of_ble_eq_true rfl) g_198 rfl rfl dX10_nextPlace_28 ?_
      refine lv_iload_n hx hb dX10_nextPlace_31 rfl (lv_at hl 2 rfl) ?_
      obtain ⟨r4, M5, h6, hf⟩ := bnd_s hf
      refine pcVi (As := [.int a2]) C hP hS (k := 3) (Nat.le_of_ble_eq_true rfl) (xd_3 _ _) rfl (c8_stepHome  h6) y8_stepHome_w g_782 rfl rfl rfl ⟨Nat.le_of_ble_eq_true rfl, Nat.le_of_ble_eq_true rfl⟩ hl.1 rfl (Nat.le_of_ble_eq_true rfl) dX10_nextPlace_32 ⟨Nat.le_of_ble_eq_true rfl, Nat.le_of_ble_eq_true rfl⟩ (fun H locs hP hS => ?_)
      exact prI C hr hk hP hS hf dX10_nextPlace_35
set_option maxHeartbeats 4000000 in
set_option maxRecDepth 100000 in
theorem l10_nextPlace {p : Program} {l : Launch} {e : Env} {s : State} {m : MethodId} {args : Array Value} {below : List Frame} {meth : Method} {c : Code} {z : Zt} {b : Nat} {k0 : Nat} (hk0 : isCo k0) (C : Cx p s m args c cX10_nextPlace 9 RX10 z 339 b) (hr : meth.sig.returnType = (some .int)) (hk : meth.locks = false) {r : Int32} {M' : Mem} (n : Nat) : (∀ (i2 : Int32) (i4 : Int32) (i5 : Int32) (i6 : Int32) (M : Mem) (H : Heap) (locs : List Loc) (ls : Array Slot), (r10_nextPlace k0 n) 63 [i2, i4, i5, i6] [] M = some (r, M') → va_P z.1 vwCl (pw (xd z b) 339 b M) H → va_S (pA 339 b) s.heap H locs → lv_has ls 9 [(0, .ref (b + 23)), (1, .ref (b + k0)), (2, .int i2), (4, .int i4), (5, .int i5), (6, .int i6)] → W p l e rm10_nextPlace s m args below meth c H locs 0 0 (MQ below (va_Qi (fun (r' : Int32) (M2 : Mem) => r' = r ∧ M2 = M') (fun M2 t => va_P z.1 vwCl (pw (xd z b) 339 b M2) t.heap) (pA 339 b)) args s 0 0 (pA 339 b)) (F0 m 63 ls [])) := by
  induction n with
  | zero => exact fun _ _ _ _ _ _ _ _ hf => (by cases hf)
  | succ n ih => exact fun _ _ _ _ _ _ _ _ hf hP hS hl => w10_nextPlace_63 (n := n) hk0 C hr hk ih ((e10_nextPlace_63 _ n _ _ _ _ _).symm.trans hf) hP hS hl
theorem c10_nextPlace {l : Launch} {z : Zt} {b n : Nat} {k0 : Nat} (hk0 : isCo k0) {a2 : Int32} {a3 : Int32} {M M' : Mem} {r : Int32} (hf : f10_nextPlace n k0 a2 a3 M = some (r, M')) : CI l z (xd z b) 339 b yX10_nextPlace cX10_nextPlace 9 (some .int) rm10_nextPlace [.ref (b + 23), .ref (b + k0), .int a2, .int a3] M M' r :=
  CI.ofW (lv := [(0, .ref (b + 23)), (1, .ref (b + k0)), (2, .int a2), (3, .int a3)]) (by decide) (Nat.le_of_ble_eq_true rfl) rfl (fun p e s m args below meth c ls C hr hk hP hS hl => w10_nextPlace_0 (n := n) hk0 C hr hk (l10_nextPlace hk0 C hr hk n) hf hP hS hl)

-- BronzeKing$Walker.comeTo(LBronzeKing$Course;I)V
theorem dX10_comeTo_0 : decode cX10_comeTo 0 = .ok (.aload_n 1, 1) := by decide +kernel
theorem dX10_comeTo_1 : decode cX10_comeTo 1 = .ok (.dup, 1) := by decide +kernel
theorem dX10_comeTo_2 : decode cX10_comeTo 2 = .ok (.getfield 126, 3) := by decide +kernel
theorem dX10_comeTo_5 : decode cX10_comeTo 5 = .ok (.iconst 1, 1) := by decide +kernel
theorem dX10_comeTo_6 : decode cX10_comeTo 6 = .ok (.iadd, 1) := by decide +kernel
theorem dX10_comeTo_7 : decode cX10_comeTo 7 = .ok (.putfield 126, 3) := by decide +kernel
theorem dX10_comeTo_10 : decode cX10_comeTo 10 = .ok (.aload_n 1, 1) := by decide +kernel
theorem dX10_comeTo_11 : decode cX10_comeTo 11 = .ok (.getfield 116, 3) := by decide +kernel
theorem dX10_comeTo_14 : decode cX10_comeTo 14 = .ok (.iload_n 2, 1) := by decide +kernel
theorem dX10_comeTo_15 : decode cX10_comeTo 15 = .ok (.sipush 9999, 3) := by decide +kernel
theorem dX10_comeTo_18 : decode cX10_comeTo 18 = .ok (.aload_n 1, 1) := by decide +kernel
theorem dX10_comeTo_19 : decode cX10_comeTo 19 = .ok (.getfield 116, 3) := by decide +kernel
theorem dX10_comeTo_22 : decode cX10_comeTo 22 = .ok (.iload_n 2, 1) := by decide +kernel
theorem dX10_comeTo_23 : decode cX10_comeTo 23 = .ok (.iaload, 1) := by decide +kernel
theorem dX10_comeTo_24 : decode cX10_comeTo 24 = .ok (.iconst 1, 1) := by decide +kernel
theorem dX10_comeTo_25 : decode cX10_comeTo 25 = .ok (.iadd, 1) := by decide +kernel
theorem dX10_comeTo_26 : decode cX10_comeTo 26 = .ok (.invokestatic 129, 3) := by decide +kernel
theorem dX10_comeTo_29 : decode cX10_comeTo 29 = .ok (.iastore, 1) := by decide +kernel
theorem dX10_comeTo_30 : decode cX10_comeTo 30 = .ok (.iconst 1, 1) := by decide +kernel
theorem dX10_comeTo_31 : decode cX10_comeTo 31 = .ok (.istore_n 3, 1) := by decide +kernel
theorem dX10_comeTo_32 : decode cX10_comeTo 32 = .ok (.iload_n 3, 1) := by decide +kernel
theorem dX10_comeTo_33 : decode cX10_comeTo 33 = .ok (.bipush 9, 2) := by decide +kernel
theorem dX10_comeTo_35 : decode cX10_comeTo 35 = .ok (.if_icmp .gt 34, 3) := by decide +kernel
theorem dX10_comeTo_38 : decode cX10_comeTo 38 = .ok (.aload_n 0, 1) := by decide +kernel
theorem dX10_comeTo_39 : decode cX10_comeTo 39 = .ok (.getfield 15, 3) := by decide +kernel
theorem dX10_comeTo_42 : decode cX10_comeTo 42 = .ok (.getfield 132, 3) := by decide +kernel
theorem dX10_comeTo_45 : decode cX10_comeTo 45 = .ok (.iload_n 3, 1) := by decide +kernel
theorem dX10_comeTo_46 : decode cX10_comeTo 46 = .ok (.iaload, 1) := by decide +kernel
theorem dX10_comeTo_47 : decode cX10_comeTo 47 = .ok (.iload_n 2, 1) := by decide +kernel
theorem dX10_comeTo_48 : decode cX10_comeTo 48 = .ok (.if_icmp .ne 15, 3) := by decide +kernel
theorem dX10_comeTo_51 : decode cX10_comeTo 51 = .ok (.aload_n 1, 1) := by decide +kernel
theorem dX10_comeTo_52 : decode cX10_comeTo 52 = .ok (.dup, 1) := by decide +kernel
theorem dX10_comeTo_53 : decode cX10_comeTo 53 = .ok (.getfield 62, 3) := by decide +kernel
theorem dX10_comeTo_56 : decode cX10_comeTo 56 = .ok (.iconst 1, 1) := by decide +kernel
theorem dX10_comeTo_57 : decode cX10_comeTo 57 = .ok (.iload_n 3, 1) := by decide +kernel
theorem dX10_comeTo_58 : decode cX10_comeTo 58 = .ok (.ishl, 1) := by decide +kernel
theorem dX10_comeTo_59 : decode cX10_comeTo 59 = .ok (.ior, 1) := by decide +kernel
theorem dX10_comeTo_60 : decode cX10_comeTo 60 = .ok (.putfield 62, 3) := by decide +kernel
theorem dX10_comeTo_63 : decode cX10_comeTo 63 = .ok (.iinc 3 1, 3) := by decide +kernel
theorem dX10_comeTo_66 : decode cX10_comeTo 66 = .ok (.goto (-34), 3) := by decide +kernel
theorem dX10_comeTo_69 : decode cX10_comeTo 69 = .ok (.return_, 1) := by decide +kernel
def b10_comeTo_63 (k0 : Nat) (rc : Nat → List Int32 → List Int64 → Mem → Option (Unit × Mem)) (n : Nat) (i2 : Int32) (i3 : Int32) (M : Mem) : Option (Unit × Mem) :=
  lt (i3 + (1 : Int32)) fun v9 =>
  rc 32 [i2, v9] [] M
def b10_comeTo_32 (k0 : Nat) (rc : Nat → List Int32 → List Int64 → Mem → Option (Unit × Mem)) (n : Nat) (i2 : Int32) (i3 : Int32) (M : Mem) : Option (Unit × Mem) :=
  (if (9 : Int32) < i3 then (
   some ((), M))
  else (
   chk (inb i3 10) <|
   (if (M.1 6 i3.toNatClampNeg) = i2 then (
    lt (wI M k0 6 ((M.1 k0 6) ||| ((1 : Int32) <<< (i3 &&& 31)))) fun M8 =>
    b10_comeTo_63 k0 rc n i2 i3 M8)
   else (
    b10_comeTo_63 k0 rc n i2 i3 M))))
def b10_comeTo_0 (k0 : Nat) (rc : Nat → List Int32 → List Int64 → Mem → Option (Unit × Mem)) (n : Nat) (a2 : Int32) (M : Mem) : Option (Unit × Mem) :=
  lt (wI M k0 5 ((M.1 k0 5) + (1 : Int32))) fun M1 =>
  chk (inb a2 96) <|
  chk (inb a2 96) <|
  lt (wI M1 (k0 + 1) a2.toNatClampNeg (if ((M1.1 (k0 + 1) a2.toNatClampNeg) + (1 : Int32)) < (9999 : Int32) then ((M1.1 (k0 + 1) a2.toNatClampNeg) + (1 : Int32)) else (9999 : Int32))) fun M4 =>
  b10_comeTo_32 k0 rc n a2 (1 : Int32) M4
def r10_comeTo (k0 : Nat) : Nat → Nat → List Int32 → List Int64 → Mem → Option (Unit × Mem)
  | 0 => fun _ _ _ _ => none
  | n + 1 => fun pc li lj M =>
    if pc = 32 then (match li, lj with | [i2, i3], [] => b10_comeTo_32 k0 (r10_comeTo k0 n) n i2 i3 M | _, _ => none) else
    none
theorem e10_comeTo_32 (k0 : Nat) (n : Nat) (i2 : Int32) (i3 : Int32) (M : Mem) : r10_comeTo k0 (n + 1) 32 [i2, i3] [] M = b10_comeTo_32 k0 (r10_comeTo k0 n) n i2 i3 M := by
  rw [r10_comeTo]
  simp
def f10_comeTo (n : Nat) (k0 : Nat) (a2 : Int32) (M : Mem) : Option (Unit × Mem) := b10_comeTo_0 k0 (r10_comeTo k0 n) n a2 M
abbrev rm10_comeTo : Room := { frames := 1, cells := 0, slots := 0, locals := 21 }
theorem y10_comeTo_w : yV RX10 yX10_comeTo cX10_comeTo 4 none 2 := ⟨g_804, gp 25 rfl rfl, g_8, g_805, rfl, by decide, by decide, by decide +kernel⟩
set_option maxHeartbeats 4000000 in
set_option maxRecDepth 100000 in
theorem w10_comeTo_63 {p : Program} {l : Launch} {e : Env} {s : State} {m : MethodId} {args : Array Value} {below : List Frame} {meth : Method} {c : Code} {z : Zt} {b : Nat} {k0 : Nat} (hk0 : isCo k0) (C : Cx p s m args c cX10_comeTo 4 RX10 z 339 b) (hr : meth.sig.returnType = none) (hk : meth.locks = false) {r : Unit} {M' : Mem} {rc : Nat → List Int32 → List Int64 → Mem → Option (Unit × Mem)} {n : Nat} (q32 : ∀ (i2 : Int32) (i3 : Int32) (M : Mem) (H : Heap) (locs : List Loc) (ls : Array Slot), rc 32 [i2, i3] [] M = some (r, M') → va_P z.1 vwCl (pw (xd z b) 339 b M) H → va_S (pA 339 b) s.heap H locs → lv_has ls 4 [(0, .ref (b + 23)), (1, .ref (b + k0)), (2, .int i2), (3, .int i3)] → W p l e rm10_comeTo s m args below meth c H locs 0 0 (MQ below (va_Qv (fun (M2 : Mem) => M2 = M') (fun M2 t => va_P z.1 vwCl (pw (xd z b) 339 b M2) t.heap) (pA 339 b)) args s 0 0 (pA 339 b)) (F0 m 32 ls [])) {i2 : Int32} {i3 : Int32} {M : Mem} {H : Heap} {locs : List Loc} {ls : Array Slot} (hf : b10_comeTo_63 k0 rc n i2 i3 M = some (r, M')) (hP : va_P z.1 vwCl (pw (xd z b) 339 b M) H) (hS : va_S (pA 339 b) s.heap H locs) (hl : lv_has ls 4 [(0, .ref (b + 23)), (1, .ref (b + k0)), (2, .int i2), (3, .int i3)]) : W p l e rm10_comeTo s m args below meth c H locs 0 0 (MQ below (va_Qv (fun (M2 : Mem) => M2 = M') (fun M2 t => va_P z.1 vwCl (pw (xd z b) 339 b M2) t.heap) (pA 339 b)) args s 0 0 (pA 339 b)) (F0 m 63 ls []) := by
  have hx := C.1.1
  have hb := C.1.2.1
  unfold b10_comeTo_63 at hf
  obtain ⟨v9, ev9⟩ : ∃ v : Int32, v = i3 + (1 : Int32) := ⟨_, rfl⟩
  replace hf := lt_c ev9 hf
  refine lv_iinc (v := v9) (lv' := [(3, .int v9), (0, .ref (b + 23)), (1, .ref (b + k0)), (2, .int i2)]) hx hb dX10_comeTo_63 hl (k := 3) rfl (by rw [ev9]; rfl) (by decide) rfl (fun ls hl => ?_)
  refine lv_goto (tgt := 32) hx hb dX10_comeTo_66 (by decide) ?_
  exact q32 i2 v9 M _ _ _ hf hP hS (lv_sub hl [1, 2, 3, 0] rfl)
set_option maxHeartbeats 4000000 in
set_option maxRecDepth 100000 in
theorem w10_comeTo_32 {p : Program} {l : Launch} {e : Env} {s : State} {m : MethodId} {args : Array Value} {below : List Frame} {meth : Method} {c : Code} {z : Zt} {b : Nat} {k0 : Nat} (hk0 : isCo k0) (C : Cx p s m args c cX10_comeTo 4 RX10 z 339 b) (hr : meth.sig.returnType = none) (hk : meth.locks = false) {r : Unit} {M' : Mem} {rc : Nat → List Int32 → List Int64 → Mem → Option (Unit × Mem)} {n : Nat} (q32 : ∀ (i2 : Int32) (i3 : Int32) (M : Mem) (H : Heap) (locs : List Loc) (ls : Array Slot), rc 32 [i2, i3] [] M = some (r, M') → va_P z.1 vwCl (pw (xd z b) 339 b M) H → va_S (pA 339 b) s.heap H locs → lv_has ls 4 [(0, .ref (b + 23)), (1, .ref (b + k0)), (2, .int i2), (3, .int i3)] → W p l e rm10_comeTo s m args below meth c H locs 0 0 (MQ below (va_Qv (fun (M2 : Mem) => M2 = M') (fun M2 t => va_P z.1 vwCl (pw (xd z b) 339 b M2) t.heap) (pA 339 b)) args s 0 0 (pA 339 b)) (F0 m 32 ls [])) {i2 : Int32} {i3 : Int32} {M : Mem} {H : Heap} {locs : List Loc} {ls : Array Slot} (hf : b10_comeTo_32 k0 rc n i2 i3 M = some (r, M')) (hP : va_P z.1 vwCl (pw (xd z b) 339 b M) H) (hS : va_S (pA 339 b) s.heap H locs) (hl : lv_has ls 4 [(0, .ref (b + 23)), (1, .ref (b + k0)), (2, .int i2), (3, .int i3)]) : W p l e rm10_comeTo s m args below meth c H locs 0 0 (MQ below (va_Qv (fun (M2 : Mem) => M2 = M') (fun M2 t => va_P z.1 vwCl (pw (xd z b) 339 b M2) t.heap) (pA 339 b)) args s 0 0 (pA 339 b)) (F0 m 32 ls []) := by
  have hx := C.1.1
  have hb := C.1.2.1
  unfold b10_comeTo_32 at hf
  refine lv_iload_n hx hb dX10_comeTo_32 rfl (lv_at hl 3 rfl) ?_
  refine lv_bipush (v := (9 : Int32)) hx hb dX10_comeTo_33 (by decide) ?_
  refine lv_icmp_gt (tgt := 69) hx hb dX10_comeTo_35 (by decide) (fun c5 => ?_) (fun c5 => ?_)
  · replace hf := ite_t c5 hf
    exact prV C hr hk hP hS hf dX10_comeTo_69
  · replace hf := ite_f c5 hf
    refine lv_aload_n hx hb dX10_comeTo_38 rfl (lv_at hl 0 rfl) ?_
    refine pg C hP (k := 23) (j := 0) (Nat.le_of_ble_eq_true rfl) (xd_23 _ _) rfl iw_10 (Nat.le_of_ble_eq_true rfl) g_198 rfl rfl dX10_comeTo_39 ?_
    refine pgN C hP (k := 3) (j := 2) (Nat.le_of_ble_eq_true rfl) (xd_3 _ _) rfl iw_8 (Nat.le_of_ble_eq_true rfl) g_75 rfl rfl dX10_comeTo_42 ?_
    refine lv_iload_n hx hb dX10_comeTo_45 rfl (lv_at hl 3 rfl) ?_
    have h6 := chk_1 hf
    replace hf := chk_2 hf
    refine paI C hP (k := 6) (Nat.le_of_ble_eq_true rfl) (xd_6 _ _) h6 dX10_comeTo_46 ?_
    refine lv_iload_n hx hb dX10_comeTo_47 rfl (lv_at hl 2 rfl) ?_
    refine lv_icmp_ne (tgt := 63) hx hb dX10_comeTo_48 (by decide) (fun c7 => ?_) (fun c7 => ?_)
    · replace hf := ite_f c7 hf
      exact w10_comeTo_63 (n := n) hk0 C hr hk q32 hf hP hS (lv_sub hl [0, 1, 2, 3] rfl)
    · replace hf := ite_t c7 hf
      refine lv_aload_n hx hb dX10_comeTo_51 rfl (lv_at hl 1 rfl) ?_
      refine lv_dup hx hb dX10_comeTo_52 rfl ?_
      refine pgN C hP (k := k0) (j := 6) (co_lt hk0) ((co_d hk0) _ _) rfl iw_0 (Nat.le_of_ble_eq_true rfl) g_371 rfl rfl dX10_comeTo_53 ?_
      refine lv_iconst (v := (1 : Int32)) hx hb dX10_comeTo_56 (by decide) ?_
      refine lv_iload_n hx hb dX10_comeTo_57 rfl (lv_at hl 3 rfl) ?_
      refine lv_ishl hx hb dX10_comeTo_58 ?_
      refine lv_ior hx hb dX10_comeTo_59 ?_
      refine ppIN C hP hS (k := k0) (j := 6) (ty := .int) (co_lt hk0) ((co_d hk0) _ _) rfl iw_0 tyX0 tyX0_ok nmX0 (Nat.le_of_ble_eq_true rfl) g_371 rfl rfl (by decide +kernel) rfl rfl (Nat.le_of_ble_eq_true rfl) (xu_co_6 hk0 _ _ _) dX10_comeTo_60 (fun M8 H locs eM8 hP hS => ?_)
      replace hf := lt_c eM8 hf
      exact w10_comeTo_63 (n := n) hk0 C hr hk q32 hf hP hS (lv_sub hl [0, 1, 2, 3] rfl)
set_option maxHeartbeats 4000000 in
set_option maxRecDepth 100000 in
theorem w10_comeTo_0 {p : Program} {l : Launch} {e : Env} {s : State} {m : MethodId} {args : Array Value} {below : List Frame} {meth : Method} {c : Code} {z : Zt} {b : Nat} {k0 : Nat} (hk0 : isCo k0) (C : Cx p s m args c cX10_comeTo 4 RX10 z 339 b) (hr : meth.sig.returnType = none) (hk : meth.locks = false) {r : Unit} {M' : Mem} {rc : Nat → List Int32 → List Int64 → Mem → Option (Unit × Mem)} {n : Nat} (q32 : ∀ (i2 : Int32) (i3 : Int32) (M : Mem) (H : Heap) (locs : List Loc) (ls : Array Slot), rc 32 [i2, i3] [] M = some (r, M') → va_P z.1 vwCl (pw (xd z b) 339 b M) H → va_S (pA 339 b) s.heap H locs → lv_has ls 4 [(0, .ref (b + 23)), (1, .ref (b + k0)), (2, .int i2), (3, .int i3)] → W p l e rm10_comeTo s m args below meth c H locs 0 0 (MQ below (va_Qv (fun (M2 : Mem) => M2 = M') (fun M2 t => va_P z.1 vwCl (pw (xd z b) 339 b M2) t.heap) (pA 339 b)) args s 0 0 (pA 339 b)) (F0 m 32 ls [])) {a2 : Int32} {M : Mem} {H : Heap} {locs : List Loc} {ls : Array Slot} (hf : b10_comeTo_0 k0 rc n a2 M = some (r, M')) (hP : va_P z.1 vwCl (pw (xd z b) 339 b M) H) (hS : va_S (pA 339 b) s.heap H locs) (hl : lv_has ls 4 [(0, .ref (b + 23)), (1, .ref (b + k0)), (2, .int a2)]) : W p l e rm10_comeTo s m args below meth c H locs 0 0 (MQ below (va_Qv (fun (M2 : Mem) => M2 = M') (fun M2 t => va_P z.1 vwCl (pw (xd z b) 339 b M2) t.heap) (pA 339 b)) args s 0 0 (pA 339 b)) (F0 m 0 ls []) := by
  have hx := C.1.1
  have hb := C.1.2.1
  unfold b10_comeTo_0 at hf
  refine lv_aload_n hx hb dX10_comeTo_0 rfl (lv_at hl 1 rfl) ?_
  refine lv_dup hx hb dX10_comeTo_1 rfl ?_
  refine pgN C hP (k := k0) (j := 5) (co_lt hk0) ((co_d hk0) _ _) rfl iw_0 (Nat.le_of_ble_eq_true rfl) g_368 rfl rfl dX10_comeTo_2 ?_
  refine lv_iconst (v := (1 : Int32)) hx hb dX10_comeTo_5 (by decide) ?_
  refine lv_iadd hx hb dX10_comeTo_6 ?_
  refine ppIN C hP hS (k := k0) (j := 5) (ty := .int) (co_lt hk0) ((co_d hk0) _ _) rfl iw_0 tyX0 tyX0_ok nmX0 (Nat.le_of_ble_eq_true rfl) g_368 rfl rfl (by decide +kernel) rfl rfl (Nat.le_of_ble_eq_true rfl) (xu_co_5 hk0 _ _ _) dX10_comeTo_7 (fun M1 H locs eM1 hP hS => ?_)
  replace hf := lt_c eM1 hf
  refine lv_aload_n hx hb dX10_comeTo_10 rfl (lv_at hl 1 rfl) ?_
  refine pgN C hP (k := k0) (j := 0) (co_lt hk0) ((co_d hk0) _ _) rfl iw_0 (Nat.le_of_ble_eq_true rfl) g_354 rfl rfl dX10_comeTo_11 ?_
  refine lv_iload_n hx hb dX10_comeTo_14 rfl (lv_at hl 2 rfl) ?_
  refine lv_sipush (v := (9999 : Int32)) hx hb dX10_comeTo_15 (by decide) ?_
  refine lv_aload_n hx hb dX10_comeTo_18 rfl (lv_at hl 1 rfl) ?_
  refine pgN C hP (k := k0) (j := 0) (co_lt hk0) ((co_d hk0) _ _) rfl iw_0 (Nat.le_of_ble_eq_true rfl) g_354 rfl rfl dX10_comeTo_19 ?_
  refine lv_iload_n hx hb dX10_comeTo_22 rfl (lv_at hl 2 rfl) ?_
  have h2 := chk_1 hf
  replace hf := chk_2 hf
  refine paI C hP (k := k0 + 1) (co_lt1 hk0) ((co_d1 hk0) _ _) h2 dX10_comeTo_23 ?_
  refine lv_iconst (v := (1 : Int32)) hx hb dX10_comeTo_24 (by decide) ?_
  refine lv_iadd hx hb dX10_comeTo_25 ?_
  refine va_mmin hx hb (by rw [C.1.2.2.1]; exact hl.1.symm) C.1.2.2.2.1 (C.1.2.2.2.2 _ g_806) (C.1.2.2.2.2 _ g_567) (C.1.2.2.2.2 _ g_17) (C.1.2.2.2.2 _ g_568) (Nat.le_of_ble_eq_true rfl) (Nat.le_of_ble_eq_true rfl) (Nat.le_of_ble_eq_true rfl) (Nat.le_of_ble_eq_true rfl) dX10_comeTo_26 ?_
  have h3 := chk_1 hf
  replace hf := chk_2 hf
  refine psI C hP hS (k := k0 + 1) (co_lt1 hk0) ((co_d1 hk0)) h3 dX10_comeTo_29 (fun M4 H locs eM4 hP hS => ?_)
  replace hf := lt_c eM4 hf
  refine lv_iconst (v := (1 : Int32)) hx hb dX10_comeTo_30 (by decide) ?_
  refine lv_istore_n (lv' := [(3, .int (1 : Int32)), (0, .ref (b + 23)), (1, .ref (b + k0)), (2, .int a2)]) hx hb dX10_comeTo_31 rfl hl (by decide) rfl (fun ls hl => ?_)
  exact w10_comeTo_32 (n := n) hk0 C hr hk q32 hf hP hS (lv_sub hl [1, 2, 3, 0] rfl)
set_option maxHeartbeats 4000000 in
set_option maxRecDepth 100000 in
theorem l10_comeTo {p : Program} {l : Launch} {e : Env} {s : State} {m : MethodId} {args : Array Value} {below : List Frame} {meth : Method} {c : Code} {z : Zt} {b : Nat} {k0 : Nat} (hk0 : isCo k0) (C : Cx p s m args c cX10_comeTo 4 RX10 z 339 b) (hr : meth.sig.returnType = none) (hk : meth.locks = false) {r : Unit} {M' : Mem} (n : Nat) : (∀ (i2 : Int32) (i3 : Int32) (M : Mem) (H : Heap) (locs : List Loc) (ls : Array Slot), (r10_comeTo k0 n) 32 [i2, i3] [] M = some (r, M') → va_P z.1 vwCl (pw (xd z b) 339 b M) H → va_S (pA 339 b) s.heap H locs → lv_has ls 4 [(0, .ref (b + 23)), (1, .ref (b + k0)), (2, .int i2), (3, .int i3)] → W p l e rm10_comeTo s m args below meth c H locs 0 0 (MQ below (va_Qv (fun (M2 : Mem) => M2 = M') (fun M2 t => va_P z.1 vwCl (pw (xd z b) 339 b M2) t.heap) (pA 339 b)) args s 0 0 (pA 339 b)) (F0 m 32 ls [])) := by
  induction n with
  | zero => exact fun _ _ _ _ _ _ hf => (by cases hf)
  | succ n ih => exact fun _ _ _ _ _ _ hf hP hS hl => w10_comeTo_32 (n := n) hk0 C hr hk ih ((e10_comeTo_32 _ n _ _ _).symm.trans hf) hP hS hl
theorem c10_comeTo {l : Launch} {z : Zt} {b n : Nat} {k0 : Nat} (hk0 : isCo k0) {a2 : Int32} {M M' : Mem} {r : Unit} (hf : f10_comeTo n k0 a2 M = some (r, M')) : CV l z (xd z b) 339 b yX10_comeTo cX10_comeTo 4 none rm10_comeTo [.ref (b + 23), .ref (b + k0), .int a2] M M' :=
  CV.ofW (lv := [(0, .ref (b + 23)), (1, .ref (b + k0)), (2, .int a2)]) (by decide) (Nat.le_of_ble_eq_true rfl) rfl (fun p e s m args below meth c ls C hr hk hP hS hl => w10_comeTo_0 (n := n) hk0 C hr hk (l10_comeTo hk0 C hr hk n) hf hP hS hl)

-- BronzeKing$Walker.goHour(LBronzeKing$Course;)V
theorem dX10_goHour_0 : decode cX10_goHour 0 = .ok (.aload_n 0, 1) := by decide +kernel
theorem dX10_goHour_1 : decode cX10_goHour 1 = .ok (.getfield 15, 3) := by decide +kernel
theorem dX10_goHour_4 : decode cX10_goHour 4 = .ok (.getfield 53, 3) := by decide +kernel
theorem dX10_goHour_7 : decode cX10_goHour 7 = .ok (.istore_n 2, 1) := by decide +kernel
theorem dX10_goHour_8 : decode cX10_goHour 8 = .ok (.aload_n 0, 1) := by decide +kernel
theorem dX10_goHour_9 : decode cX10_goHour 9 = .ok (.getfield 19, 3) := by decide +kernel
theorem dX10_goHour_12 : decode cX10_goHour 12 = .ok (.aload_n 1, 1) := by decide +kernel
theorem dX10_goHour_13 : decode cX10_goHour 13 = .ok (.getfield 36, 3) := by decide +kernel
theorem dX10_goHour_16 : decode cX10_goHour 16 = .ok (.aload_n 1, 1) := by decide +kernel
theorem dX10_goHour_17 : decode cX10_goHour 17 = .ok (.getfield 23, 3) := by decide +kernel
theorem dX10_goHour_20 : decode cX10_goHour 20 = .ok (.invokevirtual 58, 3) := by decide +kernel
theorem dX10_goHour_23 : decode cX10_goHour 23 = .ok (.iconst 0, 1) := by decide +kernel
theorem dX10_goHour_24 : decode cX10_goHour 24 = .ok (.istore_n 3, 1) := by decide +kernel
theorem dX10_goHour_25 : decode cX10_goHour 25 = .ok (.iload_n 3, 1) := by decide +kernel
theorem dX10_goHour_26 : decode cX10_goHour 26 = .ok (.bipush 60, 2) := by decide +kernel
theorem dX10_goHour_28 : decode cX10_goHour 28 = .ok (.if_icmp .ge 76, 3) := by decide +kernel
theorem dX10_goHour_31 : decode cX10_goHour 31 = .ok (.aload_n 0, 1) := by decide +kernel
theorem dX10_goHour_32 : decode cX10_goHour 32 = .ok (.getfield 19, 3) := by decide +kernel
theorem dX10_goHour_35 : decode cX10_goHour 35 = .ok (.iload_n 3, 1) := by decide +kernel
theorem dX10_goHour_36 : decode cX10_goHour 36 = .ok (.aload_n 1, 1) := by decide +kernel
theorem dX10_goHour_37 : decode cX10_goHour 37 = .ok (.getfield 62, 3) := by decide +kernel
theorem dX10_goHour_40 : decode cX10_goHour 40 = .ok (.invokestatic 65, 3) := by decide +kernel
theorem dX10_goHour_43 : decode cX10_goHour 43 = .ok (.invokevirtual 71, 3) := by decide +kernel
theorem dX10_goHour_46 : decode cX10_goHour 46 = .ok (.aload_n 0, 1) := by decide +kernel
theorem dX10_goHour_47 : decode cX10_goHour 47 = .ok (.aload_n 1, 1) := by decide +kernel
theorem dX10_goHour_48 : decode cX10_goHour 48 = .ok (.iload_n 2, 1) := by decide +kernel
theorem dX10_goHour_49 : decode cX10_goHour 49 = .ok (.iload_n 3, 1) := by decide +kernel
theorem dX10_goHour_50 : decode cX10_goHour 50 = .ok (.invokevirtual 74, 3) := by decide +kernel
theorem dX10_goHour_53 : decode cX10_goHour 53 = .ok (.istore 4, 2) := by decide +kernel
theorem dX10_goHour_55 : decode cX10_goHour 55 = .ok (.iload 4, 2) := by decide +kernel
theorem dX10_goHour_57 : decode cX10_goHour 57 = .ok (.iload_n 2, 1) := by decide +kernel
theorem dX10_goHour_58 : decode cX10_goHour 58 = .ok (.if_icmp .eq 10, 3) := by decide +kernel
theorem dX10_goHour_61 : decode cX10_goHour 61 = .ok (.aload_n 0, 1) := by decide +kernel
theorem dX10_goHour_62 : decode cX10_goHour 62 = .ok (.aload_n 1, 1) := by decide +kernel
theorem dX10_goHour_63 : decode cX10_goHour 63 = .ok (.iload 4, 2) := by decide +kernel
theorem dX10_goHour_65 : decode cX10_goHour 65 = .ok (.invokevirtual 78, 3) := by decide +kernel
theorem dX10_goHour_68 : decode cX10_goHour 68 = .ok (.iload 4, 2) := by decide +kernel
theorem dX10_goHour_70 : decode cX10_goHour 70 = .ok (.istore_n 2, 1) := by decide +kernel
theorem dX10_goHour_71 : decode cX10_goHour 71 = .ok (.aload_n 1, 1) := by decide +kernel
theorem dX10_goHour_72 : decode cX10_goHour 72 = .ok (.getfield 82, 3) := by decide +kernel
theorem dX10_goHour_75 : decode cX10_goHour 75 = .ok (.iload_n 3, 1) := by decide +kernel
theorem dX10_goHour_76 : decode cX10_goHour 76 = .ok (.iload_n 2, 1) := by decide +kernel
theorem dX10_goHour_77 : decode cX10_goHour 77 = .ok (.iastore, 1) := by decide +kernel
theorem dX10_goHour_78 : decode cX10_goHour 78 = .ok (.aload_n 1, 1) := by decide +kernel
theorem dX10_goHour_79 : decode cX10_goHour 79 = .ok (.aload_n 1, 1) := by decide +kernel
theorem dX10_goHour_80 : decode cX10_goHour 80 = .ok (.getfield 85, 3) := by decide +kernel
theorem dX10_goHour_83 : decode cX10_goHour 83 = .ok (.aload_n 0, 1) := by decide +kernel
theorem dX10_goHour_84 : decode cX10_goHour 84 = .ok (.getfield 15, 3) := by decide +kernel
theorem dX10_goHour_87 : decode cX10_goHour 87 = .ok (.getfield 88, 3) := by decide +kernel
theorem dX10_goHour_90 : decode cX10_goHour 90 = .ok (.iload_n 2, 1) := by decide +kernel
theorem dX10_goHour_91 : decode cX10_goHour 91 = .ok (.iaload, 1) := by decide +kernel
theorem dX10_goHour_92 : decode cX10_goHour 92 = .ok (.invokestatic 91, 3) := by decide +kernel
theorem dX10_goHour_95 : decode cX10_goHour 95 = .ok (.putfield 85, 3) := by decide +kernel
theorem dX10_goHour_98 : decode cX10_goHour 98 = .ok (.iinc 3 1, 3) := by decide +kernel
theorem dX10_goHour_101 : decode cX10_goHour 101 = .ok (.goto (-76), 3) := by decide +kernel
theorem dX10_goHour_104 : decode cX10_goHour 104 = .ok (.return_, 1) := by decide +kernel
def b10_goHour_68 (k0 : Nat) (rc : Nat → List Int32 → List Int64 → Mem → Option (Unit × Mem)) (n : Nat) (i3 : Int32) (i4 : Int32) (M : Mem) : Option (Unit × Mem) :=
  chk (inb i3 60) <|
  lt (wI M (k0 + 2) i3.toNatClampNeg i4) fun M20 =>
  chk (inb i4 96) <|
  lt (wI M20 k0 7 (if (M20.1 k0 7) < (M20.1 7 i4.toNatClampNeg) then (M20.1 7 i4.toNatClampNeg) else (M20.1 k0 7))) fun M22 =>
  lt (i3 + (1 : Int32)) fun v23 =>
  rc 25 [i4, v23] [] M22
def b10_goHour_25 (k0 : Nat) (rc : Nat → List Int32 → List Int64 → Mem → Option (Unit × Mem)) (n : Nat) (i2 : Int32) (i3 : Int32) (M : Mem) : Option (Unit × Mem) :=
  (if (60 : Int32) ≤ i3 then (
   some ((), M))
  else (
   bnd (fZJ6_bitCount_0f7a4 n (M.1 k0 6) M) fun r6 M7 =>
   bnd (f2_setMinute n i3 r6 M7) fun r9 M10 =>
   bnd (f10_nextPlace n k0 i2 i3 M10) fun r12 M13 =>
   (if r12 = i2 then (
    b10_goHour_68 k0 rc n i3 r12 M13)
   else (
    bnd (f10_comeTo n k0 r12 M13) fun r16 M17 =>
    b10_goHour_68 k0 rc n i3 r12 M17))))
def b10_goHour_0 (k0 : Nat) (rc : Nat → List Int32 → List Int64 → Mem → Option (Unit × Mem)) (n : Nat) (M : Mem) : Option (Unit × Mem) :=
  lt (M.1 3 7) fun v1 =>
  bnd (f2_setHour n (M.1 k0 4) (M.1 k0 2) M) fun r2 M3 =>
  b10_goHour_25 k0 rc n v1 (0 : Int32) M3
def r10_goHour (k0 : Nat) : Nat → Nat → List Int32 → List Int64 → Mem → Option (Unit × Mem)
  | 0 => fun _ _ _ _ => none
  | n + 1 => fun pc li lj M =>
    if pc = 25 then (match li, lj with | [i2, i3], [] => b10_goHour_25 k0 (r10_goHour k0 n) n i2 i3 M | _, _ => none) else
    none
theorem e10_goHour_25 (k0 : Nat) (n : Nat) (i2 : Int32) (i3 : Int32) (M : Mem) : r10_goHour k0 (n + 1) 25 [i2, i3] [] M = b10_goHour_25 k0 (r10_goHour k0 n) n i2 i3 M := by
  rw [r10_goHour]
  simp
def f10_goHour (n : Nat) (k0 : Nat) (M : Mem) : Option (Unit × Mem) := b10_goHour_0 k0 (r10_goHour k0 n) n M
abbrev rm10_goHour : Room := { frames := 4, cells := 0, slots := 0, locals := 100 }
theorem y10_goHour_w : yV RX10 yX10_goHour cX10_goHour 5 none 1 := ⟨g_765, gp 22 rfl rfl, g_8, g_766, rfl, by decide, by decide, by decide +kernel⟩
set_option maxHeartbeats 4000000 in
set_option maxRecDepth 100000 in
theorem w10_goHour_68 {p : Program} {l : Launch} {e : Env} {s : State} {m : MethodId} {args : Array Value} {below : List Frame} {meth : Method} {c : Code} {z : Zt} {b : Nat} {k0 : Nat} (hk0 : isCo k0) (C : Cx p s m args c cX10_goHour 5 RX10 z 339 b) (hr : meth.sig.returnType = none) (hk : meth.locks = false) {r : Unit} {M' : Mem} {rc : Nat → List Int32 → List Int64 → Mem → Option (Unit × Mem)} {n : Nat} (q25 : ∀ (i2 : Int32) (i3 : Int32) (M : Mem) (H : Heap) (locs : List Loc) (ls : Array Slot), rc 25 [i2, i3] [] M = some (r, M') → va_P z.1 vwCl (pw (xd z b) 339 b M) H → va_S (pA 339 b) s.heap H locs → lv_has ls 5 [(0, .ref (b + 23)), (1, .ref (b + k0)), (2, .int i2), (3, .int i3)] → W p l e rm10_goHour s m args below meth c H locs 0 0 (MQ below (va_Qv (fun (M2 : Mem) => M2 = M') (fun M2 t => va_P z.1 vwCl (pw (xd z b) 339 b M2) t.heap) (pA 339 b)) args s 0 0 (pA 339 b)) (F0 m 25 ls [])) {i3 : Int32} {i4 : Int32} {M : Mem} {H : Heap} {locs : List Loc} {ls : Array Slot} (hf : b10_goHour_68 k0 rc n i3 i4 M = some (r, M')) (hP : va_P z.1 vwCl (pw (xd z b) 339 b M) H) (hS : va_S (pA 339 b) s.heap H locs) (hl : lv_has ls 5 [(0, .ref (b + 23)), (1, .ref (b + k0)), (3, .int i3), (4, .int i4)]) : W p l e rm10_goHour s m args below meth c H locs 0 0 (MQ below (va_Qv (fun (M2 : Mem) => M2 = M') (fun M2 t => va_P z.1 vwCl (pw (xd z b) 339 b M2) t.heap) (pA 339 b)) args s 0 0 (pA 339 b)) (F0 m 68 ls []) := by
  have hx := C.1.1
  have hb := C.1.2.1
  unfold b10_goHour_68 at hf
  refine lv_iload hx hb dX10_goHour_68 (lv_at hl 3 rfl) ?_
  refine lv_istore_n (lv' := [(2, .int i4), (0, .ref (b + 23)), (1, .ref (b + k0)), (3, .int i3), (4, .int i4)]) hx hb dX10_goHour_70 rfl hl (by decide) rfl (fun ls hl => ?_)
  refine lv_aload_n hx hb dX10_goHour_71 rfl (lv_at hl 2 rfl) ?_
  refine pgN C hP (k := k0) (j := 1) (co_lt hk0) ((co_d hk0) _ _) rfl iw_0 (Nat.le_of_ble_eq_true rfl) g_357 rfl rfl dX10_goHour_72 ?_
  refine lv_iload_n hx hb dX10_goHour_75 rfl (lv_at hl 3 rfl) ?_
  refine lv_iload_n hx hb dX10_goHour_76 rfl (lv_at hl 0 rfl) ?_
  have h19 := chk_1 hf
  replace hf := chk_2 hf
  refine psI C hP hS (k := k0 + 2) (co_lt2 hk0) ((co_d2 hk0)) h19 dX10_goHour_77 (fun M20 H locs eM20 hP hS => ?_)
  replace hf := lt_c eM20 hf
  refine lv_aload_n hx hb dX10_goHour_78 rfl (lv_at hl 2 rfl) ?_
  refine lv_aload_n hx hb dX10_goHour_79 rfl (lv_at hl 2 rfl) ?_
  refine pgN C hP (k := k0) (j := 7) (co_lt hk0) ((co_d hk0) _ _) rfl iw_0 (Nat.le_of_ble_eq_true rfl) g_374 rfl rfl dX10_goHour_80 ?_
  refine lv_aload_n hx hb dX10_goHour_83 rfl (lv_at hl 1 rfl) ?_
  refine pg C hP (k := 23) (j := 0) (Nat.le_of_ble_eq_true rfl) (xd_23 _ _) rfl iw_10 (Nat.le_of_ble_eq_true rfl) g_198 rfl rfl dX10_goHour_84 ?_
  refine pgN C hP (k := 3) (j := 3) (Nat.le_of_ble_eq_true rfl) (xd_3 _ _) rfl iw_8 (Nat.le_of_ble_eq_true rfl) g_77 rfl rfl dX10_goHour_87 ?_
  refine lv_iload_n hx hb dX10_goHour_90 rfl (lv_at hl 0 rfl) ?_
  have h21 := chk_1 hf
  replace hf := chk_2 hf
  refine paI C hP (k := 7) (Nat.le_of_ble_eq_true rfl) (xd_7 _ _) h21 dX10_goHour_91 ?_
  refine va_mmax hx hb (by rw [C.1.2.2.1]; exact hl.1.symm) C.1.2.2.2.1 (C.1.2.2.2.2 _ g_801) (C.1.2.2.2.2 _ g_564) (C.1.2.2.2.2 _ g_17) (C.1.2.2.2.2 _ g_565) (Nat.le_of_ble_eq_true rfl) (Nat.le_of_ble_eq_true rfl) (Nat.le_of_ble_eq_true rfl) (Nat.le_of_ble_eq_true rfl) dX10_goHour_92 ?_
  refine ppIN C hP hS (k := k0) (j := 7) (ty := .int) (co_lt hk0) ((co_d hk0) _ _) rfl iw_0 tyX0 tyX0_ok nmX0 (Nat.le_of_ble_eq_true rfl) g_374 rfl rfl (by decide +kernel) rfl rfl (Nat.le_of_ble_eq_true rfl) (xu_co_7 hk0 _ _ _) dX10_goHour_95 (fun M22 H locs eM22 hP hS => ?_)
  replace hf := lt_c eM22 hf
  obtain ⟨v23, ev23⟩ : ∃ v : Int32, v = i3 + (1 : Int32) := ⟨_, rfl⟩
  replace hf := lt_c ev23 hf
  refine lv_iinc (v := v23) (lv' := [(3, .int v23), (2, .int i4), (0, .ref (b + 23)), (1, .ref (b + k0)), (4, .int i4)]) hx hb dX10_goHour_98 hl (k := 3) rfl (by rw [ev23]; rfl) (by decide) rfl (fun ls hl => ?_)
  refine lv_goto (tgt := 25) hx hb dX10_goHour_101 (by decide) ?_
  exact q25 i4 v23 M22 _ _ _ hf hP hS (lv_sub hl [2, 3, 1, 0] rfl)
set_option maxHeartbeats 4000000 in
set_option maxRecDepth 100000 in
theorem w10_goHour_25 {p : Program} {l : Launch} {e : Env} {s : State} {m : MethodId} {args : Array Value} {below : List Frame} {meth : Method} {c : Code} {z : Zt} {b : Nat} {k0 : Nat} (hk0 : isCo k0) (C : Cx p s m args c cX10_goHour 5 RX10 z 339 b) (hr : meth.sig.returnType = none) (hk : meth.locks = false) {r : Unit} {M' : Mem} {rc : Nat → List Int32 → List Int64 → Mem → Option (Unit × Mem)} {n : Nat} (q25 : ∀ (i2 : Int32) (i3 : Int32) (M : Mem) (H : Heap) (locs : List Loc) (ls : Array Slot), rc 25 [i2, i3] [] M = some (r, M') → va_P z.1 vwCl (pw (xd z b) 339 b M) H → va_S (pA 339 b) s.heap H locs → lv_has ls 5 [(0, .ref (b + 23)), (1, .ref (b + k0)), (2, .int i2), (3, .int i3)] → W p l e rm10_goHour s m args below meth c H locs 0 0 (MQ below (va_Qv (fun (M2 : Mem) => M2 = M') (fun M2 t => va_P z.1 vwCl (pw (xd z b) 339 b M2) t.heap) (pA 339 b)) args s 0 0 (pA 339 b)) (F0 m 25 ls [])) {i2 : Int32} {i3 : Int32} {M : Mem} {H : Heap} {locs : List Loc} {ls : Array Slot} (hf : b10_goHour_25 k0 rc n i2 i3 M = some (r, M')) (hP : va_P z.1 vwCl (pw (xd z b) 339 b M) H) (hS : va_S (pA 339 b) s.heap H locs) (hl : lv_has ls 5 [(0, .ref (b + 23)), (1, .ref (b + k0)), (2, .int i2), (3, .int i3)]) : W p l e rm10_goHour s m args below meth c H locs 0 0 (MQ below (va_Qv (fun (M2 : Mem) => M2 = M') (fun M2 t => va_P z.1 vwCl (pw (xd z b) 339 b M2) t.heap) (pA 339 b)) args s 0 0 (pA 339 b)) (F0 m 25 ls []) := by
  have hx := C.1.1
  have hb := C.1.2.1
  unfold b10_goHour_25 at hf
  refine lv_iload_n hx hb dX10_goHour_25 rfl (lv_at hl 3 rfl) ?_
  refine lv_bipush (v := (60 : Int32)) hx hb dX10_goHour_26 (by decide) ?_
  refine lv_icmp_ge (tgt := 104) hx hb dX10_goHour_28 (by decide) (fun c5 => ?_) (fun c5 => ?_)
  · replace hf := ite_t c5 hf
    exact prV C hr hk hP hS hf dX10_goHour_104
  · replace hf := ite_f c5 hf
    refine lv_aload_n hx hb dX10_goHour_31 rfl (lv_at hl 0 rfl) ?_
    refine pg C hP (k := 23) (j := 1) (Nat.le_of_ble_eq_true rfl) (xd_23 _ _) rfl iw_10 (Nat.le_of_ble_eq_true rfl) g_199 rfl rfl dX10_goHour_32 ?_
    refine lv_iload_n hx hb dX10_goHour_35 rfl (lv_at hl 3 rfl) ?_
    refine lv_aload_n hx hb dX10_goHour_36 rfl (lv_at hl 1 rfl) ?_
    refine pgN C hP (k := k0) (j := 6) (co_lt hk0) ((co_d hk0) _ _) rfl iw_0 (Nat.le_of_ble_eq_true rfl) g_371 rfl rfl dX10_goHour_37 ?_
    obtain ⟨r6, M7, h8, hf⟩ := bnd_s hf
    refine pcSi (As := [.int (M.1 k0 6)]) C hP hS (cZJ6_bitCount_0f7a4  h8) yZJ6_bitCount_0f7a4_w g_768 rfl rfl rfl ⟨Nat.le_of_ble_eq_true rfl, Nat.le_of_ble_eq_true rfl⟩ hl.1 rfl (Nat.le_of_ble_eq_true rfl) dX10_goHour_40 ⟨Nat.le_of_ble_eq_true rfl, Nat.le_of_ble_eq_true rfl⟩ (fun H locs hP hS => ?_)
    obtain ⟨r9, M10, h11, hf⟩ := bnd_s hf
    refine pcVv (As := [.int i3, .int r6]) C hP hS (k := 11) (Nat.le_of_ble_eq_true rfl) (xd_11 _ _) rfl (c2_setMinute  h11) y2_setMinute_w g_774 rfl rfl rfl ⟨Nat.le_of_ble_eq_true rfl, Nat.le_of_ble_eq_true rfl⟩ hl.1 rfl (Nat.le_of_ble_eq_true rfl) dX10_goHour_43 ⟨Nat.le_of_ble_eq_true rfl, Nat.le_of_ble_eq_true rfl⟩ (fun H locs hP hS => ?_)
    refine lv_aload_n hx hb dX10_goHour_46 rfl (lv_at hl 0 rfl) ?_
    refine lv_aload_n hx hb dX10_goHour_47 rfl (lv_at hl 1 rfl) ?_
    refine lv_iload_n hx hb dX10_goHour_48 rfl (lv_at hl 2 rfl) ?_
    refine lv_iload_n hx hb dX10_goHour_49 rfl (lv_at hl 3 rfl) ?_
    obtain ⟨r12, M13, h14, hf⟩ := bnd_s hf
    refine pcVi (As := [.ref (b + k0), .int i2, .int i3]) C hP hS (k := 23) (Nat.le_of_ble_eq_true rfl) (xd_23 _ _) rfl (c10_nextPlace hk0 h14) y10_nextPlace_w g_778 rfl rfl rfl ⟨Nat.le_of_ble_eq_true rfl, Nat.le_of_ble_eq_true rfl⟩ hl.1 rfl (Nat.le_of_ble_eq_true rfl) dX10_goHour_50 ⟨Nat.le_of_ble_eq_true rfl, Nat.le_of_ble_eq_true rfl⟩ (fun H locs hP hS => ?_)
    refine lv_istore (lv' := [(4, .int r12), (0, .ref (b + 23)), (1, .ref (b + k0)), (2, .int i2), (3, .int i3)]) hx hb dX10_goHour_53 hl (by decide) rfl (fun ls hl => ?_)
    refine lv_iload hx hb dX10_goHour_55 (lv_at hl 0 rfl) ?_
    refine lv_iload_n hx hb dX10_goHour_57 rfl (lv_at hl 3 rfl) ?_
    refine lv_icmp_eq (tgt := 68) hx hb dX10_goHour_58 (by decide) (fun c15 => ?_) (fun c15 => ?_)
    · replace hf := ite_t c15 hf
      exact w10_goHour_68 (n := n) hk0 C hr hk q25 hf hP hS (lv_sub hl [1, 2, 4, 0] rfl)
    · replace hf := ite_f c15 hf
      refine lv_aload_n hx hb dX10_goHour_61 rfl (lv_at hl 1 rfl) ?_
      refine lv_aload_n hx hb dX10_goHour_62 rfl (lv_at hl 2 rfl) ?_
      refine lv_iload hx hb dX10_goHour_63 (lv_at hl 0 rfl) ?_
      obtain ⟨r16, M17, h18, hf⟩ := bnd_s hf
      refine pcVv (As := [.ref (b + k0), .int r12]) C hP hS (k := 23) (Nat.le_of_ble_eq_true rfl) (xd_23 _ _) rfl (c10_comeTo hk0 h18) y10_comeTo_w g_802 rfl rfl rfl ⟨Nat.le_of_ble_eq_true rfl, Nat.le_of_ble_eq_true rfl⟩ hl.1 rfl (Nat.le_of_ble_eq_true rfl) dX10_goHour_65 ⟨Nat.le_of_ble_eq_true rfl, Nat.le_of_ble_eq_true rfl⟩ (fun H locs hP hS => ?_)
      exact w10_goHour_68 (n := n) hk0 C hr hk q25 hf hP hS (lv_sub hl [1, 2, 4, 0] rfl)
set_option maxHeartbeats 4000000 in
set_option maxRecDepth 100000 in
theorem w10_goHour_0 {p : Program} {l : Launch} {e : Env} {s : State} {m : MethodId} {args : Array Value} {below : List Frame} {meth : Method} {c : Code} {z : Zt} {b : Nat} {k0 : Nat} (hk0 : isCo k0) (C : Cx p s m args c cX10_goHour 5 RX10 z 339 b) (hr : meth.sig.returnType = none) (hk : meth.locks = false) {r : Unit} {M' : Mem} {rc : Nat → List Int32 → List Int64 → Mem → Option (Unit × Mem)} {n : Nat} (q25 : ∀ (i2 : Int32) (i3 : Int32) (M : Mem) (H : Heap) (locs : List Loc) (ls : Array Slot), rc 25 [i2, i3] [] M = some (r, M') → va_P z.1 vwCl (pw (xd z b) 339 b M) H → va_S (pA 339 b) s.heap H locs → lv_has ls 5 [(0, .ref (b + 23)), (1, .ref (b + k0)), (2, .int i2), (3, .int i3)] → W p l e rm10_goHour s m args below meth c H locs 0 0 (MQ below (va_Qv (fun (M2 : Mem) => M2 = M') (fun M2 t => va_P z.1 vwCl (pw (xd z b) 339 b M2) t.heap) (pA 339 b)) args s 0 0 (pA 339 b)) (F0 m 25 ls []))  {M : Mem} {H : Heap} {locs : List Loc} {ls : Array Slot} (hf : b10_goHour_0 k0 rc n  M = some (r, M')) (hP : va_P z.1 vwCl (pw (xd z b) 339 b M) H) (hS : va_S (pA 339 b) s.heap H locs) (hl : lv_has ls 5 [(0, .ref (b + 23)), (1, .ref (b + k0))]) : W p l e rm10_goHour s m args below meth c H locs 0 0 (MQ below (va_Qv (fun (M2 : Mem) => M2 = M') (fun M2 t => va_P z.1 vwCl (pw (xd z b) 339 b M2) t.heap) (pA 339 b)) args s 0 0 (pA 339 b)) (F0 m 0 ls []) := by
  have hx := C.1.1
  have hb := C.1.2.1
  unfold b10_goHour_0 at hf
  refine lv_aload_n hx hb dX10_goHour_0 rfl (lv_at hl 0 rfl) ?_
  refine pg C hP (k := 23) (j := 0) (Nat.le_of_ble_eq_true rfl) (xd_23 _ _) rfl iw_10 (Nat.le_of_ble_eq_true rfl) g_198 rfl rfl dX10_goHour_1 ?_
  refine pgN C hP (k := 3) (j := 7) (Nat.le_of_ble_eq_true rfl) (xd_3 _ _) rfl iw_8 (Nat.le_of_ble_eq_true rfl) g_91 rfl rfl dX10_goHour_4 ?_
  refine lv_topi (fun v1 ev1 => ?_)
  replace hf := lt_c ev1 hf
  refine lv_istore_n (lv' := [(2, .int v1), (0, .ref (b + 23)), (1, .ref (b + k0))]) hx hb dX10_goHour_7 rfl hl (by decide) rfl (fun ls hl => ?_)
  refine lv_aload_n hx hb dX10_goHour_8 rfl (lv_at hl 1 rfl) ?_
  refine pg C hP (k := 23) (j := 1) (Nat.le_of_ble_eq_true rfl) (xd_23 _ _) rfl iw_10 (Nat.le_of_ble_eq_true rfl) g_199 rfl rfl dX10_goHour_9 ?_
  refine lv_aload_n hx hb dX10_goHour_12 rfl (lv_at hl 2 rfl) ?_
  refine pgN C hP (k := k0) (j := 4) (co_lt hk0) ((co_d hk0) _ _) rfl iw_0 (Nat.le_of_ble_eq_true rfl) g_365 rfl rfl dX10_goHour_13 ?_
  refine lv_aload_n hx hb dX10_goHour_16 rfl (lv_at hl 2 rfl) ?_
  refine pgN C hP (k := k0) (j := 2) (co_lt hk0) ((co_d hk0) _ _) rfl iw_0 (Nat.le_of_ble_eq_true rfl) g_360 rfl rfl dX10_goHour_17 ?_
  obtain ⟨r2, M3, h4, hf⟩ := bnd_s hf
  refine pcVv (As := [.int (M.1 k0 4), .int (M.1 k0 2)]) C hP hS (k := 11) (Nat.le_of_ble_eq_true rfl) (xd_11 _ _) rfl (c2_setHour  h4) y2_setHour_w g_767 rfl rfl rfl ⟨Nat.le_of_ble_eq_true rfl, Nat.le_of_ble_eq_true rfl⟩ hl.1 rfl (Nat.le_of_ble_eq_true rfl) dX10_goHour_20 ⟨Nat.le_of_ble_eq_true rfl, Nat.le_of_ble_eq_true rfl⟩ (fun H locs hP hS => ?_)
  refine lv_iconst (v := (0 : Int32)) hx hb dX10_goHour_23 (by decide) ?_
  refine lv_istore_n (lv' := [(3, .int (0 : Int32)), (2, .int v1), (0, .ref (b + 23)), (1, .ref (b + k0))]) hx hb dX10_goHour_24 rfl hl (by decide) rfl (fun ls hl => ?_)
  exact w10_goHour_25 (n := n) hk0 C hr hk q25 hf hP hS (lv_sub hl [2, 3, 1, 0] rfl)
set_option maxHeartbeats 4000000 in
set_option maxRecDepth 100000 in
theorem l10_goHour {p : Program} {l : Launch} {e : Env} {s : State} {m : MethodId} {args : Array Value} {below : List Frame} {meth : Method} {c : Code} {z : Zt} {b : Nat} {k0 : Nat} (hk0 : isCo k0) (C : Cx p s m args c cX10_goHour 5 RX10 z 339 b) (hr : meth.sig.returnType = none) (hk : meth.locks = false) {r : Unit} {M' : Mem} (n : Nat) : (∀ (i2 : Int32) (i3 : Int32) (M : Mem) (H : Heap) (locs : List Loc) (ls : Array Slot), (r10_goHour k0 n) 25 [i2, i3] [] M = some (r, M') → va_P z.1 vwCl (pw (xd z b) 339 b M) H → va_S (pA 339 b) s.heap H locs → lv_has ls 5 [(0, .ref (b + 23)), (1, .ref (b + k0)), (2, .int i2), (3, .int i3)] → W p l e rm10_goHour s m args below meth c H locs 0 0 (MQ below (va_Qv (fun (M2 : Mem) => M2 = M') (fun M2 t => va_P z.1 vwCl (pw (xd z b) 339 b M2) t.heap) (pA 339 b)) args s 0 0 (pA 339 b)) (F0 m 25 ls [])) := by
  induction n with
  | zero => exact fun _ _ _ _ _ _ hf => (by cases hf)
  | succ n ih => exact fun _ _ _ _ _ _ hf hP hS hl => w10_goHour_25 (n := n) hk0 C hr hk ih ((e10_goHour_25 _ n _ _ _).symm.trans hf) hP hS hl
theorem c10_goHour {l : Launch} {z : Zt} {b n : Nat} {k0 : Nat} (hk0 : isCo k0)  {M M' : Mem} {r : Unit} (hf : f10_goHour n k0  M = some (r, M')) : CV l z (xd z b) 339 b yX10_goHour cX10_goHour 5 none rm10_goHour [.ref (b + 23), .ref (b + k0)] M M' :=
  CV.ofW (lv := [(0, .ref (b + 23)), (1, .ref (b + k0))]) (by decide) (Nat.le_of_ble_eq_true rfl) rfl (fun p e s m args below meth c ls C hr hk hP hS hl => w10_goHour_0 (n := n) hk0 C hr hk (l10_goHour hk0 C hr hk n) hf hP hS hl)

-- BronzeKing$Walker.goDay(LBronzeKing$Course;)Z
theorem dX10_goDay_0 : decode cX10_goDay 0 = .ok (.aload_n 1, 1) := by decide +kernel
theorem dX10_goDay_1 : decode cX10_goDay 1 = .ok (.getfield 23, 3) := by decide +kernel
theorem dX10_goDay_4 : decode cX10_goDay 4 = .ok (.sipush 9999, 3) := by decide +kernel
theorem dX10_goDay_7 : decode cX10_goDay 7 = .ok (.if_icmp .lt 5, 3) := by decide +kernel
theorem dX10_goDay_10 : decode cX10_goDay 10 = .ok (.iconst 0, 1) := by decide +kernel
theorem dX10_goDay_11 : decode cX10_goDay 11 = .ok (.ireturn, 1) := by decide +kernel
theorem dX10_goDay_12 : decode cX10_goDay 12 = .ok (.aload_n 1, 1) := by decide +kernel
theorem dX10_goDay_13 : decode cX10_goDay 13 = .ok (.invokevirtual 29, 3) := by decide +kernel
theorem dX10_goDay_16 : decode cX10_goDay 16 = .ok (.aload_n 1, 1) := by decide +kernel
theorem dX10_goDay_17 : decode cX10_goDay 17 = .ok (.aload_n 0, 1) := by decide +kernel
theorem dX10_goDay_18 : decode cX10_goDay 18 = .ok (.aload_n 1, 1) := by decide +kernel
theorem dX10_goDay_19 : decode cX10_goDay 19 = .ok (.invokevirtual 32, 3) := by decide +kernel
theorem dX10_goDay_22 : decode cX10_goDay 22 = .ok (.putfield 36, 3) := by decide +kernel
theorem dX10_goDay_25 : decode cX10_goDay 25 = .ok (.aload_n 1, 1) := by decide +kernel
theorem dX10_goDay_26 : decode cX10_goDay 26 = .ok (.getfield 36, 3) := by decide +kernel
theorem dX10_goDay_29 : decode cX10_goDay 29 = .ok (.ifCond .lt 8, 3) := by decide +kernel
theorem dX10_goDay_32 : decode cX10_goDay 32 = .ok (.aload_n 0, 1) := by decide +kernel
theorem dX10_goDay_33 : decode cX10_goDay 33 = .ok (.aload_n 1, 1) := by decide +kernel
theorem dX10_goDay_34 : decode cX10_goDay 34 = .ok (.invokevirtual 39, 3) := by decide +kernel
theorem dX10_goDay_37 : decode cX10_goDay 37 = .ok (.aload_n 1, 1) := by decide +kernel
theorem dX10_goDay_38 : decode cX10_goDay 38 = .ok (.dup, 1) := by decide +kernel
theorem dX10_goDay_39 : decode cX10_goDay 39 = .ok (.getfield 23, 3) := by decide +kernel
theorem dX10_goDay_42 : decode cX10_goDay 42 = .ok (.iconst 1, 1) := by decide +kernel
theorem dX10_goDay_43 : decode cX10_goDay 43 = .ok (.iadd, 1) := by decide +kernel
theorem dX10_goDay_44 : decode cX10_goDay 44 = .ok (.putfield 23, 3) := by decide +kernel
theorem dX10_goDay_47 : decode cX10_goDay 47 = .ok (.iconst 1, 1) := by decide +kernel
theorem dX10_goDay_48 : decode cX10_goDay 48 = .ok (.ireturn, 1) := by decide +kernel
def b10_goDay_37 (k0 : Nat) (rc : Nat → List Int32 → List Int64 → Mem → Option (Int32 × Mem)) (n : Nat) (M : Mem) : Option (Int32 × Mem) :=
  lt (wI M k0 2 ((M.1 k0 2) + (1 : Int32))) fun M13 =>
  some ((1 : Int32), M13)
def b10_goDay_0 (k0 : Nat) (rc : Nat → List Int32 → List Int64 → Mem → Option (Int32 × Mem)) (n : Nat) (M : Mem) : Option (Int32 × Mem) :=
  (if (M.1 k0 2) < (9999 : Int32) then (
   bnd (f0_forgetWalk n k0 M) fun r2 M3 =>
   bnd (f10_drawHour n k0 M3) fun r5 M6 =>
   lt (wI M6 k0 4 r5) fun M8 =>
   (if (M8.1 k0 4) < 0 then (
    b10_goDay_37 k0 rc n  M8)
   else (
    bnd (f10_goHour n k0 M8) fun r10 M11 =>
    b10_goDay_37 k0 rc n  M11)))
  else (
   some ((0 : Int32), M)))
def f10_goDay (n : Nat) (k0 : Nat) (M : Mem) : Option (Int32 × Mem) := b10_goDay_0 k0 (fun _ _ _ _ => none) n M
abbrev rm10_goDay : Room := { frames := 5, cells := 0, slots := 0, locals := 124 }
theorem y10_goDay_w : yV RX10 yX10_goDay cX10_goDay 2 (some .boolean) 1 := ⟨g_722, g_723, g_8, g_724, rfl, by decide, by decide, by decide +kernel⟩
set_option maxHeartbeats 4000000 in
set_option maxRecDepth 100000 in
theorem w10_goDay_37 {p : Program} {l : Launch} {e : Env} {s : State} {m : MethodId} {args : Array Value} {below : List Frame} {meth : Method} {c : Code} {z : Zt} {b : Nat} {k0 : Nat} (hk0 : isCo k0) (C : Cx p s m args c cX10_goDay 2 RX10 z 339 b) (hr : meth.sig.returnType = (some .boolean)) (hk : meth.locks = false) {r : Int32} {M' : Mem} {rc : Nat → List Int32 → List Int64 → Mem → Option (Int32 × Mem)} {n : Nat}   {M : Mem} {H : Heap} {locs : List Loc} {ls : Array Slot} (hf : b10_goDay_37 k0 rc n  M = some (r, M')) (hP : va_P z.1 vwCl (pw (xd z b) 339 b M) H) (hS : va_S (pA 339 b) s.heap H locs) (hl : lv_has ls 2 [(1, .ref (b + k0))]) : W p l e rm10_goDay s m args below meth c H locs 0 0 (MQ below (va_Qi (fun (r' : Int32) (M2 : Mem) => r' = r ∧ M2 = M') (fun M2 t => va_P z.1 vwCl (pw (xd z b) 339 b M2) t.heap) (pA 339 b)) args s 0 0 (pA 339 b)) (F0 m 37 ls []) := by
  have hx := C.1.1
  have hb := C.1.2.1
  unfold b10_goDay_37 at hf
  refine lv_aload_n hx hb dX10_goDay_37 rfl (lv_at hl 0 rfl) ?_
  refine lv_dup hx hb dX10_goDay_38 rfl ?_
  refine pgN C hP (k := k0) (j := 2) (co_lt hk0) ((co_d hk0) _ _) rfl iw_0 (Nat.le_of_ble_eq_true rfl) g_360 rfl rfl dX10_goDay_39 ?_
  refine lv_iconst (v := (1 : Int32)) hx hb dX10_goDay_42 (by decide) ?_
  refine lv_iadd hx hb dX10_goDay_43 ?_
  refine ppIN C hP hS (k := k0) (j := 2) (ty := .int) (co_lt hk0) ((co_d hk0) _ _) rfl iw_0 tyX0 tyX0_ok nmX0 (Nat.le_of_ble_eq_true rfl) g_360 rfl rfl (by decide +kernel) rfl rfl (Nat.le_of_ble_eq_true rfl) (xu_co_2 hk0 _ _ _) dX10_goDay_44 (fun M13 H locs eM13 hP hS => ?_)
  replace hf := lt_c eM13 hf
  refine lv_iconst (v := (1 : Int32)) hx hb dX10_goDay_47 (by decide) ?_
  exact prZ C hr hk hP hS hf rfl dX10_goDay_48
set_option maxHeartbeats 4000000 in
set_option maxRecDepth 100000 in
theorem w10_goDay_0 {p : Program} {l : Launch} {e : Env} {s : State} {m : MethodId} {args : Array Value} {below : List Frame} {meth : Method} {c : Code} {z : Zt} {b : Nat} {k0 : Nat} (hk0 : isCo k0) (C : Cx p s m args c cX10_goDay 2 RX10 z 339 b) (hr : meth.sig.returnType = (some .boolean)) (hk : meth.locks = false) {r : Int32} {M' : Mem} {rc : Nat → List Int32 → List Int64 → Mem → Option (Int32 × Mem)} {n : Nat}   {M : Mem} {H : Heap} {locs : List Loc} {ls : Array Slot} (hf : b10_goDay_0 k0 rc n  M = some (r, M')) (hP : va_P z.1 vwCl (pw (xd z b) 339 b M) H) (hS : va_S (pA 339 b) s.heap H locs) (hl : lv_has ls 2 [(0, .ref (b + 23)), (1, .ref (b + k0))]) : W p l e rm10_goDay s m args below meth c H locs 0 0 (MQ below (va_Qi (fun (r' : Int32) (M2 : Mem) => r' = r ∧ M2 = M') (fun M2 t => va_P z.1 vwCl (pw (xd z b) 339 b M2) t.heap) (pA 339 b)) args s 0 0 (pA 339 b)) (F0 m 0 ls []) := by
  have hx := C.1.1
  have hb := C.1.2.1
  unfold b10_goDay_0 at hf
  refine lv_aload_n hx hb dX10_goDay_0 rfl (lv_at hl 1 rfl) ?_
  refine pgN C hP (k := k0) (j := 2) (co_lt hk0) ((co_d hk0) _ _) rfl iw_0 (Nat.le_of_ble_eq_true rfl) g_360 rfl rfl dX10_goDay_1 ?_
  refine lv_sipush (v := (9999 : Int32)) hx hb dX10_goDay_4 (by decide) ?_
  refine lv_icmp_lt (tgt := 12) hx hb dX10_goDay_7 (by decide) (fun c1 => ?_) (fun c1 => ?_)
  · replace hf := ite_t c1 hf
    refine lv_aload_n hx hb dX10_goDay_12 rfl (lv_at hl 1 rfl) ?_
    obtain ⟨r2, M3, h4, hf⟩ := bnd_s hf
    refine pcVv (As := []) C hP hS (k := k0) (co_lt hk0) ((co_d hk0) _ _) rfl (c0_forgetWalk hk0 h4) y0_forgetWalk_w g_725 rfl rfl rfl ⟨Nat.le_of_ble_eq_true rfl, Nat.le_of_ble_eq_true rfl⟩ hl.1 rfl (Nat.le_of_ble_eq_true rfl) dX10_goDay_13 ⟨Nat.le_of_ble_eq_true rfl, Nat.le_of_ble_eq_true rfl⟩ (fun H locs hP hS => ?_)
    refine lv_aload_n hx hb dX10_goDay_16 rfl (lv_at hl 1 rfl) ?_
    refine lv_aload_n hx hb dX10_goDay_17 rfl (lv_at hl 0 rfl) ?_
    refine lv_aload_n hx hb dX10_goDay_18 rfl (lv_at hl 1 rfl) ?_
    obtain ⟨r5, M6, h7, hf⟩ := bnd_s hf
    refine pcVi (As := [.ref (b + k0)]) C hP hS (k := 23) (Nat.le_of_ble_eq_true rfl) (xd_23 _ _) rfl (c10_drawHour hk0 h7) y10_drawHour_w g_729 rfl rfl rfl ⟨Nat.le_of_ble_eq_true rfl, Nat.le_of_ble_eq_true rfl⟩ hl.1 rfl (Nat.le_of_ble_eq_true rfl) dX10_goDay_19 ⟨Nat.le_of_ble_eq_true rfl, Nat.le_of_ble_eq_true rfl⟩ (fun H locs hP hS => ?_)
    refine ppIN C hP hS (k := k0) (j := 4) (ty := .int) (co_lt hk0) ((co_d hk0) _ _) rfl iw_0 tyX0 tyX0_ok nmX0 (Nat.le_of_ble_eq_true rfl) g_365 rfl rfl (by decide +kernel) rfl rfl (Nat.le_of_ble_eq_true rfl) (xu_co_4 hk0 _ _ _) dX10_goDay_22 (fun M8 H locs eM8 hP hS => ?_)
    replace hf := lt_c eM8 hf
    refine lv_aload_n hx hb dX10_goDay_25 rfl (lv_at hl 1 rfl) ?_
    refine pgN C hP (k := k0) (j := 4) (co_lt hk0) ((co_d hk0) _ _) rfl iw_0 (Nat.le_of_ble_eq_true rfl) g_365 rfl rfl dX10_goDay_26 ?_
    refine lv_if_lt (tgt := 37) hx hb dX10_goDay_29 (by decide) (fun c9 => ?_) (fun c9 => ?_)
    · replace hf := ite_t c9 hf
      exact w10_goDay_37 (n := n) hk0 C hr hk  hf hP hS (lv_sub hl [1] rfl)
    · replace hf := ite_f c9 hf
      refine lv_aload_n hx hb dX10_goDay_32 rfl (lv_at hl 0 rfl) ?_
      refine lv_aload_n hx hb dX10_goDay_33 rfl (lv_at hl 1 rfl) ?_
      obtain ⟨r10, M11, h12, hf⟩ := bnd_s hf
      refine pcVv (As := [.ref (b + k0)]) C hP hS (k := 23) (Nat.le_of_ble_eq_true rfl) (xd_23 _ _) rfl (c10_goHour hk0 h12) y10_goHour_w g_763 rfl rfl rfl ⟨Nat.le_of_ble_eq_true rfl, Nat.le_of_ble_eq_true rfl⟩ hl.1 rfl (Nat.le_of_ble_eq_true rfl) dX10_goDay_34 ⟨Nat.le_of_ble_eq_true rfl, Nat.le_of_ble_eq_true rfl⟩ (fun H locs hP hS => ?_)
      exact w10_goDay_37 (n := n) hk0 C hr hk  hf hP hS (lv_sub hl [1] rfl)
  · replace hf := ite_f c1 hf
    refine lv_iconst (v := (0 : Int32)) hx hb dX10_goDay_10 (by decide) ?_
    exact prZ C hr hk hP hS hf rfl dX10_goDay_11
theorem c10_goDay {l : Launch} {z : Zt} {b n : Nat} {k0 : Nat} (hk0 : isCo k0)  {M M' : Mem} {r : Int32} (hf : f10_goDay n k0  M = some (r, M')) : CI l z (xd z b) 339 b yX10_goDay cX10_goDay 2 (some .boolean) rm10_goDay [.ref (b + 23), .ref (b + k0)] M M' r :=
  CI.ofW (lv := [(0, .ref (b + 23)), (1, .ref (b + k0))]) (by decide) (Nat.le_of_ble_eq_true rfl) rfl (fun p e s m args below meth c ls C hr hk hP hS hl => w10_goDay_0 (n := n) hk0 C hr hk  hf hP hS hl)
