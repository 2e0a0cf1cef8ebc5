-- BronzeKing$Survey.findCuts()V
theorem dX6_findCuts_0 : decode cX6_findCuts 0 = .ok (.aload_n 0, 1) := by decide +kernel
theorem dX6_findCuts_1 : decode cX6_findCuts 1 = .ok (.iconst 0, 1) := by decide +kernel
theorem dX6_findCuts_2 : decode cX6_findCuts 2 = .ok (.putfield 48, 3) := by decide +kernel
theorem dX6_findCuts_5 : decode cX6_findCuts 5 = .ok (.aload_n 0, 1) := by decide +kernel
theorem dX6_findCuts_6 : decode cX6_findCuts 6 = .ok (.bipush (-2), 2) := by decide +kernel
theorem dX6_findCuts_8 : decode cX6_findCuts 8 = .ok (.putfield 51, 3) := by decide +kernel
theorem dX6_findCuts_11 : decode cX6_findCuts 11 = .ok (.aload_n 0, 1) := by decide +kernel
theorem dX6_findCuts_12 : decode cX6_findCuts 12 = .ok (.iconst (-1), 1) := by decide +kernel
theorem dX6_findCuts_13 : decode cX6_findCuts 13 = .ok (.invokevirtual 143, 3) := by decide +kernel
theorem dX6_findCuts_16 : decode cX6_findCuts 16 = .ok (.istore_n 1, 1) := by decide +kernel
theorem dX6_findCuts_17 : decode cX6_findCuts 17 = .ok (.iconst 0, 1) := by decide +kernel
theorem dX6_findCuts_18 : decode cX6_findCuts 18 = .ok (.istore_n 2, 1) := by decide +kernel
theorem dX6_findCuts_19 : decode cX6_findCuts 19 = .ok (.iload_n 2, 1) := by decide +kernel
theorem dX6_findCuts_20 : decode cX6_findCuts 20 = .ok (.bipush 96, 2) := by decide +kernel
theorem dX6_findCuts_22 : decode cX6_findCuts 22 = .ok (.if_icmp .ge 84, 3) := by decide +kernel
theorem dX6_findCuts_25 : decode cX6_findCuts 25 = .ok (.iload_n 2, 1) := by decide +kernel
theorem dX6_findCuts_26 : decode cX6_findCuts 26 = .ok (.aload_n 0, 1) := by decide +kernel
theorem dX6_findCuts_27 : decode cX6_findCuts 27 = .ok (.getfield 54, 3) := by decide +kernel
theorem dX6_findCuts_30 : decode cX6_findCuts 30 = .ok (.getfield 58, 3) := by decide +kernel
theorem dX6_findCuts_33 : decode cX6_findCuts 33 = .ok (.if_icmp .eq 21, 3) := by decide +kernel
theorem dX6_findCuts_36 : decode cX6_findCuts 36 = .ok (.aload_n 0, 1) := by decide +kernel
theorem dX6_findCuts_37 : decode cX6_findCuts 37 = .ok (.getfield 54, 3) := by decide +kernel
theorem dX6_findCuts_40 : decode cX6_findCuts 40 = .ok (.getfield 146, 3) := by decide +kernel
theorem dX6_findCuts_43 : decode cX6_findCuts 43 = .ok (.iload_n 2, 1) := by decide +kernel
theorem dX6_findCuts_44 : decode cX6_findCuts 44 = .ok (.iaload, 1) := by decide +kernel
theorem dX6_findCuts_45 : decode cX6_findCuts 45 = .ok (.bipush 99, 2) := by decide +kernel
theorem dX6_findCuts_47 : decode cX6_findCuts 47 = .ok (.if_icmp .eq 7, 3) := by decide +kernel
theorem dX6_findCuts_50 : decode cX6_findCuts 50 = .ok (.iconst 1, 1) := by decide +kernel
theorem dX6_findCuts_51 : decode cX6_findCuts 51 = .ok (.goto 4, 3) := by decide +kernel
theorem dX6_findCuts_54 : decode cX6_findCuts 54 = .ok (.iconst 0, 1) := by decide +kernel
theorem dX6_findCuts_55 : decode cX6_findCuts 55 = .ok (.istore_n 3, 1) := by decide +kernel
theorem dX6_findCuts_56 : decode cX6_findCuts 56 = .ok (.iload_n 3, 1) := by decide +kernel
theorem dX6_findCuts_57 : decode cX6_findCuts 57 = .ok (.ifCond .eq 43, 3) := by decide +kernel
theorem dX6_findCuts_60 : decode cX6_findCuts 60 = .ok (.aload_n 0, 1) := by decide +kernel
theorem dX6_findCuts_61 : decode cX6_findCuts 61 = .ok (.iload_n 2, 1) := by decide +kernel
theorem dX6_findCuts_62 : decode cX6_findCuts 62 = .ok (.invokevirtual 143, 3) := by decide +kernel
theorem dX6_findCuts_65 : decode cX6_findCuts 65 = .ok (.iload_n 1, 1) := by decide +kernel
theorem dX6_findCuts_66 : decode cX6_findCuts 66 = .ok (.iconst 1, 1) := by decide +kernel
theorem dX6_findCuts_67 : decode cX6_findCuts 67 = .ok (.isub, 1) := by decide +kernel
theorem dX6_findCuts_68 : decode cX6_findCuts 68 = .ok (.if_icmp .ge 32, 3) := by decide +kernel
theorem dX6_findCuts_71 : decode cX6_findCuts 71 = .ok (.aload_n 0, 1) := by decide +kernel
theorem dX6_findCuts_72 : decode cX6_findCuts 72 = .ok (.aload_n 0, 1) := by decide +kernel
theorem dX6_findCuts_73 : decode cX6_findCuts 73 = .ok (.getfield 48, 3) := by decide +kernel
theorem dX6_findCuts_76 : decode cX6_findCuts 76 = .ok (.ifCond .ne 7, 3) := by decide +kernel
theorem dX6_findCuts_79 : decode cX6_findCuts 79 = .ok (.iload_n 2, 1) := by decide +kernel
theorem dX6_findCuts_80 : decode cX6_findCuts 80 = .ok (.goto 7, 3) := by decide +kernel
theorem dX6_findCuts_83 : decode cX6_findCuts 83 = .ok (.aload_n 0, 1) := by decide +kernel
theorem dX6_findCuts_84 : decode cX6_findCuts 84 = .ok (.getfield 51, 3) := by decide +kernel
theorem dX6_findCuts_87 : decode cX6_findCuts 87 = .ok (.putfield 51, 3) := by decide +kernel
theorem dX6_findCuts_90 : decode cX6_findCuts 90 = .ok (.aload_n 0, 1) := by decide +kernel
theorem dX6_findCuts_91 : decode cX6_findCuts 91 = .ok (.dup, 1) := by decide +kernel
theorem dX6_findCuts_92 : decode cX6_findCuts 92 = .ok (.getfield 48, 3) := by decide +kernel
theorem dX6_findCuts_95 : decode cX6_findCuts 95 = .ok (.iconst 1, 1) := by decide +kernel
theorem dX6_findCuts_96 : decode cX6_findCuts 96 = .ok (.iadd, 1) := by decide +kernel
theorem dX6_findCuts_97 : decode cX6_findCuts 97 = .ok (.putfield 48, 3) := by decide +kernel
theorem dX6_findCuts_100 : decode cX6_findCuts 100 = .ok (.iinc 2 1, 3) := by decide +kernel
theorem dX6_findCuts_103 : decode cX6_findCuts 103 = .ok (.goto (-84), 3) := by decide +kernel
theorem dX6_findCuts_106 : decode cX6_findCuts 106 = .ok (.return_, 1) := by decide +kernel
def b6_findCuts_100 (rc : Nat → List Int32 → List Int64 → Mem → Option (Unit × Mem)) (n : Nat) (i1 : Int32) (i2 : Int32) (M : Mem) : Option (Unit × Mem) :=
  lt (i2 + (1 : Int32)) fun v18 =>
  rc 19 [i1, v18] [] M
def b6_findCuts_87 (rc : Nat → List Int32 → List Int64 → Mem → Option (Unit × Mem)) (n : Nat) (i1 : Int32) (i2 : Int32) (s1 : Int32) (M : Mem) : Option (Unit × Mem) :=
  lt (wI M 27 12 s1) fun M16 =>
  lt (wI M16 27 11 ((M16.1 27 11) + (1 : Int32))) fun M17 =>
  b6_findCuts_100  rc n i1 i2 M17
def b6_findCuts_55 (rc : Nat → List Int32 → List Int64 → Mem → Option (Unit × Mem)) (n : Nat) (i1 : Int32) (i2 : Int32) (s0 : Int32) (M : Mem) : Option (Unit × Mem) :=
  (if s0 = 0 then (
   b6_findCuts_100  rc n i1 i2 M)
  else (
   bnd (f6_comeToWithout n i2 M) fun r11 M12 =>
   (if (i1 - (1 : Int32)) ≤ r11 then (
    b6_findCuts_100  rc n i1 i2 M12)
   else (
    (if (M12.1 27 11) = 0 then (
     b6_findCuts_87  rc n i1 i2 i2 M12)
    else (
     b6_findCuts_87  rc n i1 i2 (M12.1 27 12) M12))))))
def b6_findCuts_54 (rc : Nat → List Int32 → List Int64 → Mem → Option (Unit × Mem)) (n : Nat) (i1 : Int32) (i2 : Int32) (M : Mem) : Option (Unit × Mem) :=
  b6_findCuts_55  rc n i1 i2 (0 : Int32) M
def b6_findCuts_19 (rc : Nat → List Int32 → List Int64 → Mem → Option (Unit × Mem)) (n : Nat) (i1 : Int32) (i2 : Int32) (M : Mem) : Option (Unit × Mem) :=
  (if (96 : Int32) ≤ i2 then (
   some ((), M))
  else (
   (if i2 = (M.1 3 7) then (
    b6_findCuts_54  rc n i1 i2 M)
   else (
    chk (inb i2 96) <|
    (if (M.1 7 i2.toNatClampNeg) = (99 : Int32) then (
     b6_findCuts_54  rc n i1 i2 M)
    else (
     b6_findCuts_55  rc n i1 i2 (1 : Int32) M))))))
def b6_findCuts_0 (rc : Nat → List Int32 → List Int64 → Mem → Option (Unit × Mem)) (n : Nat) (M : Mem) : Option (Unit × Mem) :=
  lt (wI M 27 11 (0 : Int32)) fun M1 =>
  lt (wI M1 27 12 (-2 : Int32)) fun M2 =>
  bnd (f6_comeToWithout n (-1 : Int32) M2) fun r3 M4 =>
  b6_findCuts_19  rc n r3 (0 : Int32) M4
def r6_findCuts : Nat → Nat → List Int32 → List Int64 → Mem → Option (Unit × Mem)
  | 0 => fun _ _ _ _ => none
  | n + 1 => fun pc li lj M =>
    if pc = 19 then (match li, lj with | [i1, i2], [] => b6_findCuts_19  (r6_findCuts  n) n i1 i2 M | _, _ => none) else
    none
theorem e6_findCuts_19  (n : Nat) (i1 : Int32) (i2 : Int32) (M : Mem) : r6_findCuts  (n + 1) 19 [i1, i2] [] M = b6_findCuts_19  (r6_findCuts  n) n i1 i2 M := by
  rw [r6_findCuts]
  simp
def f6_findCuts (n : Nat)  (M : Mem) : Option (Unit × Mem) := b6_findCuts_0 (r6_findCuts n) n M
abbrev rm6_findCuts : Room := { frames := 4, cells := 0, slots := 0, locals := 93 }
theorem y6_findCuts_w : yV RX6 yX6_findCuts cX6_findCuts 4 none 0 := ⟨g_1087, g_1088, g_10, g_1089, rfl, by decide, by decide, by decide +kernel⟩
set_option maxHeartbeats 4000000 in
set_option maxRecDepth 100000 in
theorem w6_findCuts_100 {p : Program} {l : Launch} {e : Env} {s : State} {m : MethodId} {args : Array Value} {below : List Frame} {meth : Method} {c : Code} {z : Zt} {b : Nat}  (C : Cx p s m args c cX6_findCuts 4 RX6 z 339 b) (hr : meth.sig.returnType = none) (hk : meth.locks = false) {r : Unit} {M' : Mem} {rc : Nat → List Int32 → List Int64 → Mem → Option (Unit × Mem)} {n : Nat} (q19 : ∀ (i1 : Int32) (i2 : Int32) (M : Mem) (H : Heap) (locs : List Loc) (ls : Array Slot), rc 19 [i1, i2] [] M = some (r, M') → va_P z.1 vwCl (pw (xd z b) 339 b M) H → va_S (pA 339 b) s.heap H locs → lv_has ls 4 [(0, .ref (b + 27)), (1, .int i1), (2, .int i2)] → W p l e rm6_findCuts s m args below meth c H locs 0 0 (MQ below (va_Qv (fun (M2 : Mem) => M2 = M') (fun M2 t => va_P z.1 vwCl (pw (xd z b) 339 b M2) t.heap) (pA 339 b)) args s 0 0 (pA 339 b)) (F0 m 19 ls [])) {i1 : Int32} {i2 : Int32} {M : Mem} {H : Heap} {locs : List Loc} {ls : Array Slot} (hf : b6_findCuts_100  rc n i1 i2 M = some (r, M')) (hP : va_P z.1 vwCl (pw (xd z b) 339 b M) H) (hS : va_S (pA 339 b) s.heap H locs) (hl : lv_has ls 4 [(0, .ref (b + 27)), (1, .int i1), (2, .int i2)]) : W p l e rm6_findCuts s m args below meth c H locs 0 0 (MQ below (va_Qv (fun (M2 : Mem) => M2 = M') (fun M2 t => va_P z.1 vwCl (pw (xd z b) 339 b M2) t.heap) (pA 339 b)) args s 0 0 (pA 339 b)) (F0 m 100 ls []) := by
  have hx := C.1.1
  have hb := C.1.2.1
  unfold b6_findCuts_100 at hf
  obtain ⟨v18, ev18⟩ : ∃ v : Int32, v = i2 + (1 : Int32) := ⟨_, rfl⟩
  replace hf := lt_c ev18 hf
  refine lv_iinc (v := v18) (lv' := [(2, .int v18), (0, .ref (b + 27)), (1, .int i1)]) hx hb dX6_findCuts_100 hl (k := 2) rfl (by rw [ev18]; rfl) (by decide) rfl (fun ls hl => ?_)
  refine lv_goto (tgt := 19) hx hb dX6_findCuts_103 (by decide) ?_
  exact q19 i1 v18 M _ _ _ hf hP hS (lv_sub hl [1, 2, 0] rfl)
set_option maxHeartbeats 4000000 in
set_option maxRecDepth 100000 in
theorem w6_findCuts_87 {p : Program} {l : Launch} {e : Env} {s : State} {m : MethodId} {args : Array Value} {below : List Frame} {meth : Method} {c : Code} {z : Zt} {b : Nat}  (C : Cx p s m args c cX6_findCuts 4 RX6 z 339 b) (hr : meth.sig.returnType = none) (hk : meth.locks = false) {r : Unit} {M' : Mem} {rc : Nat → List Int32 → List Int64 → Mem → Option (Unit × Mem)} {n : Nat} (q19 : ∀ (i1 : Int32) (i2 : Int32) (M : Mem) (H : Heap) (locs : List Loc) (ls : Array Slot), rc 19 [i1, i2] [] M = some (r, M') → va_P z.1 vwCl (pw (xd z b) 339 b M) H → va_S (pA 339 b) s.heap H locs → lv_has ls 4 [(0, .ref (b + 27)), (1, .int i1), (2, .int i2)] → W p l e rm6_findCuts s m args below meth c H locs 0 0 (MQ below (va_Qv (fun (M2 : Mem) => M2 = M') (fun M2 t => va_P z.1 vwCl (pw (xd z b) 339 b M2) t.heap) (pA 339 b)) args s 0 0 (pA 339 b)) (F0 m 19 ls [])) {i1 : Int32} {i2 : Int32} {s1 : Int32} {M : Mem} {H : Heap} {locs : List Loc} {ls : Array Slot} (hf : b6_findCuts_87  rc n i1 i2 s1 M = some (r, M')) (hP : va_P z.1 vwCl (pw (xd z b) 339 b M) H) (hS : va_S (pA 339 b) s.heap H locs) (hl : lv_has ls 4 [(0, .ref (b + 27)), (1, .int i1), (2, .int i2)]) : W p l e rm6_findCuts s m args below meth c H locs 0 0 (MQ below (va_Qv (fun (M2 : Mem) => M2 = M') (fun M2 t => va_P z.1 vwCl (pw (xd z b) 339 b M2) t.heap) (pA 339 b)) args s 0 0 (pA 339 b)) (F0 m 87 ls [.int s1, .ref (b + 27)]) := by
  have hx := C.1.1
  have hb := C.1.2.1
  unfold b6_findCuts_87 at hf
  refine ppI C hP hS (k := 27) (j := 12) (ty := .int) (Nat.le_of_ble_eq_true rfl) (xd_27 _ _) rfl iw_6 tyX6 tyX6_ok nmX6 (Nat.le_of_ble_eq_true rfl) g_270 rfl rfl (by decide +kernel) rfl rfl (Nat.le_of_ble_eq_true rfl) (xu_27_12 _ _ _) dX6_findCuts_87 (fun M16 H locs eM16 hP hS => ?_)
  replace hf := lt_c eM16 hf
  refine lv_aload_n hx hb dX6_findCuts_90 rfl (lv_at hl 0 rfl) ?_
  refine lv_dup hx hb dX6_findCuts_91 rfl ?_
  refine pg C hP (k := 27) (j := 11) (Nat.le_of_ble_eq_true rfl) (xd_27 _ _) rfl iw_6 (Nat.le_of_ble_eq_true rfl) g_268 rfl rfl dX6_findCuts_92 ?_
  refine lv_iconst (v := (1 : Int32)) hx hb dX6_findCuts_95 (by decide) ?_
  refine lv_iadd hx hb dX6_findCuts_96 ?_
  refine ppI C hP hS (k := 27) (j := 11) (ty := .int) (Nat.le_of_ble_eq_true rfl) (xd_27 _ _) rfl iw_6 tyX6 tyX6_ok nmX6 (Nat.le_of_ble_eq_true rfl) g_268 rfl rfl (by decide +kernel) rfl rfl (Nat.le_of_ble_eq_true rfl) (xu_27_11 _ _ _) dX6_findCuts_97 (fun M17 H locs eM17 hP hS => ?_)
  replace hf := lt_c eM17 hf
  exact w6_findCuts_100 (n := n)  C hr hk q19 hf hP hS (lv_sub hl [0, 1, 2] rfl)
set_option maxHeartbeats 4000000 in
set_option maxRecDepth 100000 in
theorem w6_findCuts_55 {p : Program} {l : Launch} {e : Env} {s : State} {m : MethodId} {args : Array Value} {below : List Frame} {meth : Method} {c : Code} {z : Zt} {b : Nat}  (C : Cx p s m args c cX6_findCuts 4 RX6 z 339 b) (hr : meth.sig.returnType = none) (hk : meth.locks = false) {r : Unit} {M' : Mem} {rc : Nat → List Int32 → List Int64 → Mem → Option (Unit × Mem)} {n : Nat} (q19 : ∀ (i1 : Int32) (i2 : Int32) (M : Mem) (H : Heap) (locs : List Loc) (ls : Array Slot), rc 19 [i1, i2] [] M = some (r, M') → va_P z.1 vwCl (pw (xd z b) 339 b M) H → va_S (pA 339 b) s.heap H locs → lv_has ls 4 [(0, .ref (b + 27)), (1, .int i1), (2, .int i2)] → W p l e rm6_findCuts s m args below meth c H locs 0 0 (MQ below (va_Qv (fun (M2 : Mem) => M2 = M') (fun M2 t => va_P z.1 vwCl (pw (xd z b) 339 b M2) t.heap) (pA 339 b)) args s 0 0 (pA 339 b)) (F0 m 19 ls [])) {i1 : Int32} {i2 : Int32} {s0 : Int32} {M : Mem} {H : Heap} {locs : List Loc} {ls : Array Slot} (hf : b6_findCuts_55  rc n i1 i2 s0 M = some (r, M')) (hP : va_P z.1 vwCl (pw (xd z b) 339 b M) H) (hS : va_S (pA 339 b) s.heap H locs) (hl : lv_has ls 4 [(0, .ref (b + 27)), (1, .int i1), (2, .int i2)]) : W p l e rm6_findCuts s m args below meth c H locs 0 0 (MQ below (va_Qv (fun (M2 : Mem) => M2 = M') (fun M2 t => va_P z.1 vwCl (pw (xd z b) 339 b M2) t.heap) (pA 339 b)) args s 0 0 (pA 339 b)) (F0 m 55 ls [.int s0]) := by
  have hx := C.1.1
  have hb := C.1.2.1
  unfold b6_findCuts_55 at hf
  refine lv_istore_n (lv' := [(3, .int s0), (0, .ref (b + 27)), (1, .int i1), (2, .int i2)]) hx hb dX6_findCuts_55 rfl hl (by decide) rfl (fun ls hl => ?_)
  refine lv_iload_n hx hb dX6_findCuts_56 rfl (lv_at hl 0 rfl) ?_
  refine lv_if_eq (tgt := 100) hx hb dX6_findCuts_57 (by decide) (fun c10 => ?_) (fun c10 => ?_)
  · replace hf := ite_t c10 hf
    exact w6_findCuts_100 (n := n)  C hr hk q19 hf hP hS (lv_sub hl [1, 2, 3] rfl)
  · replace hf := ite_f c10 hf
    refine lv_aload_n hx hb dX6_findCuts_60 rfl (lv_at hl 1 rfl) ?_
    refine lv_iload_n hx hb dX6_findCuts_61 rfl (lv_at hl 3 rfl) ?_
    obtain ⟨r11, M12, h13, hf⟩ := bnd_s hf
    refine pcVi (As := [.int i2]) C hP hS (k := 27) (Nat.le_of_ble_eq_true rfl) (xd_27 _ _) rfl (c6_comeToWithout  h13) y6_comeToWithout_w g_1090 rfl rfl rfl ⟨Nat.le_of_ble_eq_true rfl, Nat.le_of_ble_eq_true rfl⟩ hl.1 rfl (Nat.le_of_ble_eq_true rfl) dX6_findCuts_62 ⟨Nat.le_of_ble_eq_true rfl, Nat.le_of_ble_eq_true rfl⟩ (fun H locs hP hS => ?_)
    refine lv_iload_n hx hb dX6_findCuts_65 rfl (lv_at hl 2 rfl) ?_
    refine lv_iconst (v := (1 : Int32)) hx hb dX6_findCuts_66 (by decide) ?_
    refine lv_isub hx hb dX6_findCuts_67 ?_
    refine lv_icmp_ge (tgt := 100) hx hb dX6_findCuts_68 (by decide) (fun c14 => ?_) (fun c14 => ?_)
    · replace hf := ite_t c14 hf
      exact w6_findCuts_100 (n := n)  C hr hk q19 hf hP hS (lv_sub hl [1, 2, 3] rfl)
    · replace hf := ite_f c14 hf
      refine lv_aload_n hx hb dX6_findCuts_71 rfl (lv_at hl 1 rfl) ?_
      refine lv_aload_n hx hb dX6_findCuts_72 rfl (lv_at hl 1 rfl) ?_
      refine pg C hP (k := 27) (j := 11) (Nat.le_of_ble_eq_true rfl) (xd_27 _ _) rfl iw_6 (Nat.le_of_ble_eq_true rfl) g_268 rfl rfl dX6_findCuts_73 ?_
      refine lv_if_ne (tgt := 83) hx hb dX6_findCuts_76 (by decide) (fun c15 => ?_) (fun c15 => ?_)
      · replace hf := ite_f c15 hf
        refine lv_aload_n hx hb dX6_findCuts_83 rfl (lv_at hl 1 rfl) ?_
        refine pg C hP (k := 27) (j := 12) (Nat.le_of_ble_eq_true rfl) (xd_27 _ _) rfl iw_6 (Nat.le_of_ble_eq_true rfl) g_270 rfl rfl dX6_findCuts_84 ?_
        exact w6_findCuts_87 (n := n)  C hr hk q19 hf hP hS (lv_sub hl [1, 2, 3] rfl)
      · replace hf := ite_t c15 hf
        refine lv_iload_n hx hb dX6_findCuts_79 rfl (lv_at hl 3 rfl) ?_
        refine lv_goto (tgt := 87) hx hb dX6_findCuts_80 (by decide) ?_
        exact w6_findCuts_87 (n := n)  C hr hk q19 hf hP hS (lv_sub hl [1, 2, 3] rfl)
set_option maxHeartbeats 4000000 in
set_option maxRecDepth 100000 in
theorem w6_findCuts_54 {p : Program} {l : Launch} {e : Env} {s : State} {m : MethodId} {args : Array Value} {below : List Frame} {meth : Method} {c : Code} {z : Zt} {b : Nat}  (C : Cx p s m args c cX6_findCuts 4 RX6 z 339 b) (hr : meth.sig.returnType = none) (hk : meth.locks = false) {r : Unit} {M' : Mem} {rc : Nat → List Int32 → List Int64 → Mem → Option (Unit × Mem)} {n : Nat} (q19 : ∀ (i1 : Int32) (i2 : Int32) (M : Mem) (H : Heap) (locs : List Loc) (ls : Array Slot), rc 19 [i1, i2] [] M = some (r, M') → va_P z.1 vwCl (pw (xd z b) 339 b M) H → va_S (pA 339 b) s.heap H locs → lv_has ls 4 [(0, .ref (b + 27)), (1, .int i1), (2, .int i2)] → W p l e rm6_findCuts s m args below meth c H locs 0 0 (MQ below (va_Qv (fun (M2 : Mem) => M2 = M') (fun M2 t => va_P z.1 vwCl (pw (xd z b) 339 b M2) t.heap) (pA 339 b)) args s 0 0 (pA 339 b)) (F0 m 19 ls [])) {i1 : Int32} {i2 : Int32} {M : Mem} {H : Heap} {locs : List Loc} {ls : Array Slot} (hf : b6_findCuts_54  rc n i1 i2 M = some (r, M')) (hP : va_P z.1 vwCl (pw (xd z b) 339 b M) H) (hS : va_S (pA 339 b) s.heap H locs) (hl : lv_has ls 4 [(0, .ref (b + 27)), (1, .int i1), (2, .int i2)]) : W p l e rm6_findCuts s m args below meth c H locs 0 0 (MQ below (va_Qv (fun (M2 : Mem) => M2 = M') (fun M2 t => va_P z.1 vwCl (pw (xd z b) 339 b M2) t.heap) (pA 339 b)) args s 0 0 (pA 339 b)) (F0 m 54 ls []) := by
  have hx := C.1.1
  have hb := C.1.2.1
  unfold b6_findCuts_54 at hf
  refine lv_iconst (v := (0 : Int32)) hx hb dX6_findCuts_54 (by decide) ?_
  exact w6_findCuts_55 (n := n)  C hr hk q19 hf hP hS (lv_sub hl [0, 1, 2] rfl)
set_option maxHeartbeats 4000000 in
set_option maxRecDepth 100000 in
theorem w6_findCuts_19 {p : Program} {l : Launch} {e : Env} {s : State} {m : MethodId} {args : Array Value} {below : List Frame} {meth : Method} {c : Code} {z : Zt} {b : Nat}  (C : Cx p s m args c cX6_findCuts 4 RX6 z 339 b) (hr : meth.sig.returnType = none) (hk : meth.locks = false) {r : Unit} {M' : Mem} {rc : Nat → List Int32 → List Int64 → Mem → Option (Unit × Mem)} {n : Nat} (q19 : ∀ (i1 : Int32) (i2 : Int32) (M : Mem) (H : Heap) (locs : List Loc) (ls : Array Slot), rc 19 [i1, i2] [] M = some (r, M') → va_P z.1 vwCl (pw (xd z b) 339 b M) H → va_S (pA 339 b) s.heap H locs → lv_has ls 4 [(0, .ref (b + 27)), (1, .int i1), (2, .int i2)] → W p l e rm6_findCuts s m args below meth c H locs 0 0 (MQ below (va_Qv (fun (M2 : Mem) => M2 = M') (fun M2 t => va_P z.1 vwCl (pw (xd z b) 339 b M2) t.heap) (pA 339 b)) args s 0 0 (pA 339 b)) (F0 m 19 ls [])) {i1 : Int32} {i2 : Int32} {M : Mem} {H : Heap} {locs : List Loc} {ls : Array Slot} (hf : b6_findCuts_19  rc n i1 i2 M = some (r, M')) (hP : va_P z.1 vwCl (pw (xd z b) 339 b M) H) (hS : va_S (pA 339 b) s.heap H locs) (hl : lv_has ls 4 [(0, .ref (b + 27)), (1, .int i1), (2, .int i2)]) : W p l e rm6_findCuts s m args below meth c H locs 0 0 (MQ below (va_Qv (fun (M2 : Mem) => M2 = M') (fun M2 t => va_P z.1 vwCl (pw (xd z b) 339 b M2) t.heap) (pA 339 b)) args s 0 0 (pA 339 b)) (F0 m 19 ls []) := by
  have hx := C.1.1
  have hb := C.1.2.1
  unfold b6_findCuts_19 at hf
  refine lv_iload_n hx hb dX6_findCuts_19 rfl (lv_at hl 2 rfl) ?_
  refine lv_bipush (v := (96 : Int32)) hx hb dX6_findCuts_20 (by decide) ?_
  refine lv_icmp_ge (tgt := 106) hx hb dX6_findCuts_22 (by decide) (fun c6 => ?_) (fun c6 => ?_)
  · replace hf := ite_t c6 hf
    exact prV C hr hk hP hS hf dX6_findCuts_106
  · replace hf := ite_f c6 hf
    refine lv_iload_n hx hb dX6_findCuts_25 rfl (lv_at hl 2 rfl) ?_
    refine lv_aload_n hx hb dX6_findCuts_26 rfl (lv_at hl 0 rfl) ?_
    refine pg C hP (k := 27) (j := 0) (Nat.le_of_ble_eq_true rfl) (xd_27 _ _) rfl iw_6 (Nat.le_of_ble_eq_true rfl) g_253 rfl rfl dX6_findCuts_27 ?_
    refine pgN C hP (k := 3) (j := 7) (Nat.le_of_ble_eq_true rfl) (xd_3 _ _) rfl iw_8 (Nat.le_of_ble_eq_true rfl) g_89 rfl rfl dX6_findCuts_30 ?_
    refine lv_icmp_eq (tgt := 54) hx hb dX6_findCuts_33 (by decide) (fun c7 => ?_) (fun c7 => ?_)
    · replace hf := ite_t c7 hf
      exact w6_findCuts_54 (n := n)  C hr hk q19 hf hP hS (lv_sub hl [0, 1, 2] rfl)
    · replace hf := ite_f c7 hf
      refine lv_aload_n hx hb dX6_findCuts_36 rfl (lv_at hl 0 rfl) ?_
      refine pg C hP (k := 27) (j := 0) (Nat.le_of_ble_eq_true rfl) (xd_27 _ _) rfl iw_6 (Nat.le_of_ble_eq_true rfl) g_253 rfl rfl dX6_findCuts_37 ?_
      refine pgN C hP (k := 3) (j := 3) (Nat.le_of_ble_eq_true rfl) (xd_3 _ _) rfl iw_8 (Nat.le_of_ble_eq_true rfl) g_79 rfl rfl dX6_findCuts_40 ?_
      refine lv_iload_n hx hb dX6_findCuts_43 rfl (lv_at hl 2 rfl) ?_
      have h8 := chk_1 hf
      replace hf := chk_2 hf
      refine paI C hP (k := 7) (Nat.le_of_ble_eq_true rfl) (xd_7 _ _) h8 dX6_findCuts_44 ?_
      refine lv_bipush (v := (99 : Int32)) hx hb dX6_findCuts_45 (by decide) ?_
      refine lv_icmp_eq (tgt := 54) hx hb dX6_findCuts_47 (by decide) (fun c9 => ?_) (fun c9 => ?_)
      · replace hf := ite_t c9 hf
        exact w6_findCuts_54 (n := n)  C hr hk q19 hf hP hS (lv_sub hl [0, 1, 2] rfl)
      · replace hf := ite_f c9 hf
        refine lv_iconst (v := (1 : Int32)) hx hb dX6_findCuts_50 (by decide) ?_
        refine lv_goto (tgt := 55) hx hb dX6_findCuts_51 (by decide) ?_
        exact w6_findCuts_55 (n := n)  C hr hk q19 hf hP hS (lv_sub hl [0, 1, 2] rfl)
set_option maxHeartbeats 4000000 in
set_option maxRecDepth 100000 in
theorem w6_findCuts_0 {p : Program} {l : Launch} {e : Env} {s : State} {m : MethodId} {args : Array Value} {below : List Frame} {meth : Method} {c : Code} {z : Zt} {b : Nat}  (C : Cx p s m args c cX6_findCuts 4 RX6 z 339 b) (hr : meth.sig.returnType = none) (hk : meth.locks = false) {r : Unit} {M' : Mem} {rc : Nat → List Int32 → List Int64 → Mem → Option (Unit × Mem)} {n : Nat} (q19 : ∀ (i1 : Int32) (i2 : Int32) (M : Mem) (H : Heap) (locs : List Loc) (ls : Array Slot), rc 19 [i1, i2] [] M = some (r, M') → va_P z.1 vwCl (pw (xd z b) 339 b M) H → va_S (pA 339 b) s.heap H locs → lv_has ls 4 [(0, .ref (b + 27)), (1, .int i1), (2, .int i2)] → W p l e rm6_findCuts s m args below meth c H locs 0 0 (MQ below (va_Qv (fun (M2 : Mem) => M2 = M') (fun M2 t => va_P z.1 vwCl (pw (xd z b) 339 b M2) t.heap) (pA 339 b)) args s 0 0 (pA 339 b)) (F0 m 19 ls []))  {M : Mem} {H : Heap} {locs : List Loc} {ls : Array Slot} (hf : b6_findCuts_0  rc n  M = some (r, M')) (hP : va_P z.1 vwCl (pw (xd z b) 339 b M) H) (hS : va_S (pA 339 b) s.heap H locs) (hl : lv_has ls 4 [(0, .ref (b + 27))]) : W p l e rm6_findCuts s m args below meth c H locs 0 0 (MQ below (va_Qv (fun (M2 : Mem) => M2 = M') (fun M2 t => va_P z.1 vwCl (pw (xd z b) 339 b M2) t.heap) (pA 339 b)) args s 0 0 (pA 339 b)) (F0 m 0 ls []) := by
  have hx := C.1.1
  have hb := C.1.2.1
  unfold b6_findCuts_0 at hf
  refine lv_aload_n hx hb dX6_findCuts_0 rfl (lv_at hl 0 rfl) ?_
  refine lv_iconst (v := (0 : Int32)) hx hb dX6_findCuts_1 (by decide) ?_
  refine ppI C hP hS (k := 27) (j := 11) (ty := .int) (Nat.le_of_ble_eq_true rfl) (xd_27 _ _) rfl iw_6 tyX6 tyX6_ok nmX6 (Nat.le_of_ble_eq_true rfl) g_268 rfl rfl (by decide +kernel) rfl rfl (Nat.le_of_ble_eq_true rfl) (xu_27_11 _ _ _) dX6_findCuts_2 (fun M1 H locs eM1 hP hS => ?_)
  replace hf := lt_c eM1 hf
  refine lv_aload_n hx hb dX6_findCuts_5 rfl (lv_at hl 0 rfl) ?_
  refine lv_bipush (v := (-2 : Int32)) hx hb dX6_findCuts_6 (by decide) ?_
  refine ppI C hP hS (k := 27) (j := 12) (ty := .int) (Nat.le_of_ble_eq_true rfl) (xd_27 _ _) rfl iw_6 tyX6 tyX6_ok nmX6 (Nat.le_of_ble_eq_true rfl) g_270 rfl rfl (by decide +kernel) rfl rfl (Nat.le_of_ble_eq_true rfl) (xu_27_12 _ _ _) dX6_findCuts_8 (fun M2 H locs eM2 hP hS => ?_)
  replace hf := lt_c eM2 hf
  refine lv_aload_n hx hb dX6_findCuts_11 rfl (lv_at hl 0 rfl) ?_
  refine lv_iconst (v := (-1 : Int32)) hx hb dX6_findCuts_12 (by decide) ?_
  obtain ⟨r3, M4, h5, hf⟩ := bnd_s hf
  refine pcVi (As := [.int (-1 : Int32)]) C hP hS (k := 27) (Nat.le_of_ble_eq_true rfl) (xd_27 _ _) rfl (c6_comeToWithout  h5) y6_comeToWithout_w g_1090 rfl rfl rfl ⟨Nat.le_of_ble_eq_true rfl, Nat.le_of_ble_eq_true rfl⟩ hl.1 rfl (Nat.le_of_ble_eq_true rfl) dX6_findCuts_13 ⟨Nat.le_of_ble_eq_true rfl, Nat.le_of_ble_eq_true rfl⟩ (fun H locs hP hS => ?_)
  refine lv_istore_n (lv' := [(1, .int r3), (0, .ref (b + 27))]) hx hb dX6_findCuts_16 rfl hl (by decide) rfl (fun ls hl => ?_)
  refine lv_iconst (v := (0 : Int32)) hx hb dX6_findCuts_17 (by decide) ?_
  refine lv_istore_n (lv' := [(2, .int (0 : Int32)), (1, .int r3), (0, .ref (b + 27))]) hx hb dX6_findCuts_18 rfl hl (by decide) rfl (fun ls hl => ?_)
  exact w6_findCuts_19 (n := n)  C hr hk q19 hf hP hS (lv_sub hl [2, 1, 0] rfl)
set_option maxHeartbeats 4000000 in
set_option maxRecDepth 100000 in
theorem l6_findCuts {p : Program} {l : Launch} {e : Env} {s : State} {m : MethodId} {args : Array Value} {below : List Frame} {meth : Method} {c : Code} {z : Zt} {b : Nat}  (C : Cx p s m args c cX6_findCuts 4 RX6 z 339 b) (hr : meth.sig.returnType = none) (hk : meth.locks = false) {r : Unit} {M' : Mem} (n : Nat) : (∀ (i1 : Int32) (i2 : Int32) (M : Mem) (H : Heap) (locs : List Loc) (ls : Array Slot), (r6_findCuts  n) 19 [i1, i2] [] M = some (r, M') → va_P z.1 vwCl (pw (xd z b) 339 b M) H → va_S (pA 339 b) s.heap H locs → lv_has ls 4 [(0, .ref (b + 27)), (1, .int i1), (2, .int i2)] → W p l e rm6_findCuts s m args below meth c H locs 0 0 (MQ below (va_Qv (fun (M2 : Mem) => M2 = M') (fun M2 t => va_P z.1 vwCl (pw (xd z b) 339 b M2) t.heap) (pA 339 b)) args s 0 0 (pA 339 b)) (F0 m 19 ls [])) := by
  induction n with
  | zero => exact fun _ _ _ _ _ _ hf => (by cases hf)
  | succ n ih => exact fun _ _ _ _ _ _ hf hP hS hl => w6_findCuts_19 (n := n)  C hr hk ih ((e6_findCuts_19  n _ _ _).symm.trans hf) hP hS hl
theorem c6_findCuts {l : Launch} {z : Zt} {b n : Nat}   {M M' : Mem} {r : Unit} (hf : f6_findCuts n   M = some (r, M')) : CV l z (xd z b) 339 b yX6_findCuts cX6_findCuts 4 none rm6_findCuts [.ref (b + 27)] M M' :=
  CV.ofW (lv := [(0, .ref (b + 27))]) (by decide) (Nat.le_of_ble_eq_true rfl) rfl (fun p e s m args below meth c ls C hr hk hP hS hl => w6_findCuts_0 (n := n)  C hr hk (l6_findCuts  C hr hk n) hf hP hS hl)

-- BronzeKing$Tape.hasRoomForFive()Z
theorem dX7_hasRoomForFive_0 : decode cX7_hasRoomForFive 0 = .ok (.aload_n 0, 1) := by decide +kernel
theorem dX7_hasRoomForFive_1 : decode cX7_hasRoomForFive 1 = .ok (.getfield 15, 3) := by decide +kernel
theorem dX7_hasRoomForFive_4 : decode cX7_hasRoomForFive 4 = .ok (.bipush 20, 2) := by decide +kernel
theorem dX7_hasRoomForFive_6 : decode cX7_hasRoomForFive 6 = .ok (.iadd, 1) := by decide +kernel
theorem dX7_hasRoomForFive_7 : decode cX7_hasRoomForFive 7 = .ok (.sipush 260, 3) := by decide +kernel
theorem dX7_hasRoomForFive_10 : decode cX7_hasRoomForFive 10 = .ok (.if_icmp .gt 7, 3) := by decide +kernel
theorem dX7_hasRoomForFive_13 : decode cX7_hasRoomForFive 13 = .ok (.iconst 1, 1) := by decide +kernel
theorem dX7_hasRoomForFive_14 : decode cX7_hasRoomForFive 14 = .ok (.goto 4, 3) := by decide +kernel
theorem dX7_hasRoomForFive_17 : decode cX7_hasRoomForFive 17 = .ok (.iconst 0, 1) := by decide +kernel
theorem dX7_hasRoomForFive_18 : decode cX7_hasRoomForFive 18 = .ok (.ireturn, 1) := by decide +kernel
def b7_hasRoomForFive_0 (rc : Nat → List Int32 → List Int64 → Mem → Option (Int32 × Mem)) (n : Nat) (M : Mem) : Option (Int32 × Mem) :=
  (if (260 : Int32) < ((M.1 1 1) + (20 : Int32)) then (
   some ((0 : Int32), M))
  else (
   some ((1 : Int32), M)))
def f7_hasRoomForFive (n : Nat)  (M : Mem) : Option (Int32 × Mem) := b7_hasRoomForFive_0 (fun _ _ _ _ => none) n M
abbrev rm7_hasRoomForFive : Room := { frames := 0, cells := 0, slots := 0, locals := 0 }
theorem y7_hasRoomForFive_w : yV RX7 yX7_hasRoomForFive cX7_hasRoomForFive 1 (some .boolean) 0 := ⟨g_476, g_477, g_2, g_478, rfl, by decide, by decide, by decide +kernel⟩
set_option maxHeartbeats 4000000 in
set_option maxRecDepth 100000 in
theorem w7_hasRoomForFive_0 {p : Program} {l : Launch} {e : Env} {s : State} {m : MethodId} {args : Array Value} {below : List Frame} {meth : Method} {c : Code} {z : Zt} {b : Nat}  (C : Cx p s m args c cX7_hasRoomForFive 1 RX7 z 339 b) (hr : meth.sig.returnType = (some .boolean)) (hk : meth.locks = false) {r : Int32} {M' : Mem} {rc : Nat → List Int32 → List Int64 → Mem → Option (Int32 × Mem)} {n : Nat}   {M : Mem} {H : Heap} {locs : List Loc} {ls : Array Slot} (hf : b7_hasRoomForFive_0  rc n  M = some (r, M')) (hP : va_P z.1 vwCl (pw (xd z b) 339 b M) H) (hS : va_S (pA 339 b) s.heap H locs) (hl : lv_has ls 1 [(0, .ref (b + 1))]) : W p l e rm7_hasRoomForFive s m args below meth c H locs 0 0 (MQ below (va_Qi (fun (r' : Int32) (M2 : Mem) => r' = r ∧ M2 = M') (fun M2 t => va_P z.1 vwCl (pw (xd z b) 339 b M2) t.heap) (pA 339 b)) args s 0 0 (pA 339 b)) (F0 m 0 ls []) := by
  have hx := C.1.1
  have hb := C.1.2.1
  unfold b7_hasRoomForFive_0 at hf
  refine lv_aload_n hx hb dX7_hasRoomForFive_0 rfl (lv_at hl 0 rfl) ?_
  refine pg C hP (k := 1) (j := 1) (Nat.le_of_ble_eq_true rfl) (xd_1 _ _) rfl iw_7 (Nat.le_of_ble_eq_true rfl) g_40 rfl rfl dX7_hasRoomForFive_1 ?_
  refine lv_bipush (v := (20 : Int32)) hx hb dX7_hasRoomForFive_4 (by decide) ?_
  refine lv_iadd hx hb dX7_hasRoomForFive_6 ?_
  refine lv_sipush (v := (260 : Int32)) hx hb dX7_hasRoomForFive_7 (by decide) ?_
  refine lv_icmp_gt (tgt := 17) hx hb dX7_hasRoomForFive_10 (by decide) (fun c1 => ?_) (fun c1 => ?_)
  · replace hf := ite_t c1 hf
    refine lv_iconst (v := (0 : Int32)) hx hb dX7_hasRoomForFive_17 (by decide) ?_
    exact prZ C hr hk hP hS hf rfl dX7_hasRoomForFive_18
  · replace hf := ite_f c1 hf
    refine lv_iconst (v := (1 : Int32)) hx hb dX7_hasRoomForFive_13 (by decide) ?_
    refine lv_goto (tgt := 18) hx hb dX7_hasRoomForFive_14 (by decide) ?_
    exact prZ C hr hk hP hS hf rfl dX7_hasRoomForFive_18
theorem c7_hasRoomForFive {l : Launch} {z : Zt} {b n : Nat}   {M M' : Mem} {r : Int32} (hf : f7_hasRoomForFive n   M = some (r, M')) : CI l z (xd z b) 339 b yX7_hasRoomForFive cX7_hasRoomForFive 1 (some .boolean) rm7_hasRoomForFive [.ref (b + 1)] M M' r :=
  CI.ofW (lv := [(0, .ref (b + 1))]) (by decide) (Nat.le_of_ble_eq_true rfl) rfl (fun p e s m args below meth c ls C hr hk hP hS hl => w7_hasRoomForFive_0 (n := n)  C hr hk  hf hP hS hl)

-- BronzeKing$Tape.addInt(I)V
theorem dX7_addInt_0 : decode cX7_addInt 0 = .ok (.bipush 24, 2) := by decide +kernel
theorem dX7_addInt_2 : decode cX7_addInt 2 = .ok (.istore_n 2, 1) := by decide +kernel
theorem dX7_addInt_3 : decode cX7_addInt 3 = .ok (.iload_n 2, 1) := by decide +kernel
theorem dX7_addInt_4 : decode cX7_addInt 4 = .ok (.ifCond .lt 45, 3) := by decide +kernel
theorem dX7_addInt_7 : decode cX7_addInt 7 = .ok (.aload_n 0, 1) := by decide +kernel
theorem dX7_addInt_8 : decode cX7_addInt 8 = .ok (.getfield 15, 3) := by decide +kernel
theorem dX7_addInt_11 : decode cX7_addInt 11 = .ok (.sipush 260, 3) := by decide +kernel
theorem dX7_addInt_14 : decode cX7_addInt 14 = .ok (.if_icmp .ge 35, 3) := by decide +kernel
theorem dX7_addInt_17 : decode cX7_addInt 17 = .ok (.aload_n 0, 1) := by decide +kernel
theorem dX7_addInt_18 : decode cX7_addInt 18 = .ok (.getfield 11, 3) := by decide +kernel
theorem dX7_addInt_21 : decode cX7_addInt 21 = .ok (.aload_n 0, 1) := by decide +kernel
theorem dX7_addInt_22 : decode cX7_addInt 22 = .ok (.getfield 15, 3) := by decide +kernel
theorem dX7_addInt_25 : decode cX7_addInt 25 = .ok (.iload_n 1, 1) := by decide +kernel
theorem dX7_addInt_26 : decode cX7_addInt 26 = .ok (.iload_n 2, 1) := by decide +kernel
theorem dX7_addInt_27 : decode cX7_addInt 27 = .ok (.iushr, 1) := by decide +kernel
theorem dX7_addInt_28 : decode cX7_addInt 28 = .ok (.sipush 255, 3) := by decide +kernel
theorem dX7_addInt_31 : decode cX7_addInt 31 = .ok (.iand, 1) := by decide +kernel
theorem dX7_addInt_32 : decode cX7_addInt 32 = .ok (.iastore, 1) := by decide +kernel
theorem dX7_addInt_33 : decode cX7_addInt 33 = .ok (.aload_n 0, 1) := by decide +kernel
theorem dX7_addInt_34 : decode cX7_addInt 34 = .ok (.dup, 1) := by decide +kernel
theorem dX7_addInt_35 : decode cX7_addInt 35 = .ok (.getfield 15, 3) := by decide +kernel
theorem dX7_addInt_38 : decode cX7_addInt 38 = .ok (.iconst 1, 1) := by decide +kernel
theorem dX7_addInt_39 : decode cX7_addInt 39 = .ok (.iadd, 1) := by decide +kernel
theorem dX7_addInt_40 : decode cX7_addInt 40 = .ok (.putfield 15, 3) := by decide +kernel
theorem dX7_addInt_43 : decode cX7_addInt 43 = .ok (.iinc 2 (-8), 3) := by decide +kernel
theorem dX7_addInt_46 : decode cX7_addInt 46 = .ok (.goto (-43), 3) := by decide +kernel
theorem dX7_addInt_49 : decode cX7_addInt 49 = .ok (.return_, 1) := by decide +kernel
def b7_addInt_3 (rc : Nat → List Int32 → List Int64 → Mem → Option (Unit × Mem)) (n : Nat) (i1 : Int32) (i2 : Int32) (M : Mem) : Option (Unit × Mem) :=
  (if i2 < 0 then (
   some ((), M))
  else (
   (if (260 : Int32) ≤ (M.1 1 1) then (
    some ((), M))
   else (
    chk (inb (M.1 1 1) 260) <|
    lt (wI M 2 (M.1 1 1).toNatClampNeg ((i1.toUInt32 >>> (i2.toUInt32 &&& Int32.toUInt32 31)).toInt32 &&& (255 : Int32))) fun M4 =>
    lt (wI M4 1 1 ((M4.1 1 1) + (1 : Int32))) fun M5 =>
    lt (i2 + (-8 : Int32)) fun v6 =>
    rc 3 [i1, v6] [] M5))))
def b7_addInt_0 (rc : Nat → List Int32 → List Int64 → Mem → Option (Unit × Mem)) (n : Nat) (a1 : Int32) (M : Mem) : Option (Unit × Mem) :=
  b7_addInt_3  rc n a1 (24 : Int32) M
def r7_addInt : Nat → Nat → List Int32 → List Int64 → Mem → Option (Unit × Mem)
  | 0 => fun _ _ _ _ => none
  | n + 1 => fun pc li lj M =>
    if pc = 3 then (match li, lj with | [i1, i2], [] => b7_addInt_3  (r7_addInt  n) n i1 i2 M | _, _ => none) else
    none
theorem e7_addInt_3  (n : Nat) (i1 : Int32) (i2 : Int32) (M : Mem) : r7_addInt  (n + 1) 3 [i1, i2] [] M = b7_addInt_3  (r7_addInt  n) n i1 i2 M := by
  rw [r7_addInt]
  simp
def f7_addInt (n : Nat) (a1 : Int32) (M : Mem) : Option (Unit × Mem) := b7_addInt_0 (r7_addInt n) n a1 M
abbrev rm7_addInt : Room := { frames := 0, cells := 0, slots := 0, locals := 0 }
theorem y7_addInt_w : yV RX7 yX7_addInt cX7_addInt 3 none 1 := ⟨g_480, g_481, g_2, g_482, rfl, by decide, by decide, by decide +kernel⟩
set_option maxHeartbeats 4000000 in
set_option maxRecDepth 100000 in
theorem w7_addInt_3 {p : Program} {l : Launch} {e : Env} {s : State} {m : MethodId} {args : Array Value} {below : List Frame} {meth : Method} {c : Code} {z : Zt} {b : Nat}  (C : Cx p s m args c cX7_addInt 3 RX7 z 339 b) (hr : meth.sig.returnType = none) (hk : meth.locks = false) {r : Unit} {M' : Mem} {rc : Nat → List Int32 → List Int64 → Mem → Option (Unit × Mem)} {n : Nat} (q3 : ∀ (i1 : Int32) (i2 : Int32) (M : Mem) (H : Heap) (locs : List Loc) (ls : Array Slot), rc 3 [i1, i2] [] M = some (r, M') → va_P z.1 vwCl (pw (xd z b) 339 b M) H → va_S (pA 339 b) s.heap H locs → lv_has ls 3 [(0, .ref (b + 1)), (1, .int i1), (2, .int i2)] → W p l e rm7_addInt s m args below meth c H locs 0 0 (MQ below (va_Qv (fun (M2 : Mem) => M2 = M') (fun M2 t => va_P z.1 vwCl (pw (xd z b) 339 b M2) t.heap) (pA 339 b)) args s 0 0 (pA 339 b)) (F0 m 3 ls [])) {i1 : Int32} {i2 : Int32} {M : Mem} {H : Heap} {locs : List Loc} {ls : Array Slot} (hf : b7_addInt_3  rc n i1 i2 M = some (r, M')) (hP : va_P z.1 vwCl (pw (xd z b) 339 b M) H) (hS : va_S (pA 339 b) s.heap H locs) (hl : lv_has ls 3 [(0, .ref (b + 1)), (1, .int i1), (2, .int i2)]) : W p l e rm7_addInt s m args below meth c H locs 0 0 (MQ below (va_Qv (fun (M2 : Mem) => M2 = M') (fun M2 t => va_P z.1 vwCl (pw (xd z b) 339 b M2) t.heap) (pA 339 b)) args s 0 0 (pA 339 b)) (F0 m 3 ls []) := by
  have hx := C.1.1
  have hb := C.1.2.1
  unfold b7_addInt_3 at hf
  refine lv_iload_n hx hb dX7_addInt_3 rfl (lv_at hl 2 rfl) ?_
  refine lv_if_lt (tgt := 49) hx hb dX7_addInt_4 (by decide) (fun c1 => ?_) (fun c1 => ?_)
  · replace hf := ite_t c1 hf
    exact prV C hr hk hP hS hf dX7_addInt_49
  · replace hf := ite_f c1 hf
    refine lv_aload_n hx hb dX7_addInt_7 rfl (lv_at hl 0 rfl) ?_
    refine pg C hP (k := 1) (j := 1) (Nat.le_of_ble_eq_true rfl) (xd_1 _ _) rfl iw_7 (Nat.le_of_ble_eq_true rfl) g_40 rfl rfl dX7_addInt_8 ?_
    refine lv_sipush (v := (260 : Int32)) hx hb dX7_addInt_11 (by decide) ?_
    refine lv_icmp_ge (tgt := 49) hx hb dX7_addInt_14 (by decide) (fun c2 => ?_) (fun c2 => ?_)
    · replace hf := ite_t c2 hf
      exact prV C hr hk hP hS hf dX7_addInt_49
    · replace hf := ite_f c2 hf
      refine lv_aload_n hx hb dX7_addInt_17 rfl (lv_at hl 0 rfl) ?_
      refine pg C hP (k := 1) (j := 0) (Nat.le_of_ble_eq_true rfl) (xd_1 _ _) rfl iw_7 (Nat.le_of_ble_eq_true rfl) g_38 rfl rfl dX7_addInt_18 ?_
      refine lv_aload_n hx hb dX7_addInt_21 rfl (lv_at hl 0 rfl) ?_
      refine pg C hP (k := 1) (j := 1) (Nat.le_of_ble_eq_true rfl) (xd_1 _ _) rfl iw_7 (Nat.le_of_ble_eq_true rfl) g_40 rfl rfl dX7_addInt_22 ?_
      refine lv_iload_n hx hb dX7_addInt_25 rfl (lv_at hl 1 rfl) ?_
      refine lv_iload_n hx hb dX7_addInt_26 rfl (lv_at hl 2 rfl) ?_
      refine lv_iushr hx hb dX7_addInt_27 rfl ?_
      refine lv_sipush (v := (255 : Int32)) hx hb dX7_addInt_28 (by decide) ?_
      refine lv_iand hx hb dX7_addInt_31 ?_
      have h3 := chk_1 hf
      replace hf := chk_2 hf
      refine psI C hP hS (k := 2) (Nat.le_of_ble_eq_true rfl) (xd_2) h3 dX7_addInt_32 (fun M4 H locs eM4 hP hS => ?_)
      replace hf := lt_c eM4 hf
      refine lv_aload_n hx hb dX7_addInt_33 rfl (lv_at hl 0 rfl) ?_
      refine lv_dup hx hb dX7_addInt_34 rfl ?_
      refine pg C hP (k := 1) (j := 1) (Nat.le_of_ble_eq_true rfl) (xd_1 _ _) rfl iw_7 (Nat.le_of_ble_eq_true rfl) g_40 rfl rfl dX7_addInt_35 ?_
      refine lv_iconst (v := (1 : Int32)) hx hb dX7_addInt_38 (by decide) ?_
      refine lv_iadd hx hb dX7_addInt_39 ?_
      refine ppI C hP hS (k := 1) (j := 1) (ty := .int) (Nat.le_of_ble_eq_true rfl) (xd_1 _ _) rfl iw_7 tyX7 tyX7_ok nmX7 (Nat.le_of_ble_eq_true rfl) g_40 rfl rfl (by decide +kernel) rfl rfl (Nat.le_of_ble_eq_true rfl) (xu_1_1 _ _ _) dX7_addInt_40 (fun M5 H locs eM5 hP hS => ?_)
      replace hf := lt_c eM5 hf
      obtain ⟨v6, ev6⟩ : ∃ v : Int32, v = i2 + (-8 : Int32) := ⟨_, rfl⟩
      replace hf := lt_c ev6 hf
      refine lv_iinc (v := v6) (lv' := [(2, .int v6), (0, .ref (b + 1)), (1, .int i1)]) hx hb dX7_addInt_43 hl (k := 2) rfl (by rw [ev6]; rfl) (by decide) rfl (fun ls hl => ?_)
      refine lv_goto (tgt := 3) hx hb dX7_addInt_46 (by decide) ?_
      exact q3 i1 v6 M5 _ _ _ hf hP hS (lv_sub hl [1, 2, 0] rfl)
set_option maxHeartbeats 4000000 in
set_option maxRecDepth 100000 in
theorem w7_addInt_0 {p : Program} {l : Launch} {e : Env} {s : State} {m : MethodId} {args : Array Value} {below : List Frame} {meth : Method} {c : Code} {z : Zt} {b : Nat}  (C : Cx p s m args c cX7_addInt 3 RX7 z 339 b) (hr : meth.sig.returnType = none) (hk : meth.locks = false) {r : Unit} {M' : Mem} {rc : Nat → List Int32 → List Int64 → Mem → Option (Unit × Mem)} {n : Nat} (q3 : ∀ (i1 : Int32) (i2 : Int32) (M : Mem) (H : Heap) (locs : List Loc) (ls : Array Slot), rc 3 [i1, i2] [] M = some (r, M') → va_P z.1 vwCl (pw (xd z b) 339 b M) H → va_S (pA 339 b) s.heap H locs → lv_has ls 3 [(0, .ref (b + 1)), (1, .int i1), (2, .int i2)] → W p l e rm7_addInt s m args below meth c H locs 0 0 (MQ below (va_Qv (fun (M2 : Mem) => M2 = M') (fun M2 t => va_P z.1 vwCl (pw (xd z b) 339 b M2) t.heap) (pA 339 b)) args s 0 0 (pA 339 b)) (F0 m 3 ls [])) {a1 : Int32} {M : Mem} {H : Heap} {locs : List Loc} {ls : Array Slot} (hf : b7_addInt_0  rc n a1 M = some (r, M')) (hP : va_P z.1 vwCl (pw (xd z b) 339 b M) H) (hS : va_S (pA 339 b) s.heap H locs) (hl : lv_has ls 3 [(0, .ref (b + 1)), (1, .int a1)]) : W p l e rm7_addInt s m args below meth c H locs 0 0 (MQ below (va_Qv (fun (M2 : Mem) => M2 = M') (fun M2 t => va_P z.1 vwCl (pw (xd z b) 339 b M2) t.heap) (pA 339 b)) args s 0 0 (pA 339 b)) (F0 m 0 ls []) := by
  have hx := C.1.1
  have hb := C.1.2.1
  unfold b7_addInt_0 at hf
  refine lv_bipush (v := (24 : Int32)) hx hb dX7_addInt_0 (by decide) ?_
  refine lv_istore_n (lv' := [(2, .int (24 : Int32)), (0, .ref (b + 1)), (1, .int a1)]) hx hb dX7_addInt_2 rfl hl (by decide) rfl (fun ls hl => ?_)
  exact w7_addInt_3 (n := n)  C hr hk q3 hf hP hS (lv_sub hl [1, 2, 0] rfl)
set_option maxHeartbeats 4000000 in
set_option maxRecDepth 100000 in
theorem l7_addInt {p : Program} {l : Launch} {e : Env} {s : State} {m : MethodId} {args : Array Value} {below : List Frame} {meth : Method} {c : Code} {z : Zt} {b : Nat}  (C : Cx p s m args c cX7_addInt 3 RX7 z 339 b) (hr : meth.sig.returnType = none) (hk : meth.locks = false) {r : Unit} {M' : Mem} (n : Nat) : (∀ (i1 : Int32) (i2 : Int32) (M : Mem) (H : Heap) (locs : List Loc) (ls : Array Slot), (r7_addInt  n) 3 [i1, i2] [] M = some (r, M') → va_P z.1 vwCl (pw (xd z b) 339 b M) H → va_S (pA 339 b) s.heap H locs → lv_has ls 3 [(0, .ref (b + 1)), (1, .int i1), (2, .int i2)] → W p l e rm7_addInt s m args below meth c H locs 0 0 (MQ below (va_Qv (fun (M2 : Mem) => M2 = M') (fun M2 t => va_P z.1 vwCl (pw (xd z b) 339 b M2) t.heap) (pA 339 b)) args s 0 0 (pA 339 b)) (F0 m 3 ls [])) := by
  induction n with
  | zero => exact fun _ _ _ _ _ _ hf => (by cases hf)
  | succ n ih => exact fun _ _ _ _ _ _ hf hP hS hl => w7_addInt_3 (n := n)  C hr hk ih ((e7_addInt_3  n _ _ _).symm.trans hf) hP hS hl
theorem c7_addInt {l : Launch} {z : Zt} {b n : Nat}  {a1 : Int32} {M M' : Mem} {r : Unit} (hf : f7_addInt n  a1 M = some (r, M')) : CV l z (xd z b) 339 b yX7_addInt cX7_addInt 3 none rm7_addInt [.ref (b + 1), .int a1] M M' :=
  CV.ofW (lv := [(0, .ref (b + 1)), (1, .int a1)]) (by decide) (Nat.le_of_ble_eq_true rfl) rfl (fun p e s m args below meth c ls C hr hk hP hS hl => w7_addInt_0 (n := n)  C hr hk (l7_addInt  C hr hk n) hf hP hS hl)

-- BronzeKing$Tape.canGive(III)Z
theorem dX7_canGive_0 : decode cX7_canGive 0 = .ok (.iload_n 1, 1) := by decide +kernel
theorem dX7_canGive_1 : decode cX7_canGive 1 = .ok (.iload_n 2, 1) := by decide +kernel
theorem dX7_canGive_2 : decode cX7_canGive 2 = .ok (.if_icmp .lt 20, 3) := by decide +kernel
theorem dX7_canGive_5 : decode cX7_canGive 5 = .ok (.iload_n 1, 1) := by decide +kernel
theorem dX7_canGive_6 : decode cX7_canGive 6 = .ok (.iload_n 3, 1) := by decide +kernel
theorem dX7_canGive_7 : decode cX7_canGive 7 = .ok (.if_icmp .gt 15, 3) := by decide +kernel
theorem dX7_canGive_10 : decode cX7_canGive 10 = .ok (.iload_n 1, 1) := by decide +kernel
theorem dX7_canGive_11 : decode cX7_canGive 11 = .ok (.aload_n 0, 1) := by decide +kernel
theorem dX7_canGive_12 : decode cX7_canGive 12 = .ok (.getfield 15, 3) := by decide +kernel
theorem dX7_canGive_15 : decode cX7_canGive 15 = .ok (.if_icmp .gt 7, 3) := by decide +kernel
theorem dX7_canGive_18 : decode cX7_canGive 18 = .ok (.iconst 1, 1) := by decide +kernel
theorem dX7_canGive_19 : decode cX7_canGive 19 = .ok (.goto 4, 3) := by decide +kernel
theorem dX7_canGive_22 : decode cX7_canGive 22 = .ok (.iconst 0, 1) := by decide +kernel
theorem dX7_canGive_23 : decode cX7_canGive 23 = .ok (.ireturn, 1) := by decide +kernel
def b7_canGive_22 (rc : Nat → List Int32 → List Int64 → Mem → Option (Int32 × Mem)) (n : Nat) (M : Mem) : Option (Int32 × Mem) :=
  some ((0 : Int32), M)
def b7_canGive_0 (rc : Nat → List Int32 → List Int64 → Mem → Option (Int32 × Mem)) (n : Nat) (a1 : Int32) (a2 : Int32) (a3 : Int32) (M : Mem) : Option (Int32 × Mem) :=
  (if a1 < a2 then (
   b7_canGive_22  rc n  M)
  else (
   (if a3 < a1 then (
    b7_canGive_22  rc n  M)
   else (
    (if (M.1 1 1) < a1 then (
     b7_canGive_22  rc n  M)
    else (
     some ((1 : Int32), M)))))))
def f7_canGive (n : Nat) (a1 : Int32) (a2 : Int32) (a3 : Int32) (M : Mem) : Option (Int32 × Mem) := b7_canGive_0 (fun _ _ _ _ => none) n a1 a2 a3 M
abbrev rm7_canGive : Room := { frames := 0, cells := 0, slots := 0, locals := 0 }
theorem y7_canGive_w : yV RX7 yX7_canGive cX7_canGive 4 (some .boolean) 3 := ⟨g_488, g_489, g_2, g_490, rfl, by decide, by decide, by decide +kernel⟩
set_option maxHeartbeats 4000000 in
set_option maxRecDepth 100000 in
theorem w7_canGive_22 {p : Program} {l : Launch} {e : Env} {s : State} {m : MethodId} {args : Array Value} {below : List Frame} {meth : Method} {c : Code} {z : Zt} {b : Nat}  (C : Cx p s m args c cX7_canGive 4 RX7 z 339 b) (hr : meth.sig.returnType = (some .boolean)) (hk : meth.locks = false) {r : Int32} {M' : Mem} {rc : Nat → List Int32 → List Int64 → Mem → Option (Int32 × Mem)} {n : Nat}   {M : Mem} {H : Heap} {locs : List Loc} {ls : Array Slot} (hf : b7_canGive_22  rc n  M = some (r, M')) (hP : va_P z.1 vwCl (pw (xd z b) 339 b M) H) (hS : va_S (pA 339 b) s.heap H locs) (hl : lv_has ls 4 []) : W p l e rm7_canGive s m args below meth c H locs 0 0 (MQ below (va_Qi (fun (r' : Int32) (M2 : Mem) => r' = r ∧ M2 = M') (fun M2 t => va_P z.1 vwCl (pw (xd z b) 339 b M2) t.heap) (pA 339 b)) args s 0 0 (pA 339 b)) (F0 m 22 ls []) := by
  have hx := C.1.1
  have hb := C.1.2.1
  unfold b7_canGive_22 at hf
  refine lv_iconst (v := (0 : Int32)) hx hb dX7_canGive_22 (by decide) ?_
  exact prZ C hr hk hP hS hf rfl dX7_canGive_23
set_option maxHeartbeats 4000000 in
set_option maxRecDepth 100000 in
theorem w7_canGive_0 {p : Program} {l : Launch} {e : Env} {s : State} {m : MethodId} {args : Array Value} {below : List Frame} {meth : Method} {c : Code} {z : Zt} {b : Nat}  (C : Cx p s m args c cX7_canGive 4 RX7 z 339 b) (hr : meth.sig.returnType = (some .boolean)) (hk : meth.locks = false) {r : Int32} {M' : Mem} {rc : Nat → List Int32 → List Int64 → Mem → Option (Int32 × Mem)} {n : Nat}  {a1 : Int32} {a2 : Int32} {a3 : Int32} {M : Mem} {H : Heap} {locs : List Loc} {ls : Array Slot} (hf : b7_canGive_0  rc n a1 a2 a3 M = some (r, M')) (hP : va_P z.1 vwCl (pw (xd z b) 339 b M) H) (hS : va_S (pA 339 b) s.heap H locs) (hl : lv_has ls 4 [(0, .ref (b + 1)), (1, .int a1), (2, .int a2), (3, .int a3)]) : W p l e rm7_canGive s m args below meth c H locs 0 0 (MQ below (va_Qi (fun (r' : Int32) (M2 : Mem) => r' = r ∧ M2 = M') (fun M2 t => va_P z.1 vwCl (pw (xd z b) 339 b M2) t.heap) (pA 339 b)) args s 0 0 (pA 339 b)) (F0 m 0 ls []) := by
  have hx := C.1.1
  have hb := C.1.2.1
  unfold b7_canGive_0 at hf
  refine lv_iload_n hx hb dX7_canGive_0 rfl (lv_at hl 1 rfl) ?_
  refine lv_iload_n hx hb dX7_canGive_1 rfl (lv_at hl 2 rfl) ?_
  refine lv_icmp_lt (tgt := 22) hx hb dX7_canGive_2 (by decide) (fun c1 => ?_) (fun c1 => ?_)
  · replace hf := ite_t c1 hf
    exact w7_canGive_22 (n := n)  C hr hk  hf hP hS (lv_sub hl [] rfl)
  · replace hf := ite_f c1 hf
    refine lv_iload_n hx hb dX7_canGive_5 rfl (lv_at hl 1 rfl) ?_
    refine lv_iload_n hx hb dX7_canGive_6 rfl (lv_at hl 3 rfl) ?_
    refine lv_icmp_gt (tgt := 22) hx hb dX7_canGive_7 (by decide) (fun c2 => ?_) (fun c2 => ?_)
    · replace hf := ite_t c2 hf
      exact w7_canGive_22 (n := n)  C hr hk  hf hP hS (lv_sub hl [] rfl)
    · replace hf := ite_f c2 hf
      refine lv_iload_n hx hb dX7_canGive_10 rfl (lv_at hl 1 rfl) ?_
      refine lv_aload_n hx hb dX7_canGive_11 rfl (lv_at hl 0 rfl) ?_
      refine pg C hP (k := 1) (j := 1) (Nat.le_of_ble_eq_true rfl) (xd_1 _ _) rfl iw_7 (Nat.le_of_ble_eq_true rfl) g_40 rfl rfl dX7_canGive_12 ?_
      refine lv_icmp_gt (tgt := 22) hx hb dX7_canGive_15 (by decide) (fun c3 => ?_) (fun c3 => ?_)
      · replace hf := ite_t c3 hf
        exact w7_canGive_22 (n := n)  C hr hk  hf hP hS (lv_sub hl [] rfl)
      · replace hf := ite_f c3 hf
        refine lv_iconst (v := (1 : Int32)) hx hb dX7_canGive_18 (by decide) ?_
        refine lv_goto (tgt := 23) hx hb dX7_canGive_19 (by decide) ?_
        exact prZ C hr hk hP hS hf rfl dX7_canGive_23
theorem c7_canGive {l : Launch} {z : Zt} {b n : Nat}  {a1 : Int32} {a2 : Int32} {a3 : Int32} {M M' : Mem} {r : Int32} (hf : f7_canGive n  a1 a2 a3 M = some (r, M')) : CI l z (xd z b) 339 b yX7_canGive cX7_canGive 4 (some .boolean) rm7_canGive [.ref (b + 1), .int a1, .int a2, .int a3] M M' r :=
  CI.ofW (lv := [(0, .ref (b + 1)), (1, .int a1), (2, .int a2), (3, .int a3)]) (by decide) (Nat.le_of_ble_eq_true rfl) rfl (fun p e s m args below meth c ls C hr hk hP hS hl => w7_canGive_0 (n := n)  C hr hk  hf hP hS hl)

-- BronzeKing$Town.refresh()V
theorem dX8_refresh_0 : decode cX8_refresh 0 = .ok (.aload_n 0, 1) := by decide +kernel
theorem dX8_refresh_1 : decode cX8_refresh 1 = .ok (.getfield 33, 3) := by decide +kernel
theorem dX8_refresh_4 : decode cX8_refresh 4 = .ok (.invokevirtual 53, 3) := by decide +kernel
theorem dX8_refresh_7 : decode cX8_refresh 7 = .ok (.iconst 0, 1) := by decide +kernel
theorem dX8_refresh_8 : decode cX8_refresh 8 = .ok (.istore_n 1, 1) := by decide +kernel
theorem dX8_refresh_9 : decode cX8_refresh 9 = .ok (.iload_n 1, 1) := by decide +kernel
theorem dX8_refresh_10 : decode cX8_refresh 10 = .ok (.bipush 96, 2) := by decide +kernel
theorem dX8_refresh_12 : decode cX8_refresh 12 = .ok (.if_icmp .ge 25, 3) := by decide +kernel
theorem dX8_refresh_15 : decode cX8_refresh 15 = .ok (.aload_n 0, 1) := by decide +kernel
theorem dX8_refresh_16 : decode cX8_refresh 16 = .ok (.iload_n 1, 1) := by decide +kernel
theorem dX8_refresh_17 : decode cX8_refresh 17 = .ok (.invokevirtual 56, 3) := by decide +kernel
theorem dX8_refresh_20 : decode cX8_refresh 20 = .ok (.ifCond .eq 11, 3) := by decide +kernel
theorem dX8_refresh_23 : decode cX8_refresh 23 = .ok (.aload_n 0, 1) := by decide +kernel
theorem dX8_refresh_24 : decode cX8_refresh 24 = .ok (.getfield 33, 3) := by decide +kernel
theorem dX8_refresh_27 : decode cX8_refresh 27 = .ok (.iload_n 1, 1) := by decide +kernel
theorem dX8_refresh_28 : decode cX8_refresh 28 = .ok (.invokevirtual 60, 3) := by decide +kernel
theorem dX8_refresh_31 : decode cX8_refresh 31 = .ok (.iinc 1 1, 3) := by decide +kernel
theorem dX8_refresh_34 : decode cX8_refresh 34 = .ok (.goto (-25), 3) := by decide +kernel
theorem dX8_refresh_37 : decode cX8_refresh 37 = .ok (.aload_n 0, 1) := by decide +kernel
theorem dX8_refresh_38 : decode cX8_refresh 38 = .ok (.aload_n 0, 1) := by decide +kernel
theorem dX8_refresh_39 : decode cX8_refresh 39 = .ok (.getfield 37, 3) := by decide +kernel
theorem dX8_refresh_42 : decode cX8_refresh 42 = .ok (.iconst 2, 1) := by decide +kernel
theorem dX8_refresh_43 : decode cX8_refresh 43 = .ok (.aload_n 0, 1) := by decide +kernel
theorem dX8_refresh_44 : decode cX8_refresh 44 = .ok (.getfield 21, 3) := by decide +kernel
theorem dX8_refresh_47 : decode cX8_refresh 47 = .ok (.invokevirtual 64, 3) := by decide +kernel
theorem dX8_refresh_50 : decode cX8_refresh 50 = .ok (.aload_n 0, 1) := by decide +kernel
theorem dX8_refresh_51 : decode cX8_refresh 51 = .ok (.aload_n 0, 1) := by decide +kernel
theorem dX8_refresh_52 : decode cX8_refresh 52 = .ok (.getfield 18, 3) := by decide +kernel
theorem dX8_refresh_55 : decode cX8_refresh 55 = .ok (.bipush 9, 2) := by decide +kernel
theorem dX8_refresh_57 : decode cX8_refresh 57 = .ok (.iaload, 1) := by decide +kernel
theorem dX8_refresh_58 : decode cX8_refresh 58 = .ok (.iconst 2, 1) := by decide +kernel
theorem dX8_refresh_59 : decode cX8_refresh 59 = .ok (.aload_n 0, 1) := by decide +kernel
theorem dX8_refresh_60 : decode cX8_refresh 60 = .ok (.getfield 24, 3) := by decide +kernel
theorem dX8_refresh_63 : decode cX8_refresh 63 = .ok (.invokevirtual 64, 3) := by decide +kernel
theorem dX8_refresh_66 : decode cX8_refresh 66 = .ok (.aload_n 0, 1) := by decide +kernel
theorem dX8_refresh_67 : decode cX8_refresh 67 = .ok (.dup, 1) := by decide +kernel
theorem dX8_refresh_68 : decode cX8_refresh 68 = .ok (.getfield 44, 3) := by decide +kernel
theorem dX8_refresh_71 : decode cX8_refresh 71 = .ok (.iconst 1, 1) := by decide +kernel
theorem dX8_refresh_72 : decode cX8_refresh 72 = .ok (.iadd, 1) := by decide +kernel
theorem dX8_refresh_73 : decode cX8_refresh 73 = .ok (.putfield 44, 3) := by decide +kernel
theorem dX8_refresh_76 : decode cX8_refresh 76 = .ok (.return_, 1) := by decide +kernel
def b8_refresh_31 (rc : Nat → List Int32 → List Int64 → Mem → Option (Unit × Mem)) (n : Nat) (i1 : Int32) (M : Mem) : Option (Unit × Mem) :=
  lt (i1 + (1 : Int32)) fun v20 =>
  rc 9 [v20] [] M
def b8_refresh_9 (rc : Nat → List Int32 → List Int64 → Mem → Option (Unit × Mem)) (n : Nat) (i1 : Int32) (M : Mem) : Option (Unit × Mem) :=
  (if (96 : Int32) ≤ i1 then (
   bnd (f8_spread n 7 (M.1 3 7) (2 : Int32) M) fun r5 M6 =>
   chk (inb (9 : Int32) 10) <|
   bnd (f8_spread n 8 (M6.1 6 (9 : Int32).toNatClampNeg) (2 : Int32) M6) fun r9 M10 =>
   lt (wI M10 3 9 ((M10.1 3 9) + (1 : Int32))) fun M12 =>
   some ((), M12))
  else (
   bnd (f8_isOpen n i1 M) fun r13 M14 =>
   (if r13 = 0 then (
    b8_refresh_31  rc n i1 M14)
   else (
    bnd (f4_add n 10 i1 M14) fun r17 M18 =>
    b8_refresh_31  rc n i1 M18))))
def b8_refresh_0 (rc : Nat → List Int32 → List Int64 → Mem → Option (Unit × Mem)) (n : Nat) (M : Mem) : Option (Unit × Mem) :=
  bnd (f4_clear n 10 M) fun r1 M2 =>
  b8_refresh_9  rc n (0 : Int32) M2
def r8_refresh : Nat → Nat → List Int32 → List Int64 → Mem → Option (Unit × Mem)
  | 0 => fun _ _ _ _ => none
  | n + 1 => fun pc li lj M =>
    if pc = 9 then (match li, lj with | [i1], [] => b8_refresh_9  (r8_refresh  n) n i1 M | _, _ => none) else
    none
theorem e8_refresh_9  (n : Nat) (i1 : Int32) (M : Mem) : r8_refresh  (n + 1) 9 [i1] [] M = b8_refresh_9  (r8_refresh  n) n i1 M := by
  rw [r8_refresh]
  simp
def f8_refresh (n : Nat)  (M : Mem) : Option (Unit × Mem) := b8_refresh_0 (r8_refresh n) n M
abbrev rm8_refresh : Room := { frames := 2, cells := 0, slots := 0, locals := 51 }
theorem y8_refresh_w : yV RX8 yX8_refresh cX8_refresh 2 none 0 := ⟨g_394, g_395, g_3, g_396, rfl, by decide, by decide, by decide +kernel⟩
set_option maxHeartbeats 4000000 in
set_option maxRecDepth 100000 in
theorem w8_refresh_31 {p : Program} {l : Launch} {e : Env} {s : State} {m : MethodId} {args : Array Value} {below : List Frame} {meth : Method} {c : Code} {z : Zt} {b : Nat}  (C : Cx p s m args c cX8_refresh 2 RX8 z 339 b) (hr : meth.sig.returnType = none) (hk : meth.locks = false) {r : Unit} {M' : Mem} {rc : Nat → List Int32 → List Int64 → Mem → Option (Unit × Mem)} {n : Nat} (q9 : ∀ (i1 : Int32) (M : Mem) (H : Heap) (locs : List Loc) (ls : Array Slot), rc 9 [i1] [] M = some (r, M') → va_P z.1 vwCl (pw (xd z b) 339 b M) H → va_S (pA 339 b) s.heap H locs → lv_has ls 2 [(0, .ref (b + 3)), (1, .int i1)] → W p l e rm8_refresh s m args below meth c H locs 0 0 (MQ below (va_Qv (fun (M2 : Mem) => M2 = M') (fun M2 t => va_P z.1 vwCl (pw (xd z b) 339 b M2) t.heap) (pA 339 b)) args s 0 0 (pA 339 b)) (F0 m 9 ls [])) {i1 : Int32} {M : Mem} {H : Heap} {locs : List Loc} {ls : Array Slot} (hf : b8_refresh_31  rc n i1 M = some (r, M')) (hP : va_P z.1 vwCl (pw (xd z b) 339 b M) H) (hS : va_S (pA 339 b) s.heap H locs) (hl : lv_has ls 2 [(0, .ref (b + 3)), (1, .int i1)]) : W p l e rm8_refresh s m args below meth c H locs 0 0 (MQ below (va_Qv (fun (M2 : Mem) => M2 = M') (fun M2 t => va_P z.1 vwCl (pw (xd z b) 339 b M2) t.heap) (pA 339 b)) args s 0 0 (pA 339 b)) (F0 m 31 ls []) := by
  have hx := C.1.1
  have hb := C.1.2.1
  unfold b8_refresh_31 at hf
  obtain ⟨v20, ev20⟩ : ∃ v : Int32, v = i1 + (1 : Int32) := ⟨_, rfl⟩
  replace hf := lt_c ev20 hf
  refine lv_iinc (v := v20) (lv' := [(1, .int v20), (0, .ref (b + 3))]) hx hb dX8_refresh_31 hl (k := 1) rfl (by rw [ev20]; rfl) (by decide) rfl (fun ls hl => ?_)
  refine lv_goto (tgt := 9) hx hb dX8_refresh_34 (by decide) ?_
  exact q9 v20 M _ _ _ hf hP hS (lv_sub hl [1, 0] rfl)
set_option maxHeartbeats 4000000 in
set_option maxRecDepth 100000 in
theorem w8_refresh_9 {p : Program} {l : Launch} {e : Env} {s : State} {m : MethodId} {args : Array Value} {below : List Frame} {meth : Method} {c : Code} {z : Zt} {b : Nat}  (C : Cx p s m args c cX8_refresh 2 RX8 z 339 b) (hr : meth.sig.returnType = none) (hk : meth.locks = false) {r : Unit} {M' : Mem} {rc : Nat → List Int32 → List Int64 → Mem → Option (Unit × Mem)} {n : Nat} (q9 : ∀ (i1 : Int32) (M : Mem) (H : Heap) (locs : List Loc) (ls : Array Slot), rc 9 [i1] [] M = some (r, M') → va_P z.1 vwCl (pw (xd z b) 339 b M) H → va_S (pA 339 b) s.heap H locs → lv_has ls 2 [(0, .ref (b + 3)), (1, .int i1)] → W p l e rm8_refresh s m args below meth c H locs 0 0 (MQ below (va_Qv (fun (M2 : Mem) => M2 = M') (fun M2 t => va_P z.1 vwCl (pw (xd z b) 339 b M2) t.heap) (pA 339 b)) args s 0 0 (pA 339 b)) (F0 m 9 ls [])) {i1 : Int32} {M : Mem} {H : Heap} {locs : List Loc} {ls : Array Slot} (hf : b8_refresh_9  rc n i1 M = some (r, M')) (hP : va_P z.1 vwCl (pw (xd z b) 339 b M) H) (hS : va_S (pA 339 b) s.heap H locs) (hl : lv_has ls 2 [(0, .ref (b + 3)), (1, .int i1)]) : W p l e rm8_refresh s m args below meth c H locs 0 0 (MQ below (va_Qv (fun (M2 : Mem) => M2 = M') (fun M2 t => va_P z.1 vwCl (pw (xd z b) 339 b M2) t.heap) (pA 339 b)) args s 0 0 (pA 339 b)) (F0 m 9 ls []) := by
  have hx := C.1.1
  have hb := C.1.2.1
  unfold b8_refresh_9 at hf
  refine lv_iload_n hx hb dX8_refresh_9 rfl (lv_at hl 1 rfl) ?_
  refine lv_bipush (v := (96 : Int32)) hx hb dX8_refresh_10 (by decide) ?_
  refine lv_icmp_ge (tgt := 37) hx hb dX8_refresh_12 (by decide) (fun c4 => ?_) (fun c4 => ?_)
  · replace hf := ite_t c4 hf
    refine lv_aload_n hx hb dX8_refresh_37 rfl (lv_at hl 0 rfl) ?_
    refine lv_aload_n hx hb dX8_refresh_38 rfl (lv_at hl 0 rfl) ?_
    refine pg C hP (k := 3) (j := 7) (Nat.le_of_ble_eq_true rfl) (xd_3 _ _) rfl iw_8 (Nat.le_of_ble_eq_true rfl) g_88 rfl rfl dX8_refresh_39 ?_
    refine lv_iconst (v := (2 : Int32)) hx hb dX8_refresh_42 (by decide) ?_
    refine lv_aload_n hx hb dX8_refresh_43 rfl (lv_at hl 0 rfl) ?_
    refine pg C hP (k := 3) (j := 3) (Nat.le_of_ble_eq_true rfl) (xd_3 _ _) rfl iw_8 (Nat.le_of_ble_eq_true rfl) g_76 rfl rfl dX8_refresh_44 ?_
    obtain ⟨r5, M6, h7, hf⟩ := bnd_s hf
    refine pcVv (As := [.int (M.1 3 7), .int (2 : Int32), .ref (b + 7)]) C hP hS (k := 3) (Nat.le_of_ble_eq_true rfl) (xd_3 _ _) rfl (c8_spread a9_7 h7) y8_spread_w g_413 rfl rfl rfl ⟨Nat.le_of_ble_eq_true rfl, Nat.le_of_ble_eq_true rfl⟩ hl.1 rfl (Nat.le_of_ble_eq_true rfl) dX8_refresh_47 ⟨Nat.le_of_ble_eq_true rfl, Nat.le_of_ble_eq_true rfl⟩ (fun H locs hP hS => ?_)
    refine lv_aload_n hx hb dX8_refresh_50 rfl (lv_at hl 0 rfl) ?_
    refine lv_aload_n hx hb dX8_refresh_51 rfl (lv_at hl 0 rfl) ?_
    refine pg C hP (k := 3) (j := 2) (Nat.le_of_ble_eq_true rfl) (xd_3 _ _) rfl iw_8 (Nat.le_of_ble_eq_true rfl) g_72 rfl rfl dX8_refresh_52 ?_
    refine lv_bipush (v := (9 : Int32)) hx hb dX8_refresh_55 (by decide) ?_
    have h8 := chk_1 hf
    replace hf := chk_2 hf
    refine paI C hP (k := 6) (Nat.le_of_ble_eq_true rfl) (xd_6 _ _) h8 dX8_refresh_57 ?_
    refine lv_iconst (v := (2 : Int32)) hx hb dX8_refresh_58 (by decide) ?_
    refine lv_aload_n hx hb dX8_refresh_59 rfl (lv_at hl 0 rfl) ?_
    refine pg C hP (k := 3) (j := 4) (Nat.le_of_ble_eq_true rfl) (xd_3 _ _) rfl iw_8 (Nat.le_of_ble_eq_true rfl) g_80 rfl rfl dX8_refresh_60 ?_
    obtain ⟨r9, M10, h11, hf⟩ := bnd_s hf
    refine pcVv (As := [.int (M6.1 6 (9 : Int32).toNatClampNeg), .int (2 : Int32), .ref (b + 8)]) C hP hS (k := 3) (Nat.le_of_ble_eq_true rfl) (xd_3 _ _) rfl (c8_spread a9_8 h11) y8_spread_w g_413 rfl rfl rfl ⟨Nat.le_of_ble_eq_true rfl, Nat.le_of_ble_eq_true rfl⟩ hl.1 rfl (Nat.le_of_ble_eq_true rfl) dX8_refresh_63 ⟨Nat.le_of_ble_eq_true rfl, Nat.le_of_ble_eq_true rfl⟩ (fun H locs hP hS => ?_)
    refine lv_aload_n hx hb dX8_refresh_66 rfl (lv_at hl 0 rfl) ?_
    refine lv_dup hx hb dX8_refresh_67 rfl ?_
    refine pg C hP (k := 3) (j := 9) (Nat.le_of_ble_eq_true rfl) (xd_3 _ _) rfl iw_8 (Nat.le_of_ble_eq_true rfl) g_96 rfl rfl dX8_refresh_68 ?_
    refine lv_iconst (v := (1 : Int32)) hx hb dX8_refresh_71 (by decide) ?_
    refine lv_iadd hx hb dX8_refresh_72 ?_
    refine ppI C hP hS (k := 3) (j := 9) (ty := .int) (Nat.le_of_ble_eq_true rfl) (xd_3 _ _) rfl iw_8 tyX8 tyX8_ok nmX8 (Nat.le_of_ble_eq_true rfl) g_96 rfl rfl (by decide +kernel) rfl rfl (Nat.le_of_ble_eq_true rfl) (xu_3_9 _ _ _) dX8_refresh_73 (fun M12 H locs eM12 hP hS => ?_)
    replace hf := lt_c eM12 hf
    exact prV C hr hk hP hS hf dX8_refresh_76
  · replace hf := ite_f c4 hf
    refine lv_aload_n hx hb dX8_refresh_15 rfl (lv_at hl 0 rfl) ?_
    refine lv_iload_n hx hb dX8_refresh_16 rfl (lv_at hl 1 rfl) ?_
    obtain ⟨r13, M14, h15, hf⟩ := bnd_s hf
    refine pcVi (As := [.int i1]) C hP hS (k := 3) (Nat.le_of_ble_eq_true rfl) (xd_3 _ _) rfl (c8_isOpen  h15) y8_isOpen_w g_401 rfl rfl rfl ⟨Nat.le_of_ble_eq_true rfl, Nat.le_of_ble_eq_true rfl⟩ hl.1 rfl (Nat.le_of_ble_eq_true rfl) dX8_refresh_17 ⟨Nat.le_of_ble_eq_true rfl, Nat.le_of_ble_eq_true rfl⟩ (fun H locs hP hS => ?_)
    refine lv_if_eq (tgt := 31) hx hb dX8_refresh_20 (by decide) (fun c16 => ?_) (fun c16 => ?_)
    · replace hf := ite_t c16 hf
      exact w8_refresh_31 (n := n)  C hr hk q9 hf hP hS (lv_sub hl [0, 1] rfl)
    · replace hf := ite_f c16 hf
      refine lv_aload_n hx hb dX8_refresh_23 rfl (lv_at hl 0 rfl) ?_
      refine pg C hP (k := 3) (j := 6) (Nat.le_of_ble_eq_true rfl) (xd_3 _ _) rfl iw_8 (Nat.le_of_ble_eq_true rfl) g_84 rfl rfl dX8_refresh_24 ?_
      refine lv_iload_n hx hb dX8_refresh_27 rfl (lv_at hl 1 rfl) ?_
      obtain ⟨r17, M18, h19, hf⟩ := bnd_s hf
      refine pcVv (As := [.int i1]) C hP hS (k := 10) (ps_lt ps_10) ((ps_d ps_10) _ _) rfl (c4_add ps_10 h19) y4_add_w g_409 rfl rfl rfl ⟨Nat.le_of_ble_eq_true rfl, Nat.le_of_ble_eq_true rfl⟩ hl.1 rfl (Nat.le_of_ble_eq_true rfl) dX8_refresh_28 ⟨Nat.le_of_ble_eq_true rfl, Nat.le_of_ble_eq_true rfl⟩ (fun H locs hP hS => ?_)
      exact w8_refresh_31 (n := n)  C hr hk q9 hf hP hS (lv_sub hl [0, 1] rfl)
set_option maxHeartbeats 4000000 in
set_option maxRecDepth 100000 in
theorem w8_refresh_0 {p : Program} {l : Launch} {e : Env} {s : State} {m : MethodId} {args : Array Value} {below : List Frame} {meth : Method} {c : Code} {z : Zt} {b : Nat}  (C : Cx p s m args c cX8_refresh 2 RX8 z 339 b) (hr : meth.sig.returnType = none) (hk : meth.locks = false) {r : Unit} {M' : Mem} {rc : Nat → List Int32 → List Int64 → Mem → Option (Unit × Mem)} {n : Nat} (q9 : ∀ (i1 : Int32) (M : Mem) (H : Heap) (locs : List Loc) (ls : Array Slot), rc 9 [i1] [] M = some (r, M') → va_P z.1 vwCl (pw (xd z b) 339 b M) H → va_S (pA 339 b) s.heap H locs → lv_has ls 2 [(0, .ref (b + 3)), (1, .int i1)] → W p l e rm8_refresh s m args below meth c H locs 0 0 (MQ below (va_Qv (fun (M2 : Mem) => M2 = M') (fun M2 t => va_P z.1 vwCl (pw (xd z b) 339 b M2) t.heap) (pA 339 b)) args s 0 0 (pA 339 b)) (F0 m 9 ls []))  {M : Mem} {H : Heap} {locs : List Loc} {ls : Array Slot} (hf : b8_refresh_0  rc n  M = some (r, M')) (hP : va_P z.1 vwCl (pw (xd z b) 339 b M) H) (hS : va_S (pA 339 b) s.heap H locs) (hl : lv_has ls 2 [(0, .ref (b + 3))]) : W p l e rm8_refresh s m args below meth c H locs 0 0 (MQ below (va_Qv (fun (M2 : Mem) => M2 = M') (fun M2 t => va_P z.1 vwCl (pw (xd z b) 339 b M2) t.heap) (pA 339 b)) args s 0 0 (pA 339 b)) (F0 m 0 ls []) := by
  have hx := C.1.1
  have hb := C.1.2.1
  unfold b8_refresh_0 at hf
  refine lv_aload_n hx hb dX8_refresh_0 rfl (lv_at hl 0 rfl) ?_
  refine pg C hP (k := 3) (j := 6) (Nat.le_of_ble_eq_true rfl) (xd_3 _ _) rfl iw_8 (Nat.le_of_ble_eq_true rfl) g_84 rfl rfl dX8_refresh_1 ?_
  obtain ⟨r1, M2, h3, hf⟩ := bnd_s hf
  refine pcVv (As := []) C hP hS (k := 10) (ps_lt ps_10) ((ps_d ps_10) _ _) rfl (c4_clear ps_10 h3) y4_clear_w g_397 rfl rfl rfl ⟨Nat.le_of_ble_eq_true rfl, Nat.le_of_ble_eq_true rfl⟩ hl.1 rfl (Nat.le_of_ble_eq_true rfl) dX8_refresh_4 ⟨Nat.le_of_ble_eq_true rfl, Nat.le_of_ble_eq_true rfl⟩ (fun H locs hP hS => ?_)
  refine lv_iconst (v := (0 : Int32)) hx hb dX8_refresh_7 (by decide) ?_
  refine lv_istore_n (lv' := [(1, .int (0 : Int32)), (0, .ref (b + 3))]) hx hb dX8_refresh_8 rfl hl (by decide) rfl (fun ls hl => ?_)
  exact w8_refresh_9 (n := n)  C hr hk q9 hf hP hS (lv_sub hl [1, 0] rfl)
set_option maxHeartbeats 4000000 in
set_option maxRecDepth 100000 in
theorem l8_refresh {p : Program} {l : Launch} {e : Env} {s : State} {m : MethodId} {args : Array Value} {below : List Frame} {meth : Method} {c : Code} {z : Zt} {b : Nat}  (C : Cx p s m args c cX8_refresh 2 RX8 z 339 b) (hr : meth.sig.returnType = none) (hk : meth.locks = false) {r : Unit} {M' : Mem} (n : Nat) : (∀ (i1 : Int32) (M : Mem) (H : Heap) (locs : List Loc) (ls : Array Slot), (r8_refresh  n) 9 [i1] [] M = some (r, M') → va_P z.1 vwCl (pw (xd z b) 339 b M) H → va_S (pA 339 b) s.heap H locs → lv_has ls 2 [(0, .ref (b + 3)), (1, .int i1)] → W p l e rm8_refresh s m args below meth c H locs 0 0 (MQ below (va_Qv (fun (M2 : Mem) => M2 = M') (fun M2 t => va_P z.1 vwCl (pw (xd z b) 339 b M2) t.heap) (pA 339 b)) args s 0 0 (pA 339 b)) (F0 m 9 ls [])) := by
  induction n with
  | zero => exact fun _ _ _ _ _ hf => (by cases hf)
  | succ n ih => exact fun _ _ _ _ _ hf hP hS hl => w8_refresh_9 (n := n)  C hr hk ih ((e8_refresh_9  n _ _).symm.trans hf) hP hS hl
theorem c8_refresh {l : Launch} {z : Zt} {b n : Nat}   {M M' : Mem} {r : Unit} (hf : f8_refresh n   M = some (r, M')) : CV l z (xd z b) 339 b yX8_refresh cX8_refresh 2 none rm8_refresh [.ref (b + 3)] M M' :=
  CV.ofW (lv := [(0, .ref (b + 3))]) (by decide) (Nat.le_of_ble_eq_true rfl) rfl (fun p e s m args below meth c ls C hr hk hP hS hl => w8_refresh_0 (n := n)  C hr hk (l8_refresh  C hr hk n) hf hP hS hl)

-- BronzeKing$Town.stepHome(I)I
theorem dX8_stepHome_0 : decode cX8_stepHome 0 = .ok (.iconst 0, 1) := by decide +kernel
theorem dX8_stepHome_1 : decode cX8_stepHome 1 = .ok (.istore_n 2, 1) := by decide +kernel
theorem dX8_stepHome_2 : decode cX8_stepHome 2 = .ok (.iload_n 2, 1) := by decide +kernel
theorem dX8_stepHome_3 : decode cX8_stepHome 3 = .ok (.iconst 4, 1) := by decide +kernel
theorem dX8_stepHome_4 : decode cX8_stepHome 4 = .ok (.if_icmp .ge 40, 3) := by decide +kernel
theorem dX8_stepHome_7 : decode cX8_stepHome 7 = .ok (.iload_n 1, 1) := by decide +kernel
theorem dX8_stepHome_8 : decode cX8_stepHome 8 = .ok (.iload_n 2, 1) := by decide +kernel
theorem dX8_stepHome_9 : decode cX8_stepHome 9 = .ok (.invokestatic 72, 3) := by decide +kernel
theorem dX8_stepHome_12 : decode cX8_stepHome 12 = .ok (.istore_n 3, 1) := by decide +kernel
theorem dX8_stepHome_13 : decode cX8_stepHome 13 = .ok (.aload_n 0, 1) := by decide +kernel
theorem dX8_stepHome_14 : decode cX8_stepHome 14 = .ok (.iload_n 3, 1) := by decide +kernel
theorem dX8_stepHome_15 : decode cX8_stepHome 15 = .ok (.invokevirtual 56, 3) := by decide +kernel
theorem dX8_stepHome_18 : decode cX8_stepHome 18 = .ok (.ifCond .eq 20, 3) := by decide +kernel
theorem dX8_stepHome_21 : decode cX8_stepHome 21 = .ok (.aload_n 0, 1) := by decide +kernel
theorem dX8_stepHome_22 : decode cX8_stepHome 22 = .ok (.getfield 21, 3) := by decide +kernel
theorem dX8_stepHome_25 : decode cX8_stepHome 25 = .ok (.iload_n 3, 1) := by decide +kernel
theorem dX8_stepHome_26 : decode cX8_stepHome 26 = .ok (.iaload, 1) := by decide +kernel
theorem dX8_stepHome_27 : decode cX8_stepHome 27 = .ok (.aload_n 0, 1) := by decide +kernel
theorem dX8_stepHome_28 : decode cX8_stepHome 28 = .ok (.getfield 21, 3) := by decide +kernel
theorem dX8_stepHome_31 : decode cX8_stepHome 31 = .ok (.iload_n 1, 1) := by decide +kernel
theorem dX8_stepHome_32 : decode cX8_stepHome 32 = .ok (.iaload, 1) := by decide +kernel
theorem dX8_stepHome_33 : decode cX8_stepHome 33 = .ok (.if_icmp .ge 5, 3) := by decide +kernel
theorem dX8_stepHome_36 : decode cX8_stepHome 36 = .ok (.iload_n 3, 1) := by decide +kernel
theorem dX8_stepHome_37 : decode cX8_stepHome 37 = .ok (.ireturn, 1) := by decide +kernel
theorem dX8_stepHome_38 : decode cX8_stepHome 38 = .ok (.iinc 2 1, 3) := by decide +kernel
theorem dX8_stepHome_41 : decode cX8_stepHome 41 = .ok (.goto (-39), 3) := by decide +kernel
theorem dX8_stepHome_44 : decode cX8_stepHome 44 = .ok (.iload_n 1, 1) := by decide +kernel
theorem dX8_stepHome_45 : decode cX8_stepHome 45 = .ok (.ireturn, 1) := by decide +kernel
def b8_stepHome_38 (rc : Nat → List Int32 → List Int64 → Mem → Option (Int32 × Mem)) (n : Nat) (i1 : Int32) (i2 : Int32) (M : Mem) : Option (Int32 × Mem) :=
  lt (i2 + (1 : Int32)) fun v12 =>
  rc 2 [i1, v12] [] M
def b8_stepHome_2 (rc : Nat → List Int32 → List Int64 → Mem → Option (Int32 × Mem)) (n : Nat) (i1 : Int32) (i2 : Int32) (M : Mem) : Option (Int32 × Mem) :=
  (if (4 : Int32) ≤ i2 then (
   some (i1, M))
  else (
   bnd (f11_beside n i1 i2 M) fun r2 M3 =>
   bnd (f8_isOpen n r2 M3) fun r5 M6 =>
   (if r5 = 0 then (
    b8_stepHome_38  rc n i1 i2 M6)
   else (
    chk (inb r2 96) <|
    chk (inb i1 96) <|
    (if (M6.1 7 i1.toNatClampNeg) ≤ (M6.1 7 r2.toNatClampNeg) then (
     b8_stepHome_38  rc n i1 i2 M6)
    else (
     some (r2, M6)))))))
def b8_stepHome_0 (rc : Nat → List Int32 → List Int64 → Mem → Option (Int32 × Mem)) (n : Nat) (a1 : Int32) (M : Mem) : Option (Int32 × Mem) :=
  b8_stepHome_2  rc n a1 (0 : Int32) M
def r8_stepHome : Nat → Nat → List Int32 → List Int64 → Mem → Option (Int32 × Mem)
  | 0 => fun _ _ _ _ => none
  | n + 1 => fun pc li lj M =>
    if pc = 2 then (match li, lj with | [i1, i2], [] => b8_stepHome_2  (r8_stepHome  n) n i1 i2 M | _, _ => none) else
    none
theorem e8_stepHome_2  (n : Nat) (i1 : Int32) (i2 : Int32) (M : Mem) : r8_stepHome  (n + 1) 2 [i1, i2] [] M = b8_stepHome_2  (r8_stepHome  n) n i1 i2 M := by
  rw [r8_stepHome]
  simp
def f8_stepHome (n : Nat) (a1 : Int32) (M : Mem) : Option (Int32 × Mem) := b8_stepHome_0 (r8_stepHome n) n a1 M
abbrev rm8_stepHome : Room := { frames := 2, cells := 0, slots := 0, locals := 42 }
theorem y8_stepHome_w : yV RX8 yX8_stepHome cX8_stepHome 4 (some .int) 1 := ⟨g_783, g_784, g_3, g_785, rfl, by decide, by decide, by decide +kernel⟩
set_option maxHeartbeats 4000000 in
set_option maxRecDepth 100000 in
theorem w8_stepHome_38 {p : Program} {l : Launch} {e : Env} {s : State} {m : MethodId} {args : Array Value} {below : List Frame} {meth : Method} {c : Code} {z : Zt} {b : Nat}  (C : Cx p s m args c cX8_stepHome 4 RX8 z 339 b) (hr : meth.sig.returnType = (some .int)) (hk : meth.locks = false) {r : Int32} {M' : Mem} {rc : Nat → List Int32 → List Int64 → Mem → Option (Int32 × Mem)} {n : Nat} (q2 : ∀ (i1 : Int32) (i2 : Int32) (M : Mem) (H : Heap) (locs : List Loc) (ls : Array Slot), rc 2 [i1, i2] [] M = some (r, M') → va_P z.1 vwCl (pw (xd z b) 339 b M) H → va_S (pA 339 b) s.heap H locs → lv_has ls 4 [(0, .ref (b + 3)), (1, .int i1), (2, .int i2)] → W p l e rm8_stepHome s m args below meth c H locs 0 0 (MQ below (va_Qi (fun (r' : Int32) (M2 : Mem) => r' = r ∧ M2 = M') (fun M2 t => va_P z.1 vwCl (pw (xd z b) 339 b M2) t.heap) (pA 339 b)) args s 0 0 (pA 339 b)) (F0 m 2 ls [])) {i1 : Int32} {i2 : Int32} {M : Mem} {H : Heap} {locs : List Loc} {ls : Array Slot} (hf : b8_stepHome_38  rc n i1 i2 M = some (r, M')) (hP : va_P z.1 vwCl (pw (xd z b) 339 b M) H) (hS : va_S (pA 339 b) s.heap H locs) (hl : lv_has ls 4 [(0, .ref (b + 3)), (1, .int i1), (2, .int i2)]) : W p l e rm8_stepHome s m args below meth c H locs 0 0 (MQ below (va_Qi (fun (r' : Int32) (M2 : Mem) => r' = r ∧ M2 = M') (fun M2 t => va_P z.1 vwCl (pw (xd z b) 339 b M2) t.heap) (pA 339 b)) args s 0 0 (pA 339 b)) (F0 m 38 ls []) := by
  have hx := C.1.1
  have hb := C.1.2.1
  unfold b8_stepHome_38 at hf
  obtain ⟨v12, ev12⟩ : ∃ v : Int32, v = i2 + (1 : Int32) := ⟨_, rfl⟩
  replace hf := lt_c ev12 hf
  refine lv_iinc (v := v12) (lv' := [(2, .int v12), (0, .ref (b + 3)), (1, .int i1)]) hx hb dX8_stepHome_38 hl (k := 2) rfl (by rw [ev12]; rfl) (by decide) rfl (fun ls hl => ?_)
  refine lv_goto (tgt := 2) hx hb dX8_stepHome_41 (by decide) ?_
  exact q2 i1 v12 M _ _ _ hf hP hS (lv_sub hl [1, 2, 0] rfl)
set_option maxHeartbeats 4000000 in
set_option maxRecDepth 100000 in
theorem w8_stepHome_2 {p : Program} {l : Launch} {e : Env} {s : State} {m : MethodId} {args : Array Value} {below : List Frame} {meth : Method} {c : Code} {z : Zt} {b : Nat}  (C : Cx p s m args c cX8_stepHome 4 RX8 z 339 b) (hr : meth.sig.returnType = (some .int)) (hk : meth.locks = false) {r : Int32} {M' : Mem} {rc : Nat → List Int32 → List Int64 → Mem → Option (Int32 × Mem)} {n : Nat} (q2 : ∀ (i1 : Int32) (i2 : Int32) (M : Mem) (H : Heap) (locs : List Loc) (ls : Array Slot), rc 2 [i1, i2] [] M = some (r, M') → va_P z.1 vwCl (pw (xd z b) 339 b M) H → va_S (pA 339 b) s.heap H locs → lv_has ls 4 [(0, .ref (b + 3)), (1, .int i1), (2, .int i2)] → W p l e rm8_stepHome s m args below meth c H locs 0 0 (MQ below (va_Qi (fun (r' : Int32) (M2 : Mem) => r' = r ∧ M2 = M') (fun M2 t => va_P z.1 vwCl (pw (xd z b) 339 b M2) t.heap) (pA 339 b)) args s 0 0 (pA 339 b)) (F0 m 2 ls [])) {i1 : Int32} {i2 : Int32} {M : Mem} {H : Heap} {locs : List Loc} {ls : Array Slot} (hf : b8_stepHome_2  rc n i1 i2 M = some (r, M')) (hP : va_P z.1 vwCl (pw (xd z b) 339 b M) H) (hS : va_S (pA 339 b) s.heap H locs) (hl : lv_has ls 4 [(0, .ref (b + 3)), (1, .int i1), (2, .int i2)]) : W p l e rm8_stepHome s m args below meth c H locs 0 0 (MQ below (va_Qi (fun (r' : Int32) (M2 : Mem) => r' = r ∧ M2 = M') (fun M2 t => va_P z.1 vwCl (pw (xd z b) 339 b M2) t.heap) (pA 339 b)) args s 0 0 (pA 339 b)) (F0 m 2 ls []) := by
  have hx := C.1.1
  have hb := C.1.2.1
  unfold b8_stepHome_2 at hf
  refine lv_iload_n hx hb dX8_stepHome_2 rfl (lv_at hl 2 rfl) ?_
  refine lv_iconst (v := (4 : Int32)) hx hb dX8_stepHome_3 (by decide) ?_
  refine lv_icmp_ge (tgt := 44) hx hb dX8_stepHome_4 (by decide) (fun c1 => ?_) (fun c1 => ?_)
  · replace hf := ite_t c1 hf
    refine lv_iload_n hx hb dX8_stepHome_44 rfl (lv_at hl 1 rfl) ?_
    exact prI C hr hk hP hS hf dX8_stepHome_45
  · replace hf := ite_f c1 hf
    refine lv_iload_n hx hb dX8_stepHome_7 rfl (lv_at hl 1 rfl) ?_
    refine lv_iload_n hx hb dX8_stepHome_8 rfl (lv_at hl 2 rfl) ?_
    obtain ⟨r2, M3, h4, hf⟩ := bnd_s hf
    refine pcTi (As := [.int i1, .int i2]) C hP hS (c11_beside  h4) y11_beside_w g_417 rfl rfl rfl ⟨Nat.le_of_ble_eq_true rfl, Nat.le_of_ble_eq_true rfl⟩ hl.1 rfl (Nat.le_of_ble_eq_true rfl) dX8_stepHome_9 ⟨Nat.le_of_ble_eq_true rfl, Nat.le_of_ble_eq_true rfl⟩ (fun H locs hP hS => ?_)
    refine lv_istore_n (lv' := [(3, .int r2), (0, .ref (b + 3)), (1, .int i1), (2, .int i2)]) hx hb dX8_stepHome_12 rfl hl (by decide) rfl (fun ls hl => ?_)
    refine lv_aload_n hx hb dX8_stepHome_13 rfl (lv_at hl 1 rfl) ?_
    refine lv_iload_n hx hb dX8_stepHome_14 rfl (lv_at hl 0 rfl) ?_
    obtain ⟨r5, M6, h7, hf⟩ := bnd_s hf
    refine pcVi (As := [.int r2]) C hP hS (k := 3) (Nat.le_of_ble_eq_true rfl) (xd_3 _ _) rfl (c8_isOpen  h7) y8_isOpen_w g_401 rfl rfl rfl ⟨Nat.le_of_ble_eq_true rfl, Nat.le_of_ble_eq_true rfl⟩ hl.1 rfl (Nat.le_of_ble_eq_true rfl) dX8_stepHome_15 ⟨Nat.le_of_ble_eq_true rfl, Nat.le_of_ble_eq_true rfl⟩ (fun H locs hP hS => ?_)
    refine lv_if_eq (tgt := 38) hx hb dX8_stepHome_18 (by decide) (fun c8 => ?_) (fun c8 => ?_)
    · replace hf := ite_t c8 hf
      exact w8_stepHome_38 (n := n)  C hr hk q2 hf hP hS (lv_sub hl [1, 2, 3] rfl)
    · replace hf := ite_f c8 hf
      refine lv_aload_n hx hb dX8_stepHome_21 rfl (lv_at hl 1 rfl) ?_
      refine pg C hP (k := 3) (j := 3) (Nat.le_of_ble_eq_true rfl) (xd_3 _ _) rfl iw_8 (Nat.le_of_ble_eq_true rfl) g_76 rfl rfl dX8_stepHome_22 ?_
      refine lv_iload_n hx hb dX8_stepHome_25 rfl (lv_at hl 0 rfl) ?_
      have h9 := chk_1 hf
      replace hf := chk_2 hf
      refine paI C hP (k := 7) (Nat.le_of_ble_eq_true rfl) (xd_7 _ _) h9 dX8_stepHome_26 ?_
      refine lv_aload_n hx hb dX8_stepHome_27 rfl (lv_at hl 1 rfl) ?_
      refine pg C hP (k := 3) (j := 3) (Nat.le_of_ble_eq_true rfl) (xd_3 _ _) rfl iw_8 (Nat.le_of_ble_eq_true rfl) g_76 rfl rfl dX8_stepHome_28 ?_
      refine lv_iload_n hx hb dX8_stepHome_31 rfl (lv_at hl 2 rfl) ?_
      have h10 := chk_1 hf
      replace hf := chk_2 hf
      refine paI C hP (k := 7) (Nat.le_of_ble_eq_true rfl) (xd_7 _ _) h10 dX8_stepHome_32 ?_
      refine lv_icmp_ge (tgt := 38) hx hb dX8_stepHome_33 (by decide) (fun c11 => ?_) (fun c11 => ?_)
      · replace hf := ite_t c11 hf
        exact w8_stepHome_38 (n := n)  C hr hk q2 hf hP hS (lv_sub hl [1, 2, 3] rfl)
      · replace hf := ite_f c11 hf
        refine lv_iload_n hx hb dX8_stepHome_36 rfl (lv_at hl 0 rfl) ?_
        exact prI C hr hk hP hS hf dX8_stepHome_37
set_option maxHeartbeats 4000000 in
set_option maxRecDepth 100000 in
theorem w8_stepHome_0 {p : Program} {l : Launch} {e : Env} {s : State} {m : MethodId} {args : Array Value} {below : List Frame} {meth : Method} {c : Code} {z : Zt} {b : Nat}  (C : Cx p s m args c cX8_stepHome 4 RX8 z 339 b) (hr : meth.sig.returnType = (some .int)) (hk : meth.locks = false) {r : Int32} {M' : Mem} {rc : Nat → List Int32 → List Int64 → Mem → Option (Int32 × Mem)} {n : Nat} (q2 : ∀ (i1 : Int32) (i2 : Int32) (M : Mem) (H : Heap) (locs : List Loc) (ls : Array Slot), rc 2 [i1, i2] [] M = some (r, M') → va_P z.1 vwCl (pw (xd z b) 339 b M) H → va_S (pA 339 b) s.heap H locs → lv_has ls 4 [(0, .ref (b + 3)), (1, .int i1), (2, .int i2)] → W p l e rm8_stepHome s m args below meth c H locs 0 0 (MQ below (va_Qi (fun (r' : Int32) (M2 : Mem) => r' = r ∧ M2 = M') (fun M2 t => va_P z.1 vwCl (pw (xd z b) 339 b M2) t.heap) (pA 339 b)) args s 0 0 (pA 339 b)) (F0 m 2 ls [])) {a1 : Int32} {M : Mem} {H : Heap} {locs : List Loc} {ls : Array Slot} (hf : b8_stepHome_0  rc n a1 M = some (r, M')) (hP : va_P z.1 vwCl (pw (xd z b) 339 b M) H) (hS : va_S (pA 339 b) s.heap H locs) (hl : lv_has ls 4 [(0, .ref (b + 3)), (1, .int a1)]) : W p l e rm8_stepHome s m args below meth c H locs 0 0 (MQ below (va_Qi (fun (r' : Int32) (M2 : Mem) => r' = r ∧ M2 = M') (fun M2 t => va_P z.1 vwCl (pw (xd z b) 339 b M2) t.heap) (pA 339 b)) args s 0 0 (pA 339 b)) (F0 m 0 ls []) := by
  have hx := C.1.1
  have hb := C.1.2.1
  unfold b8_stepHome_0 at hf
  refine lv_iconst (v := (0 : Int32)) hx hb dX8_stepHome_0 (by decide) ?_
  refine lv_istore_n (lv' := [(2, .int (0 : Int32)), (0, .ref (b + 3)), (1, .int a1)]) hx hb dX8_stepHome_1 rfl hl (by decide) rfl (fun ls hl => ?_)
  exact w8_stepHome_2 (n := n)  C hr hk q2 hf hP hS (lv_sub hl [1, 2, 0] rfl)
set_option maxHeartbeats 4000000 in
set_option maxRecDepth 100000 in
theorem l8_stepHome {p : Program} {l : Launch} {e : Env} {s : State} {m : MethodId} {args : Array Value} {below : List Frame} {meth : Method} {c : Code} {z : Zt} {b : Nat}  (C : Cx p s m args c cX8_stepHome 4 RX8 z 339 b) (hr : meth.sig.returnType = (some .int)) (hk : meth.locks = false) {r : Int32} {M' : Mem} (n : Nat) : (∀ (i1 : Int32) (i2 : Int32) (M : Mem) (H : Heap) (locs : List Loc) (ls : Array Slot), (r8_stepHome  n) 2 [i1, i2] [] M = some (r, M') → va_P z.1 vwCl (pw (xd z b) 339 b M) H → va_S (pA 339 b) s.heap H locs → lv_has ls 4 [(0, .ref (b + 3)), (1, .int i1), (2, .int i2)] → W p l e rm8_stepHome s m args below meth c H locs 0 0 (MQ below (va_Qi (fun (r' : Int32) (M2 : Mem) => r' = r ∧ M2 = M') (fun M2 t => va_P z.1 vwCl (pw (xd z b) 339 b M2) t.heap) (pA 339 b)) args s 0 0 (pA 339 b)) (F0 m 2 ls [])) := by
  induction n with
  | zero => exact fun _ _ _ _ _ _ hf => (by cases hf)
  | succ n ih => exact fun _ _ _ _ _ _ hf hP hS hl => w8_stepHome_2 (n := n)  C hr hk ih ((e8_stepHome_2  n _ _ _).symm.trans hf) hP hS hl
theorem c8_stepHome {l : Launch} {z : Zt} {b n : Nat}  {a1 : Int32} {M M' : Mem} {r : Int32} (hf : f8_stepHome n  a1 M = some (r, M')) : CI l z (xd z b) 339 b yX8_stepHome cX8_stepHome 4 (some .int) rm8_stepHome [.ref (b + 3), .int a1] M M' r :=
  CI.ofW (lv := [(0, .ref (b + 3)), (1, .int a1)]) (by decide) (Nat.le_of_ble_eq_true rfl) rfl (fun p e s m args below meth c ls C hr hk hP hS hl => w8_stepHome_0 (n := n)  C hr hk (l8_stepHome  C hr hk n) hf hP hS hl)

-- BronzeKing$Town.kindBySign(I)I
theorem dX8_kindBySign_0 : decode cX8_kindBySign 0 = .ok (.iload_n 0, 1) := by decide +kernel
theorem dX8_kindBySign_1 : decode cX8_kindBySign 1 = .ok (.lookupswitch 41 #[(35, 37), (43, 39), (46, 35)], 35) := by decide +kernel
theorem dX8_kindBySign_36 : decode cX8_kindBySign 36 = .ok (.iconst 2, 1) := by decide +kernel
theorem dX8_kindBySign_37 : decode cX8_kindBySign 37 = .ok (.ireturn, 1) := by decide +kernel
theorem dX8_kindBySign_38 : decode cX8_kindBySign 38 = .ok (.iconst 0, 1) := by decide +kernel
theorem dX8_kindBySign_39 : decode cX8_kindBySign 39 = .ok (.ireturn, 1) := by decide +kernel
theorem dX8_kindBySign_40 : decode cX8_kindBySign 40 = .ok (.iconst 1, 1) := by decide +kernel
theorem dX8_kindBySign_41 : decode cX8_kindBySign 41 = .ok (.ireturn, 1) := by decide +kernel
theorem dX8_kindBySign_42 : decode cX8_kindBySign 42 = .ok (.iconst (-1), 1) := by decide +kernel
theorem dX8_kindBySign_43 : decode cX8_kindBySign 43 = .ok (.ireturn, 1) := by decide +kernel
def b8_kindBySign_0 (rc : Nat → List Int32 → List Int64 → Mem → Option (Int32 × Mem)) (n : Nat) (a0 : Int32) (M : Mem) : Option (Int32 × Mem) :=
  (if a0 = (35 : Int32) then (
   some ((0 : Int32), M))
  else (
   (if a0 = (43 : Int32) then (
    some ((1 : Int32), M))
   else (
    (if a0 = (46 : Int32) then (
     some ((2 : Int32), M))
    else (
     some ((-1 : Int32), M)))))))
def f8_kindBySign (n : Nat) (a0 : Int32) (M : Mem) : Option (Int32 × Mem) := b8_kindBySign_0 (fun _ _ _ _ => none) n a0 M
abbrev rm8_kindBySign : Room := { frames := 0, cells := 0, slots := 0, locals := 0 }
theorem y8_kindBySign_w : yS yX8_kindBySign cX8_kindBySign 1 (some .int) 1 := ⟨g_685, g_3, g_686, by decide, by decide, by decide +kernel⟩
set_option maxHeartbeats 4000000 in
set_option maxRecDepth 100000 in
theorem w8_kindBySign_0 {p : Program} {l : Launch} {e : Env} {s : State} {m : MethodId} {args : Array Value} {below : List Frame} {meth : Method} {c : Code} {z : Zt} {b : Nat}  (C : Cx p s m args c cX8_kindBySign 1 RX8 z 339 b) (hr : meth.sig.returnType = (some .int)) (hk : meth.locks = false) {r : Int32} {M' : Mem} {rc : Nat → List Int32 → List Int64 → Mem → Option (Int32 × Mem)} {n : Nat}  {a0 : Int32} {M : Mem} {H : Heap} {locs : List Loc} {ls : Array Slot} (hf : b8_kindBySign_0  rc n a0 M = some (r, M')) (hP : va_P z.1 vwCl (pw (xd z b) 339 b M) H) (hS : va_S (pA 339 b) s.heap H locs) (hl : lv_has ls 1 [(0, .int a0)]) : W p l e rm8_kindBySign s m args below meth c H locs 0 0 (MQ below (va_Qi (fun (r' : Int32) (M2 : Mem) => r' = r ∧ M2 = M') (fun M2 t => va_P z.1 vwCl (pw (xd z b) 339 b M2) t.heap) (pA 339 b)) args s 0 0 (pA 339 b)) (F0 m 0 ls []) := by
  have hx := C.1.1
  have hb := C.1.2.1
  unfold b8_kindBySign_0 at hf
  refine lv_iload_n hx hb dX8_kindBySign_0 rfl (lv_at hl 0 rfl) ?_
  by_cases c1 : a0 = (35 : Int32)
  · replace hf := ite_t c1 hf
    refine lv_lookup (off := 37) (tgt := 38) hx hb dX8_kindBySign_1 (by decide) (by rw [c1]; decide) (by decide) ?_
    refine lv_iconst (v := (0 : Int32)) hx hb dX8_kindBySign_38 (by decide) ?_
    exact prI C hr hk hP hS hf dX8_kindBySign_39
  · replace hf := ite_f c1 hf
    by_cases c2 : a0 = (43 : Int32)
    · replace hf := ite_t c2 hf
      refine lv_lookup (off := 39) (tgt := 40) hx hb dX8_kindBySign_1 (by decide) (by rw [c2]; decide) (by decide) ?_
      refine lv_iconst (v := (1 : Int32)) hx hb dX8_kindBySign_40 (by decide) ?_
      exact prI C hr hk hP hS hf dX8_kindBySign_41
    · replace hf := ite_f c2 hf
      by_cases c3 : a0 = (46 : Int32)
      · replace hf := ite_t c3 hf
        refine lv_lookup (off := 35) (tgt := 36) hx hb dX8_kindBySign_1 (by decide) (by rw [c3]; decide) (by decide) ?_
        refine lv_iconst (v := (2 : Int32)) hx hb dX8_kindBySign_36 (by decide) ?_
        exact prI C hr hk hP hS hf dX8_kindBySign_37
      · replace hf := ite_f c3 hf
        refine lv_lookup (off := 41) (tgt := 42) hx hb dX8_kindBySign_1 (by decide) (by have z0 : ¬ a0.toInt = 35 := tsn c1; have z1 : ¬ a0.toInt = 43 := tsn c2; have z2 : ¬ a0.toInt = 46 := tsn c3; simp [Op.lookupswitch.offset]; repeat (first | omega | split)) (by decide) ?_
        refine lv_iconst (v := (-1 : Int32)) hx hb dX8_kindBySign_42 (by decide) ?_
        exact prI C hr hk hP hS hf dX8_kindBySign_43
theorem c8_kindBySign {l : Launch} {z : Zt} {b n : Nat}  {a0 : Int32} {M M' : Mem} {r : Int32} (hf : f8_kindBySign n  a0 M = some (r, M')) : CI l z (xd z b) 339 b yX8_kindBySign cX8_kindBySign 1 (some .int) rm8_kindBySign [.int a0] M M' r :=
  CI.ofW (lv := [(0, .int a0)]) (by decide) (Nat.le_of_ble_eq_true rfl) rfl (fun p e s m args below meth c ls C hr hk hP hS hl => w8_kindBySign_0 (n := n)  C hr hk  hf hP hS hl)

-- BronzeKing$Town.readMap(LBronzeKing$Tape;I)I
theorem dX8_readMap_0 : decode cX8_readMap 0 = .ok (.aload_n 0, 1) := by decide +kernel
theorem dX8_readMap_1 : decode cX8_readMap 1 = .ok (.getfield 15, 3) := by decide +kernel
theorem dX8_readMap_4 : decode cX8_readMap 4 = .ok (.iconst 2, 1) := by decide +kernel
theorem dX8_readMap_5 : decode cX8_readMap 5 = .ok (.invokestatic 47, 3) := by decide +kernel
theorem dX8_readMap_8 : decode cX8_readMap 8 = .ok (.iconst 0, 1) := by decide +kernel
theorem dX8_readMap_9 : decode cX8_readMap 9 = .ok (.istore_n 3, 1) := by decide +kernel
theorem dX8_readMap_10 : decode cX8_readMap 10 = .ok (.iconst 0, 1) := by decide +kernel
theorem dX8_readMap_11 : decode cX8_readMap 11 = .ok (.istore 4, 2) := by decide +kernel
theorem dX8_readMap_13 : decode cX8_readMap 13 = .ok (.iconst 0, 1) := by decide +kernel
theorem dX8_readMap_14 : decode cX8_readMap 14 = .ok (.istore 5, 2) := by decide +kernel
theorem dX8_readMap_16 : decode cX8_readMap 16 = .ok (.iconst 0, 1) := by decide +kernel
theorem dX8_readMap_17 : decode cX8_readMap 17 = .ok (.istore 6, 2) := by decide +kernel
theorem dX8_readMap_19 : decode cX8_readMap 19 = .ok (.iconst 0, 1) := by decide +kernel
theorem dX8_readMap_20 : decode cX8_readMap 20 = .ok (.istore 7, 2) := by decide +kernel
theorem dX8_readMap_22 : decode cX8_readMap 22 = .ok (.iload 7, 2) := by decide +kernel
theorem dX8_readMap_24 : decode cX8_readMap 24 = .ok (.iload_n 2, 1) := by decide +kernel
theorem dX8_readMap_25 : decode cX8_readMap 25 = .ok (.if_icmp .ge 210, 3) := by decide +kernel
theorem dX8_readMap_28 : decode cX8_readMap 28 = .ok (.aload_n 1, 1) := by decide +kernel
theorem dX8_readMap_29 : decode cX8_readMap 29 = .ok (.iload 7, 2) := by decide +kernel
theorem dX8_readMap_31 : decode cX8_readMap 31 = .ok (.iload_n 2, 1) := by decide +kernel
theorem dX8_readMap_32 : decode cX8_readMap 32 = .ok (.invokevirtual 76, 3) := by decide +kernel
theorem dX8_readMap_35 : decode cX8_readMap 35 = .ok (.istore 8, 2) := by decide +kernel
theorem dX8_readMap_37 : decode cX8_readMap 37 = .ok (.iload 8, 2) := by decide +kernel
theorem dX8_readMap_39 : decode cX8_readMap 39 = .ok (.invokestatic 81, 3) := by decide +kernel
theorem dX8_readMap_42 : decode cX8_readMap 42 = .ok (.istore 9, 2) := by decide +kernel
theorem dX8_readMap_44 : decode cX8_readMap 44 = .ok (.iload 5, 2) := by decide +kernel
theorem dX8_readMap_46 : decode cX8_readMap 46 = .ok (.ifCond .ne 21, 3) := by decide +kernel
theorem dX8_readMap_49 : decode cX8_readMap 49 = .ok (.iload 8, 2) := by decide +kernel
theorem dX8_readMap_51 : decode cX8_readMap 51 = .ok (.bipush 50, 2) := by decide +kernel
theorem dX8_readMap_53 : decode cX8_readMap 53 = .ok (.if_icmp .lt 14, 3) := by decide +kernel
theorem dX8_readMap_56 : decode cX8_readMap 56 = .ok (.iload 8, 2) := by decide +kernel
theorem dX8_readMap_58 : decode cX8_readMap 58 = .ok (.bipush 57, 2) := by decide +kernel
theorem dX8_readMap_60 : decode cX8_readMap 60 = .ok (.if_icmp .gt 7, 3) := by decide +kernel
theorem dX8_readMap_63 : decode cX8_readMap 63 = .ok (.iconst 1, 1) := by decide +kernel
theorem dX8_readMap_64 : decode cX8_readMap 64 = .ok (.goto 4, 3) := by decide +kernel
theorem dX8_readMap_67 : decode cX8_readMap 67 = .ok (.iconst 0, 1) := by decide +kernel
theorem dX8_readMap_68 : decode cX8_readMap 68 = .ok (.istore 10, 2) := by decide +kernel
theorem dX8_readMap_70 : decode cX8_readMap 70 = .ok (.iload 8, 2) := by decide +kernel
theorem dX8_readMap_72 : decode cX8_readMap 72 = .ok (.bipush 47, 2) := by decide +kernel
theorem dX8_readMap_74 : decode cX8_readMap 74 = .ok (.if_icmp .ne 17, 3) := by decide +kernel
theorem dX8_readMap_77 : decode cX8_readMap 77 = .ok (.iload 4, 2) := by decide +kernel
theorem dX8_readMap_79 : decode cX8_readMap 79 = .ok (.ifCond .le 12, 3) := by decide +kernel
theorem dX8_readMap_82 : decode cX8_readMap 82 = .ok (.iload 5, 2) := by decide +kernel
theorem dX8_readMap_84 : decode cX8_readMap 84 = .ok (.ifCond .ne 7, 3) := by decide +kernel
theorem dX8_readMap_87 : decode cX8_readMap 87 = .ok (.iconst 1, 1) := by decide +kernel
theorem dX8_readMap_88 : decode cX8_readMap 88 = .ok (.goto 4, 3) := by decide +kernel
theorem dX8_readMap_91 : decode cX8_readMap 91 = .ok (.iconst 0, 1) := by decide +kernel
theorem dX8_readMap_92 : decode cX8_readMap 92 = .ok (.istore 11, 2) := by decide +kernel
theorem dX8_readMap_94 : decode cX8_readMap 94 = .ok (.iload 9, 2) := by decide +kernel
theorem dX8_readMap_96 : decode cX8_readMap 96 = .ok (.iconst (-1), 1) := by decide +kernel
theorem dX8_readMap_97 : decode cX8_readMap 97 = .ok (.if_icmp .ne 20, 3) := by decide +kernel
theorem dX8_readMap_100 : decode cX8_readMap 100 = .ok (.iload 10, 2) := by decide +kernel
theorem dX8_readMap_102 : decode cX8_readMap 102 = .ok (.ifCond .ne 15, 3) := by decide +kernel
theorem dX8_readMap_105 : decode cX8_readMap 105 = .ok (.iload 11, 2) := by decide +kernel
theorem dX8_readMap_107 : decode cX8_readMap 107 = .ok (.ifCond .ne 10, 3) := by decide +kernel
theorem dX8_readMap_110 : decode cX8_readMap 110 = .ok (.iconst 1, 1) := by decide +kernel
theorem dX8_readMap_111 : decode cX8_readMap 111 = .ok (.iload 7, 2) := by decide +kernel
theorem dX8_readMap_113 : decode cX8_readMap 113 = .ok (.invokestatic 84, 3) := by decide +kernel
theorem dX8_readMap_116 : decode cX8_readMap 116 = .ok (.ireturn, 1) := by decide +kernel
theorem dX8_readMap_117 : decode cX8_readMap 117 = .ok (.iload 11, 2) := by decide +kernel
theorem dX8_readMap_119 : decode cX8_readMap 119 = .ok (.ifCond .eq 12, 3) := by decide +kernel
theorem dX8_readMap_122 : decode cX8_readMap 122 = .ok (.iinc 3 1, 3) := by decide +kernel
theorem dX8_readMap_125 : decode cX8_readMap 125 = .ok (.iconst 0, 1) := by decide +kernel
theorem dX8_readMap_126 : decode cX8_readMap 126 = .ok (.istore 4, 2) := by decide +kernel
theorem dX8_readMap_128 : decode cX8_readMap 128 = .ok (.goto 101, 3) := by decide +kernel
theorem dX8_readMap_131 : decode cX8_readMap 131 = .ok (.iload_n 3, 1) := by decide +kernel
theorem dX8_readMap_132 : decode cX8_readMap 132 = .ok (.bipush 8, 2) := by decide +kernel
theorem dX8_readMap_134 : decode cX8_readMap 134 = .ok (.if_icmp .ne 10, 3) := by decide +kernel
theorem dX8_readMap_137 : decode cX8_readMap 137 = .ok (.iconst 4, 1) := by decide +kernel
theorem dX8_readMap_138 : decode cX8_readMap 138 = .ok (.iload 7, 2) := by decide +kernel
theorem dX8_readMap_140 : decode cX8_readMap 140 = .ok (.invokestatic 84, 3) := by decide +kernel
theorem dX8_readMap_143 : decode cX8_readMap 143 = .ok (.ireturn, 1) := by decide +kernel
theorem dX8_readMap_144 : decode cX8_readMap 144 = .ok (.iload 5, 2) := by decide +kernel
theorem dX8_readMap_146 : decode cX8_readMap 146 = .ok (.ifCond .ne 8, 3) := by decide +kernel
theorem dX8_readMap_149 : decode cX8_readMap 149 = .ok (.iload 7, 2) := by decide +kernel
theorem dX8_readMap_151 : decode cX8_readMap 151 = .ok (.goto 5, 3) := by decide +kernel
theorem dX8_readMap_154 : decode cX8_readMap 154 = .ok (.iload 6, 2) := by decide +kernel
theorem dX8_readMap_156 : decode cX8_readMap 156 = .ok (.istore 6, 2) := by decide +kernel
theorem dX8_readMap_158 : decode cX8_readMap 158 = .ok (.iload 10, 2) := by decide +kernel
theorem dX8_readMap_160 : decode cX8_readMap 160 = .ok (.ifCond .eq 13, 3) := by decide +kernel
theorem dX8_readMap_163 : decode cX8_readMap 163 = .ok (.iload 8, 2) := by decide +kernel
theorem dX8_readMap_165 : decode cX8_readMap 165 = .ok (.bipush 48, 2) := by decide +kernel
theorem dX8_readMap_167 : decode cX8_readMap 167 = .ok (.isub, 1) := by decide +kernel
theorem dX8_readMap_168 : decode cX8_readMap 168 = .ok (.istore 5, 2) := by decide +kernel
theorem dX8_readMap_170 : decode cX8_readMap 170 = .ok (.goto 59, 3) := by decide +kernel
theorem dX8_readMap_173 : decode cX8_readMap 173 = .ok (.iload 4, 2) := by decide +kernel
theorem dX8_readMap_175 : decode cX8_readMap 175 = .ok (.iload 5, 2) := by decide +kernel
theorem dX8_readMap_177 : decode cX8_readMap 177 = .ok (.iconst 1, 1) := by decide +kernel
theorem dX8_readMap_178 : decode cX8_readMap 178 = .ok (.invokestatic 87, 3) := by decide +kernel
theorem dX8_readMap_181 : decode cX8_readMap 181 = .ok (.iadd, 1) := by decide +kernel
theorem dX8_readMap_182 : decode cX8_readMap 182 = .ok (.istore 12, 2) := by decide +kernel
theorem dX8_readMap_184 : decode cX8_readMap 184 = .ok (.iload 12, 2) := by decide +kernel
theorem dX8_readMap_186 : decode cX8_readMap 186 = .ok (.bipush 12, 2) := by decide +kernel
theorem dX8_readMap_188 : decode cX8_readMap 188 = .ok (.if_icmp .le 11, 3) := by decide +kernel
theorem dX8_readMap_191 : decode cX8_readMap 191 = .ok (.bipush 6, 2) := by decide +kernel
theorem dX8_readMap_193 : decode cX8_readMap 193 = .ok (.iload 6, 2) := by decide +kernel
theorem dX8_readMap_195 : decode cX8_readMap 195 = .ok (.invokestatic 84, 3) := by decide +kernel
theorem dX8_readMap_198 : decode cX8_readMap 198 = .ok (.ireturn, 1) := by decide +kernel
theorem dX8_readMap_199 : decode cX8_readMap 199 = .ok (.iload 4, 2) := by decide +kernel
theorem dX8_readMap_201 : decode cX8_readMap 201 = .ok (.iload 12, 2) := by decide +kernel
theorem dX8_readMap_203 : decode cX8_readMap 203 = .ok (.if_icmp .ge 23, 3) := by decide +kernel
theorem dX8_readMap_206 : decode cX8_readMap 206 = .ok (.aload_n 0, 1) := by decide +kernel
theorem dX8_readMap_207 : decode cX8_readMap 207 = .ok (.getfield 15, 3) := by decide +kernel
theorem dX8_readMap_210 : decode cX8_readMap 210 = .ok (.iload_n 3, 1) := by decide +kernel
theorem dX8_readMap_211 : decode cX8_readMap 211 = .ok (.bipush 12, 2) := by decide +kernel
theorem dX8_readMap_213 : decode cX8_readMap 213 = .ok (.imul, 1) := by decide +kernel
theorem dX8_readMap_214 : decode cX8_readMap 214 = .ok (.iload 4, 2) := by decide +kernel
theorem dX8_readMap_216 : decode cX8_readMap 216 = .ok (.iadd, 1) := by decide +kernel
theorem dX8_readMap_217 : decode cX8_readMap 217 = .ok (.iload 9, 2) := by decide +kernel
theorem dX8_readMap_219 : decode cX8_readMap 219 = .ok (.iastore, 1) := by decide +kernel
theorem dX8_readMap_220 : decode cX8_readMap 220 = .ok (.iinc 4 1, 3) := by decide +kernel
theorem dX8_readMap_223 : decode cX8_readMap 223 = .ok (.goto (-24), 3) := by decide +kernel
theorem dX8_readMap_226 : decode cX8_readMap 226 = .ok (.iconst 0, 1) := by decide +kernel
theorem dX8_readMap_227 : decode cX8_readMap 227 = .ok (.istore 5, 2) := by decide +kernel
theorem dX8_readMap_229 : decode cX8_readMap 229 = .ok (.iinc 7 1, 3) := by decide +kernel
theorem dX8_readMap_232 : decode cX8_readMap 232 = .ok (.goto (-210), 3) := by decide +kernel
theorem dX8_readMap_235 : decode cX8_readMap 235 = .ok (.iload 4, 2) := by decide +kernel
theorem dX8_readMap_237 : decode cX8_readMap 237 = .ok (.ifCond .eq 8, 3) := by decide +kernel
theorem dX8_readMap_240 : decode cX8_readMap 240 = .ok (.iload 5, 2) := by decide +kernel
theorem dX8_readMap_242 : decode cX8_readMap 242 = .ok (.ifCond .le 9, 3) := by decide +kernel
theorem dX8_readMap_245 : decode cX8_readMap 245 = .ok (.iconst 1, 1) := by decide +kernel
theorem dX8_readMap_246 : decode cX8_readMap 246 = .ok (.iload_n 2, 1) := by decide +kernel
theorem dX8_readMap_247 : decode cX8_readMap 247 = .ok (.invokestatic 84, 3) := by decide +kernel
theorem dX8_readMap_250 : decode cX8_readMap 250 = .ok (.ireturn, 1) := by decide +kernel
theorem dX8_readMap_251 : decode cX8_readMap 251 = .ok (.aload_n 0, 1) := by decide +kernel
theorem dX8_readMap_252 : decode cX8_readMap 252 = .ok (.getfield 15, 3) := by decide +kernel
theorem dX8_readMap_255 : decode cX8_readMap 255 = .ok (.iconst 0, 1) := by decide +kernel
theorem dX8_readMap_256 : decode cX8_readMap 256 = .ok (.aload_n 0, 1) := by decide +kernel
theorem dX8_readMap_257 : decode cX8_readMap 257 = .ok (.getfield 9, 3) := by decide +kernel
theorem dX8_readMap_260 : decode cX8_readMap 260 = .ok (.iconst 0, 1) := by decide +kernel
theorem dX8_readMap_261 : decode cX8_readMap 261 = .ok (.bipush 96, 2) := by decide +kernel
theorem dX8_readMap_263 : decode cX8_readMap 263 = .ok (.invokestatic 92, 3) := by decide +kernel
theorem dX8_readMap_266 : decode cX8_readMap 266 = .ok (.aload_n 0, 1) := by decide +kernel
theorem dX8_readMap_267 : decode cX8_readMap 267 = .ok (.invokevirtual 98, 3) := by decide +kernel
theorem dX8_readMap_270 : decode cX8_readMap 270 = .ok (.iload_n 3, 1) := by decide +kernel
theorem dX8_readMap_271 : decode cX8_readMap 271 = .ok (.iconst 1, 1) := by decide +kernel
theorem dX8_readMap_272 : decode cX8_readMap 272 = .ok (.iadd, 1) := by decide +kernel
theorem dX8_readMap_273 : decode cX8_readMap 273 = .ok (.ireturn, 1) := by decide +kernel
def b8_readMap_245 (rc : Nat → List Int32 → List Int64 → Mem → Option (Int32 × Mem)) (n : Nat) (i2 : Int32) (M : Mem) : Option (Int32 × Mem) :=
  bnd (f11_faultAt n (1 : Int32) i2 M) fun r48 M49 =>
  some (r48, M49)
def b8_readMap_229 (rc : Nat → List Int32 → List Int64 → Mem → Option (Int32 × Mem)) (n : Nat) (i2 : Int32) (i3 : Int32) (i4 : Int32) (i5 : Int32) (i6 : Int32) (i7 : Int32) (M : Mem) : Option (Int32 × Mem) :=
  lt (i7 + (1 : Int32)) fun v36 =>
  rc 22 [i2, i3, i4, i5, i6, v36] [] M
def b8_readMap_199 (rc : Nat → List Int32 → List Int64 → Mem → Option (Int32 × Mem)) (n : Nat) (i2 : Int32) (i3 : Int32) (i4 : Int32) (i6 : Int32) (i7 : Int32) (i9 : Int32) (i12 : Int32) (M : Mem) : Option (Int32 × Mem) :=
  (if i12 ≤ i4 then (
   b8_readMap_229  rc n i2 i3 i4 (0 : Int32) i6 i7 M)
  else (
   chk (inb ((i3 * (12 : Int32)) + i4) 96) <|
   lt (wI M 5 ((i3 * (12 : Int32)) + i4).toNatClampNeg i9) fun M46 =>
   lt (i4 + (1 : Int32)) fun v47 =>
   rc 199 [i2, i3, v47, i6, i7, i9, i12] [] M46))
def b8_readMap_156 (rc : Nat → List Int32 → List Int64 → Mem → Option (Int32 × Mem)) (n : Nat) (i2 : Int32) (i3 : Int32) (i4 : Int32) (i5 : Int32) (i7 : Int32) (i8 : Int32) (i9 : Int32) (i10 : Int32) (s0 : Int32) (M : Mem) : Option (Int32 × Mem) :=
  (if i10 = 0 then (
   lt (i4 + (if i5 < (1 : Int32) then (1 : Int32) else i5)) fun v38 =>
   (if v38 ≤ (12 : Int32) then (
    b8_readMap_199  rc n i2 i3 i4 s0 i7 i9 v38 M)
   else (
    bnd (f11_faultAt n (6 : Int32) s0 M) fun r40 M41 =>
    some (r40, M41))))
  else (
   lt (i8 - (48 : Int32)) fun v43 =>
   b8_readMap_229  rc n i2 i3 i4 v43 s0 i7 M))
def b8_readMap_117 (rc : Nat → List Int32 → List Int64 → Mem → Option (Int32 × Mem)) (n : Nat) (i2 : Int32) (i3 : Int32) (i4 : Int32) (i5 : Int32) (i6 : Int32) (i7 : Int32) (i8 : Int32) (i9 : Int32) (i10 : Int32) (i11 : Int32) (M : Mem) : Option (Int32 × Mem) :=
  (if i11 = 0 then (
   (if i3 = (8 : Int32) then (
    bnd (f11_faultAt n (4 : Int32) i7 M) fun r32 M33 =>
    some (r32, M33))
   else (
    (if i5 = 0 then (
     b8_readMap_156  rc n i2 i3 i4 i5 i7 i8 i9 i10 i7 M)
    else (
     b8_readMap_156  rc n i2 i3 i4 i5 i7 i8 i9 i10 i6 M)))))
  else (
   lt (i3 + (1 : Int32)) fun v35 =>
   b8_readMap_229  rc n i2 v35 (0 : Int32) i5 i6 i7 M))
def b8_readMap_92 (rc : Nat → List Int32 → List Int64 → Mem → Option (Int32 × Mem)) (n : Nat) (i2 : Int32) (i3 : Int32) (i4 : Int32) (i5 : Int32) (i6 : Int32) (i7 : Int32) (i8 : Int32) (i9 : Int32) (i10 : Int32) (s0 : Int32) (M : Mem) : Option (Int32 × Mem) :=
  (if i9 = (-1 : Int32) then (
   (if i10 = 0 then (
    (if s0 = 0 then (
     bnd (f11_faultAt n (1 : Int32) i7 M) fun r26 M27 =>
     some (r26, M27))
    else (
     b8_readMap_117  rc n i2 i3 i4 i5 i6 i7 i8 i9 i10 s0 M)))
   else (
    b8_readMap_117  rc n i2 i3 i4 i5 i6 i7 i8 i9 i10 s0 M)))
  else (
   b8_readMap_117  rc n i2 i3 i4 i5 i6 i7 i8 i9 i10 s0 M))
def b8_readMap_91 (rc : Nat → List Int32 → List Int64 → Mem → Option (Int32 × Mem)) (n : Nat) (i2 : Int32) (i3 : Int32) (i4 : Int32) (i5 : Int32) (i6 : Int32) (i7 : Int32) (i8 : Int32) (i9 : Int32) (i10 : Int32) (M : Mem) : Option (Int32 × Mem) :=
  b8_readMap_92  rc n i2 i3 i4 i5 i6 i7 i8 i9 i10 (0 : Int32) M
def b8_readMap_68 (rc : Nat → List Int32 → List Int64 → Mem → Option (Int32 × Mem)) (n : Nat) (i2 : Int32) (i3 : Int32) (i4 : Int32) (i5 : Int32) (i6 : Int32) (i7 : Int32) (i8 : Int32) (i9 : Int32) (s0 : Int32) (M : Mem) : Option (Int32 × Mem) :=
  (if i8 = (47 : Int32) then (
   (if i4 ≤ 0 then (
    b8_readMap_91  rc n i2 i3 i4 i5 i6 i7 i8 i9 s0 M)
   else (
    (if i5 = 0 then (
     b8_readMap_92  rc n i2 i3 i4 i5 i6 i7 i8 i9 s0 (1 : Int32) M)
    else (
     b8_readMap_91  rc n i2 i3 i4 i5 i6 i7 i8 i9 s0 M)))))
  else (
   b8_readMap_91  rc n i2 i3 i4 i5 i6 i7 i8 i9 s0 M))
def b8_readMap_67 (rc : Nat → List Int32 → List Int64 → Mem → Option (Int32 × Mem)) (n : Nat) (i2 : Int32) (i3 : Int32) (i4 : Int32) (i5 : Int32) (i6 : Int32) (i7 : Int32) (i8 : Int32) (i9 : Int32) (M : Mem) : Option (Int32 × Mem) :=
  b8_readMap_68  rc n i2 i3 i4 i5 i6 i7 i8 i9 (0 : Int32) M
def b8_readMap_22 (rc : Nat → List Int32 → List Int64 → Mem → Option (Int32 × Mem)) (n : Nat) (i2 : Int32) (i3 : Int32) (i4 : Int32) (i5 : Int32) (i6 : Int32) (i7 : Int32) (M : Mem) : Option (Int32 × Mem) :=
  (if i2 ≤ i7 then (
   (if i4 = 0 then (
    b8_readMap_245  rc n i2 M)
   else (
    (if i5 ≤ 0 then (
     lt (wR M 4 (va_cpy (M.1 5) (M.1 4) (0 : Int32).toNatClampNeg (0 : Int32).toNatClampNeg (96 : Int32).toNatClampNeg)) fun M7 =>
     bnd (f8_refresh n M7) fun r8 M9 =>
     some ((i3 + (1 : Int32)), M9))
    else (
     b8_readMap_245  rc n i2 M)))))
  else (
   bnd (f7_at n i7 i2 M) fun r11 M12 =>
   bnd (f8_kindBySign n r11 M12) fun r14 M15 =>
   (if i5 = 0 then (
    (if r11 < (50 : Int32) then (
     b8_readMap_67  rc n i2 i3 i4 i5 i6 i7 r11 r14 M15)
    else (
     (if (57 : Int32) < r11 then (
      b8_readMap_67  rc n i2 i3 i4 i5 i6 i7 r11 r14 M15)
     else (
      b8_readMap_68  rc n i2 i3 i4 i5 i6 i7 r11 r14 (1 : Int32) M15)))))
   else (
    b8_readMap_67  rc n i2 i3 i4 i5 i6 i7 r11 r14 M15))))
def b8_readMap_0 (rc : Nat → List Int32 → List Int64 → Mem → Option (Int32 × Mem)) (n : Nat) (a2 : Int32) (M : Mem) : Option (Int32 × Mem) :=
  bnd (fZJ7_fill_53178 n 5 96 (2 : Int32) M) fun r1 M2 =>
  b8_readMap_22  rc n a2 (0 : Int32) (0 : Int32) (0 : Int32) (0 : Int32) (0 : Int32) M2
def r8_readMap : Nat → Nat → List Int32 → List Int64 → Mem → Option (Int32 × Mem)
  | 0 => fun _ _ _ _ => none
  | n + 1 => fun pc li lj M =>
    if pc = 22 then (match li, lj with | [i2, i3, i4, i5, i6, i7], [] => b8_readMap_22  (r8_readMap  n) n i2 i3 i4 i5 i6 i7 M | _, _ => none) else
    if pc = 199 then (match li, lj with | [i2, i3, i4, i6, i7, i9, i12], [] => b8_readMap_199  (r8_readMap  n) n i2 i3 i4 i6 i7 i9 i12 M | _, _ => none) else
    none
theorem e8_readMap_22  (n : Nat) (i2 : Int32) (i3 : Int32) (i4 : Int32) (i5 : Int32) (i6 : Int32) (i7 : Int32) (M : Mem) : r8_readMap  (n + 1) 22 [i2, i3, i4, i5, i6, i7] [] M = b8_readMap_22  (r8_readMap  n) n i2 i3 i4 i5 i6 i7 M := by
  rw [r8_readMap]
  simp
theorem e8_readMap_199  (n : Nat) (i2 : Int32) (i3 : Int32) (i4 : Int32) (i6 : Int32) (i7 : Int32) (i9 : Int32) (i12 : Int32) (M : Mem) : r8_readMap  (n + 1) 199 [i2, i3, i4, i6, i7, i9, i12] [] M = b8_readMap_199  (r8_readMap  n) n i2 i3 i4 i6 i7 i9 i12 M := by
  rw [r8_readMap]
  simp
def f8_readMap (n : Nat) (a2 : Int32) (M : Mem) : Option (Int32 × Mem) := b8_readMap_0 (r8_readMap n) n a2 M
abbrev rm8_readMap : Room := { frames := 3, cells := 0, slots := 0, locals := 72 }
theorem y8_readMap_w : yV RX8 yX8_readMap cX8_readMap 13 (some .int) 2 := ⟨g_680, g_681, g_3, g_682, rfl, by decide, by decide, by decide +kernel⟩
set_option maxHeartbeats 4000000 in
set_option maxRecDepth 100000 in
theorem w8_readMap_245 {p : Program} {l : Launch} {e : Env} {s : State} {m : MethodId} {args : Array Value} {below : List Frame} {meth : Method} {c : Code} {z : Zt} {b : Nat}  (C : Cx p s m args c cX8_readMap 13 RX8 z 339 b) (hr : meth.sig.returnType = (some .int)) (hk : meth.locks = false) {r : Int32} {M' : Mem} {rc : Nat → List Int32 → List Int64 → Mem → Option (Int32 × Mem)} {n : Nat} (q22 : ∀ (i2 : Int32) (i3 : Int32) (i4 : Int32) (i5 : Int32) (i6 : Int32) (i7 : Int32) (M : Mem) (H : Heap) (locs : List Loc) (ls : Array Slot), rc 22 [i2, i3, i4, i5, i6, i7] [] M = some (r, M') → va_P z.1 vwCl (pw (xd z b) 339 b M) H → va_S (pA 339 b) s.heap H locs → lv_has ls 13 [(0, .ref (b + 3)), (1, .ref (b + 1)), (2, .int i2), (3, .int i3), (4, .int i4), (5, .int i5), (6, .int i6), (7, .int i7)] → W p l e rm8_readMap s m args below meth c H locs 0 0 (MQ below (va_Qi (fun (r' : Int32) (M2 : Mem) => r' = r ∧ M2 = M') (fun M2 t => va_P z.1 vwCl (pw (xd z b) 339 b M2) t.heap) (pA 339 b)) args s 0 0 (pA 339 b)) (F0 m 22 ls [])) (q199 : ∀ (i2 : Int32) (i3 : Int32) (i4 : Int32) (i6 : Int32) (i7 : Int32) (i9 : Int32) (i12 : Int32) (M : Mem) (H : Heap) (locs : List Loc) (ls : Array Slot), rc 199 [i2, i3, i4, i6, i7, i9, i12] [] M = some (r, M') → va_P z.1 vwCl (pw (xd z b) 339 b M) H → va_S (pA 339 b) s.heap H locs → lv_has ls 13 [(0, .ref (b + 3)), (1, .ref (b + 1)), (2, .int i2), (3, .int i3), (4, .int i4), (6, .int i6), (7, .int i7), (9, .int i9), (12, .int i12)] → W p l e rm8_readMap s m args below meth c H locs 0 0 (MQ below (va_Qi (fun (r' : Int32) (M2 : Mem) => r' = r ∧ M2 = M') (fun M2 t => va_P z.1 vwCl (pw (xd z b) 339 b M2) t.heap) (pA 339 b)) args s 0 0 (pA 339 b)) (F0 m 199 ls [])) {i2 : Int32} {M : Mem} {H : Heap} {locs : List Loc} {ls : Array Slot} (hf : b8_readMap_245  rc n i2 M = some (r, M')) (hP : va_P z.1 vwCl (pw (xd z b) 339 b M) H) (hS : va_S (pA 339 b) s.heap H locs) (hl : lv_has ls 13 [(2, .int i2)]) : W p l e rm8_readMap s m args below meth c H locs 0 0 (MQ below (va_Qi (fun (r' : Int32) (M2 : Mem) => r' = r ∧ M2 = M') (fun M2 t => va_P z.1 vwCl (pw (xd z b) 339 b M2) t.heap) (pA 339 b)) args s 0 0 (pA 339 b)) (F0 m 245 ls []) := by
  have hx := C.1.1
  have hb := C.1.2.1
  unfold b8_readMap_245 at hf
  refine lv_iconst (v := (1 : Int32)) hx hb dX8_readMap_245 (by decide) ?_
  refine lv_iload_n hx hb dX8_readMap_246 rfl (lv_at hl 0 rfl) ?_
  obtain ⟨r48, M49, h50, hf⟩ := bnd_s hf
  refine pcTi (As := [.int (1 : Int32), .int i2]) C hP hS (c11_faultAt  h50) y11_faultAt_w g_687 rfl rfl rfl ⟨Nat.le_of_ble_eq_true rfl, Nat.le_of_ble_eq_true rfl⟩ hl.1 rfl (Nat.le_of_ble_eq_true rfl) dX8_readMap_247 ⟨Nat.le_of_ble_eq_true rfl, Nat.le_of_ble_eq_true rfl⟩ (fun H locs hP hS => ?_)
  exact prI C hr hk hP hS hf dX8_readMap_250
set_option maxHeartbeats 4000000 in
set_option maxRecDepth 100000 in
theorem w8_readMap_229 {p : Program} {l : Launch} {e : Env} {s : State} {m : MethodId} {args : Array Value} {below : List Frame} {meth : Method} {c : Code} {z : Zt} {b : Nat}  (C : Cx p s m args c cX8_readMap 13 RX8 z 339 b) (hr : meth.sig.returnType = (some .int)) (hk : meth.locks = false) {r : Int32} {M' : Mem} {rc : Nat → List Int32 → List Int64 → Mem → Option (Int32 × Mem)} {n : Nat} (q22 : ∀ (i2 : Int32) (i3 : Int32) (i4 : Int32) (i5 : Int32) (i6 : Int32) (i7 : Int32) (M : Mem) (H : Heap) (locs : List Loc) (ls : Array Slot), rc 22 [i2, i3, i4, i5, i6, i7] [] M = some (r, M') → va_P z.1 vwCl (pw (xd z b) 339 b M) H → va_S (pA 339 b) s.heap H locs → lv_has ls 13 [(0, .ref (b + 3)), (1, .ref (b + 1)), (2, .int i2), (3, .int i3), (4, .int i4), (5, .int i5), (6, .int i6), (7, .int i7)] → W p l e rm8_readMap s m args below meth c H locs 0 0 (MQ below (va_Qi (fun (r' : Int32) (M2 : Mem) => r' = r ∧ M2 = M') (fun M2 t => va_P z.1 vwCl (pw (xd z b) 339 b M2) t.heap) (pA 339 b)) args s 0 0 (pA 339 b)) (F0 m 22 ls [])) (q199 : ∀ (i2 : Int32) (i3 : Int32) (i4 : Int32) (i6 : Int32) (i7 : Int32) (i9 : Int32) (i12 : Int32) (M : Mem) (H : Heap) (locs : List Loc) (ls : Array Slot), rc 199 [i2, i3, i4, i6, i7, i9, i12] [] M = some (r, M') → va_P z.1 vwCl (pw (xd z b) 339 b M) H → va_S (pA 339 b) s.heap H locs → lv_has ls 13 [(0, .ref (b + 3)), (1, .ref (b + 1)), (2, .int i2), (3, .int i3), (4, .int i4), (6, .int i6), (7, .int i7), (9, .int i9), (12, .int i12)] → W p l e rm8_readMap s m args below meth c H locs 0 0 (MQ below (va_Qi (fun (r' : Int32) (M2 : Mem) => r' = r ∧ M2 = M') (fun M2 t => va_P z.1 vwCl (pw (xd z b) 339 b M2) t.heap) (pA 339 b)) args s 0 0 (pA 339 b)) (F0 m 199 ls [])) {i2 : Int32} {i3 : Int32} {i4 : Int32} {i5 : Int32} {i6 : Int32} {i7 : Int32} {M : Mem} {H : Heap} {locs : List Loc} {ls : Array Slot} (hf : b8_readMap_229  rc n i2 i3 i4 i5 i6 i7 M = some (r, M')) (hP : va_P z.1 vwCl (pw (xd z b) 339 b M) H) (hS : va_S (pA 339 b) s.heap H locs) (hl : lv_has ls 13 [(0, .ref (b + 3)), (1, .ref (b + 1)), (2, .int i2), (3, .int i3), (4, .int i4), (5, .int i5), (6, .int i6), (7, .int i7)]) : W p l e rm8_readMap s m args below meth c H locs 0 0 (MQ below (va_Qi (fun (r' : Int32) (M2 : Mem) => r' = r ∧ M2 = M') (fun M2 t => va_P z.1 vwCl (pw (xd z b) 339 b M2) t.heap) (pA 339 b)) args s 0 0 (pA 339 b)) (F0 m 229 ls []) := by
  have hx := C.1.1
  have hb := C.1.2.1
  unfold b8_readMap_229 at hf
  obtain ⟨v36, ev36⟩ : ∃ v : Int32, v = i7 + (1 : Int32) := ⟨_, rfl⟩
  replace hf := lt_c ev36 hf
  refine lv_iinc (v := v36) (lv' := [(7, .int v36), (0, .ref (b + 3)), (1, .ref (b + 1)), (2, .int i2), (3, .int i3), (4, .int i4), (5, .int i5), (6, .int i6)]) hx hb dX8_readMap_229 hl (k := 7) rfl (by rw [ev36]; rfl) (by decide) rfl (fun ls hl => ?_)
  refine lv_goto (tgt := 22) hx hb dX8_readMap_232 (by decide) ?_
  exact q22 i2 i3 i4 i5 i6 v36 M _ _ _ hf hP hS (lv_sub hl [1, 2, 3, 4, 5, 6, 7, 0] rfl)
set_option maxHeartbeats 4000000 in
set_option maxRecDepth 100000 in
theorem w8_readMap_199 {p : Program} {l : Launch} {e : Env} {s : State} {m : MethodId} {args : Array Value} {below : List Frame} {meth : Method} {c : Code} {z : Zt} {b : Nat}  (C : Cx p s m args c cX8_readMap 13 RX8 z 339 b) (hr : meth.sig.returnType = (some .int)) (hk : meth.locks = false) {r : Int32} {M' : Mem} {rc : Nat → List Int32 → List Int64 → Mem → Option (Int32 × Mem)} {n : Nat} (q22 : ∀ (i2 : Int32) (i3 : Int32) (i4 : Int32) (i5 : Int32) (i6 : Int32) (i7 : Int32) (M : Mem) (H : Heap) (locs : List Loc) (ls : Array Slot), rc 22 [i2, i3, i4, i5, i6, i7] [] M = some (r, M') → va_P z.1 vwCl (pw (xd z b) 339 b M) H → va_S (pA 339 b) s.heap H locs → lv_has ls 13 [(0, .ref (b + 3)), (1, .ref (b + 1)), (2, .int i2), (3, .int i3), (4, .int i4), (5, .int i5), (6, .int i6), (7, .int i7)] → W p l e rm8_readMap s m args below meth c H locs 0 0 (MQ below (va_Qi (fun (r' : Int32) (M2 : Mem) => r' = r ∧ M2 = M') (fun M2 t => va_P z.1 vwCl (pw (xd z b) 339 b M2) t.heap) (pA 339 b)) args s 0 0 (pA 339 b)) (F0 m 22 ls [])) (q199 : ∀ (i2 : Int32) (i3 : Int32) (i4 : Int32) (i6 : Int32) (i7 : Int32) (i9 : Int32) (i12 : Int32) (M : Mem) (H : Heap) (locs : List Loc) (ls : Array Slot), rc 199 [i2, i3, i4, i6, i7, i9, i12] [] M = some (r, M') → va_P z.1 vwCl (pw (xd z b) 339 b M) H → va_S (pA 339 b) s.heap H locs → lv_has ls 13 [(0, .ref (b + 3)), (1, .ref (b + 1)), (2, .int i2), (3, .int i3), (4, .int i4), (6, .int i6), (7, .int i7), (9, .int i9), (12, .int i12)] → W p l e rm8_readMap s m args below meth c H locs 0 0 (MQ below (va_Qi (fun (r' : Int32) (M2 : Mem) => r' = r ∧ M2 = M') (fun M2 t => va_P z.1 vwCl (pw (xd z b) 339 b M2) t.heap) (pA 339 b)) args s 0 0 (pA 339 b)) (F0 m 199 ls [])) {i2 : Int32} {i3 : Int32} {i4 : Int32} {i6 : Int32} {i7 : Int32} {i9 : Int32} {i12 : Int32} {M : Mem} {H : Heap} {locs : List Loc} {ls : Array Slot} (hf : b8_readMap_199  rc n i2 i3 i4 i6 i7 i9 i12 M = some (r, M')) (hP : va_P z.1 vwCl (pw (xd z b) 339 b M) H) (hS : va_S (pA 339 b) s.heap H locs) (hl : lv_has ls 13 [(0, .ref (b + 3)), (1, .ref (b + 1)), (2, .int i2), (3, .int i3), (4, .int i4), (6, .int i6), (7, .int i7), (9, .int i9), (12, .int i12)]) : W p l e rm8_readMap s m args below meth c H locs 0 0 (MQ below (va_Qi (fun (r' : Int32) (M2 : Mem) => r' = r ∧ M2 = M') (fun M2 t => va_P z.1 vwCl (pw (xd z b) 339 b M2) t.heap) (pA 339 b)) args s 0 0 (pA 339 b)) (F0 m 199 ls []) := by
  have hx := C.1.1
  have hb := C.1.2.1
  unfold b8_readMap_199 at hf
  refine lv_iload hx hb dX8_readMap_199 (lv_at hl 4 rfl) ?_
  refine lv_iload hx hb dX8_readMap_201 (lv_at hl 8 rfl) ?_
  refine lv_icmp_ge (tgt := 226) hx hb dX8_readMap_203 (by decide) (fun c44 => ?_) (fun c44 => ?_)
  · replace hf := ite_t c44 hf
    refine lv_iconst (v := (0 : Int32)) hx hb dX8_readMap_226 (by decide) ?_
    refine lv_istore (lv' := [(5, .int (0 : Int32)), (0, .ref (b + 3)), (1, .ref (b + 1)), (2, .int i2), (3, .int i3), (4, .int i4), (6, .int i6), (7, .int i7), (9, .int i9), (12, .int i12)]) hx hb dX8_readMap_227 hl (by decide) rfl (fun ls hl => ?_)
    exact w8_readMap_229 (n := n)  C hr hk q22 q199 hf hP hS (lv_sub hl [1, 2, 3, 4, 5, 0, 6, 7] rfl)
  · replace hf := ite_f c44 hf
    refine lv_aload_n hx hb dX8_readMap_206 rfl (lv_at hl 0 rfl) ?_
    refine pg C hP (k := 3) (j := 1) (Nat.le_of_ble_eq_true rfl) (xd_3 _ _) rfl iw_8 (Nat.le_of_ble_eq_true rfl) g_71 rfl rfl dX8_readMap_207 ?_
    refine lv_iload_n hx hb dX8_readMap_210 rfl (lv_at hl 3 rfl) ?_
    refine lv_bipush (v := (12 : Int32)) hx hb dX8_readMap_211 (by decide) ?_
    refine lv_imul hx hb dX8_readMap_213 ?_
    refine lv_iload hx hb dX8_readMap_214 (lv_at hl 4 rfl) ?_
    refine lv_iadd hx hb dX8_readMap_216 ?_
    refine lv_iload hx hb dX8_readMap_217 (lv_at hl 7 rfl) ?_
    have h45 := chk_1 hf
    replace hf := chk_2 hf
    refine psI C hP hS (k := 5) (Nat.le_of_ble_eq_true rfl) (xd_5) h45 dX8_readMap_219 (fun M46 H locs eM46 hP hS => ?_)
    replace hf := lt_c eM46 hf
    obtain ⟨v47, ev47⟩ : ∃ v : Int32, v = i4 + (1 : Int32) := ⟨_, rfl⟩
    replace hf := lt_c ev47 hf
    refine lv_iinc (v := v47) (lv' := [(4, .int v47), (0, .ref (b + 3)), (1, .ref (b + 1)), (2, .int i2), (3, .int i3), (6, .int i6), (7, .int i7), (9, .int i9), (12, .int i12)]) hx hb dX8_readMap_220 hl (k := 4) rfl (by rw [ev47]; rfl) (by decide) rfl (fun ls hl => ?_)
    refine lv_goto (tgt := 199) hx hb dX8_readMap_223 (by decide) ?_
    exact q199 i2 i3 v47 i6 i7 i9 i12 M46 _ _ _ hf hP hS (lv_sub hl [1, 2, 3, 4, 0, 5, 6, 7, 8] rfl)
set_option maxHeartbeats 4000000 in
set_option maxRecDepth 100000 in
theorem w8_readMap_156 {p : Program} {l : Launch} {e : Env} {s : State} {m : MethodId} {args : Array Value} {below : List Frame} {meth : Method} {c : Code} {z : Zt} {b : Nat}  (C : Cx p s m args c cX8_readMap 13 RX8 z 339 b) (hr : meth.sig.returnType = (some .int)) (hk : meth.locks = false) {r : Int32} {M' : Mem} {rc : Nat → List Int32 → List Int64 → Mem → Option (Int32 × Mem)} {n : Nat} (q22 : ∀ (i2 : Int32) (i3 : Int32) (i4 : Int32) (i5 : Int32) (i6 : Int32) (i7 : Int32) (M : Mem) (H : Heap) (locs : List Loc) (ls : Array Slot), rc 22 [i2, i3, i4, i5, i6, i7] [] M = some (r, M') → va_P z.1 vwCl (pw (xd z b) 339 b M) H → va_S (pA 339 b) s.heap H locs → lv_has ls 13 [(0, .ref (b + 3)), (1, .ref (b + 1)), (2, .int i2), (3, .int i3), (4, .int i4), (5, .int i5), (6, .int i6), (7, .int i7)] → W p l e rm8_readMap s m args below meth c H locs 0 0 (MQ below (va_Qi (fun (r' : Int32) (M2 : Mem) => r' = r ∧ M2 = M') (fun M2 t => va_P z.1 vwCl (pw (xd z b) 339 b M2) t.heap) (pA 339 b)) args s 0 0 (pA 339 b)) (F0 m 22 ls [])) (q199 : ∀ (i2 : Int32) (i3 : Int32) (i4 : Int32) (i6 : Int32) (i7 : Int32) (i9 : Int32) (i12 : Int32) (M : Mem) (H : Heap) (locs : List Loc) (ls : Array Slot), rc 199 [i2, i3, i4, i6, i7, i9, i12] [] M = some (r, M') → va_P z.1 vwCl (pw (xd z b) 339 b M) H → va_S (pA 339 b) s.heap H locs → lv_has ls 13 [(0, .ref (b + 3)), (1, .ref (b + 1)), (2, .int i2), (3, .int i3), (4, .int i4), (6, .int i6), (7, .int i7), (9, .int i9), (12, .int i12)] → W p l e rm8_readMap s m args below meth c H locs 0 0 (MQ below (va_Qi (fun (r' : Int32) (M2 : Mem) => r' = r ∧ M2 = M') (fun M2 t => va_P z.1 vwCl (pw (xd z b) 339 b M2) t.heap) (pA 339 b)) args s 0 0 (pA 339 b)) (F0 m 199 ls [])) {i2 : Int32} {i3 : Int32} {i4 : Int32} {i5 : Int32} {i7 : Int32} {i8 : Int32} {i9 : Int32} {i10 : Int32} {s0 : Int32} {M : Mem} {H : Heap} {locs : List Loc} {ls : Array Slot} (hf : b8_readMap_156  rc n i2 i3 i4 i5 i7 i8 i9 i10 s0 M = some (r, M')) (hP : va_P z.1 vwCl (pw (xd z b) 339 b M) H) (hS : va_S (pA 339 b) s.heap H locs) (hl : lv_has ls 13 [(0, .ref (b + 3)), (1, .ref (b + 1)), (2, .int i2), (3, .int i3), (4, .int i4), (5, .int i5), (7, .int i7), (8, .int i8), (9, .int i9), (10, .int i10)]) : W p l e rm8_readMap s m args below meth c H locs 0 0 (MQ below (va_Qi (fun (r' : Int32) (M2 : Mem) => r' = r ∧ M2 = M') (fun M2 t => va_P z.1 vwCl (pw (xd z b) 339 b M2) t.heap) (pA 339 b)) args s 0 0 (pA 339 b)) (F0 m 156 ls [.int s0]) := by
  have hx := C.1.1
  have hb := C.1.2.1
  unfold b8_readMap_156 at hf
  refine lv_istore (lv' := [(6, .int s0), (0, .ref (b + 3)), (1, .ref (b + 1)), (2, .int i2), (3, .int i3), (4, .int i4), (5, .int i5), (7, .int i7), (8, .int i8), (9, .int i9), (10, .int i10)]) hx hb dX8_readMap_156 hl (by decide) rfl (fun ls hl => ?_)
  refine lv_iload hx hb dX8_readMap_158 (lv_at hl 10 rfl) ?_
  refine lv_if_eq (tgt := 173) hx hb dX8_readMap_160 (by decide) (fun c37 => ?_) (fun c37 => ?_)
  · replace hf := ite_t c37 hf
    refine lv_iload hx hb dX8_readMap_173 (lv_at hl 5 rfl) ?_
    refine lv_iload hx hb dX8_readMap_175 (lv_at hl 6 rfl) ?_
    refine lv_iconst (v := (1 : Int32)) hx hb dX8_readMap_177 (by decide) ?_
    refine va_mmax hx hb (by rw [C.1.2.2.1]; exact hl.1.symm) C.1.2.2.2.1 (C.1.2.2.2.2 _ g_688) (C.1.2.2.2.2 _ g_564) (C.1.2.2.2.2 _ g_17) (C.1.2.2.2.2 _ g_565) (Nat.le_of_ble_eq_true rfl) (Nat.le_of_ble_eq_true rfl) (Nat.le_of_ble_eq_true rfl) (Nat.le_of_ble_eq_true rfl) dX8_readMap_178 ?_
    refine lv_iadd hx hb dX8_readMap_181 ?_
    refine lv_topi (fun v38 ev38 => ?_)
    replace hf := lt_c ev38 hf
    refine lv_istore (lv' := [(12, .int v38), (6, .int s0), (0, .ref (b + 3)), (1, .ref (b + 1)), (2, .int i2), (3, .int i3), (4, .int i4), (5, .int i5), (7, .int i7), (8, .int i8), (9, .int i9), (10, .int i10)]) hx hb dX8_readMap_182 hl (by decide) rfl (fun ls hl => ?_)
    refine lv_iload hx hb dX8_readMap_184 (lv_at hl 0 rfl) ?_
    refine lv_bipush (v := (12 : Int32)) hx hb dX8_readMap_186 (by decide) ?_
    refine lv_icmp_le (tgt := 199) hx hb dX8_readMap_188 (by decide) (fun c39 => ?_) (fun c39 => ?_)
    · replace hf := ite_t c39 hf
      exact w8_readMap_199 (n := n)  C hr hk q22 q199 hf hP hS (lv_sub hl [2, 3, 4, 5, 6, 1, 8, 10, 0] rfl)
    · replace hf := ite_f c39 hf
      refine lv_bipush (v := (6 : Int32)) hx hb dX8_readMap_191 (by decide) ?_
      refine lv_iload hx hb dX8_readMap_193 (lv_at hl 1 rfl) ?_
      obtain ⟨r40, M41, h42, hf⟩ := bnd_s hf
      refine pcTi (As := [.int (6 : Int32), .int s0]) C hP hS (c11_faultAt  h42) y11_faultAt_w g_687 rfl rfl rfl ⟨Nat.le_of_ble_eq_true rfl, Nat.le_of_ble_eq_true rfl⟩ hl.1 rfl (Nat.le_of_ble_eq_true rfl) dX8_readMap_195 ⟨Nat.le_of_ble_eq_true rfl, Nat.le_of_ble_eq_true rfl⟩ (fun H locs hP hS => ?_)
      exact prI C hr hk hP hS hf dX8_readMap_198
  · replace hf := ite_f c37 hf
    refine lv_iload hx hb dX8_readMap_163 (lv_at hl 8 rfl) ?_
    refine lv_bipush (v := (48 : Int32)) hx hb dX8_readMap_165 (by decide) ?_
    refine lv_isub hx hb dX8_readMap_167 ?_
    refine lv_topi (fun v43 ev43 => ?_)
    replace hf := lt_c ev43 hf
    refine lv_istore (lv' := [(5, .int v43), (6, .int s0), (0, .ref (b + 3)), (1, .ref (b + 1)), (2, .int i2), (3, .int i3), (4, .int i4), (7, .int i7), (8, .int i8), (9, .int i9), (10, .int i10)]) hx hb dX8_readMap_168 hl (by decide) rfl (fun ls hl => ?_)
    refine lv_goto (tgt := 229) hx hb dX8_readMap_170 (by decide) ?_
    exact w8_readMap_229 (n := n)  C hr hk q22 q199 hf hP hS (lv_sub hl [2, 3, 4, 5, 6, 0, 1, 7] rfl)
set_option maxHeartbeats 4000000 in
set_option maxRecDepth 100000 in
theorem w8_readMap_117 {p : Program} {l : Launch} {e : Env} {s : State} {m : MethodId} {args : Array Value} {below : List Frame} {meth : Method} {c : Code} {z : Zt} {b : Nat}  (C : Cx p s m args c cX8_readMap 13 RX8 z 339 b) (hr : meth.sig.returnType = (some .int)) (hk : meth.locks = false) {r : Int32} {M' : Mem} {rc : Nat → List Int32 → List Int64 → Mem → Option (Int32 × Mem)} {n : Nat} (q22 : ∀ (i2 : Int32) (i3 : Int32) (i4 : Int32) (i5 : Int32) (i6 : Int32) (i7 : Int32) (M : Mem) (H : Heap) (locs : List Loc) (ls : Array Slot), rc 22 [i2, i3, i4, i5, i6, i7] [] M = some (r, M') → va_P z.1 vwCl (pw (xd z b) 339 b M) H → va_S (pA 339 b) s.heap H locs → lv_has ls 13 [(0, .ref (b + 3)), (1, .ref (b + 1)), (2, .int i2), (3, .int i3), (4, .int i4), (5, .int i5), (6, .int i6), (7, .int i7)] → W p l e rm8_readMap s m args below meth c H locs 0 0 (MQ below (va_Qi (fun (r' : Int32) (M2 : Mem) => r' = r ∧ M2 = M') (fun M2 t => va_P z.1 vwCl (pw (xd z b) 339 b M2) t.heap) (pA 339 b)) args s 0 0 (pA 339 b)) (F0 m 22 ls [])) (q199 : ∀ (i2 : Int32) (i3 : Int32) (i4 : Int32) (i6 : Int32) (i7 : Int32) (i9 : Int32) (i12 : Int32) (M : Mem) (H : Heap) (locs : List Loc) (ls : Array Slot), rc 199 [i2, i3, i4, i6, i7, i9, i12] [] M = some (r, M') → va_P z.1 vwCl (pw (xd z b) 339 b M) H → va_S (pA 339 b) s.heap H locs → lv_has ls 13 [(0, .ref (b + 3)), (1, .ref (b + 1)), (2, .int i2), (3, .int i3), (4, .int i4), (6, .int i6), (7, .int i7), (9, .int i9), (12, .int i12)] → W p l e rm8_readMap s m args below meth c H locs 0 0 (MQ below (va_Qi (fun (r' : Int32) (M2 : Mem) => r' = r ∧ M2 = M') (fun M2 t => va_P z.1 vwCl (pw (xd z b) 339 b M2) t.heap) (pA 339 b)) args s 0 0 (pA 339 b)) (F0 m 199 ls [])) {i2 : Int32} {i3 : Int32} {i4 : Int32} {i5 : Int32} {i6 : Int32} {i7 : Int32} {i8 : Int32} {i9 : Int32} {i10 : Int32} {i11 : Int32} {M : Mem} {H : Heap} {locs : List Loc} {ls : Array Slot} (hf : b8_readMap_117  rc n i2 i3 i4 i5 i6 i7 i8 i9 i10 i11 M = some (r, M')) (hP : va_P z.1 vwCl (pw (xd z b) 339 b M) H) (hS : va_S (pA 339 b) s.heap H locs) (hl : lv_has ls 13 [(0, .ref (b + 3)), (1, .ref (b + 1)), (2, .int i2), (3, .int i3), (4, .int i4), (5, .int i5), (6, .int i6), (7, .int i7), (8, .int i8), (9, .int i9), (10, .int i10), (11, .int i11)]) : W p l e rm8_readMap s m args below meth c H locs 0 0 (MQ below (va_Qi (fun (r' : Int32) (M2 : Mem) => r' = r ∧ M2 = M') (fun M2 t => va_P z.1 vwCl (pw (xd z b) 339 b M2) t.heap) (pA 339 b)) args s 0 0 (pA 339 b)) (F0 m 117 ls []) := by
  have hx := C.1.1
  have hb := C.1.2.1
  unfold b8_readMap_117 at hf
  refine lv_iload hx hb dX8_readMap_117 (lv_at hl 11 rfl) ?_
  refine lv_if_eq (tgt := 131) hx hb dX8_readMap_119 (by decide) (fun c29 => ?_) (fun c29 => ?_)
  · replace hf := ite_t c29 hf
    refine lv_iload_n hx hb dX8_readMap_131 rfl (lv_at hl 3 rfl) ?_
    refine lv_bipush (v := (8 : Int32)) hx hb dX8_readMap_132 (by decide) ?_
    refine lv_icmp_ne (tgt := 144) hx hb dX8_readMap_134 (by decide) (fun c30 => ?_) (fun c30 => ?_)
    · replace hf := ite_f c30 hf
      refine lv_iload hx hb dX8_readMap_144 (lv_at hl 5 rfl) ?_
      refine lv_if_ne (tgt := 154) hx hb dX8_readMap_146 (by decide) (fun c31 => ?_) (fun c31 => ?_)
      · replace hf := ite_f c31 hf
        refine lv_iload hx hb dX8_readMap_154 (lv_at hl 6 rfl) ?_
        exact w8_readMap_156 (n := n)  C hr hk q22 q199 hf hP hS (lv_sub hl [0, 1, 2, 3, 4, 5, 7, 8, 9, 10] rfl)
      · replace hf := ite_t c31 hf
        refine lv_iload hx hb dX8_readMap_149 (lv_at hl 7 rfl) ?_
        refine lv_goto (tgt := 156) hx hb dX8_readMap_151 (by decide) ?_
        exact w8_readMap_156 (n := n)  C hr hk q22 q199 hf hP hS (lv_sub hl [0, 1, 2, 3, 4, 5, 7, 8, 9, 10] rfl)
    · replace hf := ite_t c30 hf
      refine lv_iconst (v := (4 : Int32)) hx hb dX8_readMap_137 (by decide) ?_
      refine lv_iload hx hb dX8_readMap_138 (lv_at hl 7 rfl) ?_
      obtain ⟨r32, M33, h34, hf⟩ := bnd_s hf
      refine pcTi (As := [.int (4 : Int32), .int i7]) C hP hS (c11_faultAt  h34) y11_faultAt_w g_687 rfl rfl rfl ⟨Nat.le_of_ble_eq_true rfl, Nat.le_of_ble_eq_true rfl⟩ hl.1 rfl (Nat.le_of_ble_eq_true rfl) dX8_readMap_140 ⟨Nat.le_of_ble_eq_true rfl, Nat.le_of_ble_eq_true rfl⟩ (fun H locs hP hS => ?_)
      exact prI C hr hk hP hS hf dX8_readMap_143
  · replace hf := ite_f c29 hf
    obtain ⟨v35, ev35⟩ : ∃ v : Int32, v = i3 + (1 : Int32) := ⟨_, rfl⟩
    replace hf := lt_c ev35 hf
    refine lv_iinc (v := v35) (lv' := [(3, .int v35), (0, .ref (b + 3)), (1, .ref (b + 1)), (2, .int i2), (4, .int i4), (5, .int i5), (6, .int i6), (7, .int i7), (8, .int i8), (9, .int i9), (10, .int i10), (11, .int i11)]) hx hb dX8_readMap_122 hl (k := 3) rfl (by rw [ev35]; rfl) (by decide) rfl (fun ls hl => ?_)
    refine lv_iconst (v := (0 : Int32)) hx hb dX8_readMap_125 (by decide) ?_
    refine lv_istore (lv' := [(4, .int (0 : Int32)), (3, .int v35), (0, .ref (b + 3)), (1, .ref (b + 1)), (2, .int i2), (5, .int i5), (6, .int i6), (7, .int i7), (8, .int i8), (9, .int i9), (10, .int i10), (11, .int i11)]) hx hb dX8_readMap_126 hl (by decide) rfl (fun ls hl => ?_)
    refine lv_goto (tgt := 229) hx hb dX8_readMap_128 (by decide) ?_
    exact w8_readMap_229 (n := n)  C hr hk q22 q199 hf hP hS (lv_sub hl [2, 3, 4, 1, 0, 5, 6, 7] rfl)
set_option maxHeartbeats 4000000 in
set_option maxRecDepth 100000 in
theorem w8_readMap_92 {p : Program} {l : Launch} {e : Env} {s : State} {m : MethodId} {args : Array Value} {below : List Frame} {meth : Method} {c : Code} {z : Zt} {b : Nat}  (C : Cx p s m args c cX8_readMap 13 RX8 z 339 b) (hr : meth.sig.returnType = (some .int)) (hk : meth.locks = false) {r : Int32} {M' : Mem} {rc : Nat → List Int32 → List Int64 → Mem → Option (Int32 × Mem)} {n : Nat} (q22 : ∀ (i2 : Int32) (i3 : Int32) (i4 : Int32) (i5 : Int32) (i6 : Int32) (i7 : Int32) (M : Mem) (H : Heap) (locs : List Loc) (ls : Array Slot), rc 22 [i2, i3, i4, i5, i6, i7] [] M = some (r, M') → va_P z.1 vwCl (pw (xd z b) 339 b M) H → va_S (pA 339 b) s.heap H locs → lv_has ls 13 [(0, .ref (b + 3)), (1, .ref (b + 1)), (2, .int i2), (3, .int i3), (4, .int i4), (5, .int i5), (6, .int i6), (7, .int i7)] → W p l e rm8_readMap s m args below meth c H locs 0 0 (MQ below (va_Qi (fun (r' : Int32) (M2 : Mem) => r' = r ∧ M2 = M') (fun M2 t => va_P z.1 vwCl (pw (xd z b) 339 b M2) t.heap) (pA 339 b)) args s 0 0 (pA 339 b)) (F0 m 22 ls [])) (q199 : ∀ (i2 : Int32) (i3 : Int32) (i4 : Int32) (i6 : Int32) (i7 : Int32) (i9 : Int32) (i12 : Int32) (M : Mem) (H : Heap) (locs : List Loc) (ls : Array Slot), rc 199 [i2, i3, i4, i6, i7, i9, i12] [] M = some (r, M') → va_P z.1 vwCl (pw (xd z b) 339 b M) H → va_S (pA 339 b) s.heap H locs → lv_has ls 13 [(0, .ref (b + 3)), (1, .ref (b + 1)), (2, .int i2), (3, .int i3), (4, .int i4), (6, .int i6), (7, .int i7), (9, .int i9), (12, .int i12)] → W p l e rm8_readMap s m args below meth c H locs 0 0 (MQ below (va_Qi (fun (r' : Int32) (M2 : Mem) => r' = r ∧ M2 = M') (fun M2 t => va_P z.1 vwCl (pw (xd z b) 339 b M2) t.heap) (pA 339 b)) args s 0 0 (pA 339 b)) (F0 m 199 ls [])) {i2 : Int32} {i3 : Int32} {i4 : Int32} {i5 : Int32} {i6 : Int32} {i7 : Int32} {i8 : Int32} {i9 : Int32} {i10 : Int32} {s0 : Int32} {M : Mem} {H : Heap} {locs : List Loc} {ls : Array Slot} (hf : b8_readMap_92  rc n i2 i3 i4 i5 i6 i7 i8 i9 i10 s0 M = some (r, M')) (hP : va_P z.1 vwCl (pw (xd z b) 339 b M) H) (hS : va_S (pA 339 b) s.heap H locs) (hl : lv_has ls 13 [(0, .ref (b + 3)), (1, .ref (b + 1)), (2, .int i2), (3, .int i3), (4, .int i4), (5, .int i5), (6, .int i6), (7, .int i7), (8, .int i8), (9, .int i9), (10, .int i10)]) : W p l e rm8_readMap s m args below meth c H locs 0 0 (MQ below (va_Qi (fun (r' : Int32) (M2 : Mem) => r' = r ∧ M2 = M') (fun M2 t => va_P z.1 vwCl (pw (xd z b) 339 b M2) t.heap) (pA 339 b)) args s 0 0 (pA 339 b)) (F0 m 92 ls [.int s0]) := by
  have hx := C.1.1
  have hb := C.1.2.1
  unfold b8_readMap_92 at hf
  refine lv_istore (lv' := [(11, .int s0), (0, .ref (b + 3)), (1, .ref (b + 1)), (2, .int i2), (3, .int i3), (4, .int i4), (5, .int i5), (6, .int i6), (7, .int i7), (8, .int i8), (9, .int i9), (10, .int i10)]) hx hb dX8_readMap_92 hl (by decide) rfl (fun ls hl => ?_)
  refine lv_iload hx hb dX8_readMap_94 (lv_at hl 10 rfl) ?_
  refine lv_iconst (v := (-1 : Int32)) hx hb dX8_readMap_96 (by decide) ?_
  refine lv_icmp_ne (tgt := 117) hx hb dX8_readMap_97 (by decide) (fun c23 => ?_) (fun c23 => ?_)
  · replace hf := ite_f c23 hf
    exact w8_readMap_117 (n := n)  C hr hk q22 q199 hf hP hS (lv_sub hl [1, 2, 3, 4, 5, 6, 7, 8, 9, 10, 11, 0] rfl)
  · replace hf := ite_t c23 hf
    refine lv_iload hx hb dX8_readMap_100 (lv_at hl 11 rfl) ?_
    refine lv_if_ne (tgt := 117) hx hb dX8_readMap_102 (by decide) (fun c24 => ?_) (fun c24 => ?_)
    · replace hf := ite_f c24 hf
      exact w8_readMap_117 (n := n)  C hr hk q22 q199 hf hP hS (lv_sub hl [1, 2, 3, 4, 5, 6, 7, 8, 9, 10, 11, 0] rfl)
    · replace hf := ite_t c24 hf
      refine lv_iload hx hb dX8_readMap_105 (lv_at hl 0 rfl) ?_
      refine lv_if_ne (tgt := 117) hx hb dX8_readMap_107 (by decide) (fun c25 => ?_) (fun c25 => ?_)
      · replace hf := ite_f c25 hf
        exact w8_readMap_117 (n := n)  C hr hk q22 q199 hf hP hS (lv_sub hl [1, 2, 3, 4, 5, 6, 7, 8, 9, 10, 11, 0] rfl)
      · replace hf := ite_t c25 hf
        refine lv_iconst (v := (1 : Int32)) hx hb dX8_readMap_110 (by decide) ?_
        refine lv_iload hx hb dX8_readMap_111 (lv_at hl 8 rfl) ?_
        obtain ⟨r26, M27, h28, hf⟩ := bnd_s hf
        refine pcTi (As := [.int (1 : Int32), .int i7]) C hP hS (c11_faultAt  h28) y11_faultAt_w g_687 rfl rfl rfl ⟨Nat.le_of_ble_eq_true rfl, Nat.le_of_ble_eq_true rfl⟩ hl.1 rfl (Nat.le_of_ble_eq_true rfl) dX8_readMap_113 ⟨Nat.le_of_ble_eq_true rfl, Nat.le_of_ble_eq_true rfl⟩ (fun H locs hP hS => ?_)
        exact prI C hr hk hP hS hf dX8_readMap_116
set_option maxHeartbeats 4000000 in
set_option maxRecDepth 100000 in
theorem w8_readMap_91 {p : Program} {l : Launch} {e : Env} {s : State} {m : MethodId} {args : Array Value} {below : List Frame} {meth : Method} {c : Code} {z : Zt} {b : Nat}  (C : Cx p s m args c cX8_readMap 13 RX8 z 339 b) (hr : meth.sig.returnType = (some .int)) (hk : meth.locks = false) {r : Int32} {M' : Mem} {rc : Nat → List Int32 → List Int64 → Mem → Option (Int32 × Mem)} {n : Nat} (q22 : ∀ (i2 : Int32) (i3 : Int32) (i4 : Int32) (i5 : Int32) (i6 : Int32) (i7 : Int32) (M : Mem) (H : Heap) (locs : List Loc) (ls : Array Slot), rc 22 [i2, i3, i4, i5, i6, i7] [] M = some (r, M') → va_P z.1 vwCl (pw (xd z b) 339 b M) H → va_S (pA 339 b) s.heap H locs → lv_has ls 13 [(0, .ref (b + 3)), (1, .ref (b + 1)), (2, .int i2), (3, .int i3), (4, .int i4), (5, .int i5), (6, .int i6), (7, .int i7)] → W p l e rm8_readMap s m args below meth c H locs 0 0 (MQ below (va_Qi (fun (r' : Int32) (M2 : Mem) => r' = r ∧ M2 = M') (fun M2 t => va_P z.1 vwCl (pw (xd z b) 339 b M2) t.heap) (pA 339 b)) args s 0 0 (pA 339 b)) (F0 m 22 ls [])) (q199 : ∀ (i2 : Int32) (i3 : Int32) (i4 : Int32) (i6 : Int32) (i7 : Int32) (i9 : Int32) (i12 : Int32) (M : Mem) (H : Heap) (locs : List Loc) (ls : Array Slot), rc 199 [i2, i3, i4, i6, i7, i9, i12] [] M = some (r, M') → va_P z.1 vwCl (pw (xd z b) 339 b M) H → va_S (pA 339 b) s.heap H locs → lv_has ls 13 [(0, .ref (b + 3)), (1, .ref (b + 1)), (2, .int i2), (3, .int i3), (4, .int i4), (6, .int i6), (7, .int i7), (9, .int i9), (12, .int i12)] → W p l e rm8_readMap s m args below meth c H locs 0 0 (MQ below (va_Qi (fun (r' : Int32) (M2 : Mem) => r' = r ∧ M2 = M') (fun M2 t => va_P z.1 vwCl (pw (xd z b) 339 b M2) t.heap) (pA 339 b)) args s 0 0 (pA 339 b)) (F0 m 199 ls [])) {i2 : Int32} {i3 : Int32} {i4 : Int32} {i5 : Int32} {i6 : Int32} {i7 : Int32} {i8 : Int32} {i9 : Int32} {i10 : Int32} {M : Mem} {H : Heap} {locs : List Loc} {ls : Array Slot} (hf : b8_readMap_91  rc n i2 i3 i4 i5 i6 i7 i8 i9 i10 M = some (r, M')) (hP : va_P z.1 vwCl (pw (xd z b) 339 b M) H) (hS : va_S (pA 339 b) s.heap H locs) (hl : lv_has ls 13 [(0, .ref (b + 3)), (1, .ref (b + 1)), (2, .int i2), (3, .int i3), (4, .int i4), (5, .int i5), (6, .int i6), (7, .int i7), (8, .int i8), (9, .int i9), (10, .int i10)]) : W p l e rm8_readMap s m args below meth c H locs 0 0 (MQ below (va_Qi (fun (r' : Int32) (M2 : Mem) => r' = r ∧ M2 = M') (fun M2 t => va_P z.1 vwCl (pw (xd z b) 339 b M2) t.heap) (pA 339 b)) args s 0 0 (pA 339 b)) (F0 m 91 ls []) := by
  have hx := C.1.1
  have hb := C.1.2.1
  unfold b8_readMap_91 at hf
  refine lv_iconst (v := (0 : Int32)) hx hb dX8_readMap_91 (by decide) ?_
  exact w8_readMap_92 (n := n)  C hr hk q22 q199 hf hP hS (lv_sub hl [0, 1, 2, 3, 4, 5, 6, 7, 8, 9, 10] rfl)
set_option maxHeartbeats 4000000 in
set_option maxRecDepth 100000 in
theorem w8_readMap_68 {p : Program} {l : Launch} {e : Env} {s : State} {m : MethodId} {args : Array Value} {below : List Frame} {meth : Method} {c : Code} {z : Zt} {b : Nat}  (C : Cx p s m args c cX8_readMap 13 RX8 z 339 b) (hr : meth.sig.returnType = (some .int)) (hk : meth.locks = false) {r : Int32} {M' : Mem} {rc : Nat → List Int32 → List Int64 → Mem → Option (Int32 × Mem)} {n : Nat} (q22 : ∀ (i2 : Int32) (i3 : Int32) (i4 : Int32) (i5 : Int32) (i6 : Int32) (i7 : Int32) (M : Mem) (H : Heap) (locs : List Loc) (ls : Array Slot), rc 22 [i2, i3, i4, i5, i6, i7] [] M = some (r, M') → va_P z.1 vwCl (pw (xd z b) 339 b M) H → va_S (pA 339 b) s.heap H locs → lv_has ls 13 [(0, .ref (b + 3)), (1, .ref (b + 1)), (2, .int i2), (3, .int i3), (4, .int i4), (5, .int i5), (6, .int i6), (7, .int i7)] → W p l e rm8_readMap s m args below meth c H locs 0 0 (MQ below (va_Qi (fun (r' : Int32) (M2 : Mem) => r' = r ∧ M2 = M') (fun M2 t => va_P z.1 vwCl (pw (xd z b) 339 b M2) t.heap) (pA 339 b)) args s 0 0 (pA 339 b)) (F0 m 22 ls [])) (q199 : ∀ (i2 : Int32) (i3 : Int32) (i4 : Int32) (i6 : Int32) (i7 : Int32) (i9 : Int32) (i12 : Int32) (M : Mem) (H : Heap) (locs : List Loc) (ls : Array Slot), rc 199 [i2, i3, i4, i6, i7, i9, i12] [] M = some (r, M') → va_P z.1 vwCl (pw (xd z b) 339 b M) H → va_S (pA 339 b) s.heap H locs → lv_has ls 13 [(0, .ref (b + 3)), (1, .ref (b + 1)), (2, .int i2), (3, .int i3), (4, .int i4), (6, .int i6), (7, .int i7), (9, .int i9), (12, .int i12)] → W p l e rm8_readMap s m args below meth c H locs 0 0 (MQ below (va_Qi (fun (r' : Int32) (M2 : Mem) => r' = r ∧ M2 = M') (fun M2 t => va_P z.1 vwCl (pw (xd z b) 339 b M2) t.heap) (pA 339 b)) args s 0 0 (pA 339 b)) (F0 m 199 ls [])) {i2 : Int32} {i3 : Int32} {i4 : Int32} {i5 : Int32} {i6 : Int32} {i7 : Int32} {i8 : Int32} {i9 : Int32} {s0 : Int32} {M : Mem} {H : Heap} {locs : List Loc} {ls : Array Slot} (hf : b8_readMap_68  rc n i2 i3 i4 i5 i6 i7 i8 i9 s0 M = some (r, M')) (hP : va_P z.1 vwCl (pw (xd z b) 339 b M) H) (hS : va_S (pA 339 b) s.heap H locs) (hl : lv_has ls 13 [(0, .ref (b + 3)), (1, .ref (b + 1)), (2, .int i2), (3, .int i3), (4, .int i4), (5, .int i5), (6, .int i6), (7, .int i7), (8, .int i8), (9, .int i9)]) : W p l e rm8_readMap s m args below meth c H locs 0 0 (MQ below (va_Qi (fun (r' : Int32) (M2 : Mem) => r' = r ∧ M2 = M') (fun M2 t => va_P z.1 vwCl (pw (xd z b) 339 b M2) t.heap) (pA 339 b)) args s 0 0 (pA 339 b)) (F0 m 68 ls [.int s0]) := by
  have hx := C.1.1
  have hb := C.1.2.1
  unfold b8_readMap_68 at hf
  refine lv_istore (lv' := [(10, .int s0), (0, .ref (b + 3)), (1, .ref (b + 1)), (2, .int i2), (3, .int i3), (4, .int i4), (5, .int i5), (6, .int i6), (7, .int i7), (8, .int i8), (9, .int i9)]) hx hb dX8_readMap_68 hl (by decide) rfl (fun ls hl => ?_)
  refine lv_iload hx hb dX8_readMap_70 (lv_at hl 9 rfl) ?_
  refine lv_bipush (v := (47 : Int32)) hx hb dX8_readMap_72 (by decide) ?_
  refine lv_icmp_ne (tgt := 91) hx hb dX8_readMap_74 (by decide) (fun c20 => ?_) (fun c20 => ?_)
  · replace hf := ite_f c20 hf
    exact w8_readMap_91 (n := n)  C hr hk q22 q199 hf hP hS (lv_sub hl [1, 2, 3, 4, 5, 6, 7, 8, 9, 10, 0] rfl)
  · replace hf := ite_t c20 hf
    refine lv_iload hx hb dX8_readMap_77 (lv_at hl 5 rfl) ?_
    refine lv_if_le (tgt := 91) hx hb dX8_readMap_79 (by decide) (fun c21 => ?_) (fun c21 => ?_)
    · replace hf := ite_t c21 hf
      exact w8_readMap_91 (n := n)  C hr hk q22 q199 hf hP hS (lv_sub hl [1, 2, 3, 4, 5, 6, 7, 8, 9, 10, 0] rfl)
    · replace hf := ite_f c21 hf
      refine lv_iload hx hb dX8_readMap_82 (lv_at hl 6 rfl) ?_
      refine lv_if_ne (tgt := 91) hx hb dX8_readMap_84 (by decide) (fun c22 => ?_) (fun c22 => ?_)
      · replace hf := ite_f c22 hf
        exact w8_readMap_91 (n := n)  C hr hk q22 q199 hf hP hS (lv_sub hl [1, 2, 3, 4, 5, 6, 7, 8, 9, 10, 0] rfl)
      · replace hf := ite_t c22 hf
        refine lv_iconst (v := (1 : Int32)) hx hb dX8_readMap_87 (by decide) ?_
        refine lv_goto (tgt := 92) hx hb dX8_readMap_88 (by decide) ?_
        exact w8_readMap_92 (n := n)  C hr hk q22 q199 hf hP hS (lv_sub hl [1, 2, 3, 4, 5, 6, 7, 8, 9, 10, 0] rfl)
set_option maxHeartbeats 4000000 in
set_option maxRecDepth 100000 in
theorem w8_readMap_67 {p : Program} {l : Launch} {e : Env} {s : State} {m : MethodId} {args : Array Value} {below : List Frame} {meth : Method} {c : Code} {z : Zt} {b : Nat}  (C : Cx p s m args c cX8_readMap 13 RX8 z 339 b) (hr : meth.sig.returnType = (some .int)) (hk : meth.locks = false) {r : Int32} {M' : Mem} {rc : Nat → List Int32 → List Int64 → Mem → Option (Int32 × Mem)} {n : Nat} (q22 : ∀ (i2 : Int32) (i3 : Int32) (i4 : Int32) (i5 : Int32) (i6 : Int32) (i7 : Int32) (M : Mem) (H : Heap) (locs : List Loc) (ls : Array Slot), rc 22 [i2, i3, i4, i5, i6, i7] [] M = some (r, M') → va_P z.1 vwCl (pw (xd z b) 339 b M) H → va_S (pA 339 b) s.heap H locs → lv_has ls 13 [(0, .ref (b + 3)), (1, .ref (b + 1)), (2, .int i2), (3, .int i3), (4, .int i4), (5, .int i5), (6, .int i6), (7, .int i7)] → W p l e rm8_readMap s m args below meth c H locs 0 0 (MQ below (va_Qi (fun (r' : Int32) (M2 : Mem) => r' = r ∧ M2 = M') (fun M2 t => va_P z.1 vwCl (pw (xd z b) 339 b M2) t.heap) (pA 339 b)) args s 0 0 (pA 339 b)) (F0 m 22 ls [])) (q199 : ∀ (i2 : Int32) (i3 : Int32) (i4 : Int32) (i6 : Int32) (i7 : Int32) (i9 : Int32) (i12 : Int32) (M : Mem) (H : Heap) (locs : List Loc) (ls : Array Slot), rc 199 [i2, i3, i4, i6, i7, i9, i12] [] M = some (r, M') → va_P z.1 vwCl (pw (xd z b) 339 b M) H → va_S (pA 339 b) s.heap H locs → lv_has ls 13 [(0, .ref (b + 3)), (1, .ref (b + 1)), (2, .int i2), (3, .int i3), (4, .int i4), (6, .int i6), (7, .int i7), (9, .int i9), (12, .int i12)] → W p l e rm8_readMap s m args below meth c H locs 0 0 (MQ below (va_Qi (fun (r' : Int32) (M2 : Mem) => r' = r ∧ M2 = M') (fun M2 t => va_P z.1 vwCl (pw (xd z b) 339 b M2) t.heap) (pA 339 b)) args s 0 0 (pA 339 b)) (F0 m 199 ls [])) {i2 : Int32} {i3 : Int32} {i4 : Int32} {i5 : Int32} {i6 : Int32} {i7 : Int32} {i8 : Int32} {i9 : Int32} {M : Mem} {H : Heap} {locs : List Loc} {ls : Array Slot} (hf : b8_readMap_67  rc n i2 i3 i4 i5 i6 i7 i8 i9 M = some (r, M')) (hP : va_P z.1 vwCl (pw (xd z b) 339 b M) H) (hS : va_S (pA 339 b) s.heap H locs) (hl : lv_has ls 13 [(0, .ref (b + 3)), (1, .ref (b + 1)), (2, .int i2), (3, .int i3), (4, .int i4), (5, .int i5), (6, .int i6), (7, .int i7), (8, .int i8), (9, .int i9)]) : W p l e rm8_readMap s m args below meth c H locs 0 0 (MQ below (va_Qi (fun (r' : Int32) (M2 : Mem) => r' = r ∧ M2 = M') (fun M2 t => va_P z.1 vwCl (pw (xd z b) 339 b M2) t.heap) (pA 339 b)) args s 0 0 (pA 339 b)) (F0 m 67 ls []) := by
  have hx := C.1.1
  have hb := C.1.2.1
  unfold b8_readMap_67 at hf
  refine lv_iconst (v := (0 : Int32)) hx hb dX8_readMap_67 (by decide) ?_
  exact w8_readMap_68 (n := n)  C hr hk q22 q199 hf hP hS (lv_sub hl [0, 1, 2, 3, 4, 5, 6, 7, 8, 9] rfl)
set_option maxHeartbeats 4000000 in
set_option maxRecDepth 100000 in
theorem w8_readMap_22 {p : Program} {l : Launch} {e : Env} {s : State} {m : MethodId} {args : Array Value} {below : List Frame} {meth : Method} {c : Code} {z : Zt} {b : Nat}  (C : Cx p s m args c cX8_readMap 13 RX8 z 339 b) (hr : meth.sig.returnType = (some .int)) (hk : meth.locks = false) {r : Int32} {M' : Mem} {rc : Nat → List Int32 → List Int64 → Mem → Option (Int32 × Mem)} {n : Nat} (q22 : ∀ (i2 : Int32) (i3 : Int32) (i4 : Int32) (i5 : Int32) (i6 : Int32) (i7 : Int32) (M : Mem) (H : Heap) (locs : List Loc) (ls : Array Slot), rc 22 [i2, i3, i4, i5, i6, i7] [] M = some (r, M') → va_P z.1 vwCl (pw (xd z b) 339 b M) H → va_S (pA 339 b) s.heap H locs → lv_has ls 13 [(0, .ref (b + 3)), (1, .ref (b + 1)), (2, .int i2), (3, .int i3), (4, .int i4), (5, .int i5), (6, .int i6), (7, .int i7)] → W p l e rm8_readMap s m args below meth c H locs 0 0 (MQ below (va_Qi (fun (r' : Int32) (M2 : Mem) => r' = r ∧ M2 = M') (fun M2 t => va_P z.1 vwCl (pw (xd z b) 339 b M2) t.heap) (pA 339 b)) args s 0 0 (pA 339 b)) (F0 m 22 ls [])) (q199 : ∀ (i2 : Int32) (i3 : Int32) (i4 : Int32) (i6 : Int32) (i7 : Int32) (i9 : Int32) (i12 : Int32) (M : Mem) (H : Heap) (locs : List Loc) (ls : Array Slot), rc 199 [i2, i3, i4, i6, i7, i9, i12] [] M = some (r, M') → va_P z.1 vwCl (pw (xd z b) 339 b M) H → va_S (pA 339 b) s.heap H locs → lv_has ls 13 [(0, .ref (b + 3)), (1, .ref (b + 1)), (2, .int i2), (3, .int i3), (4, .int i4), (6, .int i6), (7, .int i7), (9, .int i9), (12, .int i12)] → W p l e rm8_readMap s m args below meth c H locs 0 0 (MQ below (va_Qi (fun (r' : Int32) (M2 : Mem) => r' = r ∧ M2 = M') (fun M2 t => va_P z.1 vwCl (pw (xd z b) 339 b M2) t.heap) (pA 339 b)) args s 0 0 (pA 339 b)) (F0 m 199 ls [])) {i2 : Int32} {i3 : Int32} {i4 : Int32} {i5 : Int32} {i6 : Int32} {i7 : Int32} {M : Mem} {H : Heap} {locs : List Loc} {ls : Array Slot} (hf : b8_readMap_22  rc n i2 i3 i4 i5 i6 i7 M = some (r, M')) (hP : va_P z.1 vwCl (pw (xd z b) 339 b M) H) (hS : va_S (pA 339 b) s.heap H locs) (hl : lv_has ls 13 [(0, .ref (b + 3)), (1, .ref (b + 1)), (2, .int i2), (3, .int i3), (4, .int i4), (5, .int i5), (6, .int i6), (7, .int i7)]) : W p l e rm8_readMap s m args below meth c H locs 0 0 (MQ below (va_Qi (fun (r' : Int32) (M2 : Mem) => r' = r ∧ M2 = M') (fun M2 t => va_P z.1 vwCl (pw (xd z b) 339 b M2) t.heap) (pA 339 b)) args s 0 0 (pA 339 b)) (F0 m 22 ls []) := by
  have hx := C.1.1
  have hb := C.1.2.1
  unfold b8_readMap_22 at hf
  refine lv_iload hx hb dX8_readMap_22 (lv_at hl 7 rfl) ?_
  refine lv_iload_n hx hb dX8_readMap_24 rfl (lv_at hl 2 rfl) ?_
  refine lv_icmp_ge (tgt := 235) hx hb dX8_readMap_25 (by decide) (fun c4 => ?_) (fun c4 => ?_)
  · replace hf := ite_t c4 hf
    refine lv_iload hx hb dX8_readMap_235 (lv_at hl 4 rfl) ?_
    refine lv_if_eq (tgt := 245) hx hb dX8_readMap_237 (by decide) (fun c5 => ?_) (fun c5 => ?_)
    · replace hf := ite_t c5 hf
      exact w8_readMap_245 (n := n)  C hr hk q22 q199 hf hP hS (lv_sub hl [2] rfl)
    · replace hf := ite_f c5 hf
      refine lv_iload hx hb dX8_readMap_240 (lv_at hl 5 rfl) ?_
      refine lv_if_le (tgt := 251) hx hb dX8_readMap_242 (by decide) (fun c6 => ?_) (fun c6 => ?_)
      · replace hf := ite_t c6 hf
        refine lv_aload_n hx hb dX8_readMap_251 rfl (lv_at hl 0 rfl) ?_
        refine pg C hP (k := 3) (j := 1) (Nat.le_of_ble_eq_true rfl) (xd_3 _ _) rfl iw_8 (Nat.le_of_ble_eq_true rfl) g_71 rfl rfl dX8_readMap_252 ?_
        refine lv_iconst (v := (0 : Int32)) hx hb dX8_readMap_255 (by decide) ?_
        refine lv_aload_n hx hb dX8_readMap_256 rfl (lv_at hl 0 rfl) ?_
        refine pg C hP (k := 3) (j := 0) (Nat.le_of_ble_eq_true rfl) (xd_3 _ _) rfl iw_8 (Nat.le_of_ble_eq_true rfl) g_70 rfl rfl dX8_readMap_257 ?_
        refine lv_iconst (v := (0 : Int32)) hx hb dX8_readMap_260 (by decide) ?_
        refine lv_bipush (v := (96 : Int32)) hx hb dX8_readMap_261 (by decide) ?_
        refine pcopy C hP hS (k0 := 5) (k1 := 4) (by rw [C.1.2.2.1]; exact hl.1.symm) g_689 g_673 g_672 g_21 (Nat.le_of_ble_eq_true rfl) (Nat.le_of_ble_eq_true rfl) (xd_5) (xd_4) (by decide) (by decide) (by decide) (by decide) (by decide) (Nat.le_of_ble_eq_true rfl) (Nat.le_of_ble_eq_true rfl) dX8_readMap_263 (fun M7 H locs eM7 hP hS => ?_)
        replace hf := lt_c eM7 hf
        refine lv_aload_n hx hb dX8_readMap_266 rfl (lv_at hl 0 rfl) ?_
        obtain ⟨r8, M9, h10, hf⟩ := bnd_s hf
        refine pcVv (As := []) C hP hS (k := 3) (Nat.le_of_ble_eq_true rfl) (xd_3 _ _) rfl (c8_refresh  h10) y8_refresh_w g_690 rfl rfl rfl ⟨Nat.le_of_ble_eq_true rfl, Nat.le_of_ble_eq_true rfl⟩ hl.1 rfl (Nat.le_of_ble_eq_true rfl) dX8_readMap_267 ⟨Nat.le_of_ble_eq_true rfl, Nat.le_of_ble_eq_true rfl⟩ (fun H locs hP hS => ?_)
        refine lv_iload_n hx hb dX8_readMap_270 rfl (lv_at hl 3 rfl) ?_
        refine lv_iconst (v := (1 : Int32)) hx hb dX8_readMap_271 (by decide) ?_
        refine lv_iadd hx hb dX8_readMap_272 ?_
        exact prI C hr hk hP hS hf dX8_readMap_273
      · replace hf := ite_f c6 hf
        exact w8_readMap_245 (n := n)  C hr hk q22 q199 hf hP hS (lv_sub hl [2] rfl)
  · replace hf := ite_f c4 hf
    refine lv_aload_n hx hb dX8_readMap_28 rfl (lv_at hl 1 rfl) ?_
    refine lv_iload hx hb dX8_readMap_29 (lv_at hl 7 rfl) ?_
    refine lv_iload_n hx hb dX8_readMap_31 rfl (lv_at hl 2 rfl) ?_
    obtain ⟨r11, M12, h13, hf⟩ := bnd_s hf
    refine pcVi (As := [.int i7, .int i2]) C hP hS (k := 1) (Nat.le_of_ble_eq_true rfl) (xd_1 _ _) rfl (c7_at  h13) y7_at_w g_683 rfl rfl rfl ⟨Nat.le_of_ble_eq_true rfl, Nat.le_of_ble_eq_true rfl⟩ hl.1 rfl (Nat.le_of_ble_eq_true rfl) dX8_readMap_32 ⟨Nat.le_of_ble_eq_true rfl, Nat.le_of_ble_eq_true rfl⟩ (fun H locs hP hS => ?_)
    refine lv_istore (lv' := [(8, .int r11), (0, .ref (b + 3)), (1, .ref (b + 1)), (2, .int i2), (3, .int i3), (4, .int i4), (5, .int i5), (6, .int i6), (7, .int i7)]) hx hb dX8_readMap_35 hl (by decide) rfl (fun ls hl => ?_)
    refine lv_iload hx hb dX8_readMap_37 (lv_at hl 0 rfl) ?_
    obtain ⟨r14, M15, h16, hf⟩ := bnd_s hf
    refine pcSi (As := [.int r11]) C hP hS (c8_kindBySign  h16) y8_kindBySign_w g_684 rfl rfl rfl ⟨Nat.le_of_ble_eq_true rfl, Nat.le_of_ble_eq_true rfl⟩ hl.1 rfl (Nat.le_of_ble_eq_true rfl) dX8_readMap_39 ⟨Nat.le_of_ble_eq_true rfl, Nat.le_of_ble_eq_true rfl⟩ (fun H locs hP hS => ?_)
    refine lv_istore (lv' := [(9, .int r14), (8, .int r11), (0, .ref (b + 3)), (1, .ref (b + 1)), (2, .int i2), (3, .int i3), (4, .int i4), (5, .int i5), (6, .int i6), (7, .int i7)]) hx hb dX8_readMap_42 hl (by decide) rfl (fun ls hl => ?_)
    refine lv_iload hx hb dX8_readMap_44 (lv_at hl 7 rfl) ?_
    refine lv_if_ne (tgt := 67) hx hb dX8_readMap_46 (by decide) (fun c17 => ?_) (fun c17 => ?_)
    · replace hf := ite_f c17 hf
      exact w8_readMap_67 (n := n)  C hr hk q22 q199 hf hP hS (lv_sub hl [2, 3, 4, 5, 6, 7, 8, 9, 1, 0] rfl)
    · replace hf := ite_t c17 hf
      refine lv_iload hx hb dX8_readMap_49 (lv_at hl 1 rfl) ?_
      refine lv_bipush (v := (50 : Int32)) hx hb dX8_readMap_51 (by decide) ?_
      refine lv_icmp_lt (tgt := 67) hx hb dX8_readMap_53 (by decide) (fun c18 => ?_) (fun c18 => ?_)
      · replace hf := ite_t c18 hf
        exact w8_readMap_67 (n := n)  C hr hk q22 q199 hf hP hS (lv_sub hl [2, 3, 4, 5, 6, 7, 8, 9, 1, 0] rfl)
      · replace hf := ite_f c18 hf
        refine lv_iload hx hb dX8_readMap_56 (lv_at hl 1 rfl) ?_
        refine lv_bipush (v := (57 : Int32)) hx hb dX8_readMap_58 (by decide) ?_
        refine lv_icmp_gt (tgt := 67) hx hb dX8_readMap_60 (by decide) (fun c19 => ?_) (fun c19 => ?_)
        · replace hf := ite_t c19 hf
          exact w8_readMap_67 (n := n)  C hr hk q22 q199 hf hP hS (lv_sub hl [2, 3, 4, 5, 6, 7, 8, 9, 1, 0] rfl)
        · replace hf := ite_f c19 hf
          refine lv_iconst (v := (1 : Int32)) hx hb dX8_readMap_63 (by decide) ?_
          refine lv_goto (tgt := 68) hx hb dX8_readMap_64 (by decide) ?_
          exact w8_readMap_68 (n := n)  C hr hk q22 q199 hf hP hS (lv_sub hl [2, 3, 4, 5, 6, 7, 8, 9, 1, 0] rfl)
set_option maxHeartbeats 4000000 in
set_option maxRecDepth 100000 in
theorem w8_readMap_0 {p : Program} {l : Launch} {e : Env} {s : State} {m : MethodId} {args : Array Value} {below : List Frame} {meth : Method} {c : Code} {z : Zt} {b : Nat}  (C : Cx p s m args c cX8_readMap 13 RX8 z 339 b) (hr : meth.sig.returnType = (some .int)) (hk : meth.locks = false) {r : Int32} {M' : Mem} {rc : Nat → List Int32 → List Int64 → Mem → Option (Int32 × Mem)} {n : Nat} (q22 : ∀ (i2 : Int32) (i3 : Int32) (i4 : Int32) (i5 : Int32) (i6 : Int32) (i7 : Int32) (M : Mem) (H : Heap) (locs : List Loc) (ls : Array Slot), rc 22 [i2, i3, i4, i5, i6, i7] [] M = some (r, M') → va_P z.1 vwCl (pw (xd z b) 339 b M) H → va_S (pA 339 b) s.heap H locs → lv_has ls 13 [(0, .ref (b + 3)), (1, .ref (b + 1)), (2, .int i2), (3, .int i3), (4, .int i4), (5, .int i5), (6, .int i6), (7, .int i7)] → W p l e rm8_readMap s m args below meth c H locs 0 0 (MQ below (va_Qi (fun (r' : Int32) (M2 : Mem) => r' = r ∧ M2 = M') (fun M2 t => va_P z.1 vwCl (pw (xd z b) 339 b M2) t.heap) (pA 339 b)) args s 0 0 (pA 339 b)) (F0 m 22 ls [])) (q199 : ∀ (i2 : Int32) (i3 : Int32) (i4 : Int32) (i6 : Int32) (i7 : Int32) (i9 : Int32) (i12 : Int32) (M : Mem) (H : Heap) (locs : List Loc) (ls : Array Slot), rc 199 [i2, i3, i4, i6, i7, i9, i12] [] M = some (r, M') → va_P z.1 vwCl (pw (xd z b) 339 b M) H → va_S (pA 339 b) s.heap H locs → lv_has ls 13 [(0, .ref (b + 3)), (1, .ref (b + 1)), (2, .int i2), (3, .int i3), (4, .int i4), (6, .int i6), (7, .int i7), (9, .int i9), (12, .int i12)] → W p l e rm8_readMap s m args below meth c H locs 0 0 (MQ below (va_Qi (fun (r' : Int32) (M2 : Mem) => r' = r ∧ M2 = M') (fun M2 t => va_P z.1 vwCl (pw (xd z b) 339 b M2) t.heap) (pA 339 b)) args s 0 0 (pA 339 b)) (F0 m 199 ls [])) {a2 : Int32} {M : Mem} {H : Heap} {locs : List Loc} {ls : Array Slot} (hf : b8_readMap_0  rc n a2 M = some (r, M')) (hP : va_P z.1 vwCl (pw (xd z b) 339 b M) H) (hS : va_S (pA 339 b) s.heap H locs) (hl : lv_has ls 13 [(0, .ref (b + 3)), (1, .ref (b + 1)), (2, .int a2)]) : W p l e rm8_readMap s m args below meth c H locs 0 0 (MQ below (va_Qi (fun (r' : Int32) (M2 : Mem) => r' = r ∧ M2 = M') (fun M2 t => va_P z.1 vwCl (pw (xd z b) 339 b M2) t.heap) (pA 339 b)) args s 0 0 (pA 339 b)) (F0 m 0 ls []) := by
  have hx := C.1.1
  have hb := C.1.2.1
  unfold b8_readMap_0 at hf
  refine lv_aload_n hx hb dX8_readMap_0 rfl (lv_at hl 0 rfl) ?_
  refine pg C hP (k := 3) (j := 1) (Nat.le_of_ble_eq_true rfl) (xd_3 _ _) rfl iw_8 (Nat.le_of_ble_eq_true rfl) g_71 rfl rfl dX8_readMap_1 ?_
  refine lv_iconst (v := (2 : Int32)) hx hb dX8_readMap_4 (by decide) ?_
  obtain ⟨r1, M2, h3, hf⟩ := bnd_s hf
  refine pcSv (As := [.ref (b + 5), .int (2 : Int32)]) C hP hS (cZJ7_fill_53178 ⟨(Nat.le_of_ble_eq_true rfl), xd_5⟩ h3) yZJ7_fill_53178_w g_67 rfl rfl rfl ⟨Nat.le_of_ble_eq_true rfl, Nat.le_of_ble_eq_true rfl⟩ hl.1 rfl (Nat.le_of_ble_eq_true rfl) dX8_readMap_5 ⟨Nat.le_of_ble_eq_true rfl, Nat.le_of_ble_eq_true rfl⟩ (fun H locs hP hS => ?_)
  refine lv_iconst (v := (0 : Int32)) hx hb dX8_readMap_8 (by decide) ?_
  refine lv_istore_n (lv' := [(3, .int (0 : Int32)), (0, .ref (b + 3)), (1, .ref (b + 1)), (2, .int a2)]) hx hb dX8_readMap_9 rfl hl (by decide) rfl (fun ls hl => ?_)
  refine lv_iconst (v := (0 : Int32)) hx hb dX8_readMap_10 (by decide) ?_
  refine lv_istore (lv' := [(4, .int (0 : Int32)), (3, .int (0 : Int32)), (0, .ref (b + 3)), (1, .ref (b + 1)), (2, .int a2)]) hx hb dX8_readMap_11 hl (by decide) rfl (fun ls hl => ?_)
  refine lv_iconst (v := (0 : Int32)) hx hb dX8_readMap_13 (by decide) ?_
  refine lv_istore (lv' := [(5, .int (0 : Int32)), (4, .int (0 : Int32)), (3, .int (0 : Int32)), (0, .ref (b + 3)), (1, .ref (b + 1)), (2, .int a2)]) hx hb dX8_readMap_14 hl (by decide) rfl (fun ls hl => ?_)
  refine lv_iconst (v := (0 : Int32)) hx hb dX8_readMap_16 (by decide) ?_
  refine lv_istore (lv' := [(6, .int (0 : Int32)), (5, .int (0 : Int32)), (4, .int (0 : Int32)), (3, .int (0 : Int32)), (0, .ref (b + 3)), (1, .ref (b + 1)), (2, .int a2)]) hx hb dX8_readMap_17 hl (by decide) rfl (fun ls hl => ?_)
  refine lv_iconst (v := (0 : Int32)) hx hb dX8_readMap_19 (by decide) ?_
  refine lv_istore (lv' := [(7, .int (0 : Int32)), (6, .int (0 : Int32)), (5, .int (0 : Int32)), (4, .int (0 : Int32)), (3, .int (0 : Int32)), (0, .ref (b + 3)), (1, .ref (b + 1)), (2, .int a2)]) hx hb dX8_readMap_20 hl (by decide) rfl (fun ls hl => ?_)
  exact w8_readMap_22 (n := n)  C hr hk q22 q199 hf hP hS (lv_sub hl [5, 6, 7, 4, 3, 2, 1, 0] rfl)
set_option maxHeartbeats 4000000 in
set_option maxRecDepth 100000 in
theorem l8_readMap {p : Program} {l : Launch} {e : Env} {s : State} {m : MethodId} {args : Array Value} {below : List Frame} {meth : Method} {c : Code} {z : Zt} {b : Nat}  (C : Cx p s m args c cX8_readMap 13 RX8 z 339 b) (hr : meth.sig.returnType = (some .int)) (hk : meth.locks = false) {r : Int32} {M' : Mem} (n : Nat) : (∀ (i2 : Int32) (i3 : Int32) (i4 : Int32) (i5 : Int32) (i6 : Int32) (i7 : Int32) (M : Mem) (H : Heap) (locs : List Loc) (ls : Array Slot), (r8_readMap  n) 22 [i2, i3, i4, i5, i6, i7] [] M = some (r, M') → va_P z.1 vwCl (pw (xd z b) 339 b M) H → va_S (pA 339 b) s.heap H locs → lv_has ls 13 [(0, .ref (b + 3)), (1, .ref (b + 1)), (2, .int i2), (3, .int i3), (4, .int i4), (5, .int i5), (6, .int i6), (7, .int i7)] → W p l e rm8_readMap s m args below meth c H locs 0 0 (MQ below (va_Qi (fun (r' : Int32) (M2 : Mem) => r' = r ∧ M2 = M') (fun M2 t => va_P z.1 vwCl (pw (xd z b) 339 b M2) t.heap) (pA 339 b)) args s 0 0 (pA 339 b)) (F0 m 22 ls [])) ∧ (∀ (i2 : Int32) (i3 : Int32) (i4 : Int32) (i6 : Int32) (i7 : Int32) (i9 : Int32) (i12 : Int32) (M : Mem) (H : Heap) (locs : List Loc) (ls : Array Slot), (r8_readMap  n) 199 [i2, i3, i4, i6, i7, i9, i12] [] M = some (r, M') → va_P z.1 vwCl (pw (xd z b) 339 b M) H → va_S (pA 339 b) s.heap H locs → lv_has ls 13 [(0, .ref (b + 3)), (1, .ref (b + 1)), (2, .int i2), (3, .int i3), (4, .int i4), (6, .int i6), (7, .int i7), (9, .int i9), (12, .int i12)] → W p l e rm8_readMap s m args below meth c H locs 0 0 (MQ below (va_Qi (fun (r' : Int32) (M2 : Mem) => r' = r ∧ M2 = M') (fun M2 t => va_P z.1 vwCl (pw (xd z b) 339 b M2) t.heap) (pA 339 b)) args s 0 0 (pA 339 b)) (F0 m 199 ls [])) := by
  induction n with
  | zero => exact ⟨fun _ _ _ _ _ _ _ _ _ _ hf => (by cases hf), fun _ _ _ _ _ _ _ _ _ _ _ hf => (by cases hf)⟩
  | succ n ih => exact ⟨fun _ _ _ _ _ _ _ _ _ _ hf hP hS hl => w8_readMap_22 (n := n)  C hr hk ih.1 ih.2 ((e8_readMap_22  n _ _ _ _ _ _ _).symm.trans hf) hP hS hl, fun _ _ _ _ _ _ _ _ _ _ _ hf hP hS hl => w8_readMap_199 (n := n)  C hr hk ih.1 ih.2 ((e8_readMap_199  n _ _ _ _ _ _ _ _).symm.trans hf) hP hS hl⟩
theorem c8_readMap {l : Launch} {z : Zt} {b n : Nat}  {a2 : Int32} {M M' : Mem} {r : Int32} (hf : f8_readMap n  a2 M = some (r, M')) : CI l z (xd z b) 339 b yX8_readMap cX8_readMap 13 (some .int) rm8_readMap [.ref (b + 3), .ref (b + 1), .int a2] M M' r :=
  CI.ofW (lv := [(0, .ref (b + 3)), (1, .ref (b + 1)), (2, .int a2)]) (by decide) (Nat.le_of_ble_eq_true rfl) rfl (fun p e s m args below meth c ls C hr hk hP hS hl => w8_readMap_0 (n := n)  C hr hk (l8_readMap  C hr hk n).1 (l8_readMap  C hr hk n).2 hf hP hS hl)

-- BronzeKing$Vigil.isWatched(I)Z
theorem dX9_isWatched_0 : decode cX9_isWatched 0 = .ok (.aload_n 0, 1) := by decide +kernel
theorem dX9_isWatched_1 : decode cX9_isWatched 1 = .ok (.getfield 15, 3) := by decide +kernel
theorem dX9_isWatched_4 : decode cX9_isWatched 4 = .ok (.iload_n 1, 1) := by decide +kernel
theorem dX9_isWatched_5 : decode cX9_isWatched 5 = .ok (.ishr, 1) := by decide +kernel
theorem dX9_isWatched_6 : decode cX9_isWatched 6 = .ok (.iconst 1, 1) := by decide +kernel
theorem dX9_isWatched_7 : decode cX9_isWatched 7 = .ok (.iand, 1) := by decide +kernel
theorem dX9_isWatched_8 : decode cX9_isWatched 8 = .ok (.ifCond .eq 7, 3) := by decide +kernel
theorem dX9_isWatched_11 : decode cX9_isWatched 11 = .ok (.iconst 1, 1) := by decide +kernel
theorem dX9_isWatched_12 : decode cX9_isWatched 12 = .ok (.goto 4, 3) := by decide +kernel
theorem dX9_isWatched_15 : decode cX9_isWatched 15 = .ok (.iconst 0, 1) := by decide +kernel
theorem dX9_isWatched_16 : decode cX9_isWatched 16 = .ok (.ireturn, 1) := by decide +kernel
def b9_isWatched_0 (rc : Nat → List Int32 → List Int64 → Mem → Option (Int32 × Mem)) (n : Nat) (a1 : Int32) (M : Mem) : Option (Int32 × Mem) :=
  (if (((M.1 25 2) >>> (a1 &&& 31)) &&& (1 : Int32)) = 0 then (
   some ((0 : Int32), M))
  else (
   some ((1 : Int32), M)))
def f9_isWatched (n : Nat) (a1 : Int32) (M : Mem) : Option (Int32 × Mem) := b9_isWatched_0 (fun _ _ _ _ => none) n a1 M
abbrev rm9_isWatched : Room := { frames := 0, cells := 0, slots := 0, locals := 0 }
theorem y9_isWatched_w : yV RX9 yX9_isWatched cX9_isWatched 2 (some .boolean) 1 := ⟨g_836, g_837, g_9, g_838, rfl, by decide, by decide, by decide +kernel⟩
set_option maxHeartbeats 4000000 in
set_option maxRecDepth 100000 in
theorem w9_isWatched_0 {p : Program} {l : Launch} {e : Env} {s : State} {m : MethodId} {args : Array Value} {below : List Frame} {meth : Method} {c : Code} {z : Zt} {b : Nat}  (C : Cx p s m args c cX9_isWatched 2 RX9 z 339 b) (hr : meth.sig.returnType = (some .boolean)) (hk : meth.locks = false) {r : Int32} {M' : Mem} {rc : Nat → List Int32 → List Int64 → Mem → Option (Int32 × Mem)} {n : Nat}  {a1 : Int32} {M : Mem} {H : Heap} {locs : List Loc} {ls : Array Slot} (hf : b9_isWatched_0  rc n a1 M = some (r, M')) (hP : va_P z.1 vwCl (pw (xd z b) 339 b M) H) (hS : va_S (pA 339 b) s.heap H locs) (hl : lv_has ls 2 [(0, .ref (b + 25)), (1, .int a1)]) : W p l e rm9_isWatched s m args below meth c H locs 0 0 (MQ below (va_Qi (fun (r' : Int32) (M2 : Mem) => r' = r ∧ M2 = M') (fun M2 t => va_P z.1 vwCl (pw (xd z b) 339 b M2) t.heap) (pA 339 b)) args s 0 0 (pA 339 b)) (F0 m 0 ls []) := by
  have hx := C.1.1
  have hb := C.1.2.1
  unfold b9_isWatched_0 at hf
  refine lv_aload_n hx hb dX9_isWatched_0 rfl (lv_at hl 0 rfl) ?_
  refine pg C hP (k := 25) (j := 2) (Nat.le_of_ble_eq_true rfl) (xd_25 _ _) rfl iw_9 (Nat.le_of_ble_eq_true rfl) g_217 rfl rfl dX9_isWatched_1 ?_
  refine lv_iload_n hx hb dX9_isWatched_4 rfl (lv_at hl 1 rfl) ?_
  refine lv_ishr hx hb dX9_isWatched_5 ?_
  refine lv_iconst (v := (1 : Int32)) hx hb dX9_isWatched_6 (by decide) ?_
  refine lv_iand hx hb dX9_isWatched_7 ?_
  refine lv_if_eq (tgt := 15) hx hb dX9_isWatched_8 (by decide) (fun c1 => ?_) (fun c1 => ?_)
  · replace hf := ite_t c1 hf
    refine lv_iconst (v := (0 : Int32)) hx hb dX9_isWatched_15 (by decide) ?_
    exact prZ C hr hk hP hS hf rfl dX9_isWatched_16
  · replace hf := ite_f c1 hf
    refine lv_iconst (v := (1 : Int32)) hx hb dX9_isWatched_11 (by decide) ?_
    refine lv_goto (tgt := 16) hx hb dX9_isWatched_12 (by decide) ?_
    exact prZ C hr hk hP hS hf rfl dX9_isWatched_16
theorem c9_isWatched {l : Launch} {z : Zt} {b n : Nat}  {a1 : Int32} {M M' : Mem} {r : Int32} (hf : f9_isWatched n  a1 M = some (r, M')) : CI l z (xd z b) 339 b yX9_isWatched cX9_isWatched 2 (some .boolean) rm9_isWatched [.ref (b + 25), .int a1] M M' r :=
  CI.ofW (lv := [(0, .ref (b + 25)), (1, .int a1)]) (by decide) (Nat.le_of_ble_eq_true rfl) rfl (fun p e s m args below meth c ls C hr hk hP hS hl => w9_isWatched_0 (n := n)  C hr hk  hf hP hS hl)

-- BronzeKing$Vigil.weigh(I)V
theorem dX9_weigh_0 : decode cX9_weigh 0 = .ok (.aload_n 0, 1) := by decide +kernel
theorem dX9_weigh_1 : decode cX9_weigh 1 = .ok (.iconst 0, 1) := by decide +kernel
theorem dX9_weigh_2 : decode cX9_weigh 2 = .ok (.putfield 28, 3) := by decide +kernel
theorem dX9_weigh_5 : decode cX9_weigh 5 = .ok (.aload_n 0, 1) := by decide +kernel
theorem dX9_weigh_6 : decode cX9_weigh 6 = .ok (.iconst 0, 1) := by decide +kernel
theorem dX9_weigh_7 : decode cX9_weigh 7 = .ok (.putfield 31, 3) := by decide +kernel
theorem dX9_weigh_10 : decode cX9_weigh 10 = .ok (.aload_n 0, 1) := by decide +kernel
theorem dX9_weigh_11 : decode cX9_weigh 11 = .ok (.iconst 0, 1) := by decide +kernel
theorem dX9_weigh_12 : decode cX9_weigh 12 = .ok (.putfield 25, 3) := by decide +kernel
theorem dX9_weigh_15 : decode cX9_weigh 15 = .ok (.iconst 0, 1) := by decide +kernel
theorem dX9_weigh_16 : decode cX9_weigh 16 = .ok (.istore_n 2, 1) := by decide +kernel
theorem dX9_weigh_17 : decode cX9_weigh 17 = .ok (.iload_n 2, 1) := by decide +kernel
theorem dX9_weigh_18 : decode cX9_weigh 18 = .ok (.bipush 24, 2) := by decide +kernel
theorem dX9_weigh_20 : decode cX9_weigh 20 = .ok (.if_icmp .ge 51, 3) := by decide +kernel
theorem dX9_weigh_23 : decode cX9_weigh 23 = .ok (.aload_n 0, 1) := by decide +kernel
theorem dX9_weigh_24 : decode cX9_weigh 24 = .ok (.getfield 9, 3) := by decide +kernel
theorem dX9_weigh_27 : decode cX9_weigh 27 = .ok (.iload_n 2, 1) := by decide +kernel
theorem dX9_weigh_28 : decode cX9_weigh 28 = .ok (.aload_n 0, 1) := by decide +kernel
theorem dX9_weigh_29 : decode cX9_weigh 29 = .ok (.getfield 34, 3) := by decide +kernel
theorem dX9_weigh_32 : decode cX9_weigh 32 = .ok (.iload_n 2, 1) := by decide +kernel
theorem dX9_weigh_33 : decode cX9_weigh 33 = .ok (.iload_n 1, 1) := by decide +kernel
theorem dX9_weigh_34 : decode cX9_weigh 34 = .ok (.invokevirtual 38, 3) := by decide +kernel
theorem dX9_weigh_37 : decode cX9_weigh 37 = .ok (.iastore, 1) := by decide +kernel
theorem dX9_weigh_38 : decode cX9_weigh 38 = .ok (.aload_n 0, 1) := by decide +kernel
theorem dX9_weigh_39 : decode cX9_weigh 39 = .ok (.dup, 1) := by decide +kernel
theorem dX9_weigh_40 : decode cX9_weigh 40 = .ok (.getfield 25, 3) := by decide +kernel
theorem dX9_weigh_43 : decode cX9_weigh 43 = .ok (.aload_n 0, 1) := by decide +kernel
theorem dX9_weigh_44 : decode cX9_weigh 44 = .ok (.iload_n 2, 1) := by decide +kernel
theorem dX9_weigh_45 : decode cX9_weigh 45 = .ok (.invokevirtual 44, 3) := by decide +kernel
theorem dX9_weigh_48 : decode cX9_weigh 48 = .ok (.ifCond .eq 7, 3) := by decide +kernel
theorem dX9_weigh_51 : decode cX9_weigh 51 = .ok (.iconst 0, 1) := by decide +kernel
theorem dX9_weigh_52 : decode cX9_weigh 52 = .ok (.goto 9, 3) := by decide +kernel
theorem dX9_weigh_55 : decode cX9_weigh 55 = .ok (.aload_n 0, 1) := by decide +kernel
theorem dX9_weigh_56 : decode cX9_weigh 56 = .ok (.getfield 9, 3) := by decide +kernel
theorem dX9_weigh_59 : decode cX9_weigh 59 = .ok (.iload_n 2, 1) := by decide +kernel
theorem dX9_weigh_60 : decode cX9_weigh 60 = .ok (.iaload, 1) := by decide +kernel
theorem dX9_weigh_61 : decode cX9_weigh 61 = .ok (.iadd, 1) := by decide +kernel
theorem dX9_weigh_62 : decode cX9_weigh 62 = .ok (.putfield 25, 3) := by decide +kernel
theorem dX9_weigh_65 : decode cX9_weigh 65 = .ok (.iinc 2 1, 3) := by decide +kernel
theorem dX9_weigh_68 : decode cX9_weigh 68 = .ok (.goto (-51), 3) := by decide +kernel
theorem dX9_weigh_71 : decode cX9_weigh 71 = .ok (.return_, 1) := by decide +kernel
def b9_weigh_61 (rc : Nat → List Int32 → List Int64 → Mem → Option (Unit × Mem)) (n : Nat) (i1 : Int32) (i2 : Int32) (s1 : Int32) (s2 : Int32) (M : Mem) : Option (Unit × Mem) :=
  lt (wI M 25 5 (s1 + s2)) fun M15 =>
  lt (i2 + (1 : Int32)) fun v16 =>
  rc 17 [i1, v16] [] M15
def b9_weigh_17 (rc : Nat → List Int32 → List Int64 → Mem → Option (Unit × Mem)) (n : Nat) (i1 : Int32) (i2 : Int32) (M : Mem) : Option (Unit × Mem) :=
  (if (24 : Int32) ≤ i2 then (
   some ((), M))
  else (
   bnd (f2_weightOf n i2 i1 M) fun r5 M6 =>
   chk (inb i2 24) <|
   lt (wI M6 26 i2.toNatClampNeg r5) fun M9 =>
   bnd (f9_isWatched n i2 M9) fun r10 M11 =>
   (if r10 = 0 then (
    chk (inb i2 24) <|
    b9_weigh_61  rc n i1 i2 (M9.1 25 5) (M11.1 26 i2.toNatClampNeg) M11)
   else (
    b9_weigh_61  rc n i1 i2 (M9.1 25 5) (0 : Int32) M11))))
def b9_weigh_0 (rc : Nat → List Int32 → List Int64 → Mem → Option (Unit × Mem)) (n : Nat) (a1 : Int32) (M : Mem) : Option (Unit × Mem) :=
  lt (wI M 25 6 (0 : Int32)) fun M1 =>
  lt (wI M1 25 7 (0 : Int32)) fun M2 =>
  lt (wI M2 25 5 (0 : Int32)) fun M3 =>
  b9_weigh_17  rc n a1 (0 : Int32) M3
def r9_weigh : Nat → Nat → List Int32 → List Int64 → Mem → Option (Unit × Mem)
  | 0 => fun _ _ _ _ => none
  | n + 1 => fun pc li lj M =>
    if pc = 17 then (match li, lj with | [i1, i2], [] => b9_weigh_17  (r9_weigh  n) n i1 i2 M | _, _ => none) else
    none
theorem e9_weigh_17  (n : Nat) (i1 : Int32) (i2 : Int32) (M : Mem) : r9_weigh  (n + 1) 17 [i1, i2] [] M = b9_weigh_17  (r9_weigh  n) n i1 i2 M := by
  rw [r9_weigh]
  simp
def f9_weigh (n : Nat) (a1 : Int32) (M : Mem) : Option (Unit × Mem) := b9_weigh_0 (r9_weigh n) n a1 M
abbrev rm9_weigh : Room := { frames := 4, cells := 0, slots := 0, locals := 94 }
theorem y9_weigh_w : yV RX9 yX9_weigh cX9_weigh 3 none 1 := ⟨g_831, g_832, g_9, g_833, rfl, by decide, by decide, by decide +kernel⟩
set_option maxHeartbeats 4000000 in
set_option maxRecDepth 100000 in
theorem w9_weigh_61 {p : Program} {l : Launch} {e : Env} {s : State} {m : MethodId} {args : Array Value} {below : List Frame} {meth : Method} {c : Code} {z : Zt} {b : Nat}  (C : Cx p s m args c cX9_weigh 3 RX9 z 339 b) (hr : meth.sig.returnType = none) (hk : meth.locks = false) {r : Unit} {M' : Mem} {rc : Nat → List Int32 → List Int64 → Mem → Option (Unit × Mem)} {n : Nat} (q17 : ∀ (i1 : Int32) (i2 : Int32) (M : Mem) (H : Heap) (locs : List Loc) (ls : Array Slot), rc 17 [i1, i2] [] M = some (r, M') → va_P z.1 vwCl (pw (xd z b) 339 b M) H → va_S (pA 339 b) s.heap H locs → lv_has ls 3 [(0, .ref (b + 25)), (1, .int i1), (2, .int i2)] → W p l e rm9_weigh s m args below meth c H locs 0 0 (MQ below (va_Qv (fun (M2 : Mem) => M2 = M') (fun M2 t => va_P z.1 vwCl (pw (xd z b) 339 b M2) t.heap) (pA 339 b)) args s 0 0 (pA 339 b)) (F0 m 17 ls [])) {i1 : Int32} {i2 : Int32} {s1 : Int32} {s2 : Int32} {M : Mem} {H : Heap} {locs : List Loc} {ls : Array Slot} (hf : b9_weigh_61  rc n i1 i2 s1 s2 M = some (r, M')) (hP : va_P z.1 vwCl (pw (xd z b) 339 b M) H) (hS : va_S (pA 339 b) s.heap H locs) (hl : lv_has ls 3 [(0, .ref (b + 25)), (1, .int i1), (2, .int i2)]) : W p l e rm9_weigh s m args below meth c H locs 0 0 (MQ below (va_Qv (fun (M2 : Mem) => M2 = M') (fun M2 t => va_P z.1 vwCl (pw (xd z b) 339 b M2) t.heap) (pA 339 b)) args s 0 0 (pA 339 b)) (F0 m 61 ls [.int s2, .int s1, .ref (b + 25)]) := by
  have hx := C.1.1
  have hb := C.1.2.1
  unfold b9_weigh_61 at hf
  refine lv_iadd hx hb dX9_weigh_61 ?_
  refine ppI C hP hS (k := 25) (j := 5) (ty := .int) (Nat.le_of_ble_eq_true rfl) (xd_25 _ _) rfl iw_9 tyX9 tyX9_ok nmX9 (Nat.le_of_ble_eq_true rfl) g_221 rfl rfl (by decide +kernel) rfl rfl (Nat.le_of_ble_eq_true rfl) (xu_25_5 _ _ _) dX9_weigh_62 (fun M15 H locs eM15 hP hS => ?_)
  replace hf := lt_c eM15 hf
  obtain ⟨v16, ev16⟩ : ∃ v : Int32, v = i2 + (1 : Int32) := ⟨_, rfl⟩
  replace hf := lt_c ev16 hf
  refine lv_iinc (v := v16) (lv' := [(2, .int v16), (0, .ref (b + 25)), (1, .int i1)]) hx hb dX9_weigh_65 hl (k := 2) rfl (by rw [ev16]; rfl) (by decide) rfl (fun ls hl => ?_)
  refine lv_goto (tgt := 17) hx hb dX9_weigh_68 (by decide) ?_
  exact q17 i1 v16 M15 _ _ _ hf hP hS (lv_sub hl [1, 2, 0] rfl)
set_option maxHeartbeats 4000000 in
set_option maxRecDepth 100000 in
theorem w9_weigh_17 {p : Program} {l : Launch} {e : Env} {s : State} {m : MethodId} {args : Array Value} {below : List Frame} {meth : Method} {c : Code} {z : Zt} {b : Nat}  (C : Cx p s m args c cX9_weigh 3 RX9 z 339 b) (hr : meth.sig.returnType = none) (hk : meth.locks = false) {r : Unit} {M' : Mem} {rc : Nat → List Int32 → List Int64 → Mem → Option (Unit × Mem)} {n : Nat} (q17 : ∀ (i1 : Int32) (i2 : Int32) (M : Mem) (H : Heap) (locs : List Loc) (ls : Array Slot), rc 17 [i1, i2] [] M = some (r, M') → va_P z.1 vwCl (pw (xd z b) 339 b M) H → va_S (pA 339 b) s.heap H locs → lv_has ls 3 [(0, .ref (b + 25)), (1, .int i1), (2, .int i2)] → W p l e rm9_weigh s m args below meth c H locs 0 0 (MQ below (va_Qv (fun (M2 : Mem) => M2 = M') (fun M2 t => va_P z.1 vwCl (pw (xd z b) 339 b M2) t.heap) (pA 339 b)) args s 0 0 (pA 339 b)) (F0 m 17 ls [])) {i1 : Int32} {i2 : Int32} {M : Mem} {H : Heap} {locs : List Loc} {ls : Array Slot} (hf : b9_weigh_17  rc n i1 i2 M = some (r, M')) (hP : va_P z.1 vwCl (pw (xd z b) 339 b M) H) (hS : va_S (pA 339 b) s.heap H locs) (hl : lv_has ls 3 [(0, .ref (b + 25)), (1, .int i1), (2, .int i2)]) : W p l e rm9_weigh s m args below meth c H locs 0 0 (MQ below (va_Qv (fun (M2 : Mem) => M2 = M') (fun M2 t => va_P z.1 vwCl (pw (xd z b) 339 b M2) t.heap) (pA 339 b)) args s 0 0 (pA 339 b)) (F0 m 17 ls []) := by
  have hx := C.1.1
  have hb := C.1.2.1
  unfold b9_weigh_17 at hf
  refine lv_iload_n hx hb dX9_weigh_17 rfl (lv_at hl 2 rfl) ?_
  refine lv_bipush (v := (24 : Int32)) hx hb dX9_weigh_18 (by decide) ?_
  refine lv_icmp_ge (tgt := 71) hx hb dX9_weigh_20 (by decide) (fun c4 => ?_) (fun c4 => ?_)
  · replace hf := ite_t c4 hf
    exact prV C hr hk hP hS hf dX9_weigh_71
  · replace hf := ite_f c4 hf
    refine lv_aload_n hx hb dX9_weigh_23 rfl (lv_at hl 0 rfl) ?_
    refine pg C hP (k := 25) (j := 1) (Nat.le_of_ble_eq_true rfl) (xd_25 _ _) rfl iw_9 (Nat.le_of_ble_eq_true rfl) g_215 rfl rfl dX9_weigh_24 ?_
    refine lv_iload_n hx hb dX9_weigh_27 rfl (lv_at hl 2 rfl) ?_
    refine lv_aload_n hx hb dX9_weigh_28 rfl (lv_at hl 0 rfl) ?_
    refine pg C hP (k := 25) (j := 0) (Nat.le_of_ble_eq_true rfl) (xd_25 _ _) rfl iw_9 (Nat.le_of_ble_eq_true rfl) g_214 rfl rfl dX9_weigh_29 ?_
    refine lv_iload_n hx hb dX9_weigh_32 rfl (lv_at hl 2 rfl) ?_
    refine lv_iload_n hx hb dX9_weigh_33 rfl (lv_at hl 1 rfl) ?_
    obtain ⟨r5, M6, h7, hf⟩ := bnd_s hf
    refine pcVi (As := [.int i2, .int i1]) C hP hS (k := 11) (Nat.le_of_ble_eq_true rfl) (xd_11 _ _) rfl (c2_weightOf  h7) y2_weightOf_w g_834 rfl rfl rfl ⟨Nat.le_of_ble_eq_true rfl, Nat.le_of_ble_eq_true rfl⟩ hl.1 rfl (Nat.le_of_ble_eq_true rfl) dX9_weigh_34 ⟨Nat.le_of_ble_eq_true rfl, Nat.le_of_ble_eq_true rfl⟩ (fun H locs hP hS => ?_)
    have h8 := chk_1 hf
    replace hf := chk_2 hf
    refine psI C hP hS (k := 26) (Nat.le_of_ble_eq_true rfl) (xd_26) h8 dX9_weigh_37 (fun M9 H locs eM9 hP hS => ?_)
    replace hf := lt_c eM9 hf
    refine lv_aload_n hx hb dX9_weigh_38 rfl (lv_at hl 0 rfl) ?_
    refine lv_dup hx hb dX9_weigh_39 rfl ?_
    refine pg C hP (k := 25) (j := 5) (Nat.le_of_ble_eq_true rfl) (xd_25 _ _) rfl iw_9 (Nat.le_of_ble_eq_true rfl) g_221 rfl rfl dX9_weigh_40 ?_
    refine lv_aload_n hx hb dX9_weigh_43 rfl (lv_at hl 0 rfl) ?_
    refine lv_iload_n hx hb dX9_weigh_44 rfl (lv_at hl 2 rfl) ?_
    obtain ⟨r10, M11, h12, hf⟩ := bnd_s hf
    refine pcVi (As := [.int i2]) C hP hS (k := 25) (Nat.le_of_ble_eq_true rfl) (xd_25 _ _) rfl (c9_isWatched  h12) y9_isWatched_w g_835 rfl rfl rfl ⟨Nat.le_of_ble_eq_true rfl, Nat.le_of_ble_eq_true rfl⟩ hl.1 rfl (Nat.le_of_ble_eq_true rfl) dX9_weigh_45 ⟨Nat.le_of_ble_eq_true rfl, Nat.le_of_ble_eq_true rfl⟩ (fun H locs hP hS => ?_)
    refine lv_if_eq (tgt := 55) hx hb dX9_weigh_48 (by decide) (fun c13 => ?_) (fun c13 => ?_)
    · replace hf := ite_t c13 hf
      refine lv_aload_n hx hb dX9_weigh_55 rfl (lv_at hl 0 rfl) ?_
      refine pg C hP (k := 25) (j := 1) (Nat.le_of_ble_eq_true rfl) (xd_25 _ _) rfl iw_9 (Nat.le_of_ble_eq_true rfl) g_215 rfl rfl dX9_weigh_56 ?_
      refine lv_iload_n hx hb dX9_weigh_59 rfl (lv_at hl 2 rfl) ?_
      have h14 := chk_1 hf
      replace hf := chk_2 hf
      refine paI C hP (k := 26) (Nat.le_of_ble_eq_true rfl) (xd_26 _ _) h14 dX9_weigh_60 ?_
      exact w9_weigh_61 (n := n)  C hr hk q17 hf hP hS (lv_sub hl [0, 1, 2] rfl)
    · replace hf := ite_f c13 hf
      refine lv_iconst (v := (0 : Int32)) hx hb dX9_weigh_51 (by decide) ?_
      refine lv_goto (tgt := 61) hx hb dX9_weigh_52 (by decide) ?_
      exact w9_weigh_61 (n := n)  C hr hk q17 hf hP hS (lv_sub hl [0, 1, 2] rfl)
set_option maxHeartbeats 4000000 in
set_option maxRecDepth 100000 in
theorem w9_weigh_0 {p : Program} {l : Launch} {e : Env} {s : State} {m : MethodId} {args : Array Value} {below : List Frame} {meth : Method} {c : Code} {z : Zt} {b : Nat}  (C : Cx p s m args c cX9_weigh 3 RX9 z 339 b) (hr : meth.sig.returnType = none) (hk : meth.locks = false) {r : Unit} {M' : Mem} {rc : Nat → List Int32 → List Int64 → Mem → Option (Unit × Mem)} {n : Nat} (q17 : ∀ (i1 : Int32) (i2 : Int32) (M : Mem) (H : Heap) (locs : List Loc) (ls : Array Slot), rc 17 [i1, i2] [] M = some (r, M') → va_P z.1 vwCl (pw (xd z b) 339 b M) H → va_S (pA 339 b) s.heap H locs → lv_has ls 3 [(0, .ref (b + 25)), (1, .int i1), (2, .int i2)] → W p l e rm9_weigh s m args below meth c H locs 0 0 (MQ below (va_Qv (fun (M2 : Mem) => M2 = M') (fun M2 t => va_P z.1 vwCl (pw (xd z b) 339 b M2) t.heap) (pA 339 b)) args s 0 0 (pA 339 b)) (F0 m 17 ls [])) {a1 : Int32} {M : Mem} {H : Heap} {locs : List Loc} {ls : Array Slot} (hf : b9_weigh_0  rc n a1 M = some (r, M')) (hP : va_P z.1 vwCl (pw (xd z b) 339 b M) H) (hS : va_S (pA 339 b) s.heap H locs) (hl : lv_has ls 3 [(0, .ref (b + 25)), (1, .int a1)]) : W p l e rm9_weigh s m args below meth c H locs 0 0 (MQ below (va_Qv (fun (M2 : Mem) => M2 = M') (fun M2 t => va_P z.1 vwCl (pw (xd z b) 339 b M2) t.heap) (pA 339 b)) args s 0 0 (pA 339 b)) (F0 m 0 ls []) := by
  have hx := C.1.1
  have hb := C.1.2.1
  unfold b9_weigh_0 at hf
  refine lv_aload_n hx hb dX9_weigh_0 rfl (lv_at hl 0 rfl) ?_
  refine lv_iconst (v := (0 : Int32)) hx hb dX9_weigh_1 (by decide) ?_
  refine ppI C hP hS (k := 25) (j := 6) (ty := .int) (Nat.le_of_ble_eq_true rfl) (xd_25 _ _) rfl iw_9 tyX9 tyX9_ok nmX9 (Nat.le_of_ble_eq_true rfl) g_223 rfl rfl (by decide +kernel) rfl rfl (Nat.le_of_ble_eq_true rfl) (xu_25_6 _ _ _) dX9_weigh_2 (fun M1 H locs eM1 hP hS => ?_)
  replace hf := lt_c eM1 hf
  refine lv_aload_n hx hb dX9_weigh_5 rfl (lv_at hl 0 rfl) ?_
  refine lv_iconst (v := (0 : Int32)) hx hb dX9_weigh_6 (by decide) ?_
  refine ppI C hP hS (k := 25) (j := 7) (ty := .int) (Nat.le_of_ble_eq_true rfl) (xd_25 _ _) rfl iw_9 tyX9 tyX9_ok nmX9 (Nat.le_of_ble_eq_true rfl) g_225 rfl rfl (by decide +kernel) rfl rfl (Nat.le_of_ble_eq_true rfl) (xu_25_7 _ _ _) dX9_weigh_7 (fun M2 H locs eM2 hP hS => ?_)
  replace hf := lt_c eM2 hf
  refine lv_aload_n hx hb dX9_weigh_10 rfl (lv_at hl 0 rfl) ?_
  refine lv_iconst (v := (0 : Int32)) hx hb dX9_weigh_11 (by decide) ?_
  refine ppI C hP hS (k := 25) (j := 5) (ty := .int) (Nat.le_of_ble_eq_true rfl) (xd_25 _ _) rfl iw_9 tyX9 tyX9_ok nmX9 (Nat.le_of_ble_eq_true rfl) g_221 rfl rfl (by decide +kernel) rfl rfl (Nat.le_of_ble_eq_true rfl) (xu_25_5 _ _ _) dX9_weigh_12 (fun M3 H locs eM3 hP hS => ?_)
  replace hf := lt_c eM3 hf
  refine lv_iconst (v := (0 : Int32)) hx hb dX9_weigh_15 (by decide) ?_
  refine lv_istore_n (lv' := [(2, .int (0 : Int32)), (0, .ref (b + 25)), (1, .int a1)]) hx hb dX9_weigh_16 rfl hl (by decide) rfl (fun ls hl => ?_)
  exact w9_weigh_17 (n := n)  C hr hk q17 hf hP hS (lv_sub hl [1, 2, 0] rfl)
set_option maxHeartbeats 4000000 in
set_option maxRecDepth 100000 in
theorem l9_weigh {p : Program} {l : Launch} {e : Env} {s : State} {m : MethodId} {args : Array Value} {below : List Frame} {meth : Method} {c : Code} {z : Zt} {b : Nat}  (C : Cx p s m args c cX9_weigh 3 RX9 z 339 b) (hr : meth.sig.returnType = none) (hk : meth.locks = false) {r : Unit} {M' : Mem} (n : Nat) : (∀ (i1 : Int32) (i2 : Int32) (M : Mem) (H : Heap) (locs : List Loc) (ls : Array Slot), (r9_weigh  n) 17 [i1, i2] [] M = some (r, M') → va_P z.1 vwCl (pw (xd z b) 339 b M) H → va_S (pA 339 b) s.heap H locs → lv_has ls 3 [(0, .ref (b + 25)), (1, .int i1), (2, .int i2)] → W p l e rm9_weigh s m args below meth c H locs 0 0 (MQ below (va_Qv (fun (M2 : Mem) => M2 = M') (fun M2 t => va_P z.1 vwCl (pw (xd z b) 339 b M2) t.heap) (pA 339 b)) args s 0 0 (pA 339 b)) (F0 m 17 ls [])) := by
  induction n with
  | zero => exact fun _ _ _ _ _ _ hf => (by cases hf)
  | succ n ih => exact fun _ _ _ _ _ _ hf hP hS hl => w9_weigh_17 (n := n)  C hr hk ih ((e9_weigh_17  n _ _ _).symm.trans hf) hP hS hl
theorem c9_weigh {l : Launch} {z : Zt} {b n : Nat}  {a1 : Int32} {M M' : Mem} {r : Unit} (hf : f9_weigh n  a1 M = some (r, M')) : CV l z (xd z b) 339 b yX9_weigh cX9_weigh 3 none rm9_weigh [.ref (b + 25), .int a1] M M' :=
  CV.ofW (lv := [(0, .ref (b + 25)), (1, .int a1)]) (by decide) (Nat.le_of_ble_eq_true rfl) rfl (fun p e s m args below meth c ls C hr hk hP hS hl => w9_weigh_0 (n := n)  C hr hk (l9_weigh  C hr hk n) hf hP hS hl)

-- BronzeKing$Vigil.pickHeaviest()V
theorem dX9_pickHeaviest_0 : decode cX9_pickHeaviest 0 = .ok (.iconst (-1), 1) := by decide +kernel
theorem dX9_pickHeaviest_1 : decode cX9_pickHeaviest 1 = .ok (.istore_n 1, 1) := by decide +kernel
theorem dX9_pickHeaviest_2 : decode cX9_pickHeaviest 2 = .ok (.iconst 0, 1) := by decide +kernel
theorem dX9_pickHeaviest_3 : decode cX9_pickHeaviest 3 = .ok (.istore_n 2, 1) := by decide +kernel
theorem dX9_pickHeaviest_4 : decode cX9_pickHeaviest 4 = .ok (.iconst 0, 1) := by decide +kernel
theorem dX9_pickHeaviest_5 : decode cX9_pickHeaviest 5 = .ok (.istore_n 3, 1) := by decide +kernel
theorem dX9_pickHeaviest_6 : decode cX9_pickHeaviest 6 = .ok (.iload_n 3, 1) := by decide +kernel
theorem dX9_pickHeaviest_7 : decode cX9_pickHeaviest 7 = .ok (.bipush 24, 2) := by decide +kernel
theorem dX9_pickHeaviest_9 : decode cX9_pickHeaviest 9 = .ok (.if_icmp .ge 59, 3) := by decide +kernel
theorem dX9_pickHeaviest_12 : decode cX9_pickHeaviest 12 = .ok (.aload_n 0, 1) := by decide +kernel
theorem dX9_pickHeaviest_13 : decode cX9_pickHeaviest 13 = .ok (.iload_n 3, 1) := by decide +kernel
theorem dX9_pickHeaviest_14 : decode cX9_pickHeaviest 14 = .ok (.invokevirtual 44, 3) := by decide +kernel
theorem dX9_pickHeaviest_17 : decode cX9_pickHeaviest 17 = .ok (.ifCond .ne 18, 3) := by decide +kernel
theorem dX9_pickHeaviest_20 : decode cX9_pickHeaviest 20 = .ok (.aload_n 0, 1) := by decide +kernel
theorem dX9_pickHeaviest_21 : decode cX9_pickHeaviest 21 = .ok (.getfield 28, 3) := by decide +kernel
theorem dX9_pickHeaviest_24 : decode cX9_pickHeaviest 24 = .ok (.iload_n 3, 1) := by decide +kernel
theorem dX9_pickHeaviest_25 : decode cX9_pickHeaviest 25 = .ok (.ishr, 1) := by decide +kernel
theorem dX9_pickHeaviest_26 : decode cX9_pickHeaviest 26 = .ok (.iconst 1, 1) := by decide +kernel
theorem dX9_pickHeaviest_27 : decode cX9_pickHeaviest 27 = .ok (.iand, 1) := by decide +kernel
theorem dX9_pickHeaviest_28 : decode cX9_pickHeaviest 28 = .ok (.ifCond .ne 7, 3) := by decide +kernel
theorem dX9_pickHeaviest_31 : decode cX9_pickHeaviest 31 = .ok (.iconst 1, 1) := by decide +kernel
theorem dX9_pickHeaviest_32 : decode cX9_pickHeaviest 32 = .ok (.goto 4, 3) := by decide +kernel
theorem dX9_pickHeaviest_35 : decode cX9_pickHeaviest 35 = .ok (.iconst 0, 1) := by decide +kernel
theorem dX9_pickHeaviest_36 : decode cX9_pickHeaviest 36 = .ok (.istore 4, 2) := by decide +kernel
theorem dX9_pickHeaviest_38 : decode cX9_pickHeaviest 38 = .ok (.iload 4, 2) := by decide +kernel
theorem dX9_pickHeaviest_40 : decode cX9_pickHeaviest 40 = .ok (.ifCond .eq 22, 3) := by decide +kernel
theorem dX9_pickHeaviest_43 : decode cX9_pickHeaviest 43 = .ok (.aload_n 0, 1) := by decide +kernel
theorem dX9_pickHeaviest_44 : decode cX9_pickHeaviest 44 = .ok (.getfield 9, 3) := by decide +kernel
theorem dX9_pickHeaviest_47 : decode cX9_pickHeaviest 47 = .ok (.iload_n 3, 1) := by decide +kernel
theorem dX9_pickHeaviest_48 : decode cX9_pickHeaviest 48 = .ok (.iaload, 1) := by decide +kernel
theorem dX9_pickHeaviest_49 : decode cX9_pickHeaviest 49 = .ok (.iload_n 1, 1) := by decide +kernel
theorem dX9_pickHeaviest_50 : decode cX9_pickHeaviest 50 = .ok (.if_icmp .le 12, 3) := by decide +kernel
theorem dX9_pickHeaviest_53 : decode cX9_pickHeaviest 53 = .ok (.aload_n 0, 1) := by decide +kernel
theorem dX9_pickHeaviest_54 : decode cX9_pickHeaviest 54 = .ok (.getfield 9, 3) := by decide +kernel
theorem dX9_pickHeaviest_57 : decode cX9_pickHeaviest 57 = .ok (.iload_n 3, 1) := by decide +kernel
theorem dX9_pickHeaviest_58 : decode cX9_pickHeaviest 58 = .ok (.iaload, 1) := by decide +kernel
theorem dX9_pickHeaviest_59 : decode cX9_pickHeaviest 59 = .ok (.istore_n 1, 1) := by decide +kernel
theorem dX9_pickHeaviest_60 : decode cX9_pickHeaviest 60 = .ok (.iload_n 3, 1) := by decide +kernel
theorem dX9_pickHeaviest_61 : decode cX9_pickHeaviest 61 = .ok (.istore_n 2, 1) := by decide +kernel
theorem dX9_pickHeaviest_62 : decode cX9_pickHeaviest 62 = .ok (.iinc 3 1, 3) := by decide +kernel
theorem dX9_pickHeaviest_65 : decode cX9_pickHeaviest 65 = .ok (.goto (-59), 3) := by decide +kernel
theorem dX9_pickHeaviest_68 : decode cX9_pickHeaviest 68 = .ok (.iload_n 1, 1) := by decide +kernel
theorem dX9_pickHeaviest_69 : decode cX9_pickHeaviest 69 = .ok (.ifCond .lt 25, 3) := by decide +kernel
theorem dX9_pickHeaviest_72 : decode cX9_pickHeaviest 72 = .ok (.aload_n 0, 1) := by decide +kernel
theorem dX9_pickHeaviest_73 : decode cX9_pickHeaviest 73 = .ok (.dup, 1) := by decide +kernel
theorem dX9_pickHeaviest_74 : decode cX9_pickHeaviest 74 = .ok (.getfield 28, 3) := by decide +kernel
theorem dX9_pickHeaviest_77 : decode cX9_pickHeaviest 77 = .ok (.iconst 1, 1) := by decide +kernel
theorem dX9_pickHeaviest_78 : decode cX9_pickHeaviest 78 = .ok (.iload_n 2, 1) := by decide +kernel
theorem dX9_pickHeaviest_79 : decode cX9_pickHeaviest 79 = .ok (.ishl, 1) := by decide +kernel
theorem dX9_pickHeaviest_80 : decode cX9_pickHeaviest 80 = .ok (.ior, 1) := by decide +kernel
theorem dX9_pickHeaviest_81 : decode cX9_pickHeaviest 81 = .ok (.putfield 28, 3) := by decide +kernel
theorem dX9_pickHeaviest_84 : decode cX9_pickHeaviest 84 = .ok (.aload_n 0, 1) := by decide +kernel
theorem dX9_pickHeaviest_85 : decode cX9_pickHeaviest 85 = .ok (.dup, 1) := by decide +kernel
theorem dX9_pickHeaviest_86 : decode cX9_pickHeaviest 86 = .ok (.getfield 31, 3) := by decide +kernel
theorem dX9_pickHeaviest_89 : decode cX9_pickHeaviest 89 = .ok (.iload_n 1, 1) := by decide +kernel
theorem dX9_pickHeaviest_90 : decode cX9_pickHeaviest 90 = .ok (.iadd, 1) := by decide +kernel
theorem dX9_pickHeaviest_91 : decode cX9_pickHeaviest 91 = .ok (.putfield 31, 3) := by decide +kernel
theorem dX9_pickHeaviest_94 : decode cX9_pickHeaviest 94 = .ok (.return_, 1) := by decide +kernel
def b9_pickHeaviest_62 (rc : Nat → List Int32 → List Int64 → Mem → Option (Unit × Mem)) (n : Nat) (i1 : Int32) (i2 : Int32) (i3 : Int32) (M : Mem) : Option (Unit × Mem) :=
  lt (i3 + (1 : Int32)) fun v15 =>
  rc 6 [i1, i2, v15] [] M
def b9_pickHeaviest_36 (rc : Nat → List Int32 → List Int64 → Mem → Option (Unit × Mem)) (n : Nat) (i1 : Int32) (i2 : Int32) (i3 : Int32) (s0 : Int32) (M : Mem) : Option (Unit × Mem) :=
  (if s0 = 0 then (
   b9_pickHeaviest_62  rc n i1 i2 i3 M)
  else (
   chk (inb i3 24) <|
   (if (M.1 26 i3.toNatClampNeg) ≤ i1 then (
    b9_pickHeaviest_62  rc n i1 i2 i3 M)
   else (
    chk (inb i3 24) <|
    lt (M.1 26 i3.toNatClampNeg) fun v14 =>
    b9_pickHeaviest_62  rc n v14 i3 i3 M))))
def b9_pickHeaviest_35 (rc : Nat → List Int32 → List Int64 → Mem → Option (Unit × Mem)) (n : Nat) (i1 : Int32) (i2 : Int32) (i3 : Int32) (M : Mem) : Option (Unit × Mem) :=
  b9_pickHeaviest_36  rc n i1 i2 i3 (0 : Int32) M
def b9_pickHeaviest_6 (rc : Nat → List Int32 → List Int64 → Mem → Option (Unit × Mem)) (n : Nat) (i1 : Int32) (i2 : Int32) (i3 : Int32) (M : Mem) : Option (Unit × Mem) :=
  (if (24 : Int32) ≤ i3 then (
   (if i1 < 0 then (
    some ((), M))
   else (
    lt (wI M 25 6 ((M.1 25 6) ||| ((1 : Int32) <<< (i2 &&& 31)))) fun M3 =>
    lt (wI M3 25 7 ((M3.1 25 7) + i1)) fun M4 =>
    some ((), M4))))
  else (
   bnd (f9_isWatched n i3 M) fun r5 M6 =>
   (if r5 = 0 then (
    (if (((M6.1 25 6) >>> (i3 &&& 31)) &&& (1 : Int32)) = 0 then (
     b9_pickHeaviest_36  rc n i1 i2 i3 (1 : Int32) M6)
    else (
     b9_pickHeaviest_35  rc n i1 i2 i3 M6)))
   else (
    b9_pickHeaviest_35  rc n i1 i2 i3 M6))))
def b9_pickHeaviest_0 (rc : Nat → List Int32 → List Int64 → Mem → Option (Unit × Mem)) (n : Nat) (M : Mem) : Option (Unit × Mem) :=
  b9_pickHeaviest_6  rc n (-1 : Int32) (0 : Int32) (0 : Int32) M
def r9_pickHeaviest : Nat → Nat → List Int32 → List Int64 → Mem → Option (Unit × Mem)
  | 0 => fun _ _ _ _ => none
  | n + 1 => fun pc li lj M =>
    if pc = 6 then (match li, lj with | [i1, i2, i3], [] => b9_pickHeaviest_6  (r9_pickHeaviest  n) n i1 i2 i3 M | _, _ => none) else
    none
theorem e9_pickHeaviest_6  (n : Nat) (i1 : Int32) (i2 : Int32) (i3 : Int32) (M : Mem) : r9_pickHeaviest  (n + 1) 6 [i1, i2, i3] [] M = b9_pickHeaviest_6  (r9_pickHeaviest  n) n i1 i2 i3 M := by
  rw [r9_pickHeaviest]
  simp
def f9_pickHeaviest (n : Nat)  (M : Mem) : Option (Unit × Mem) := b9_pickHeaviest_0 (r9_pickHeaviest n) n M
abbrev rm9_pickHeaviest : Room := { frames := 1, cells := 0, slots := 0, locals := 21 }
theorem y9_pickHeaviest_w : yV RX9 yX9_pickHeaviest cX9_pickHeaviest 5 none 0 := ⟨g_848, g_849, g_9, g_850, rfl, by decide, by decide, by decide +kernel⟩
set_option maxHeartbeats 4000000 in
set_option maxRecDepth 100000 in
theorem w9_pickHeaviest_62 {p : Program} {l : Launch} {e : Env} {s : State} {m : MethodId} {args : Array Value} {below : List Frame} {meth : Method} {c : Code} {z : Zt} {b : Nat}  (C : Cx p s m args c cX9_pickHeaviest 5 RX9 z 339 b) (hr : meth.sig.returnType = none) (hk : meth.locks = false) {r : Unit} {M' : Mem} {rc : Nat → List Int32 → List Int64 → Mem → Option (Unit × Mem)} {n : Nat} (q6 : ∀ (i1 : Int32) (i2 : Int32) (i3 : Int32) (M : Mem) (H : Heap) (locs : List Loc) (ls : Array Slot), rc 6 [i1, i2, i3] [] M = some (r, M') → va_P z.1 vwCl (pw (xd z b) 339 b M) H → va_S (pA 339 b) s.heap H locs → lv_has ls 5 [(0, .ref (b + 25)), (1, .int i1), (2, .int i2), (3, .int i3)] → W p l e rm9_pickHeaviest s m args below meth c H locs 0 0 (MQ below (va_Qv (fun (M2 : Mem) => M2 = M') (fun M2 t => va_P z.1 vwCl (pw (xd z b) 339 b M2) t.heap) (pA 339 b)) args s 0 0 (pA 339 b)) (F0 m 6 ls [])) {i1 : Int32} {i2 : Int32} {i3 : Int32} {M : Mem} {H : Heap} {locs : List Loc} {ls : Array Slot} (hf : b9_pickHeaviest_62  rc n i1 i2 i3 M = some (r, M')) (hP : va_P z.1 vwCl (pw (xd z b) 339 b M) H) (hS : va_S (pA 339 b) s.heap H locs) (hl : lv_has ls 5 [(0, .ref (b + 25)), (1, .int i1), (2, .int i2), (3, .int i3)]) : W p l e rm9_pickHeaviest s m args below meth c H locs 0 0 (MQ below (va_Qv (fun (M2 : Mem) => M2 = M') (fun M2 t => va_P z.1 vwCl (pw (xd z b) 339 b M2) t.heap) (pA 339 b)) args s 0 0 (pA 339 b)) (F0 m 62 ls []) := by
  have hx := C.1.1
  have hb := C.1.2.1
  unfold b9_pickHeaviest_62 at hf
  obtain ⟨v15, ev15⟩ : ∃ v : Int32, v = i3 + (1 : Int32) := ⟨_, rfl⟩
  replace hf := lt_c ev15 hf
  refine lv_iinc (v := v15) (lv' := [(3, .int v15), (0, .ref (b + 25)), (1, .int i1), (2, .int i2)]) hx hb dX9_pickHeaviest_62 hl (k := 3) rfl (by rw [ev15]; rfl) (by decide) rfl (fun ls hl => ?_)
  refine lv_goto (tgt := 6) hx hb dX9_pickHeaviest_65 (by decide) ?_
  exact q6 i1 i2 v15 M _ _ _ hf hP hS (lv_sub hl [1, 2, 3, 0] rfl)
set_option maxHeartbeats 4000000 in
set_option maxRecDepth 100000 in
theorem w9_pickHeaviest_36 {p : Program} {l : Launch} {e : Env} {s : State} {m : MethodId} {args : Array Value} {below : List Frame} {meth : Method} {c : Code} {z : Zt} {b : Nat}  (C : Cx p s m args c cX9_pickHeaviest 5 RX9 z 339 b) (hr : meth.sig.returnType = none) (hk : meth.locks = false) {r : Unit} {M' : Mem} {rc : Nat → List Int32 → List Int64 → Mem → Option (Unit × Mem)} {n : Nat} (q6 : ∀ (i1 : Int32) (i2 : Int32) (i3 : Int32) (M : Mem) (H : Heap) (locs : List Loc) (ls : Array Slot), rc 6 [i1, i2, i3] [] M = some (r, M') → va_P z.1 vwCl (pw (xd z b) 339 b M) H → va_S (pA 339 b) s.heap H locs → lv_has ls 5 [(0, .ref (b + 25)), (1, .int i1), (2, .int i2), (3, .int i3)] → W p l e rm9_pickHeaviest s m args below meth c H locs 0 0 (MQ below (va_Qv (fun (M2 : Mem) => M2 = M') (fun M2 t => va_P z.1 vwCl (pw (xd z b) 339 b M2) t.heap) (pA 339 b)) args s 0 0 (pA 339 b)) (F0 m 6 ls [])) {i1 : Int32} {i2 : Int32} {i3 : Int32} {s0 : Int32} {M : Mem} {H : Heap} {locs : List Loc} {ls : Array Slot} (hf : b9_pickHeaviest_36  rc n i1 i2 i3 s0 M = some (r, M')) (hP : va_P z.1 vwCl (pw (xd z b) 339 b M) H) (hS : va_S (pA 339 b) s.heap H locs) (hl : lv_has ls 5 [(0, .ref (b + 25)), (1, .int i1), (2, .int i2), (3, .int i3)]) : W p l e rm9_pickHeaviest s m args below meth c H locs 0 0 (MQ below (va_Qv (fun (M2 : Mem) => M2 = M') (fun M2 t => va_P z.1 vwCl (pw (xd z b) 339 b M2) t.heap) (pA 339 b)) args s 0 0 (pA 339 b)) (F0 m 36 ls [.int s0]) := by
  have hx := C.1.1
  have hb := C.1.2.1
  unfold b9_pickHeaviest_36 at hf
  refine lv_istore (lv' := [(4, .int s0), (0, .ref (b + 25)), (1, .int i1), (2, .int i2), (3, .int i3)]) hx hb dX9_pickHeaviest_36 hl (by decide) rfl (fun ls hl => ?_)
  refine lv_iload hx hb dX9_pickHeaviest_38 (lv_at hl 0 rfl) ?_
  refine lv_if_eq (tgt := 62) hx hb dX9_pickHeaviest_40 (by decide) (fun c10 => ?_) (fun c10 => ?_)
  · replace hf := ite_t c10 hf
    exact w9_pickHeaviest_62 (n := n)  C hr hk q6 hf hP hS (lv_sub hl [1, 2, 3, 4] rfl)
  · replace hf := ite_f c10 hf
    refine lv_aload_n hx hb dX9_pickHeaviest_43 rfl (lv_at hl 1 rfl) ?_
    refine pg C hP (k := 25) (j := 1) (Nat.le_of_ble_eq_true rfl) (xd_25 _ _) rfl iw_9 (Nat.le_of_ble_eq_true rfl) g_215 rfl rfl dX9_pickHeaviest_44 ?_
    refine lv_iload_n hx hb dX9_pickHeaviest_47 rfl (lv_at hl 4 rfl) ?_
    have h11 := chk_1 hf
    replace hf := chk_2 hf
    refine paI C hP (k := 26) (Nat.le_of_ble_eq_true rfl) (xd_26 _ _) h11 dX9_pickHeaviest_48 ?_
    refine lv_iload_n hx hb dX9_pickHeaviest_49 rfl (lv_at hl 2 rfl) ?_
    refine lv_icmp_le (tgt := 62) hx hb dX9_pickHeaviest_50 (by decide) (fun c12 => ?_) (fun c12 => ?_)
    · replace hf := ite_t c12 hf
      exact w9_pickHeaviest_62 (n := n)  C hr hk q6 hf hP hS (lv_sub hl [1, 2, 3, 4] rfl)
    · replace hf := ite_f c12 hf
      refine lv_aload_n hx hb dX9_pickHeaviest_53 rfl (lv_at hl 1 rfl) ?_
      refine pg C hP (k := 25) (j := 1) (Nat.le_of_ble_eq_true rfl) (xd_25 _ _) rfl iw_9 (Nat.le_of_ble_eq_true rfl) g_215 rfl rfl dX9_pickHeaviest_54 ?_
      refine lv_iload_n hx hb dX9_pickHeaviest_57 rfl (lv_at hl 4 rfl) ?_
      have h13 := chk_1 hf
      replace hf := chk_2 hf
      refine paI C hP (k := 26) (Nat.le_of_ble_eq_true rfl) (xd_26 _ _) h13 dX9_pickHeaviest_58 ?_
      refine lv_topi (fun v14 ev14 => ?_)
      replace hf := lt_c ev14 hf
      refine lv_istore_n (lv' := [(1, .int v14), (4, .int s0), (0, .ref (b + 25)), (2, .int i2), (3, .int i3)]) hx hb dX9_pickHeaviest_59 rfl hl (by decide) rfl (fun ls hl => ?_)
      refine lv_iload_n hx hb dX9_pickHeaviest_60 rfl (lv_at hl 4 rfl) ?_
      refine lv_istore_n (lv' := [(2, .int i3), (1, .int v14), (4, .int s0), (0, .ref (b + 25)), (3, .int i3)]) hx hb dX9_pickHeaviest_61 rfl hl (by decide) rfl (fun ls hl => ?_)
      exact w9_pickHeaviest_62 (n := n)  C hr hk q6 hf hP hS (lv_sub hl [3, 1, 0, 4] rfl)
set_option maxHeartbeats 4000000 in
set_option maxRecDepth 100000 in
theorem w9_pickHeaviest_35 {p : Program} {l : Launch} {e : Env} {s : State} {m : MethodId} {args : Array Value} {below : List Frame} {meth : Method} {c : Code} {z : Zt} {b : Nat}  (C : Cx p s m args c cX9_pickHeaviest 5 RX9 z 339 b) (hr : meth.sig.returnType = none) (hk : meth.locks = false) {r : Unit} {M' : Mem} {rc : Nat → List Int32 → List Int64 → Mem → Option (Unit × Mem)} {n : Nat} (q6 : ∀ (i1 : Int32) (i2 : Int32) (i3 : Int32) (M : Mem) (H : Heap) (locs : List Loc) (ls : Array Slot), rc 6 [i1, i2, i3] [] M = some (r, M') → va_P z.1 vwCl (pw (xd z b) 339 b M) H → va_S (pA 339 b) s.heap H locs → lv_has ls 5 [(0, .ref (b + 25)), (1, .int i1), (2, .int i2), (3, .int i3)] → W p l e rm9_pickHeaviest s m args below meth c H locs 0 0 (MQ below (va_Qv (fun (M2 : Mem) => M2 = M') (fun M2 t => va_P z.1 vwCl (pw (xd z b) 339 b M2) t.heap) (pA 339 b)) args s 0 0 (pA 339 b)) (F0 m 6 ls [])) {i1 : Int32} {i2 : Int32} {i3 : Int32} {M : Mem} {H : Heap} {locs : List Loc} {ls : Array Slot} (hf : b9_pickHeaviest_35  rc n i1 i2 i3 M = some (r, M')) (hP : va_P z.1 vwCl (pw (xd z b) 339 b M) H) (hS : va_S (pA 339 b) s.heap H locs) (hl : lv_has ls 5 [(0, .ref (b + 25)), (1, .int i1), (2, .int i2), (3, .int i3)]) : W p l e rm9_pickHeaviest s m args below meth c H locs 0 0 (MQ below (va_Qv (fun (M2 : Mem) => M2 = M') (fun M2 t => va_P z.1 vwCl (pw (xd z b) 339 b M2) t.heap) (pA 339 b)) args s 0 0 (pA 339 b)) (F0 m 35 ls []) := by
  have hx := C.1.1
  have hb := C.1.2.1
  unfold b9_pickHeaviest_35 at hf
  refine lv_iconst (v := (0 : Int32)) hx hb dX9_pickHeaviest_35 (by decide) ?_
  exact w9_pickHeaviest_36 (n := n)  C hr hk q6 hf hP hS (lv_sub hl [0, 1, 2, 3] rfl)
set_option maxHeartbeats 4000000 in
set_option maxRecDepth 100000 in
theorem w9_pickHeaviest_6 {p : Program} {l : Launch} {e : Env} {s : State} {m : MethodId} {args : Array Value} {below : List Frame} {meth : Method} {c : Code} {z : Zt} {b : Nat}  (C : Cx p s m args c cX9_pickHeaviest 5 RX9 z 339 b) (hr : meth.sig.returnType = none) (hk : meth.locks = false) {r : Unit} {M' : Mem} {rc : Nat → List Int32 → List Int64 → Mem → Option (Unit × Mem)} {n : Nat} (q6 : ∀ (i1 : Int32) (i2 : Int32) (i3 : Int32) (M : Mem) (H : Heap) (locs : List Loc) (ls : Array Slot), rc 6 [i1, i2, i3] [] M = some (r, M') → va_P z.1 vwCl (pw (xd z b) 339 b M) H → va_S (pA 339 b) s.heap H locs → lv_has ls 5 [(0, .ref (b + 25)), (1, .int i1), (2, .int i2), (3, .int i3)] → W p l e rm9_pickHeaviest s m args below meth c H locs 0 0 (MQ below (va_Qv (fun (M2 : Mem) => M2 = M') (fun M2 t => va_P z.1 vwCl (pw (xd z b) 339 b M2) t.heap) (pA 339 b)) args s 0 0 (pA 339 b)) (F0 m 6 ls [])) {i1 : Int32} {i2 : Int32} {i3 : Int32} {M : Mem} {H : Heap} {locs : List Loc} {ls : Array Slot} (hf : b9_pickHeaviest_6  rc n i1 i2 i3 M = some (r, M')) (hP : va_P z.1 vwCl (pw (xd z b) 339 b M) H) (hS : va_S (pA 339 b) s.heap H locs) (hl : lv_has ls 5 [(0, .ref (b + 25)), (1, .int i1), (2, .int i2), (3, .int i3)]) : W p l e rm9_pickHeaviest s m args below meth c H locs 0 0 (MQ below (va_Qv (fun (M2 : Mem) => M2 = M') (fun M2 t => va_P z.1 vwCl (pw (xd z b) 339 b M2) t.heap) (pA 339 b)) args s 0 0 (pA 339 b)) (F0 m 6 ls []) := by
  have hx := C.1.1
  have hb := C.1.2.1
  unfold b9_pickHeaviest_6 at hf
  refine lv_iload_n hx hb dX9_pickHeaviest_6 rfl (lv_at hl 3 rfl) ?_
  refine lv_bipush (v := (24 : Int32)) hx hb dX9_pickHeaviest_7 (by decide) ?_
  refine lv_icmp_ge (tgt := 68) hx hb dX9_pickHeaviest_9 (by decide) (fun c1 => ?_) (fun c1 => ?_)
  · replace hf := ite_t c1 hf
    refine lv_iload_n hx hb dX9_pickHeaviest_68 rfl (lv_at hl 1 rfl) ?_
    refine lv_if_lt (tgt := 94) hx hb dX9_pickHeaviest_69 (by decide) (fun c2 => ?_) (fun c2 => ?_)
    · replace hf := ite_t c2 hf
      exact prV C hr hk hP hS hf dX9_pickHeaviest_94
    · replace hf := ite_f c2 hf
      refine lv_aload_n hx hb dX9_pickHeaviest_72 rfl (lv_at hl 0 rfl) ?_
      refine lv_dup hx hb dX9_pickHeaviest_73 rfl ?_
      refine pg C hP (k := 25) (j := 6) (Nat.le_of_ble_eq_true rfl) (xd_25 _ _) rfl iw_9 (Nat.le_of_ble_eq_true rfl) g_223 rfl rfl dX9_pickHeaviest_74 ?_
      refine lv_iconst (v := (1 : Int32)) hx hb dX9_pickHeaviest_77 (by decide) ?_
      refine lv_iload_n hx hb dX9_pickHeaviest_78 rfl (lv_at hl 2 rfl) ?_
      refine lv_ishl hx hb dX9_pickHeaviest_79 ?_
      refine lv_ior hx hb dX9_pickHeaviest_80 ?_
      refine ppI C hP hS (k := 25) (j := 6) (ty := .int) (Nat.le_of_ble_eq_true rfl) (xd_25 _ _) rfl iw_9 tyX9 tyX9_ok nmX9 (Nat.le_of_ble_eq_true rfl) g_223 rfl rfl (by decide +kernel) rfl rfl (Nat.le_of_ble_eq_true rfl) (xu_25_6 _ _ _) dX9_pickHeaviest_81 (fun M3 H locs eM3 hP hS => ?_)
      replace hf := lt_c eM3 hf
      refine lv_aload_n hx hb dX9_pickHeaviest_84 rfl (lv_at hl 0 rfl) ?_
      refine lv_dup hx hb dX9_pickHeaviest_85 rfl ?_
      refine pg C hP (k := 25) (j := 7) (Nat.le_of_ble_eq_true rfl) (xd_25 _ _) rfl iw_9 (Nat.le_of_ble_eq_true rfl) g_225 rfl rfl dX9_pickHeaviest_86 ?_
      refine lv_iload_n hx hb dX9_pickHeaviest_89 rfl (lv_at hl 1 rfl) ?_
      refine lv_iadd hx hb dX9_pickHeaviest_90 ?_
      refine ppI C hP hS (k := 25) (j := 7) (ty := .int) (Nat.le_of_ble_eq_true rfl) (xd_25 _ _) rfl iw_9 tyX9 tyX9_ok nmX9 (Nat.le_of_ble_eq_true rfl) g_225 rfl rfl (by decide +kernel) rfl rfl (Nat.le_of_ble_eq_true rfl) (xu_25_7 _ _ _) dX9_pickHeaviest_91 (fun M4 H locs eM4 hP hS => ?_)
      replace hf := lt_c eM4 hf
      exact prV C hr hk hP hS hf dX9_pickHeaviest_94
  · replace hf := ite_f c1 hf
    refine lv_aload_n hx hb dX9_pickHeaviest_12 rfl (lv_at hl 0 rfl) ?_
    refine lv_iload_n hx hb dX9_pickHeaviest_13 rfl (lv_at hl 3 rfl) ?_
    obtain ⟨r5, M6, h7, hf⟩ := bnd_s hf
    refine pcVi (As := [.int i3]) C hP hS (k := 25) (Nat.le_of_ble_eq_true rfl) (xd_25 _ _) rfl (c9_isWatched  h7) y9_isWatched_w g_835 rfl rfl rfl ⟨Nat.le_of_ble_eq_true rfl, Nat.le_of_ble_eq_true rfl⟩ hl.1 rfl (Nat.le_of_ble_eq_true rfl) dX9_pickHeaviest_14 ⟨Nat.le_of_ble_eq_true rfl, Nat.le_of_ble_eq_true rfl⟩ (fun H locs hP hS => ?_)
    refine lv_if_ne (tgt := 35) hx hb dX9_pickHeaviest_17 (by decide) (fun c8 => ?_) (fun c8 => ?_)
    · replace hf := ite_f c8 hf
      exact w9_pickHeaviest_35 (n := n)  C hr hk q6 hf hP hS (lv_sub hl [0, 1, 2, 3] rfl)
    · replace hf := ite_t c8 hf
      refine lv_aload_n hx hb dX9_pickHeaviest_20 rfl (lv_at hl 0 rfl) ?_
      refine pg C hP (k := 25) (j := 6) (Nat.le_of_ble_eq_true rfl) (xd_25 _ _) rfl iw_9 (Nat.le_of_ble_eq_true rfl) g_223 rfl rfl dX9_pickHeaviest_21 ?_
      refine lv_iload_n hx hb dX9_pickHeaviest_24 rfl (lv_at hl 3 rfl) ?_
      refine lv_ishr hx hb dX9_pickHeaviest_25 ?_
      refine lv_iconst (v := (1 : Int32)) hx hb dX9_pickHeaviest_26 (by decide) ?_
      refine lv_iand hx hb dX9_pickHeaviest_27 ?_
      refine lv_if_ne (tgt := 35) hx hb dX9_pickHeaviest_28 (by decide) (fun c9 => ?_) (fun c9 => ?_)
      · replace hf := ite_f c9 hf
        exact w9_pickHeaviest_35 (n := n)  C hr hk q6 hf hP hS (lv_sub hl [0, 1, 2, 3] rfl)
      · replace hf := ite_t c9 hf
        refine lv_iconst (v := (1 : Int32)) hx hb dX9_pickHeaviest_31 (by decide) ?_
        refine lv_goto (tgt := 36) hx hb dX9_pickHeaviest_32 (by decide) ?_
        exact w9_pickHeaviest_36 (n := n)  C hr hk q6 hf hP hS (lv_sub hl [0, 1, 2, 3] rfl)
set_option maxHeartbeats 4000000 in
set_option maxRecDepth 100000 in
theorem w9_pickHeaviest_0 {p : Program} {l : Launch} {e : Env} {s : State} {m : MethodId} {args : Array Value} {below : List Frame} {meth : Method} {c : Code} {z : Zt} {b : Nat}  (C : Cx p s m args c cX9_pickHeaviest 5 RX9 z 339 b) (hr : meth.sig.returnType = none) (hk : meth.locks = false) {r : Unit} {M' : Mem} {rc : Nat → List Int32 → List Int64 → Mem → Option (Unit × Mem)} {n : Nat} (q6 : ∀ (i1 : Int32) (i2 : Int32) (i3 : Int32) (M : Mem) (H : Heap) (locs : List Loc) (ls : Array Slot), rc 6 [i1, i2, i3] [] M = some (r, M') → va_P z.1 vwCl (pw (xd z b) 339 b M) H → va_S (pA 339 b) s.heap H locs → lv_has ls 5 [(0, .ref (b + 25)), (1, .int i1), (2, .int i2), (3, .int i3)] → W p l e rm9_pickHeaviest s m args below meth c H locs 0 0 (MQ below (va_Qv (fun (M2 : Mem) => M2 = M') (fun M2 t => va_P z.1 vwCl (pw (xd z b) 339 b M2) t.heap) (pA 339 b)) args s 0 0 (pA 339 b)) (F0 m 6 ls []))  {M : Mem} {H : Heap} {locs : List Loc} {ls : Array Slot} (hf : b9_pickHeaviest_0  rc n  M = some (r, M')) (hP : va_P z.1 vwCl (pw (xd z b) 339 b M) H) (hS : va_S (pA 339 b) s.heap H locs) (hl : lv_has ls 5 [(0, .ref (b + 25))]) : W p l e rm9_pickHeaviest s m args below meth c H locs 0 0 (MQ below (va_Qv (fun (M2 : Mem) => M2 = M') (fun M2 t => va_P z.1 vwCl (pw (xd z b) 339 b M2) t.heap) (pA 339 b)) args s 0 0 (pA 339 b)) (F0 m 0 ls []) := by
  have hx := C.1.1
  have hb := C.1.2.1
  unfold b9_pickHeaviest_0 at hf
  refine lv_iconst (v := (-1 : Int32)) hx hb dX9_pickHeaviest_0 (by decide) ?_
  refine lv_istore_n (lv' := [(1, .int (-1 : Int32)), (0, .ref (b + 25))]) hx hb dX9_pickHeaviest_1 rfl hl (by decide) rfl (fun ls hl => ?_)
  refine lv_iconst (v := (0 : Int32)) hx hb dX9_pickHeaviest_2 (by decide) ?_
  refine lv_istore_n (lv' := [(2, .int (0 : Int32)), (1, .int (-1 : Int32)), (0, .ref (b + 25))]) hx hb dX9_pickHeaviest_3 rfl hl (by decide) rfl (fun ls hl => ?_)
  refine lv_iconst (v := (0 : Int32)) hx hb dX9_pickHeaviest_4 (by decide) ?_
  refine lv_istore_n (lv' := [(3, .int (0 : Int32)), (2, .int (0 : Int32)), (1, .int (-1 : Int32)), (0, .ref (b + 25))]) hx hb dX9_pickHeaviest_5 rfl hl (by decide) rfl (fun ls hl => ?_)
  exact w9_pickHeaviest_6 (n := n)  C hr hk q6 hf hP hS (lv_sub hl [3, 2, 1, 0] rfl)
set_option maxHeartbeats 4000000 in
set_option maxRecDepth 100000 in
theorem l9_pickHeaviest {p : Program} {l : Launch} {e : Env} {s : State} {m : MethodId} {args : Array Value} {below : List Frame} {meth : Method} {c : Code} {z : Zt} {b : Nat}  (C : Cx p s m args c cX9_pickHeaviest 5 RX9 z 339 b) (hr : meth.sig.returnType = none) (hk : meth.locks = false) {r : Unit} {M' : Mem} (n : Nat) : (∀ (i1 : Int32) (i2 : Int32) (i3 : Int32) (M : Mem) (H : Heap) (locs : List Loc) (ls : Array Slot), (r9_pickHeaviest  n) 6 [i1, i2, i3] [] M = some (r, M') → va_P z.1 vwCl (pw (xd z b) 339 b M) H → va_S (pA 339 b) s.heap H locs → lv_has ls 5 [(0, .ref (b + 25)), (1, .int i1), (2, .int i2), (3, .int i3)] → W p l e rm9_pickHeaviest s m args below meth c H locs 0 0 (MQ below (va_Qv (fun (M2 : Mem) => M2 = M') (fun M2 t => va_P z.1 vwCl (pw (xd z b) 339 b M2) t.heap) (pA 339 b)) args s 0 0 (pA 339 b)) (F0 m 6 ls [])) := by
  induction n with
  | zero => exact fun _ _ _ _ _ _ _ hf => (by cases hf)
  | succ n ih => exact fun _ _ _ _ _ _ _ hf hP hS hl => w9_pickHeaviest_6 (n := n)  C hr hk ih ((e9_pickHeaviest_6  n _ _ _ _).symm.trans hf) hP hS hl
theorem c9_pickHeaviest {l : Launch} {z : Zt} {b n : Nat}   {M M' : Mem} {r : Unit} (hf : f9_pickHeaviest n   M = some (r, M')) : CV l z (xd z b) 339 b yX9_pickHeaviest cX9_pickHeaviest 5 none rm9_pickHeaviest [.ref (b + 25)] M M' :=
  CV.ofW (lv := [(0, .ref (b + 25))]) (by decide) (Nat.le_of_ble_eq_true rfl) rfl (fun p e s m args below meth c ls C hr hk hP hS hl => w9_pickHeaviest_0 (n := n)  C hr hk (l9_pickHeaviest  C hr hk n) hf hP hS hl)

-- BronzeKing$Vigil.readHour(LBronzeKing$Tape;I)I
theorem dX9_readHour_0 : decode cX9_readHour 0 = .ok (.aload_n 0, 1) := by decide +kernel
theorem dX9_readHour_1 : decode cX9_readHour 1 = .ok (.getfield 22, 3) := by decide +kernel
theorem dX9_readHour_4 : decode cX9_readHour 4 = .ok (.istore_n 3, 1) := by decide +kernel
theorem dX9_readHour_5 : decode cX9_readHour 5 = .ok (.iconst 0, 1) := by decide +kernel
theorem dX9_readHour_6 : decode cX9_readHour 6 = .ok (.istore 4, 2) := by decide +kernel
theorem dX9_readHour_8 : decode cX9_readHour 8 = .ok (.aload_n 0, 1) := by decide +kernel
theorem dX9_readHour_9 : decode cX9_readHour 9 = .ok (.getfield 22, 3) := by decide +kernel
theorem dX9_readHour_12 : decode cX9_readHour 12 = .ok (.iload_n 2, 1) := by decide +kernel
theorem dX9_readHour_13 : decode cX9_readHour 13 = .ok (.if_icmp .ge 70, 3) := by decide +kernel
theorem dX9_readHour_16 : decode cX9_readHour 16 = .ok (.aload_n 1, 1) := by decide +kernel
theorem dX9_readHour_17 : decode cX9_readHour 17 = .ok (.aload_n 0, 1) := by decide +kernel
theorem dX9_readHour_18 : decode cX9_readHour 18 = .ok (.getfield 22, 3) := by decide +kernel
theorem dX9_readHour_21 : decode cX9_readHour 21 = .ok (.iload_n 2, 1) := by decide +kernel
theorem dX9_readHour_22 : decode cX9_readHour 22 = .ok (.invokevirtual 52, 3) := by decide +kernel
theorem dX9_readHour_25 : decode cX9_readHour 25 = .ok (.invokestatic 59, 3) := by decide +kernel
theorem dX9_readHour_28 : decode cX9_readHour 28 = .ok (.ifCond .eq 55, 3) := by decide +kernel
theorem dX9_readHour_31 : decode cX9_readHour 31 = .ok (.aload_n 0, 1) := by decide +kernel
theorem dX9_readHour_32 : decode cX9_readHour 32 = .ok (.getfield 22, 3) := by decide +kernel
theorem dX9_readHour_35 : decode cX9_readHour 35 = .ok (.iload_n 3, 1) := by decide +kernel
theorem dX9_readHour_36 : decode cX9_readHour 36 = .ok (.iconst 2, 1) := by decide +kernel
theorem dX9_readHour_37 : decode cX9_readHour 37 = .ok (.iadd, 1) := by decide +kernel
theorem dX9_readHour_38 : decode cX9_readHour 38 = .ok (.if_icmp .ne 12, 3) := by decide +kernel
theorem dX9_readHour_41 : decode cX9_readHour 41 = .ok (.iconst 2, 1) := by decide +kernel
theorem dX9_readHour_42 : decode cX9_readHour 42 = .ok (.aload_n 0, 1) := by decide +kernel
theorem dX9_readHour_43 : decode cX9_readHour 43 = .ok (.getfield 22, 3) := by decide +kernel
theorem dX9_readHour_46 : decode cX9_readHour 46 = .ok (.invokestatic 56, 3) := by decide +kernel
theorem dX9_readHour_49 : decode cX9_readHour 49 = .ok (.ireturn, 1) := by decide +kernel
theorem dX9_readHour_50 : decode cX9_readHour 50 = .ok (.bipush 10, 2) := by decide +kernel
theorem dX9_readHour_52 : decode cX9_readHour 52 = .ok (.iload 4, 2) := by decide +kernel
theorem dX9_readHour_54 : decode cX9_readHour 54 = .ok (.imul, 1) := by decide +kernel
theorem dX9_readHour_55 : decode cX9_readHour 55 = .ok (.aload_n 1, 1) := by decide +kernel
theorem dX9_readHour_56 : decode cX9_readHour 56 = .ok (.aload_n 0, 1) := by decide +kernel
theorem dX9_readHour_57 : decode cX9_readHour 57 = .ok (.getfield 22, 3) := by decide +kernel
theorem dX9_readHour_60 : decode cX9_readHour 60 = .ok (.iload_n 2, 1) := by decide +kernel
theorem dX9_readHour_61 : decode cX9_readHour 61 = .ok (.invokevirtual 52, 3) := by decide +kernel
theorem dX9_readHour_64 : decode cX9_readHour 64 = .ok (.iadd, 1) := by decide +kernel
theorem dX9_readHour_65 : decode cX9_readHour 65 = .ok (.bipush 48, 2) := by decide +kernel
theorem dX9_readHour_67 : decode cX9_readHour 67 = .ok (.isub, 1) := by decide +kernel
theorem dX9_readHour_68 : decode cX9_readHour 68 = .ok (.istore 4, 2) := by decide +kernel
theorem dX9_readHour_70 : decode cX9_readHour 70 = .ok (.aload_n 0, 1) := by decide +kernel
theorem dX9_readHour_71 : decode cX9_readHour 71 = .ok (.dup, 1) := by decide +kernel
theorem dX9_readHour_72 : decode cX9_readHour 72 = .ok (.getfield 22, 3) := by decide +kernel
theorem dX9_readHour_75 : decode cX9_readHour 75 = .ok (.iconst 1, 1) := by decide +kernel
theorem dX9_readHour_76 : decode cX9_readHour 76 = .ok (.iadd, 1) := by decide +kernel
theorem dX9_readHour_77 : decode cX9_readHour 77 = .ok (.putfield 22, 3) := by decide +kernel
theorem dX9_readHour_80 : decode cX9_readHour 80 = .ok (.goto (-72), 3) := by decide +kernel
theorem dX9_readHour_83 : decode cX9_readHour 83 = .ok (.aload_n 0, 1) := by decide +kernel
theorem dX9_readHour_84 : decode cX9_readHour 84 = .ok (.getfield 22, 3) := by decide +kernel
theorem dX9_readHour_87 : decode cX9_readHour 87 = .ok (.iload_n 3, 1) := by decide +kernel
theorem dX9_readHour_88 : decode cX9_readHour 88 = .ok (.if_icmp .ne 12, 3) := by decide +kernel
theorem dX9_readHour_91 : decode cX9_readHour 91 = .ok (.iconst 1, 1) := by decide +kernel
theorem dX9_readHour_92 : decode cX9_readHour 92 = .ok (.aload_n 0, 1) := by decide +kernel
theorem dX9_readHour_93 : decode cX9_readHour 93 = .ok (.getfield 22, 3) := by decide +kernel
theorem dX9_readHour_96 : decode cX9_readHour 96 = .ok (.invokestatic 56, 3) := by decide +kernel
theorem dX9_readHour_99 : decode cX9_readHour 99 = .ok (.ireturn, 1) := by decide +kernel
theorem dX9_readHour_100 : decode cX9_readHour 100 = .ok (.iload 4, 2) := by decide +kernel
theorem dX9_readHour_102 : decode cX9_readHour 102 = .ok (.bipush 24, 2) := by decide +kernel
theorem dX9_readHour_104 : decode cX9_readHour 104 = .ok (.if_icmp .lt 11, 3) := by decide +kernel
theorem dX9_readHour_107 : decode cX9_readHour 107 = .ok (.iconst 3, 1) := by decide +kernel
theorem dX9_readHour_108 : decode cX9_readHour 108 = .ok (.iload_n 3, 1) := by decide +kernel
theorem dX9_readHour_109 : decode cX9_readHour 109 = .ok (.invokestatic 56, 3) := by decide +kernel
theorem dX9_readHour_112 : decode cX9_readHour 112 = .ok (.goto 5, 3) := by decide +kernel
theorem dX9_readHour_115 : decode cX9_readHour 115 = .ok (.iload 4, 2) := by decide +kernel
theorem dX9_readHour_117 : decode cX9_readHour 117 = .ok (.ireturn, 1) := by decide +kernel
def b9_readHour_83 (rc : Nat → List Int32 → List Int64 → Mem → Option (Int32 × Mem)) (n : Nat) (i3 : Int32) (i4 : Int32) (M : Mem) : Option (Int32 × Mem) :=
  (if (M.1 25 4) = i3 then (
   bnd (f11_faultAt n (1 : Int32) (M.1 25 4) M) fun r24 M25 =>
   some (r24, M25))
  else (
   (if i4 < (24 : Int32) then (
    some (i4, M))
   else (
    bnd (f11_faultAt n (3 : Int32) i3 M) fun r21 M22 =>
    some (r21, M22)))))
def b9_readHour_8 (rc : Nat → List Int32 → List Int64 → Mem → Option (Int32 × Mem)) (n : Nat) (i2 : Int32) (i3 : Int32) (i4 : Int32) (M : Mem) : Option (Int32 × Mem) :=
  (if i2 ≤ (M.1 25 4) then (
   b9_readHour_83  rc n i3 i4 M)
  else (
   bnd (f7_at n (M.1 25 4) i2 M) fun r3 M4 =>
   bnd (f11_isDigit n r3 M4) fun r6 M7 =>
   (if r6 = 0 then (
    b9_readHour_83  rc n i3 i4 M7)
   else (
    (if (M7.1 25 4) = (i3 + (2 : Int32)) then (
     bnd (f11_faultAt n (2 : Int32) (M7.1 25 4) M7) fun r16 M17 =>
     some (r16, M17))
    else (
     bnd (f7_at n (M7.1 25 4) i2 M7) fun r11 M12 =>
     lt ((((10 : Int32) * i4) + r11) - (48 : Int32)) fun v14 =>
     lt (wI M12 25 4 ((M12.1 25 4) + (1 : Int32))) fun M15 =>
     rc 8 [i2, i3, v14] [] M15))))))
def b9_readHour_0 (rc : Nat → List Int32 → List Int64 → Mem → Option (Int32 × Mem)) (n : Nat) (a2 : Int32) (M : Mem) : Option (Int32 × Mem) :=
  lt (M.1 25 4) fun v1 =>
  b9_readHour_8  rc n a2 v1 (0 : Int32) M
def r9_readHour : Nat → Nat → List Int32 → List Int64 → Mem → Option (Int32 × Mem)
  | 0 => fun _ _ _ _ => none
  | n + 1 => fun pc li lj M =>
    if pc = 8 then (match li, lj with | [i2, i3, i4], [] => b9_readHour_8  (r9_readHour  n) n i2 i3 i4 M | _, _ => none) else
    none
theorem e9_readHour_8  (n : Nat) (i2 : Int32) (i3 : Int32) (i4 : Int32) (M : Mem) : r9_readHour  (n + 1) 8 [i2, i3, i4] [] M = b9_readHour_8  (r9_readHour  n) n i2 i3 i4 M := by
  rw [r9_readHour]
  simp
def f9_readHour (n : Nat) (a2 : Int32) (M : Mem) : Option (Int32 × Mem) := b9_readHour_0 (r9_readHour n) n a2 M
abbrev rm9_readHour : Room := { frames := 1, cells := 0, slots := 0, locals := 22 }
theorem y9_readHour_w : yV RX9 yX9_readHour cX9_readHour 5 (some .int) 2 := ⟨g_705, gp 18 rfl rfl, g_9, g_706, rfl, by decide, by decide, by decide +kernel⟩
set_option maxHeartbeats 4000000 in
set_option maxRecDepth 100000 in
theorem w9_readHour_83 {p : Program} {l : Launch} {e : Env} {s : State} {m : MethodId} {args : Array Value} {below : List Frame} {meth : Method} {c : Code} {z : Zt} {b : Nat}  (C : Cx p s m args c cX9_readHour 5 RX9 z 339 b) (hr : meth.sig.returnType = (some .int)) (hk : meth.locks = false) {r : Int32} {M' : Mem} {rc : Nat → List Int32 → List Int64 → Mem → Option (Int32 × Mem)} {n : Nat} (q8 : ∀ (i2 : Int32) (i3 : Int32) (i4 : Int32) (M : Mem) (H : Heap) (locs : List Loc) (ls : Array Slot), rc 8 [i2, i3, i4] [] M = some (r, M') → va_P z.1 vwCl (pw (xd z b) 339 b M) H → va_S (pA 339 b) s.heap H locs → lv_has ls 5 [(0, .ref (b + 25)), (1, .ref (b + 1)), (2, .int i2), (3, .int i3), (4, .int i4)] → W p l e rm9_readHour s m args below meth c H locs 0 0 (MQ below (va_Qi (fun (r' : Int32) (M2 : Mem) => r' = r ∧ M2 = M') (fun M2 t => va_P z.1 vwCl (pw (xd z b) 339 b M2) t.heap) (pA 339 b)) args s 0 0 (pA 339 b)) (F0 m 8 ls [])) {i3 : Int32} {i4 : Int32} {M : Mem} {H : Heap} {locs : List Loc} {ls : Array Slot} (hf : b9_readHour_83  rc n i3 i4 M = some (r, M')) (hP : va_P z.1 vwCl (pw (xd z b) 339 b M) H) (hS : va_S (pA 339 b) s.heap H locs) (hl : lv_has ls 5 [(0, .ref (b + 25)), (3, .int i3), (4, .int i4)]) : W p l e rm9_readHour s m args below meth c H locs 0 0 (MQ below (va_Qi (fun (r' : Int32) (M2 : Mem) => r' = r ∧ M2 = M') (fun M2 t => va_P z.1 vwCl (pw (xd z b) 339 b M2) t.heap) (pA 339 b)) args s 0 0 (pA 339 b)) (F0 m 83 ls []) := by
  have hx := C.1.1
  have hb := C.1.2.1
  unfold b9_readHour_83 at hf
  refine lv_aload_n hx hb dX9_readHour_83 rfl (lv_at hl 0 rfl) ?_
  refine pg C hP (k := 25) (j := 4) (Nat.le_of_ble_eq_true rfl) (xd_25 _ _) rfl iw_9 (Nat.le_of_ble_eq_true rfl) g_220 rfl rfl dX9_readHour_84 ?_
  refine lv_iload_n hx hb dX9_readHour_87 rfl (lv_at hl 1 rfl) ?_
  refine lv_icmp_ne (tgt := 100) hx hb dX9_readHour_88 (by decide) (fun c19 => ?_) (fun c19 => ?_)
  · replace hf := ite_f c19 hf
    refine lv_iload hx hb dX9_readHour_100 (lv_at hl 2 rfl) ?_
    refine lv_bipush (v := (24 : Int32)) hx hb dX9_readHour_102 (by decide) ?_
    refine lv_icmp_lt (tgt := 115) hx hb dX9_readHour_104 (by decide) (fun c20 => ?_) (fun c20 => ?_)
    · replace hf := ite_t c20 hf
      refine lv_iload hx hb dX9_readHour_115 (lv_at hl 2 rfl) ?_
      exact prI C hr hk hP hS hf dX9_readHour_117
    · replace hf := ite_f c20 hf
      refine lv_iconst (v := (3 : Int32)) hx hb dX9_readHour_107 (by decide) ?_
      refine lv_iload_n hx hb dX9_readHour_108 rfl (lv_at hl 1 rfl) ?_
      obtain ⟨r21, M22, h23, hf⟩ := bnd_s hf
      refine pcTi (As := [.int (3 : Int32), .int i3]) C hP hS (c11_faultAt  h23) y11_faultAt_w g_709 rfl rfl rfl ⟨Nat.le_of_ble_eq_true rfl, Nat.le_of_ble_eq_true rfl⟩ hl.1 rfl (Nat.le_of_ble_eq_true rfl) dX9_readHour_109 ⟨Nat.le_of_ble_eq_true rfl, Nat.le_of_ble_eq_true rfl⟩ (fun H locs hP hS => ?_)
      refine lv_goto (tgt := 117) hx hb dX9_readHour_112 (by decide) ?_
      exact prI C hr hk hP hS hf dX9_readHour_117
  · replace hf := ite_t c19 hf
    refine lv_iconst (v := (1 : Int32)) hx hb dX9_readHour_91 (by decide) ?_
    refine lv_aload_n hx hb dX9_readHour_92 rfl (lv_at hl 0 rfl) ?_
    refine pg C hP (k := 25) (j := 4) (Nat.le_of_ble_eq_true rfl) (xd_25 _ _) rfl iw_9 (Nat.le_of_ble_eq_true rfl) g_220 rfl rfl dX9_readHour_93 ?_
    obtain ⟨r24, M25, h26, hf⟩ := bnd_s hf
    refine pcTi (As := [.int (1 : Int32), .int (M.1 25 4)]) C hP hS (c11_faultAt  h26) y11_faultAt_w g_709 rfl rfl rfl ⟨Nat.le_of_ble_eq_true rfl, Nat.le_of_ble_eq_true rfl⟩ hl.1 rfl (Nat.le_of_ble_eq_true rfl) dX9_readHour_96 ⟨Nat.le_of_ble_eq_true rfl, Nat.le_of_ble_eq_true rfl⟩ (fun H locs hP hS => ?_)
    exact prI C hr hk hP hS hf dX9_readHour_99
set_option maxHeartbeats 4000000 in
set_option maxRecDepth 100000 in
theorem w9_readHour_8 {p : Program} {l : Launch} {e : Env} {s : State} {m : MethodId} {args : Array Value} {below : List Frame} {meth : Method} {c : Code} {z : Zt} {b : Nat}  (C : Cx p s m args c cX9_readHour 5 RX9 z 339 b) (hr : meth.sig.returnType = (some .int)) (hk : meth.locks = false) {r : Int32} {M' : Mem} {rc : Nat → List Int32 → List Int64 → Mem → Option (Int32 × Mem)} {n : Nat} (q8 : ∀ (i2 : Int32) (i3 : Int32) (i4 : Int32) (M : Mem) (H : Heap) (locs : List Loc) (ls : Array Slot), rc 8 [i2, i3, i4] [] M = some (r, M') → va_P z.1 vwCl (pw (xd z b) 339 b M) H → va_S (pA 339 b) s.heap H locs → lv_has ls 5 [(0, .ref (b + 25)), (1, .ref (b + 1)), (2, .int i2), (3, .int i3), (4, .int i4)] → W p l e rm9_readHour s m args below meth c H locs 0 0 (MQ below (va_Qi (fun (r' : Int32) (M2 : Mem) => r' = r ∧ M2 = M') (fun M2 t => va_P z.1 vwCl (pw (xd z b) 339 b M2) t.heap) (pA 339 b)) args s 0 0 (pA 339 b)) (F0 m 8 ls [])) {i2 : Int32} {i3 : Int32} {i4 : Int32} {M : Mem} {H : Heap} {locs : List Loc} {ls : Array Slot} (hf : b9_readHour_8  rc n i2 i3 i4 M = some (r, M')) (hP : va_P z.1 vwCl (pw (xd z b) 339 b M) H) (hS : va_S (pA 339 b) s.heap H locs) (hl : lv_has ls 5 [(0, .ref (b + 25)), (1, .ref (b + 1)), (2, .int i2), (3, .int i3), (4, .int i4)]) : W p l e rm9_readHour s m args below meth c H locs 0 0 (MQ below (va_Qi (fun (r' : Int32) (M2 : Mem) => r' = r ∧ M2 = M') (fun M2 t => va_P z.1 vwCl (pw (xd z b) 339 b M2) t.heap) (pA 339 b)) args s 0 0 (pA 339 b)) (F0 m 8 ls []) := by
  have hx := C.1.1
  have hb := C.1.2.1
  unfold b9_readHour_8 at hf
  refine lv_aload_n hx hb dX9_readHour_8 rfl (lv_at hl 0 rfl) ?_
  refine pg C hP (k := 25) (j := 4) (Nat.le_of_ble_eq_true rfl) (xd_25 _ _) rfl iw_9 (Nat.le_of_ble_eq_true rfl) g_220 rfl rfl dX9_readHour_9 ?_
  refine lv_iload_n hx hb dX9_readHour_12 rfl (lv_at hl 2 rfl) ?_
  refine lv_icmp_ge (tgt := 83) hx hb dX9_readHour_13 (by decide) (fun c2 => ?_) (fun c2 => ?_)
  · replace hf := ite_t c2 hf
    exact w9_readHour_83 (n := n)  C hr hk q8 hf hP hS (lv_sub hl [0, 3, 4] rfl)
  · replace hf := ite_f c2 hf
    refine lv_aload_n hx hb dX9_readHour_16 rfl (lv_at hl 1 rfl) ?_
    refine lv_aload_n hx hb dX9_readHour_17 rfl (lv_at hl 0 rfl) ?_
    refine pg C hP (k := 25) (j := 4) (Nat.le_of_ble_eq_true rfl) (xd_25 _ _) rfl iw_9 (Nat.le_of_ble_eq_true rfl) g_220 rfl rfl dX9_readHour_18 ?_
    refine lv_iload_n hx hb dX9_readHour_21 rfl (lv_at hl 2 rfl) ?_
    obtain ⟨r3, M4, h5, hf⟩ := bnd_s hf
    refine pcVi (As := [.int (M.1 25 4), .int i2]) C hP hS (k := 1) (Nat.le_of_ble_eq_true rfl) (xd_1 _ _) rfl (c7_at  h5) y7_at_w g_707 rfl rfl rfl ⟨Nat.le_of_ble_eq_true rfl, Nat.le_of_ble_eq_true rfl⟩ hl.1 rfl (Nat.le_of_ble_eq_true rfl) dX9_readHour_22 ⟨Nat.le_of_ble_eq_true rfl, Nat.le_of_ble_eq_true rfl⟩ (fun H locs hP hS => ?_)
    obtain ⟨r6, M7, h8, hf⟩ := bnd_s hf
    refine pcTi (As := [.int r3]) C hP hS (c11_isDigit  h8) y11_isDigit_w g_708 rfl rfl rfl ⟨Nat.le_of_ble_eq_true rfl, Nat.le_of_ble_eq_true rfl⟩ hl.1 rfl (Nat.le_of_ble_eq_true rfl) dX9_readHour_25 ⟨Nat.le_of_ble_eq_true rfl, Nat.le_of_ble_eq_true rfl⟩ (fun H locs hP hS => ?_)
    refine lv_if_eq (tgt := 83) hx hb dX9_readHour_28 (by decide) (fun c9 => ?_) (fun c9 => ?_)
    · replace hf := ite_t c9 hf
      exact w9_readHour_83 (n := n)  C hr hk q8 hf hP hS (lv_sub hl [0, 3, 4] rfl)
    · replace hf := ite_f c9 hf
      refine lv_aload_n hx hb dX9_readHour_31 rfl (lv_at hl 0 rfl) ?_
      refine pg C hP (k := 25) (j := 4) (Nat.le_of_ble_eq_true rfl) (xd_25 _ _) rfl iw_9 (Nat.le_of_ble_eq_true rfl) g_220 rfl rfl dX9_readHour_32 ?_
      refine lv_iload_n hx hb dX9_readHour_35 rfl (lv_at hl 3 rfl) ?_
      refine lv_iconst (v := (2 : Int32)) hx hb dX9_readHour_36 (by decide) ?_
      refine lv_iadd hx hb dX9_readHour_37 ?_
      refine lv_icmp_ne (tgt := 50) hx hb dX9_readHour_38 (by decide) (fun c10 => ?_) (fun c10 => ?_)
      · replace hf := ite_f c10 hf
        refine lv_bipush (v := (10 : Int32)) hx hb dX9_readHour_50 (by decide) ?_
        refine lv_iload hx hb dX9_readHour_52 (lv_at hl 4 rfl) ?_
        refine lv_imul hx hb dX9_readHour_54 ?_
        refine lv_aload_n hx hb dX9_readHour_55 rfl (lv_at hl 1 rfl) ?_
        refine lv_aload_n hx hb dX9_readHour_56 rfl (lv_at hl 0 rfl) ?_
        refine pg C hP (k := 25) (j := 4) (Nat.le_of_ble_eq_true rfl) (xd_25 _ _) rfl iw_9 (Nat.le_of_ble_eq_true rfl) g_220 rfl rfl dX9_readHour_57 ?_
        refine lv_iload_n hx hb dX9_readHour_60 rfl (lv_at hl 2 rfl) ?_
        obtain ⟨r11, M12, h13, hf⟩ := bnd_s hf
        refine pcVi (As := [.int (M7.1 25 4), .int i2]) C hP hS (k := 1) (Nat.le_of_ble_eq_true rfl) (xd_1 _ _) rfl (c7_at  h13) y7_at_w g_707 rfl rfl rfl ⟨Nat.le_of_ble_eq_true rfl, Nat.le_of_ble_eq_true rfl⟩ hl.1 rfl (Nat.le_of_ble_eq_true rfl) dX9_readHour_61 ⟨Nat.le_of_ble_eq_true rfl, Nat.le_of_ble_eq_true rfl⟩ (fun H locs hP hS => ?_)
        refine lv_iadd hx hb dX9_readHour_64 ?_
        refine lv_bipush (v := (48 : Int32)) hx hb dX9_readHour_65 (by decide) ?_
        refine lv_isub hx hb dX9_readHour_67 ?_
        refine lv_topi (fun v14 ev14 => ?_)
        replace hf := lt_c ev14 hf
        refine lv_istore (lv' := [(4, .int v14), (0, .ref (b + 25)), (1, .ref (b + 1)), (2, .int i2), (3, .int i3)]) hx hb dX9_readHour_68 hl (by decide) rfl (fun ls hl => ?_)
        refine lv_aload_n hx hb dX9_readHour_70 rfl (lv_at hl 1 rfl) ?_
        refine lv_dup hx hb dX9_readHour_71 rfl ?_
        refine pg C hP (k := 25) (j := 4) (Nat.le_of_ble_eq_true rfl) (xd_25 _ _) rfl iw_9 (Nat.le_of_ble_eq_true rfl) g_220 rfl rfl dX9_readHour_72 ?_
        refine lv_iconst (v := (1 : Int32)) hx hb dX9_readHour_75 (by decide) ?_
        refine lv_iadd hx hb dX9_readHour_76 ?_
        refine ppI C hP hS (k := 25) (j := 4) (ty := .int) (Nat.le_of_ble_eq_true rfl) (xd_25 _ _) rfl iw_9 tyX9 tyX9_ok nmX9 (Nat.le_of_ble_eq_true rfl) g_220 rfl rfl (by decide +kernel) rfl rfl (Nat.le_of_ble_eq_true rfl) (xu_25_4 _ _ _) dX9_readHour_77 (fun M15 H locs eM15 hP hS => ?_)
        replace hf := lt_c eM15 hf
        refine lv_goto (tgt := 8) hx hb dX9_readHour_80 (by decide) ?_
        exact q8 i2 i3 v14 M15 _ _ _ hf hP hS (lv_sub hl [1, 2, 3, 4, 0] rfl)
      · replace hf := ite_t c10 hf
        refine lv_iconst (v := (2 : Int32)) hx hb dX9_readHour_41 (by decide) ?_
        refine lv_aload_n hx hb dX9_readHour_42 rfl (lv_at hl 0 rfl) ?_
        refine pg C hP (k := 25) (j := 4) (Nat.le_of_ble_eq_true rfl) (xd_25 _ _) rfl iw_9 (Nat.le_of_ble_eq_true rfl) g_220 rfl rfl dX9_readHour_43 ?_
        obtain ⟨r16, M17, h18, hf⟩ := bnd_s hf
        refine pcTi (As := [.int (2 : Int32), .int (M7.1 25 4)]) C hP hS (c11_faultAt  h18) y11_faultAt_w g_709 rfl rfl rfl ⟨Nat.le_of_ble_eq_true rfl, Nat.le_of_ble_eq_true rfl⟩ hl.1 rfl (Nat.le_of_ble_eq_true rfl) dX9_readHour_46 ⟨Nat.le_of_ble_eq_true rfl, Nat.le_of_ble_eq_true rfl⟩ (fun H locs hP hS => ?_)
        exact prI C hr hk hP hS hf dX9_readHour_49
set_option maxHeartbeats 4000000 in
set_option maxRecDepth 100000 in
theorem w9_readHour_0 {p : Program} {l : Launch} {e : Env} {s : State} {m : MethodId} {args : Array Value} {below : List Frame} {meth : Method} {c : Code} {z : Zt} {b : Nat}  (C : Cx p s m args c cX9_readHour 5 RX9 z 339 b) (hr : meth.sig.returnType = (some .int)) (hk : meth.locks = false) {r : Int32} {M' : Mem} {rc : Nat → List Int32 → List Int64 → Mem → Option (Int32 × Mem)} {n : Nat} (q8 : ∀ (i2 : Int32) (i3 : Int32) (i4 : Int32) (M : Mem) (H : Heap) (locs : List Loc) (ls : Array Slot), rc 8 [i2, i3, i4] [] M = some (r, M') → va_P z.1 vwCl (pw (xd z b) 339 b M) H → va_S (pA 339 b) s.heap H locs → lv_has ls 5 [(0, .ref (b + 25)), (1, .ref (b + 1)), (2, .int i2), (3, .int i3), (4, .int i4)] → W p l e rm9_readHour s m args below meth c H locs 0 0 (MQ below (va_Qi (fun (r' : Int32) (M2 : Mem) => r' = r ∧ M2 = M') (fun M2 t => va_P z.1 vwCl (pw (xd z b) 339 b M2) t.heap) (pA 339 b)) args s 0 0 (pA 339 b)) (F0 m 8 ls [])) {a2 : Int32} {M : Mem} {H : Heap} {locs : List Loc} {ls : Array Slot} (hf : b9_readHour_0  rc n a2 M = some (r, M')) (hP : va_P z.1 vwCl (pw (xd z b) 339 b M) H) (hS : va_S (pA 339 b) s.heap H locs) (hl : lv_has ls 5 [(0, .ref (b + 25)), (1, .ref (b + 1)), (2, .int a2)]) : W p l e rm9_readHour s m args below meth c H locs 0 0 (MQ below (va_Qi (fun (r' : Int32) (M2 : Mem) => r' = r ∧ M2 = M') (fun M2 t => va_P z.1 vwCl (pw (xd z b) 339 b M2) t.heap) (pA 339 b)) args s 0 0 (pA 339 b)) (F0 m 0 ls []) := by
  have hx := C.1.1
  have hb := C.1.2.1
  unfold b9_readHour_0 at hf
  refine lv_aload_n hx hb dX9_readHour_0 rfl (lv_at hl 0 rfl) ?_
  refine pg C hP (k := 25) (j := 4) (Nat.le_of_ble_eq_true rfl) (xd_25 _ _) rfl iw_9 (Nat.le_of_ble_eq_true rfl) g_220 rfl rfl dX9_readHour_1 ?_
  refine lv_topi (fun v1 ev1 => ?_)
  replace hf := lt_c ev1 hf
  refine lv_istore_n (lv' := [(3, .int v1), (0, .ref (b + 25)), (1, .ref (b + 1)), (2, .int a2)]) hx hb dX9_readHour_4 rfl hl (by decide) rfl (fun ls hl => ?_)
  refine lv_iconst (v := (0 : Int32)) hx hb dX9_readHour_5 (by decide) ?_
  refine lv_istore (lv' := [(4, .int (0 : Int32)), (3, .int v1), (0, .ref (b + 25)), (1, .ref (b + 1)), (2, .int a2)]) hx hb dX9_readHour_6 hl (by decide) rfl (fun ls hl => ?_)
  exact w9_readHour_8 (n := n)  C hr hk q8 hf hP hS (lv_sub hl [2, 3, 4, 1, 0] rfl)
set_option maxHeartbeats 4000000 in
set_option maxRecDepth 100000 in
theorem l9_readHour {p : Program} {l : Launch} {e : Env} {s : State} {m : MethodId} {args : Array Value} {below : List Frame} {meth : Method} {c : Code} {z : Zt} {b : Nat}  (C : Cx p s m args c cX9_readHour 5 RX9 z 339 b) (hr : meth.sig.returnType = (some .int)) (hk : meth.locks = false) {r : Int32} {M' : Mem} (n : Nat) : (∀ (i2 : Int32) (i3 : Int32) (i4 : Int32) (M : Mem) (H : Heap) (locs : List Loc) (ls : Array Slot), (r9_readHour  n) 8 [i2, i3, i4] [] M = some (r, M') → va_P z.1 vwCl (pw (xd z b) 339 b M) H → va_S (pA 339 b) s.heap H locs → lv_has ls 5 [(0, .ref (b + 25)), (1, .ref (b + 1)), (2, .int i2), (3, .int i3), (4, .int i4)] → W p l e rm9_readHour s m args below meth c H locs 0 0 (MQ below (va_Qi (fun (r' : Int32) (M2 : Mem) => r' = r ∧ M2 = M') (fun M2 t => va_P z.1 vwCl (pw (xd z b) 339 b M2) t.heap) (pA 339 b)) args s 0 0 (pA 339 b)) (F0 m 8 ls [])) := by
  induction n with
  | zero => exact fun _ _ _ _ _ _ _ hf => (by cases hf)
  | succ n ih => exact fun _ _ _ _ _ _ _ hf hP hS hl => w9_readHour_8 (n := n)  C hr hk ih ((e9_readHour_8  n _ _ _ _).symm.trans hf) hP hS hl
theorem c9_readHour {l : Launch} {z : Zt} {b n : Nat}  {a2 : Int32} {M M' : Mem} {r : Int32} (hf : f9_readHour n  a2 M = some (r, M')) : CI l z (xd z b) 339 b yX9_readHour cX9_readHour 5 (some .int) rm9_readHour [.ref (b + 25), .ref (b + 1), .int a2] M M' r :=
  CI.ofW (lv := [(0, .ref (b + 25)), (1, .ref (b + 1)), (2, .int a2)]) (by decide) (Nat.le_of_ble_eq_true rfl) rfl (fun p e s m args below meth c ls C hr hk hP hS hl => w9_readHour_0 (n := n)  C hr hk (l9_readHour  C hr hk n) hf hP hS hl)
