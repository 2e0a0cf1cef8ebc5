-- BronzeKingModel.daysGo(I)I
theorem dX12_daysGo_0 : decode cX12_daysGo 0 = .ok (.aload_n 0, 1) := by decide +kernel
theorem dX12_daysGo_1 : decode cX12_daysGo 1 = .ok (.iconst 0, 1) := by decide +kernel
theorem dX12_daysGo_2 : decode cX12_daysGo 2 = .ok (.putfield 308, 3) := by decide +kernel
theorem dX12_daysGo_5 : decode cX12_daysGo 5 = .ok (.aload_n 0, 1) := by decide +kernel
theorem dX12_daysGo_6 : decode cX12_daysGo 6 = .ok (.iconst 0, 1) := by decide +kernel
theorem dX12_daysGo_7 : decode cX12_daysGo 7 = .ok (.putfield 314, 3) := by decide +kernel
theorem dX12_daysGo_10 : decode cX12_daysGo 10 = .ok (.aload_n 0, 1) := by decide +kernel
theorem dX12_daysGo_11 : decode cX12_daysGo 11 = .ok (.iconst 0, 1) := by decide +kernel
theorem dX12_daysGo_12 : decode cX12_daysGo 12 = .ok (.putfield 311, 3) := by decide +kernel
theorem dX12_daysGo_15 : decode cX12_daysGo 15 = .ok (.bipush (-2), 2) := by decide +kernel
theorem dX12_daysGo_17 : decode cX12_daysGo 17 = .ok (.istore_n 2, 1) := by decide +kernel
theorem dX12_daysGo_18 : decode cX12_daysGo 18 = .ok (.iconst 0, 1) := by decide +kernel
theorem dX12_daysGo_19 : decode cX12_daysGo 19 = .ok (.istore_n 3, 1) := by decide +kernel
theorem dX12_daysGo_20 : decode cX12_daysGo 20 = .ok (.iload_n 3, 1) := by decide +kernel
theorem dX12_daysGo_21 : decode cX12_daysGo 21 = .ok (.iload_n 1, 1) := by decide +kernel
theorem dX12_daysGo_22 : decode cX12_daysGo 22 = .ok (.if_icmp .ge 36, 3) := by decide +kernel
theorem dX12_daysGo_25 : decode cX12_daysGo 25 = .ok (.aload_n 0, 1) := by decide +kernel
theorem dX12_daysGo_26 : decode cX12_daysGo 26 = .ok (.getfield 7, 3) := by decide +kernel
theorem dX12_daysGo_29 : decode cX12_daysGo 29 = .ok (.sipush 160, 3) := by decide +kernel
theorem dX12_daysGo_32 : decode cX12_daysGo 32 = .ok (.iaload, 1) := by decide +kernel
theorem dX12_daysGo_33 : decode cX12_daysGo 33 = .ok (.sipush 9999, 3) := by decide +kernel
theorem dX12_daysGo_36 : decode cX12_daysGo 36 = .ok (.if_icmp .ge 22, 3) := by decide +kernel
theorem dX12_daysGo_39 : decode cX12_daysGo 39 = .ok (.aload_n 0, 1) := by decide +kernel
theorem dX12_daysGo_40 : decode cX12_daysGo 40 = .ok (.invokevirtual 317, 3) := by decide +kernel
theorem dX12_daysGo_43 : decode cX12_daysGo 43 = .ok (.aload_n 0, 1) := by decide +kernel
theorem dX12_daysGo_44 : decode cX12_daysGo 44 = .ok (.getfield 7, 3) := by decide +kernel
theorem dX12_daysGo_47 : decode cX12_daysGo 47 = .ok (.sipush 156, 3) := by decide +kernel
theorem dX12_daysGo_50 : decode cX12_daysGo 50 = .ok (.iaload, 1) := by decide +kernel
theorem dX12_daysGo_51 : decode cX12_daysGo 51 = .ok (.istore_n 2, 1) := by decide +kernel
theorem dX12_daysGo_52 : decode cX12_daysGo 52 = .ok (.iinc 3 1, 3) := by decide +kernel
theorem dX12_daysGo_55 : decode cX12_daysGo 55 = .ok (.goto (-35), 3) := by decide +kernel
theorem dX12_daysGo_58 : decode cX12_daysGo 58 = .ok (.iload_n 2, 1) := by decide +kernel
theorem dX12_daysGo_59 : decode cX12_daysGo 59 = .ok (.ireturn, 1) := by decide +kernel
def b12_daysGo_58 (rc : Nat → List Int32 → List Int64 → Mem → Option (Int32 × Mem)) (n : Nat) (i2 : Int32) (M : Mem) : Option (Int32 × Mem) :=
  some (i2, M)
def b12_daysGo_20 (rc : Nat → List Int32 → List Int64 → Mem → Option (Int32 × Mem)) (n : Nat) (i1 : Int32) (i2 : Int32) (i3 : Int32) (M : Mem) : Option (Int32 × Mem) :=
  (if i1 ≤ i3 then (
   b12_daysGo_58  rc n i2 M)
  else (
   chk (inb (160 : Int32) 162) <|
   (if (9999 : Int32) ≤ (M.1 1 (160 : Int32).toNatClampNeg) then (
    b12_daysGo_58  rc n i2 M)
   else (
    bnd (f12_dayGoes n M) fun r7 M8 =>
    chk (inb (156 : Int32) 162) <|
    lt (M8.1 1 (156 : Int32).toNatClampNeg) fun v11 =>
    lt (i3 + (1 : Int32)) fun v12 =>
    rc 20 [i1, v11, v12] [] M8))))
def b12_daysGo_0 (rc : Nat → List Int32 → List Int64 → Mem → Option (Int32 × Mem)) (n : Nat) (a1 : Int32) (M : Mem) : Option (Int32 × Mem) :=
  lt (wI M 0 37 (0 : Int32)) fun M1 =>
  lt (wI M1 0 38 (0 : Int32)) fun M2 =>
  lt (wI M2 0 39 (0 : Int32)) fun M3 =>
  b12_daysGo_20  rc n a1 (-2 : Int32) (0 : Int32) M3
def r12_daysGo : Nat → Nat → List Int32 → List Int64 → Mem → Option (Int32 × Mem)
  | 0 => fun _ _ _ _ => none
  | n + 1 => fun pc li lj M =>
    if pc = 20 then (match li, lj with | [i1, i2, i3], [] => b12_daysGo_20  (r12_daysGo  n) n i1 i2 i3 M | _, _ => none) else
    none
theorem e12_daysGo_20  (n : Nat) (i1 : Int32) (i2 : Int32) (i3 : Int32) (M : Mem) : r12_daysGo  (n + 1) 20 [i1, i2, i3] [] M = b12_daysGo_20  (r12_daysGo  n) n i1 i2 i3 M := by
  rw [r12_daysGo]
  simp
def f12_daysGo (n : Nat) (a1 : Int32) (M : Mem) : Option (Int32 × Mem) := b12_daysGo_0 (r12_daysGo n) n a1 M
abbrev rm12_daysGo : Room := { frames := 9, cells := 0, slots := 0, locals := 211 }
theorem y12_daysGo_w : yV RX12 yX12_daysGo cX12_daysGo 4 (some .int) 1 := ⟨g_1441, gp 60 rfl rfl, g_14, g_1442, rfl, by decide, by decide, by decide +kernel⟩
set_option maxHeartbeats 4000000 in
set_option maxRecDepth 100000 in
theorem w12_daysGo_58 {p : Program} {l : Launch} {e : Env} {s : State} {m : MethodId} {args : Array Value} {below : List Frame} {meth : Method} {c : Code} {z : Zt} {b : Nat}  (C : Cx p s m args c cX12_daysGo 4 RX12 z 32 b) (hr : meth.sig.returnType = (some .int)) (hk : meth.locks = false) {r : Int32} {M' : Mem} {rc : Nat → List Int32 → List Int64 → Mem → Option (Int32 × Mem)} {n : Nat} (q20 : ∀ (i1 : Int32) (i2 : Int32) (i3 : Int32) (M : Mem) (H : Heap) (locs : List Loc) (ls : Array Slot), rc 20 [i1, i2, i3] [] M = some (r, M') → va_P z.1 vwCl (pw (yd z b) 32 b M) H → va_S (pA 32 b) s.heap H locs → lv_has ls 4 [(0, .ref (b + 0)), (1, .int i1), (2, .int i2), (3, .int i3)] → W p l e rm12_daysGo s m args below meth c H locs 0 0 (MQ below (va_Qi (fun (r' : Int32) (M2 : Mem) => r' = r ∧ M2 = M') (fun M2 t => va_P z.1 vwCl (pw (yd z b) 32 b M2) t.heap) (pA 32 b)) args s 0 0 (pA 32 b)) (F0 m 20 ls [])) {i2 : Int32} {M : Mem} {H : Heap} {locs : List Loc} {ls : Array Slot} (hf : b12_daysGo_58  rc n i2 M = some (r, M')) (hP : va_P z.1 vwCl (pw (yd z b) 32 b M) H) (hS : va_S (pA 32 b) s.heap H locs) (hl : lv_has ls 4 [(2, .int i2)]) : W p l e rm12_daysGo s m args below meth c H locs 0 0 (MQ below (va_Qi (fun (r' : Int32) (M2 : Mem) => r' = r ∧ M2 = M') (fun M2 t => va_P z.1 vwCl (pw (yd z b) 32 b M2) t.heap) (pA 32 b)) args s 0 0 (pA 32 b)) (F0 m 58 ls []) := by
  have hx := C.1.1
  have hb := C.1.2.1
  unfold b12_daysGo_58 at hf
  refine lv_iload_n hx hb dX12_daysGo_58 rfl (lv_at hl 0 rfl) ?_
  exact prI C hr hk hP hS hf dX12_daysGo_59
set_option maxHeartbeats 4000000 in
set_option maxRecDepth 100000 in
theorem w12_daysGo_20 {p : Program} {l : Launch} {e : Env} {s : State} {m : MethodId} {args : Array Value} {below : List Frame} {meth : Method} {c : Code} {z : Zt} {b : Nat}  (C : Cx p s m args c cX12_daysGo 4 RX12 z 32 b) (hr : meth.sig.returnType = (some .int)) (hk : meth.locks = false) {r : Int32} {M' : Mem} {rc : Nat → List Int32 → List Int64 → Mem → Option (Int32 × Mem)} {n : Nat} (q20 : ∀ (i1 : Int32) (i2 : Int32) (i3 : Int32) (M : Mem) (H : Heap) (locs : List Loc) (ls : Array Slot), rc 20 [i1, i2, i3] [] M = some (r, M') → va_P z.1 vwCl (pw (yd z b) 32 b M) H → va_S (pA 32 b) s.heap H locs → lv_has ls 4 [(0, .ref (b + 0)), (1, .int i1), (2, .int i2), (3, .int i3)] → W p l e rm12_daysGo s m args below meth c H locs 0 0 (MQ below (va_Qi (fun (r' : Int32) (M2 : Mem) => r' = r ∧ M2 = M') (fun M2 t => va_P z.1 vwCl (pw (yd z b) 32 b M2) t.heap) (pA 32 b)) args s 0 0 (pA 32 b)) (F0 m 20 ls [])) {i1 : Int32} {i2 : Int32} {i3 : Int32} {M : Mem} {H : Heap} {locs : List Loc} {ls : Array Slot} (hf : b12_daysGo_20  rc n i1 i2 i3 M = some (r, M')) (hP : va_P z.1 vwCl (pw (yd z b) 32 b M) H) (hS : va_S (pA 32 b) s.heap H locs) (hl : lv_has ls 4 [(0, .ref (b + 0)), (1, .int i1), (2, .int i2), (3, .int i3)]) : W p l e rm12_daysGo s m args below meth c H locs 0 0 (MQ below (va_Qi (fun (r' : Int32) (M2 : Mem) => r' = r ∧ M2 = M') (fun M2 t => va_P z.1 vwCl (pw (yd z b) 32 b M2) t.heap) (pA 32 b)) args s 0 0 (pA 32 b)) (F0 m 20 ls []) := by
  have hx := C.1.1
  have hb := C.1.2.1
  unfold b12_daysGo_20 at hf
  refine lv_iload_n hx hb dX12_daysGo_20 rfl (lv_at hl 3 rfl) ?_
  refine lv_iload_n hx hb dX12_daysGo_21 rfl (lv_at hl 1 rfl) ?_
  refine lv_icmp_ge (tgt := 58) hx hb dX12_daysGo_22 (by decide) (fun c4 => ?_) (fun c4 => ?_)
  · replace hf := ite_t c4 hf
    exact w12_daysGo_58 (n := n)  C hr hk q20 hf hP hS (lv_sub hl [2] rfl)
  · replace hf := ite_f c4 hf
    refine lv_aload_n hx hb dX12_daysGo_25 rfl (lv_at hl 0 rfl) ?_
    refine pg C hP (k := 0) (j := 0) (Nat.le_of_ble_eq_true rfl) (yd_0 _ _) rfl iw_12 (Nat.le_of_ble_eq_true rfl) g_1135 rfl rfl dX12_daysGo_26 ?_
    refine lv_sipush (v := (160 : Int32)) hx hb dX12_daysGo_29 (by decide) ?_
    have h5 := chk_1 hf
    replace hf := chk_2 hf
    refine paI C hP (k := 1) (Nat.le_of_ble_eq_true rfl) (yd_1 _ _) h5 dX12_daysGo_32 ?_
    refine lv_sipush (v := (9999 : Int32)) hx hb dX12_daysGo_33 (by decide) ?_
    refine lv_icmp_ge (tgt := 58) hx hb dX12_daysGo_36 (by decide) (fun c6 => ?_) (fun c6 => ?_)
    · replace hf := ite_t c6 hf
      exact w12_daysGo_58 (n := n)  C hr hk q20 hf hP hS (lv_sub hl [2] rfl)
    · replace hf := ite_f c6 hf
      refine lv_aload_n hx hb dX12_daysGo_39 rfl (lv_at hl 0 rfl) ?_
      obtain ⟨r7, M8, h9, hf⟩ := bnd_s hf
      refine pcVv (As := []) C hP hS (k := 0) (Nat.le_of_ble_eq_true rfl) (yd_0 _ _) rfl (c12_dayGoes  h9) y12_dayGoes_w g_1443 rfl rfl rfl ⟨Nat.le_of_ble_eq_true rfl, Nat.le_of_ble_eq_true rfl⟩ hl.1 rfl (Nat.le_of_ble_eq_true rfl) dX12_daysGo_40 ⟨Nat.le_of_ble_eq_true rfl, Nat.le_of_ble_eq_true rfl⟩ (fun H locs hP hS => ?_)
      refine lv_aload_n hx hb dX12_daysGo_43 rfl (lv_at hl 0 rfl) ?_
      refine pg C hP (k := 0) (j := 0) (Nat.le_of_ble_eq_true rfl) (yd_0 _ _) rfl iw_12 (Nat.le_of_ble_eq_true rfl) g_1135 rfl rfl dX12_daysGo_44 ?_
      refine lv_sipush (v := (156 : Int32)) hx hb dX12_daysGo_47 (by decide) ?_
      have h10 := chk_1 hf
      replace hf := chk_2 hf
      refine paI C hP (k := 1) (Nat.le_of_ble_eq_true rfl) (yd_1 _ _) h10 dX12_daysGo_50 ?_
      refine lv_topi (fun v11 ev11 => ?_)
      replace hf := lt_c ev11 hf
      refine lv_istore_n (lv' := [(2, .int v11), (0, .ref (b + 0)), (1, .int i1), (3, .int i3)]) hx hb dX12_daysGo_51 rfl hl (by decide) rfl (fun ls hl => ?_)
      obtain ⟨v12, ev12⟩ : ∃ v : Int32, v = i3 + (1 : Int32) := ⟨_, rfl⟩
      replace hf := lt_c ev12 hf
      refine lv_iinc (v := v12) (lv' := [(3, .int v12), (2, .int v11), (0, .ref (b + 0)), (1, .int i1)]) hx hb dX12_daysGo_52 hl (k := 3) rfl (by rw [ev12]; rfl) (by decide) rfl (fun ls hl => ?_)
      refine lv_goto (tgt := 20) hx hb dX12_daysGo_55 (by decide) ?_
      exact q20 i1 v11 v12 M8 _ _ _ hf hP hS (lv_sub hl [2, 3, 1, 0] rfl)
set_option maxHeartbeats 4000000 in
set_option maxRecDepth 100000 in
theorem w12_daysGo_0 {p : Program} {l : Launch} {e : Env} {s : State} {m : MethodId} {args : Array Value} {below : List Frame} {meth : Method} {c : Code} {z : Zt} {b : Nat}  (C : Cx p s m args c cX12_daysGo 4 RX12 z 32 b) (hr : meth.sig.returnType = (some .int)) (hk : meth.locks = false) {r : Int32} {M' : Mem} {rc : Nat → List Int32 → List Int64 → Mem → Option (Int32 × Mem)} {n : Nat} (q20 : ∀ (i1 : Int32) (i2 : Int32) (i3 : Int32) (M : Mem) (H : Heap) (locs : List Loc) (ls : Array Slot), rc 20 [i1, i2, i3] [] M = some (r, M') → va_P z.1 vwCl (pw (yd z b) 32 b M) H → va_S (pA 32 b) s.heap H locs → lv_has ls 4 [(0, .ref (b + 0)), (1, .int i1), (2, .int i2), (3, .int i3)] → W p l e rm12_daysGo s m args below meth c H locs 0 0 (MQ below (va_Qi (fun (r' : Int32) (M2 : Mem) => r' = r ∧ M2 = M') (fun M2 t => va_P z.1 vwCl (pw (yd z b) 32 b M2) t.heap) (pA 32 b)) args s 0 0 (pA 32 b)) (F0 m 20 ls [])) {a1 : Int32} {M : Mem} {H : Heap} {locs : List Loc} {ls : Array Slot} (hf : b12_daysGo_0  rc n a1 M = some (r, M')) (hP : va_P z.1 vwCl (pw (yd z b) 32 b M) H) (hS : va_S (pA 32 b) s.heap H locs) (hl : lv_has ls 4 [(0, .ref (b + 0)), (1, .int a1)]) : W p l e rm12_daysGo s m args below meth c H locs 0 0 (MQ below (va_Qi (fun (r' : Int32) (M2 : Mem) => r' = r ∧ M2 = M') (fun M2 t => va_P z.1 vwCl (pw (yd z b) 32 b M2) t.heap) (pA 32 b)) args s 0 0 (pA 32 b)) (F0 m 0 ls []) := by
  have hx := C.1.1
  have hb := C.1.2.1
  unfold b12_daysGo_0 at hf
  refine lv_aload_n hx hb dX12_daysGo_0 rfl (lv_at hl 0 rfl) ?_
  refine lv_iconst (v := (0 : Int32)) hx hb dX12_daysGo_1 (by decide) ?_
  refine ppI C hP hS (k := 0) (j := 37) (ty := .int) (Nat.le_of_ble_eq_true rfl) (yd_0 _ _) rfl iw_12 tyX12 tyX12_ok nmX12 (Nat.le_of_ble_eq_true rfl) g_1172 rfl rfl (by decide +kernel) rfl rfl (Nat.le_of_ble_eq_true rfl) (yu_0_37 _ _ _) dX12_daysGo_2 (fun M1 H locs eM1 hP hS => ?_)
  replace hf := lt_c eM1 hf
  refine lv_aload_n hx hb dX12_daysGo_5 rfl (lv_at hl 0 rfl) ?_
  refine lv_iconst (v := (0 : Int32)) hx hb dX12_daysGo_6 (by decide) ?_
  refine ppI C hP hS (k := 0) (j := 38) (ty := .int) (Nat.le_of_ble_eq_true rfl) (yd_0 _ _) rfl iw_12 tyX12 tyX12_ok nmX12 (Nat.le_of_ble_eq_true rfl) g_1173 rfl rfl (by decide +kernel) rfl rfl (Nat.le_of_ble_eq_true rfl) (yu_0_38 _ _ _) dX12_daysGo_7 (fun M2 H locs eM2 hP hS => ?_)
  replace hf := lt_c eM2 hf
  refine lv_aload_n hx hb dX12_daysGo_10 rfl (lv_at hl 0 rfl) ?_
  refine lv_iconst (v := (0 : Int32)) hx hb dX12_daysGo_11 (by decide) ?_
  refine ppI C hP hS (k := 0) (j := 39) (ty := .int) (Nat.le_of_ble_eq_true rfl) (yd_0 _ _) rfl iw_12 tyX12 tyX12_ok nmX12 (Nat.le_of_ble_eq_true rfl) g_1174 rfl rfl (by decide +kernel) rfl rfl (Nat.le_of_ble_eq_true rfl) (yu_0_39 _ _ _) dX12_daysGo_12 (fun M3 H locs eM3 hP hS => ?_)
  replace hf := lt_c eM3 hf
  refine lv_bipush (v := (-2 : Int32)) hx hb dX12_daysGo_15 (by decide) ?_
  refine lv_istore_n (lv' := [(2, .int (-2 : Int32)), (0, .ref (b + 0)), (1, .int a1)]) hx hb dX12_daysGo_17 rfl hl (by decide) rfl (fun ls hl => ?_)
  refine lv_iconst (v := (0 : Int32)) hx hb dX12_daysGo_18 (by decide) ?_
  refine lv_istore_n (lv' := [(3, .int (0 : Int32)), (2, .int (-2 : Int32)), (0, .ref (b + 0)), (1, .int a1)]) hx hb dX12_daysGo_19 rfl hl (by decide) rfl (fun ls hl => ?_)
  exact w12_daysGo_20 (n := n)  C hr hk q20 hf hP hS (lv_sub hl [2, 3, 1, 0] rfl)
set_option maxHeartbeats 4000000 in
set_option maxRecDepth 100000 in
theorem l12_daysGo {p : Program} {l : Launch} {e : Env} {s : State} {m : MethodId} {args : Array Value} {below : List Frame} {meth : Method} {c : Code} {z : Zt} {b : Nat}  (C : Cx p s m args c cX12_daysGo 4 RX12 z 32 b) (hr : meth.sig.returnType = (some .int)) (hk : meth.locks = false) {r : Int32} {M' : Mem} (n : Nat) : (∀ (i1 : Int32) (i2 : Int32) (i3 : Int32) (M : Mem) (H : Heap) (locs : List Loc) (ls : Array Slot), (r12_daysGo  n) 20 [i1, i2, i3] [] M = some (r, M') → va_P z.1 vwCl (pw (yd z b) 32 b M) H → va_S (pA 32 b) s.heap H locs → lv_has ls 4 [(0, .ref (b + 0)), (1, .int i1), (2, .int i2), (3, .int i3)] → W p l e rm12_daysGo s m args below meth c H locs 0 0 (MQ below (va_Qi (fun (r' : Int32) (M2 : Mem) => r' = r ∧ M2 = M') (fun M2 t => va_P z.1 vwCl (pw (yd z b) 32 b M2) t.heap) (pA 32 b)) args s 0 0 (pA 32 b)) (F0 m 20 ls [])) := by
  induction n with
  | zero => exact fun _ _ _ _ _ _ _ hf => (by cases hf)
  | succ n ih => exact fun _ _ _ _ _ _ _ hf hP hS hl => w12_daysGo_20 (n := n)  C hr hk ih ((e12_daysGo_20  n _ _ _ _).symm.trans hf) hP hS hl
theorem c12_daysGo {l : Launch} {z : Zt} {b n : Nat}  {a1 : Int32} {M M' : Mem} {r : Int32} (hf : f12_daysGo n  a1 M = some (r, M')) : CI l z (yd z b) 32 b yX12_daysGo cX12_daysGo 4 (some .int) rm12_daysGo [.ref (b + 0), .int a1] M M' r :=
  CI.ofW (lv := [(0, .ref (b + 0)), (1, .int a1)]) (by decide) (Nat.le_of_ble_eq_true rfl) rfl (fun p e s m args below meth c ls C hr hk hP hS hl => w12_daysGo_0 (n := n)  C hr hk (l12_daysGo  C hr hk n) hf hP hS hl)

-- BronzeKingModel.days(I)I
theorem dX12_days_0 : decode cX12_days 0 = .ok (.iload_n 1, 1) := by decide +kernel
theorem dX12_days_1 : decode cX12_days 1 = .ok (.iconst 1, 1) := by decide +kernel
theorem dX12_days_2 : decode cX12_days 2 = .ok (.bipush 30, 2) := by decide +kernel
theorem dX12_days_4 : decode cX12_days 4 = .ok (.invokestatic 106, 3) := by decide +kernel
theorem dX12_days_7 : decode cX12_days 7 = .ok (.ifCond .ne 5, 3) := by decide +kernel
theorem dX12_days_10 : decode cX12_days 10 = .ok (.iconst (-1), 1) := by decide +kernel
theorem dX12_days_11 : decode cX12_days 11 = .ok (.ireturn, 1) := by decide +kernel
theorem dX12_days_12 : decode cX12_days 12 = .ok (.aload_n 0, 1) := by decide +kernel
theorem dX12_days_13 : decode cX12_days 13 = .ok (.iload_n 1, 1) := by decide +kernel
theorem dX12_days_14 : decode cX12_days 14 = .ok (.invokevirtual 320, 3) := by decide +kernel
theorem dX12_days_17 : decode cX12_days 17 = .ok (.pop, 1) := by decide +kernel
theorem dX12_days_18 : decode cX12_days 18 = .ok (.aload_n 0, 1) := by decide +kernel
theorem dX12_days_19 : decode cX12_days 19 = .ok (.getfield 308, 3) := by decide +kernel
theorem dX12_days_22 : decode cX12_days 22 = .ok (.ireturn, 1) := by decide +kernel
def b12_days_0 (rc : Nat → List Int32 → List Int64 → Mem → Option (Int32 × Mem)) (n : Nat) (a1 : Int32) (M : Mem) : Option (Int32 × Mem) :=
  bnd (f12_in n a1 (1 : Int32) (30 : Int32) M) fun r1 M2 =>
  (if r1 = 0 then (
   some ((-1 : Int32), M2))
  else (
   bnd (f12_daysGo n a1 M2) fun r5 M6 =>
   some ((M6.1 0 37), M6)))
def f12_days (n : Nat) (a1 : Int32) (M : Mem) : Option (Int32 × Mem) := b12_days_0 (fun _ _ _ _ => none) n a1 M
abbrev rm12_days : Room := { frames := 10, cells := 0, slots := 0, locals := 234 }
theorem y12_days_w : yV RX12 yX12_days cX12_days 2 (some .int) 1 := ⟨g_1436, g_1437, g_14, g_1438, rfl, by decide, by decide, by decide +kernel⟩
set_option maxHeartbeats 4000000 in
set_option maxRecDepth 100000 in
theorem w12_days_0 {p : Program} {l : Launch} {e : Env} {s : State} {m : MethodId} {args : Array Value} {below : List Frame} {meth : Method} {c : Code} {z : Zt} {b : Nat}  (C : Cx p s m args c cX12_days 2 RX12 z 32 b) (hr : meth.sig.returnType = (some .int)) (hk : meth.locks = false) {r : Int32} {M' : Mem} {rc : Nat → List Int32 → List Int64 → Mem → Option (Int32 × Mem)} {n : Nat}  {a1 : Int32} {M : Mem} {H : Heap} {locs : List Loc} {ls : Array Slot} (hf : b12_days_0  rc n a1 M = some (r, M')) (hP : va_P z.1 vwCl (pw (yd z b) 32 b M) H) (hS : va_S (pA 32 b) s.heap H locs) (hl : lv_has ls 2 [(0, .ref (b + 0)), (1, .int a1)]) : W p l e rm12_days s m args below meth c H locs 0 0 (MQ below (va_Qi (fun (r' : Int32) (M2 : Mem) => r' = r ∧ M2 = M') (fun M2 t => va_P z.1 vwCl (pw (yd z b) 32 b M2) t.heap) (pA 32 b)) args s 0 0 (pA 32 b)) (F0 m 0 ls []) := by
  have hx := C.1.1
  have hb := C.1.2.1
  unfold b12_days_0 at hf
  refine lv_iload_n hx hb dX12_days_0 rfl (lv_at hl 1 rfl) ?_
  refine lv_iconst (v := (1 : Int32)) hx hb dX12_days_1 (by decide) ?_
  refine lv_bipush (v := (30 : Int32)) hx hb dX12_days_2 (by decide) ?_
  obtain ⟨r1, M2, h3, hf⟩ := bnd_s hf
  refine pcSi (As := [.int a1, .int (1 : Int32), .int (30 : Int32)]) C hP hS (c12_in  h3) y12_in_w g_1306 rfl rfl rfl ⟨Nat.le_of_ble_eq_true rfl, Nat.le_of_ble_eq_true rfl⟩ hl.1 rfl (Nat.le_of_ble_eq_true rfl) dX12_days_4 ⟨Nat.le_of_ble_eq_true rfl, Nat.le_of_ble_eq_true rfl⟩ (fun H locs hP hS => ?_)
  refine lv_if_ne (tgt := 12) hx hb dX12_days_7 (by decide) (fun c4 => ?_) (fun c4 => ?_)
  · replace hf := ite_f c4 hf
    refine lv_aload_n hx hb dX12_days_12 rfl (lv_at hl 0 rfl) ?_
    refine lv_iload_n hx hb dX12_days_13 rfl (lv_at hl 1 rfl) ?_
    obtain ⟨r5, M6, h7, hf⟩ := bnd_s hf
    refine pcVi (As := [.int a1]) C hP hS (k := 0) (Nat.le_of_ble_eq_true rfl) (yd_0 _ _) rfl (c12_daysGo  h7) y12_daysGo_w g_1439 rfl rfl rfl ⟨Nat.le_of_ble_eq_true rfl, Nat.le_of_ble_eq_true rfl⟩ hl.1 rfl (Nat.le_of_ble_eq_true rfl) dX12_days_14 ⟨Nat.le_of_ble_eq_true rfl, Nat.le_of_ble_eq_true rfl⟩ (fun H locs hP hS => ?_)
    refine lv_pop hx hb dX12_days_17 rfl ?_
    refine lv_aload_n hx hb dX12_days_18 rfl (lv_at hl 0 rfl) ?_
    refine pg C hP (k := 0) (j := 37) (Nat.le_of_ble_eq_true rfl) (yd_0 _ _) rfl iw_12 (Nat.le_of_ble_eq_true rfl) g_1172 rfl rfl dX12_days_19 ?_
    exact prI C hr hk hP hS hf dX12_days_22
  · replace hf := ite_t c4 hf
    refine lv_iconst (v := (-1 : Int32)) hx hb dX12_days_10 (by decide) ?_
    exact prI C hr hk hP hS hf dX12_days_11
theorem c12_days {l : Launch} {z : Zt} {b n : Nat}  {a1 : Int32} {M M' : Mem} {r : Int32} (hf : f12_days n  a1 M = some (r, M')) : CI l z (yd z b) 32 b yX12_days cX12_days 2 (some .int) rm12_days [.ref (b + 0), .int a1] M M' r :=
  CI.ofW (lv := [(0, .ref (b + 0)), (1, .int a1)]) (by decide) (Nat.le_of_ble_eq_true rfl) rfl (fun p e s m args below meth c ls C hr hk hP hS hl => w12_days_0 (n := n)  C hr hk  hf hP hS hl)

-- BronzeKingModel.tried(II)I
theorem dX12_tried_0 : decode cX12_tried 0 = .ok (.iload_n 1, 1) := by decide +kernel
theorem dX12_tried_1 : decode cX12_tried 1 = .ok (.iconst 1, 1) := by decide +kernel
theorem dX12_tried_2 : decode cX12_tried 2 = .ok (.bipush 30, 2) := by decide +kernel
theorem dX12_tried_4 : decode cX12_tried 4 = .ok (.invokestatic 106, 3) := by decide +kernel
theorem dX12_tried_7 : decode cX12_tried 7 = .ok (.ifCond .eq 24, 3) := by decide +kernel
theorem dX12_tried_10 : decode cX12_tried 10 = .ok (.iload_n 2, 1) := by decide +kernel
theorem dX12_tried_11 : decode cX12_tried 11 = .ok (.iconst 0, 1) := by decide +kernel
theorem dX12_tried_12 : decode cX12_tried 12 = .ok (.iconst 3, 1) := by decide +kernel
theorem dX12_tried_13 : decode cX12_tried 13 = .ok (.invokestatic 106, 3) := by decide +kernel
theorem dX12_tried_16 : decode cX12_tried 16 = .ok (.ifCond .ne 17, 3) := by decide +kernel
theorem dX12_tried_19 : decode cX12_tried 19 = .ok (.iload_n 2, 1) := by decide +kernel
theorem dX12_tried_20 : decode cX12_tried 20 = .ok (.bipush 100, 2) := by decide +kernel
theorem dX12_tried_22 : decode cX12_tried 22 = .ok (.sipush 195, 3) := by decide +kernel
theorem dX12_tried_25 : decode cX12_tried 25 = .ok (.invokestatic 106, 3) := by decide +kernel
theorem dX12_tried_28 : decode cX12_tried 28 = .ok (.ifCond .ne 5, 3) := by decide +kernel
theorem dX12_tried_31 : decode cX12_tried 31 = .ok (.iconst (-1), 1) := by decide +kernel
theorem dX12_tried_32 : decode cX12_tried 32 = .ok (.ireturn, 1) := by decide +kernel
theorem dX12_tried_33 : decode cX12_tried 33 = .ok (.aload_n 0, 1) := by decide +kernel
theorem dX12_tried_34 : decode cX12_tried 34 = .ok (.getfield 7, 3) := by decide +kernel
theorem dX12_tried_37 : decode cX12_tried 37 = .ok (.aload_n 0, 1) := by decide +kernel
theorem dX12_tried_38 : decode cX12_tried 38 = .ok (.getfield 13, 3) := by decide +kernel
theorem dX12_tried_41 : decode cX12_tried 41 = .ok (.invokestatic 323, 3) := by decide +kernel
theorem dX12_tried_44 : decode cX12_tried 44 = .ok (.aload_n 0, 1) := by decide +kernel
theorem dX12_tried_45 : decode cX12_tried 45 = .ok (.iload_n 1, 1) := by decide +kernel
theorem dX12_tried_46 : decode cX12_tried 46 = .ok (.invokevirtual 320, 3) := by decide +kernel
theorem dX12_tried_49 : decode cX12_tried 49 = .ok (.istore_n 3, 1) := by decide +kernel
theorem dX12_tried_50 : decode cX12_tried 50 = .ok (.iload_n 2, 1) := by decide +kernel
theorem dX12_tried_51 : decode cX12_tried 51 = .ok (.tableswitch 62 0 3 #[29, 38, 47, 56], 29) := by decide +kernel
theorem dX12_tried_80 : decode cX12_tried 80 = .ok (.aload_n 0, 1) := by decide +kernel
theorem dX12_tried_81 : decode cX12_tried 81 = .ok (.getfield 308, 3) := by decide +kernel
theorem dX12_tried_84 : decode cX12_tried 84 = .ok (.istore 4, 2) := by decide +kernel
theorem dX12_tried_86 : decode cX12_tried 86 = .ok (.goto 40, 3) := by decide +kernel
theorem dX12_tried_89 : decode cX12_tried 89 = .ok (.aload_n 0, 1) := by decide +kernel
theorem dX12_tried_90 : decode cX12_tried 90 = .ok (.getfield 314, 3) := by decide +kernel
theorem dX12_tried_93 : decode cX12_tried 93 = .ok (.istore 4, 2) := by decide +kernel
theorem dX12_tried_95 : decode cX12_tried 95 = .ok (.goto 31, 3) := by decide +kernel
theorem dX12_tried_98 : decode cX12_tried 98 = .ok (.aload_n 0, 1) := by decide +kernel
theorem dX12_tried_99 : decode cX12_tried 99 = .ok (.getfield 311, 3) := by decide +kernel
theorem dX12_tried_102 : decode cX12_tried 102 = .ok (.istore 4, 2) := by decide +kernel
theorem dX12_tried_104 : decode cX12_tried 104 = .ok (.goto 22, 3) := by decide +kernel
theorem dX12_tried_107 : decode cX12_tried 107 = .ok (.iload_n 3, 1) := by decide +kernel
theorem dX12_tried_108 : decode cX12_tried 108 = .ok (.istore 4, 2) := by decide +kernel
theorem dX12_tried_110 : decode cX12_tried 110 = .ok (.goto 16, 3) := by decide +kernel
theorem dX12_tried_113 : decode cX12_tried 113 = .ok (.aload_n 0, 1) := by decide +kernel
theorem dX12_tried_114 : decode cX12_tried 114 = .ok (.getfield 7, 3) := by decide +kernel
theorem dX12_tried_117 : decode cX12_tried 117 = .ok (.iconst 0, 1) := by decide +kernel
theorem dX12_tried_118 : decode cX12_tried 118 = .ok (.iload_n 2, 1) := by decide +kernel
theorem dX12_tried_119 : decode cX12_tried 119 = .ok (.iadd, 1) := by decide +kernel
theorem dX12_tried_120 : decode cX12_tried 120 = .ok (.bipush 100, 2) := by decide +kernel
theorem dX12_tried_122 : decode cX12_tried 122 = .ok (.isub, 1) := by decide +kernel
theorem dX12_tried_123 : decode cX12_tried 123 = .ok (.iaload, 1) := by decide +kernel
theorem dX12_tried_124 : decode cX12_tried 124 = .ok (.istore 4, 2) := by decide +kernel
theorem dX12_tried_126 : decode cX12_tried 126 = .ok (.aload_n 0, 1) := by decide +kernel
theorem dX12_tried_127 : decode cX12_tried 127 = .ok (.getfield 13, 3) := by decide +kernel
theorem dX12_tried_130 : decode cX12_tried 130 = .ok (.aload_n 0, 1) := by decide +kernel
theorem dX12_tried_131 : decode cX12_tried 131 = .ok (.getfield 7, 3) := by decide +kernel
theorem dX12_tried_134 : decode cX12_tried 134 = .ok (.invokestatic 323, 3) := by decide +kernel
theorem dX12_tried_137 : decode cX12_tried 137 = .ok (.iload 4, 2) := by decide +kernel
theorem dX12_tried_139 : decode cX12_tried 139 = .ok (.ireturn, 1) := by decide +kernel
def b12_tried_31 (rc : Nat → List Int32 → List Int64 → Mem → Option (Int32 × Mem)) (n : Nat) (M : Mem) : Option (Int32 × Mem) :=
  some ((-1 : Int32), M)
def b12_tried_126 (rc : Nat → List Int32 → List Int64 → Mem → Option (Int32 × Mem)) (n : Nat) (i4 : Int32) (M : Mem) : Option (Int32 × Mem) :=
  bnd (f12_copies n 2 1 M) fun r28 M29 =>
  some (i4, M29)
def b12_tried_33 (rc : Nat → List Int32 → List Int64 → Mem → Option (Int32 × Mem)) (n : Nat) (i1 : Int32) (i2 : Int32) (M : Mem) : Option (Int32 × Mem) :=
  bnd (f12_copies n 1 2 M) fun r13 M14 =>
  bnd (f12_daysGo n i1 M14) fun r16 M17 =>
  (if i2 = (0 : Int32) then (
   lt (M17.1 0 37) fun v20 =>
   b12_tried_126  rc n v20 M17)
  else (
   (if i2 = (1 : Int32) then (
    lt (M17.1 0 38) fun v22 =>
    b12_tried_126  rc n v22 M17)
   else (
    (if i2 = (2 : Int32) then (
     lt (M17.1 0 39) fun v24 =>
     b12_tried_126  rc n v24 M17)
    else (
     (if i2 = (3 : Int32) then (
      b12_tried_126  rc n r16 M17)
     else (
      chk (inb (((0 : Int32) + i2) - (100 : Int32)) 162) <|
      lt (M17.1 1 (((0 : Int32) + i2) - (100 : Int32)).toNatClampNeg) fun v27 =>
      b12_tried_126  rc n v27 M17))))))))
def b12_tried_0 (rc : Nat → List Int32 → List Int64 → Mem → Option (Int32 × Mem)) (n : Nat) (a1 : Int32) (a2 : Int32) (M : Mem) : Option (Int32 × Mem) :=
  bnd (f12_in n a1 (1 : Int32) (30 : Int32) M) fun r1 M2 =>
  (if r1 = 0 then (
   b12_tried_31  rc n  M2)
  else (
   bnd (f12_in n a2 (0 : Int32) (3 : Int32) M2) fun r5 M6 =>
   (if r5 = 0 then (
    bnd (f12_in n a2 (100 : Int32) (195 : Int32) M6) fun r9 M10 =>
    (if r9 = 0 then (
     b12_tried_31  rc n  M10)
    else (
     b12_tried_33  rc n a1 a2 M10)))
   else (
    b12_tried_33  rc n a1 a2 M6))))
def f12_tried (n : Nat) (a1 : Int32) (a2 : Int32) (M : Mem) : Option (Int32 × Mem) := b12_tried_0 (fun _ _ _ _ => none) n a1 a2 M
abbrev rm12_tried : Room := { frames := 10, cells := 0, slots := 0, locals := 234 }
theorem y12_tried_w : yV RX12 yX12_tried cX12_tried 5 (some .int) 2 := ⟨g_1516, g_1517, g_14, g_1518, rfl, by decide, by decide, by decide +kernel⟩
set_option maxHeartbeats 4000000 in
set_option maxRecDepth 100000 in
theorem w12_tried_31 {p : Program} {l : Launch} {e : Env} {s : State} {m : MethodId} {args : Array Value} {below : List Frame} {meth : Method} {c : Code} {z : Zt} {b : Nat}  (C : Cx p s m args c cX12_tried 5 RX12 z 32 b) (hr : meth.sig.returnType = (some .int)) (hk : meth.locks = false) {r : Int32} {M' : Mem} {rc : Nat → List Int32 → List Int64 → Mem → Option (Int32 × Mem)} {n : Nat}   {M : Mem} {H : Heap} {locs : List Loc} {ls : Array Slot} (hf : b12_tried_31  rc n  M = some (r, M')) (hP : va_P z.1 vwCl (pw (yd z b) 32 b M) H) (hS : va_S (pA 32 b) s.heap H locs) (hl : lv_has ls 5 []) : W p l e rm12_tried s m args below meth c H locs 0 0 (MQ below (va_Qi (fun (r' : Int32) (M2 : Mem) => r' = r ∧ M2 = M') (fun M2 t => va_P z.1 vwCl (pw (yd z b) 32 b M2) t.heap) (pA 32 b)) args s 0 0 (pA 32 b)) (F0 m 31 ls []) := by
  have hx := C.1.1
  have hb := C.1.2.1
  unfold b12_tried_31 at hf
  refine lv_iconst (v := (-1 : Int32)) hx hb dX12_tried_31 (by decide) ?_
  exact prI C hr hk hP hS hf dX12_tried_32
set_option maxHeartbeats 4000000 in
set_option maxRecDepth 100000 in
theorem w12_tried_126 {p : Program} {l : Launch} {e : Env} {s : State} {m : MethodId} {args : Array Value} {below : List Frame} {meth : Method} {c : Code} {z : Zt} {b : Nat}  (C : Cx p s m args c cX12_tried 5 RX12 z 32 b) (hr : meth.sig.returnType = (some .int)) (hk : meth.locks = false) {r : Int32} {M' : Mem} {rc : Nat → List Int32 → List Int64 → Mem → Option (Int32 × Mem)} {n : Nat}  {i4 : Int32} {M : Mem} {H : Heap} {locs : List Loc} {ls : Array Slot} (hf : b12_tried_126  rc n i4 M = some (r, M')) (hP : va_P z.1 vwCl (pw (yd z b) 32 b M) H) (hS : va_S (pA 32 b) s.heap H locs) (hl : lv_has ls 5 [(0, .ref (b + 0)), (4, .int i4)]) : W p l e rm12_tried s m args below meth c H locs 0 0 (MQ below (va_Qi (fun (r' : Int32) (M2 : Mem) => r' = r ∧ M2 = M') (fun M2 t => va_P z.1 vwCl (pw (yd z b) 32 b M2) t.heap) (pA 32 b)) args s 0 0 (pA 32 b)) (F0 m 126 ls []) := by
  have hx := C.1.1
  have hb := C.1.2.1
  unfold b12_tried_126 at hf
  refine lv_aload_n hx hb dX12_tried_126 rfl (lv_at hl 0 rfl) ?_
  refine pg C hP (k := 0) (j := 1) (Nat.le_of_ble_eq_true rfl) (yd_0 _ _) rfl iw_12 (Nat.le_of_ble_eq_true rfl) g_1136 rfl rfl dX12_tried_127 ?_
  refine lv_aload_n hx hb dX12_tried_130 rfl (lv_at hl 0 rfl) ?_
  refine pg C hP (k := 0) (j := 0) (Nat.le_of_ble_eq_true rfl) (yd_0 _ _) rfl iw_12 (Nat.le_of_ble_eq_true rfl) g_1135 rfl rfl dX12_tried_131 ?_
  obtain ⟨r28, M29, h30, hf⟩ := bnd_s hf
  refine pcSv (As := [.ref (b + 2), .ref (b + 1)]) C hP hS (c12_copies cp_2 cp_1 h30) y12_copies_w g_1519 rfl rfl rfl ⟨Nat.le_of_ble_eq_true rfl, Nat.le_of_ble_eq_true rfl⟩ hl.1 rfl (Nat.le_of_ble_eq_true rfl) dX12_tried_134 ⟨Nat.le_of_ble_eq_true rfl, Nat.le_of_ble_eq_true rfl⟩ (fun H locs hP hS => ?_)
  refine lv_iload hx hb dX12_tried_137 (lv_at hl 1 rfl) ?_
  exact prI C hr hk hP hS hf dX12_tried_139
set_option maxHeartbeats 4000000 in
set_option maxRecDepth 100000 in
theorem w12_tried_33 {p : Program} {l : Launch} {e : Env} {s : State} {m : MethodId} {args : Array Value} {below : List Frame} {meth : Method} {c : Code} {z : Zt} {b : Nat}  (C : Cx p s m args c cX12_tried 5 RX12 z 32 b) (hr : meth.sig.returnType = (some .int)) (hk : meth.locks = false) {r : Int32} {M' : Mem} {rc : Nat → List Int32 → List Int64 → Mem → Option (Int32 × Mem)} {n : Nat}  {i1 : Int32} {i2 : Int32} {M : Mem} {H : Heap} {locs : List Loc} {ls : Array Slot} (hf : b12_tried_33  rc n i1 i2 M = some (r, M')) (hP : va_P z.1 vwCl (pw (yd z b) 32 b M) H) (hS : va_S (pA 32 b) s.heap H locs) (hl : lv_has ls 5 [(0, .ref (b + 0)), (1, .int i1), (2, .int i2)]) : W p l e rm12_tried s m args below meth c H locs 0 0 (MQ below (va_Qi (fun (r' : Int32) (M2 : Mem) => r' = r ∧ M2 = M') (fun M2 t => va_P z.1 vwCl (pw (yd z b) 32 b M2) t.heap) (pA 32 b)) args s 0 0 (pA 32 b)) (F0 m 33 ls []) := by
  have hx := C.1.1
  have hb := C.1.2.1
  unfold b12_tried_33 at hf
  refine lv_aload_n hx hb dX12_tried_33 rfl (lv_at hl 0 rfl) ?_
  refine pg C hP (k := 0) (j := 0) (Nat.le_of_ble_eq_true rfl) (yd_0 _ _) rfl iw_12 (Nat.le_of_ble_eq_true rfl) g_1135 rfl rfl dX12_tried_34 ?_
  refine lv_aload_n hx hb dX12_tried_37 rfl (lv_at hl 0 rfl) ?_
  refine pg C hP (k := 0) (j := 1) (Nat.le_of_ble_eq_true rfl) (yd_0 _ _) rfl iw_12 (Nat.le_of_ble_eq_true rfl) g_1136 rfl rfl dX12_tried_38 ?_
  obtain ⟨r13, M14, h15, hf⟩ := bnd_s hf
  refine pcSv (As := [.ref (b + 1), .ref (b + 2)]) C hP hS (c12_copies cp_1 cp_2 h15) y12_copies_w g_1519 rfl rfl rfl ⟨Nat.le_of_ble_eq_true rfl, Nat.le_of_ble_eq_true rfl⟩ hl.1 rfl (Nat.le_of_ble_eq_true rfl) dX12_tried_41 ⟨Nat.le_of_ble_eq_true rfl, Nat.le_of_ble_eq_true rfl⟩ (fun H locs hP hS => ?_)
  refine lv_aload_n hx hb dX12_tried_44 rfl (lv_at hl 0 rfl) ?_
  refine lv_iload_n hx hb dX12_tried_45 rfl (lv_at hl 1 rfl) ?_
  obtain ⟨r16, M17, h18, hf⟩ := bnd_s hf
  refine pcVi (As := [.int i1]) C hP hS (k := 0) (Nat.le_of_ble_eq_true rfl) (yd_0 _ _) rfl (c12_daysGo  h18) y12_daysGo_w g_1439 rfl rfl rfl ⟨Nat.le_of_ble_eq_true rfl, Nat.le_of_ble_eq_true rfl⟩ hl.1 rfl (Nat.le_of_ble_eq_true rfl) dX12_tried_46 ⟨Nat.le_of_ble_eq_true rfl, Nat.le_of_ble_eq_true rfl⟩ (fun H locs hP hS => ?_)
  refine lv_istore_n (lv' := [(3, .int r16), (0, .ref (b + 0)), (1, .int i1), (2, .int i2)]) hx hb dX12_tried_49 rfl hl (by decide) rfl (fun ls hl => ?_)
  refine lv_iload_n hx hb dX12_tried_50 rfl (lv_at hl 3 rfl) ?_
  by_cases c19 : i2 = (0 : Int32)
  · replace hf := ite_t c19 hf
    refine lv_tableIn (off := 29) (tgt := 80) hx hb dX12_tried_51 (by rw [c19]; decide) (by rw [c19]; decide) (by rw [c19]; rfl) (by decide) ?_
    refine lv_aload_n hx hb dX12_tried_80 rfl (lv_at hl 1 rfl) ?_
    refine pg C hP (k := 0) (j := 37) (Nat.le_of_ble_eq_true rfl) (yd_0 _ _) rfl iw_12 (Nat.le_of_ble_eq_true rfl) g_1172 rfl rfl dX12_tried_81 ?_
    refine lv_topi (fun v20 ev20 => ?_)
    replace hf := lt_c ev20 hf
    refine lv_istore (lv' := [(4, .int v20), (3, .int r16), (0, .ref (b + 0)), (1, .int i1), (2, .int i2)]) hx hb dX12_tried_84 hl (by decide) rfl (fun ls hl => ?_)
    refine lv_goto (tgt := 126) hx hb dX12_tried_86 (by decide) ?_
    exact w12_tried_126 (n := n)  C hr hk  hf hP hS (lv_sub hl [2, 0] rfl)
  · replace hf := ite_f c19 hf
    by_cases c21 : i2 = (1 : Int32)
    · replace hf := ite_t c21 hf
      refine lv_tableIn (off := 38) (tgt := 89) hx hb dX12_tried_51 (by rw [c21]; decide) (by rw [c21]; decide) (by rw [c21]; rfl) (by decide) ?_
      refine lv_aload_n hx hb dX12_tried_89 rfl (lv_at hl 1 rfl) ?_
      refine pg C hP (k := 0) (j := 38) (Nat.le_of_ble_eq_true rfl) (yd_0 _ _) rfl iw_12 (Nat.le_of_ble_eq_true rfl) g_1173 rfl rfl dX12_tried_90 ?_
      refine lv_topi (fun v22 ev22 => ?_)
      replace hf := lt_c ev22 hf
      refine lv_istore (lv' := [(4, .int v22), (3, .int r16), (0, .ref (b + 0)), (1, .int i1), (2, .int i2)]) hx hb dX12_tried_93 hl (by decide) rfl (fun ls hl => ?_)
      refine lv_goto (tgt := 126) hx hb dX12_tried_95 (by decide) ?_
      exact w12_tried_126 (n := n)  C hr hk  hf hP hS (lv_sub hl [2, 0] rfl)
    · replace hf := ite_f c21 hf
      by_cases c23 : i2 = (2 : Int32)
      · replace hf := ite_t c23 hf
        refine lv_tableIn (off := 47) (tgt := 98) hx hb dX12_tried_51 (by rw [c23]; decide) (by rw [c23]; decide) (by rw [c23]; rfl) (by decide) ?_
        refine lv_aload_n hx hb dX12_tried_98 rfl (lv_at hl 1 rfl) ?_
        refine pg C hP (k := 0) (j := 39) (Nat.le_of_ble_eq_true rfl) (yd_0 _ _) rfl iw_12 (Nat.le_of_ble_eq_true rfl) g_1174 rfl rfl dX12_tried_99 ?_
        refine lv_topi (fun v24 ev24 => ?_)
        replace hf := lt_c ev24 hf
        refine lv_istore (lv' := [(4, .int v24), (3, .int r16), (0, .ref (b + 0)), (1, .int i1), (2, .int i2)]) hx hb dX12_tried_102 hl (by decide) rfl (fun ls hl => ?_)
        refine lv_goto (tgt := 126) hx hb dX12_tried_104 (by decide) ?_
        exact w12_tried_126 (n := n)  C hr hk  hf hP hS (lv_sub hl [2, 0] rfl)
      · replace hf := ite_f c23 hf
        by_cases c25 : i2 = (3 : Int32)
        · replace hf := ite_t c25 hf
          refine lv_tableIn (off := 56) (tgt := 107) hx hb dX12_tried_51 (by rw [c25]; decide) (by rw [c25]; decide) (by rw [c25]; rfl) (by decide) ?_
          refine lv_iload_n hx hb dX12_tried_107 rfl (lv_at hl 0 rfl) ?_
          refine lv_istore (lv' := [(4, .int r16), (3, .int r16), (0, .ref (b + 0)), (1, .int i1), (2, .int i2)]) hx hb dX12_tried_108 hl (by decide) rfl (fun ls hl => ?_)
          refine lv_goto (tgt := 126) hx hb dX12_tried_110 (by decide) ?_
          exact w12_tried_126 (n := n)  C hr hk  hf hP hS (lv_sub hl [2, 0] rfl)
        · replace hf := ite_f c25 hf
          refine lv_tableOut (tgt := 113) hx hb dX12_tried_51 (by have z0 : ¬ i2.toInt = 0 := tsn c19; have z1 : ¬ i2.toInt = 1 := tsn c21; have z2 : ¬ i2.toInt = 2 := tsn c23; have z3 : ¬ i2.toInt = 3 := tsn c25; omega) (by decide) ?_
          refine lv_aload_n hx hb dX12_tried_113 rfl (lv_at hl 1 rfl) ?_
          refine pg C hP (k := 0) (j := 0) (Nat.le_of_ble_eq_true rfl) (yd_0 _ _) rfl iw_12 (Nat.le_of_ble_eq_true rfl) g_1135 rfl rfl dX12_tried_114 ?_
          refine lv_iconst (v := (0 : Int32)) hx hb dX12_tried_117 (by decide) ?_
          refine lv_iload_n hx hb dX12_tried_118 rfl (lv_at hl 3 rfl) ?_
          refine lv_iadd hx hb dX12_tried_119 ?_
          refine lv_bipush (v := (100 : Int32)) hx hb dX12_tried_120 (by decide) ?_
          refine lv_isub hx hb dX12_tried_122 ?_
          have h26 := chk_1 hf
          replace hf := chk_2 hf
          refine paI C hP (k := 1) (Nat.le_of_ble_eq_true rfl) (yd_1 _ _) h26 dX12_tried_123 ?_
          refine lv_topi (fun v27 ev27 => ?_)
          replace hf := lt_c ev27 hf
          refine lv_istore (lv' := [(4, .int v27), (3, .int r16), (0, .ref (b + 0)), (1, .int i1), (2, .int i2)]) hx hb dX12_tried_124 hl (by decide) rfl (fun ls hl => ?_)
          exact w12_tried_126 (n := n)  C hr hk  hf hP hS (lv_sub hl [2, 0] rfl)
set_option maxHeartbeats 4000000 in
set_option maxRecDepth 100000 in
theorem w12_tried_0 {p : Program} {l : Launch} {e : Env} {s : State} {m : MethodId} {args : Array Value} {below : List Frame} {meth : Method} {c : Code} {z : Zt} {b : Nat}  (C : Cx p s m args c cX12_tried 5 RX12 z 32 b) (hr : meth.sig.returnType = (some .int)) (hk : meth.locks = false) {r : Int32} {M' : Mem} {rc : Nat → List Int32 → List Int64 → Mem → Option (Int32 × Mem)} {n : Nat}  {a1 : Int32} {a2 : Int32} {M : Mem} {H : Heap} {locs : List Loc} {ls : Array Slot} (hf : b12_tried_0  rc n a1 a2 M = some (r, M')) (hP : va_P z.1 vwCl (pw (yd z b) 32 b M) H) (hS : va_S (pA 32 b) s.heap H locs) (hl : lv_has ls 5 [(0, .ref (b + 0)), (1, .int a1), (2, .int a2)]) : W p l e rm12_tried s m args below meth c H locs 0 0 (MQ below (va_Qi (fun (r' : Int32) (M2 : Mem) => r' = r ∧ M2 = M') (fun M2 t => va_P z.1 vwCl (pw (yd z b) 32 b M2) t.heap) (pA 32 b)) args s 0 0 (pA 32 b)) (F0 m 0 ls []) := by
  have hx := C.1.1
  have hb := C.1.2.1
  unfold b12_tried_0 at hf
  refine lv_iload_n hx hb dX12_tried_0 rfl (lv_at hl 1 rfl) ?_
  refine lv_iconst (v := (1 : Int32)) hx hb dX12_tried_1 (by decide) ?_
  refine lv_bipush (v := (30 : Int32)) hx hb dX12_tried_2 (by decide) ?_
  obtain ⟨r1, M2, h3, hf⟩ := bnd_s hf
  refine pcSi (As := [.int a1, .int (1 : Int32), .int (30 : Int32)]) C hP hS (c12_in  h3) y12_in_w g_1306 rfl rfl rfl ⟨Nat.le_of_ble_eq_true rfl, Nat.le_of_ble_eq_true rfl⟩ hl.1 rfl (Nat.le_of_ble_eq_true rfl) dX12_tried_4 ⟨Nat.le_of_ble_eq_true rfl, Nat.le_of_ble_eq_true rfl⟩ (fun H locs hP hS => ?_)
  refine lv_if_eq (tgt := 31) hx hb dX12_tried_7 (by decide) (fun c4 => ?_) (fun c4 => ?_)
  · replace hf := ite_t c4 hf
    exact w12_tried_31 (n := n)  C hr hk  hf hP hS (lv_sub hl [] rfl)
  · replace hf := ite_f c4 hf
    refine lv_iload_n hx hb dX12_tried_10 rfl (lv_at hl 2 rfl) ?_
    refine lv_iconst (v := (0 : Int32)) hx hb dX12_tried_11 (by decide) ?_
    refine lv_iconst (v := (3 : Int32)) hx hb dX12_tried_12 (by decide) ?_
    obtain ⟨r5, M6, h7, hf⟩ := bnd_s hf
    refine pcSi (As := [.int a2, .int (0 : Int32), .int (3 : Int32)]) C hP hS (c12_in  h7) y12_in_w g_1306 rfl rfl rfl ⟨Nat.le_of_ble_eq_true rfl, Nat.le_of_ble_eq_true rfl⟩ hl.1 rfl (Nat.le_of_ble_eq_true rfl) dX12_tried_13 ⟨Nat.le_of_ble_eq_true rfl, Nat.le_of_ble_eq_true rfl⟩ (fun H locs hP hS => ?_)
    refine lv_if_ne (tgt := 33) hx hb dX12_tried_16 (by decide) (fun c8 => ?_) (fun c8 => ?_)
    · replace hf := ite_f c8 hf
      exact w12_tried_33 (n := n)  C hr hk  hf hP hS (lv_sub hl [0, 1, 2] rfl)
    · replace hf := ite_t c8 hf
      refine lv_iload_n hx hb dX12_tried_19 rfl (lv_at hl 2 rfl) ?_
      refine lv_bipush (v := (100 : Int32)) hx hb dX12_tried_20 (by decide) ?_
      refine lv_sipush (v := (195 : Int32)) hx hb dX12_tried_22 (by decide) ?_
      obtain ⟨r9, M10, h11, hf⟩ := bnd_s hf
      refine pcSi (As := [.int a2, .int (100 : Int32), .int (195 : Int32)]) C hP hS (c12_in  h11) y12_in_w g_1306 rfl rfl rfl ⟨Nat.le_of_ble_eq_true rfl, Nat.le_of_ble_eq_true rfl⟩ hl.1 rfl (Nat.le_of_ble_eq_true rfl) dX12_tried_25 ⟨Nat.le_of_ble_eq_true rfl, Nat.le_of_ble_eq_true rfl⟩ (fun H locs hP hS => ?_)
      refine lv_if_ne (tgt := 33) hx hb dX12_tried_28 (by decide) (fun c12 => ?_) (fun c12 => ?_)
      · replace hf := ite_f c12 hf
        exact w12_tried_33 (n := n)  C hr hk  hf hP hS (lv_sub hl [0, 1, 2] rfl)
      · replace hf := ite_t c12 hf
        exact w12_tried_31 (n := n)  C hr hk  hf hP hS (lv_sub hl [] rfl)
theorem c12_tried {l : Launch} {z : Zt} {b n : Nat}  {a1 : Int32} {a2 : Int32} {M M' : Mem} {r : Int32} (hf : f12_tried n  a1 a2 M = some (r, M')) : CI l z (yd z b) 32 b yX12_tried cX12_tried 5 (some .int) rm12_tried [.ref (b + 0), .int a1, .int a2] M M' r :=
  CI.ofW (lv := [(0, .ref (b + 0)), (1, .int a1), (2, .int a2)]) (by decide) (Nat.le_of_ble_eq_true rfl) rfl (fun p e s m args below meth c ls C hr hk hP hS hl => w12_tried_0 (n := n)  C hr hk  hf hP hS hl)

-- BronzeKingModel.placeIs(III)I
theorem dX12_placeIs_0 : decode cX12_placeIs 0 = .ok (.iload_n 1, 1) := by decide +kernel
theorem dX12_placeIs_1 : decode cX12_placeIs 1 = .ok (.iload_n 2, 1) := by decide +kernel
theorem dX12_placeIs_2 : decode cX12_placeIs 2 = .ok (.invokestatic 114, 3) := by decide +kernel
theorem dX12_placeIs_5 : decode cX12_placeIs 5 = .ok (.ifCond .ne 5, 3) := by decide +kernel
theorem dX12_placeIs_8 : decode cX12_placeIs 8 = .ok (.iconst (-1), 1) := by decide +kernel
theorem dX12_placeIs_9 : decode cX12_placeIs 9 = .ok (.ireturn, 1) := by decide +kernel
theorem dX12_placeIs_10 : decode cX12_placeIs 10 = .ok (.bipush 12, 2) := by decide +kernel
theorem dX12_placeIs_12 : decode cX12_placeIs 12 = .ok (.iload_n 2, 1) := by decide +kernel
theorem dX12_placeIs_13 : decode cX12_placeIs 13 = .ok (.imul, 1) := by decide +kernel
theorem dX12_placeIs_14 : decode cX12_placeIs 14 = .ok (.iload_n 1, 1) := by decide +kernel
theorem dX12_placeIs_15 : decode cX12_placeIs 15 = .ok (.iadd, 1) := by decide +kernel
theorem dX12_placeIs_16 : decode cX12_placeIs 16 = .ok (.istore 4, 2) := by decide +kernel
theorem dX12_placeIs_18 : decode cX12_placeIs 18 = .ok (.iload_n 3, 1) := by decide +kernel
theorem dX12_placeIs_19 : decode cX12_placeIs 19 = .ok (.tableswitch 89 0 4 #[33, 54, 64, 75, 82], 33) := by decide +kernel
theorem dX12_placeIs_52 : decode cX12_placeIs 52 = .ok (.aload_n 0, 1) := by decide +kernel
theorem dX12_placeIs_53 : decode cX12_placeIs 53 = .ok (.iload 4, 2) := by decide +kernel
theorem dX12_placeIs_55 : decode cX12_placeIs 55 = .ok (.invokevirtual 122, 3) := by decide +kernel
theorem dX12_placeIs_58 : decode cX12_placeIs 58 = .ok (.ifCond .eq 7, 3) := by decide +kernel
theorem dX12_placeIs_61 : decode cX12_placeIs 61 = .ok (.iconst 2, 1) := by decide +kernel
theorem dX12_placeIs_62 : decode cX12_placeIs 62 = .ok (.goto 10, 3) := by decide +kernel
theorem dX12_placeIs_65 : decode cX12_placeIs 65 = .ok (.aload_n 0, 1) := by decide +kernel
theorem dX12_placeIs_66 : decode cX12_placeIs 66 = .ok (.getfield 19, 3) := by decide +kernel
theorem dX12_placeIs_69 : decode cX12_placeIs 69 = .ok (.iload 4, 2) := by decide +kernel
theorem dX12_placeIs_71 : decode cX12_placeIs 71 = .ok (.iaload, 1) := by decide +kernel
theorem dX12_placeIs_72 : decode cX12_placeIs 72 = .ok (.ireturn, 1) := by decide +kernel
theorem dX12_placeIs_73 : decode cX12_placeIs 73 = .ok (.aload_n 0, 1) := by decide +kernel
theorem dX12_placeIs_74 : decode cX12_placeIs 74 = .ok (.getfield 7, 3) := by decide +kernel
theorem dX12_placeIs_77 : decode cX12_placeIs 77 = .ok (.iconst 0, 1) := by decide +kernel
theorem dX12_placeIs_78 : decode cX12_placeIs 78 = .ok (.iload 4, 2) := by decide +kernel
theorem dX12_placeIs_80 : decode cX12_placeIs 80 = .ok (.iadd, 1) := by decide +kernel
theorem dX12_placeIs_81 : decode cX12_placeIs 81 = .ok (.iaload, 1) := by decide +kernel
theorem dX12_placeIs_82 : decode cX12_placeIs 82 = .ok (.ireturn, 1) := by decide +kernel
theorem dX12_placeIs_83 : decode cX12_placeIs 83 = .ok (.aload_n 0, 1) := by decide +kernel
theorem dX12_placeIs_84 : decode cX12_placeIs 84 = .ok (.iload 4, 2) := by decide +kernel
theorem dX12_placeIs_86 : decode cX12_placeIs 86 = .ok (.aload_n 0, 1) := by decide +kernel
theorem dX12_placeIs_87 : decode cX12_placeIs 87 = .ok (.getfield 110, 3) := by decide +kernel
theorem dX12_placeIs_90 : decode cX12_placeIs 90 = .ok (.invokevirtual 134, 3) := by decide +kernel
theorem dX12_placeIs_93 : decode cX12_placeIs 93 = .ok (.ireturn, 1) := by decide +kernel
theorem dX12_placeIs_94 : decode cX12_placeIs 94 = .ok (.aload_n 0, 1) := by decide +kernel
theorem dX12_placeIs_95 : decode cX12_placeIs 95 = .ok (.iload 4, 2) := by decide +kernel
theorem dX12_placeIs_97 : decode cX12_placeIs 97 = .ok (.invokevirtual 280, 3) := by decide +kernel
theorem dX12_placeIs_100 : decode cX12_placeIs 100 = .ok (.ireturn, 1) := by decide +kernel
theorem dX12_placeIs_101 : decode cX12_placeIs 101 = .ok (.aload_n 0, 1) := by decide +kernel
theorem dX12_placeIs_102 : decode cX12_placeIs 102 = .ok (.iload 4, 2) := by decide +kernel
theorem dX12_placeIs_104 : decode cX12_placeIs 104 = .ok (.invokevirtual 327, 3) := by decide +kernel
theorem dX12_placeIs_107 : decode cX12_placeIs 107 = .ok (.ireturn, 1) := by decide +kernel
theorem dX12_placeIs_108 : decode cX12_placeIs 108 = .ok (.iconst (-1), 1) := by decide +kernel
theorem dX12_placeIs_109 : decode cX12_placeIs 109 = .ok (.ireturn, 1) := by decide +kernel
def b12_placeIs_0 (rc : Nat → List Int32 → List Int64 → Mem → Option (Int32 × Mem)) (n : Nat) (a1 : Int32) (a2 : Int32) (a3 : Int32) (M : Mem) : Option (Int32 × Mem) :=
  bnd (f12_isPlace n a1 a2 M) fun r1 M2 =>
  (if r1 = 0 then (
   some ((-1 : Int32), M2))
  else (
   lt (((12 : Int32) * a2) + a1) fun v5 =>
   (if a3 = (0 : Int32) then (
    bnd (f12_isOpen n v5 M2) fun r7 M8 =>
    (if r7 = 0 then (
     chk (inb v5 96) <|
     some ((M8.1 4 v5.toNatClampNeg), M8))
    else (
     some ((2 : Int32), M8))))
   else (
    (if a3 = (1 : Int32) then (
     chk (inb ((0 : Int32) + v5) 162) <|
     some ((M2.1 1 ((0 : Int32) + v5).toNatClampNeg), M2))
    else (
     (if a3 = (2 : Int32) then (
      bnd (f12_steps n v5 (M2.1 0 5) M2) fun r15 M16 =>
      some (r15, M16))
     else (
      (if a3 = (3 : Int32) then (
       bnd (f12_toDoorNine n v5 M2) fun r19 M20 =>
       some (r19, M20))
      else (
       (if a3 = (4 : Int32) then (
        bnd (f12_neighbours n v5 M2) fun r23 M24 =>
        some (r23, M24))
       else (
        some ((-1 : Int32), M2)))))))))))))
def f12_placeIs (n : Nat) (a1 : Int32) (a2 : Int32) (a3 : Int32) (M : Mem) : Option (Int32 × Mem) := b12_placeIs_0 (fun _ _ _ _ => none) n a1 a2 a3 M
abbrev rm12_placeIs : Room := { frames := 6, cells := 0, slots := 0, locals := 135 }
theorem y12_placeIs_w : yV RX12 yX12_placeIs cX12_placeIs 5 (some .int) 3 := ⟨g_1523, g_1524, g_14, g_1525, rfl, by decide, by decide, by decide +kernel⟩
set_option maxHeartbeats 4000000 in
set_option maxRecDepth 100000 in
theorem w12_placeIs_0 {p : Program} {l : Launch} {e : Env} {s : State} {m : MethodId} {args : Array Value} {below : List Frame} {meth : Method} {c : Code} {z : Zt} {b : Nat}  (C : Cx p s m args c cX12_placeIs 5 RX12 z 32 b) (hr : meth.sig.returnType = (some .int)) (hk : meth.locks = false) {r : Int32} {M' : Mem} {rc : Nat → List Int32 → List Int64 → Mem → Option (Int32 × Mem)} {n : Nat}  {a1 : Int32} {a2 : Int32} {a3 : Int32} {M : Mem} {H : Heap} {locs : List Loc} {ls : Array Slot} (hf : b12_placeIs_0  rc n a1 a2 a3 M = some (r, M')) (hP : va_P z.1 vwCl (pw (yd z b) 32 b M) H) (hS : va_S (pA 32 b) s.heap H locs) (hl : lv_has ls 5 [(0, .ref (b + 0)), (1, .int a1), (2, .int a2), (3, .int a3)]) : W p l e rm12_placeIs s m args below meth c H locs 0 0 (MQ below (va_Qi (fun (r' : Int32) (M2 : Mem) => r' = r ∧ M2 = M') (fun M2 t => va_P z.1 vwCl (pw (yd z b) 32 b M2) t.heap) (pA 32 b)) args s 0 0 (pA 32 b)) (F0 m 0 ls []) := by
  have hx := C.1.1
  have hb := C.1.2.1
  unfold b12_placeIs_0 at hf
  refine lv_iload_n hx hb dX12_placeIs_0 rfl (lv_at hl 1 rfl) ?_
  refine lv_iload_n hx hb dX12_placeIs_1 rfl (lv_at hl 2 rfl) ?_
  obtain ⟨r1, M2, h3, hf⟩ := bnd_s hf
  refine pcSi (As := [.int a1, .int a2]) C hP hS (c12_isPlace  h3) y12_isPlace_w g_1303 rfl rfl rfl ⟨Nat.le_of_ble_eq_true rfl, Nat.le_of_ble_eq_true rfl⟩ hl.1 rfl (Nat.le_of_ble_eq_true rfl) dX12_placeIs_2 ⟨Nat.le_of_ble_eq_true rfl, Nat.le_of_ble_eq_true rfl⟩ (fun H locs hP hS => ?_)
  refine lv_if_ne (tgt := 10) hx hb dX12_placeIs_5 (by decide) (fun c4 => ?_) (fun c4 => ?_)
  · replace hf := ite_f c4 hf
    refine lv_bipush (v := (12 : Int32)) hx hb dX12_placeIs_10 (by decide) ?_
    refine lv_iload_n hx hb dX12_placeIs_12 rfl (lv_at hl 2 rfl) ?_
    refine lv_imul hx hb dX12_placeIs_13 ?_
    refine lv_iload_n hx hb dX12_placeIs_14 rfl (lv_at hl 1 rfl) ?_
    refine lv_iadd hx hb dX12_placeIs_15 ?_
    refine lv_topi (fun v5 ev5 => ?_)
    replace hf := lt_c ev5 hf
    refine lv_istore (lv' := [(4, .int v5), (0, .ref (b + 0)), (1, .int a1), (2, .int a2), (3, .int a3)]) hx hb dX12_placeIs_16 hl (by decide) rfl (fun ls hl => ?_)
    refine lv_iload_n hx hb dX12_placeIs_18 rfl (lv_at hl 4 rfl) ?_
    by_cases c6 : a3 = (0 : Int32)
    · replace hf := ite_t c6 hf
      refine lv_tableIn (off := 33) (tgt := 52) hx hb dX12_placeIs_19 (by rw [c6]; decide) (by rw [c6]; decide) (by rw [c6]; rfl) (by decide) ?_
      refine lv_aload_n hx hb dX12_placeIs_52 rfl (lv_at hl 1 rfl) ?_
      refine lv_iload hx hb dX12_placeIs_53 (lv_at hl 0 rfl) ?_
      obtain ⟨r7, M8, h9, hf⟩ := bnd_s hf
      refine pcVi (As := [.int v5]) C hP hS (k := 0) (Nat.le_of_ble_eq_true rfl) (yd_0 _ _) rfl (c12_isOpen  h9) y12_isOpen_w g_1483 rfl rfl rfl ⟨Nat.le_of_ble_eq_true rfl, Nat.le_of_ble_eq_true rfl⟩ hl.1 rfl (Nat.le_of_ble_eq_true rfl) dX12_placeIs_55 ⟨Nat.le_of_ble_eq_true rfl, Nat.le_of_ble_eq_true rfl⟩ (fun H locs hP hS => ?_)
      refine lv_if_eq (tgt := 65) hx hb dX12_placeIs_58 (by decide) (fun c10 => ?_) (fun c10 => ?_)
      · replace hf := ite_t c10 hf
        refine lv_aload_n hx hb dX12_placeIs_65 rfl (lv_at hl 1 rfl) ?_
        refine pg C hP (k := 0) (j := 3) (Nat.le_of_ble_eq_true rfl) (yd_0 _ _) rfl iw_12 (Nat.le_of_ble_eq_true rfl) g_1138 rfl rfl dX12_placeIs_66 ?_
        refine lv_iload hx hb dX12_placeIs_69 (lv_at hl 0 rfl) ?_
        have h11 := chk_1 hf
        replace hf := chk_2 hf
        refine paI C hP (k := 4) (Nat.le_of_ble_eq_true rfl) (yd_4 _ _) h11 dX12_placeIs_71 ?_
        exact prI C hr hk hP hS hf dX12_placeIs_72
      · replace hf := ite_f c10 hf
        refine lv_iconst (v := (2 : Int32)) hx hb dX12_placeIs_61 (by decide) ?_
        refine lv_goto (tgt := 72) hx hb dX12_placeIs_62 (by decide) ?_
        exact prI C hr hk hP hS hf dX12_placeIs_72
    · replace hf := ite_f c6 hf
      by_cases c12 : a3 = (1 : Int32)
      · replace hf := ite_t c12 hf
        refine lv_tableIn (off := 54) (tgt := 73) hx hb dX12_placeIs_19 (by rw [c12]; decide) (by rw [c12]; decide) (by rw [c12]; rfl) (by decide) ?_
        refine lv_aload_n hx hb dX12_placeIs_73 rfl (lv_at hl 1 rfl) ?_
        refine pg C hP (k := 0) (j := 0) (Nat.le_of_ble_eq_true rfl) (yd_0 _ _) rfl iw_12 (Nat.le_of_ble_eq_true rfl) g_1135 rfl rfl dX12_placeIs_74 ?_
        refine lv_iconst (v := (0 : Int32)) hx hb dX12_placeIs_77 (by decide) ?_
        refine lv_iload hx hb dX12_placeIs_78 (lv_at hl 0 rfl) ?_
        refine lv_iadd hx hb dX12_placeIs_80 ?_
        have h13 := chk_1 hf
        replace hf := chk_2 hf
        refine paI C hP (k := 1) (Nat.le_of_ble_eq_true rfl) (yd_1 _ _) h13 dX12_placeIs_81 ?_
        exact prI C hr hk hP hS hf dX12_placeIs_82
      · replace hf := ite_f c12 hf
        by_cases c14 : a3 = (2 : Int32)
        · replace hf := ite_t c14 hf
          refine lv_tableIn (off := 64) (tgt := 83) hx hb dX12_placeIs_19 (by rw [c14]; decide) (by rw [c14]; decide) (by rw [c14]; rfl) (by decide) ?_
          refine lv_aload_n hx hb dX12_placeIs_83 rfl (lv_at hl 1 rfl) ?_
          refine lv_iload hx hb dX12_placeIs_84 (lv_at hl 0 rfl) ?_
          refine lv_aload_n hx hb dX12_placeIs_86 rfl (lv_at hl 1 rfl) ?_
          refine pg C hP (k := 0) (j := 5) (Nat.le_of_ble_eq_true rfl) (yd_0 _ _) rfl iw_12 (Nat.le_of_ble_eq_true rfl) g_1140 rfl rfl dX12_placeIs_87 ?_
          obtain ⟨r15, M16, h17, hf⟩ := bnd_s hf
          refine pcVi (As := [.int v5, .int (M2.1 0 5)]) C hP hS (k := 0) (Nat.le_of_ble_eq_true rfl) (yd_0 _ _) rfl (c12_steps  h17) y12_steps_w g_1475 rfl rfl rfl ⟨Nat.le_of_ble_eq_true rfl, Nat.le_of_ble_eq_true rfl⟩ hl.1 rfl (Nat.le_of_ble_eq_true rfl) dX12_placeIs_90 ⟨Nat.le_of_ble_eq_true rfl, Nat.le_of_ble_eq_true rfl⟩ (fun H locs hP hS => ?_)
          exact prI C hr hk hP hS hf dX12_placeIs_93
        · replace hf := ite_f c14 hf
          by_cases c18 : a3 = (3 : Int32)
          · replace hf := ite_t c18 hf
            refine lv_tableIn (off := 75) (tgt := 94) hx hb dX12_placeIs_19 (by rw [c18]; decide) (by rw [c18]; decide) (by rw [c18]; rfl) (by decide) ?_
            refine lv_aload_n hx hb dX12_placeIs_94 rfl (lv_at hl 1 rfl) ?_
            refine lv_iload hx hb dX12_placeIs_95 (lv_at hl 0 rfl) ?_
            obtain ⟨r19, M20, h21, hf⟩ := bnd_s hf
            refine pcVi (As := [.int v5]) C hP hS (k := 0) (Nat.le_of_ble_eq_true rfl) (yd_0 _ _) rfl (c12_toDoorNine  h21) y12_toDoorNine_w g_1494 rfl rfl rfl ⟨Nat.le_of_ble_eq_true rfl, Nat.le_of_ble_eq_true rfl⟩ hl.1 rfl (Nat.le_of_ble_eq_true rfl) dX12_placeIs_97 ⟨Nat.le_of_ble_eq_true rfl, Nat.le_of_ble_eq_true rfl⟩ (fun H locs hP hS => ?_)
            exact prI C hr hk hP hS hf dX12_placeIs_100
          · replace hf := ite_f c18 hf
            by_cases c22 : a3 = (4 : Int32)
            · replace hf := ite_t c22 hf
              refine lv_tableIn (off := 82) (tgt := 101) hx hb dX12_placeIs_19 (by rw [c22]; decide) (by rw [c22]; decide) (by rw [c22]; rfl) (by decide) ?_
              refine lv_aload_n hx hb dX12_placeIs_101 rfl (lv_at hl 1 rfl) ?_
              refine lv_iload hx hb dX12_placeIs_102 (lv_at hl 0 rfl) ?_
              obtain ⟨r23, M24, h25, hf⟩ := bnd_s hf
              refine pcVi (As := [.int v5]) C hP hS (k := 0) (Nat.le_of_ble_eq_true rfl) (yd_0 _ _) rfl (c12_neighbours  h25) y12_neighbours_w g_1526 rfl rfl rfl ⟨Nat.le_of_ble_eq_true rfl, Nat.le_of_ble_eq_true rfl⟩ hl.1 rfl (Nat.le_of_ble_eq_true rfl) dX12_placeIs_104 ⟨Nat.le_of_ble_eq_true rfl, Nat.le_of_ble_eq_true rfl⟩ (fun H locs hP hS => ?_)
              exact prI C hr hk hP hS hf dX12_placeIs_107
            · replace hf := ite_f c22 hf
              refine lv_tableOut (tgt := 108) hx hb dX12_placeIs_19 (by have z0 : ¬ a3.toInt = 0 := tsn c6; have z1 : ¬ a3.toInt = 1 := tsn c12; have z2 : ¬ a3.toInt = 2 := tsn c14; have z3 : ¬ a3.toInt = 3 := tsn c18; have z4 : ¬ a3.toInt = 4 := tsn c22; omega) (by decide) ?_
              refine lv_iconst (v := (-1 : Int32)) hx hb dX12_placeIs_108 (by decide) ?_
              exact prI C hr hk hP hS hf dX12_placeIs_109
  · replace hf := ite_t c4 hf
    refine lv_iconst (v := (-1 : Int32)) hx hb dX12_placeIs_8 (by decide) ?_
    exact prI C hr hk hP hS hf dX12_placeIs_9
theorem c12_placeIs {l : Launch} {z : Zt} {b n : Nat}  {a1 : Int32} {a2 : Int32} {a3 : Int32} {M M' : Mem} {r : Int32} (hf : f12_placeIs n  a1 a2 a3 M = some (r, M')) : CI l z (yd z b) 32 b yX12_placeIs cX12_placeIs 5 (some .int) rm12_placeIs [.ref (b + 0), .int a1, .int a2, .int a3] M M' r :=
  CI.ofW (lv := [(0, .ref (b + 0)), (1, .int a1), (2, .int a2), (3, .int a3)]) (by decide) (Nat.le_of_ble_eq_true rfl) rfl (fun p e s m args below meth c ls C hr hk hP hS hl => w12_placeIs_0 (n := n)  C hr hk  hf hP hS hl)

-- BronzeKingModel.gcd(II)I
theorem dX12_gcd_0 : decode cX12_gcd 0 = .ok (.iload_n 0, 1) := by decide +kernel
theorem dX12_gcd_1 : decode cX12_gcd 1 = .ok (.istore_n 2, 1) := by decide +kernel
theorem dX12_gcd_2 : decode cX12_gcd 2 = .ok (.iload_n 1, 1) := by decide +kernel
theorem dX12_gcd_3 : decode cX12_gcd 3 = .ok (.istore_n 3, 1) := by decide +kernel
theorem dX12_gcd_4 : decode cX12_gcd 4 = .ok (.iload_n 3, 1) := by decide +kernel
theorem dX12_gcd_5 : decode cX12_gcd 5 = .ok (.ifCond .eq 16, 3) := by decide +kernel
theorem dX12_gcd_8 : decode cX12_gcd 8 = .ok (.iload_n 2, 1) := by decide +kernel
theorem dX12_gcd_9 : decode cX12_gcd 9 = .ok (.iload_n 3, 1) := by decide +kernel
theorem dX12_gcd_10 : decode cX12_gcd 10 = .ok (.irem, 1) := by decide +kernel
theorem dX12_gcd_11 : decode cX12_gcd 11 = .ok (.istore 4, 2) := by decide +kernel
theorem dX12_gcd_13 : decode cX12_gcd 13 = .ok (.iload_n 3, 1) := by decide +kernel
theorem dX12_gcd_14 : decode cX12_gcd 14 = .ok (.istore_n 2, 1) := by decide +kernel
theorem dX12_gcd_15 : decode cX12_gcd 15 = .ok (.iload 4, 2) := by decide +kernel
theorem dX12_gcd_17 : decode cX12_gcd 17 = .ok (.istore_n 3, 1) := by decide +kernel
theorem dX12_gcd_18 : decode cX12_gcd 18 = .ok (.goto (-14), 3) := by decide +kernel
theorem dX12_gcd_21 : decode cX12_gcd 21 = .ok (.iload_n 2, 1) := by decide +kernel
theorem dX12_gcd_22 : decode cX12_gcd 22 = .ok (.ireturn, 1) := by decide +kernel
def b12_gcd_4 (rc : Nat → List Int32 → List Int64 → Mem → Option (Int32 × Mem)) (n : Nat) (i2 : Int32) (i3 : Int32) (M : Mem) : Option (Int32 × Mem) :=
  (if i3 = 0 then (
   some (i2, M))
  else (
   chk (decide (¬ i3 = 0)) <|
   lt (i2 - i2 / i3 * i3) fun v3 =>
   rc 4 [i3, v3] [] M))
def b12_gcd_0 (rc : Nat → List Int32 → List Int64 → Mem → Option (Int32 × Mem)) (n : Nat) (a0 : Int32) (a1 : Int32) (M : Mem) : Option (Int32 × Mem) :=
  b12_gcd_4  rc n a0 a1 M
def r12_gcd : Nat → Nat → List Int32 → List Int64 → Mem → Option (Int32 × Mem)
  | 0 => fun _ _ _ _ => none
  | n + 1 => fun pc li lj M =>
    if pc = 4 then (match li, lj with | [i2, i3], [] => b12_gcd_4  (r12_gcd  n) n i2 i3 M | _, _ => none) else
    none
theorem e12_gcd_4  (n : Nat) (i2 : Int32) (i3 : Int32) (M : Mem) : r12_gcd  (n + 1) 4 [i2, i3] [] M = b12_gcd_4  (r12_gcd  n) n i2 i3 M := by
  rw [r12_gcd]
  simp
def f12_gcd (n : Nat) (a0 : Int32) (a1 : Int32) (M : Mem) : Option (Int32 × Mem) := b12_gcd_0 (r12_gcd n) n a0 a1 M
abbrev rm12_gcd : Room := { frames := 0, cells := 0, slots := 0, locals := 0 }
theorem y12_gcd_w : yS yX12_gcd cX12_gcd 5 (some .int) 2 := ⟨g_1546, g_14, g_1547, by decide, by decide, by decide +kernel⟩
set_option maxHeartbeats 4000000 in
set_option maxRecDepth 100000 in
theorem w12_gcd_4 {p : Program} {l : Launch} {e : Env} {s : State} {m : MethodId} {args : Array Value} {below : List Frame} {meth : Method} {c : Code} {z : Zt} {b : Nat}  (C : Cx p s m args c cX12_gcd 5 RX12 z 32 b) (hr : meth.sig.returnType = (some .int)) (hk : meth.locks = false) {r : Int32} {M' : Mem} {rc : Nat → List Int32 → List Int64 → Mem → Option (Int32 × Mem)} {n : Nat} (q4 : ∀ (i2 : Int32) (i3 : Int32) (M : Mem) (H : Heap) (locs : List Loc) (ls : Array Slot), rc 4 [i2, i3] [] M = some (r, M') → va_P z.1 vwCl (pw (yd z b) 32 b M) H → va_S (pA 32 b) s.heap H locs → lv_has ls 5 [(2, .int i2), (3, .int i3)] → W p l e rm12_gcd s m args below meth c H locs 0 0 (MQ below (va_Qi (fun (r' : Int32) (M2 : Mem) => r' = r ∧ M2 = M') (fun M2 t => va_P z.1 vwCl (pw (yd z b) 32 b M2) t.heap) (pA 32 b)) args s 0 0 (pA 32 b)) (F0 m 4 ls [])) {i2 : Int32} {i3 : Int32} {M : Mem} {H : Heap} {locs : List Loc} {ls : Array Slot} (hf : b12_gcd_4  rc n i2 i3 M = some (r, M')) (hP : va_P z.1 vwCl (pw (yd z b) 32 b M) H) (hS : va_S (pA 32 b) s.heap H locs) (hl : lv_has ls 5 [(2, .int i2), (3, .int i3)]) : W p l e rm12_gcd s m args below meth c H locs 0 0 (MQ below (va_Qi (fun (r' : Int32) (M2 : Mem) => r' = r ∧ M2 = M') (fun M2 t => va_P z.1 vwCl (pw (yd z b) 32 b M2) t.heap) (pA 32 b)) args s 0 0 (pA 32 b)) (F0 m 4 ls []) := by
  have hx := C.1.1
  have hb := C.1.2.1
  unfold b12_gcd_4 at hf
  refine lv_iload_n hx hb dX12_gcd_4 rfl (lv_at hl 1 rfl) ?_
  refine lv_if_eq (tgt := 21) hx hb dX12_gcd_5 (by decide) (fun c1 => ?_) (fun c1 => ?_)
  · replace hf := ite_t c1 hf
    refine lv_iload_n hx hb dX12_gcd_21 rfl (lv_at hl 0 rfl) ?_
    exact prI C hr hk hP hS hf dX12_gcd_22
  · replace hf := ite_f c1 hf
    refine lv_iload_n hx hb dX12_gcd_8 rfl (lv_at hl 0 rfl) ?_
    refine lv_iload_n hx hb dX12_gcd_9 rfl (lv_at hl 1 rfl) ?_
    have h2 := of_decide_eq_true (chk_1 hf)
    replace hf := chk_2 hf
    refine lv_irem hx hb dX12_gcd_10 h2 ?_
    refine lv_topi (fun v3 ev3 => ?_)
    replace hf := lt_c ev3 hf
    refine lv_istore (lv' := [(4, .int v3), (2, .int i2), (3, .int i3)]) hx hb dX12_gcd_11 hl (by decide) rfl (fun ls hl => ?_)
    refine lv_iload_n hx hb dX12_gcd_13 rfl (lv_at hl 2 rfl) ?_
    refine lv_istore_n (lv' := [(2, .int i3), (4, .int v3), (3, .int i3)]) hx hb dX12_gcd_14 rfl hl (by decide) rfl (fun ls hl => ?_)
    refine lv_iload hx hb dX12_gcd_15 (lv_at hl 1 rfl) ?_
    refine lv_istore_n (lv' := [(3, .int v3), (2, .int i3), (4, .int v3)]) hx hb dX12_gcd_17 rfl hl (by decide) rfl (fun ls hl => ?_)
    refine lv_goto (tgt := 4) hx hb dX12_gcd_18 (by decide) ?_
    exact q4 i3 v3 M _ _ _ hf hP hS (lv_sub hl [1, 0] rfl)
set_option maxHeartbeats 4000000 in
set_option maxRecDepth 100000 in
theorem w12_gcd_0 {p : Program} {l : Launch} {e : Env} {s : State} {m : MethodId} {args : Array Value} {below : List Frame} {meth : Method} {c : Code} {z : Zt} {b : Nat}  (C : Cx p s m args c cX12_gcd 5 RX12 z 32 b) (hr : meth.sig.returnType = (some .int)) (hk : meth.locks = false) {r : Int32} {M' : Mem} {rc : Nat → List Int32 → List Int64 → Mem → Option (Int32 × Mem)} {n : Nat} (q4 : ∀ (i2 : Int32) (i3 : Int32) (M : Mem) (H : Heap) (locs : List Loc) (ls : Array Slot), rc 4 [i2, i3] [] M = some (r, M') → va_P z.1 vwCl (pw (yd z b) 32 b M) H → va_S (pA 32 b) s.heap H locs → lv_has ls 5 [(2, .int i2), (3, .int i3)] → W p l e rm12_gcd s m args below meth c H locs 0 0 (MQ below (va_Qi (fun (r' : Int32) (M2 : Mem) => r' = r ∧ M2 = M') (fun M2 t => va_P z.1 vwCl (pw (yd z b) 32 b M2) t.heap) (pA 32 b)) args s 0 0 (pA 32 b)) (F0 m 4 ls [])) {a0 : Int32} {a1 : Int32} {M : Mem} {H : Heap} {locs : List Loc} {ls : Array Slot} (hf : b12_gcd_0  rc n a0 a1 M = some (r, M')) (hP : va_P z.1 vwCl (pw (yd z b) 32 b M) H) (hS : va_S (pA 32 b) s.heap H locs) (hl : lv_has ls 5 [(0, .int a0), (1, .int a1)]) : W p l e rm12_gcd s m args below meth c H locs 0 0 (MQ below (va_Qi (fun (r' : Int32) (M2 : Mem) => r' = r ∧ M2 = M') (fun M2 t => va_P z.1 vwCl (pw (yd z b) 32 b M2) t.heap) (pA 32 b)) args s 0 0 (pA 32 b)) (F0 m 0 ls []) := by
  have hx := C.1.1
  have hb := C.1.2.1
  unfold b12_gcd_0 at hf
  refine lv_iload_n hx hb dX12_gcd_0 rfl (lv_at hl 0 rfl) ?_
  refine lv_istore_n (lv' := [(2, .int a0), (0, .int a0), (1, .int a1)]) hx hb dX12_gcd_1 rfl hl (by decide) rfl (fun ls hl => ?_)
  refine lv_iload_n hx hb dX12_gcd_2 rfl (lv_at hl 2 rfl) ?_
  refine lv_istore_n (lv' := [(3, .int a1), (2, .int a0), (0, .int a0), (1, .int a1)]) hx hb dX12_gcd_3 rfl hl (by decide) rfl (fun ls hl => ?_)
  exact w12_gcd_4 (n := n)  C hr hk q4 hf hP hS (lv_sub hl [1, 0] rfl)
set_option maxHeartbeats 4000000 in
set_option maxRecDepth 100000 in
theorem l12_gcd {p : Program} {l : Launch} {e : Env} {s : State} {m : MethodId} {args : Array Value} {below : List Frame} {meth : Method} {c : Code} {z : Zt} {b : Nat}  (C : Cx p s m args c cX12_gcd 5 RX12 z 32 b) (hr : meth.sig.returnType = (some .int)) (hk : meth.locks = false) {r : Int32} {M' : Mem} (n : Nat) : (∀ (i2 : Int32) (i3 : Int32) (M : Mem) (H : Heap) (locs : List Loc) (ls : Array Slot), (r12_gcd  n) 4 [i2, i3] [] M = some (r, M') → va_P z.1 vwCl (pw (yd z b) 32 b M) H → va_S (pA 32 b) s.heap H locs → lv_has ls 5 [(2, .int i2), (3, .int i3)] → W p l e rm12_gcd s m args below meth c H locs 0 0 (MQ below (va_Qi (fun (r' : Int32) (M2 : Mem) => r' = r ∧ M2 = M') (fun M2 t => va_P z.1 vwCl (pw (yd z b) 32 b M2) t.heap) (pA 32 b)) args s 0 0 (pA 32 b)) (F0 m 4 ls [])) := by
  induction n with
  | zero => exact fun _ _ _ _ _ _ hf => (by cases hf)
  | succ n ih => exact fun _ _ _ _ _ _ hf hP hS hl => w12_gcd_4 (n := n)  C hr hk ih ((e12_gcd_4  n _ _ _).symm.trans hf) hP hS hl
theorem c12_gcd {l : Launch} {z : Zt} {b n : Nat}  {a0 : Int32} {a1 : Int32} {M M' : Mem} {r : Int32} (hf : f12_gcd n  a0 a1 M = some (r, M')) : CI l z (yd z b) 32 b yX12_gcd cX12_gcd 5 (some .int) rm12_gcd [.int a0, .int a1] M M' r :=
  CI.ofW (lv := [(0, .int a0), (1, .int a1)]) (by decide) (Nat.le_of_ble_eq_true rfl) rfl (fun p e s m args below meth c ls C hr hk hP hS hl => w12_gcd_0 (n := n)  C hr hk (l12_gcd  C hr hk n) hf hP hS hl)

-- BronzeKingModel.laysWeights()I
theorem dX12_laysWeights_0 : decode cX12_laysWeights 0 = .ok (.iconst 0, 1) := by decide +kernel
theorem dX12_laysWeights_1 : decode cX12_laysWeights 1 = .ok (.istore_n 1, 1) := by decide +kernel
theorem dX12_laysWeights_2 : decode cX12_laysWeights 2 = .ok (.iconst 0, 1) := by decide +kernel
theorem dX12_laysWeights_3 : decode cX12_laysWeights 3 = .ok (.istore_n 2, 1) := by decide +kernel
theorem dX12_laysWeights_4 : decode cX12_laysWeights 4 = .ok (.iload_n 2, 1) := by decide +kernel
theorem dX12_laysWeights_5 : decode cX12_laysWeights 5 = .ok (.bipush 24, 2) := by decide +kernel
theorem dX12_laysWeights_7 : decode cX12_laysWeights 7 = .ok (.if_icmp .ge 48, 3) := by decide +kernel
theorem dX12_laysWeights_10 : decode cX12_laysWeights 10 = .ok (.aload_n 0, 1) := by decide +kernel
theorem dX12_laysWeights_11 : decode cX12_laysWeights 11 = .ok (.getfield 77, 3) := by decide +kernel
theorem dX12_laysWeights_14 : decode cX12_laysWeights 14 = .ok (.iload_n 2, 1) := by decide +kernel
theorem dX12_laysWeights_15 : decode cX12_laysWeights 15 = .ok (.aload_n 0, 1) := by decide +kernel
theorem dX12_laysWeights_16 : decode cX12_laysWeights 16 = .ok (.getfield 264, 3) := by decide +kernel
theorem dX12_laysWeights_19 : decode cX12_laysWeights 19 = .ok (.iload_n 2, 1) := by decide +kernel
theorem dX12_laysWeights_20 : decode cX12_laysWeights 20 = .ok (.invokestatic 330, 3) := by decide +kernel
theorem dX12_laysWeights_23 : decode cX12_laysWeights 23 = .ok (.ifCond .eq 7, 3) := by decide +kernel
theorem dX12_laysWeights_26 : decode cX12_laysWeights 26 = .ok (.iconst (-1), 1) := by decide +kernel
theorem dX12_laysWeights_27 : decode cX12_laysWeights 27 = .ok (.goto 8, 3) := by decide +kernel
theorem dX12_laysWeights_30 : decode cX12_laysWeights 30 = .ok (.aload_n 0, 1) := by decide +kernel
theorem dX12_laysWeights_31 : decode cX12_laysWeights 31 = .ok (.iload_n 2, 1) := by decide +kernel
theorem dX12_laysWeights_32 : decode cX12_laysWeights 32 = .ok (.invokevirtual 273, 3) := by decide +kernel
theorem dX12_laysWeights_35 : decode cX12_laysWeights 35 = .ok (.iastore, 1) := by decide +kernel
theorem dX12_laysWeights_36 : decode cX12_laysWeights 36 = .ok (.iload_n 1, 1) := by decide +kernel
theorem dX12_laysWeights_37 : decode cX12_laysWeights 37 = .ok (.iconst 0, 1) := by decide +kernel
theorem dX12_laysWeights_38 : decode cX12_laysWeights 38 = .ok (.aload_n 0, 1) := by decide +kernel
theorem dX12_laysWeights_39 : decode cX12_laysWeights 39 = .ok (.getfield 77, 3) := by decide +kernel
theorem dX12_laysWeights_42 : decode cX12_laysWeights 42 = .ok (.iload_n 2, 1) := by decide +kernel
theorem dX12_laysWeights_43 : decode cX12_laysWeights 43 = .ok (.iaload, 1) := by decide +kernel
theorem dX12_laysWeights_44 : decode cX12_laysWeights 44 = .ok (.invokestatic 305, 3) := by decide +kernel
theorem dX12_laysWeights_47 : decode cX12_laysWeights 47 = .ok (.iadd, 1) := by decide +kernel
theorem dX12_laysWeights_48 : decode cX12_laysWeights 48 = .ok (.istore_n 1, 1) := by decide +kernel
theorem dX12_laysWeights_49 : decode cX12_laysWeights 49 = .ok (.iinc 2 1, 3) := by decide +kernel
theorem dX12_laysWeights_52 : decode cX12_laysWeights 52 = .ok (.goto (-48), 3) := by decide +kernel
theorem dX12_laysWeights_55 : decode cX12_laysWeights 55 = .ok (.iload_n 1, 1) := by decide +kernel
theorem dX12_laysWeights_56 : decode cX12_laysWeights 56 = .ok (.ireturn, 1) := by decide +kernel
def b12_laysWeights_35 (rc : Nat → List Int32 → List Int64 → Mem → Option (Int32 × Mem)) (n : Nat) (i1 : Int32) (i2 : Int32) (s1 : Int32) (s2 : Int32) (M : Mem) : Option (Int32 × Mem) :=
  chk (inb s1 24) <|
  lt (wI M 23 s1.toNatClampNeg s2) fun M10 =>
  chk (inb i2 24) <|
  bnd (f12_max n (0 : Int32) (M10.1 23 i2.toNatClampNeg) M10) fun r12 M13 =>
  lt (i1 + r12) fun v15 =>
  lt (i2 + (1 : Int32)) fun v16 =>
  rc 4 [v15, v16] [] M13
def b12_laysWeights_4 (rc : Nat → List Int32 → List Int64 → Mem → Option (Int32 × Mem)) (n : Nat) (i1 : Int32) (i2 : Int32) (M : Mem) : Option (Int32 × Mem) :=
  (if (24 : Int32) ≤ i2 then (
   some (i1, M))
  else (
   bnd (f12_has n (M.1 0 6) i2 M) fun r2 M3 =>
   (if r2 = 0 then (
    bnd (f12_weightOf n i2 M3) fun r6 M7 =>
    b12_laysWeights_35  rc n i1 i2 i2 r6 M7)
   else (
    b12_laysWeights_35  rc n i1 i2 i2 (-1 : Int32) M3))))
def b12_laysWeights_0 (rc : Nat → List Int32 → List Int64 → Mem → Option (Int32 × Mem)) (n : Nat) (M : Mem) : Option (Int32 × Mem) :=
  b12_laysWeights_4  rc n (0 : Int32) (0 : Int32) M
def r12_laysWeights : Nat → Nat → List Int32 → List Int64 → Mem → Option (Int32 × Mem)
  | 0 => fun _ _ _ _ => none
  | n + 1 => fun pc li lj M =>
    if pc = 4 then (match li, lj with | [i1, i2], [] => b12_laysWeights_4  (r12_laysWeights  n) n i1 i2 M | _, _ => none) else
    none
theorem e12_laysWeights_4  (n : Nat) (i1 : Int32) (i2 : Int32) (M : Mem) : r12_laysWeights  (n + 1) 4 [i1, i2] [] M = b12_laysWeights_4  (r12_laysWeights  n) n i1 i2 M := by
  rw [r12_laysWeights]
  simp
def f12_laysWeights (n : Nat)  (M : Mem) : Option (Int32 × Mem) := b12_laysWeights_0 (r12_laysWeights n) n M
abbrev rm12_laysWeights : Room := { frames := 4, cells := 0, slots := 0, locals := 95 }
theorem y12_laysWeights_w : yV RX12 yX12_laysWeights cX12_laysWeights 3 (some .int) 0 := ⟨g_1536, gp 76 rfl rfl, g_14, g_1537, rfl, by decide, by decide, by decide +kernel⟩
set_option maxHeartbeats 4000000 in
set_option maxRecDepth 100000 in
theorem w12_laysWeights_35 {p : Program} {l : Launch} {e : Env} {s : State} {m : MethodId} {args : Array Value} {below : List Frame} {meth : Method} {c : Code} {z : Zt} {b : Nat}  (C : Cx p s m args c cX12_laysWeights 3 RX12 z 32 b) (hr : meth.sig.returnType = (some .int)) (hk : meth.locks = false) {r : Int32} {M' : Mem} {rc : Nat → List Int32 → List Int64 → Mem → Option (Int32 × Mem)} {n : Nat} (q4 : ∀ (i1 : Int32) (i2 : Int32) (M : Mem) (H : Heap) (locs : List Loc) (ls : Array Slot), rc 4 [i1, i2] [] M = some (r, M') → va_P z.1 vwCl (pw (yd z b) 32 b M) H → va_S (pA 32 b) s.heap H locs → lv_has ls 3 [(0, .ref (b + 0)), (1, .int i1), (2, .int i2)] → W p l e rm12_laysWeights s m args below meth c H locs 0 0 (MQ below (va_Qi (fun (r' : Int32) (M2 : Mem) => r' = r ∧ M2 = M') (fun M2 t => va_P z.1 vwCl (pw (yd z b) 32 b M2) t.heap) (pA 32 b)) args s 0 0 (pA 32 b)) (F0 m 4 ls [])) {i1 : Int32} {i2 : Int32} {s1 : Int32} {s2 : Int32} {M : Mem} {H : Heap} {locs : List Loc} {ls : Array Slot} (hf : b12_laysWeights_35  rc n i1 i2 s1 s2 M = some (r, M')) (hP : va_P z.1 vwCl (pw (yd z b) 32 b M) H) (hS : va_S (pA 32 b) s.heap H locs) (hl : lv_has ls 3 [(0, .ref (b + 0)), (1, .int i1), (2, .int i2)]) : W p l e rm12_laysWeights s m args below meth c H locs 0 0 (MQ below (va_Qi (fun (r' : Int32) (M2 : Mem) => r' = r ∧ M2 = M') (fun M2 t => va_P z.1 vwCl (pw (yd z b) 32 b M2) t.heap) (pA 32 b)) args s 0 0 (pA 32 b)) (F0 m 35 ls [.int s2, .int s1, .ref (b + 23)]) := by
  have hx := C.1.1
  have hb := C.1.2.1
  unfold b12_laysWeights_35 at hf
  have h9 := chk_1 hf
  replace hf := chk_2 hf
  refine psI C hP hS (k := 23) (Nat.le_of_ble_eq_true rfl) (yd_23) h9 dX12_laysWeights_35 (fun M10 H locs eM10 hP hS => ?_)
  replace hf := lt_c eM10 hf
  refine lv_iload_n hx hb dX12_laysWeights_36 rfl (lv_at hl 1 rfl) ?_
  refine lv_iconst (v := (0 : Int32)) hx hb dX12_laysWeights_37 (by decide) ?_
  refine lv_aload_n hx hb dX12_laysWeights_38 rfl (lv_at hl 0 rfl) ?_
  refine pg C hP (k := 0) (j := 40) (Nat.le_of_ble_eq_true rfl) (yd_0 _ _) rfl iw_12 (Nat.le_of_ble_eq_true rfl) g_1175 rfl rfl dX12_laysWeights_39 ?_
  refine lv_iload_n hx hb dX12_laysWeights_42 rfl (lv_at hl 2 rfl) ?_
  have h11 := chk_1 hf
  replace hf := chk_2 hf
  refine paI C hP (k := 23) (Nat.le_of_ble_eq_true rfl) (yd_23 _ _) h11 dX12_laysWeights_43 ?_
  obtain ⟨r12, M13, h14, hf⟩ := bnd_s hf
  refine pcSi (As := [.int (0 : Int32), .int (M10.1 23 i2.toNatClampNeg)]) C hP hS (c12_max  h14) y12_max_w g_1512 rfl rfl rfl ⟨Nat.le_of_ble_eq_true rfl, Nat.le_of_ble_eq_true rfl⟩ hl.1 rfl (Nat.le_of_ble_eq_true rfl) dX12_laysWeights_44 ⟨Nat.le_of_ble_eq_true rfl, Nat.le_of_ble_eq_true rfl⟩ (fun H locs hP hS => ?_)
  refine lv_iadd hx hb dX12_laysWeights_47 ?_
  refine lv_topi (fun v15 ev15 => ?_)
  replace hf := lt_c ev15 hf
  refine lv_istore_n (lv' := [(1, .int v15), (0, .ref (b + 0)), (2, .int i2)]) hx hb dX12_laysWeights_48 rfl hl (by decide) rfl (fun ls hl => ?_)
  obtain ⟨v16, ev16⟩ : ∃ v : Int32, v = i2 + (1 : Int32) := ⟨_, rfl⟩
  replace hf := lt_c ev16 hf
  refine lv_iinc (v := v16) (lv' := [(2, .int v16), (1, .int v15), (0, .ref (b + 0))]) hx hb dX12_laysWeights_49 hl (k := 2) rfl (by rw [ev16]; rfl) (by decide) rfl (fun ls hl => ?_)
  refine lv_goto (tgt := 4) hx hb dX12_laysWeights_52 (by decide) ?_
  exact q4 v15 v16 M13 _ _ _ hf hP hS (lv_sub hl [2, 1, 0] rfl)
set_option maxHeartbeats 4000000 in
set_option maxRecDepth 100000 in
theorem w12_laysWeights_4 {p : Program} {l : Launch} {e : Env} {s : State} {m : MethodId} {args : Array Value} {below : List Frame} {meth : Method} {c : Code} {z : Zt} {b : Nat}  (C : Cx p s m args c cX12_laysWeights 3 RX12 z 32 b) (hr : meth.sig.returnType = (some .int)) (hk : meth.locks = false) {r : Int32} {M' : Mem} {rc : Nat → List Int32 → List Int64 → Mem → Option (Int32 × Mem)} {n : Nat} (q4 : ∀ (i1 : Int32) (i2 : Int32) (M : Mem) (H : Heap) (locs : List Loc) (ls : Array Slot), rc 4 [i1, i2] [] M = some (r, M') → va_P z.1 vwCl (pw (yd z b) 32 b M) H → va_S (pA 32 b) s.heap H locs → lv_has ls 3 [(0, .ref (b + 0)), (1, .int i1), (2, .int i2)] → W p l e rm12_laysWeights s m args below meth c H locs 0 0 (MQ below (va_Qi (fun (r' : Int32) (M2 : Mem) => r' = r ∧ M2 = M') (fun M2 t => va_P z.1 vwCl (pw (yd z b) 32 b M2) t.heap) (pA 32 b)) args s 0 0 (pA 32 b)) (F0 m 4 ls [])) {i1 : Int32} {i2 : Int32} {M : Mem} {H : Heap} {locs : List Loc} {ls : Array Slot} (hf : b12_laysWeights_4  rc n i1 i2 M = some (r, M')) (hP : va_P z.1 vwCl (pw (yd z b) 32 b M) H) (hS : va_S (pA 32 b) s.heap H locs) (hl : lv_has ls 3 [(0, .ref (b + 0)), (1, .int i1), (2, .int i2)]) : W p l e rm12_laysWeights s m args below meth c H locs 0 0 (MQ below (va_Qi (fun (r' : Int32) (M2 : Mem) => r' = r ∧ M2 = M') (fun M2 t => va_P z.1 vwCl (pw (yd z b) 32 b M2) t.heap) (pA 32 b)) args s 0 0 (pA 32 b)) (F0 m 4 ls []) := by
  have hx := C.1.1
  have hb := C.1.2.1
  unfold b12_laysWeights_4 at hf
  refine lv_iload_n hx hb dX12_laysWeights_4 rfl (lv_at hl 2 rfl) ?_
  refine lv_bipush (v := (24 : Int32)) hx hb dX12_laysWeights_5 (by decide) ?_
  refine lv_icmp_ge (tgt := 55) hx hb dX12_laysWeights_7 (by decide) (fun c1 => ?_) (fun c1 => ?_)
  · replace hf := ite_t c1 hf
    refine lv_iload_n hx hb dX12_laysWeights_55 rfl (lv_at hl 1 rfl) ?_
    exact prI C hr hk hP hS hf dX12_laysWeights_56
  · replace hf := ite_f c1 hf
    refine lv_aload_n hx hb dX12_laysWeights_10 rfl (lv_at hl 0 rfl) ?_
    refine pg C hP (k := 0) (j := 40) (Nat.le_of_ble_eq_true rfl) (yd_0 _ _) rfl iw_12 (Nat.le_of_ble_eq_true rfl) g_1175 rfl rfl dX12_laysWeights_11 ?_
    refine lv_iload_n hx hb dX12_laysWeights_14 rfl (lv_at hl 2 rfl) ?_
    refine lv_aload_n hx hb dX12_laysWeights_15 rfl (lv_at hl 0 rfl) ?_
    refine pg C hP (k := 0) (j := 6) (Nat.le_of_ble_eq_true rfl) (yd_0 _ _) rfl iw_12 (Nat.le_of_ble_eq_true rfl) g_1141 rfl rfl dX12_laysWeights_16 ?_
    refine lv_iload_n hx hb dX12_laysWeights_19 rfl (lv_at hl 2 rfl) ?_
    obtain ⟨r2, M3, h4, hf⟩ := bnd_s hf
    refine pcSi (As := [.int (M.1 0 6), .int i2]) C hP hS (c12_has  h4) y12_has_w g_1538 rfl rfl rfl ⟨Nat.le_of_ble_eq_true rfl, Nat.le_of_ble_eq_true rfl⟩ hl.1 rfl (Nat.le_of_ble_eq_true rfl) dX12_laysWeights_20 ⟨Nat.le_of_ble_eq_true rfl, Nat.le_of_ble_eq_true rfl⟩ (fun H locs hP hS => ?_)
    refine lv_if_eq (tgt := 30) hx hb dX12_laysWeights_23 (by decide) (fun c5 => ?_) (fun c5 => ?_)
    · replace hf := ite_t c5 hf
      refine lv_aload_n hx hb dX12_laysWeights_30 rfl (lv_at hl 0 rfl) ?_
      refine lv_iload_n hx hb dX12_laysWeights_31 rfl (lv_at hl 2 rfl) ?_
      obtain ⟨r6, M7, h8, hf⟩ := bnd_s hf
      refine pcVi (As := [.int i2]) C hP hS (k := 0) (Nat.le_of_ble_eq_true rfl) (yd_0 _ _) rfl (c12_weightOf  h8) y12_weightOf_w g_1455 rfl rfl rfl ⟨Nat.le_of_ble_eq_true rfl, Nat.le_of_ble_eq_true rfl⟩ hl.1 rfl (Nat.le_of_ble_eq_true rfl) dX12_laysWeights_32 ⟨Nat.le_of_ble_eq_true rfl, Nat.le_of_ble_eq_true rfl⟩ (fun H locs hP hS => ?_)
      exact w12_laysWeights_35 (n := n)  C hr hk q4 hf hP hS (lv_sub hl [0, 1, 2] rfl)
    · replace hf := ite_f c5 hf
      refine lv_iconst (v := (-1 : Int32)) hx hb dX12_laysWeights_26 (by decide) ?_
      refine lv_goto (tgt := 35) hx hb dX12_laysWeights_27 (by decide) ?_
      exact w12_laysWeights_35 (n := n)  C hr hk q4 hf hP hS (lv_sub hl [0, 1, 2] rfl)
set_option maxHeartbeats 4000000 in
set_option maxRecDepth 100000 in
theorem w12_laysWeights_0 {p : Program} {l : Launch} {e : Env} {s : State} {m : MethodId} {args : Array Value} {below : List Frame} {meth : Method} {c : Code} {z : Zt} {b : Nat}  (C : Cx p s m args c cX12_laysWeights 3 RX12 z 32 b) (hr : meth.sig.returnType = (some .int)) (hk : meth.locks = false) {r : Int32} {M' : Mem} {rc : Nat → List Int32 → List Int64 → Mem → Option (Int32 × Mem)} {n : Nat} (q4 : ∀ (i1 : Int32) (i2 : Int32) (M : Mem) (H : Heap) (locs : List Loc) (ls : Array Slot), rc 4 [i1, i2] [] M = some (r, M') → va_P z.1 vwCl (pw (yd z b) 32 b M) H → va_S (pA 32 b) s.heap H locs → lv_has ls 3 [(0, .ref (b + 0)), (1, .int i1), (2, .int i2)] → W p l e rm12_laysWeights s m args below meth c H locs 0 0 (MQ below (va_Qi (fun (r' : Int32) (M2 : Mem) => r' = r ∧ M2 = M') (fun M2 t => va_P z.1 vwCl (pw (yd z b) 32 b M2) t.heap) (pA 32 b)) args s 0 0 (pA 32 b)) (F0 m 4 ls []))  {M : Mem} {H : Heap} {locs : List Loc} {ls : Array Slot} (hf : b12_laysWeights_0  rc n  M = some (r, M')) (hP : va_P z.1 vwCl (pw (yd z b) 32 b M) H) (hS : va_S (pA 32 b) s.heap H locs) (hl : lv_has ls 3 [(0, .ref (b + 0))]) : W p l e rm12_laysWeights s m args below meth c H locs 0 0 (MQ below (va_Qi (fun (r' : Int32) (M2 : Mem) => r' = r ∧ M2 = M') (fun M2 t => va_P z.1 vwCl (pw (yd z b) 32 b M2) t.heap) (pA 32 b)) args s 0 0 (pA 32 b)) (F0 m 0 ls []) := by
  have hx := C.1.1
  have hb := C.1.2.1
  unfold b12_laysWeights_0 at hf
  refine lv_iconst (v := (0 : Int32)) hx hb dX12_laysWeights_0 (by decide) ?_
  refine lv_istore_n (lv' := [(1, .int (0 : Int32)), (0, .ref (b + 0))]) hx hb dX12_laysWeights_1 rfl hl (by decide) rfl (fun ls hl => ?_)
  refine lv_iconst (v := (0 : Int32)) hx hb dX12_laysWeights_2 (by decide) ?_
  refine lv_istore_n (lv' := [(2, .int (0 : Int32)), (1, .int (0 : Int32)), (0, .ref (b + 0))]) hx hb dX12_laysWeights_3 rfl hl (by decide) rfl (fun ls hl => ?_)
  exact w12_laysWeights_4 (n := n)  C hr hk q4 hf hP hS (lv_sub hl [2, 1, 0] rfl)
set_option maxHeartbeats 4000000 in
set_option maxRecDepth 100000 in
theorem l12_laysWeights {p : Program} {l : Launch} {e : Env} {s : State} {m : MethodId} {args : Array Value} {below : List Frame} {meth : Method} {c : Code} {z : Zt} {b : Nat}  (C : Cx p s m args c cX12_laysWeights 3 RX12 z 32 b) (hr : meth.sig.returnType = (some .int)) (hk : meth.locks = false) {r : Int32} {M' : Mem} (n : Nat) : (∀ (i1 : Int32) (i2 : Int32) (M : Mem) (H : Heap) (locs : List Loc) (ls : Array Slot), (r12_laysWeights  n) 4 [i1, i2] [] M = some (r, M') → va_P z.1 vwCl (pw (yd z b) 32 b M) H → va_S (pA 32 b) s.heap H locs → lv_has ls 3 [(0, .ref (b + 0)), (1, .int i1), (2, .int i2)] → W p l e rm12_laysWeights s m args below meth c H locs 0 0 (MQ below (va_Qi (fun (r' : Int32) (M2 : Mem) => r' = r ∧ M2 = M') (fun M2 t => va_P z.1 vwCl (pw (yd z b) 32 b M2) t.heap) (pA 32 b)) args s 0 0 (pA 32 b)) (F0 m 4 ls [])) := by
  induction n with
  | zero => exact fun _ _ _ _ _ _ hf => (by cases hf)
  | succ n ih => exact fun _ _ _ _ _ _ hf hP hS hl => w12_laysWeights_4 (n := n)  C hr hk ih ((e12_laysWeights_4  n _ _ _).symm.trans hf) hP hS hl
theorem c12_laysWeights {l : Launch} {z : Zt} {b n : Nat}   {M M' : Mem} {r : Int32} (hf : f12_laysWeights n   M = some (r, M')) : CI l z (yd z b) 32 b yX12_laysWeights cX12_laysWeights 3 (some .int) rm12_laysWeights [.ref (b + 0)] M M' r :=
  CI.ofW (lv := [(0, .ref (b + 0))]) (by decide) (Nat.le_of_ble_eq_true rfl) rfl (fun p e s m args below meth c ls C hr hk hP hS hl => w12_laysWeights_0 (n := n)  C hr hk (l12_laysWeights  C hr hk n) hf hP hS hl)

-- BronzeKingModel.laysFraction(II)V
theorem dX12_laysFraction_0 : decode cX12_laysFraction 0 = .ok (.iload_n 2, 1) := by decide +kernel
theorem dX12_laysFraction_1 : decode cX12_laysFraction 1 = .ok (.iload_n 1, 1) := by decide +kernel
theorem dX12_laysFraction_2 : decode cX12_laysFraction 2 = .ok (.invokestatic 333, 3) := by decide +kernel
theorem dX12_laysFraction_5 : decode cX12_laysFraction 5 = .ok (.istore_n 3, 1) := by decide +kernel
theorem dX12_laysFraction_6 : decode cX12_laysFraction 6 = .ok (.aload_n 0, 1) := by decide +kernel
theorem dX12_laysFraction_7 : decode cX12_laysFraction 7 = .ok (.iload_n 1, 1) := by decide +kernel
theorem dX12_laysFraction_8 : decode cX12_laysFraction 8 = .ok (.iload_n 3, 1) := by decide +kernel
theorem dX12_laysFraction_9 : decode cX12_laysFraction 9 = .ok (.idiv, 1) := by decide +kernel
theorem dX12_laysFraction_10 : decode cX12_laysFraction 10 = .ok (.putfield 336, 3) := by decide +kernel
theorem dX12_laysFraction_13 : decode cX12_laysFraction 13 = .ok (.aload_n 0, 1) := by decide +kernel
theorem dX12_laysFraction_14 : decode cX12_laysFraction 14 = .ok (.iload_n 2, 1) := by decide +kernel
theorem dX12_laysFraction_15 : decode cX12_laysFraction 15 = .ok (.iload_n 3, 1) := by decide +kernel
theorem dX12_laysFraction_16 : decode cX12_laysFraction 16 = .ok (.idiv, 1) := by decide +kernel
theorem dX12_laysFraction_17 : decode cX12_laysFraction 17 = .ok (.putfield 339, 3) := by decide +kernel
theorem dX12_laysFraction_20 : decode cX12_laysFraction 20 = .ok (.return_, 1) := by decide +kernel
def b12_laysFraction_0 (rc : Nat → List Int32 → List Int64 → Mem → Option (Unit × Mem)) (n : Nat) (a1 : Int32) (a2 : Int32) (M : Mem) : Option (Unit × Mem) :=
  bnd (f12_gcd n a2 a1 M) fun r1 M2 =>
  chk (decide (¬ r1 = 0)) <|
  lt (wI M2 0 41 (a1 / r1)) fun M5 =>
  chk (decide (¬ r1 = 0)) <|
  lt (wI M5 0 42 (a2 / r1)) fun M7 =>
  some ((), M7)
def f12_laysFraction (n : Nat) (a1 : Int32) (a2 : Int32) (M : Mem) : Option (Unit × Mem) := b12_laysFraction_0 (fun _ _ _ _ => none) n a1 a2 M
abbrev rm12_laysFraction : Room := { frames := 1, cells := 0, slots := 0, locals := 24 }
theorem y12_laysFraction_w : yV RX12 yX12_laysFraction cX12_laysFraction 4 none 2 := ⟨g_1543, gp 77 rfl rfl, g_14, g_1544, rfl, by decide, by decide, by decide +kernel⟩
set_option maxHeartbeats 4000000 in
set_option maxRecDepth 100000 in
theorem w12_laysFraction_0 {p : Program} {l : Launch} {e : Env} {s : State} {m : MethodId} {args : Array Value} {below : List Frame} {meth : Method} {c : Code} {z : Zt} {b : Nat}  (C : Cx p s m args c cX12_laysFraction 4 RX12 z 32 b) (hr : meth.sig.returnType = none) (hk : meth.locks = false) {r : Unit} {M' : Mem} {rc : Nat → List Int32 → List Int64 → Mem → Option (Unit × Mem)} {n : Nat}  {a1 : Int32} {a2 : Int32} {M : Mem} {H : Heap} {locs : List Loc} {ls : Array Slot} (hf : b12_laysFraction_0  rc n a1 a2 M = some (r, M')) (hP : va_P z.1 vwCl (pw (yd z b) 32 b M) H) (hS : va_S (pA 32 b) s.heap H locs) (hl : lv_has ls 4 [(0, .ref (b + 0)), (1, .int a1), (2, .int a2)]) : W p l e rm12_laysFraction s m args below meth c H locs 0 0 (MQ below (va_Qv (fun (M2 : Mem) => M2 = M') (fun M2 t => va_P z.1 vwCl (pw (yd z b) 32 b M2) t.heap) (pA 32 b)) args s 0 0 (pA 32 b)) (F0 m 0 ls []) := by
  have hx := C.1.1
  have hb := C.1.2.1
  unfold b12_laysFraction_0 at hf
  refine lv_iload_n hx hb dX12_laysFraction_0 rfl (lv_at hl 2 rfl) ?_
  refine lv_iload_n hx hb dX12_laysFraction_1 rfl (lv_at hl 1 rfl) ?_
  obtain ⟨r1, M2, h3, hf⟩ := bnd_s hf
  refine pcSi (As := [.int a2, .int a1]) C hP hS (c12_gcd  h3) y12_gcd_w g_1545 rfl rfl rfl ⟨Nat.le_of_ble_eq_true rfl, Nat.le_of_ble_eq_true rfl⟩ hl.1 rfl (Nat.le_of_ble_eq_true rfl) dX12_laysFraction_2 ⟨Nat.le_of_ble_eq_true rfl, Nat.le_of_ble_eq_true rfl⟩ (fun H locs hP hS => ?_)
  refine lv_istore_n (lv' := [(3, .int r1), (0, .ref (b + 0)), (1, .int a1), (2, .int a2)]) hx hb dX12_laysFraction_5 rfl hl (by decide) rfl (fun ls hl => ?_)
  refine lv_aload_n hx hb dX12_laysFraction_6 rfl (lv_at hl 1 rfl) ?_
  refine lv_iload_n hx hb dX12_laysFraction_7 rfl (lv_at hl 2 rfl) ?_
  refine lv_iload_n hx hb dX12_laysFraction_8 rfl (lv_at hl 0 rfl) ?_
  have h4 := of_decide_eq_true (chk_1 hf)
  replace hf := chk_2 hf
  refine lv_idiv hx hb dX12_laysFraction_9 h4 ?_
  refine ppI C hP hS (k := 0) (j := 41) (ty := .int) (Nat.le_of_ble_eq_true rfl) (yd_0 _ _) rfl iw_12 tyX12 tyX12_ok nmX12 (Nat.le_of_ble_eq_true rfl) g_1176 rfl rfl (by decide +kernel) rfl rfl (Nat.le_of_ble_eq_true rfl) (yu_0_41 _ _ _) dX12_laysFraction_10 (fun M5 H locs eM5 hP hS => ?_)
  replace hf := lt_c eM5 hf
  refine lv_aload_n hx hb dX12_laysFraction_13 rfl (lv_at hl 1 rfl) ?_
  refine lv_iload_n hx hb dX12_laysFraction_14 rfl (lv_at hl 3 rfl) ?_
  refine lv_iload_n hx hb dX12_laysFraction_15 rfl (lv_at hl 0 rfl) ?_
  have h6 := of_decide_eq_true (chk_1 hf)
  replace hf := chk_2 hf
  refine lv_idiv hx hb dX12_laysFraction_16 h6 ?_
  refine ppI C hP hS (k := 0) (j := 42) (ty := .int) (Nat.le_of_ble_eq_true rfl) (yd_0 _ _) rfl iw_12 tyX12 tyX12_ok nmX12 (Nat.le_of_ble_eq_true rfl) g_1177 rfl rfl (by decide +kernel) rfl rfl (Nat.le_of_ble_eq_true rfl) (yu_0_42 _ _ _) dX12_laysFraction_17 (fun M7 H locs eM7 hP hS => ?_)
  replace hf := lt_c eM7 hf
  exact prV C hr hk hP hS hf dX12_laysFraction_20
theorem c12_laysFraction {l : Launch} {z : Zt} {b n : Nat}  {a1 : Int32} {a2 : Int32} {M M' : Mem} {r : Unit} (hf : f12_laysFraction n  a1 a2 M = some (r, M')) : CV l z (yd z b) 32 b yX12_laysFraction cX12_laysFraction 4 none rm12_laysFraction [.ref (b + 0), .int a1, .int a2] M M' :=
  CV.ofW (lv := [(0, .ref (b + 0)), (1, .int a1), (2, .int a2)]) (by decide) (Nat.le_of_ble_eq_true rfl) rfl (fun p e s m args below meth c ls C hr hk hP hS hl => w12_laysFraction_0 (n := n)  C hr hk  hf hP hS hl)

-- BronzeKingModel.likely(II)I
theorem dX12_likely_0 : decode cX12_likely 0 = .ok (.iload_n 1, 1) := by decide +kernel
theorem dX12_likely_1 : decode cX12_likely 1 = .ok (.iconst 0, 1) := by decide +kernel
theorem dX12_likely_2 : decode cX12_likely 2 = .ok (.bipush 23, 2) := by decide +kernel
theorem dX12_likely_4 : decode cX12_likely 4 = .ok (.invokestatic 106, 3) := by decide +kernel
theorem dX12_likely_7 : decode cX12_likely 7 = .ok (.ifCond .eq 12, 3) := by decide +kernel
theorem dX12_likely_10 : decode cX12_likely 10 = .ok (.iload_n 2, 1) := by decide +kernel
theorem dX12_likely_11 : decode cX12_likely 11 = .ok (.iconst 0, 1) := by decide +kernel
theorem dX12_likely_12 : decode cX12_likely 12 = .ok (.iconst 1, 1) := by decide +kernel
theorem dX12_likely_13 : decode cX12_likely 13 = .ok (.invokestatic 106, 3) := by decide +kernel
theorem dX12_likely_16 : decode cX12_likely 16 = .ok (.ifCond .ne 5, 3) := by decide +kernel
theorem dX12_likely_19 : decode cX12_likely 19 = .ok (.iconst (-1), 1) := by decide +kernel
theorem dX12_likely_20 : decode cX12_likely 20 = .ok (.ireturn, 1) := by decide +kernel
theorem dX12_likely_21 : decode cX12_likely 21 = .ok (.aload_n 0, 1) := by decide +kernel
theorem dX12_likely_22 : decode cX12_likely 22 = .ok (.invokevirtual 342, 3) := by decide +kernel
theorem dX12_likely_25 : decode cX12_likely 25 = .ok (.istore_n 3, 1) := by decide +kernel
theorem dX12_likely_26 : decode cX12_likely 26 = .ok (.iload_n 3, 1) := by decide +kernel
theorem dX12_likely_27 : decode cX12_likely 27 = .ok (.ifCond .eq 13, 3) := by decide +kernel
theorem dX12_likely_30 : decode cX12_likely 30 = .ok (.aload_n 0, 1) := by decide +kernel
theorem dX12_likely_31 : decode cX12_likely 31 = .ok (.getfield 77, 3) := by decide +kernel
theorem dX12_likely_34 : decode cX12_likely 34 = .ok (.iload_n 1, 1) := by decide +kernel
theorem dX12_likely_35 : decode cX12_likely 35 = .ok (.iaload, 1) := by decide +kernel
theorem dX12_likely_36 : decode cX12_likely 36 = .ok (.iconst (-1), 1) := by decide +kernel
theorem dX12_likely_37 : decode cX12_likely 37 = .ok (.if_icmp .ne 6, 3) := by decide +kernel
theorem dX12_likely_40 : decode cX12_likely 40 = .ok (.bipush (-2), 2) := by decide +kernel
theorem dX12_likely_42 : decode cX12_likely 42 = .ok (.ireturn, 1) := by decide +kernel
theorem dX12_likely_43 : decode cX12_likely 43 = .ok (.aload_n 0, 1) := by decide +kernel
theorem dX12_likely_44 : decode cX12_likely 44 = .ok (.aload_n 0, 1) := by decide +kernel
theorem dX12_likely_45 : decode cX12_likely 45 = .ok (.getfield 77, 3) := by decide +kernel
theorem dX12_likely_48 : decode cX12_likely 48 = .ok (.iload_n 1, 1) := by decide +kernel
theorem dX12_likely_49 : decode cX12_likely 49 = .ok (.iaload, 1) := by decide +kernel
theorem dX12_likely_50 : decode cX12_likely 50 = .ok (.iload_n 3, 1) := by decide +kernel
theorem dX12_likely_51 : decode cX12_likely 51 = .ok (.invokevirtual 345, 3) := by decide +kernel
theorem dX12_likely_54 : decode cX12_likely 54 = .ok (.iload_n 2, 1) := by decide +kernel
theorem dX12_likely_55 : decode cX12_likely 55 = .ok (.ifCond .ne 10, 3) := by decide +kernel
theorem dX12_likely_58 : decode cX12_likely 58 = .ok (.aload_n 0, 1) := by decide +kernel
theorem dX12_likely_59 : decode cX12_likely 59 = .ok (.getfield 336, 3) := by decide +kernel
theorem dX12_likely_62 : decode cX12_likely 62 = .ok (.goto 7, 3) := by decide +kernel
theorem dX12_likely_65 : decode cX12_likely 65 = .ok (.aload_n 0, 1) := by decide +kernel
theorem dX12_likely_66 : decode cX12_likely 66 = .ok (.getfield 339, 3) := by decide +kernel
theorem dX12_likely_69 : decode cX12_likely 69 = .ok (.ireturn, 1) := by decide +kernel
def b12_likely_19 (rc : Nat → List Int32 → List Int64 → Mem → Option (Int32 × Mem)) (n : Nat) (M : Mem) : Option (Int32 × Mem) :=
  some ((-1 : Int32), M)
def b12_likely_40 (rc : Nat → List Int32 → List Int64 → Mem → Option (Int32 × Mem)) (n : Nat) (M : Mem) : Option (Int32 × Mem) :=
  some ((-2 : Int32), M)
def b12_likely_0 (rc : Nat → List Int32 → List Int64 → Mem → Option (Int32 × Mem)) (n : Nat) (a1 : Int32) (a2 : Int32) (M : Mem) : Option (Int32 × Mem) :=
  bnd (f12_in n a1 (0 : Int32) (23 : Int32) M) fun r1 M2 =>
  (if r1 = 0 then (
   b12_likely_19  rc n  M2)
  else (
   bnd (f12_in n a2 (0 : Int32) (1 : Int32) M2) fun r5 M6 =>
   (if r5 = 0 then (
    b12_likely_19  rc n  M6)
   else (
    bnd (f12_laysWeights n M6) fun r9 M10 =>
    (if r9 = 0 then (
     b12_likely_40  rc n  M10)
    else (
     chk (inb a1 24) <|
     (if (M10.1 23 a1.toNatClampNeg) = (-1 : Int32) then (
      b12_likely_40  rc n  M10)
     else (
      chk (inb a1 24) <|
      bnd (f12_laysFraction n (M10.1 23 a1.toNatClampNeg) r9 M10) fun r16 M17 =>
      (if a2 = 0 then (
       some ((M17.1 0 41), M17))
      else (
       some ((M17.1 0 42), M17)))))))))))
def f12_likely (n : Nat) (a1 : Int32) (a2 : Int32) (M : Mem) : Option (Int32 × Mem) := b12_likely_0 (fun _ _ _ _ => none) n a1 a2 M
abbrev rm12_likely : Room := { frames := 5, cells := 0, slots := 0, locals := 117 }
theorem y12_likely_w : yV RX12 yX12_likely cX12_likely 4 (some .int) 2 := ⟨g_1531, g_1532, g_14, g_1533, rfl, by decide, by decide, by decide +kernel⟩
set_option maxHeartbeats 4000000 in
set_option maxRecDepth 100000 in
theorem w12_likely_19 {p : Program} {l : Launch} {e : Env} {s : State} {m : MethodId} {args : Array Value} {below : List Frame} {meth : Method} {c : Code} {z : Zt} {b : Nat}  (C : Cx p s m args c cX12_likely 4 RX12 z 32 b) (hr : meth.sig.returnType = (some .int)) (hk : meth.locks = false) {r : Int32} {M' : Mem} {rc : Nat → List Int32 → List Int64 → Mem → Option (Int32 × Mem)} {n : Nat}   {M : Mem} {H : Heap} {locs : List Loc} {ls : Array Slot} (hf : b12_likely_19  rc n  M = some (r, M')) (hP : va_P z.1 vwCl (pw (yd z b) 32 b M) H) (hS : va_S (pA 32 b) s.heap H locs) (hl : lv_has ls 4 []) : W p l e rm12_likely s m args below meth c H locs 0 0 (MQ below (va_Qi (fun (r' : Int32) (M2 : Mem) => r' = r ∧ M2 = M') (fun M2 t => va_P z.1 vwCl (pw (yd z b) 32 b M2) t.heap) (pA 32 b)) args s 0 0 (pA 32 b)) (F0 m 19 ls []) := by
  have hx := C.1.1
  have hb := C.1.2.1
  unfold b12_likely_19 at hf
  refine lv_iconst (v := (-1 : Int32)) hx hb dX12_likely_19 (by decide) ?_
  exact prI C hr hk hP hS hf dX12_likely_20
set_option maxHeartbeats 4000000 in
set_option maxRecDepth 100000 in
theorem w12_likely_40 {p : Program} {l : Launch} {e : Env} {s : State} {m : MethodId} {args : Array Value} {below : List Frame} {meth : Method} {c : Code} {z : Zt} {b : Nat}  (C : Cx p s m args c cX12_likely 4 RX12 z 32 b) (hr : meth.sig.returnType = (some .int)) (hk : meth.locks = false) {r : Int32} {M' : Mem} {rc : Nat → List Int32 → List Int64 → Mem → Option (Int32 × Mem)} {n : Nat}   {M : Mem} {H : Heap} {locs : List Loc} {ls : Array Slot} (hf : b12_likely_40  rc n  M = some (r, M')) (hP : va_P z.1 vwCl (pw (yd z b) 32 b M) H) (hS : va_S (pA 32 b) s.heap H locs) (hl : lv_has ls 4 []) : W p l e rm12_likely s m args below meth c H locs 0 0 (MQ below (va_Qi (fun (r' : Int32) (M2 : Mem) => r' = r ∧ M2 = M') (fun M2 t => va_P z.1 vwCl (pw (yd z b) 32 b M2) t.heap) (pA 32 b)) args s 0 0 (pA 32 b)) (F0 m 40 ls []) := by
  have hx := C.1.1
  have hb := C.1.2.1
  unfold b12_likely_40 at hf
  refine lv_bipush (v := (-2 : Int32)) hx hb dX12_likely_40 (by decide) ?_
  exact prI C hr hk hP hS hf dX12_likely_42
set_option maxHeartbeats 4000000 in
set_option maxRecDepth 100000 in
theorem w12_likely_0 {p : Program} {l : Launch} {e : Env} {s : State} {m : MethodId} {args : Array Value} {below : List Frame} {meth : Method} {c : Code} {z : Zt} {b : Nat}  (C : Cx p s m args c cX12_likely 4 RX12 z 32 b) (hr : meth.sig.returnType = (some .int)) (hk : meth.locks = false) {r : Int32} {M' : Mem} {rc : Nat → List Int32 → List Int64 → Mem → Option (Int32 × Mem)} {n : Nat}  {a1 : Int32} {a2 : Int32} {M : Mem} {H : Heap} {locs : List Loc} {ls : Array Slot} (hf : b12_likely_0  rc n a1 a2 M = some (r, M')) (hP : va_P z.1 vwCl (pw (yd z b) 32 b M) H) (hS : va_S (pA 32 b) s.heap H locs) (hl : lv_has ls 4 [(0, .ref (b + 0)), (1, .int a1), (2, .int a2)]) : W p l e rm12_likely s m args below meth c H locs 0 0 (MQ below (va_Qi (fun (r' : Int32) (M2 : Mem) => r' = r ∧ M2 = M') (fun M2 t => va_P z.1 vwCl (pw (yd z b) 32 b M2) t.heap) (pA 32 b)) args s 0 0 (pA 32 b)) (F0 m 0 ls []) := by
  have hx := C.1.1
  have hb := C.1.2.1
  unfold b12_likely_0 at hf
  refine lv_iload_n hx hb dX12_likely_0 rfl (lv_at hl 1 rfl) ?_
  refine lv_iconst (v := (0 : Int32)) hx hb dX12_likely_1 (by decide) ?_
  refine lv_bipush (v := (23 : Int32)) hx hb dX12_likely_2 (by decide) ?_
  obtain ⟨r1, M2, h3, hf⟩ := bnd_s hf
  refine pcSi (As := [.int a1, .int (0 : Int32), .int (23 : Int32)]) C hP hS (c12_in  h3) y12_in_w g_1306 rfl rfl rfl ⟨Nat.le_of_ble_eq_true rfl, Nat.le_of_ble_eq_true rfl⟩ hl.1 rfl (Nat.le_of_ble_eq_true rfl) dX12_likely_4 ⟨Nat.le_of_ble_eq_true rfl, Nat.le_of_ble_eq_true rfl⟩ (fun H locs hP hS => ?_)
  refine lv_if_eq (tgt := 19) hx hb dX12_likely_7 (by decide) (fun c4 => ?_) (fun c4 => ?_)
  · replace hf := ite_t c4 hf
    exact w12_likely_19 (n := n)  C hr hk  hf hP hS (lv_sub hl [] rfl)
  · replace hf := ite_f c4 hf
    refine lv_iload_n hx hb dX12_likely_10 rfl (lv_at hl 2 rfl) ?_
    refine lv_iconst (v := (0 : Int32)) hx hb dX12_likely_11 (by decide) ?_
    refine lv_iconst (v := (1 : Int32)) hx hb dX12_likely_12 (by decide) ?_
    obtain ⟨r5, M6, h7, hf⟩ := bnd_s hf
    refine pcSi (As := [.int a2, .int (0 : Int32), .int (1 : Int32)]) C hP hS (c12_in  h7) y12_in_w g_1306 rfl rfl rfl ⟨Nat.le_of_ble_eq_true rfl, Nat.le_of_ble_eq_true rfl⟩ hl.1 rfl (Nat.le_of_ble_eq_true rfl) dX12_likely_13 ⟨Nat.le_of_ble_eq_true rfl, Nat.le_of_ble_eq_true rfl⟩ (fun H locs hP hS => ?_)
    refine lv_if_ne (tgt := 21) hx hb dX12_likely_16 (by decide) (fun c8 => ?_) (fun c8 => ?_)
    · replace hf := ite_f c8 hf
      refine lv_aload_n hx hb dX12_likely_21 rfl (lv_at hl 0 rfl) ?_
      obtain ⟨r9, M10, h11, hf⟩ := bnd_s hf
      refine pcVi (As := []) C hP hS (k := 0) (Nat.le_of_ble_eq_true rfl) (yd_0 _ _) rfl (c12_laysWeights  h11) y12_laysWeights_w g_1534 rfl rfl rfl ⟨Nat.le_of_ble_eq_true rfl, Nat.le_of_ble_eq_true rfl⟩ hl.1 rfl (Nat.le_of_ble_eq_true rfl) dX12_likely_22 ⟨Nat.le_of_ble_eq_true rfl, Nat.le_of_ble_eq_true rfl⟩ (fun H locs hP hS => ?_)
      refine lv_istore_n (lv' := [(3, .int r9), (0, .ref (b + 0)), (1, .int a1), (2, .int a2)]) hx hb dX12_likely_25 rfl hl (by decide) rfl (fun ls hl => ?_)
      refine lv_iload_n hx hb dX12_likely_26 rfl (lv_at hl 0 rfl) ?_
      refine lv_if_eq (tgt := 40) hx hb dX12_likely_27 (by decide) (fun c12 => ?_) (fun c12 => ?_)
      · replace hf := ite_t c12 hf
        exact w12_likely_40 (n := n)  C hr hk  hf hP hS (lv_sub hl [] rfl)
      · replace hf := ite_f c12 hf
        refine lv_aload_n hx hb dX12_likely_30 rfl (lv_at hl 1 rfl) ?_
        refine pg C hP (k := 0) (j := 40) (Nat.le_of_ble_eq_true rfl) (yd_0 _ _) rfl iw_12 (Nat.le_of_ble_eq_true rfl) g_1175 rfl rfl dX12_likely_31 ?_
        refine lv_iload_n hx hb dX12_likely_34 rfl (lv_at hl 2 rfl) ?_
        have h13 := chk_1 hf
        replace hf := chk_2 hf
        refine paI C hP (k := 23) (Nat.le_of_ble_eq_true rfl) (yd_23 _ _) h13 dX12_likely_35 ?_
        refine lv_iconst (v := (-1 : Int32)) hx hb dX12_likely_36 (by decide) ?_
        refine lv_icmp_ne (tgt := 43) hx hb dX12_likely_37 (by decide) (fun c14 => ?_) (fun c14 => ?_)
        · replace hf := ite_f c14 hf
          refine lv_aload_n hx hb dX12_likely_43 rfl (lv_at hl 1 rfl) ?_
          refine lv_aload_n hx hb dX12_likely_44 rfl (lv_at hl 1 rfl) ?_
          refine pg C hP (k := 0) (j := 40) (Nat.le_of_ble_eq_true rfl) (yd_0 _ _) rfl iw_12 (Nat.le_of_ble_eq_true rfl) g_1175 rfl rfl dX12_likely_45 ?_
          refine lv_iload_n hx hb dX12_likely_48 rfl (lv_at hl 2 rfl) ?_
          have h15 := chk_1 hf
          replace hf := chk_2 hf
          refine paI C hP (k := 23) (Nat.le_of_ble_eq_true rfl) (yd_23 _ _) h15 dX12_likely_49 ?_
          refine lv_iload_n hx hb dX12_likely_50 rfl (lv_at hl 0 rfl) ?_
          obtain ⟨r16, M17, h18, hf⟩ := bnd_s hf
          refine pcVv (As := [.int (M10.1 23 a1.toNatClampNeg), .int r9]) C hP hS (k := 0) (Nat.le_of_ble_eq_true rfl) (yd_0 _ _) rfl (c12_laysFraction  h18) y12_laysFraction_w g_1541 rfl rfl rfl ⟨Nat.le_of_ble_eq_true rfl, Nat.le_of_ble_eq_true rfl⟩ hl.1 rfl (Nat.le_of_ble_eq_true rfl) dX12_likely_51 ⟨Nat.le_of_ble_eq_true rfl, Nat.le_of_ble_eq_true rfl⟩ (fun H locs hP hS => ?_)
          refine lv_iload_n hx hb dX12_likely_54 rfl (lv_at hl 3 rfl) ?_
          refine lv_if_ne (tgt := 65) hx hb dX12_likely_55 (by decide) (fun c19 => ?_) (fun c19 => ?_)
          · replace hf := ite_f c19 hf
            refine lv_aload_n hx hb dX12_likely_65 rfl (lv_at hl 1 rfl) ?_
            refine pg C hP (k := 0) (j := 42) (Nat.le_of_ble_eq_true rfl) (yd_0 _ _) rfl iw_12 (Nat.le_of_ble_eq_true rfl) g_1177 rfl rfl dX12_likely_66 ?_
            exact prI C hr hk hP hS hf dX12_likely_69
          · replace hf := ite_t c19 hf
            refine lv_aload_n hx hb dX12_likely_58 rfl (lv_at hl 1 rfl) ?_
            refine pg C hP (k := 0) (j := 41) (Nat.le_of_ble_eq_true rfl) (yd_0 _ _) rfl iw_12 (Nat.le_of_ble_eq_true rfl) g_1176 rfl rfl dX12_likely_59 ?_
            refine lv_goto (tgt := 69) hx hb dX12_likely_62 (by decide) ?_
            exact prI C hr hk hP hS hf dX12_likely_69
        · replace hf := ite_t c14 hf
          exact w12_likely_40 (n := n)  C hr hk  hf hP hS (lv_sub hl [] rfl)
    · replace hf := ite_t c8 hf
      exact w12_likely_19 (n := n)  C hr hk  hf hP hS (lv_sub hl [] rfl)
theorem c12_likely {l : Launch} {z : Zt} {b n : Nat}  {a1 : Int32} {a2 : Int32} {M M' : Mem} {r : Int32} (hf : f12_likely n  a1 a2 M = some (r, M')) : CI l z (yd z b) 32 b yX12_likely cX12_likely 4 (some .int) rm12_likely [.ref (b + 0), .int a1, .int a2] M M' r :=
  CI.ofW (lv := [(0, .ref (b + 0)), (1, .int a1), (2, .int a2)]) (by decide) (Nat.le_of_ble_eq_true rfl) rfl (fun p e s m args below meth c ls C hr hk hP hS hl => w12_likely_0 (n := n)  C hr hk  hf hP hS hl)

-- BronzeKingModel.nextHour(I)I
theorem dX12_nextHour_0 : decode cX12_nextHour 0 = .ok (.iconst (-1), 1) := by decide +kernel
theorem dX12_nextHour_1 : decode cX12_nextHour 1 = .ok (.istore_n 2, 1) := by decide +kernel
theorem dX12_nextHour_2 : decode cX12_nextHour 2 = .ok (.iconst 0, 1) := by decide +kernel
theorem dX12_nextHour_3 : decode cX12_nextHour 3 = .ok (.istore_n 3, 1) := by decide +kernel
theorem dX12_nextHour_4 : decode cX12_nextHour 4 = .ok (.iload_n 3, 1) := by decide +kernel
theorem dX12_nextHour_5 : decode cX12_nextHour 5 = .ok (.bipush 24, 2) := by decide +kernel
theorem dX12_nextHour_7 : decode cX12_nextHour 7 = .ok (.if_icmp .ge 52, 3) := by decide +kernel
theorem dX12_nextHour_10 : decode cX12_nextHour 10 = .ok (.iload_n 1, 1) := by decide +kernel
theorem dX12_nextHour_11 : decode cX12_nextHour 11 = .ok (.iload_n 3, 1) := by decide +kernel
theorem dX12_nextHour_12 : decode cX12_nextHour 12 = .ok (.invokestatic 330, 3) := by decide +kernel
theorem dX12_nextHour_15 : decode cX12_nextHour 15 = .ok (.ifCond .ne 38, 3) := by decide +kernel
theorem dX12_nextHour_18 : decode cX12_nextHour 18 = .ok (.aload_n 0, 1) := by decide +kernel
theorem dX12_nextHour_19 : decode cX12_nextHour 19 = .ok (.getfield 77, 3) := by decide +kernel
theorem dX12_nextHour_22 : decode cX12_nextHour 22 = .ok (.iload_n 3, 1) := by decide +kernel
theorem dX12_nextHour_23 : decode cX12_nextHour 23 = .ok (.iaload, 1) := by decide +kernel
theorem dX12_nextHour_24 : decode cX12_nextHour 24 = .ok (.iconst (-1), 1) := by decide +kernel
theorem dX12_nextHour_25 : decode cX12_nextHour 25 = .ok (.if_icmp .ne 6, 3) := by decide +kernel
theorem dX12_nextHour_28 : decode cX12_nextHour 28 = .ok (.goto 25, 3) := by decide +kernel
theorem dX12_nextHour_31 : decode cX12_nextHour 31 = .ok (.iload_n 2, 1) := by decide +kernel
theorem dX12_nextHour_32 : decode cX12_nextHour 32 = .ok (.iconst (-1), 1) := by decide +kernel
theorem dX12_nextHour_33 : decode cX12_nextHour 33 = .ok (.if_icmp .eq 18, 3) := by decide +kernel
theorem dX12_nextHour_36 : decode cX12_nextHour 36 = .ok (.aload_n 0, 1) := by decide +kernel
theorem dX12_nextHour_37 : decode cX12_nextHour 37 = .ok (.getfield 77, 3) := by decide +kernel
theorem dX12_nextHour_40 : decode cX12_nextHour 40 = .ok (.iload_n 3, 1) := by decide +kernel
theorem dX12_nextHour_41 : decode cX12_nextHour 41 = .ok (.iaload, 1) := by decide +kernel
theorem dX12_nextHour_42 : decode cX12_nextHour 42 = .ok (.aload_n 0, 1) := by decide +kernel
theorem dX12_nextHour_43 : decode cX12_nextHour 43 = .ok (.getfield 77, 3) := by decide +kernel
theorem dX12_nextHour_46 : decode cX12_nextHour 46 = .ok (.iload_n 2, 1) := by decide +kernel
theorem dX12_nextHour_47 : decode cX12_nextHour 47 = .ok (.iaload, 1) := by decide +kernel
theorem dX12_nextHour_48 : decode cX12_nextHour 48 = .ok (.if_icmp .le 5, 3) := by decide +kernel
theorem dX12_nextHour_51 : decode cX12_nextHour 51 = .ok (.iload_n 3, 1) := by decide +kernel
theorem dX12_nextHour_52 : decode cX12_nextHour 52 = .ok (.istore_n 2, 1) := by decide +kernel
theorem dX12_nextHour_53 : decode cX12_nextHour 53 = .ok (.iinc 3 1, 3) := by decide +kernel
theorem dX12_nextHour_56 : decode cX12_nextHour 56 = .ok (.goto (-52), 3) := by decide +kernel
theorem dX12_nextHour_59 : decode cX12_nextHour 59 = .ok (.iload_n 2, 1) := by decide +kernel
theorem dX12_nextHour_60 : decode cX12_nextHour 60 = .ok (.ireturn, 1) := by decide +kernel
def b12_nextHour_53 (rc : Nat → List Int32 → List Int64 → Mem → Option (Int32 × Mem)) (n : Nat) (i1 : Int32) (i2 : Int32) (i3 : Int32) (M : Mem) : Option (Int32 × Mem) :=
  lt (i3 + (1 : Int32)) fun v12 =>
  rc 4 [i1, i2, v12] [] M
def b12_nextHour_51 (rc : Nat → List Int32 → List Int64 → Mem → Option (Int32 × Mem)) (n : Nat) (i1 : Int32) (i3 : Int32) (M : Mem) : Option (Int32 × Mem) :=
  b12_nextHour_53  rc n i1 i3 i3 M
def b12_nextHour_4 (rc : Nat → List Int32 → List Int64 → Mem → Option (Int32 × Mem)) (n : Nat) (i1 : Int32) (i2 : Int32) (i3 : Int32) (M : Mem) : Option (Int32 × Mem) :=
  (if (24 : Int32) ≤ i3 then (
   some (i2, M))
  else (
   bnd (f12_has n i1 i3 M) fun r2 M3 =>
   (if r2 = 0 then (
    chk (inb i3 24) <|
    (if (M3.1 23 i3.toNatClampNeg) = (-1 : Int32) then (
     b12_nextHour_53  rc n i1 i2 i3 M3)
    else (
     (if i2 = (-1 : Int32) then (
      b12_nextHour_51  rc n i1 i3 M3)
     else (
      chk (inb i3 24) <|
      chk (inb i2 24) <|
      (if (M3.1 23 i3.toNatClampNeg) ≤ (M3.1 23 i2.toNatClampNeg) then (
       b12_nextHour_53  rc n i1 i2 i3 M3)
      else (
       b12_nextHour_51  rc n i1 i3 M3)))))))
   else (
    b12_nextHour_53  rc n i1 i2 i3 M3))))
def b12_nextHour_0 (rc : Nat → List Int32 → List Int64 → Mem → Option (Int32 × Mem)) (n : Nat) (a1 : Int32) (M : Mem) : Option (Int32 × Mem) :=
  b12_nextHour_4  rc n a1 (-1 : Int32) (0 : Int32) M
def r12_nextHour : Nat → Nat → List Int32 → List Int64 → Mem → Option (Int32 × Mem)
  | 0 => fun _ _ _ _ => none
  | n + 1 => fun pc li lj M =>
    if pc = 4 then (match li, lj with | [i1, i2, i3], [] => b12_nextHour_4  (r12_nextHour  n) n i1 i2 i3 M | _, _ => none) else
    none
theorem e12_nextHour_4  (n : Nat) (i1 : Int32) (i2 : Int32) (i3 : Int32) (M : Mem) : r12_nextHour  (n + 1) 4 [i1, i2, i3] [] M = b12_nextHour_4  (r12_nextHour  n) n i1 i2 i3 M := by
  rw [r12_nextHour]
  simp
def f12_nextHour (n : Nat) (a1 : Int32) (M : Mem) : Option (Int32 × Mem) := b12_nextHour_0 (r12_nextHour n) n a1 M
abbrev rm12_nextHour : Room := { frames := 1, cells := 0, slots := 0, locals := 21 }
theorem y12_nextHour_w : yV RX12 yX12_nextHour cX12_nextHour 4 (some .int) 1 := ⟨g_1554, gp 78 rfl rfl, g_14, g_1555, rfl, by decide, by decide, by decide +kernel⟩
set_option maxHeartbeats 4000000 in
set_option maxRecDepth 100000 in
theorem w12_nextHour_53 {p : Program} {l : Launch} {e : Env} {s : State} {m : MethodId} {args : Array Value} {below : List Frame} {meth : Method} {c : Code} {z : Zt} {b : Nat}  (C : Cx p s m args c cX12_nextHour 4 RX12 z 32 b) (hr : meth.sig.returnType = (some .int)) (hk : meth.locks = false) {r : Int32} {M' : Mem} {rc : Nat → List Int32 → List Int64 → Mem → Option (Int32 × Mem)} {n : Nat} (q4 : ∀ (i1 : Int32) (i2 : Int32) (i3 : Int32) (M : Mem) (H : Heap) (locs : List Loc) (ls : Array Slot), rc 4 [i1, i2, i3] [] M = some (r, M') → va_P z.1 vwCl (pw (yd z b) 32 b M) H → va_S (pA 32 b) s.heap H locs → lv_has ls 4 [(0, .ref (b + 0)), (1, .int i1), (2, .int i2), (3, .int i3)] → W p l e rm12_nextHour s m args below meth c H locs 0 0 (MQ below (va_Qi (fun (r' : Int32) (M2 : Mem) => r' = r ∧ M2 = M') (fun M2 t => va_P z.1 vwCl (pw (yd z b) 32 b M2) t.heap) (pA 32 b)) args s 0 0 (pA 32 b)) (F0 m 4 ls [])) {i1 : Int32} {i2 : Int32} {i3 : Int32} {M : Mem} {H : Heap} {locs : List Loc} {ls : Array Slot} (hf : b12_nextHour_53  rc n i1 i2 i3 M = some (r, M')) (hP : va_P z.1 vwCl (pw (yd z b) 32 b M) H) (hS : va_S (pA 32 b) s.heap H locs) (hl : lv_has ls 4 [(0, .ref (b + 0)), (1, .int i1), (2, .int i2), (3, .int i3)]) : W p l e rm12_nextHour s m args below meth c H locs 0 0 (MQ below (va_Qi (fun (r' : Int32) (M2 : Mem) => r' = r ∧ M2 = M') (fun M2 t => va_P z.1 vwCl (pw (yd z b) 32 b M2) t.heap) (pA 32 b)) args s 0 0 (pA 32 b)) (F0 m 53 ls []) := by
  have hx := C.1.1
  have hb := C.1.2.1
  unfold b12_nextHour_53 at hf
  obtain ⟨v12, ev12⟩ : ∃ v : Int32, v = i3 + (1 : Int32) := ⟨_, rfl⟩
  replace hf := lt_c ev12 hf
  refine lv_iinc (v := v12) (lv' := [(3, .int v12), (0, .ref (b + 0)), (1, .int i1), (2, .int i2)]) hx hb dX12_nextHour_53 hl (k := 3) rfl (by rw [ev12]; rfl) (by decide) rfl (fun ls hl => ?_)
  refine lv_goto (tgt := 4) hx hb dX12_nextHour_56 (by decide) ?_
  exact q4 i1 i2 v12 M _ _ _ hf hP hS (lv_sub hl [1, 2, 3, 0] rfl)
set_option maxHeartbeats 4000000 in
set_option maxRecDepth 100000 in
theorem w12_nextHour_51 {p : Program} {l : Launch} {e : Env} {s : State} {m : MethodId} {args : Array Value} {below : List Frame} {meth : Method} {c : Code} {z : Zt} {b : Nat}  (C : Cx p s m args c cX12_nextHour 4 RX12 z 32 b) (hr : meth.sig.returnType = (some .int)) (hk : meth.locks = false) {r : Int32} {M' : Mem} {rc : Nat → List Int32 → List Int64 → Mem → Option (Int32 × Mem)} {n : Nat} (q4 : ∀ (i1 : Int32) (i2 : Int32) (i3 : Int32) (M : Mem) (H : Heap) (locs : List Loc) (ls : Array Slot), rc 4 [i1, i2, i3] [] M = some (r, M') → va_P z.1 vwCl (pw (yd z b) 32 b M) H → va_S (pA 32 b) s.heap H locs → lv_has ls 4 [(0, .ref (b + 0)), (1, .int i1), (2, .int i2), (3, .int i3)] → W p l e rm12_nextHour s m args below meth c H locs 0 0 (MQ below (va_Qi (fun (r' : Int32) (M2 : Mem) => r' = r ∧ M2 = M') (fun M2 t => va_P z.1 vwCl (pw (yd z b) 32 b M2) t.heap) (pA 32 b)) args s 0 0 (pA 32 b)) (F0 m 4 ls [])) {i1 : Int32} {i3 : Int32} {M : Mem} {H : Heap} {locs : List Loc} {ls : Array Slot} (hf : b12_nextHour_51  rc n i1 i3 M = some (r, M')) (hP : va_P z.1 vwCl (pw (yd z b) 32 b M) H) (hS : va_S (pA 32 b) s.heap H locs) (hl : lv_has ls 4 [(0, .ref (b + 0)), (1, .int i1), (3, .int i3)]) : W p l e rm12_nextHour s m args below meth c H locs 0 0 (MQ below (va_Qi (fun (r' : Int32) (M2 : Mem) => r' = r ∧ M2 = M') (fun M2 t => va_P z.1 vwCl (pw (yd z b) 32 b M2) t.heap) (pA 32 b)) args s 0 0 (pA 32 b)) (F0 m 51 ls []) := by
  have hx := C.1.1
  have hb := C.1.2.1
  unfold b12_nextHour_51 at hf
  refine lv_iload_n hx hb dX12_nextHour_51 rfl (lv_at hl 2 rfl) ?_
  refine lv_istore_n (lv' := [(2, .int i3), (0, .ref (b + 0)), (1, .int i1), (3, .int i3)]) hx hb dX12_nextHour_52 rfl hl (by decide) rfl (fun ls hl => ?_)
  exact w12_nextHour_53 (n := n)  C hr hk q4 hf hP hS (lv_sub hl [1, 2, 0, 3] rfl)
set_option maxHeartbeats 4000000 in
set_option maxRecDepth 100000 in
theorem w12_nextHour_4 {p : Program} {l : Launch} {e : Env} {s : State} {m : MethodId} {args : Array Value} {below : List Frame} {meth : Method} {c : Code} {z : Zt} {b : Nat}  (C : Cx p s m args c cX12_nextHour 4 RX12 z 32 b) (hr : meth.sig.returnType = (some .int)) (hk : meth.locks = false) {r : Int32} {M' : Mem} {rc : Nat → List Int32 → List Int64 → Mem → Option (Int32 × Mem)} {n : Nat} (q4 : ∀ (i1 : Int32) (i2 : Int32) (i3 : Int32) (M : Mem) (H : Heap) (locs : List Loc) (ls : Array Slot), rc 4 [i1, i2, i3] [] M = some (r, M') → va_P z.1 vwCl (pw (yd z b) 32 b M) H → va_S (pA 32 b) s.heap H locs → lv_has ls 4 [(0, .ref (b + 0)), (1, .int i1), (2, .int i2), (3, .int i3)] → W p l e rm12_nextHour s m args below meth c H locs 0 0 (MQ below (va_Qi (fun (r' : Int32) (M2 : Mem) => r' = r ∧ M2 = M') (fun M2 t => va_P z.1 vwCl (pw (yd z b) 32 b M2) t.heap) (pA 32 b)) args s 0 0 (pA 32 b)) (F0 m 4 ls [])) {i1 : Int32} {i2 : Int32} {i3 : Int32} {M : Mem} {H : Heap} {locs : List Loc} {ls : Array Slot} (hf : b12_nextHour_4  rc n i1 i2 i3 M = some (r, M')) (hP : va_P z.1 vwCl (pw (yd z b) 32 b M) H) (hS : va_S (pA 32 b) s.heap H locs) (hl : lv_has ls 4 [(0, .ref (b + 0)), (1, .int i1), (2, .int i2), (3, .int i3)]) : W p l e rm12_nextHour s m args below meth c H locs 0 0 (MQ below (va_Qi (fun (r' : Int32) (M2 : Mem) => r' = r ∧ M2 = M') (fun M2 t => va_P z.1 vwCl (pw (yd z b) 32 b M2) t.heap) (pA 32 b)) args s 0 0 (pA 32 b)) (F0 m 4 ls []) := by
  have hx := C.1.1
  have hb := C.1.2.1
  unfold b12_nextHour_4 at hf
  refine lv_iload_n hx hb dX12_nextHour_4 rfl (lv_at hl 3 rfl) ?_
  refine lv_bipush (v := (24 : Int32)) hx hb dX12_nextHour_5 (by decide) ?_
  refine lv_icmp_ge (tgt := 59) hx hb dX12_nextHour_7 (by decide) (fun c1 => ?_) (fun c1 => ?_)
  · replace hf := ite_t c1 hf
    refine lv_iload_n hx hb dX12_nextHour_59 rfl (lv_at hl 2 rfl) ?_
    exact prI C hr hk hP hS hf dX12_nextHour_60
  · replace hf := ite_f c1 hf
    refine lv_iload_n hx hb dX12_nextHour_10 rfl (lv_at hl 1 rfl) ?_
    refine lv_iload_n hx hb dX12_nextHour_11 rfl (lv_at hl 3 rfl) ?_
    obtain ⟨r2, M3, h4, hf⟩ := bnd_s hf
    refine pcSi (As := [.int i1, .int i3]) C hP hS (c12_has  h4) y12_has_w g_1538 rfl rfl rfl ⟨Nat.le_of_ble_eq_true rfl, Nat.le_of_ble_eq_true rfl⟩ hl.1 rfl (Nat.le_of_ble_eq_true rfl) dX12_nextHour_12 ⟨Nat.le_of_ble_eq_true rfl, Nat.le_of_ble_eq_true rfl⟩ (fun H locs hP hS => ?_)
    refine lv_if_ne (tgt := 53) hx hb dX12_nextHour_15 (by decide) (fun c5 => ?_) (fun c5 => ?_)
    · replace hf := ite_f c5 hf
      exact w12_nextHour_53 (n := n)  C hr hk q4 hf hP hS (lv_sub hl [0, 1, 2, 3] rfl)
    · replace hf := ite_t c5 hf
      refine lv_aload_n hx hb dX12_nextHour_18 rfl (lv_at hl 0 rfl) ?_
      refine pg C hP (k := 0) (j := 40) (Nat.le_of_ble_eq_true rfl) (yd_0 _ _) rfl iw_12 (Nat.le_of_ble_eq_true rfl) g_1175 rfl rfl dX12_nextHour_19 ?_
      refine lv_iload_n hx hb dX12_nextHour_22 rfl (lv_at hl 3 rfl) ?_
      have h6 := chk_1 hf
      replace hf := chk_2 hf
      refine paI C hP (k := 23) (Nat.le_of_ble_eq_true rfl) (yd_23 _ _) h6 dX12_nextHour_23 ?_
      refine lv_iconst (v := (-1 : Int32)) hx hb dX12_nextHour_24 (by decide) ?_
      refine lv_icmp_ne (tgt := 31) hx hb dX12_nextHour_25 (by decide) (fun c7 => ?_) (fun c7 => ?_)
      · replace hf := ite_f c7 hf
        refine lv_iload_n hx hb dX12_nextHour_31 rfl (lv_at hl 2 rfl) ?_
        refine lv_iconst (v := (-1 : Int32)) hx hb dX12_nextHour_32 (by decide) ?_
        refine lv_icmp_eq (tgt := 51) hx hb dX12_nextHour_33 (by decide) (fun c8 => ?_) (fun c8 => ?_)
        · replace hf := ite_t c8 hf
          exact w12_nextHour_51 (n := n)  C hr hk q4 hf hP hS (lv_sub hl [0, 1, 3] rfl)
        · replace hf := ite_f c8 hf
          refine lv_aload_n hx hb dX12_nextHour_36 rfl (lv_at hl 0 rfl) ?_
          refine pg C hP (k := 0) (j := 40) (Nat.le_of_ble_eq_true rfl) (yd_0 _ _) rfl iw_12 (Nat.le_of_ble_eq_true rfl) g_1175 rfl rfl dX12_nextHour_37 ?_
          refine lv_iload_n hx hb dX12_nextHour_40 rfl (lv_at hl 3 rfl) ?_
          have h9 := chk_1 hf
          replace hf := chk_2 hf
          refine paI C hP (k := 23) (Nat.le_of_ble_eq_true rfl) (yd_23 _ _) h9 dX12_nextHour_41 ?_
          refine lv_aload_n hx hb dX12_nextHour_42 rfl (lv_at hl 0 rfl) ?_
          refine pg C hP (k := 0) (j := 40) (Nat.le_of_ble_eq_true rfl) (yd_0 _ _) rfl iw_12 (Nat.le_of_ble_eq_true rfl) g_1175 rfl rfl dX12_nextHour_43 ?_
          refine lv_iload_n hx hb dX12_nextHour_46 rfl (lv_at hl 2 rfl) ?_
          have h10 := chk_1 hf
          replace hf := chk_2 hf
          refine paI C hP (k := 23) (Nat.le_of_ble_eq_true rfl) (yd_23 _ _) h10 dX12_nextHour_47 ?_
          refine lv_icmp_le (tgt := 53) hx hb dX12_nextHour_48 (by decide) (fun c11 => ?_) (fun c11 => ?_)
          · replace hf := ite_t c11 hf
            exact w12_nextHour_53 (n := n)  C hr hk q4 hf hP hS (lv_sub hl [0, 1, 2, 3] rfl)
          · replace hf := ite_f c11 hf
            exact w12_nextHour_51 (n := n)  C hr hk q4 hf hP hS (lv_sub hl [0, 1, 3] rfl)
      · replace hf := ite_t c7 hf
        refine lv_goto (tgt := 53) hx hb dX12_nextHour_28 (by decide) ?_
        exact w12_nextHour_53 (n := n)  C hr hk q4 hf hP hS (lv_sub hl [0, 1, 2, 3] rfl)
set_option maxHeartbeats 4000000 in
set_option maxRecDepth 100000 in
theorem w12_nextHour_0 {p : Program} {l : Launch} {e : Env} {s : State} {m : MethodId} {args : Array Value} {below : List Frame} {meth : Method} {c : Code} {z : Zt} {b : Nat}  (C : Cx p s m args c cX12_nextHour 4 RX12 z 32 b) (hr : meth.sig.returnType = (some .int)) (hk : meth.locks = false) {r : Int32} {M' : Mem} {rc : Nat → List Int32 → List Int64 → Mem → Option (Int32 × Mem)} {n : Nat} (q4 : ∀ (i1 : Int32) (i2 : Int32) (i3 : Int32) (M : Mem) (H : Heap) (locs : List Loc) (ls : Array Slot), rc 4 [i1, i2, i3] [] M = some (r, M') → va_P z.1 vwCl (pw (yd z b) 32 b M) H → va_S (pA 32 b) s.heap H locs → lv_has ls 4 [(0, .ref (b + 0)), (1, .int i1), (2, .int i2), (3, .int i3)] → W p l e rm12_nextHour s m args below meth c H locs 0 0 (MQ below (va_Qi (fun (r' : Int32) (M2 : Mem) => r' = r ∧ M2 = M') (fun M2 t => va_P z.1 vwCl (pw (yd z b) 32 b M2) t.heap) (pA 32 b)) args s 0 0 (pA 32 b)) (F0 m 4 ls [])) {a1 : Int32} {M : Mem} {H : Heap} {locs : List Loc} {ls : Array Slot} (hf : b12_nextHour_0  rc n a1 M = some (r, M')) (hP : va_P z.1 vwCl (pw (yd z b) 32 b M) H) (hS : va_S (pA 32 b) s.heap H locs) (hl : lv_has ls 4 [(0, .ref (b + 0)), (1, .int a1)]) : W p l e rm12_nextHour s m args below meth c H locs 0 0 (MQ below (va_Qi (fun (r' : Int32) (M2 : Mem) => r' = r ∧ M2 = M') (fun M2 t => va_P z.1 vwCl (pw (yd z b) 32 b M2) t.heap) (pA 32 b)) args s 0 0 (pA 32 b)) (F0 m 0 ls []) := by
  have hx := C.1.1
  have hb := C.1.2.1
  unfold b12_nextHour_0 at hf
  refine lv_iconst (v := (-1 : Int32)) hx hb dX12_nextHour_0 (by decide) ?_
  refine lv_istore_n (lv' := [(2, .int (-1 : Int32)), (0, .ref (b + 0)), (1, .int a1)]) hx hb dX12_nextHour_1 rfl hl (by decide) rfl (fun ls hl => ?_)
  refine lv_iconst (v := (0 : Int32)) hx hb dX12_nextHour_2 (by decide) ?_
  refine lv_istore_n (lv' := [(3, .int (0 : Int32)), (2, .int (-1 : Int32)), (0, .ref (b + 0)), (1, .int a1)]) hx hb dX12_nextHour_3 rfl hl (by decide) rfl (fun ls hl => ?_)
  exact w12_nextHour_4 (n := n)  C hr hk q4 hf hP hS (lv_sub hl [2, 3, 1, 0] rfl)
set_option maxHeartbeats 4000000 in
set_option maxRecDepth 100000 in
theorem l12_nextHour {p : Program} {l : Launch} {e : Env} {s : State} {m : MethodId} {args : Array Value} {below : List Frame} {meth : Method} {c : Code} {z : Zt} {b : Nat}  (C : Cx p s m args c cX12_nextHour 4 RX12 z 32 b) (hr : meth.sig.returnType = (some .int)) (hk : meth.locks = false) {r : Int32} {M' : Mem} (n : Nat) : (∀ (i1 : Int32) (i2 : Int32) (i3 : Int32) (M : Mem) (H : Heap) (locs : List Loc) (ls : Array Slot), (r12_nextHour  n) 4 [i1, i2, i3] [] M = some (r, M') → va_P z.1 vwCl (pw (yd z b) 32 b M) H → va_S (pA 32 b) s.heap H locs → lv_has ls 4 [(0, .ref (b + 0)), (1, .int i1), (2, .int i2), (3, .int i3)] → W p l e rm12_nextHour s m args below meth c H locs 0 0 (MQ below (va_Qi (fun (r' : Int32) (M2 : Mem) => r' = r ∧ M2 = M') (fun M2 t => va_P z.1 vwCl (pw (yd z b) 32 b M2) t.heap) (pA 32 b)) args s 0 0 (pA 32 b)) (F0 m 4 ls [])) := by
  induction n with
  | zero => exact fun _ _ _ _ _ _ _ hf => (by cases hf)
  | succ n ih => exact fun _ _ _ _ _ _ _ hf hP hS hl => w12_nextHour_4 (n := n)  C hr hk ih ((e12_nextHour_4  n _ _ _ _).symm.trans hf) hP hS hl
theorem c12_nextHour {l : Launch} {z : Zt} {b n : Nat}  {a1 : Int32} {M M' : Mem} {r : Int32} (hf : f12_nextHour n  a1 M = some (r, M')) : CI l z (yd z b) 32 b yX12_nextHour cX12_nextHour 4 (some .int) rm12_nextHour [.ref (b + 0), .int a1] M M' r :=
  CI.ofW (lv := [(0, .ref (b + 0)), (1, .int a1)]) (by decide) (Nat.le_of_ble_eq_true rfl) rfl (fun p e s m args below meth c ls C hr hk hP hS hl => w12_nextHour_0 (n := n)  C hr hk (l12_nextHour  C hr hk n) hf hP hS hl)

-- BronzeKingModel.watch(II)I
theorem dX12_watch_0 : decode cX12_watch 0 = .ok (.iload_n 1, 1) := by decide +kernel
theorem dX12_watch_1 : decode cX12_watch 1 = .ok (.iconst 1, 1) := by decide +kernel
theorem dX12_watch_2 : decode cX12_watch 2 = .ok (.bipush 6, 2) := by decide +kernel
theorem dX12_watch_4 : decode cX12_watch 4 = .ok (.invokestatic 106, 3) := by decide +kernel
theorem dX12_watch_7 : decode cX12_watch 7 = .ok (.ifCond .eq 12, 3) := by decide +kernel
theorem dX12_watch_10 : decode cX12_watch 10 = .ok (.iload_n 2, 1) := by decide +kernel
theorem dX12_watch_11 : decode cX12_watch 11 = .ok (.iconst 0, 1) := by decide +kernel
theorem dX12_watch_12 : decode cX12_watch 12 = .ok (.iconst 2, 1) := by decide +kernel
theorem dX12_watch_13 : decode cX12_watch 13 = .ok (.invokestatic 106, 3) := by decide +kernel
theorem dX12_watch_16 : decode cX12_watch 16 = .ok (.ifCond .ne 5, 3) := by decide +kernel
theorem dX12_watch_19 : decode cX12_watch 19 = .ok (.iconst (-1), 1) := by decide +kernel
theorem dX12_watch_20 : decode cX12_watch 20 = .ok (.ireturn, 1) := by decide +kernel
theorem dX12_watch_21 : decode cX12_watch 21 = .ok (.aload_n 0, 1) := by decide +kernel
theorem dX12_watch_22 : decode cX12_watch 22 = .ok (.invokevirtual 342, 3) := by decide +kernel
theorem dX12_watch_25 : decode cX12_watch 25 = .ok (.istore_n 3, 1) := by decide +kernel
theorem dX12_watch_26 : decode cX12_watch 26 = .ok (.iload_n 3, 1) := by decide +kernel
theorem dX12_watch_27 : decode cX12_watch 27 = .ok (.ifCond .eq 17, 3) := by decide +kernel
theorem dX12_watch_30 : decode cX12_watch 30 = .ok (.bipush 24, 2) := by decide +kernel
theorem dX12_watch_32 : decode cX12_watch 32 = .ok (.aload_n 0, 1) := by decide +kernel
theorem dX12_watch_33 : decode cX12_watch 33 = .ok (.getfield 264, 3) := by decide +kernel
theorem dX12_watch_36 : decode cX12_watch 36 = .ok (.invokestatic 283, 3) := by decide +kernel
theorem dX12_watch_39 : decode cX12_watch 39 = .ok (.isub, 1) := by decide +kernel
theorem dX12_watch_40 : decode cX12_watch 40 = .ok (.iload_n 1, 1) := by decide +kernel
theorem dX12_watch_41 : decode cX12_watch 41 = .ok (.if_icmp .ge 6, 3) := by decide +kernel
theorem dX12_watch_44 : decode cX12_watch 44 = .ok (.bipush (-2), 2) := by decide +kernel
theorem dX12_watch_46 : decode cX12_watch 46 = .ok (.ireturn, 1) := by decide +kernel
theorem dX12_watch_47 : decode cX12_watch 47 = .ok (.iconst 0, 1) := by decide +kernel
theorem dX12_watch_48 : decode cX12_watch 48 = .ok (.istore 4, 2) := by decide +kernel
theorem dX12_watch_50 : decode cX12_watch 50 = .ok (.iconst 0, 1) := by decide +kernel
theorem dX12_watch_51 : decode cX12_watch 51 = .ok (.istore 5, 2) := by decide +kernel
theorem dX12_watch_53 : decode cX12_watch 53 = .ok (.iconst 0, 1) := by decide +kernel
theorem dX12_watch_54 : decode cX12_watch 54 = .ok (.istore 6, 2) := by decide +kernel
theorem dX12_watch_56 : decode cX12_watch 56 = .ok (.iload 6, 2) := by decide +kernel
theorem dX12_watch_58 : decode cX12_watch 58 = .ok (.iload_n 1, 1) := by decide +kernel
theorem dX12_watch_59 : decode cX12_watch 59 = .ok (.if_icmp .ge 38, 3) := by decide +kernel
theorem dX12_watch_62 : decode cX12_watch 62 = .ok (.aload_n 0, 1) := by decide +kernel
theorem dX12_watch_63 : decode cX12_watch 63 = .ok (.iload 4, 2) := by decide +kernel
theorem dX12_watch_65 : decode cX12_watch 65 = .ok (.invokevirtual 348, 3) := by decide +kernel
theorem dX12_watch_68 : decode cX12_watch 68 = .ok (.istore 7, 2) := by decide +kernel
theorem dX12_watch_70 : decode cX12_watch 70 = .ok (.iload 4, 2) := by decide +kernel
theorem dX12_watch_72 : decode cX12_watch 72 = .ok (.iconst 1, 1) := by decide +kernel
theorem dX12_watch_73 : decode cX12_watch 73 = .ok (.iload 7, 2) := by decide +kernel
theorem dX12_watch_75 : decode cX12_watch 75 = .ok (.ishl, 1) := by decide +kernel
theorem dX12_watch_76 : decode cX12_watch 76 = .ok (.ior, 1) := by decide +kernel
theorem dX12_watch_77 : decode cX12_watch 77 = .ok (.istore 4, 2) := by decide +kernel
theorem dX12_watch_79 : decode cX12_watch 79 = .ok (.iload 5, 2) := by decide +kernel
theorem dX12_watch_81 : decode cX12_watch 81 = .ok (.aload_n 0, 1) := by decide +kernel
theorem dX12_watch_82 : decode cX12_watch 82 = .ok (.getfield 77, 3) := by decide +kernel
theorem dX12_watch_85 : decode cX12_watch 85 = .ok (.iload 7, 2) := by decide +kernel
theorem dX12_watch_87 : decode cX12_watch 87 = .ok (.iaload, 1) := by decide +kernel
theorem dX12_watch_88 : decode cX12_watch 88 = .ok (.iadd, 1) := by decide +kernel
theorem dX12_watch_89 : decode cX12_watch 89 = .ok (.istore 5, 2) := by decide +kernel
theorem dX12_watch_91 : decode cX12_watch 91 = .ok (.iinc 6 1, 3) := by decide +kernel
theorem dX12_watch_94 : decode cX12_watch 94 = .ok (.goto (-38), 3) := by decide +kernel
theorem dX12_watch_97 : decode cX12_watch 97 = .ok (.aload_n 0, 1) := by decide +kernel
theorem dX12_watch_98 : decode cX12_watch 98 = .ok (.iload 5, 2) := by decide +kernel
theorem dX12_watch_100 : decode cX12_watch 100 = .ok (.iload_n 3, 1) := by decide +kernel
theorem dX12_watch_101 : decode cX12_watch 101 = .ok (.invokevirtual 345, 3) := by decide +kernel
theorem dX12_watch_104 : decode cX12_watch 104 = .ok (.iload_n 2, 1) := by decide +kernel
theorem dX12_watch_105 : decode cX12_watch 105 = .ok (.ifCond .ne 8, 3) := by decide +kernel
theorem dX12_watch_108 : decode cX12_watch 108 = .ok (.iload 4, 2) := by decide +kernel
theorem dX12_watch_110 : decode cX12_watch 110 = .ok (.goto 19, 3) := by decide +kernel
theorem dX12_watch_113 : decode cX12_watch 113 = .ok (.iload_n 2, 1) := by decide +kernel
theorem dX12_watch_114 : decode cX12_watch 114 = .ok (.iconst 1, 1) := by decide +kernel
theorem dX12_watch_115 : decode cX12_watch 115 = .ok (.if_icmp .ne 10, 3) := by decide +kernel
theorem dX12_watch_118 : decode cX12_watch 118 = .ok (.aload_n 0, 1) := by decide +kernel
theorem dX12_watch_119 : decode cX12_watch 119 = .ok (.getfield 336, 3) := by decide +kernel
theorem dX12_watch_122 : decode cX12_watch 122 = .ok (.goto 7, 3) := by decide +kernel
theorem dX12_watch_125 : decode cX12_watch 125 = .ok (.aload_n 0, 1) := by decide +kernel
theorem dX12_watch_126 : decode cX12_watch 126 = .ok (.getfield 339, 3) := by decide +kernel
theorem dX12_watch_129 : decode cX12_watch 129 = .ok (.ireturn, 1) := by decide +kernel
def b12_watch_19 (rc : Nat → List Int32 → List Int64 → Mem → Option (Int32 × Mem)) (n : Nat) (M : Mem) : Option (Int32 × Mem) :=
  some ((-1 : Int32), M)
def b12_watch_44 (rc : Nat → List Int32 → List Int64 → Mem → Option (Int32 × Mem)) (n : Nat) (M : Mem) : Option (Int32 × Mem) :=
  some ((-2 : Int32), M)
def b12_watch_56 (rc : Nat → List Int32 → List Int64 → Mem → Option (Int32 × Mem)) (n : Nat) (i1 : Int32) (i2 : Int32) (i3 : Int32) (i4 : Int32) (i5 : Int32) (i6 : Int32) (M : Mem) : Option (Int32 × Mem) :=
  (if i1 ≤ i6 then (
   bnd (f12_laysFraction n i5 i3 M) fun r18 M19 =>
   (if i2 = 0 then (
    some (i4, M19))
   else (
    (if i2 = (1 : Int32) then (
     some ((M19.1 0 41), M19))
    else (
     some ((M19.1 0 42), M19))))))
  else (
   bnd (f12_nextHour n i4 M) fun r23 M24 =>
   lt (i4 ||| ((1 : Int32) <<< (r23 &&& 31))) fun v26 =>
   chk (inb r23 24) <|
   lt (i5 + (M24.1 23 r23.toNatClampNeg)) fun v28 =>
   lt (i6 + (1 : Int32)) fun v29 =>
   rc 56 [i1, i2, i3, v26, v28, v29] [] M24))
def b12_watch_0 (rc : Nat → List Int32 → List Int64 → Mem → Option (Int32 × Mem)) (n : Nat) (a1 : Int32) (a2 : Int32) (M : Mem) : Option (Int32 × Mem) :=
  bnd (f12_in n a1 (1 : Int32) (6 : Int32) M) fun r1 M2 =>
  (if r1 = 0 then (
   b12_watch_19  rc n  M2)
  else (
   bnd (f12_in n a2 (0 : Int32) (2 : Int32) M2) fun r5 M6 =>
   (if r5 = 0 then (
    b12_watch_19  rc n  M6)
   else (
    bnd (f12_laysWeights n M6) fun r9 M10 =>
    (if r9 = 0 then (
     b12_watch_44  rc n  M10)
    else (
     bnd (f12_bits n (M10.1 0 6) M10) fun r13 M14 =>
     (if a1 ≤ ((24 : Int32) - r13) then (
      b12_watch_56  rc n a1 a2 r9 (0 : Int32) (0 : Int32) (0 : Int32) M14)
     else (
      b12_watch_44  rc n  M14))))))))
def r12_watch : Nat → Nat → List Int32 → List Int64 → Mem → Option (Int32 × Mem)
  | 0 => fun _ _ _ _ => none
  | n + 1 => fun pc li lj M =>
    if pc = 56 then (match li, lj with | [i1, i2, i3, i4, i5, i6], [] => b12_watch_56  (r12_watch  n) n i1 i2 i3 i4 i5 i6 M | _, _ => none) else
    none
theorem e12_watch_56  (n : Nat) (i1 : Int32) (i2 : Int32) (i3 : Int32) (i4 : Int32) (i5 : Int32) (i6 : Int32) (M : Mem) : r12_watch  (n + 1) 56 [i1, i2, i3, i4, i5, i6] [] M = b12_watch_56  (r12_watch  n) n i1 i2 i3 i4 i5 i6 M := by
  rw [r12_watch]
  simp
def f12_watch (n : Nat) (a1 : Int32) (a2 : Int32) (M : Mem) : Option (Int32 × Mem) := b12_watch_0 (r12_watch n) n a1 a2 M
abbrev rm12_watch : Room := { frames := 5, cells := 0, slots := 0, locals := 117 }
theorem y12_watch_w : yV RX12 yX12_watch cX12_watch 8 (some .int) 2 := ⟨g_1549, g_1550, g_14, g_1551, rfl, by decide, by decide, by decide +kernel⟩
set_option maxHeartbeats 4000000 in
set_option maxRecDepth 100000 in
theorem w12_watch_19 {p : Program} {l : Launch} {e : Env} {s : State} {m : MethodId} {args : Array Value} {below : List Frame} {meth : Method} {c : Code} {z : Zt} {b : Nat}  (C : Cx p s m args c cX12_watch 8 RX12 z 32 b) (hr : meth.sig.returnType = (some .int)) (hk : meth.locks = false) {r : Int32} {M' : Mem} {rc : Nat → List Int32 → List Int64 → Mem → Option (Int32 × Mem)} {n : Nat} (q56 : ∀ (i1 : Int32) (i2 : Int32) (i3 : Int32) (i4 : Int32) (i5 : Int32) (i6 : Int32) (M : Mem) (H : Heap) (locs : List Loc) (ls : Array Slot), rc 56 [i1, i2, i3, i4, i5, i6] [] M = some (r, M') → va_P z.1 vwCl (pw (yd z b) 32 b M) H → va_S (pA 32 b) s.heap H locs → lv_has ls 8 [(0, .ref (b + 0)), (1, .int i1), (2, .int i2), (3, .int i3), (4, .int i4), (5, .int i5), (6, .int i6)] → W p l e rm12_watch s m args below meth c H locs 0 0 (MQ below (va_Qi (fun (r' : Int32) (M2 : Mem) => r' = r ∧ M2 = M') (fun M2 t => va_P z.1 vwCl (pw (yd z b) 32 b M2) t.heap) (pA 32 b)) args s 0 0 (pA 32 b)) (F0 m 56 ls []))  {M : Mem} {H : Heap} {locs : List Loc} {ls : Array Slot} (hf : b12_watch_19  rc n  M = some (r, M')) (hP : va_P z.1 vwCl (pw (yd z b) 32 b M) H) (hS : va_S (pA 32 b) s.heap H locs) (hl : lv_has ls 8 []) : W p l e rm12_watch s m args below meth c H locs 0 0 (MQ below (va_Qi (fun (r' : Int32) (M2 : Mem) => r' = r ∧ M2 = M') (fun M2 t => va_P z.1 vwCl (pw (yd z b) 32 b M2) t.heap) (pA 32 b)) args s 0 0 (pA 32 b)) (F0 m 19 ls []) := by
  have hx := C.1.1
  have hb := C.1.2.1
  unfold b12_watch_19 at hf
  refine lv_iconst (v := (-1 : Int32)) hx hb dX12_watch_19 (by decide) ?_
  exact prI C hr hk hP hS hf dX12_watch_20
set_option maxHeartbeats 4000000 in
set_option maxRecDepth 100000 in
theorem w12_watch_44 {p : Program} {l : Launch} {e : Env} {s : State} {m : MethodId} {args : Array Value} {below : List Frame} {meth : Method} {c : Code} {z : Zt} {b : Nat}  (C : Cx p s m args c cX12_watch 8 RX12 z 32 b) (hr : meth.sig.returnType = (some .int)) (hk : meth.locks = false) {r : Int32} {M' : Mem} {rc : Nat → List Int32 → List Int64 → Mem → Option (Int32 × Mem)} {n : Nat} (q56 : ∀ (i1 : Int32) (i2 : Int32) (i3 : Int32) (i4 : Int32) (i5 : Int32) (i6 : Int32) (M : Mem) (H : Heap) (locs : List Loc) (ls : Array Slot), rc 56 [i1, i2, i3, i4, i5, i6] [] M = some (r, M') → va_P z.1 vwCl (pw (yd z b) 32 b M) H → va_S (pA 32 b) s.heap H locs → lv_has ls 8 [(0, .ref (b + 0)), (1, .int i1), (2, .int i2), (3, .int i3), (4, .int i4), (5, .int i5), (6, .int i6)] → W p l e rm12_watch s m args below meth c H locs 0 0 (MQ below (va_Qi (fun (r' : Int32) (M2 : Mem) => r' = r ∧ M2 = M') (fun M2 t => va_P z.1 vwCl (pw (yd z b) 32 b M2) t.heap) (pA 32 b)) args s 0 0 (pA 32 b)) (F0 m 56 ls []))  {M : Mem} {H : Heap} {locs : List Loc} {ls : Array Slot} (hf : b12_watch_44  rc n  M = some (r, M')) (hP : va_P z.1 vwCl (pw (yd z b) 32 b M) H) (hS : va_S (pA 32 b) s.heap H locs) (hl : lv_has ls 8 []) : W p l e rm12_watch s m args below meth c H locs 0 0 (MQ below (va_Qi (fun (r' : Int32) (M2 : Mem) => r' = r ∧ M2 = M') (fun M2 t => va_P z.1 vwCl (pw (yd z b) 32 b M2) t.heap) (pA 32 b)) args s 0 0 (pA 32 b)) (F0 m 44 ls []) := by
  have hx := C.1.1
  have hb := C.1.2.1
  unfold b12_watch_44 at hf
  refine lv_bipush (v := (-2 : Int32)) hx hb dX12_watch_44 (by decide) ?_
  exact prI C hr hk hP hS hf dX12_watch_46
set_option maxHeartbeats 4000000 in
set_option maxRecDepth 100000 in
theorem w12_watch_56 {p : Program} {l : Launch} {e : Env} {s : State} {m : MethodId} {args : Array Value} {below : List Frame} {meth : Method} {c : Code} {z : Zt} {b : Nat}  (C : Cx p s m args c cX12_watch 8 RX12 z 32 b) (hr : meth.sig.returnType = (some .int)) (hk : meth.locks = false) {r : Int32} {M' : Mem} {rc : Nat → List Int32 → List Int64 → Mem → Option (Int32 × Mem)} {n : Nat} (q56 : ∀ (i1 : Int32) (i2 : Int32) (i3 : Int32) (i4 : Int32) (i5 : Int32) (i6 : Int32) (M : Mem) (H : Heap) (locs : List Loc) (ls : Array Slot), rc 56 [i1, i2, i3, i4, i5, i6] [] M = some (r, M') → va_P z.1 vwCl (pw (yd z b) 32 b M) H → va_S (pA 32 b) s.heap H locs → lv_has ls 8 [(0, .ref (b + 0)), (1, .int i1), (2, .int i2), (3, .int i3), (4, .int i4), (5, .int i5), (6, .int i6)] → W p l e rm12_watch s m args below meth c H locs 0 0 (MQ below (va_Qi (fun (r' : Int32) (M2 : Mem) => r' = r ∧ M2 = M') (fun M2 t => va_P z.1 vwCl (pw (yd z b) 32 b M2) t.heap) (pA 32 b)) args s 0 0 (pA 32 b)) (F0 m 56 ls [])) {i1 : Int32} {i2 : Int32} {i3 : Int32} {i4 : Int32} {i5 : Int32} {i6 : Int32} {M : Mem} {H : Heap} {locs : List Loc} {ls : Array Slot} (hf : b12_watch_56  rc n i1 i2 i3 i4 i5 i6 M = some (r, M')) (hP : va_P z.1 vwCl (pw (yd z b) 32 b M) H) (hS : va_S (pA 32 b) s.heap H locs) (hl : lv_has ls 8 [(0, .ref (b + 0)), (1, .int i1), (2, .int i2), (3, .int i3), (4, .int i4), (5, .int i5), (6, .int i6)]) : W p l e rm12_watch s m args below meth c H locs 0 0 (MQ below (va_Qi (fun (r' : Int32) (M2 : Mem) => r' = r ∧ M2 = M') (fun M2 t => va_P z.1 vwCl (pw (yd z b) 32 b M2) t.heap) (pA 32 b)) args s 0 0 (pA 32 b)) (F0 m 56 ls []) := by
  have hx := C.1.1
  have hb := C.1.2.1
  unfold b12_watch_56 at hf
  refine lv_iload hx hb dX12_watch_56 (lv_at hl 6 rfl) ?_
  refine lv_iload_n hx hb dX12_watch_58 rfl (lv_at hl 1 rfl) ?_
  refine lv_icmp_ge (tgt := 97) hx hb dX12_watch_59 (by decide) (fun c17 => ?_) (fun c17 => ?_)
  · replace hf := ite_t c17 hf
    refine lv_aload_n hx hb dX12_watch_97 rfl (lv_at hl 0 rfl) ?_
    refine lv_iload hx hb dX12_watch_98 (lv_at hl 5 rfl) ?_
    refine lv_iload_n hx hb dX12_watch_100 rfl (lv_at hl 3 rfl) ?_
    obtain ⟨r18, M19, h20, hf⟩ := bnd_s hf
    refine pcVv (As := [.int i5, .int i3]) C hP hS (k := 0) (Nat.le_of_ble_eq_true rfl) (yd_0 _ _) rfl (c12_laysFraction  h20) y12_laysFraction_w g_1541 rfl rfl rfl ⟨Nat.le_of_ble_eq_true rfl, Nat.le_of_ble_eq_true rfl⟩ hl.1 rfl (Nat.le_of_ble_eq_true rfl) dX12_watch_101 ⟨Nat.le_of_ble_eq_true rfl, Nat.le_of_ble_eq_true rfl⟩ (fun H locs hP hS => ?_)
    refine lv_iload_n hx hb dX12_watch_104 rfl (lv_at hl 2 rfl) ?_
    refine lv_if_ne (tgt := 113) hx hb dX12_watch_105 (by decide) (fun c21 => ?_) (fun c21 => ?_)
    · replace hf := ite_f c21 hf
      refine lv_iload_n hx hb dX12_watch_113 rfl (lv_at hl 2 rfl) ?_
      refine lv_iconst (v := (1 : Int32)) hx hb dX12_watch_114 (by decide) ?_
      refine lv_icmp_ne (tgt := 125) hx hb dX12_watch_115 (by decide) (fun c22 => ?_) (fun c22 => ?_)
      · replace hf := ite_f c22 hf
        refine lv_aload_n hx hb dX12_watch_125 rfl (lv_at hl 0 rfl) ?_
        refine pg C hP (k := 0) (j := 42) (Nat.le_of_ble_eq_true rfl) (yd_0 _ _) rfl iw_12 (Nat.le_of_ble_eq_true rfl) g_1177 rfl rfl dX12_watch_126 ?_
        exact prI C hr hk hP hS hf dX12_watch_129
      · replace hf := ite_t c22 hf
        refine lv_aload_n hx hb dX12_watch_118 rfl (lv_at hl 0 rfl) ?_
        refine pg C hP (k := 0) (j := 41) (Nat.le_of_ble_eq_true rfl) (yd_0 _ _) rfl iw_12 (Nat.le_of_ble_eq_true rfl) g_1176 rfl rfl dX12_watch_119 ?_
        refine lv_goto (tgt := 129) hx hb dX12_watch_122 (by decide) ?_
        exact prI C hr hk hP hS hf dX12_watch_129
    · replace hf := ite_t c21 hf
      refine lv_iload hx hb dX12_watch_108 (lv_at hl 4 rfl) ?_
      refine lv_goto (tgt := 129) hx hb dX12_watch_110 (by decide) ?_
      exact prI C hr hk hP hS hf dX12_watch_129
  · replace hf := ite_f c17 hf
    refine lv_aload_n hx hb dX12_watch_62 rfl (lv_at hl 0 rfl) ?_
    refine lv_iload hx hb dX12_watch_63 (lv_at hl 4 rfl) ?_
    obtain ⟨r23, M24, h25, hf⟩ := bnd_s hf
    refine pcVi (As := [.int i4]) C hP hS (k := 0) (Nat.le_of_ble_eq_true rfl) (yd_0 _ _) rfl (c12_nextHour  h25) y12_nextHour_w g_1552 rfl rfl rfl ⟨Nat.le_of_ble_eq_true rfl, Nat.le_of_ble_eq_true rfl⟩ hl.1 rfl (Nat.le_of_ble_eq_true rfl) dX12_watch_65 ⟨Nat.le_of_ble_eq_true rfl, Nat.le_of_ble_eq_true rfl⟩ (fun H locs hP hS => ?_)
    refine lv_istore (lv' := [(7, .int r23), (0, .ref (b + 0)), (1, .int i1), (2, .int i2), (3, .int i3), (4, .int i4), (5, .int i5), (6, .int i6)]) hx hb dX12_watch_68 hl (by decide) rfl (fun ls hl => ?_)
    refine lv_iload hx hb dX12_watch_70 (lv_at hl 5 rfl) ?_
    refine lv_iconst (v := (1 : Int32)) hx hb dX12_watch_72 (by decide) ?_
    refine lv_iload hx hb dX12_watch_73 (lv_at hl 0 rfl) ?_
    refine lv_ishl hx hb dX12_watch_75 ?_
    refine lv_ior hx hb dX12_watch_76 ?_
    refine lv_topi (fun v26 ev26 => ?_)
    replace hf := lt_c ev26 hf
    refine lv_istore (lv' := [(4, .int v26), (7, .int r23), (0, .ref (b + 0)), (1, .int i1), (2, .int i2), (3, .int i3), (5, .int i5), (6, .int i6)]) hx hb dX12_watch_77 hl (by decide) rfl (fun ls hl => ?_)
    refine lv_iload hx hb dX12_watch_79 (lv_at hl 6 rfl) ?_
    refine lv_aload_n hx hb dX12_watch_81 rfl (lv_at hl 2 rfl) ?_
    refine pg C hP (k := 0) (j := 40) (Nat.le_of_ble_eq_true rfl) (yd_0 _ _) rfl iw_12 (Nat.le_of_ble_eq_true rfl) g_1175 rfl rfl dX12_watch_82 ?_
    refine lv_iload hx hb dX12_watch_85 (lv_at hl 1 rfl) ?_
    have h27 := chk_1 hf
    replace hf := chk_2 hf
    refine paI C hP (k := 23) (Nat.le_of_ble_eq_true rfl) (yd_23 _ _) h27 dX12_watch_87 ?_
    refine lv_iadd hx hb dX12_watch_88 ?_
    refine lv_topi (fun v28 ev28 => ?_)
    replace hf := lt_c ev28 hf
    refine lv_istore (lv' := [(5, .int v28), (4, .int v26), (7, .int r23), (0, .ref (b + 0)), (1, .int i1), (2, .int i2), (3, .int i3), (6, .int i6)]) hx hb dX12_watch_89 hl (by decide) rfl (fun ls hl => ?_)
    obtain ⟨v29, ev29⟩ : ∃ v : Int32, v = i6 + (1 : Int32) := ⟨_, rfl⟩
    replace hf := lt_c ev29 hf
    refine lv_iinc (v := v29) (lv' := [(6, .int v29), (5, .int v28), (4, .int v26), (7, .int r23), (0, .ref (b + 0)), (1, .int i1), (2, .int i2), (3, .int i3)]) hx hb dX12_watch_91 hl (k := 7) rfl (by rw [ev29]; rfl) (by decide) rfl (fun ls hl => ?_)
    refine lv_goto (tgt := 56) hx hb dX12_watch_94 (by decide) ?_
    exact q56 i1 i2 i3 v26 v28 v29 M24 _ _ _ hf hP hS (lv_sub hl [4, 5, 6, 7, 2, 1, 0] rfl)
set_option maxHeartbeats 4000000 in
set_option maxRecDepth 100000 in
theorem w12_watch_0 {p : Program} {l : Launch} {e : Env} {s : State} {m : MethodId} {args : Array Value} {below : List Frame} {meth : Method} {c : Code} {z : Zt} {b : Nat}  (C : Cx p s m args c cX12_watch 8 RX12 z 32 b) (hr : meth.sig.returnType = (some .int)) (hk : meth.locks = false) {r : Int32} {M' : Mem} {rc : Nat → List Int32 → List Int64 → Mem → Option (Int32 × Mem)} {n : Nat} (q56 : ∀ (i1 : Int32) (i2 : Int32) (i3 : Int32) (i4 : Int32) (i5 : Int32) (i6 : Int32) (M : Mem) (H : Heap) (locs : List Loc) (ls : Array Slot), rc 56 [i1, i2, i3, i4, i5, i6] [] M = some (r, M') → va_P z.1 vwCl (pw (yd z b) 32 b M) H → va_S (pA 32 b) s.heap H locs → lv_has ls 8 [(0, .ref (b + 0)), (1, .int i1), (2, .int i2), (3, .int i3), (4, .int i4), (5, .int i5), (6, .int i6)] → W p l e rm12_watch s m args below meth c H locs 0 0 (MQ below (va_Qi (fun (r' : Int32) (M2 : Mem) => r' = r ∧ M2 = M') (fun M2 t => va_P z.1 vwCl (pw (yd z b) 32 b M2) t.heap) (pA 32 b)) args s 0 0 (pA 32 b)) (F0 m 56 ls [])) {a1 : Int32} {a2 : Int32} {M : Mem} {H : Heap} {locs : List Loc} {ls : Array Slot} (hf : b12_watch_0  rc n a1 a2 M = some (r, M')) (hP : va_P z.1 vwCl (pw (yd z b) 32 b M) H) (hS : va_S (pA 32 b) s.heap H locs) (hl : lv_has ls 8 [(0, .ref (b + 0)), (1, .int a1), (2, .int a2)]) : W p l e rm12_watch s m args below meth c H locs 0 0 (MQ below (va_Qi (fun (r' : Int32) (M2 : Mem) => r' = r ∧ M2 = M') (fun M2 t => va_P z.1 vwCl (pw (yd z b) 32 b M2) t.heap) (pA 32 b)) args s 0 0 (pA 32 b)) (F0 m 0 ls []) := by
  have hx := C.1.1
  have hb := C.1.2.1
  unfold b12_watch_0 at hf
  refine lv_iload_n hx hb dX12_watch_0 rfl (lv_at hl 1 rfl) ?_
  refine lv_iconst (v := (1 : Int32)) hx hb dX12_watch_1 (by decide) ?_
  refine lv_bipush (v := (6 : Int32)) hx hb dX12_watch_2 (by decide) ?_
  obtain ⟨r1, M2, h3, hf⟩ := bnd_s hf
  refine pcSi (As := [.int a1, .int (1 : Int32), .int (6 : Int32)]) C hP hS (c12_in  h3) y12_in_w g_1306 rfl rfl rfl ⟨Nat.le_of_ble_eq_true rfl, Nat.le_of_ble_eq_true rfl⟩ hl.1 rfl (Nat.le_of_ble_eq_true rfl) dX12_watch_4 ⟨Nat.le_of_ble_eq_true rfl, Nat.le_of_ble_eq_true rfl⟩ (fun H locs hP hS => ?_)
  refine lv_if_eq (tgt := 19) hx hb dX12_watch_7 (by decide) (fun c4 => ?_) (fun c4 => ?_)
  · replace hf := ite_t c4 hf
    exact w12_watch_19 (n := n)  C hr hk q56 hf hP hS (lv_sub hl [] rfl)
  · replace hf := ite_f c4 hf
    refine lv_iload_n hx hb dX12_watch_10 rfl (lv_at hl 2 rfl) ?_
    refine lv_iconst (v := (0 : Int32)) hx hb dX12_watch_11 (by decide) ?_
    refine lv_iconst (v := (2 : Int32)) hx hb dX12_watch_12 (by decide) ?_
    obtain ⟨r5, M6, h7, hf⟩ := bnd_s hf
    refine pcSi (As := [.int a2, .int (0 : Int32), .int (2 : Int32)]) C hP hS (c12_in  h7) y12_in_w g_1306 rfl rfl rfl ⟨Nat.le_of_ble_eq_true rfl, Nat.le_of_ble_eq_true rfl⟩ hl.1 rfl (Nat.le_of_ble_eq_true rfl) dX12_watch_13 ⟨Nat.le_of_ble_eq_true rfl, Nat.le_of_ble_eq_true rfl⟩ (fun H locs hP hS => ?_)
    refine lv_if_ne (tgt := 21) hx hb dX12_watch_16 (by decide) (fun c8 => ?_) (fun c8 => ?_)
    · replace hf := ite_f c8 hf
      refine lv_aload_n hx hb dX12_watch_21 rfl (lv_at hl 0 rfl) ?_
      obtain ⟨r9, M10, h11, hf⟩ := bnd_s hf
      refine pcVi (As := []) C hP hS (k := 0) (Nat.le_of_ble_eq_true rfl) (yd_0 _ _) rfl (c12_laysWeights  h11) y12_laysWeights_w g_1534 rfl rfl rfl ⟨Nat.le_of_ble_eq_true rfl, Nat.le_of_ble_eq_true rfl⟩ hl.1 rfl (Nat.le_of_ble_eq_true rfl) dX12_watch_22 ⟨Nat.le_of_ble_eq_true rfl, Nat.le_of_ble_eq_true rfl⟩ (fun H locs hP hS => ?_)
      refine lv_istore_n (lv' := [(3, .int r9), (0, .ref (b + 0)), (1, .int a1), (2, .int a2)]) hx hb dX12_watch_25 rfl hl (by decide) rfl (fun ls hl => ?_)
      refine lv_iload_n hx hb dX12_watch_26 rfl (lv_at hl 0 rfl) ?_
      refine lv_if_eq (tgt := 44) hx hb dX12_watch_27 (by decide) (fun c12 => ?_) (fun c12 => ?_)
      · replace hf := ite_t c12 hf
        exact w12_watch_44 (n := n)  C hr hk q56 hf hP hS (lv_sub hl [] rfl)
      · replace hf := ite_f c12 hf
        refine lv_bipush (v := (24 : Int32)) hx hb dX12_watch_30 (by decide) ?_
        refine lv_aload_n hx hb dX12_watch_32 rfl (lv_at hl 1 rfl) ?_
        refine pg C hP (k := 0) (j := 6) (Nat.le_of_ble_eq_true rfl) (yd_0 _ _) rfl iw_12 (Nat.le_of_ble_eq_true rfl) g_1141 rfl rfl dX12_watch_33 ?_
        obtain ⟨r13, M14, h15, hf⟩ := bnd_s hf
        refine pcSi (As := [.int (M10.1 0 6)]) C hP hS (c12_bits  h15) y12_bits_w g_1498 rfl rfl rfl ⟨Nat.le_of_ble_eq_true rfl, Nat.le_of_ble_eq_true rfl⟩ hl.1 rfl (Nat.le_of_ble_eq_true rfl) dX12_watch_36 ⟨Nat.le_of_ble_eq_true rfl, Nat.le_of_ble_eq_true rfl⟩ (fun H locs hP hS => ?_)
        refine lv_isub hx hb dX12_watch_39 ?_
        refine lv_iload_n hx hb dX12_watch_40 rfl (lv_at hl 2 rfl) ?_
        refine lv_icmp_ge (tgt := 47) hx hb dX12_watch_41 (by decide) (fun c16 => ?_) (fun c16 => ?_)
        · replace hf := ite_t c16 hf
          refine lv_iconst (v := (0 : Int32)) hx hb dX12_watch_47 (by decide) ?_
          refine lv_istore (lv' := [(4, .int (0 : Int32)), (3, .int r9), (0, .ref (b + 0)), (1, .int a1), (2, .int a2)]) hx hb dX12_watch_48 hl (by decide) rfl (fun ls hl => ?_)
          refine lv_iconst (v := (0 : Int32)) hx hb dX12_watch_50 (by decide) ?_
          refine lv_istore (lv' := [(5, .int (0 : Int32)), (4, .int (0 : Int32)), (3, .int r9), (0, .ref (b + 0)), (1, .int a1), (2, .int a2)]) hx hb dX12_watch_51 hl (by decide) rfl (fun ls hl => ?_)
          refine lv_iconst (v := (0 : Int32)) hx hb dX12_watch_53 (by decide) ?_
          refine lv_istore (lv' := [(6, .int (0 : Int32)), (5, .int (0 : Int32)), (4, .int (0 : Int32)), (3, .int r9), (0, .ref (b + 0)), (1, .int a1), (2, .int a2)]) hx hb dX12_watch_54 hl (by decide) rfl (fun ls hl => ?_)
          exact w12_watch_56 (n := n)  C hr hk q56 hf hP hS (lv_sub hl [4, 5, 6, 3, 2, 1, 0] rfl)
        · replace hf := ite_f c16 hf
          exact w12_watch_44 (n := n)  C hr hk q56 hf hP hS (lv_sub hl [] rfl)
    · replace hf := ite_t c8 hf
      exact w12_watch_19 (n := n)  C hr hk q56 hf hP hS (lv_sub hl [] rfl)
set_option maxHeartbeats 4000000 in
set_option maxRecDepth 100000 in
theorem l12_watch {p : Program} {l : Launch} {e : Env} {s : State} {m : MethodId} {args : Array Value} {below : List Frame} {meth : Method} {c : Code} {z : Zt} {b : Nat}  (C : Cx p s m args c cX12_watch 8 RX12 z 32 b) (hr : meth.sig.returnType = (some .int)) (hk : meth.locks = false) {r : Int32} {M' : Mem} (n : Nat) : (∀ (i1 : Int32) (i2 : Int32) (i3 : Int32) (i4 : Int32) (i5 : Int32) (i6 : Int32) (M : Mem) (H : Heap) (locs : List Loc) (ls : Array Slot), (r12_watch  n) 56 [i1, i2, i3, i4, i5, i6] [] M = some (r, M') → va_P z.1 vwCl (pw (yd z b) 32 b M) H → va_S (pA 32 b) s.heap H locs → lv_has ls 8 [(0, .ref (b + 0)), (1, .int i1), (2, .int i2), (3, .int i3), (4, .int i4), (5, .int i5), (6, .int i6)] → W p l e rm12_watch s m args below meth c H locs 0 0 (MQ below (va_Qi (fun (r' : Int32) (M2 : Mem) => r' = r ∧ M2 = M') (fun M2 t => va_P z.1 vwCl (pw (yd z b) 32 b M2) t.heap) (pA 32 b)) args s 0 0 (pA 32 b)) (F0 m 56 ls [])) := by
  induction n with
  | zero => exact fun _ _ _ _ _ _ _ _ _ _ hf => (by cases hf)
  | succ n ih => exact fun _ _ _ _ _ _ _ _ _ _ hf hP hS hl => w12_watch_56 (n := n)  C hr hk ih ((e12_watch_56  n _ _ _ _ _ _ _).symm.trans hf) hP hS hl
theorem c12_watch {l : Launch} {z : Zt} {b n : Nat}  {a1 : Int32} {a2 : Int32} {M M' : Mem} {r : Int32} (hf : f12_watch n  a1 a2 M = some (r, M')) : CI l z (yd z b) 32 b yX12_watch cX12_watch 8 (some .int) rm12_watch [.ref (b + 0), .int a1, .int a2] M M' r :=
  CI.ofW (lv := [(0, .ref (b + 0)), (1, .int a1), (2, .int a2)]) (by decide) (Nat.le_of_ble_eq_true rfl) rfl (fun p e s m args below meth c ls C hr hk hP hS hl => w12_watch_0 (n := n)  C hr hk (l12_watch  C hr hk n) hf hP hS hl)

-- BronzeKingModel.sure(I)I
theorem dX12_sure_0 : decode cX12_sure 0 = .ok (.iload_n 1, 1) := by decide +kernel
theorem dX12_sure_1 : decode cX12_sure 1 = .ok (.iconst 1, 1) := by decide +kernel
theorem dX12_sure_2 : decode cX12_sure 2 = .ok (.bipush 100, 2) := by decide +kernel
theorem dX12_sure_4 : decode cX12_sure 4 = .ok (.invokestatic 106, 3) := by decide +kernel
theorem dX12_sure_7 : decode cX12_sure 7 = .ok (.ifCond .ne 5, 3) := by decide +kernel
theorem dX12_sure_10 : decode cX12_sure 10 = .ok (.iconst (-1), 1) := by decide +kernel
theorem dX12_sure_11 : decode cX12_sure 11 = .ok (.ireturn, 1) := by decide +kernel
theorem dX12_sure_12 : decode cX12_sure 12 = .ok (.aload_n 0, 1) := by decide +kernel
theorem dX12_sure_13 : decode cX12_sure 13 = .ok (.invokevirtual 342, 3) := by decide +kernel
theorem dX12_sure_16 : decode cX12_sure 16 = .ok (.istore_n 2, 1) := by decide +kernel
theorem dX12_sure_17 : decode cX12_sure 17 = .ok (.iload_n 2, 1) := by decide +kernel
theorem dX12_sure_18 : decode cX12_sure 18 = .ok (.ifCond .ne 6, 3) := by decide +kernel
theorem dX12_sure_21 : decode cX12_sure 21 = .ok (.bipush (-2), 2) := by decide +kernel
theorem dX12_sure_23 : decode cX12_sure 23 = .ok (.ireturn, 1) := by decide +kernel
theorem dX12_sure_24 : decode cX12_sure 24 = .ok (.iconst 0, 1) := by decide +kernel
theorem dX12_sure_25 : decode cX12_sure 25 = .ok (.istore_n 3, 1) := by decide +kernel
theorem dX12_sure_26 : decode cX12_sure 26 = .ok (.iconst 0, 1) := by decide +kernel
theorem dX12_sure_27 : decode cX12_sure 27 = .ok (.istore 4, 2) := by decide +kernel
theorem dX12_sure_29 : decode cX12_sure 29 = .ok (.iconst 0, 1) := by decide +kernel
theorem dX12_sure_30 : decode cX12_sure 30 = .ok (.istore 5, 2) := by decide +kernel
theorem dX12_sure_32 : decode cX12_sure 32 = .ok (.bipush 100, 2) := by decide +kernel
theorem dX12_sure_34 : decode cX12_sure 34 = .ok (.iload 4, 2) := by decide +kernel
theorem dX12_sure_36 : decode cX12_sure 36 = .ok (.imul, 1) := by decide +kernel
theorem dX12_sure_37 : decode cX12_sure 37 = .ok (.iload_n 1, 1) := by decide +kernel
theorem dX12_sure_38 : decode cX12_sure 38 = .ok (.iload_n 2, 1) := by decide +kernel
theorem dX12_sure_39 : decode cX12_sure 39 = .ok (.imul, 1) := by decide +kernel
theorem dX12_sure_40 : decode cX12_sure 40 = .ok (.if_icmp .ge 38, 3) := by decide +kernel
theorem dX12_sure_43 : decode cX12_sure 43 = .ok (.aload_n 0, 1) := by decide +kernel
theorem dX12_sure_44 : decode cX12_sure 44 = .ok (.iload_n 3, 1) := by decide +kernel
theorem dX12_sure_45 : decode cX12_sure 45 = .ok (.invokevirtual 348, 3) := by decide +kernel
theorem dX12_sure_48 : decode cX12_sure 48 = .ok (.istore 6, 2) := by decide +kernel
theorem dX12_sure_50 : decode cX12_sure 50 = .ok (.iload_n 3, 1) := by decide +kernel
theorem dX12_sure_51 : decode cX12_sure 51 = .ok (.iconst 1, 1) := by decide +kernel
theorem dX12_sure_52 : decode cX12_sure 52 = .ok (.iload 6, 2) := by decide +kernel
theorem dX12_sure_54 : decode cX12_sure 54 = .ok (.ishl, 1) := by decide +kernel
theorem dX12_sure_55 : decode cX12_sure 55 = .ok (.ior, 1) := by decide +kernel
theorem dX12_sure_56 : decode cX12_sure 56 = .ok (.istore_n 3, 1) := by decide +kernel
theorem dX12_sure_57 : decode cX12_sure 57 = .ok (.iload 4, 2) := by decide +kernel
theorem dX12_sure_59 : decode cX12_sure 59 = .ok (.aload_n 0, 1) := by decide +kernel
theorem dX12_sure_60 : decode cX12_sure 60 = .ok (.getfield 77, 3) := by decide +kernel
theorem dX12_sure_63 : decode cX12_sure 63 = .ok (.iload 6, 2) := by decide +kernel
theorem dX12_sure_65 : decode cX12_sure 65 = .ok (.iaload, 1) := by decide +kernel
theorem dX12_sure_66 : decode cX12_sure 66 = .ok (.iadd, 1) := by decide +kernel
theorem dX12_sure_67 : decode cX12_sure 67 = .ok (.istore 4, 2) := by decide +kernel
theorem dX12_sure_69 : decode cX12_sure 69 = .ok (.iload 5, 2) := by decide +kernel
theorem dX12_sure_71 : decode cX12_sure 71 = .ok (.iconst 1, 1) := by decide +kernel
theorem dX12_sure_72 : decode cX12_sure 72 = .ok (.iadd, 1) := by decide +kernel
theorem dX12_sure_73 : decode cX12_sure 73 = .ok (.istore 5, 2) := by decide +kernel
theorem dX12_sure_75 : decode cX12_sure 75 = .ok (.goto (-43), 3) := by decide +kernel
theorem dX12_sure_78 : decode cX12_sure 78 = .ok (.iload 5, 2) := by decide +kernel
theorem dX12_sure_80 : decode cX12_sure 80 = .ok (.ireturn, 1) := by decide +kernel
def b12_sure_32 (rc : Nat → List Int32 → List Int64 → Mem → Option (Int32 × Mem)) (n : Nat) (i1 : Int32) (i2 : Int32) (i3 : Int32) (i4 : Int32) (i5 : Int32) (M : Mem) : Option (Int32 × Mem) :=
  (if (i1 * i2) ≤ ((100 : Int32) * i4) then (
   some (i5, M))
  else (
   bnd (f12_nextHour n i3 M) fun r10 M11 =>
   lt (i3 ||| ((1 : Int32) <<< (r10 &&& 31))) fun v13 =>
   chk (inb r10 24) <|
   lt (i4 + (M11.1 23 r10.toNatClampNeg)) fun v15 =>
   lt (i5 + (1 : Int32)) fun v16 =>
   rc 32 [i1, i2, v13, v15, v16] [] M11))
def b12_sure_0 (rc : Nat → List Int32 → List Int64 → Mem → Option (Int32 × Mem)) (n : Nat) (a1 : Int32) (M : Mem) : Option (Int32 × Mem) :=
  bnd (f12_in n a1 (1 : Int32) (100 : Int32) M) fun r1 M2 =>
  (if r1 = 0 then (
   some ((-1 : Int32), M2))
  else (
   bnd (f12_laysWeights n M2) fun r5 M6 =>
   (if r5 = 0 then (
    some ((-2 : Int32), M6))
   else (
    b12_sure_32  rc n a1 r5 (0 : Int32) (0 : Int32) (0 : Int32) M6))))
def r12_sure : Nat → Nat → List Int32 → List Int64 → Mem → Option (Int32 × Mem)
  | 0 => fun _ _ _ _ => none
  | n + 1 => fun pc li lj M =>
    if pc = 32 then (match li, lj with | [i1, i2, i3, i4, i5], [] => b12_sure_32  (r12_sure  n) n i1 i2 i3 i4 i5 M | _, _ => none) else
    none
theorem e12_sure_32  (n : Nat) (i1 : Int32) (i2 : Int32) (i3 : Int32) (i4 : Int32) (i5 : Int32) (M : Mem) : r12_sure  (n + 1) 32 [i1, i2, i3, i4, i5] [] M = b12_sure_32  (r12_sure  n) n i1 i2 i3 i4 i5 M := by
  rw [r12_sure]
  simp
def f12_sure (n : Nat) (a1 : Int32) (M : Mem) : Option (Int32 × Mem) := b12_sure_0 (r12_sure n) n a1 M
abbrev rm12_sure : Room := { frames := 5, cells := 0, slots := 0, locals := 117 }
theorem y12_sure_w : yV RX12 yX12_sure cX12_sure 7 (some .int) 1 := ⟨g_1557, g_1558, g_14, g_1559, rfl, by decide, by decide, by decide +kernel⟩
set_option maxHeartbeats 4000000 in
set_option maxRecDepth 100000 in
theorem w12_sure_32 {p : Program} {l : Launch} {e : Env} {s : State} {m : MethodId} {args : Array Value} {below : List Frame} {meth : Method} {c : Code} {z : Zt} {b : Nat}  (C : Cx p s m args c cX12_sure 7 RX12 z 32 b) (hr : meth.sig.returnType = (some .int)) (hk : meth.locks = false) {r : Int32} {M' : Mem} {rc : Nat → List Int32 → List Int64 → Mem → Option (Int32 × Mem)} {n : Nat} (q32 : ∀ (i1 : Int32) (i2 : Int32) (i3 : Int32) (i4 : Int32) (i5 : Int32) (M : Mem) (H : Heap) (locs : List Loc) (ls : Array Slot), rc 32 [i1, i2, i3, i4, i5] [] M = some (r, M') → va_P z.1 vwCl (pw (yd z b) 32 b M) H → va_S (pA 32 b) s.heap H locs → lv_has ls 7 [(0, .ref (b + 0)), (1, .int i1), (2, .int i2), (3, .int i3), (4, .int i4), (5, .int i5)] → W p l e rm12_sure s m args below meth c H locs 0 0 (MQ below (va_Qi (fun (r' : Int32) (M2 : Mem) => r' = r ∧ M2 = M') (fun M2 t => va_P z.1 vwCl (pw (yd z b) 32 b M2) t.heap) (pA 32 b)) args s 0 0 (pA 32 b)) (F0 m 32 ls [])) {i1 : Int32} {i2 : Int32} {i3 : Int32} {i4 : Int32} {i5 : Int32} {M : Mem} {H : Heap} {locs : List Loc} {ls : Array Slot} (hf : b12_sure_32  rc n i1 i2 i3 i4 i5 M = some (r, M')) (hP : va_P z.1 vwCl (pw (yd z b) 32 b M) H) (hS : va_S (pA 32 b) s.heap H locs) (hl : lv_has ls 7 [(0, .ref (b + 0)), (1, .int i1), (2, .int i2), (3, .int i3), (4, .int i4), (5, .int i5)]) : W p l e rm12_sure s m args below meth c H locs 0 0 (MQ below (va_Qi (fun (r' : Int32) (M2 : Mem) => r' = r ∧ M2 = M') (fun M2 t => va_P z.1 vwCl (pw (yd z b) 32 b M2) t.heap) (pA 32 b)) args s 0 0 (pA 32 b)) (F0 m 32 ls []) := by
  have hx := C.1.1
  have hb := C.1.2.1
  unfold b12_sure_32 at hf
  refine lv_bipush (v := (100 : Int32)) hx hb dX12_sure_32 (by decide) ?_
  refine lv_iload hx hb dX12_sure_34 (lv_at hl 4 rfl) ?_
  refine lv_imul hx hb dX12_sure_36 ?_
  refine lv_iload_n hx hb dX12_sure_37 rfl (lv_at hl 1 rfl) ?_
  refine lv_iload_n hx hb dX12_sure_38 rfl (lv_at hl 2 rfl) ?_
  refine lv_imul hx hb dX12_sure_39 ?_
  refine lv_icmp_ge (tgt := 78) hx hb dX12_sure_40 (by decide) (fun c9 => ?_) (fun c9 => ?_)
  · replace hf := ite_t c9 hf
    refine lv_iload hx hb dX12_sure_78 (lv_at hl 5 rfl) ?_
    exact prI C hr hk hP hS hf dX12_sure_80
  · replace hf := ite_f c9 hf
    refine lv_aload_n hx hb dX12_sure_43 rfl (lv_at hl 0 rfl) ?_
    refine lv_iload_n hx hb dX12_sure_44 rfl (lv_at hl 3 rfl) ?_
    obtain ⟨r10, M11, h12, hf⟩ := bnd_s hf
    refine pcVi (As := [.int i3]) C hP hS (k := 0) (Nat.le_of_ble_eq_true rfl) (yd_0 _ _) rfl (c12_nextHour  h12) y12_nextHour_w g_1552 rfl rfl rfl ⟨Nat.le_of_ble_eq_true rfl, Nat.le_of_ble_eq_true rfl⟩ hl.1 rfl (Nat.le_of_ble_eq_true rfl) dX12_sure_45 ⟨Nat.le_of_ble_eq_true rfl, Nat.le_of_ble_eq_true rfl⟩ (fun H locs hP hS => ?_)
    refine lv_istore (lv' := [(6, .int r10), (0, .ref (b + 0)), (1, .int i1), (2, .int i2), (3, .int i3), (4, .int i4), (5, .int i5)]) hx hb dX12_sure_48 hl (by decide) rfl (fun ls hl => ?_)
    refine lv_iload_n hx hb dX12_sure_50 rfl (lv_at hl 4 rfl) ?_
    refine lv_iconst (v := (1 : Int32)) hx hb dX12_sure_51 (by decide) ?_
    refine lv_iload hx hb dX12_sure_52 (lv_at hl 0 rfl) ?_
    refine lv_ishl hx hb dX12_sure_54 ?_
    refine lv_ior hx hb dX12_sure_55 ?_
    refine lv_topi (fun v13 ev13 => ?_)
    replace hf := lt_c ev13 hf
    refine lv_istore_n (lv' := [(3, .int v13), (6, .int r10), (0, .ref (b + 0)), (1, .int i1), (2, .int i2), (4, .int i4), (5, .int i5)]) hx hb dX12_sure_56 rfl hl (by decide) rfl (fun ls hl => ?_)
    refine lv_iload hx hb dX12_sure_57 (lv_at hl 5 rfl) ?_
    refine lv_aload_n hx hb dX12_sure_59 rfl (lv_at hl 2 rfl) ?_
    refine pg C hP (k := 0) (j := 40) (Nat.le_of_ble_eq_true rfl) (yd_0 _ _) rfl iw_12 (Nat.le_of_ble_eq_true rfl) g_1175 rfl rfl dX12_sure_60 ?_
    refine lv_iload hx hb dX12_sure_63 (lv_at hl 1 rfl) ?_
    have h14 := chk_1 hf
    replace hf := chk_2 hf
    refine paI C hP (k := 23) (Nat.le_of_ble_eq_true rfl) (yd_23 _ _) h14 dX12_sure_65 ?_
    refine lv_iadd hx hb dX12_sure_66 ?_
    refine lv_topi (fun v15 ev15 => ?_)
    replace hf := lt_c ev15 hf
    refine lv_istore (lv' := [(4, .int v15), (3, .int v13), (6, .int r10), (0, .ref (b + 0)), (1, .int i1), (2, .int i2), (5, .int i5)]) hx hb dX12_sure_67 hl (by decide) rfl (fun ls hl => ?_)
    refine lv_iload hx hb dX12_sure_69 (lv_at hl 6 rfl) ?_
    refine lv_iconst (v := (1 : Int32)) hx hb dX12_sure_71 (by decide) ?_
    refine lv_iadd hx hb dX12_sure_72 ?_
    refine lv_topi (fun v16 ev16 => ?_)
    replace hf := lt_c ev16 hf
    refine lv_istore (lv' := [(5, .int v16), (4, .int v15), (3, .int v13), (6, .int r10), (0, .ref (b + 0)), (1, .int i1), (2, .int i2)]) hx hb dX12_sure_73 hl (by decide) rfl (fun ls hl => ?_)
    refine lv_goto (tgt := 32) hx hb dX12_sure_75 (by decide) ?_
    exact q32 i1 i2 v13 v15 v16 M11 _ _ _ hf hP hS (lv_sub hl [4, 5, 6, 2, 1, 0] rfl)
set_option maxHeartbeats 4000000 in
set_option maxRecDepth 100000 in
theorem w12_sure_0 {p : Program} {l : Launch} {e : Env} {s : State} {m : MethodId} {args : Array Value} {below : List Frame} {meth : Method} {c : Code} {z : Zt} {b : Nat}  (C : Cx p s m args c cX12_sure 7 RX12 z 32 b) (hr : meth.sig.returnType = (some .int)) (hk : meth.locks = false) {r : Int32} {M' : Mem} {rc : Nat → List Int32 → List Int64 → Mem → Option (Int32 × Mem)} {n : Nat} (q32 : ∀ (i1 : Int32) (i2 : Int32) (i3 : Int32) (i4 : Int32) (i5 : Int32) (M : Mem) (H : Heap) (locs : List Loc) (ls : Array Slot), rc 32 [i1, i2, i3, i4, i5] [] M = some (r, M') → va_P z.1 vwCl (pw (yd z b) 32 b M) H → va_S (pA 32 b) s.heap H locs → lv_has ls 7 [(0, .ref (b + 0)), (1, .int i1), (2, .int i2), (3, .int i3), (4, .int i4), (5, .int i5)] → W p l e rm12_sure s m args below meth c H locs 0 0 (MQ below (va_Qi (fun (r' : Int32) (M2 : Mem) => r' = r ∧ M2 = M') (fun M2 t => va_P z.1 vwCl (pw (yd z b) 32 b M2) t.heap) (pA 32 b)) args s 0 0 (pA 32 b)) (F0 m 32 ls [])) {a1 : Int32} {M : Mem} {H : Heap} {locs : List Loc} {ls : Array Slot} (hf : b12_sure_0  rc n a1 M = some (r, M')) (hP : va_P z.1 vwCl (pw (yd z b) 32 b M) H) (hS : va_S (pA 32 b) s.heap H locs) (hl : lv_has ls 7 [(0, .ref (b + 0)), (1, .int a1)]) : W p l e rm12_sure s m args below meth c H locs 0 0 (MQ below (va_Qi (fun (r' : Int32) (M2 : Mem) => r' = r ∧ M2 = M') (fun M2 t => va_P z.1 vwCl (pw (yd z b) 32 b M2) t.heap) (pA 32 b)) args s 0 0 (pA 32 b)) (F0 m 0 ls []) := by
  have hx := C.1.1
  have hb := C.1.2.1
  unfold b12_sure_0 at hf
  refine lv_iload_n hx hb dX12_sure_0 rfl (lv_at hl 1 rfl) ?_
  refine lv_iconst (v := (1 : Int32)) hx hb dX12_sure_1 (by decide) ?_
  refine lv_bipush (v := (100 : Int32)) hx hb dX12_sure_2 (by decide) ?_
  obtain ⟨r1, M2, h3, hf⟩ := bnd_s hf
  refine pcSi (As := [.int a1, .int (1 : Int32), .int (100 : Int32)]) C hP hS (c12_in  h3) y12_in_w g_1306 rfl rfl rfl ⟨Nat.le_of_ble_eq_true rfl, Nat.le_of_ble_eq_true rfl⟩ hl.1 rfl (Nat.le_of_ble_eq_true rfl) dX12_sure_4 ⟨Nat.le_of_ble_eq_true rfl, Nat.le_of_ble_eq_true rfl⟩ (fun H locs hP hS => ?_)
  refine lv_if_ne (tgt := 12) hx hb dX12_sure_7 (by decide) (fun c4 => ?_) (fun c4 => ?_)
  · replace hf := ite_f c4 hf
    refine lv_aload_n hx hb dX12_sure_12 rfl (lv_at hl 0 rfl) ?_
    obtain ⟨r5, M6, h7, hf⟩ := bnd_s hf
    refine pcVi (As := []) C hP hS (k := 0) (Nat.le_of_ble_eq_true rfl) (yd_0 _ _) rfl (c12_laysWeights  h7) y12_laysWeights_w g_1534 rfl rfl rfl ⟨Nat.le_of_ble_eq_true rfl, Nat.le_of_ble_eq_true rfl⟩ hl.1 rfl (Nat.le_of_ble_eq_true rfl) dX12_sure_13 ⟨Nat.le_of_ble_eq_true rfl, Nat.le_of_ble_eq_true rfl⟩ (fun H locs hP hS => ?_)
    refine lv_istore_n (lv' := [(2, .int r5), (0, .ref (b + 0)), (1, .int a1)]) hx hb dX12_sure_16 rfl hl (by decide) rfl (fun ls hl => ?_)
    refine lv_iload_n hx hb dX12_sure_17 rfl (lv_at hl 0 rfl) ?_
    refine lv_if_ne (tgt := 24) hx hb dX12_sure_18 (by decide) (fun c8 => ?_) (fun c8 => ?_)
    · replace hf := ite_f c8 hf
      refine lv_iconst (v := (0 : Int32)) hx hb dX12_sure_24 (by decide) ?_
      refine lv_istore_n (lv' := [(3, .int (0 : Int32)), (2, .int r5), (0, .ref (b + 0)), (1, .int a1)]) hx hb dX12_sure_25 rfl hl (by decide) rfl (fun ls hl => ?_)
      refine lv_iconst (v := (0 : Int32)) hx hb dX12_sure_26 (by decide) ?_
      refine lv_istore (lv' := [(4, .int (0 : Int32)), (3, .int (0 : Int32)), (2, .int r5), (0, .ref (b + 0)), (1, .int a1)]) hx hb dX12_sure_27 hl (by decide) rfl (fun ls hl => ?_)
      refine lv_iconst (v := (0 : Int32)) hx hb dX12_sure_29 (by decide) ?_
      refine lv_istore (lv' := [(5, .int (0 : Int32)), (4, .int (0 : Int32)), (3, .int (0 : Int32)), (2, .int r5), (0, .ref (b + 0)), (1, .int a1)]) hx hb dX12_sure_30 hl (by decide) rfl (fun ls hl => ?_)
      exact w12_sure_32 (n := n)  C hr hk q32 hf hP hS (lv_sub hl [4, 5, 3, 2, 1, 0] rfl)
    · replace hf := ite_t c8 hf
      refine lv_bipush (v := (-2 : Int32)) hx hb dX12_sure_21 (by decide) ?_
      exact prI C hr hk hP hS hf dX12_sure_23
  · replace hf := ite_t c4 hf
    refine lv_iconst (v := (-1 : Int32)) hx hb dX12_sure_10 (by decide) ?_
    exact prI C hr hk hP hS hf dX12_sure_11
set_option maxHeartbeats 4000000 in
set_option maxRecDepth 100000 in
theorem l12_sure {p : Program} {l : Launch} {e : Env} {s : State} {m : MethodId} {args : Array Value} {below : List Frame} {meth : Method} {c : Code} {z : Zt} {b : Nat}  (C : Cx p s m args c cX12_sure 7 RX12 z 32 b) (hr : meth.sig.returnType = (some .int)) (hk : meth.locks = false) {r : Int32} {M' : Mem} (n : Nat) : (∀ (i1 : Int32) (i2 : Int32) (i3 : Int32) (i4 : Int32) (i5 : Int32) (M : Mem) (H : Heap) (locs : List Loc) (ls : Array Slot), (r12_sure  n) 32 [i1, i2, i3, i4, i5] [] M = some (r, M') → va_P z.1 vwCl (pw (yd z b) 32 b M) H → va_S (pA 32 b) s.heap H locs → lv_has ls 7 [(0, .ref (b + 0)), (1, .int i1), (2, .int i2), (3, .int i3), (4, .int i4), (5, .int i5)] → W p l e rm12_sure s m args below meth c H locs 0 0 (MQ below (va_Qi (fun (r' : Int32) (M2 : Mem) => r' = r ∧ M2 = M') (fun M2 t => va_P z.1 vwCl (pw (yd z b) 32 b M2) t.heap) (pA 32 b)) args s 0 0 (pA 32 b)) (F0 m 32 ls [])) := by
  induction n with
  | zero => exact fun _ _ _ _ _ _ _ _ _ hf => (by cases hf)
  | succ n ih => exact fun _ _ _ _ _ _ _ _ _ hf hP hS hl => w12_sure_32 (n := n)  C hr hk ih ((e12_sure_32  n _ _ _ _ _ _).symm.trans hf) hP hS hl
theorem c12_sure {l : Launch} {z : Zt} {b n : Nat}  {a1 : Int32} {M M' : Mem} {r : Int32} (hf : f12_sure n  a1 M = some (r, M')) : CI l z (yd z b) 32 b yX12_sure cX12_sure 7 (some .int) rm12_sure [.ref (b + 0), .int a1] M M' r :=
  CI.ofW (lv := [(0, .ref (b + 0)), (1, .int a1)]) (by decide) (Nat.le_of_ble_eq_true rfl) rfl (fun p e s m args below meth c ls C hr hk hP hS hl => w12_sure_0 (n := n)  C hr hk (l12_sure  C hr hk n) hf hP hS hl)

-- BronzeKingModel.walk(I)I
theorem dX12_walk_0 : decode cX12_walk 0 = .ok (.iload_n 1, 1) := by decide +kernel
theorem dX12_walk_1 : decode cX12_walk 1 = .ok (.iconst 0, 1) := by decide +kernel
theorem dX12_walk_2 : decode cX12_walk 2 = .ok (.bipush 59, 2) := by decide +kernel
theorem dX12_walk_4 : decode cX12_walk 4 = .ok (.invokestatic 106, 3) := by decide +kernel
theorem dX12_walk_7 : decode cX12_walk 7 = .ok (.ifCond .ne 16, 3) := by decide +kernel
theorem dX12_walk_10 : decode cX12_walk 10 = .ok (.iload_n 1, 1) := by decide +kernel
theorem dX12_walk_11 : decode cX12_walk 11 = .ok (.bipush 100, 2) := by decide +kernel
theorem dX12_walk_13 : decode cX12_walk 13 = .ok (.bipush 103, 2) := by decide +kernel
theorem dX12_walk_15 : decode cX12_walk 15 = .ok (.invokestatic 106, 3) := by decide +kernel
theorem dX12_walk_18 : decode cX12_walk 18 = .ok (.ifCond .ne 5, 3) := by decide +kernel
theorem dX12_walk_21 : decode cX12_walk 21 = .ok (.iconst (-1), 1) := by decide +kernel
theorem dX12_walk_22 : decode cX12_walk 22 = .ok (.ireturn, 1) := by decide +kernel
theorem dX12_walk_23 : decode cX12_walk 23 = .ok (.aload_n 0, 1) := by decide +kernel
theorem dX12_walk_24 : decode cX12_walk 24 = .ok (.getfield 7, 3) := by decide +kernel
theorem dX12_walk_27 : decode cX12_walk 27 = .ok (.sipush 156, 3) := by decide +kernel
theorem dX12_walk_30 : decode cX12_walk 30 = .ok (.iaload, 1) := by decide +kernel
theorem dX12_walk_31 : decode cX12_walk 31 = .ok (.bipush (-2), 2) := by decide +kernel
theorem dX12_walk_33 : decode cX12_walk 33 = .ok (.if_icmp .ne 6, 3) := by decide +kernel
theorem dX12_walk_36 : decode cX12_walk 36 = .ok (.bipush (-2), 2) := by decide +kernel
theorem dX12_walk_38 : decode cX12_walk 38 = .ok (.ireturn, 1) := by decide +kernel
theorem dX12_walk_39 : decode cX12_walk 39 = .ok (.iload_n 1, 1) := by decide +kernel
theorem dX12_walk_40 : decode cX12_walk 40 = .ok (.bipush 60, 2) := by decide +kernel
theorem dX12_walk_42 : decode cX12_walk 42 = .ok (.if_icmp .ge 15, 3) := by decide +kernel
theorem dX12_walk_45 : decode cX12_walk 45 = .ok (.aload_n 0, 1) := by decide +kernel
theorem dX12_walk_46 : decode cX12_walk 46 = .ok (.getfield 7, 3) := by decide +kernel
theorem dX12_walk_49 : decode cX12_walk 49 = .ok (.bipush 96, 2) := by decide +kernel
theorem dX12_walk_51 : decode cX12_walk 51 = .ok (.iload_n 1, 1) := by decide +kernel
theorem dX12_walk_52 : decode cX12_walk 52 = .ok (.iadd, 1) := by decide +kernel
theorem dX12_walk_53 : decode cX12_walk 53 = .ok (.iaload, 1) := by decide +kernel
theorem dX12_walk_54 : decode cX12_walk 54 = .ok (.goto 16, 3) := by decide +kernel
theorem dX12_walk_57 : decode cX12_walk 57 = .ok (.aload_n 0, 1) := by decide +kernel
theorem dX12_walk_58 : decode cX12_walk 58 = .ok (.getfield 7, 3) := by decide +kernel
theorem dX12_walk_61 : decode cX12_walk 61 = .ok (.sipush 156, 3) := by decide +kernel
theorem dX12_walk_64 : decode cX12_walk 64 = .ok (.iload_n 1, 1) := by decide +kernel
theorem dX12_walk_65 : decode cX12_walk 65 = .ok (.iadd, 1) := by decide +kernel
theorem dX12_walk_66 : decode cX12_walk 66 = .ok (.bipush 100, 2) := by decide +kernel
theorem dX12_walk_68 : decode cX12_walk 68 = .ok (.isub, 1) := by decide +kernel
theorem dX12_walk_69 : decode cX12_walk 69 = .ok (.iaload, 1) := by decide +kernel
theorem dX12_walk_70 : decode cX12_walk 70 = .ok (.ireturn, 1) := by decide +kernel
def b12_walk_23 (rc : Nat → List Int32 → List Int64 → Mem → Option (Int32 × Mem)) (n : Nat) (i1 : Int32) (M : Mem) : Option (Int32 × Mem) :=
  chk (inb (156 : Int32) 162) <|
  (if (M.1 1 (156 : Int32).toNatClampNeg) = (-2 : Int32) then (
   some ((-2 : Int32), M))
  else (
   (if (60 : Int32) ≤ i1 then (
    chk (inb (((156 : Int32) + i1) - (100 : Int32)) 162) <|
    some ((M.1 1 (((156 : Int32) + i1) - (100 : Int32)).toNatClampNeg), M))
   else (
    chk (inb ((96 : Int32) + i1) 162) <|
    some ((M.1 1 ((96 : Int32) + i1).toNatClampNeg), M)))))
def b12_walk_0 (rc : Nat → List Int32 → List Int64 → Mem → Option (Int32 × Mem)) (n : Nat) (a1 : Int32) (M : Mem) : Option (Int32 × Mem) :=
  bnd (f12_in n a1 (0 : Int32) (59 : Int32) M) fun r1 M2 =>
  (if r1 = 0 then (
   bnd (f12_in n a1 (100 : Int32) (103 : Int32) M2) fun r5 M6 =>
   (if r5 = 0 then (
    some ((-1 : Int32), M6))
   else (
    b12_walk_23  rc n a1 M6)))
  else (
   b12_walk_23  rc n a1 M2))
def f12_walk (n : Nat) (a1 : Int32) (M : Mem) : Option (Int32 × Mem) := b12_walk_0 (fun _ _ _ _ => none) n a1 M
abbrev rm12_walk : Room := { frames := 1, cells := 0, slots := 0, locals := 22 }
theorem y12_walk_w : yV RX12 yX12_walk cX12_walk 2 (some .int) 1 := ⟨g_1561, g_1562, g_14, g_1563, rfl, by decide, by decide, by decide +kernel⟩
set_option maxHeartbeats 4000000 in
set_option maxRecDepth 100000 in
theorem w12_walk_23 {p : Program} {l : Launch} {e : Env} {s : State} {m : MethodId} {args : Array Value} {below : List Frame} {meth : Method} {c : Code} {z : Zt} {b : Nat}  (C : Cx p s m args c cX12_walk 2 RX12 z 32 b) (hr : meth.sig.returnType = (some .int)) (hk : meth.locks = false) {r : Int32} {M' : Mem} {rc : Nat → List Int32 → List Int64 → Mem → Option (Int32 × Mem)} {n : Nat}  {i1 : Int32} {M : Mem} {H : Heap} {locs : List Loc} {ls : Array Slot} (hf : b12_walk_23  rc n i1 M = some (r, M')) (hP : va_P z.1 vwCl (pw (yd z b) 32 b M) H) (hS : va_S (pA 32 b) s.heap H locs) (hl : lv_has ls 2 [(0, .ref (b + 0)), (1, .int i1)]) : W p l e rm12_walk s m args below meth c H locs 0 0 (MQ below (va_Qi (fun (r' : Int32) (M2 : Mem) => r' = r ∧ M2 = M') (fun M2 t => va_P z.1 vwCl (pw (yd z b) 32 b M2) t.heap) (pA 32 b)) args s 0 0 (pA 32 b)) (F0 m 23 ls []) := by
  have hx := C.1.1
  have hb := C.1.2.1
  unfold b12_walk_23 at hf
  refine lv_aload_n hx hb dX12_walk_23 rfl (lv_at hl 0 rfl) ?_
  refine pg C hP (k := 0) (j := 0) (Nat.le_of_ble_eq_true rfl) (yd_0 _ _) rfl iw_12 (Nat.le_of_ble_eq_true rfl) g_1135 rfl rfl dX12_walk_24 ?_
  refine lv_sipush (v := (156 : Int32)) hx hb dX12_walk_27 (by decide) ?_
  have h9 := chk_1 hf
  replace hf := chk_2 hf
  refine paI C hP (k := 1) (Nat.le_of_ble_eq_true rfl) (yd_1 _ _) h9 dX12_walk_30 ?_
  refine lv_bipush (v := (-2 : Int32)) hx hb dX12_walk_31 (by decide) ?_
  refine lv_icmp_ne (tgt := 39) hx hb dX12_walk_33 (by decide) (fun c10 => ?_) (fun c10 => ?_)
  · replace hf := ite_f c10 hf
    refine lv_iload_n hx hb dX12_walk_39 rfl (lv_at hl 1 rfl) ?_
    refine lv_bipush (v := (60 : Int32)) hx hb dX12_walk_40 (by decide) ?_
    refine lv_icmp_ge (tgt := 57) hx hb dX12_walk_42 (by decide) (fun c11 => ?_) (fun c11 => ?_)
    · replace hf := ite_t c11 hf
      refine lv_aload_n hx hb dX12_walk_57 rfl (lv_at hl 0 rfl) ?_
      refine pg C hP (k := 0) (j := 0) (Nat.le_of_ble_eq_true rfl) (yd_0 _ _) rfl iw_12 (Nat.le_of_ble_eq_true rfl) g_1135 rfl rfl dX12_walk_58 ?_
      refine lv_sipush (v := (156 : Int32)) hx hb dX12_walk_61 (by decide) ?_
      refine lv_iload_n hx hb dX12_walk_64 rfl (lv_at hl 1 rfl) ?_
      refine lv_iadd hx hb dX12_walk_65 ?_
      refine lv_bipush (v := (100 : Int32)) hx hb dX12_walk_66 (by decide) ?_
      refine lv_isub hx hb dX12_walk_68 ?_
      have h12 := chk_1 hf
      replace hf := chk_2 hf
      refine paI C hP (k := 1) (Nat.le_of_ble_eq_true rfl) (yd_1 _ _) h12 dX12_walk_69 ?_
      exact prI C hr hk hP hS hf dX12_walk_70
    · replace hf := ite_f c11 hf
      refine lv_aload_n hx hb dX12_walk_45 rfl (lv_at hl 0 rfl) ?_
      refine pg C hP (k := 0) (j := 0) (Nat.le_of_ble_eq_true rfl) (yd_0 _ _) rfl iw_12 (Nat.le_of_ble_eq_true rfl) g_1135 rfl rfl dX12_walk_46 ?_
      refine lv_bipush (v := (96 : Int32)) hx hb dX12_walk_49 (by decide) ?_
      refine lv_iload_n hx hb dX12_walk_51 rfl (lv_at hl 1 rfl) ?_
      refine lv_iadd hx hb dX12_walk_52 ?_
      have h13 := chk_1 hf
      replace hf := chk_2 hf
      refine paI C hP (k := 1) (Nat.le_of_ble_eq_true rfl) (yd_1 _ _) h13 dX12_walk_53 ?_
      refine lv_goto (tgt := 70) hx hb dX12_walk_54 (by decide) ?_
      exact prI C hr hk hP hS hf dX12_walk_70
  · replace hf := ite_t c10 hf
    refine lv_bipush (v := (-2 : Int32)) hx hb dX12_walk_36 (by decide) ?_
    exact prI C hr hk hP hS hf dX12_walk_38
set_option maxHeartbeats 4000000 in
set_option maxRecDepth 100000 in
theorem w12_walk_0 {p : Program} {l : Launch} {e : Env} {s : State} {m : MethodId} {args : Array Value} {below : List Frame} {meth : Method} {c : Code} {z : Zt} {b : Nat}  (C : Cx p s m args c cX12_walk 2 RX12 z 32 b) (hr : meth.sig.returnType = (some .int)) (hk : meth.locks = false) {r : Int32} {M' : Mem} {rc : Nat → List Int32 → List Int64 → Mem → Option (Int32 × Mem)} {n : Nat}  {a1 : Int32} {M : Mem} {H : Heap} {locs : List Loc} {ls : Array Slot} (hf : b12_walk_0  rc n a1 M = some (r, M')) (hP : va_P z.1 vwCl (pw (yd z b) 32 b M) H) (hS : va_S (pA 32 b) s.heap H locs) (hl : lv_has ls 2 [(0, .ref (b + 0)), (1, .int a1)]) : W p l e rm12_walk s m args below meth c H locs 0 0 (MQ below (va_Qi (fun (r' : Int32) (M2 : Mem) => r' = r ∧ M2 = M') (fun M2 t => va_P z.1 vwCl (pw (yd z b) 32 b M2) t.heap) (pA 32 b)) args s 0 0 (pA 32 b)) (F0 m 0 ls []) := by
  have hx := C.1.1
  have hb := C.1.2.1
  unfold b12_walk_0 at hf
  refine lv_iload_n hx hb dX12_walk_0 rfl (lv_at hl 1 rfl) ?_
  refine lv_iconst (v := (0 : Int32)) hx hb dX12_walk_1 (by decide) ?_
  refine lv_bipush (v := (59 : Int32)) hx hb dX12_walk_2 (by decide) ?_
  obtain ⟨r1, M2, h3, hf⟩ := bnd_s hf
  refine pcSi (As := [.int a1, .int (0 : Int32), .int (59 : Int32)]) C hP hS (c12_in  h3) y12_in_w g_1306 rfl rfl rfl ⟨Nat.le_of_ble_eq_true rfl, Nat.le_of_ble_eq_true rfl⟩ hl.1 rfl (Nat.le_of_ble_eq_true rfl) dX12_walk_4 ⟨Nat.le_of_ble_eq_true rfl, Nat.le_of_ble_eq_true rfl⟩ (fun H locs hP hS => ?_)
  refine lv_if_ne (tgt := 23) hx hb dX12_walk_7 (by decide) (fun c4 => ?_) (fun c4 => ?_)
  · replace hf := ite_f c4 hf
    exact w12_walk_23 (n := n)  C hr hk  hf hP hS (lv_sub hl [0, 1] rfl)
  · replace hf := ite_t c4 hf
    refine lv_iload_n hx hb dX12_walk_10 rfl (lv_at hl 1 rfl) ?_
    refine lv_bipush (v := (100 : Int32)) hx hb dX12_walk_11 (by decide) ?_
    refine lv_bipush (v := (103 : Int32)) hx hb dX12_walk_13 (by decide) ?_
    obtain ⟨r5, M6, h7, hf⟩ := bnd_s hf
    refine pcSi (As := [.int a1, .int (100 : Int32), .int (103 : Int32)]) C hP hS (c12_in  h7) y12_in_w g_1306 rfl rfl rfl ⟨Nat.le_of_ble_eq_true rfl, Nat.le_of_ble_eq_true rfl⟩ hl.1 rfl (Nat.le_of_ble_eq_true rfl) dX12_walk_15 ⟨Nat.le_of_ble_eq_true rfl, Nat.le_of_ble_eq_true rfl⟩ (fun H locs hP hS => ?_)
    refine lv_if_ne (tgt := 23) hx hb dX12_walk_18 (by decide) (fun c8 => ?_) (fun c8 => ?_)
    · replace hf := ite_f c8 hf
      exact w12_walk_23 (n := n)  C hr hk  hf hP hS (lv_sub hl [0, 1] rfl)
    · replace hf := ite_t c8 hf
      refine lv_iconst (v := (-1 : Int32)) hx hb dX12_walk_21 (by decide) ?_
      exact prI C hr hk hP hS hf dX12_walk_22
theorem c12_walk {l : Launch} {z : Zt} {b n : Nat}  {a1 : Int32} {M M' : Mem} {r : Int32} (hf : f12_walk n  a1 M = some (r, M')) : CI l z (yd z b) 32 b yX12_walk cX12_walk 2 (some .int) rm12_walk [.ref (b + 0), .int a1] M M' r :=
  CI.ofW (lv := [(0, .ref (b + 0)), (1, .int a1)]) (by decide) (Nat.le_of_ble_eq_true rfl) rfl (fun p e s m args below meth c ls C hr hk hP hS hl => w12_walk_0 (n := n)  C hr hk  hf hP hS hl)
