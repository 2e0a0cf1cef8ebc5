-- BronzeKing.sure(I)I
theorem dX11_sure_0 : decode cX11_sure 0 = .ok (.iload_n 1, 1) := by decide +kernel
theorem dX11_sure_1 : decode cX11_sure 1 = .ok (.iconst 1, 1) := by decide +kernel
theorem dX11_sure_2 : decode cX11_sure 2 = .ok (.if_icmp .lt 9, 3) := by decide +kernel
theorem dX11_sure_5 : decode cX11_sure 5 = .ok (.iload_n 1, 1) := by decide +kernel
theorem dX11_sure_6 : decode cX11_sure 6 = .ok (.bipush 100, 2) := by decide +kernel
theorem dX11_sure_8 : decode cX11_sure 8 = .ok (.if_icmp .le 5, 3) := by decide +kernel
theorem dX11_sure_11 : decode cX11_sure 11 = .ok (.iconst (-1), 1) := by decide +kernel
theorem dX11_sure_12 : decode cX11_sure 12 = .ok (.ireturn, 1) := by decide +kernel
theorem dX11_sure_13 : decode cX11_sure 13 = .ok (.aload_n 0, 1) := by decide +kernel
theorem dX11_sure_14 : decode cX11_sure 14 = .ok (.getfield 51, 3) := by decide +kernel
theorem dX11_sure_17 : decode cX11_sure 17 = .ok (.aload_n 0, 1) := by decide +kernel
theorem dX11_sure_18 : decode cX11_sure 18 = .ok (.getfield 81, 3) := by decide +kernel
theorem dX11_sure_21 : decode cX11_sure 21 = .ok (.getfield 177, 3) := by decide +kernel
theorem dX11_sure_24 : decode cX11_sure 24 = .ok (.invokevirtual 180, 3) := by decide +kernel
theorem dX11_sure_27 : decode cX11_sure 27 = .ok (.aload_n 0, 1) := by decide +kernel
theorem dX11_sure_28 : decode cX11_sure 28 = .ok (.getfield 51, 3) := by decide +kernel
theorem dX11_sure_31 : decode cX11_sure 31 = .ok (.getfield 187, 3) := by decide +kernel
theorem dX11_sure_34 : decode cX11_sure 34 = .ok (.ifCond .ne 6, 3) := by decide +kernel
theorem dX11_sure_37 : decode cX11_sure 37 = .ok (.bipush (-2), 2) := by decide +kernel
theorem dX11_sure_39 : decode cX11_sure 39 = .ok (.ireturn, 1) := by decide +kernel
theorem dX11_sure_40 : decode cX11_sure 40 = .ok (.iconst 0, 1) := by decide +kernel
theorem dX11_sure_41 : decode cX11_sure 41 = .ok (.istore_n 2, 1) := by decide +kernel
theorem dX11_sure_42 : decode cX11_sure 42 = .ok (.iload_n 2, 1) := by decide +kernel
theorem dX11_sure_43 : decode cX11_sure 43 = .ok (.bipush 24, 2) := by decide +kernel
theorem dX11_sure_45 : decode cX11_sure 45 = .ok (.if_icmp .ge 38, 3) := by decide +kernel
theorem dX11_sure_48 : decode cX11_sure 48 = .ok (.aload_n 0, 1) := by decide +kernel
theorem dX11_sure_49 : decode cX11_sure 49 = .ok (.getfield 51, 3) := by decide +kernel
theorem dX11_sure_52 : decode cX11_sure 52 = .ok (.getfield 206, 3) := by decide +kernel
theorem dX11_sure_55 : decode cX11_sure 55 = .ok (.bipush 100, 2) := by decide +kernel
theorem dX11_sure_57 : decode cX11_sure 57 = .ok (.imul, 1) := by decide +kernel
theorem dX11_sure_58 : decode cX11_sure 58 = .ok (.iload_n 1, 1) := by decide +kernel
theorem dX11_sure_59 : decode cX11_sure 59 = .ok (.aload_n 0, 1) := by decide +kernel
theorem dX11_sure_60 : decode cX11_sure 60 = .ok (.getfield 51, 3) := by decide +kernel
theorem dX11_sure_63 : decode cX11_sure 63 = .ok (.getfield 187, 3) := by decide +kernel
theorem dX11_sure_66 : decode cX11_sure 66 = .ok (.imul, 1) := by decide +kernel
theorem dX11_sure_67 : decode cX11_sure 67 = .ok (.if_icmp .ge 16, 3) := by decide +kernel
theorem dX11_sure_70 : decode cX11_sure 70 = .ok (.aload_n 0, 1) := by decide +kernel
theorem dX11_sure_71 : decode cX11_sure 71 = .ok (.getfield 51, 3) := by decide +kernel
theorem dX11_sure_74 : decode cX11_sure 74 = .ok (.invokevirtual 200, 3) := by decide +kernel
theorem dX11_sure_77 : decode cX11_sure 77 = .ok (.iinc 2 1, 3) := by decide +kernel
theorem dX11_sure_80 : decode cX11_sure 80 = .ok (.goto (-38), 3) := by decide +kernel
theorem dX11_sure_83 : decode cX11_sure 83 = .ok (.iload_n 2, 1) := by decide +kernel
theorem dX11_sure_84 : decode cX11_sure 84 = .ok (.ireturn, 1) := by decide +kernel
def b11_sure_11 (rc : Nat → List Int32 → List Int64 → Mem → Option (Int32 × Mem)) (n : Nat) (M : Mem) : Option (Int32 × Mem) :=
  some ((-1 : Int32), M)
def b11_sure_83 (rc : Nat → List Int32 → List Int64 → Mem → Option (Int32 × Mem)) (n : Nat) (i2 : Int32) (M : Mem) : Option (Int32 × Mem) :=
  some (i2, M)
def b11_sure_42 (rc : Nat → List Int32 → List Int64 → Mem → Option (Int32 × Mem)) (n : Nat) (i1 : Int32) (i2 : Int32) (M : Mem) : Option (Int32 × Mem) :=
  (if (24 : Int32) ≤ i2 then (
   b11_sure_83  rc n i2 M)
  else (
   (if (i1 * (M.1 25 5)) ≤ ((M.1 25 7) * (100 : Int32)) then (
    b11_sure_83  rc n i2 M)
   else (
    bnd (f9_pickHeaviest n M) fun r9 M10 =>
    lt (i2 + (1 : Int32)) fun v12 =>
    rc 42 [i1, v12] [] M10))))
def b11_sure_0 (rc : Nat → List Int32 → List Int64 → Mem → Option (Int32 × Mem)) (n : Nat) (a1 : Int32) (M : Mem) : Option (Int32 × Mem) :=
  (if a1 < (1 : Int32) then (
   b11_sure_11  rc n  M)
  else (
   (if a1 ≤ (100 : Int32) then (
    bnd (f9_weigh n (M.1 330 2) M) fun r3 M4 =>
    (if (M4.1 25 5) = 0 then (
     some ((-2 : Int32), M4))
    else (
     b11_sure_42  rc n a1 (0 : Int32) M4)))
   else (
    b11_sure_11  rc n  M))))
def r11_sure : Nat → Nat → List Int32 → List Int64 → Mem → Option (Int32 × Mem)
  | 0 => fun _ _ _ _ => none
  | n + 1 => fun pc li lj M =>
    if pc = 42 then (match li, lj with | [i1, i2], [] => b11_sure_42  (r11_sure  n) n i1 i2 M | _, _ => none) else
    none
theorem e11_sure_42  (n : Nat) (i1 : Int32) (i2 : Int32) (M : Mem) : r11_sure  (n + 1) 42 [i1, i2] [] M = b11_sure_42  (r11_sure  n) n i1 i2 M := by
  rw [r11_sure]
  simp
def f11_sure (n : Nat) (a1 : Int32) (M : Mem) : Option (Int32 × Mem) := b11_sure_0 (r11_sure n) n a1 M
abbrev rm11_sure : Room := { frames := 5, cells := 0, slots := 0, locals := 116 }
theorem y11_sure_w : yV RX11 yX11_sure cX11_sure 3 (some .int) 1 := ⟨g_852, g_853, g_1, g_854, rfl, by decide, by decide, by decide +kernel⟩
set_option maxHeartbeats 4000000 in
set_option maxRecDepth 100000 in
theorem w11_sure_11 {p : Program} {l : Launch} {e : Env} {s : State} {m : MethodId} {args : Array Value} {below : List Frame} {meth : Method} {c : Code} {z : Zt} {b : Nat}  (C : Cx p s m args c cX11_sure 3 RX11 z 339 b) (hr : meth.sig.returnType = (some .int)) (hk : meth.locks = false) {r : Int32} {M' : Mem} {rc : Nat → List Int32 → List Int64 → Mem → Option (Int32 × Mem)} {n : Nat} (q42 : ∀ (i1 : Int32) (i2 : Int32) (M : Mem) (H : Heap) (locs : List Loc) (ls : Array Slot), rc 42 [i1, i2] [] M = some (r, M') → va_P z.1 vwCl (pw (xd z b) 339 b M) H → va_S (pA 339 b) s.heap H locs → lv_has ls 3 [(0, .ref (b + 0)), (1, .int i1), (2, .int i2)] → W p l e rm11_sure s m args below meth c H locs 0 0 (MQ below (va_Qi (fun (r' : Int32) (M2 : Mem) => r' = r ∧ M2 = M') (fun M2 t => va_P z.1 vwCl (pw (xd z b) 339 b M2) t.heap) (pA 339 b)) args s 0 0 (pA 339 b)) (F0 m 42 ls []))  {M : Mem} {H : Heap} {locs : List Loc} {ls : Array Slot} (hf : b11_sure_11  rc n  M = some (r, M')) (hP : va_P z.1 vwCl (pw (xd z b) 339 b M) H) (hS : va_S (pA 339 b) s.heap H locs) (hl : lv_has ls 3 []) : W p l e rm11_sure s m args below meth c H locs 0 0 (MQ below (va_Qi (fun (r' : Int32) (M2 : Mem) => r' = r ∧ M2 = M') (fun M2 t => va_P z.1 vwCl (pw (xd z b) 339 b M2) t.heap) (pA 339 b)) args s 0 0 (pA 339 b)) (F0 m 11 ls []) := by
  have hx := C.1.1
  have hb := C.1.2.1
  unfold b11_sure_11 at hf
  refine lv_iconst (v := (-1 : Int32)) hx hb dX11_sure_11 (by decide) ?_
  exact prI C hr hk hP hS hf dX11_sure_12
set_option maxHeartbeats 4000000 in
set_option maxRecDepth 100000 in
theorem w11_sure_83 {p : Program} {l : Launch} {e : Env} {s : State} {m : MethodId} {args : Array Value} {below : List Frame} {meth : Method} {c : Code} {z : Zt} {b : Nat}  (C : Cx p s m args c cX11_sure 3 RX11 z 339 b) (hr : meth.sig.returnType = (some .int)) (hk : meth.locks = false) {r : Int32} {M' : Mem} {rc : Nat → List Int32 → List Int64 → Mem → Option (Int32 × Mem)} {n : Nat} (q42 : ∀ (i1 : Int32) (i2 : Int32) (M : Mem) (H : Heap) (locs : List Loc) (ls : Array Slot), rc 42 [i1, i2] [] M = some (r, M') → va_P z.1 vwCl (pw (xd z b) 339 b M) H → va_S (pA 339 b) s.heap H locs → lv_has ls 3 [(0, .ref (b + 0)), (1, .int i1), (2, .int i2)] → W p l e rm11_sure s m args below meth c H locs 0 0 (MQ below (va_Qi (fun (r' : Int32) (M2 : Mem) => r' = r ∧ M2 = M') (fun M2 t => va_P z.1 vwCl (pw (xd z b) 339 b M2) t.heap) (pA 339 b)) args s 0 0 (pA 339 b)) (F0 m 42 ls [])) {i2 : Int32} {M : Mem} {H : Heap} {locs : List Loc} {ls : Array Slot} (hf : b11_sure_83  rc n i2 M = some (r, M')) (hP : va_P z.1 vwCl (pw (xd z b) 339 b M) H) (hS : va_S (pA 339 b) s.heap H locs) (hl : lv_has ls 3 [(2, .int i2)]) : W p l e rm11_sure s m args below meth c H locs 0 0 (MQ below (va_Qi (fun (r' : Int32) (M2 : Mem) => r' = r ∧ M2 = M') (fun M2 t => va_P z.1 vwCl (pw (xd z b) 339 b M2) t.heap) (pA 339 b)) args s 0 0 (pA 339 b)) (F0 m 83 ls []) := by
  have hx := C.1.1
  have hb := C.1.2.1
  unfold b11_sure_83 at hf
  refine lv_iload_n hx hb dX11_sure_83 rfl (lv_at hl 0 rfl) ?_
  exact prI C hr hk hP hS hf dX11_sure_84
set_option maxHeartbeats 4000000 in
set_option maxRecDepth 100000 in
theorem w11_sure_42 {p : Program} {l : Launch} {e : Env} {s : State} {m : MethodId} {args : Array Value} {below : List Frame} {meth : Method} {c : Code} {z : Zt} {b : Nat}  (C : Cx p s m args c cX11_sure 3 RX11 z 339 b) (hr : meth.sig.returnType = (some .int)) (hk : meth.locks = false) {r : Int32} {M' : Mem} {rc : Nat → List Int32 → List Int64 → Mem → Option (Int32 × Mem)} {n : Nat} (q42 : ∀ (i1 : Int32) (i2 : Int32) (M : Mem) (H : Heap) (locs : List Loc) (ls : Array Slot), rc 42 [i1, i2] [] M = some (r, M') → va_P z.1 vwCl (pw (xd z b) 339 b M) H → va_S (pA 339 b) s.heap H locs → lv_has ls 3 [(0, .ref (b + 0)), (1, .int i1), (2, .int i2)] → W p l e rm11_sure s m args below meth c H locs 0 0 (MQ below (va_Qi (fun (r' : Int32) (M2 : Mem) => r' = r ∧ M2 = M') (fun M2 t => va_P z.1 vwCl (pw (xd z b) 339 b M2) t.heap) (pA 339 b)) args s 0 0 (pA 339 b)) (F0 m 42 ls [])) {i1 : Int32} {i2 : Int32} {M : Mem} {H : Heap} {locs : List Loc} {ls : Array Slot} (hf : b11_sure_42  rc n i1 i2 M = some (r, M')) (hP : va_P z.1 vwCl (pw (xd z b) 339 b M) H) (hS : va_S (pA 339 b) s.heap H locs) (hl : lv_has ls 3 [(0, .ref (b + 0)), (1, .int i1), (2, .int i2)]) : W p l e rm11_sure s m args below meth c H locs 0 0 (MQ below (va_Qi (fun (r' : Int32) (M2 : Mem) => r' = r ∧ M2 = M') (fun M2 t => va_P z.1 vwCl (pw (xd z b) 339 b M2) t.heap) (pA 339 b)) args s 0 0 (pA 339 b)) (F0 m 42 ls []) := by
  have hx := C.1.1
  have hb := C.1.2.1
  unfold b11_sure_42 at hf
  refine lv_iload_n hx hb dX11_sure_42 rfl (lv_at hl 2 rfl) ?_
  refine lv_bipush (v := (24 : Int32)) hx hb dX11_sure_43 (by decide) ?_
  refine lv_icmp_ge (tgt := 83) hx hb dX11_sure_45 (by decide) (fun c7 => ?_) (fun c7 => ?_)
  · replace hf := ite_t c7 hf
    exact w11_sure_83 (n := n)  C hr hk q42 hf hP hS (lv_sub hl [2] rfl)
  · replace hf := ite_f c7 hf
    refine lv_aload_n hx hb dX11_sure_48 rfl (lv_at hl 0 rfl) ?_
    refine pg C hP (k := 0) (j := 5) (Nat.le_of_ble_eq_true rfl) (xd_0 _ _) rfl iw_11 (Nat.le_of_ble_eq_true rfl) g_425 rfl rfl dX11_sure_49 ?_
    refine pgN C hP (k := 25) (j := 7) (Nat.le_of_ble_eq_true rfl) (xd_25 _ _) rfl iw_9 (Nat.le_of_ble_eq_true rfl) g_226 rfl rfl dX11_sure_52 ?_
    refine lv_bipush (v := (100 : Int32)) hx hb dX11_sure_55 (by decide) ?_
    refine lv_imul hx hb dX11_sure_57 ?_
    refine lv_iload_n hx hb dX11_sure_58 rfl (lv_at hl 1 rfl) ?_
    refine lv_aload_n hx hb dX11_sure_59 rfl (lv_at hl 0 rfl) ?_
    refine pg C hP (k := 0) (j := 5) (Nat.le_of_ble_eq_true rfl) (xd_0 _ _) rfl iw_11 (Nat.le_of_ble_eq_true rfl) g_425 rfl rfl dX11_sure_60 ?_
    refine pgN C hP (k := 25) (j := 5) (Nat.le_of_ble_eq_true rfl) (xd_25 _ _) rfl iw_9 (Nat.le_of_ble_eq_true rfl) g_222 rfl rfl dX11_sure_63 ?_
    refine lv_imul hx hb dX11_sure_66 ?_
    refine lv_icmp_ge (tgt := 83) hx hb dX11_sure_67 (by decide) (fun c8 => ?_) (fun c8 => ?_)
    · replace hf := ite_t c8 hf
      exact w11_sure_83 (n := n)  C hr hk q42 hf hP hS (lv_sub hl [2] rfl)
    · replace hf := ite_f c8 hf
      refine lv_aload_n hx hb dX11_sure_70 rfl (lv_at hl 0 rfl) ?_
      refine pg C hP (k := 0) (j := 5) (Nat.le_of_ble_eq_true rfl) (xd_0 _ _) rfl iw_11 (Nat.le_of_ble_eq_true rfl) g_425 rfl rfl dX11_sure_71 ?_
      obtain ⟨r9, M10, h11, hf⟩ := bnd_s hf
      refine pcVv (As := []) C hP hS (k := 25) (Nat.le_of_ble_eq_true rfl) (xd_25 _ _) rfl (c9_pickHeaviest  h11) y9_pickHeaviest_w g_847 rfl rfl rfl ⟨Nat.le_of_ble_eq_true rfl, Nat.le_of_ble_eq_true rfl⟩ hl.1 rfl (Nat.le_of_ble_eq_true rfl) dX11_sure_74 ⟨Nat.le_of_ble_eq_true rfl, Nat.le_of_ble_eq_true rfl⟩ (fun H locs hP hS => ?_)
      obtain ⟨v12, ev12⟩ : ∃ v : Int32, v = i2 + (1 : Int32) := ⟨_, rfl⟩
      replace hf := lt_c ev12 hf
      refine lv_iinc (v := v12) (lv' := [(2, .int v12), (0, .ref (b + 0)), (1, .int i1)]) hx hb dX11_sure_77 hl (k := 2) rfl (by rw [ev12]; rfl) (by decide) rfl (fun ls hl => ?_)
      refine lv_goto (tgt := 42) hx hb dX11_sure_80 (by decide) ?_
      exact q42 i1 v12 M10 _ _ _ hf hP hS (lv_sub hl [1, 2, 0] rfl)
set_option maxHeartbeats 4000000 in
set_option maxRecDepth 100000 in
theorem w11_sure_0 {p : Program} {l : Launch} {e : Env} {s : State} {m : MethodId} {args : Array Value} {below : List Frame} {meth : Method} {c : Code} {z : Zt} {b : Nat}  (C : Cx p s m args c cX11_sure 3 RX11 z 339 b) (hr : meth.sig.returnType = (some .int)) (hk : meth.locks = false) {r : Int32} {M' : Mem} {rc : Nat → List Int32 → List Int64 → Mem → Option (Int32 × Mem)} {n : Nat} (q42 : ∀ (i1 : Int32) (i2 : Int32) (M : Mem) (H : Heap) (locs : List Loc) (ls : Array Slot), rc 42 [i1, i2] [] M = some (r, M') → va_P z.1 vwCl (pw (xd z b) 339 b M) H → va_S (pA 339 b) s.heap H locs → lv_has ls 3 [(0, .ref (b + 0)), (1, .int i1), (2, .int i2)] → W p l e rm11_sure s m args below meth c H locs 0 0 (MQ below (va_Qi (fun (r' : Int32) (M2 : Mem) => r' = r ∧ M2 = M') (fun M2 t => va_P z.1 vwCl (pw (xd z b) 339 b M2) t.heap) (pA 339 b)) args s 0 0 (pA 339 b)) (F0 m 42 ls [])) {a1 : Int32} {M : Mem} {H : Heap} {locs : List Loc} {ls : Array Slot} (hf : b11_sure_0  rc n a1 M = some (r, M')) (hP : va_P z.1 vwCl (pw (xd z b) 339 b M) H) (hS : va_S (pA 339 b) s.heap H locs) (hl : lv_has ls 3 [(0, .ref (b + 0)), (1, .int a1)]) : W p l e rm11_sure s m args below meth c H locs 0 0 (MQ below (va_Qi (fun (r' : Int32) (M2 : Mem) => r' = r ∧ M2 = M') (fun M2 t => va_P z.1 vwCl (pw (xd z b) 339 b M2) t.heap) (pA 339 b)) args s 0 0 (pA 339 b)) (F0 m 0 ls []) := by
  have hx := C.1.1
  have hb := C.1.2.1
  unfold b11_sure_0 at hf
  refine lv_iload_n hx hb dX11_sure_0 rfl (lv_at hl 1 rfl) ?_
  refine lv_iconst (v := (1 : Int32)) hx hb dX11_sure_1 (by decide) ?_
  refine lv_icmp_lt (tgt := 11) hx hb dX11_sure_2 (by decide) (fun c1 => ?_) (fun c1 => ?_)
  · replace hf := ite_t c1 hf
    exact w11_sure_11 (n := n)  C hr hk q42 hf hP hS (lv_sub hl [] rfl)
  · replace hf := ite_f c1 hf
    refine lv_iload_n hx hb dX11_sure_5 rfl (lv_at hl 1 rfl) ?_
    refine lv_bipush (v := (100 : Int32)) hx hb dX11_sure_6 (by decide) ?_
    refine lv_icmp_le (tgt := 13) hx hb dX11_sure_8 (by decide) (fun c2 => ?_) (fun c2 => ?_)
    · replace hf := ite_t c2 hf
      refine lv_aload_n hx hb dX11_sure_13 rfl (lv_at hl 0 rfl) ?_
      refine pg C hP (k := 0) (j := 5) (Nat.le_of_ble_eq_true rfl) (xd_0 _ _) rfl iw_11 (Nat.le_of_ble_eq_true rfl) g_425 rfl rfl dX11_sure_14 ?_
      refine lv_aload_n hx hb dX11_sure_17 rfl (lv_at hl 0 rfl) ?_
      refine pg C hP (k := 0) (j := 9) (Nat.le_of_ble_eq_true rfl) (xd_0 _ _) rfl iw_11 (Nat.le_of_ble_eq_true rfl) g_429 rfl rfl dX11_sure_18 ?_
      refine pgN C hP (k := 330) (j := 2) (co_lt co_330) ((co_d co_330) _ _) rfl iw_0 (Nat.le_of_ble_eq_true rfl) g_361 rfl rfl dX11_sure_21 ?_
      obtain ⟨r3, M4, h5, hf⟩ := bnd_s hf
      refine pcVv (As := [.int (M.1 330 2)]) C hP hS (k := 25) (Nat.le_of_ble_eq_true rfl) (xd_25 _ _) rfl (c9_weigh  h5) y9_weigh_w g_830 rfl rfl rfl ⟨Nat.le_of_ble_eq_true rfl, Nat.le_of_ble_eq_true rfl⟩ hl.1 rfl (Nat.le_of_ble_eq_true rfl) dX11_sure_24 ⟨Nat.le_of_ble_eq_true rfl, Nat.le_of_ble_eq_true rfl⟩ (fun H locs hP hS => ?_)
      refine lv_aload_n hx hb dX11_sure_27 rfl (lv_at hl 0 rfl) ?_
      refine pg C hP (k := 0) (j := 5) (Nat.le_of_ble_eq_true rfl) (xd_0 _ _) rfl iw_11 (Nat.le_of_ble_eq_true rfl) g_425 rfl rfl dX11_sure_28 ?_
      refine pgN C hP (k := 25) (j := 5) (Nat.le_of_ble_eq_true rfl) (xd_25 _ _) rfl iw_9 (Nat.le_of_ble_eq_true rfl) g_222 rfl rfl dX11_sure_31 ?_
      refine lv_if_ne (tgt := 40) hx hb dX11_sure_34 (by decide) (fun c6 => ?_) (fun c6 => ?_)
      · replace hf := ite_f c6 hf
        refine lv_iconst (v := (0 : Int32)) hx hb dX11_sure_40 (by decide) ?_
        refine lv_istore_n (lv' := [(2, .int (0 : Int32)), (0, .ref (b + 0)), (1, .int a1)]) hx hb dX11_sure_41 rfl hl (by decide) rfl (fun ls hl => ?_)
        exact w11_sure_42 (n := n)  C hr hk q42 hf hP hS (lv_sub hl [1, 2, 0] rfl)
      · replace hf := ite_t c6 hf
        refine lv_bipush (v := (-2 : Int32)) hx hb dX11_sure_37 (by decide) ?_
        exact prI C hr hk hP hS hf dX11_sure_39
    · replace hf := ite_f c2 hf
      exact w11_sure_11 (n := n)  C hr hk q42 hf hP hS (lv_sub hl [] rfl)
set_option maxHeartbeats 4000000 in
set_option maxRecDepth 100000 in
theorem l11_sure {p : Program} {l : Launch} {e : Env} {s : State} {m : MethodId} {args : Array Value} {below : List Frame} {meth : Method} {c : Code} {z : Zt} {b : Nat}  (C : Cx p s m args c cX11_sure 3 RX11 z 339 b) (hr : meth.sig.returnType = (some .int)) (hk : meth.locks = false) {r : Int32} {M' : Mem} (n : Nat) : (∀ (i1 : Int32) (i2 : Int32) (M : Mem) (H : Heap) (locs : List Loc) (ls : Array Slot), (r11_sure  n) 42 [i1, i2] [] M = some (r, M') → va_P z.1 vwCl (pw (xd z b) 339 b M) H → va_S (pA 339 b) s.heap H locs → lv_has ls 3 [(0, .ref (b + 0)), (1, .int i1), (2, .int i2)] → W p l e rm11_sure s m args below meth c H locs 0 0 (MQ below (va_Qi (fun (r' : Int32) (M2 : Mem) => r' = r ∧ M2 = M') (fun M2 t => va_P z.1 vwCl (pw (xd z b) 339 b M2) t.heap) (pA 339 b)) args s 0 0 (pA 339 b)) (F0 m 42 ls [])) := by
  induction n with
  | zero => exact fun _ _ _ _ _ _ hf => (by cases hf)
  | succ n ih => exact fun _ _ _ _ _ _ hf hP hS hl => w11_sure_42 (n := n)  C hr hk ih ((e11_sure_42  n _ _ _).symm.trans hf) hP hS hl
theorem c11_sure {l : Launch} {z : Zt} {b n : Nat}  {a1 : Int32} {M M' : Mem} {r : Int32} (hf : f11_sure n  a1 M = some (r, M')) : CI l z (xd z b) 339 b yX11_sure cX11_sure 3 (some .int) rm11_sure [.ref (b + 0), .int a1] M M' r :=
  CI.ofW (lv := [(0, .ref (b + 0)), (1, .int a1)]) (by decide) (Nat.le_of_ble_eq_true rfl) rfl (fun p e s m args below meth c ls C hr hk hP hS hl => w11_sure_0 (n := n)  C hr hk (l11_sure  C hr hk n) hf hP hS hl)

-- BronzeKing.walk(I)I
theorem dX11_walk_0 : decode cX11_walk 0 = .ok (.iload_n 1, 1) := by decide +kernel
theorem dX11_walk_1 : decode cX11_walk 1 = .ok (.ifCond .lt 13, 3) := by decide +kernel
theorem dX11_walk_4 : decode cX11_walk 4 = .ok (.iload_n 1, 1) := by decide +kernel
theorem dX11_walk_5 : decode cX11_walk 5 = .ok (.bipush 60, 2) := by decide +kernel
theorem dX11_walk_7 : decode cX11_walk 7 = .ok (.if_icmp .ge 7, 3) := by decide +kernel
theorem dX11_walk_10 : decode cX11_walk 10 = .ok (.iconst 1, 1) := by decide +kernel
theorem dX11_walk_11 : decode cX11_walk 11 = .ok (.goto 4, 3) := by decide +kernel
theorem dX11_walk_14 : decode cX11_walk 14 = .ok (.iconst 0, 1) := by decide +kernel
theorem dX11_walk_15 : decode cX11_walk 15 = .ok (.istore_n 2, 1) := by decide +kernel
theorem dX11_walk_16 : decode cX11_walk 16 = .ok (.iload_n 2, 1) := by decide +kernel
theorem dX11_walk_17 : decode cX11_walk 17 = .ok (.ifCond .ne 17, 3) := by decide +kernel
theorem dX11_walk_20 : decode cX11_walk 20 = .ok (.iload_n 1, 1) := by decide +kernel
theorem dX11_walk_21 : decode cX11_walk 21 = .ok (.bipush 100, 2) := by decide +kernel
theorem dX11_walk_23 : decode cX11_walk 23 = .ok (.if_icmp .lt 9, 3) := by decide +kernel
theorem dX11_walk_26 : decode cX11_walk 26 = .ok (.iload_n 1, 1) := by decide +kernel
theorem dX11_walk_27 : decode cX11_walk 27 = .ok (.bipush 103, 2) := by decide +kernel
theorem dX11_walk_29 : decode cX11_walk 29 = .ok (.if_icmp .le 5, 3) := by decide +kernel
theorem dX11_walk_32 : decode cX11_walk 32 = .ok (.iconst (-1), 1) := by decide +kernel
theorem dX11_walk_33 : decode cX11_walk 33 = .ok (.ireturn, 1) := by decide +kernel
theorem dX11_walk_34 : decode cX11_walk 34 = .ok (.aload_n 0, 1) := by decide +kernel
theorem dX11_walk_35 : decode cX11_walk 35 = .ok (.getfield 81, 3) := by decide +kernel
theorem dX11_walk_38 : decode cX11_walk 38 = .ok (.getfield 150, 3) := by decide +kernel
theorem dX11_walk_41 : decode cX11_walk 41 = .ok (.ifCond .ge 6, 3) := by decide +kernel
theorem dX11_walk_44 : decode cX11_walk 44 = .ok (.bipush (-2), 2) := by decide +kernel
theorem dX11_walk_46 : decode cX11_walk 46 = .ok (.ireturn, 1) := by decide +kernel
theorem dX11_walk_47 : decode cX11_walk 47 = .ok (.iload_n 2, 1) := by decide +kernel
theorem dX11_walk_48 : decode cX11_walk 48 = .ok (.ifCond .eq 13, 3) := by decide +kernel
theorem dX11_walk_51 : decode cX11_walk 51 = .ok (.aload_n 0, 1) := by decide +kernel
theorem dX11_walk_52 : decode cX11_walk 52 = .ok (.getfield 81, 3) := by decide +kernel
theorem dX11_walk_55 : decode cX11_walk 55 = .ok (.getfield 209, 3) := by decide +kernel
theorem dX11_walk_58 : decode cX11_walk 58 = .ok (.iload_n 1, 1) := by decide +kernel
theorem dX11_walk_59 : decode cX11_walk 59 = .ok (.iaload, 1) := by decide +kernel
theorem dX11_walk_60 : decode cX11_walk 60 = .ok (.ireturn, 1) := by decide +kernel
theorem dX11_walk_61 : decode cX11_walk 61 = .ok (.iload_n 1, 1) := by decide +kernel
theorem dX11_walk_62 : decode cX11_walk 62 = .ok (.tableswitch 50 100 102 #[26, 34, 42], 26) := by decide +kernel
theorem dX11_walk_88 : decode cX11_walk 88 = .ok (.aload_n 0, 1) := by decide +kernel
theorem dX11_walk_89 : decode cX11_walk 89 = .ok (.getfield 81, 3) := by decide +kernel
theorem dX11_walk_92 : decode cX11_walk 92 = .ok (.getfield 150, 3) := by decide +kernel
theorem dX11_walk_95 : decode cX11_walk 95 = .ok (.ireturn, 1) := by decide +kernel
theorem dX11_walk_96 : decode cX11_walk 96 = .ok (.aload_n 0, 1) := by decide +kernel
theorem dX11_walk_97 : decode cX11_walk 97 = .ok (.getfield 81, 3) := by decide +kernel
theorem dX11_walk_100 : decode cX11_walk 100 = .ok (.getfield 144, 3) := by decide +kernel
theorem dX11_walk_103 : decode cX11_walk 103 = .ok (.ireturn, 1) := by decide +kernel
theorem dX11_walk_104 : decode cX11_walk 104 = .ok (.aload_n 0, 1) := by decide +kernel
theorem dX11_walk_105 : decode cX11_walk 105 = .ok (.getfield 81, 3) := by decide +kernel
theorem dX11_walk_108 : decode cX11_walk 108 = .ok (.getfield 153, 3) := by decide +kernel
theorem dX11_walk_111 : decode cX11_walk 111 = .ok (.ireturn, 1) := by decide +kernel
theorem dX11_walk_112 : decode cX11_walk 112 = .ok (.aload_n 0, 1) := by decide +kernel
theorem dX11_walk_113 : decode cX11_walk 113 = .ok (.getfield 81, 3) := by decide +kernel
theorem dX11_walk_116 : decode cX11_walk 116 = .ok (.getfield 212, 3) := by decide +kernel
theorem dX11_walk_119 : decode cX11_walk 119 = .ok (.ireturn, 1) := by decide +kernel
def b11_walk_34 (rc : Nat → List Int32 → List Int64 → Mem → Option (Int32 × Mem)) (n : Nat) (i1 : Int32) (i2 : Int32) (M : Mem) : Option (Int32 × Mem) :=
  (if 0 ≤ (M.1 330 4) then (
   (if i2 = 0 then (
    (if i1 = (100 : Int32) then (
     some ((M.1 330 4), M))
    else (
     (if i1 = (101 : Int32) then (
      some ((M.1 330 5), M))
     else (
      (if i1 = (102 : Int32) then (
       some ((M.1 330 6), M))
      else (
       some ((M.1 330 7), M))))))))
   else (
    chk (inb i1 60) <|
    some ((M.1 (330 + 2) i1.toNatClampNeg), M))))
  else (
   some ((-2 : Int32), M)))
def b11_walk_32 (rc : Nat → List Int32 → List Int64 → Mem → Option (Int32 × Mem)) (n : Nat) (M : Mem) : Option (Int32 × Mem) :=
  some ((-1 : Int32), M)
def b11_walk_15 (rc : Nat → List Int32 → List Int64 → Mem → Option (Int32 × Mem)) (n : Nat) (i1 : Int32) (s0 : Int32) (M : Mem) : Option (Int32 × Mem) :=
  (if s0 = 0 then (
   (if i1 < (100 : Int32) then (
    b11_walk_32  rc n  M)
   else (
    (if i1 ≤ (103 : Int32) then (
     b11_walk_34  rc n i1 s0 M)
    else (
     b11_walk_32  rc n  M)))))
  else (
   b11_walk_34  rc n i1 s0 M))
def b11_walk_14 (rc : Nat → List Int32 → List Int64 → Mem → Option (Int32 × Mem)) (n : Nat) (i1 : Int32) (M : Mem) : Option (Int32 × Mem) :=
  b11_walk_15  rc n i1 (0 : Int32) M
def b11_walk_0 (rc : Nat → List Int32 → List Int64 → Mem → Option (Int32 × Mem)) (n : Nat) (a1 : Int32) (M : Mem) : Option (Int32 × Mem) :=
  (if a1 < 0 then (
   b11_walk_14  rc n a1 M)
  else (
   (if (60 : Int32) ≤ a1 then (
    b11_walk_14  rc n a1 M)
   else (
    b11_walk_15  rc n a1 (1 : Int32) M))))
def f11_walk (n : Nat) (a1 : Int32) (M : Mem) : Option (Int32 × Mem) := b11_walk_0 (fun _ _ _ _ => none) n a1 M
abbrev rm11_walk : Room := { frames := 0, cells := 0, slots := 0, locals := 0 }
theorem y11_walk_w : yV RX11 yX11_walk cX11_walk 3 (some .int) 1 := ⟨g_856, g_857, g_1, g_858, rfl, by decide, by decide, by decide +kernel⟩
set_option maxHeartbeats 4000000 in
set_option maxRecDepth 100000 in
theorem w11_walk_34 {p : Program} {l : Launch} {e : Env} {s : State} {m : MethodId} {args : Array Value} {below : List Frame} {meth : Method} {c : Code} {z : Zt} {b : Nat}  (C : Cx p s m args c cX11_walk 3 RX11 z 339 b) (hr : meth.sig.returnType = (some .int)) (hk : meth.locks = false) {r : Int32} {M' : Mem} {rc : Nat → List Int32 → List Int64 → Mem → Option (Int32 × Mem)} {n : Nat}  {i1 : Int32} {i2 : Int32} {M : Mem} {H : Heap} {locs : List Loc} {ls : Array Slot} (hf : b11_walk_34  rc n i1 i2 M = some (r, M')) (hP : va_P z.1 vwCl (pw (xd z b) 339 b M) H) (hS : va_S (pA 339 b) s.heap H locs) (hl : lv_has ls 3 [(0, .ref (b + 0)), (1, .int i1), (2, .int i2)]) : W p l e rm11_walk s m args below meth c H locs 0 0 (MQ below (va_Qi (fun (r' : Int32) (M2 : Mem) => r' = r ∧ M2 = M') (fun M2 t => va_P z.1 vwCl (pw (xd z b) 339 b M2) t.heap) (pA 339 b)) args s 0 0 (pA 339 b)) (F0 m 34 ls []) := by
  have hx := C.1.1
  have hb := C.1.2.1
  unfold b11_walk_34 at hf
  refine lv_aload_n hx hb dX11_walk_34 rfl (lv_at hl 0 rfl) ?_
  refine pg C hP (k := 0) (j := 9) (Nat.le_of_ble_eq_true rfl) (xd_0 _ _) rfl iw_11 (Nat.le_of_ble_eq_true rfl) g_429 rfl rfl dX11_walk_35 ?_
  refine pgN C hP (k := 330) (j := 4) (co_lt co_330) ((co_d co_330) _ _) rfl iw_0 (Nat.le_of_ble_eq_true rfl) g_366 rfl rfl dX11_walk_38 ?_
  refine lv_if_ge (tgt := 47) hx hb dX11_walk_41 (by decide) (fun c6 => ?_) (fun c6 => ?_)
  · replace hf := ite_t c6 hf
    refine lv_iload_n hx hb dX11_walk_47 rfl (lv_at hl 2 rfl) ?_
    refine lv_if_eq (tgt := 61) hx hb dX11_walk_48 (by decide) (fun c7 => ?_) (fun c7 => ?_)
    · replace hf := ite_t c7 hf
      refine lv_iload_n hx hb dX11_walk_61 rfl (lv_at hl 1 rfl) ?_
      by_cases c8 : i1 = (100 : Int32)
      · replace hf := ite_t c8 hf
        refine lv_tableIn (off := 26) (tgt := 88) hx hb dX11_walk_62 (by rw [c8]; decide) (by rw [c8]; decide) (by rw [c8]; rfl) (by decide) ?_
        refine lv_aload_n hx hb dX11_walk_88 rfl (lv_at hl 0 rfl) ?_
        refine pg C hP (k := 0) (j := 9) (Nat.le_of_ble_eq_true rfl) (xd_0 _ _) rfl iw_11 (Nat.le_of_ble_eq_true rfl) g_429 rfl rfl dX11_walk_89 ?_
        refine pgN C hP (k := 330) (j := 4) (co_lt co_330) ((co_d co_330) _ _) rfl iw_0 (Nat.le_of_ble_eq_true rfl) g_366 rfl rfl dX11_walk_92 ?_
        exact prI C hr hk hP hS hf dX11_walk_95
      · replace hf := ite_f c8 hf
        by_cases c9 : i1 = (101 : Int32)
        · replace hf := ite_t c9 hf
          refine lv_tableIn (off := 34) (tgt := 96) hx hb dX11_walk_62 (by rw [c9]; decide) (by rw [c9]; decide) (by rw [c9]; rfl) (by decide) ?_
          refine lv_aload_n hx hb dX11_walk_96 rfl (lv_at hl 0 rfl) ?_
          refine pg C hP (k := 0) (j := 9) (Nat.le_of_ble_eq_true rfl) (xd_0 _ _) rfl iw_11 (Nat.le_of_ble_eq_true rfl) g_429 rfl rfl dX11_walk_97 ?_
          refine pgN C hP (k := 330) (j := 5) (co_lt co_330) ((co_d co_330) _ _) rfl iw_0 (Nat.le_of_ble_eq_true rfl) g_369 rfl rfl dX11_walk_100 ?_
          exact prI C hr hk hP hS hf dX11_walk_103
        · replace hf := ite_f c9 hf
          by_cases c10 : i1 = (102 : Int32)
          · replace hf := ite_t c10 hf
            refine lv_tableIn (off := 42) (tgt := 104) hx hb dX11_walk_62 (by rw [c10]; decide) (by rw [c10]; decide) (by rw [c10]; rfl) (by decide) ?_
            refine lv_aload_n hx hb dX11_walk_104 rfl (lv_at hl 0 rfl) ?_
            refine pg C hP (k := 0) (j := 9) (Nat.le_of_ble_eq_true rfl) (xd_0 _ _) rfl iw_11 (Nat.le_of_ble_eq_true rfl) g_429 rfl rfl dX11_walk_105 ?_
            refine pgN C hP (k := 330) (j := 6) (co_lt co_330) ((co_d co_330) _ _) rfl iw_0 (Nat.le_of_ble_eq_true rfl) g_372 rfl rfl dX11_walk_108 ?_
            exact prI C hr hk hP hS hf dX11_walk_111
          · replace hf := ite_f c10 hf
            refine lv_tableOut (tgt := 112) hx hb dX11_walk_62 (by have z0 : ¬ i1.toInt = 100 := tsn c8; have z1 : ¬ i1.toInt = 101 := tsn c9; have z2 : ¬ i1.toInt = 102 := tsn c10; omega) (by decide) ?_
            refine lv_aload_n hx hb dX11_walk_112 rfl (lv_at hl 0 rfl) ?_
            refine pg C hP (k := 0) (j := 9) (Nat.le_of_ble_eq_true rfl) (xd_0 _ _) rfl iw_11 (Nat.le_of_ble_eq_true rfl) g_429 rfl rfl dX11_walk_113 ?_
            refine pgN C hP (k := 330) (j := 7) (co_lt co_330) ((co_d co_330) _ _) rfl iw_0 (Nat.le_of_ble_eq_true rfl) g_375 rfl rfl dX11_walk_116 ?_
            exact prI C hr hk hP hS hf dX11_walk_119
    · replace hf := ite_f c7 hf
      refine lv_aload_n hx hb dX11_walk_51 rfl (lv_at hl 0 rfl) ?_
      refine pg C hP (k := 0) (j := 9) (Nat.le_of_ble_eq_true rfl) (xd_0 _ _) rfl iw_11 (Nat.le_of_ble_eq_true rfl) g_429 rfl rfl dX11_walk_52 ?_
      refine pgN C hP (k := 330) (j := 1) (co_lt co_330) ((co_d co_330) _ _) rfl iw_0 (Nat.le_of_ble_eq_true rfl) g_358 rfl rfl dX11_walk_55 ?_
      refine lv_iload_n hx hb dX11_walk_58 rfl (lv_at hl 1 rfl) ?_
      have h11 := chk_1 hf
      replace hf := chk_2 hf
      refine paI C hP (k := 330 + 2) (co_lt2 co_330) ((co_d2 co_330) _ _) h11 dX11_walk_59 ?_
      exact prI C hr hk hP hS hf dX11_walk_60
  · replace hf := ite_f c6 hf
    refine lv_bipush (v := (-2 : Int32)) hx hb dX11_walk_44 (by decide) ?_
    exact prI C hr hk hP hS hf dX11_walk_46
set_option maxHeartbeats 4000000 in
set_option maxRecDepth 100000 in
theorem w11_walk_32 {p : Program} {l : Launch} {e : Env} {s : State} {m : MethodId} {args : Array Value} {below : List Frame} {meth : Method} {c : Code} {z : Zt} {b : Nat}  (C : Cx p s m args c cX11_walk 3 RX11 z 339 b) (hr : meth.sig.returnType = (some .int)) (hk : meth.locks = false) {r : Int32} {M' : Mem} {rc : Nat → List Int32 → List Int64 → Mem → Option (Int32 × Mem)} {n : Nat}   {M : Mem} {H : Heap} {locs : List Loc} {ls : Array Slot} (hf : b11_walk_32  rc n  M = some (r, M')) (hP : va_P z.1 vwCl (pw (xd z b) 339 b M) H) (hS : va_S (pA 339 b) s.heap H locs) (hl : lv_has ls 3 []) : W p l e rm11_walk s m args below meth c H locs 0 0 (MQ below (va_Qi (fun (r' : Int32) (M2 : Mem) => r' = r ∧ M2 = M') (fun M2 t => va_P z.1 vwCl (pw (xd z b) 339 b M2) t.heap) (pA 339 b)) args s 0 0 (pA 339 b)) (F0 m 32 ls []) := by
  have hx := C.1.1
  have hb := C.1.2.1
  unfold b11_walk_32 at hf
  refine lv_iconst (v := (-1 : Int32)) hx hb dX11_walk_32 (by decide) ?_
  exact prI C hr hk hP hS hf dX11_walk_33
set_option maxHeartbeats 4000000 in
set_option maxRecDepth 100000 in
theorem w11_walk_15 {p : Program} {l : Launch} {e : Env} {s : State} {m : MethodId} {args : Array Value} {below : List Frame} {meth : Method} {c : Code} {z : Zt} {b : Nat}  (C : Cx p s m args c cX11_walk 3 RX11 z 339 b) (hr : meth.sig.returnType = (some .int)) (hk : meth.locks = false) {r : Int32} {M' : Mem} {rc : Nat → List Int32 → List Int64 → Mem → Option (Int32 × Mem)} {n : Nat}  {i1 : Int32} {s0 : Int32} {M : Mem} {H : Heap} {locs : List Loc} {ls : Array Slot} (hf : b11_walk_15  rc n i1 s0 M = some (r, M')) (hP : va_P z.1 vwCl (pw (xd z b) 339 b M) H) (hS : va_S (pA 339 b) s.heap H locs) (hl : lv_has ls 3 [(0, .ref (b + 0)), (1, .int i1)]) : W p l e rm11_walk s m args below meth c H locs 0 0 (MQ below (va_Qi (fun (r' : Int32) (M2 : Mem) => r' = r ∧ M2 = M') (fun M2 t => va_P z.1 vwCl (pw (xd z b) 339 b M2) t.heap) (pA 339 b)) args s 0 0 (pA 339 b)) (F0 m 15 ls [.int s0]) := by
  have hx := C.1.1
  have hb := C.1.2.1
  unfold b11_walk_15 at hf
  refine lv_istore_n (lv' := [(2, .int s0), (0, .ref (b + 0)), (1, .int i1)]) hx hb dX11_walk_15 rfl hl (by decide) rfl (fun ls hl => ?_)
  refine lv_iload_n hx hb dX11_walk_16 rfl (lv_at hl 0 rfl) ?_
  refine lv_if_ne (tgt := 34) hx hb dX11_walk_17 (by decide) (fun c3 => ?_) (fun c3 => ?_)
  · replace hf := ite_f c3 hf
    exact w11_walk_34 (n := n)  C hr hk  hf hP hS (lv_sub hl [1, 2, 0] rfl)
  · replace hf := ite_t c3 hf
    refine lv_iload_n hx hb dX11_walk_20 rfl (lv_at hl 2 rfl) ?_
    refine lv_bipush (v := (100 : Int32)) hx hb dX11_walk_21 (by decide) ?_
    refine lv_icmp_lt (tgt := 32) hx hb dX11_walk_23 (by decide) (fun c4 => ?_) (fun c4 => ?_)
    · replace hf := ite_t c4 hf
      exact w11_walk_32 (n := n)  C hr hk  hf hP hS (lv_sub hl [] rfl)
    · replace hf := ite_f c4 hf
      refine lv_iload_n hx hb dX11_walk_26 rfl (lv_at hl 2 rfl) ?_
      refine lv_bipush (v := (103 : Int32)) hx hb dX11_walk_27 (by decide) ?_
      refine lv_icmp_le (tgt := 34) hx hb dX11_walk_29 (by decide) (fun c5 => ?_) (fun c5 => ?_)
      · replace hf := ite_t c5 hf
        exact w11_walk_34 (n := n)  C hr hk  hf hP hS (lv_sub hl [1, 2, 0] rfl)
      · replace hf := ite_f c5 hf
        exact w11_walk_32 (n := n)  C hr hk  hf hP hS (lv_sub hl [] rfl)
set_option maxHeartbeats 4000000 in
set_option maxRecDepth 100000 in
theorem w11_walk_14 {p : Program} {l : Launch} {e : Env} {s : State} {m : MethodId} {args : Array Value} {below : List Frame} {meth : Method} {c : Code} {z : Zt} {b : Nat}  (C : Cx p s m args c cX11_walk 3 RX11 z 339 b) (hr : meth.sig.returnType = (some .int)) (hk : meth.locks = false) {r : Int32} {M' : Mem} {rc : Nat → List Int32 → List Int64 → Mem → Option (Int32 × Mem)} {n : Nat}  {i1 : Int32} {M : Mem} {H : Heap} {locs : List Loc} {ls : Array Slot} (hf : b11_walk_14  rc n i1 M = some (r, M')) (hP : va_P z.1 vwCl (pw (xd z b) 339 b M) H) (hS : va_S (pA 339 b) s.heap H locs) (hl : lv_has ls 3 [(0, .ref (b + 0)), (1, .int i1)]) : W p l e rm11_walk s m args below meth c H locs 0 0 (MQ below (va_Qi (fun (r' : Int32) (M2 : Mem) => r' = r ∧ M2 = M') (fun M2 t => va_P z.1 vwCl (pw (xd z b) 339 b M2) t.heap) (pA 339 b)) args s 0 0 (pA 339 b)) (F0 m 14 ls []) := by
  have hx := C.1.1
  have hb := C.1.2.1
  unfold b11_walk_14 at hf
  refine lv_iconst (v := (0 : Int32)) hx hb dX11_walk_14 (by decide) ?_
  exact w11_walk_15 (n := n)  C hr hk  hf hP hS (lv_sub hl [0, 1] rfl)
set_option maxHeartbeats 4000000 in
set_option maxRecDepth 100000 in
theorem w11_walk_0 {p : Program} {l : Launch} {e : Env} {s : State} {m : MethodId} {args : Array Value} {below : List Frame} {meth : Method} {c : Code} {z : Zt} {b : Nat}  (C : Cx p s m args c cX11_walk 3 RX11 z 339 b) (hr : meth.sig.returnType = (some .int)) (hk : meth.locks = false) {r : Int32} {M' : Mem} {rc : Nat → List Int32 → List Int64 → Mem → Option (Int32 × Mem)} {n : Nat}  {a1 : Int32} {M : Mem} {H : Heap} {locs : List Loc} {ls : Array Slot} (hf : b11_walk_0  rc n a1 M = some (r, M')) (hP : va_P z.1 vwCl (pw (xd z b) 339 b M) H) (hS : va_S (pA 339 b) s.heap H locs) (hl : lv_has ls 3 [(0, .ref (b + 0)), (1, .int a1)]) : W p l e rm11_walk s m args below meth c H locs 0 0 (MQ below (va_Qi (fun (r' : Int32) (M2 : Mem) => r' = r ∧ M2 = M') (fun M2 t => va_P z.1 vwCl (pw (xd z b) 339 b M2) t.heap) (pA 339 b)) args s 0 0 (pA 339 b)) (F0 m 0 ls []) := by
  have hx := C.1.1
  have hb := C.1.2.1
  unfold b11_walk_0 at hf
  refine lv_iload_n hx hb dX11_walk_0 rfl (lv_at hl 1 rfl) ?_
  refine lv_if_lt (tgt := 14) hx hb dX11_walk_1 (by decide) (fun c1 => ?_) (fun c1 => ?_)
  · replace hf := ite_t c1 hf
    exact w11_walk_14 (n := n)  C hr hk  hf hP hS (lv_sub hl [0, 1] rfl)
  · replace hf := ite_f c1 hf
    refine lv_iload_n hx hb dX11_walk_4 rfl (lv_at hl 1 rfl) ?_
    refine lv_bipush (v := (60 : Int32)) hx hb dX11_walk_5 (by decide) ?_
    refine lv_icmp_ge (tgt := 14) hx hb dX11_walk_7 (by decide) (fun c2 => ?_) (fun c2 => ?_)
    · replace hf := ite_t c2 hf
      exact w11_walk_14 (n := n)  C hr hk  hf hP hS (lv_sub hl [0, 1] rfl)
    · replace hf := ite_f c2 hf
      refine lv_iconst (v := (1 : Int32)) hx hb dX11_walk_10 (by decide) ?_
      refine lv_goto (tgt := 15) hx hb dX11_walk_11 (by decide) ?_
      exact w11_walk_15 (n := n)  C hr hk  hf hP hS (lv_sub hl [0, 1] rfl)
theorem c11_walk {l : Launch} {z : Zt} {b n : Nat}  {a1 : Int32} {M M' : Mem} {r : Int32} (hf : f11_walk n  a1 M = some (r, M')) : CI l z (xd z b) 339 b yX11_walk cX11_walk 3 (some .int) rm11_walk [.ref (b + 0), .int a1] M M' r :=
  CI.ofW (lv := [(0, .ref (b + 0)), (1, .int a1)]) (by decide) (Nat.le_of_ble_eq_true rfl) rfl (fun p e s m args below meth c ls C hr hk hP hS hl => w11_walk_0 (n := n)  C hr hk  hf hP hS hl)

-- BronzeKing.worn()I
theorem dX11_worn_0 : decode cX11_worn 0 = .ok (.iconst 0, 1) := by decide +kernel
theorem dX11_worn_1 : decode cX11_worn 1 = .ok (.istore_n 1, 1) := by decide +kernel
theorem dX11_worn_2 : decode cX11_worn 2 = .ok (.bipush (-2), 2) := by decide +kernel
theorem dX11_worn_4 : decode cX11_worn 4 = .ok (.istore_n 2, 1) := by decide +kernel
theorem dX11_worn_5 : decode cX11_worn 5 = .ok (.iconst 0, 1) := by decide +kernel
theorem dX11_worn_6 : decode cX11_worn 6 = .ok (.istore_n 3, 1) := by decide +kernel
theorem dX11_worn_7 : decode cX11_worn 7 = .ok (.iload_n 3, 1) := by decide +kernel
theorem dX11_worn_8 : decode cX11_worn 8 = .ok (.bipush 96, 2) := by decide +kernel
theorem dX11_worn_10 : decode cX11_worn 10 = .ok (.if_icmp .ge 34, 3) := by decide +kernel
theorem dX11_worn_13 : decode cX11_worn 13 = .ok (.aload_n 0, 1) := by decide +kernel
theorem dX11_worn_14 : decode cX11_worn 14 = .ok (.getfield 81, 3) := by decide +kernel
theorem dX11_worn_17 : decode cX11_worn 17 = .ok (.getfield 162, 3) := by decide +kernel
theorem dX11_worn_20 : decode cX11_worn 20 = .ok (.iload_n 3, 1) := by decide +kernel
theorem dX11_worn_21 : decode cX11_worn 21 = .ok (.iaload, 1) := by decide +kernel
theorem dX11_worn_22 : decode cX11_worn 22 = .ok (.iload_n 1, 1) := by decide +kernel
theorem dX11_worn_23 : decode cX11_worn 23 = .ok (.if_icmp .le 15, 3) := by decide +kernel
theorem dX11_worn_26 : decode cX11_worn 26 = .ok (.aload_n 0, 1) := by decide +kernel
theorem dX11_worn_27 : decode cX11_worn 27 = .ok (.getfield 81, 3) := by decide +kernel
theorem dX11_worn_30 : decode cX11_worn 30 = .ok (.getfield 162, 3) := by decide +kernel
theorem dX11_worn_33 : decode cX11_worn 33 = .ok (.iload_n 3, 1) := by decide +kernel
theorem dX11_worn_34 : decode cX11_worn 34 = .ok (.iaload, 1) := by decide +kernel
theorem dX11_worn_35 : decode cX11_worn 35 = .ok (.istore_n 1, 1) := by decide +kernel
theorem dX11_worn_36 : decode cX11_worn 36 = .ok (.iload_n 3, 1) := by decide +kernel
theorem dX11_worn_37 : decode cX11_worn 37 = .ok (.istore_n 2, 1) := by decide +kernel
theorem dX11_worn_38 : decode cX11_worn 38 = .ok (.iinc 3 1, 3) := by decide +kernel
theorem dX11_worn_41 : decode cX11_worn 41 = .ok (.goto (-34), 3) := by decide +kernel
theorem dX11_worn_44 : decode cX11_worn 44 = .ok (.iload_n 2, 1) := by decide +kernel
theorem dX11_worn_45 : decode cX11_worn 45 = .ok (.ireturn, 1) := by decide +kernel
def b11_worn_38 (rc : Nat → List Int32 → List Int64 → Mem → Option (Int32 × Mem)) (n : Nat) (i1 : Int32) (i2 : Int32) (i3 : Int32) (M : Mem) : Option (Int32 × Mem) :=
  lt (i3 + (1 : Int32)) fun v6 =>
  rc 7 [i1, i2, v6] [] M
def b11_worn_7 (rc : Nat → List Int32 → List Int64 → Mem → Option (Int32 × Mem)) (n : Nat) (i1 : Int32) (i2 : Int32) (i3 : Int32) (M : Mem) : Option (Int32 × Mem) :=
  (if (96 : Int32) ≤ i3 then (
   some (i2, M))
  else (
   chk (inb i3 96) <|
   (if (M.1 (330 + 1) i3.toNatClampNeg) ≤ i1 then (
    b11_worn_38  rc n i1 i2 i3 M)
   else (
    chk (inb i3 96) <|
    lt (M.1 (330 + 1) i3.toNatClampNeg) fun v5 =>
    b11_worn_38  rc n v5 i3 i3 M))))
def b11_worn_0 (rc : Nat → List Int32 → List Int64 → Mem → Option (Int32 × Mem)) (n : Nat) (M : Mem) : Option (Int32 × Mem) :=
  b11_worn_7  rc n (0 : Int32) (-2 : Int32) (0 : Int32) M
def r11_worn : Nat → Nat → List Int32 → List Int64 → Mem → Option (Int32 × Mem)
  | 0 => fun _ _ _ _ => none
  | n + 1 => fun pc li lj M =>
    if pc = 7 then (match li, lj with | [i1, i2, i3], [] => b11_worn_7  (r11_worn  n) n i1 i2 i3 M | _, _ => none) else
    none
theorem e11_worn_7  (n : Nat) (i1 : Int32) (i2 : Int32) (i3 : Int32) (M : Mem) : r11_worn  (n + 1) 7 [i1, i2, i3] [] M = b11_worn_7  (r11_worn  n) n i1 i2 i3 M := by
  rw [r11_worn]
  simp
def f11_worn (n : Nat)  (M : Mem) : Option (Int32 × Mem) := b11_worn_0 (r11_worn n) n M
abbrev rm11_worn : Room := { frames := 0, cells := 0, slots := 0, locals := 0 }
theorem y11_worn_w : yV RX11 yX11_worn cX11_worn 4 (some .int) 0 := ⟨g_860, g_861, g_1, g_862, rfl, by decide, by decide, by decide +kernel⟩
set_option maxHeartbeats 4000000 in
set_option maxRecDepth 100000 in
theorem w11_worn_38 {p : Program} {l : Launch} {e : Env} {s : State} {m : MethodId} {args : Array Value} {below : List Frame} {meth : Method} {c : Code} {z : Zt} {b : Nat}  (C : Cx p s m args c cX11_worn 4 RX11 z 339 b) (hr : meth.sig.returnType = (some .int)) (hk : meth.locks = false) {r : Int32} {M' : Mem} {rc : Nat → List Int32 → List Int64 → Mem → Option (Int32 × Mem)} {n : Nat} (q7 : ∀ (i1 : Int32) (i2 : Int32) (i3 : Int32) (M : Mem) (H : Heap) (locs : List Loc) (ls : Array Slot), rc 7 [i1, i2, i3] [] M = some (r, M') → va_P z.1 vwCl (pw (xd z b) 339 b M) H → va_S (pA 339 b) s.heap H locs → lv_has ls 4 [(0, .ref (b + 0)), (1, .int i1), (2, .int i2), (3, .int i3)] → W p l e rm11_worn s m args below meth c H locs 0 0 (MQ below (va_Qi (fun (r' : Int32) (M2 : Mem) => r' = r ∧ M2 = M') (fun M2 t => va_P z.1 vwCl (pw (xd z b) 339 b M2) t.heap) (pA 339 b)) args s 0 0 (pA 339 b)) (F0 m 7 ls [])) {i1 : Int32} {i2 : Int32} {i3 : Int32} {M : Mem} {H : Heap} {locs : List Loc} {ls : Array Slot} (hf : b11_worn_38  rc n i1 i2 i3 M = some (r, M')) (hP : va_P z.1 vwCl (pw (xd z b) 339 b M) H) (hS : va_S (pA 339 b) s.heap H locs) (hl : lv_has ls 4 [(0, .ref (b + 0)), (1, .int i1), (2, .int i2), (3, .int i3)]) : W p l e rm11_worn s m args below meth c H locs 0 0 (MQ below (va_Qi (fun (r' : Int32) (M2 : Mem) => r' = r ∧ M2 = M') (fun M2 t => va_P z.1 vwCl (pw (xd z b) 339 b M2) t.heap) (pA 339 b)) args s 0 0 (pA 339 b)) (F0 m 38 ls []) := by
  have hx := C.1.1
  have hb := C.1.2.1
  unfold b11_worn_38 at hf
  obtain ⟨v6, ev6⟩ : ∃ v : Int32, v = i3 + (1 : Int32) := ⟨_, rfl⟩
  replace hf := lt_c ev6 hf
  refine lv_iinc (v := v6) (lv' := [(3, .int v6), (0, .ref (b + 0)), (1, .int i1), (2, .int i2)]) hx hb dX11_worn_38 hl (k := 3) rfl (by rw [ev6]; rfl) (by decide) rfl (fun ls hl => ?_)
  refine lv_goto (tgt := 7) hx hb dX11_worn_41 (by decide) ?_
  exact q7 i1 i2 v6 M _ _ _ hf hP hS (lv_sub hl [1, 2, 3, 0] rfl)
set_option maxHeartbeats 4000000 in
set_option maxRecDepth 100000 in
theorem w11_worn_7 {p : Program} {l : Launch} {e : Env} {s : State} {m : MethodId} {args : Array Value} {below : List Frame} {meth : Method} {c : Code} {z : Zt} {b : Nat}  (C : Cx p s m args c cX11_worn 4 RX11 z 339 b) (hr : meth.sig.returnType = (some .int)) (hk : meth.locks = false) {r : Int32} {M' : Mem} {rc : Nat → List Int32 → List Int64 → Mem → Option (Int32 × Mem)} {n : Nat} (q7 : ∀ (i1 : Int32) (i2 : Int32) (i3 : Int32) (M : Mem) (H : Heap) (locs : List Loc) (ls : Array Slot), rc 7 [i1, i2, i3] [] M = some (r, M') → va_P z.1 vwCl (pw (xd z b) 339 b M) H → va_S (pA 339 b) s.heap H locs → lv_has ls 4 [(0, .ref (b + 0)), (1, .int i1), (2, .int i2), (3, .int i3)] → W p l e rm11_worn s m args below meth c H locs 0 0 (MQ below (va_Qi (fun (r' : Int32) (M2 : Mem) => r' = r ∧ M2 = M') (fun M2 t => va_P z.1 vwCl (pw (xd z b) 339 b M2) t.heap) (pA 339 b)) args s 0 0 (pA 339 b)) (F0 m 7 ls [])) {i1 : Int32} {i2 : Int32} {i3 : Int32} {M : Mem} {H : Heap} {locs : List Loc} {ls : Array Slot} (hf : b11_worn_7  rc n i1 i2 i3 M = some (r, M')) (hP : va_P z.1 vwCl (pw (xd z b) 339 b M) H) (hS : va_S (pA 339 b) s.heap H locs) (hl : lv_has ls 4 [(0, .ref (b + 0)), (1, .int i1), (2, .int i2), (3, .int i3)]) : W p l e rm11_worn s m args below meth c H locs 0 0 (MQ below (va_Qi (fun (r' : Int32) (M2 : Mem) => r' = r ∧ M2 = M') (fun M2 t => va_P z.1 vwCl (pw (xd z b) 339 b M2) t.heap) (pA 339 b)) args s 0 0 (pA 339 b)) (F0 m 7 ls []) := by
  have hx := C.1.1
  have hb := C.1.2.1
  unfold b11_worn_7 at hf
  refine lv_iload_n hx hb dX11_worn_7 rfl (lv_at hl 3 rfl) ?_
  refine lv_bipush (v := (96 : Int32)) hx hb dX11_worn_8 (by decide) ?_
  refine lv_icmp_ge (tgt := 44) hx hb dX11_worn_10 (by decide) (fun c1 => ?_) (fun c1 => ?_)
  · replace hf := ite_t c1 hf
    refine lv_iload_n hx hb dX11_worn_44 rfl (lv_at hl 2 rfl) ?_
    exact prI C hr hk hP hS hf dX11_worn_45
  · replace hf := ite_f c1 hf
    refine lv_aload_n hx hb dX11_worn_13 rfl (lv_at hl 0 rfl) ?_
    refine pg C hP (k := 0) (j := 9) (Nat.le_of_ble_eq_true rfl) (xd_0 _ _) rfl iw_11 (Nat.le_of_ble_eq_true rfl) g_429 rfl rfl dX11_worn_14 ?_
    refine pgN C hP (k := 330) (j := 0) (co_lt co_330) ((co_d co_330) _ _) rfl iw_0 (Nat.le_of_ble_eq_true rfl) g_355 rfl rfl dX11_worn_17 ?_
    refine lv_iload_n hx hb dX11_worn_20 rfl (lv_at hl 3 rfl) ?_
    have h2 := chk_1 hf
    replace hf := chk_2 hf
    refine paI C hP (k := 330 + 1) (co_lt1 co_330) ((co_d1 co_330) _ _) h2 dX11_worn_21 ?_
    refine lv_iload_n hx hb dX11_worn_22 rfl (lv_at hl 1 rfl) ?_
    refine lv_icmp_le (tgt := 38) hx hb dX11_worn_23 (by decide) (fun c3 => ?_) (fun c3 => ?_)
    · replace hf := ite_t c3 hf
      exact w11_worn_38 (n := n)  C hr hk q7 hf hP hS (lv_sub hl [0, 1, 2, 3] rfl)
    · replace hf := ite_f c3 hf
      refine lv_aload_n hx hb dX11_worn_26 rfl (lv_at hl 0 rfl) ?_
      refine pg C hP (k := 0) (j := 9) (Nat.le_of_ble_eq_true rfl) (xd_0 _ _) rfl iw_11 (Nat.le_of_ble_eq_true rfl) g_429 rfl rfl dX11_worn_27 ?_
      refine pgN C hP (k := 330) (j := 0) (co_lt co_330) ((co_d co_330) _ _) rfl iw_0 (Nat.le_of_ble_eq_true rfl) g_355 rfl rfl dX11_worn_30 ?_
      refine lv_iload_n hx hb dX11_worn_33 rfl (lv_at hl 3 rfl) ?_
      have h4 := chk_1 hf
      replace hf := chk_2 hf
      refine paI C hP (k := 330 + 1) (co_lt1 co_330) ((co_d1 co_330) _ _) h4 dX11_worn_34 ?_
      refine lv_topi (fun v5 ev5 => ?_)
      replace hf := lt_c ev5 hf
      refine lv_istore_n (lv' := [(1, .int v5), (0, .ref (b + 0)), (2, .int i2), (3, .int i3)]) hx hb dX11_worn_35 rfl hl (by decide) rfl (fun ls hl => ?_)
      refine lv_iload_n hx hb dX11_worn_36 rfl (lv_at hl 3 rfl) ?_
      refine lv_istore_n (lv' := [(2, .int i3), (1, .int v5), (0, .ref (b + 0)), (3, .int i3)]) hx hb dX11_worn_37 rfl hl (by decide) rfl (fun ls hl => ?_)
      exact w11_worn_38 (n := n)  C hr hk q7 hf hP hS (lv_sub hl [2, 1, 0, 3] rfl)
set_option maxHeartbeats 4000000 in
set_option maxRecDepth 100000 in
theorem w11_worn_0 {p : Program} {l : Launch} {e : Env} {s : State} {m : MethodId} {args : Array Value} {below : List Frame} {meth : Method} {c : Code} {z : Zt} {b : Nat}  (C : Cx p s m args c cX11_worn 4 RX11 z 339 b) (hr : meth.sig.returnType = (some .int)) (hk : meth.locks = false) {r : Int32} {M' : Mem} {rc : Nat → List Int32 → List Int64 → Mem → Option (Int32 × Mem)} {n : Nat} (q7 : ∀ (i1 : Int32) (i2 : Int32) (i3 : Int32) (M : Mem) (H : Heap) (locs : List Loc) (ls : Array Slot), rc 7 [i1, i2, i3] [] M = some (r, M') → va_P z.1 vwCl (pw (xd z b) 339 b M) H → va_S (pA 339 b) s.heap H locs → lv_has ls 4 [(0, .ref (b + 0)), (1, .int i1), (2, .int i2), (3, .int i3)] → W p l e rm11_worn s m args below meth c H locs 0 0 (MQ below (va_Qi (fun (r' : Int32) (M2 : Mem) => r' = r ∧ M2 = M') (fun M2 t => va_P z.1 vwCl (pw (xd z b) 339 b M2) t.heap) (pA 339 b)) args s 0 0 (pA 339 b)) (F0 m 7 ls []))  {M : Mem} {H : Heap} {locs : List Loc} {ls : Array Slot} (hf : b11_worn_0  rc n  M = some (r, M')) (hP : va_P z.1 vwCl (pw (xd z b) 339 b M) H) (hS : va_S (pA 339 b) s.heap H locs) (hl : lv_has ls 4 [(0, .ref (b + 0))]) : W p l e rm11_worn s m args below meth c H locs 0 0 (MQ below (va_Qi (fun (r' : Int32) (M2 : Mem) => r' = r ∧ M2 = M') (fun M2 t => va_P z.1 vwCl (pw (xd z b) 339 b M2) t.heap) (pA 339 b)) args s 0 0 (pA 339 b)) (F0 m 0 ls []) := by
  have hx := C.1.1
  have hb := C.1.2.1
  unfold b11_worn_0 at hf
  refine lv_iconst (v := (0 : Int32)) hx hb dX11_worn_0 (by decide) ?_
  refine lv_istore_n (lv' := [(1, .int (0 : Int32)), (0, .ref (b + 0))]) hx hb dX11_worn_1 rfl hl (by decide) rfl (fun ls hl => ?_)
  refine lv_bipush (v := (-2 : Int32)) hx hb dX11_worn_2 (by decide) ?_
  refine lv_istore_n (lv' := [(2, .int (-2 : Int32)), (1, .int (0 : Int32)), (0, .ref (b + 0))]) hx hb dX11_worn_4 rfl hl (by decide) rfl (fun ls hl => ?_)
  refine lv_iconst (v := (0 : Int32)) hx hb dX11_worn_5 (by decide) ?_
  refine lv_istore_n (lv' := [(3, .int (0 : Int32)), (2, .int (-2 : Int32)), (1, .int (0 : Int32)), (0, .ref (b + 0))]) hx hb dX11_worn_6 rfl hl (by decide) rfl (fun ls hl => ?_)
  exact w11_worn_7 (n := n)  C hr hk q7 hf hP hS (lv_sub hl [3, 2, 1, 0] rfl)
set_option maxHeartbeats 4000000 in
set_option maxRecDepth 100000 in
theorem l11_worn {p : Program} {l : Launch} {e : Env} {s : State} {m : MethodId} {args : Array Value} {below : List Frame} {meth : Method} {c : Code} {z : Zt} {b : Nat}  (C : Cx p s m args c cX11_worn 4 RX11 z 339 b) (hr : meth.sig.returnType = (some .int)) (hk : meth.locks = false) {r : Int32} {M' : Mem} (n : Nat) : (∀ (i1 : Int32) (i2 : Int32) (i3 : Int32) (M : Mem) (H : Heap) (locs : List Loc) (ls : Array Slot), (r11_worn  n) 7 [i1, i2, i3] [] M = some (r, M') → va_P z.1 vwCl (pw (xd z b) 339 b M) H → va_S (pA 339 b) s.heap H locs → lv_has ls 4 [(0, .ref (b + 0)), (1, .int i1), (2, .int i2), (3, .int i3)] → W p l e rm11_worn s m args below meth c H locs 0 0 (MQ below (va_Qi (fun (r' : Int32) (M2 : Mem) => r' = r ∧ M2 = M') (fun M2 t => va_P z.1 vwCl (pw (xd z b) 339 b M2) t.heap) (pA 339 b)) args s 0 0 (pA 339 b)) (F0 m 7 ls [])) := by
  induction n with
  | zero => exact fun _ _ _ _ _ _ _ hf => (by cases hf)
  | succ n ih => exact fun _ _ _ _ _ _ _ hf hP hS hl => w11_worn_7 (n := n)  C hr hk ih ((e11_worn_7  n _ _ _ _).symm.trans hf) hP hS hl
theorem c11_worn {l : Launch} {z : Zt} {b n : Nat}   {M M' : Mem} {r : Int32} (hf : f11_worn n   M = some (r, M')) : CI l z (xd z b) 339 b yX11_worn cX11_worn 4 (some .int) rm11_worn [.ref (b + 0)] M M' r :=
  CI.ofW (lv := [(0, .ref (b + 0))]) (by decide) (Nat.le_of_ble_eq_true rfl) rfl (fun p e s m args below meth c ls C hr hk hP hS hl => w11_worn_0 (n := n)  C hr hk (l11_worn  C hr hk n) hf hP hS hl)

-- BronzeKing.far(I)I
theorem dX11_far_0 : decode cX11_far 0 = .ok (.iload_n 1, 1) := by decide +kernel
theorem dX11_far_1 : decode cX11_far 1 = .ok (.ifCond .lt 9, 3) := by decide +kernel
theorem dX11_far_4 : decode cX11_far 4 = .ok (.iload_n 1, 1) := by decide +kernel
theorem dX11_far_5 : decode cX11_far 5 = .ok (.bipush 60, 2) := by decide +kernel
theorem dX11_far_7 : decode cX11_far 7 = .ok (.if_icmp .le 5, 3) := by decide +kernel
theorem dX11_far_10 : decode cX11_far 10 = .ok (.iconst (-1), 1) := by decide +kernel
theorem dX11_far_11 : decode cX11_far 11 = .ok (.ireturn, 1) := by decide +kernel
theorem dX11_far_12 : decode cX11_far 12 = .ok (.iload_n 1, 1) := by decide +kernel
theorem dX11_far_13 : decode cX11_far 13 = .ok (.bipush 30, 2) := by decide +kernel
theorem dX11_far_15 : decode cX11_far 15 = .ok (.invokestatic 215, 3) := by decide +kernel
theorem dX11_far_18 : decode cX11_far 18 = .ok (.istore_n 2, 1) := by decide +kernel
theorem dX11_far_19 : decode cX11_far 19 = .ok (.iconst 0, 1) := by decide +kernel
theorem dX11_far_20 : decode cX11_far 20 = .ok (.istore_n 3, 1) := by decide +kernel
theorem dX11_far_21 : decode cX11_far 21 = .ok (.iconst 0, 1) := by decide +kernel
theorem dX11_far_22 : decode cX11_far 22 = .ok (.istore 4, 2) := by decide +kernel
theorem dX11_far_24 : decode cX11_far 24 = .ok (.iload 4, 2) := by decide +kernel
theorem dX11_far_26 : decode cX11_far 26 = .ok (.bipush 96, 2) := by decide +kernel
theorem dX11_far_28 : decode cX11_far 28 = .ok (.if_icmp .ge 26, 3) := by decide +kernel
theorem dX11_far_31 : decode cX11_far 31 = .ok (.aload_n 0, 1) := by decide +kernel
theorem dX11_far_32 : decode cX11_far 32 = .ok (.getfield 19, 3) := by decide +kernel
theorem dX11_far_35 : decode cX11_far 35 = .ok (.getfield 168, 3) := by decide +kernel
theorem dX11_far_38 : decode cX11_far 38 = .ok (.iload 4, 2) := by decide +kernel
theorem dX11_far_40 : decode cX11_far 40 = .ok (.iaload, 1) := by decide +kernel
theorem dX11_far_41 : decode cX11_far 41 = .ok (.iload_n 2, 1) := by decide +kernel
theorem dX11_far_42 : decode cX11_far 42 = .ok (.if_icmp .gt 6, 3) := by decide +kernel
theorem dX11_far_45 : decode cX11_far 45 = .ok (.iinc 3 1, 3) := by decide +kernel
theorem dX11_far_48 : decode cX11_far 48 = .ok (.iinc 4 1, 3) := by decide +kernel
theorem dX11_far_51 : decode cX11_far 51 = .ok (.goto (-27), 3) := by decide +kernel
theorem dX11_far_54 : decode cX11_far 54 = .ok (.iload_n 3, 1) := by decide +kernel
theorem dX11_far_55 : decode cX11_far 55 = .ok (.ireturn, 1) := by decide +kernel
def b11_far_10 (rc : Nat → List Int32 → List Int64 → Mem → Option (Int32 × Mem)) (n : Nat) (M : Mem) : Option (Int32 × Mem) :=
  some ((-1 : Int32), M)
def b11_far_48 (rc : Nat → List Int32 → List Int64 → Mem → Option (Int32 × Mem)) (n : Nat) (i2 : Int32) (i3 : Int32) (i4 : Int32) (M : Mem) : Option (Int32 × Mem) :=
  lt (i4 + (1 : Int32)) fun v8 =>
  rc 24 [i2, i3, v8] [] M
def b11_far_24 (rc : Nat → List Int32 → List Int64 → Mem → Option (Int32 × Mem)) (n : Nat) (i2 : Int32) (i3 : Int32) (i4 : Int32) (M : Mem) : Option (Int32 × Mem) :=
  (if (96 : Int32) ≤ i4 then (
   some (i3, M))
  else (
   chk (inb i4 96) <|
   (if i2 < (M.1 7 i4.toNatClampNeg) then (
    b11_far_48  rc n i2 i3 i4 M)
   else (
    lt (i3 + (1 : Int32)) fun v7 =>
    b11_far_48  rc n i2 v7 i4 M))))
def b11_far_0 (rc : Nat → List Int32 → List Int64 → Mem → Option (Int32 × Mem)) (n : Nat) (a1 : Int32) (M : Mem) : Option (Int32 × Mem) :=
  (if a1 < 0 then (
   b11_far_10  rc n  M)
  else (
   (if a1 ≤ (60 : Int32) then (
    lt (if (30 : Int32) < a1 then (30 : Int32) else a1) fun v3 =>
    b11_far_24  rc n v3 (0 : Int32) (0 : Int32) M)
   else (
    b11_far_10  rc n  M))))
def r11_far : Nat → Nat → List Int32 → List Int64 → Mem → Option (Int32 × Mem)
  | 0 => fun _ _ _ _ => none
  | n + 1 => fun pc li lj M =>
    if pc = 24 then (match li, lj with | [i2, i3, i4], [] => b11_far_24  (r11_far  n) n i2 i3 i4 M | _, _ => none) else
    none
theorem e11_far_24  (n : Nat) (i2 : Int32) (i3 : Int32) (i4 : Int32) (M : Mem) : r11_far  (n + 1) 24 [i2, i3, i4] [] M = b11_far_24  (r11_far  n) n i2 i3 i4 M := by
  rw [r11_far]
  simp
def f11_far (n : Nat) (a1 : Int32) (M : Mem) : Option (Int32 × Mem) := b11_far_0 (r11_far n) n a1 M
abbrev rm11_far : Room := { frames := 1, cells := 0, slots := 0, locals := 21 }
theorem y11_far_w : yV RX11 yX11_far cX11_far 5 (some .int) 1 := ⟨g_864, g_865, g_1, g_866, rfl, by decide, by decide, by decide +kernel⟩
set_option maxHeartbeats 4000000 in
set_option maxRecDepth 100000 in
theorem w11_far_10 {p : Program} {l : Launch} {e : Env} {s : State} {m : MethodId} {args : Array Value} {below : List Frame} {meth : Method} {c : Code} {z : Zt} {b : Nat}  (C : Cx p s m args c cX11_far 5 RX11 z 339 b) (hr : meth.sig.returnType = (some .int)) (hk : meth.locks = false) {r : Int32} {M' : Mem} {rc : Nat → List Int32 → List Int64 → Mem → Option (Int32 × Mem)} {n : Nat} (q24 : ∀ (i2 : Int32) (i3 : Int32) (i4 : Int32) (M : Mem) (H : Heap) (locs : List Loc) (ls : Array Slot), rc 24 [i2, i3, i4] [] M = some (r, M') → va_P z.1 vwCl (pw (xd z b) 339 b M) H → va_S (pA 339 b) s.heap H locs → lv_has ls 5 [(0, .ref (b + 0)), (2, .int i2), (3, .int i3), (4, .int i4)] → W p l e rm11_far s m args below meth c H locs 0 0 (MQ below (va_Qi (fun (r' : Int32) (M2 : Mem) => r' = r ∧ M2 = M') (fun M2 t => va_P z.1 vwCl (pw (xd z b) 339 b M2) t.heap) (pA 339 b)) args s 0 0 (pA 339 b)) (F0 m 24 ls []))  {M : Mem} {H : Heap} {locs : List Loc} {ls : Array Slot} (hf : b11_far_10  rc n  M = some (r, M')) (hP : va_P z.1 vwCl (pw (xd z b) 339 b M) H) (hS : va_S (pA 339 b) s.heap H locs) (hl : lv_has ls 5 []) : W p l e rm11_far s m args below meth c H locs 0 0 (MQ below (va_Qi (fun (r' : Int32) (M2 : Mem) => r' = r ∧ M2 = M') (fun M2 t => va_P z.1 vwCl (pw (xd z b) 339 b M2) t.heap) (pA 339 b)) args s 0 0 (pA 339 b)) (F0 m 10 ls []) := by
  have hx := C.1.1
  have hb := C.1.2.1
  unfold b11_far_10 at hf
  refine lv_iconst (v := (-1 : Int32)) hx hb dX11_far_10 (by decide) ?_
  exact prI C hr hk hP hS hf dX11_far_11
set_option maxHeartbeats 4000000 in
set_option maxRecDepth 100000 in
theorem w11_far_48 {p : Program} {l : Launch} {e : Env} {s : State} {m : MethodId} {args : Array Value} {below : List Frame} {meth : Method} {c : Code} {z : Zt} {b : Nat}  (C : Cx p s m args c cX11_far 5 RX11 z 339 b) (hr : meth.sig.returnType = (some .int)) (hk : meth.locks = false) {r : Int32} {M' : Mem} {rc : Nat → List Int32 → List Int64 → Mem → Option (Int32 × Mem)} {n : Nat} (q24 : ∀ (i2 : Int32) (i3 : Int32) (i4 : Int32) (M : Mem) (H : Heap) (locs : List Loc) (ls : Array Slot), rc 24 [i2, i3, i4] [] M = some (r, M') → va_P z.1 vwCl (pw (xd z b) 339 b M) H → va_S (pA 339 b) s.heap H locs → lv_has ls 5 [(0, .ref (b + 0)), (2, .int i2), (3, .int i3), (4, .int i4)] → W p l e rm11_far s m args below meth c H locs 0 0 (MQ below (va_Qi (fun (r' : Int32) (M2 : Mem) => r' = r ∧ M2 = M') (fun M2 t => va_P z.1 vwCl (pw (xd z b) 339 b M2) t.heap) (pA 339 b)) args s 0 0 (pA 339 b)) (F0 m 24 ls [])) {i2 : Int32} {i3 : Int32} {i4 : Int32} {M : Mem} {H : Heap} {locs : List Loc} {ls : Array Slot} (hf : b11_far_48  rc n i2 i3 i4 M = some (r, M')) (hP : va_P z.1 vwCl (pw (xd z b) 339 b M) H) (hS : va_S (pA 339 b) s.heap H locs) (hl : lv_has ls 5 [(0, .ref (b + 0)), (2, .int i2), (3, .int i3), (4, .int i4)]) : W p l e rm11_far s m args below meth c H locs 0 0 (MQ below (va_Qi (fun (r' : Int32) (M2 : Mem) => r' = r ∧ M2 = M') (fun M2 t => va_P z.1 vwCl (pw (xd z b) 339 b M2) t.heap) (pA 339 b)) args s 0 0 (pA 339 b)) (F0 m 48 ls []) := by
  have hx := C.1.1
  have hb := C.1.2.1
  unfold b11_far_48 at hf
  obtain ⟨v8, ev8⟩ : ∃ v : Int32, v = i4 + (1 : Int32) := ⟨_, rfl⟩
  replace hf := lt_c ev8 hf
  refine lv_iinc (v := v8) (lv' := [(4, .int v8), (0, .ref (b + 0)), (2, .int i2), (3, .int i3)]) hx hb dX11_far_48 hl (k := 3) rfl (by rw [ev8]; rfl) (by decide) rfl (fun ls hl => ?_)
  refine lv_goto (tgt := 24) hx hb dX11_far_51 (by decide) ?_
  exact q24 i2 i3 v8 M _ _ _ hf hP hS (lv_sub hl [1, 2, 3, 0] rfl)
set_option maxHeartbeats 4000000 in
set_option maxRecDepth 100000 in
theorem w11_far_24 {p : Program} {l : Launch} {e : Env} {s : State} {m : MethodId} {args : Array Value} {below : List Frame} {meth : Method} {c : Code} {z : Zt} {b : Nat}  (C : Cx p s m args c cX11_far 5 RX11 z 339 b) (hr : meth.sig.returnType = (some .int)) (hk : meth.locks = false) {r : Int32} {M' : Mem} {rc : Nat → List Int32 → List Int64 → Mem → Option (Int32 × Mem)} {n : Nat} (q24 : ∀ (i2 : Int32) (i3 : Int32) (i4 : Int32) (M : Mem) (H : Heap) (locs : List Loc) (ls : Array Slot), rc 24 [i2, i3, i4] [] M = some (r, M') → va_P z.1 vwCl (pw (xd z b) 339 b M) H → va_S (pA 339 b) s.heap H locs → lv_has ls 5 [(0, .ref (b + 0)), (2, .int i2), (3, .int i3), (4, .int i4)] → W p l e rm11_far s m args below meth c H locs 0 0 (MQ below (va_Qi (fun (r' : Int32) (M2 : Mem) => r' = r ∧ M2 = M') (fun M2 t => va_P z.1 vwCl (pw (xd z b) 339 b M2) t.heap) (pA 339 b)) args s 0 0 (pA 339 b)) (F0 m 24 ls [])) {i2 : Int32} {i3 : Int32} {i4 : Int32} {M : Mem} {H : Heap} {locs : List Loc} {ls : Array Slot} (hf : b11_far_24  rc n i2 i3 i4 M = some (r, M')) (hP : va_P z.1 vwCl (pw (xd z b) 339 b M) H) (hS : va_S (pA 339 b) s.heap H locs) (hl : lv_has ls 5 [(0, .ref (b + 0)), (2, .int i2), (3, .int i3), (4, .int i4)]) : W p l e rm11_far s m args below meth c H locs 0 0 (MQ below (va_Qi (fun (r' : Int32) (M2 : Mem) => r' = r ∧ M2 = M') (fun M2 t => va_P z.1 vwCl (pw (xd z b) 339 b M2) t.heap) (pA 339 b)) args s 0 0 (pA 339 b)) (F0 m 24 ls []) := by
  have hx := C.1.1
  have hb := C.1.2.1
  unfold b11_far_24 at hf
  refine lv_iload hx hb dX11_far_24 (lv_at hl 3 rfl) ?_
  refine lv_bipush (v := (96 : Int32)) hx hb dX11_far_26 (by decide) ?_
  refine lv_icmp_ge (tgt := 54) hx hb dX11_far_28 (by decide) (fun c4 => ?_) (fun c4 => ?_)
  · replace hf := ite_t c4 hf
    refine lv_iload_n hx hb dX11_far_54 rfl (lv_at hl 2 rfl) ?_
    exact prI C hr hk hP hS hf dX11_far_55
  · replace hf := ite_f c4 hf
    refine lv_aload_n hx hb dX11_far_31 rfl (lv_at hl 0 rfl) ?_
    refine pg C hP (k := 0) (j := 1) (Nat.le_of_ble_eq_true rfl) (xd_0 _ _) rfl iw_11 (Nat.le_of_ble_eq_true rfl) g_421 rfl rfl dX11_far_32 ?_
    refine pgN C hP (k := 3) (j := 3) (Nat.le_of_ble_eq_true rfl) (xd_3 _ _) rfl iw_8 (Nat.le_of_ble_eq_true rfl) g_78 rfl rfl dX11_far_35 ?_
    refine lv_iload hx hb dX11_far_38 (lv_at hl 3 rfl) ?_
    have h5 := chk_1 hf
    replace hf := chk_2 hf
    refine paI C hP (k := 7) (Nat.le_of_ble_eq_true rfl) (xd_7 _ _) h5 dX11_far_40 ?_
    refine lv_iload_n hx hb dX11_far_41 rfl (lv_at hl 1 rfl) ?_
    refine lv_icmp_gt (tgt := 48) hx hb dX11_far_42 (by decide) (fun c6 => ?_) (fun c6 => ?_)
    · replace hf := ite_t c6 hf
      exact w11_far_48 (n := n)  C hr hk q24 hf hP hS (lv_sub hl [0, 1, 2, 3] rfl)
    · replace hf := ite_f c6 hf
      obtain ⟨v7, ev7⟩ : ∃ v : Int32, v = i3 + (1 : Int32) := ⟨_, rfl⟩
      replace hf := lt_c ev7 hf
      refine lv_iinc (v := v7) (lv' := [(3, .int v7), (0, .ref (b + 0)), (2, .int i2), (4, .int i4)]) hx hb dX11_far_45 hl (k := 2) rfl (by rw [ev7]; rfl) (by decide) rfl (fun ls hl => ?_)
      exact w11_far_48 (n := n)  C hr hk q24 hf hP hS (lv_sub hl [1, 2, 0, 3] rfl)
set_option maxHeartbeats 4000000 in
set_option maxRecDepth 100000 in
theorem w11_far_0 {p : Program} {l : Launch} {e : Env} {s : State} {m : MethodId} {args : Array Value} {below : List Frame} {meth : Method} {c : Code} {z : Zt} {b : Nat}  (C : Cx p s m args c cX11_far 5 RX11 z 339 b) (hr : meth.sig.returnType = (some .int)) (hk : meth.locks = false) {r : Int32} {M' : Mem} {rc : Nat → List Int32 → List Int64 → Mem → Option (Int32 × Mem)} {n : Nat} (q24 : ∀ (i2 : Int32) (i3 : Int32) (i4 : Int32) (M : Mem) (H : Heap) (locs : List Loc) (ls : Array Slot), rc 24 [i2, i3, i4] [] M = some (r, M') → va_P z.1 vwCl (pw (xd z b) 339 b M) H → va_S (pA 339 b) s.heap H locs → lv_has ls 5 [(0, .ref (b + 0)), (2, .int i2), (3, .int i3), (4, .int i4)] → W p l e rm11_far s m args below meth c H locs 0 0 (MQ below (va_Qi (fun (r' : Int32) (M2 : Mem) => r' = r ∧ M2 = M') (fun M2 t => va_P z.1 vwCl (pw (xd z b) 339 b M2) t.heap) (pA 339 b)) args s 0 0 (pA 339 b)) (F0 m 24 ls [])) {a1 : Int32} {M : Mem} {H : Heap} {locs : List Loc} {ls : Array Slot} (hf : b11_far_0  rc n a1 M = some (r, M')) (hP : va_P z.1 vwCl (pw (xd z b) 339 b M) H) (hS : va_S (pA 339 b) s.heap H locs) (hl : lv_has ls 5 [(0, .ref (b + 0)), (1, .int a1)]) : W p l e rm11_far s m args below meth c H locs 0 0 (MQ below (va_Qi (fun (r' : Int32) (M2 : Mem) => r' = r ∧ M2 = M') (fun M2 t => va_P z.1 vwCl (pw (xd z b) 339 b M2) t.heap) (pA 339 b)) args s 0 0 (pA 339 b)) (F0 m 0 ls []) := by
  have hx := C.1.1
  have hb := C.1.2.1
  unfold b11_far_0 at hf
  refine lv_iload_n hx hb dX11_far_0 rfl (lv_at hl 1 rfl) ?_
  refine lv_if_lt (tgt := 10) hx hb dX11_far_1 (by decide) (fun c1 => ?_) (fun c1 => ?_)
  · replace hf := ite_t c1 hf
    exact w11_far_10 (n := n)  C hr hk q24 hf hP hS (lv_sub hl [] rfl)
  · replace hf := ite_f c1 hf
    refine lv_iload_n hx hb dX11_far_4 rfl (lv_at hl 1 rfl) ?_
    refine lv_bipush (v := (60 : Int32)) hx hb dX11_far_5 (by decide) ?_
    refine lv_icmp_le (tgt := 12) hx hb dX11_far_7 (by decide) (fun c2 => ?_) (fun c2 => ?_)
    · replace hf := ite_t c2 hf
      refine lv_iload_n hx hb dX11_far_12 rfl (lv_at hl 1 rfl) ?_
      refine lv_bipush (v := (30 : Int32)) hx hb dX11_far_13 (by decide) ?_
      refine va_mmin hx hb (by rw [C.1.2.2.1]; exact hl.1.symm) C.1.2.2.2.1 (C.1.2.2.2.2 _ g_867) (C.1.2.2.2.2 _ g_567) (C.1.2.2.2.2 _ g_17) (C.1.2.2.2.2 _ g_568) (Nat.le_of_ble_eq_true rfl) (Nat.le_of_ble_eq_true rfl) (Nat.le_of_ble_eq_true rfl) (Nat.le_of_ble_eq_true rfl) dX11_far_15 ?_
      refine lv_topi (fun v3 ev3 => ?_)
      replace hf := lt_c ev3 hf
      refine lv_istore_n (lv' := [(2, .int v3), (0, .ref (b + 0)), (1, .int a1)]) hx hb dX11_far_18 rfl hl (by decide) rfl (fun ls hl => ?_)
      refine lv_iconst (v := (0 : Int32)) hx hb dX11_far_19 (by decide) ?_
      refine lv_istore_n (lv' := [(3, .int (0 : Int32)), (2, .int v3), (0, .ref (b + 0)), (1, .int a1)]) hx hb dX11_far_20 rfl hl (by decide) rfl (fun ls hl => ?_)
      refine lv_iconst (v := (0 : Int32)) hx hb dX11_far_21 (by decide) ?_
      refine lv_istore (lv' := [(4, .int (0 : Int32)), (3, .int (0 : Int32)), (2, .int v3), (0, .ref (b + 0)), (1, .int a1)]) hx hb dX11_far_22 hl (by decide) rfl (fun ls hl => ?_)
      exact w11_far_24 (n := n)  C hr hk q24 hf hP hS (lv_sub hl [3, 2, 1, 0] rfl)
    · replace hf := ite_f c2 hf
      exact w11_far_10 (n := n)  C hr hk q24 hf hP hS (lv_sub hl [] rfl)
set_option maxHeartbeats 4000000 in
set_option maxRecDepth 100000 in
theorem l11_far {p : Program} {l : Launch} {e : Env} {s : State} {m : MethodId} {args : Array Value} {below : List Frame} {meth : Method} {c : Code} {z : Zt} {b : Nat}  (C : Cx p s m args c cX11_far 5 RX11 z 339 b) (hr : meth.sig.returnType = (some .int)) (hk : meth.locks = false) {r : Int32} {M' : Mem} (n : Nat) : (∀ (i2 : Int32) (i3 : Int32) (i4 : Int32) (M : Mem) (H : Heap) (locs : List Loc) (ls : Array Slot), (r11_far  n) 24 [i2, i3, i4] [] M = some (r, M') → va_P z.1 vwCl (pw (xd z b) 339 b M) H → va_S (pA 339 b) s.heap H locs → lv_has ls 5 [(0, .ref (b + 0)), (2, .int i2), (3, .int i3), (4, .int i4)] → W p l e rm11_far s m args below meth c H locs 0 0 (MQ below (va_Qi (fun (r' : Int32) (M2 : Mem) => r' = r ∧ M2 = M') (fun M2 t => va_P z.1 vwCl (pw (xd z b) 339 b M2) t.heap) (pA 339 b)) args s 0 0 (pA 339 b)) (F0 m 24 ls [])) := by
  induction n with
  | zero => exact fun _ _ _ _ _ _ _ hf => (by cases hf)
  | succ n ih => exact fun _ _ _ _ _ _ _ hf hP hS hl => w11_far_24 (n := n)  C hr hk ih ((e11_far_24  n _ _ _ _).symm.trans hf) hP hS hl
theorem c11_far {l : Launch} {z : Zt} {b n : Nat}  {a1 : Int32} {M M' : Mem} {r : Int32} (hf : f11_far n  a1 M = some (r, M')) : CI l z (xd z b) 339 b yX11_far cX11_far 5 (some .int) rm11_far [.ref (b + 0), .int a1] M M' r :=
  CI.ofW (lv := [(0, .ref (b + 0)), (1, .int a1)]) (by decide) (Nat.le_of_ble_eq_true rfl) rfl (fun p e s m args below meth c ls C hr hk hP hS hl => w11_far_0 (n := n)  C hr hk (l11_far  C hr hk n) hf hP hS hl)

-- BronzeKing.calls(II)I
theorem dX11_calls_0 : decode cX11_calls 0 = .ok (.iload_n 2, 1) := by decide +kernel
theorem dX11_calls_1 : decode cX11_calls 1 = .ok (.ifCond .lt 13, 3) := by decide +kernel
theorem dX11_calls_4 : decode cX11_calls 4 = .ok (.iload_n 2, 1) := by decide +kernel
theorem dX11_calls_5 : decode cX11_calls 5 = .ok (.bipush 9, 2) := by decide +kernel
theorem dX11_calls_7 : decode cX11_calls 7 = .ok (.if_icmp .ge 7, 3) := by decide +kernel
theorem dX11_calls_10 : decode cX11_calls 10 = .ok (.iconst 1, 1) := by decide +kernel
theorem dX11_calls_11 : decode cX11_calls 11 = .ok (.goto 4, 3) := by decide +kernel
theorem dX11_calls_14 : decode cX11_calls 14 = .ok (.iconst 0, 1) := by decide +kernel
theorem dX11_calls_15 : decode cX11_calls 15 = .ok (.istore_n 3, 1) := by decide +kernel
theorem dX11_calls_16 : decode cX11_calls 16 = .ok (.iload_n 1, 1) := by decide +kernel
theorem dX11_calls_17 : decode cX11_calls 17 = .ok (.iconst 1, 1) := by decide +kernel
theorem dX11_calls_18 : decode cX11_calls 18 = .ok (.if_icmp .lt 25, 3) := by decide +kernel
theorem dX11_calls_21 : decode cX11_calls 21 = .ok (.iload_n 1, 1) := by decide +kernel
theorem dX11_calls_22 : decode cX11_calls 22 = .ok (.bipush 60, 2) := by decide +kernel
theorem dX11_calls_24 : decode cX11_calls 24 = .ok (.if_icmp .gt 19, 3) := by decide +kernel
theorem dX11_calls_27 : decode cX11_calls 27 = .ok (.iload_n 3, 1) := by decide +kernel
theorem dX11_calls_28 : decode cX11_calls 28 = .ok (.ifCond .ne 17, 3) := by decide +kernel
theorem dX11_calls_31 : decode cX11_calls 31 = .ok (.iload_n 2, 1) := by decide +kernel
theorem dX11_calls_32 : decode cX11_calls 32 = .ok (.bipush 100, 2) := by decide +kernel
theorem dX11_calls_34 : decode cX11_calls 34 = .ok (.if_icmp .eq 11, 3) := by decide +kernel
theorem dX11_calls_37 : decode cX11_calls 37 = .ok (.iload_n 2, 1) := by decide +kernel
theorem dX11_calls_38 : decode cX11_calls 38 = .ok (.bipush 101, 2) := by decide +kernel
theorem dX11_calls_40 : decode cX11_calls 40 = .ok (.if_icmp .eq 5, 3) := by decide +kernel
theorem dX11_calls_43 : decode cX11_calls 43 = .ok (.iconst (-1), 1) := by decide +kernel
theorem dX11_calls_44 : decode cX11_calls 44 = .ok (.ireturn, 1) := by decide +kernel
theorem dX11_calls_45 : decode cX11_calls 45 = .ok (.aload_n 0, 1) := by decide +kernel
theorem dX11_calls_46 : decode cX11_calls 46 = .ok (.getfield 74, 3) := by decide +kernel
theorem dX11_calls_49 : decode cX11_calls 49 = .ok (.iload_n 1, 1) := by decide +kernel
theorem dX11_calls_50 : decode cX11_calls 50 = .ok (.invokevirtual 220, 3) := by decide +kernel
theorem dX11_calls_53 : decode cX11_calls 53 = .ok (.iload_n 2, 1) := by decide +kernel
theorem dX11_calls_54 : decode cX11_calls 54 = .ok (.bipush 100, 2) := by decide +kernel
theorem dX11_calls_56 : decode cX11_calls 56 = .ok (.if_icmp .ne 11, 3) := by decide +kernel
theorem dX11_calls_59 : decode cX11_calls 59 = .ok (.aload_n 0, 1) := by decide +kernel
theorem dX11_calls_60 : decode cX11_calls 60 = .ok (.getfield 74, 3) := by decide +kernel
theorem dX11_calls_63 : decode cX11_calls 63 = .ok (.getfield 223, 3) := by decide +kernel
theorem dX11_calls_66 : decode cX11_calls 66 = .ok (.ireturn, 1) := by decide +kernel
theorem dX11_calls_67 : decode cX11_calls 67 = .ok (.iload_n 2, 1) := by decide +kernel
theorem dX11_calls_68 : decode cX11_calls 68 = .ok (.bipush 101, 2) := by decide +kernel
theorem dX11_calls_70 : decode cX11_calls 70 = .ok (.if_icmp .ne 11, 3) := by decide +kernel
theorem dX11_calls_73 : decode cX11_calls 73 = .ok (.aload_n 0, 1) := by decide +kernel
theorem dX11_calls_74 : decode cX11_calls 74 = .ok (.getfield 74, 3) := by decide +kernel
theorem dX11_calls_77 : decode cX11_calls 77 = .ok (.invokevirtual 226, 3) := by decide +kernel
theorem dX11_calls_80 : decode cX11_calls 80 = .ok (.ireturn, 1) := by decide +kernel
theorem dX11_calls_81 : decode cX11_calls 81 = .ok (.aload_n 0, 1) := by decide +kernel
theorem dX11_calls_82 : decode cX11_calls 82 = .ok (.getfield 74, 3) := by decide +kernel
theorem dX11_calls_85 : decode cX11_calls 85 = .ok (.iload_n 2, 1) := by decide +kernel
theorem dX11_calls_86 : decode cX11_calls 86 = .ok (.invokevirtual 230, 3) := by decide +kernel
theorem dX11_calls_89 : decode cX11_calls 89 = .ok (.ireturn, 1) := by decide +kernel
def b11_calls_43 (rc : Nat → List Int32 → List Int64 → Mem → Option (Int32 × Mem)) (n : Nat) (M : Mem) : Option (Int32 × Mem) :=
  some ((-1 : Int32), M)
def b11_calls_45 (rc : Nat → List Int32 → List Int64 → Mem → Option (Int32 × Mem)) (n : Nat) (i1 : Int32) (i2 : Int32) (M : Mem) : Option (Int32 × Mem) :=
  bnd (f5_choose n i1 M) fun r8 M9 =>
  (if i2 = (100 : Int32) then (
   some ((M9.1 326 5), M9))
  else (
   (if i2 = (101 : Int32) then (
    bnd (f5_stepsOfBest n M9) fun r16 M17 =>
    some (r16, M17))
   else (
    bnd (f5_doorOfBest n i2 M9) fun r13 M14 =>
    some (r13, M14)))))
def b11_calls_15 (rc : Nat → List Int32 → List Int64 → Mem → Option (Int32 × Mem)) (n : Nat) (i1 : Int32) (i2 : Int32) (s0 : Int32) (M : Mem) : Option (Int32 × Mem) :=
  (if i1 < (1 : Int32) then (
   b11_calls_43  rc n  M)
  else (
   (if (60 : Int32) < i1 then (
    b11_calls_43  rc n  M)
   else (
    (if s0 = 0 then (
     (if i2 = (100 : Int32) then (
      b11_calls_45  rc n i1 i2 M)
     else (
      (if i2 = (101 : Int32) then (
       b11_calls_45  rc n i1 i2 M)
      else (
       b11_calls_43  rc n  M)))))
    else (
     b11_calls_45  rc n i1 i2 M))))))
def b11_calls_14 (rc : Nat → List Int32 → List Int64 → Mem → Option (Int32 × Mem)) (n : Nat) (i1 : Int32) (i2 : Int32) (M : Mem) : Option (Int32 × Mem) :=
  b11_calls_15  rc n i1 i2 (0 : Int32) M
def b11_calls_0 (rc : Nat → List Int32 → List Int64 → Mem → Option (Int32 × Mem)) (n : Nat) (a1 : Int32) (a2 : Int32) (M : Mem) : Option (Int32 × Mem) :=
  (if a2 < 0 then (
   b11_calls_14  rc n a1 a2 M)
  else (
   (if (9 : Int32) ≤ a2 then (
    b11_calls_14  rc n a1 a2 M)
   else (
    b11_calls_15  rc n a1 a2 (1 : Int32) M))))
def f11_calls (n : Nat) (a1 : Int32) (a2 : Int32) (M : Mem) : Option (Int32 × Mem) := b11_calls_0 (fun _ _ _ _ => none) n a1 a2 M
abbrev rm11_calls : Room := { frames := 4, cells := 0, slots := 0, locals := 100 }
theorem y11_calls_w : yV RX11 yX11_calls cX11_calls 4 (some .int) 2 := ⟨g_869, g_870, g_1, g_871, rfl, by decide, by decide, by decide +kernel⟩
set_option maxHeartbeats 4000000 in
set_option maxRecDepth 100000 in
theorem w11_calls_43 {p : Program} {l : Launch} {e : Env} {s : State} {m : MethodId} {args : Array Value} {below : List Frame} {meth : Method} {c : Code} {z : Zt} {b : Nat}  (C : Cx p s m args c cX11_calls 4 RX11 z 339 b) (hr : meth.sig.returnType = (some .int)) (hk : meth.locks = false) {r : Int32} {M' : Mem} {rc : Nat → List Int32 → List Int64 → Mem → Option (Int32 × Mem)} {n : Nat}   {M : Mem} {H : Heap} {locs : List Loc} {ls : Array Slot} (hf : b11_calls_43  rc n  M = some (r, M')) (hP : va_P z.1 vwCl (pw (xd z b) 339 b M) H) (hS : va_S (pA 339 b) s.heap H locs) (hl : lv_has ls 4 []) : W p l e rm11_calls s m args below meth c H locs 0 0 (MQ below (va_Qi (fun (r' : Int32) (M2 : Mem) => r' = r ∧ M2 = M') (fun M2 t => va_P z.1 vwCl (pw (xd z b) 339 b M2) t.heap) (pA 339 b)) args s 0 0 (pA 339 b)) (F0 m 43 ls []) := by
  have hx := C.1.1
  have hb := C.1.2.1
  unfold b11_calls_43 at hf
  refine lv_iconst (v := (-1 : Int32)) hx hb dX11_calls_43 (by decide) ?_
  exact prI C hr hk hP hS hf dX11_calls_44
set_option maxHeartbeats 4000000 in
set_option maxRecDepth 100000 in
theorem w11_calls_45 {p : Program} {l : Launch} {e : Env} {s : State} {m : MethodId} {args : Array Value} {below : List Frame} {meth : Method} {c : Code} {z : Zt} {b : Nat}  (C : Cx p s m args c cX11_calls 4 RX11 z 339 b) (hr : meth.sig.returnType = (some .int)) (hk : meth.locks = false) {r : Int32} {M' : Mem} {rc : Nat → List Int32 → List Int64 → Mem → Option (Int32 × Mem)} {n : Nat}  {i1 : Int32} {i2 : Int32} {M : Mem} {H : Heap} {locs : List Loc} {ls : Array Slot} (hf : b11_calls_45  rc n i1 i2 M = some (r, M')) (hP : va_P z.1 vwCl (pw (xd z b) 339 b M) H) (hS : va_S (pA 339 b) s.heap H locs) (hl : lv_has ls 4 [(0, .ref (b + 0)), (1, .int i1), (2, .int i2)]) : W p l e rm11_calls s m args below meth c H locs 0 0 (MQ below (va_Qi (fun (r' : Int32) (M2 : Mem) => r' = r ∧ M2 = M') (fun M2 t => va_P z.1 vwCl (pw (xd z b) 339 b M2) t.heap) (pA 339 b)) args s 0 0 (pA 339 b)) (F0 m 45 ls []) := by
  have hx := C.1.1
  have hb := C.1.2.1
  unfold b11_calls_45 at hf
  refine lv_aload_n hx hb dX11_calls_45 rfl (lv_at hl 0 rfl) ?_
  refine pg C hP (k := 0) (j := 8) (Nat.le_of_ble_eq_true rfl) (xd_0 _ _) rfl iw_11 (Nat.le_of_ble_eq_true rfl) g_428 rfl rfl dX11_calls_46 ?_
  refine lv_iload_n hx hb dX11_calls_49 rfl (lv_at hl 1 rfl) ?_
  obtain ⟨r8, M9, h10, hf⟩ := bnd_s hf
  refine pcVv (As := [.int i1]) C hP hS (k := 326) (Nat.le_of_ble_eq_true rfl) (xd_326 _ _) rfl (c5_choose  h10) y5_choose_w g_872 rfl rfl rfl ⟨Nat.le_of_ble_eq_true rfl, Nat.le_of_ble_eq_true rfl⟩ hl.1 rfl (Nat.le_of_ble_eq_true rfl) dX11_calls_50 ⟨Nat.le_of_ble_eq_true rfl, Nat.le_of_ble_eq_true rfl⟩ (fun H locs hP hS => ?_)
  refine lv_iload_n hx hb dX11_calls_53 rfl (lv_at hl 2 rfl) ?_
  refine lv_bipush (v := (100 : Int32)) hx hb dX11_calls_54 (by decide) ?_
  refine lv_icmp_ne (tgt := 67) hx hb dX11_calls_56 (by decide) (fun c11 => ?_) (fun c11 => ?_)
  · replace hf := ite_f c11 hf
    refine lv_iload_n hx hb dX11_calls_67 rfl (lv_at hl 2 rfl) ?_
    refine lv_bipush (v := (101 : Int32)) hx hb dX11_calls_68 (by decide) ?_
    refine lv_icmp_ne (tgt := 81) hx hb dX11_calls_70 (by decide) (fun c12 => ?_) (fun c12 => ?_)
    · replace hf := ite_f c12 hf
      refine lv_aload_n hx hb dX11_calls_81 rfl (lv_at hl 0 rfl) ?_
      refine pg C hP (k := 0) (j := 8) (Nat.le_of_ble_eq_true rfl) (xd_0 _ _) rfl iw_11 (Nat.le_of_ble_eq_true rfl) g_428 rfl rfl dX11_calls_82 ?_
      refine lv_iload_n hx hb dX11_calls_85 rfl (lv_at hl 2 rfl) ?_
      obtain ⟨r13, M14, h15, hf⟩ := bnd_s hf
      refine pcVi (As := [.int i2]) C hP hS (k := 326) (Nat.le_of_ble_eq_true rfl) (xd_326 _ _) rfl (c5_doorOfBest  h15) y5_doorOfBest_w g_909 rfl rfl rfl ⟨Nat.le_of_ble_eq_true rfl, Nat.le_of_ble_eq_true rfl⟩ hl.1 rfl (Nat.le_of_ble_eq_true rfl) dX11_calls_86 ⟨Nat.le_of_ble_eq_true rfl, Nat.le_of_ble_eq_true rfl⟩ (fun H locs hP hS => ?_)
      exact prI C hr hk hP hS hf dX11_calls_89
    · replace hf := ite_t c12 hf
      refine lv_aload_n hx hb dX11_calls_73 rfl (lv_at hl 0 rfl) ?_
      refine pg C hP (k := 0) (j := 8) (Nat.le_of_ble_eq_true rfl) (xd_0 _ _) rfl iw_11 (Nat.le_of_ble_eq_true rfl) g_428 rfl rfl dX11_calls_74 ?_
      obtain ⟨r16, M17, h18, hf⟩ := bnd_s hf
      refine pcVi (As := []) C hP hS (k := 326) (Nat.le_of_ble_eq_true rfl) (xd_326 _ _) rfl (c5_stepsOfBest  h18) y5_stepsOfBest_w g_905 rfl rfl rfl ⟨Nat.le_of_ble_eq_true rfl, Nat.le_of_ble_eq_true rfl⟩ hl.1 rfl (Nat.le_of_ble_eq_true rfl) dX11_calls_77 ⟨Nat.le_of_ble_eq_true rfl, Nat.le_of_ble_eq_true rfl⟩ (fun H locs hP hS => ?_)
      exact prI C hr hk hP hS hf dX11_calls_80
  · replace hf := ite_t c11 hf
    refine lv_aload_n hx hb dX11_calls_59 rfl (lv_at hl 0 rfl) ?_
    refine pg C hP (k := 0) (j := 8) (Nat.le_of_ble_eq_true rfl) (xd_0 _ _) rfl iw_11 (Nat.le_of_ble_eq_true rfl) g_428 rfl rfl dX11_calls_60 ?_
    refine pgN C hP (k := 326) (j := 5) (Nat.le_of_ble_eq_true rfl) (xd_326 _ _) rfl iw_5 (Nat.le_of_ble_eq_true rfl) g_329 rfl rfl dX11_calls_63 ?_
    exact prI C hr hk hP hS hf dX11_calls_66
set_option maxHeartbeats 4000000 in
set_option maxRecDepth 100000 in
theorem w11_calls_15 {p : Program} {l : Launch} {e : Env} {s : State} {m : MethodId} {args : Array Value} {below : List Frame} {meth : Method} {c : Code} {z : Zt} {b : Nat}  (C : Cx p s m args c cX11_calls 4 RX11 z 339 b) (hr : meth.sig.returnType = (some .int)) (hk : meth.locks = false) {r : Int32} {M' : Mem} {rc : Nat → List Int32 → List Int64 → Mem → Option (Int32 × Mem)} {n : Nat}  {i1 : Int32} {i2 : Int32} {s0 : Int32} {M : Mem} {H : Heap} {locs : List Loc} {ls : Array Slot} (hf : b11_calls_15  rc n i1 i2 s0 M = some (r, M')) (hP : va_P z.1 vwCl (pw (xd z b) 339 b M) H) (hS : va_S (pA 339 b) s.heap H locs) (hl : lv_has ls 4 [(0, .ref (b + 0)), (1, .int i1), (2, .int i2)]) : W p l e rm11_calls s m args below meth c H locs 0 0 (MQ below (va_Qi (fun (r' : Int32) (M2 : Mem) => r' = r ∧ M2 = M') (fun M2 t => va_P z.1 vwCl (pw (xd z b) 339 b M2) t.heap) (pA 339 b)) args s 0 0 (pA 339 b)) (F0 m 15 ls [.int s0]) := by
  have hx := C.1.1
  have hb := C.1.2.1
  unfold b11_calls_15 at hf
  refine lv_istore_n (lv' := [(3, .int s0), (0, .ref (b + 0)), (1, .int i1), (2, .int i2)]) hx hb dX11_calls_15 rfl hl (by decide) rfl (fun ls hl => ?_)
  refine lv_iload_n hx hb dX11_calls_16 rfl (lv_at hl 2 rfl) ?_
  refine lv_iconst (v := (1 : Int32)) hx hb dX11_calls_17 (by decide) ?_
  refine lv_icmp_lt (tgt := 43) hx hb dX11_calls_18 (by decide) (fun c3 => ?_) (fun c3 => ?_)
  · replace hf := ite_t c3 hf
    exact w11_calls_43 (n := n)  C hr hk  hf hP hS (lv_sub hl [] rfl)
  · replace hf := ite_f c3 hf
    refine lv_iload_n hx hb dX11_calls_21 rfl (lv_at hl 2 rfl) ?_
    refine lv_bipush (v := (60 : Int32)) hx hb dX11_calls_22 (by decide) ?_
    refine lv_icmp_gt (tgt := 43) hx hb dX11_calls_24 (by decide) (fun c4 => ?_) (fun c4 => ?_)
    · replace hf := ite_t c4 hf
      exact w11_calls_43 (n := n)  C hr hk  hf hP hS (lv_sub hl [] rfl)
    · replace hf := ite_f c4 hf
      refine lv_iload_n hx hb dX11_calls_27 rfl (lv_at hl 0 rfl) ?_
      refine lv_if_ne (tgt := 45) hx hb dX11_calls_28 (by decide) (fun c5 => ?_) (fun c5 => ?_)
      · replace hf := ite_f c5 hf
        exact w11_calls_45 (n := n)  C hr hk  hf hP hS (lv_sub hl [1, 2, 3] rfl)
      · replace hf := ite_t c5 hf
        refine lv_iload_n hx hb dX11_calls_31 rfl (lv_at hl 3 rfl) ?_
        refine lv_bipush (v := (100 : Int32)) hx hb dX11_calls_32 (by decide) ?_
        refine lv_icmp_eq (tgt := 45) hx hb dX11_calls_34 (by decide) (fun c6 => ?_) (fun c6 => ?_)
        · replace hf := ite_t c6 hf
          exact w11_calls_45 (n := n)  C hr hk  hf hP hS (lv_sub hl [1, 2, 3] rfl)
        · replace hf := ite_f c6 hf
          refine lv_iload_n hx hb dX11_calls_37 rfl (lv_at hl 3 rfl) ?_
          refine lv_bipush (v := (101 : Int32)) hx hb dX11_calls_38 (by decide) ?_
          refine lv_icmp_eq (tgt := 45) hx hb dX11_calls_40 (by decide) (fun c7 => ?_) (fun c7 => ?_)
          · replace hf := ite_t c7 hf
            exact w11_calls_45 (n := n)  C hr hk  hf hP hS (lv_sub hl [1, 2, 3] rfl)
          · replace hf := ite_f c7 hf
            exact w11_calls_43 (n := n)  C hr hk  hf hP hS (lv_sub hl [] rfl)
set_option maxHeartbeats 4000000 in
set_option maxRecDepth 100000 in
theorem w11_calls_14 {p : Program} {l : Launch} {e : Env} {s : State} {m : MethodId} {args : Array Value} {below : List Frame} {meth : Method} {c : Code} {z : Zt} {b : Nat}  (C : Cx p s m args c cX11_calls 4 RX11 z 339 b) (hr : meth.sig.returnType = (some .int)) (hk : meth.locks = false) {r : Int32} {M' : Mem} {rc : Nat → List Int32 → List Int64 → Mem → Option (Int32 × Mem)} {n : Nat}  {i1 : Int32} {i2 : Int32} {M : Mem} {H : Heap} {locs : List Loc} {ls : Array Slot} (hf : b11_calls_14  rc n i1 i2 M = some (r, M')) (hP : va_P z.1 vwCl (pw (xd z b) 339 b M) H) (hS : va_S (pA 339 b) s.heap H locs) (hl : lv_has ls 4 [(0, .ref (b + 0)), (1, .int i1), (2, .int i2)]) : W p l e rm11_calls s m args below meth c H locs 0 0 (MQ below (va_Qi (fun (r' : Int32) (M2 : Mem) => r' = r ∧ M2 = M') (fun M2 t => va_P z.1 vwCl (pw (xd z b) 339 b M2) t.heap) (pA 339 b)) args s 0 0 (pA 339 b)) (F0 m 14 ls []) := by
  have hx := C.1.1
  have hb := C.1.2.1
  unfold b11_calls_14 at hf
  refine lv_iconst (v := (0 : Int32)) hx hb dX11_calls_14 (by decide) ?_
  exact w11_calls_15 (n := n)  C hr hk  hf hP hS (lv_sub hl [0, 1, 2] rfl)
set_option maxHeartbeats 4000000 in
set_option maxRecDepth 100000 in
theorem w11_calls_0 {p : Program} {l : Launch} {e : Env} {s : State} {m : MethodId} {args : Array Value} {below : List Frame} {meth : Method} {c : Code} {z : Zt} {b : Nat}  (C : Cx p s m args c cX11_calls 4 RX11 z 339 b) (hr : meth.sig.returnType = (some .int)) (hk : meth.locks = false) {r : Int32} {M' : Mem} {rc : Nat → List Int32 → List Int64 → Mem → Option (Int32 × Mem)} {n : Nat}  {a1 : Int32} {a2 : Int32} {M : Mem} {H : Heap} {locs : List Loc} {ls : Array Slot} (hf : b11_calls_0  rc n a1 a2 M = some (r, M')) (hP : va_P z.1 vwCl (pw (xd z b) 339 b M) H) (hS : va_S (pA 339 b) s.heap H locs) (hl : lv_has ls 4 [(0, .ref (b + 0)), (1, .int a1), (2, .int a2)]) : W p l e rm11_calls s m args below meth c H locs 0 0 (MQ below (va_Qi (fun (r' : Int32) (M2 : Mem) => r' = r ∧ M2 = M') (fun M2 t => va_P z.1 vwCl (pw (xd z b) 339 b M2) t.heap) (pA 339 b)) args s 0 0 (pA 339 b)) (F0 m 0 ls []) := by
  have hx := C.1.1
  have hb := C.1.2.1
  unfold b11_calls_0 at hf
  refine lv_iload_n hx hb dX11_calls_0 rfl (lv_at hl 2 rfl) ?_
  refine lv_if_lt (tgt := 14) hx hb dX11_calls_1 (by decide) (fun c1 => ?_) (fun c1 => ?_)
  · replace hf := ite_t c1 hf
    exact w11_calls_14 (n := n)  C hr hk  hf hP hS (lv_sub hl [0, 1, 2] rfl)
  · replace hf := ite_f c1 hf
    refine lv_iload_n hx hb dX11_calls_4 rfl (lv_at hl 2 rfl) ?_
    refine lv_bipush (v := (9 : Int32)) hx hb dX11_calls_5 (by decide) ?_
    refine lv_icmp_ge (tgt := 14) hx hb dX11_calls_7 (by decide) (fun c2 => ?_) (fun c2 => ?_)
    · replace hf := ite_t c2 hf
      exact w11_calls_14 (n := n)  C hr hk  hf hP hS (lv_sub hl [0, 1, 2] rfl)
    · replace hf := ite_f c2 hf
      refine lv_iconst (v := (1 : Int32)) hx hb dX11_calls_10 (by decide) ?_
      refine lv_goto (tgt := 15) hx hb dX11_calls_11 (by decide) ?_
      exact w11_calls_15 (n := n)  C hr hk  hf hP hS (lv_sub hl [0, 1, 2] rfl)
theorem c11_calls {l : Launch} {z : Zt} {b n : Nat}  {a1 : Int32} {a2 : Int32} {M M' : Mem} {r : Int32} (hf : f11_calls n  a1 a2 M = some (r, M')) : CI l z (xd z b) 339 b yX11_calls cX11_calls 4 (some .int) rm11_calls [.ref (b + 0), .int a1, .int a2] M M' r :=
  CI.ofW (lv := [(0, .ref (b + 0)), (1, .int a1), (2, .int a2)]) (by decide) (Nat.le_of_ble_eq_true rfl) rfl (fun p e s m args below meth c ls C hr hk hP hS hl => w11_calls_0 (n := n)  C hr hk  hf hP hS hl)

-- BronzeKing.old(II)I
theorem dX11_old_0 : decode cX11_old 0 = .ok (.iload_n 1, 1) := by decide +kernel
theorem dX11_old_1 : decode cX11_old 1 = .ok (.iload_n 2, 1) := by decide +kernel
theorem dX11_old_2 : decode cX11_old 2 = .ok (.invokestatic 98, 3) := by decide +kernel
theorem dX11_old_5 : decode cX11_old 5 = .ok (.istore_n 3, 1) := by decide +kernel
theorem dX11_old_6 : decode cX11_old 6 = .ok (.iload_n 3, 1) := by decide +kernel
theorem dX11_old_7 : decode cX11_old 7 = .ok (.iconst (-1), 1) := by decide +kernel
theorem dX11_old_8 : decode cX11_old 8 = .ok (.if_icmp .ne 5, 3) := by decide +kernel
theorem dX11_old_11 : decode cX11_old 11 = .ok (.iconst (-1), 1) := by decide +kernel
theorem dX11_old_12 : decode cX11_old 12 = .ok (.ireturn, 1) := by decide +kernel
theorem dX11_old_13 : decode cX11_old 13 = .ok (.aload_n 0, 1) := by decide +kernel
theorem dX11_old_14 : decode cX11_old 14 = .ok (.getfield 60, 3) := by decide +kernel
theorem dX11_old_17 : decode cX11_old 17 = .ok (.iload_n 3, 1) := by decide +kernel
theorem dX11_old_18 : decode cX11_old 18 = .ok (.invokevirtual 233, 3) := by decide +kernel
theorem dX11_old_21 : decode cX11_old 21 = .ok (.istore 4, 2) := by decide +kernel
theorem dX11_old_23 : decode cX11_old 23 = .ok (.iload 4, 2) := by decide +kernel
theorem dX11_old_25 : decode cX11_old 25 = .ok (.bipush 99, 2) := by decide +kernel
theorem dX11_old_27 : decode cX11_old 27 = .ok (.if_icmp .ne 8, 3) := by decide +kernel
theorem dX11_old_30 : decode cX11_old 30 = .ok (.bipush (-2), 2) := by decide +kernel
theorem dX11_old_32 : decode cX11_old 32 = .ok (.goto 5, 3) := by decide +kernel
theorem dX11_old_35 : decode cX11_old 35 = .ok (.iload 4, 2) := by decide +kernel
theorem dX11_old_37 : decode cX11_old 37 = .ok (.ireturn, 1) := by decide +kernel
def b11_old_0 (rc : Nat → List Int32 → List Int64 → Mem → Option (Int32 × Mem)) (n : Nat) (a1 : Int32) (a2 : Int32) (M : Mem) : Option (Int32 × Mem) :=
  bnd (f11_placeAt n a1 a2 M) fun r1 M2 =>
  (if r1 = (-1 : Int32) then (
   some ((-1 : Int32), M2))
  else (
   bnd (f6_stepsByOldMap n r1 M2) fun r5 M6 =>
   (if r5 = (99 : Int32) then (
    some ((-2 : Int32), M6))
   else (
    some (r5, M6)))))
def f11_old (n : Nat) (a1 : Int32) (a2 : Int32) (M : Mem) : Option (Int32 × Mem) := b11_old_0 (fun _ _ _ _ => none) n a1 a2 M
abbrev rm11_old : Room := { frames := 3, cells := 0, slots := 0, locals := 72 }
theorem y11_old_w : yV RX11 yX11_old cX11_old 5 (some .int) 2 := ⟨g_914, g_915, g_1, g_916, rfl, by decide, by decide, by decide +kernel⟩
set_option maxHeartbeats 4000000 in
set_option maxRecDepth 100000 in
theorem w11_old_0 {p : Program} {l : Launch} {e : Env} {s : State} {m : MethodId} {args : Array Value} {below : List Frame} {meth : Method} {c : Code} {z : Zt} {b : Nat}  (C : Cx p s m args c cX11_old 5 RX11 z 339 b) (hr : meth.sig.returnType = (some .int)) (hk : meth.locks = false) {r : Int32} {M' : Mem} {rc : Nat → List Int32 → List Int64 → Mem → Option (Int32 × Mem)} {n : Nat}  {a1 : Int32} {a2 : Int32} {M : Mem} {H : Heap} {locs : List Loc} {ls : Array Slot} (hf : b11_old_0  rc n a1 a2 M = some (r, M')) (hP : va_P z.1 vwCl (pw (xd z b) 339 b M) H) (hS : va_S (pA 339 b) s.heap H locs) (hl : lv_has ls 5 [(0, .ref (b + 0)), (1, .int a1), (2, .int a2)]) : W p l e rm11_old s m args below meth c H locs 0 0 (MQ below (va_Qi (fun (r' : Int32) (M2 : Mem) => r' = r ∧ M2 = M') (fun M2 t => va_P z.1 vwCl (pw (xd z b) 339 b M2) t.heap) (pA 339 b)) args s 0 0 (pA 339 b)) (F0 m 0 ls []) := by
  have hx := C.1.1
  have hb := C.1.2.1
  unfold b11_old_0 at hf
  refine lv_iload_n hx hb dX11_old_0 rfl (lv_at hl 1 rfl) ?_
  refine lv_iload_n hx hb dX11_old_1 rfl (lv_at hl 2 rfl) ?_
  obtain ⟨r1, M2, h3, hf⟩ := bnd_s hf
  refine pcSi (As := [.int a1, .int a2]) C hP hS (c11_placeAt  h3) y11_placeAt_w g_464 rfl rfl rfl ⟨Nat.le_of_ble_eq_true rfl, Nat.le_of_ble_eq_true rfl⟩ hl.1 rfl (Nat.le_of_ble_eq_true rfl) dX11_old_2 ⟨Nat.le_of_ble_eq_true rfl, Nat.le_of_ble_eq_true rfl⟩ (fun H locs hP hS => ?_)
  refine lv_istore_n (lv' := [(3, .int r1), (0, .ref (b + 0)), (1, .int a1), (2, .int a2)]) hx hb dX11_old_5 rfl hl (by decide) rfl (fun ls hl => ?_)
  refine lv_iload_n hx hb dX11_old_6 rfl (lv_at hl 0 rfl) ?_
  refine lv_iconst (v := (-1 : Int32)) hx hb dX11_old_7 (by decide) ?_
  refine lv_icmp_ne (tgt := 13) hx hb dX11_old_8 (by decide) (fun c4 => ?_) (fun c4 => ?_)
  · replace hf := ite_f c4 hf
    refine lv_aload_n hx hb dX11_old_13 rfl (lv_at hl 1 rfl) ?_
    refine pg C hP (k := 0) (j := 6) (Nat.le_of_ble_eq_true rfl) (xd_0 _ _) rfl iw_11 (Nat.le_of_ble_eq_true rfl) g_426 rfl rfl dX11_old_14 ?_
    refine lv_iload_n hx hb dX11_old_17 rfl (lv_at hl 0 rfl) ?_
    obtain ⟨r5, M6, h7, hf⟩ := bnd_s hf
    refine pcVi (As := [.int r1]) C hP hS (k := 27) (Nat.le_of_ble_eq_true rfl) (xd_27 _ _) rfl (c6_stepsByOldMap  h7) y6_stepsByOldMap_w g_917 rfl rfl rfl ⟨Nat.le_of_ble_eq_true rfl, Nat.le_of_ble_eq_true rfl⟩ hl.1 rfl (Nat.le_of_ble_eq_true rfl) dX11_old_18 ⟨Nat.le_of_ble_eq_true rfl, Nat.le_of_ble_eq_true rfl⟩ (fun H locs hP hS => ?_)
    refine lv_istore (lv' := [(4, .int r5), (3, .int r1), (0, .ref (b + 0)), (1, .int a1), (2, .int a2)]) hx hb dX11_old_21 hl (by decide) rfl (fun ls hl => ?_)
    refine lv_iload hx hb dX11_old_23 (lv_at hl 0 rfl) ?_
    refine lv_bipush (v := (99 : Int32)) hx hb dX11_old_25 (by decide) ?_
    refine lv_icmp_ne (tgt := 35) hx hb dX11_old_27 (by decide) (fun c8 => ?_) (fun c8 => ?_)
    · replace hf := ite_f c8 hf
      refine lv_iload hx hb dX11_old_35 (lv_at hl 0 rfl) ?_
      exact prI C hr hk hP hS hf dX11_old_37
    · replace hf := ite_t c8 hf
      refine lv_bipush (v := (-2 : Int32)) hx hb dX11_old_30 (by decide) ?_
      refine lv_goto (tgt := 37) hx hb dX11_old_32 (by decide) ?_
      exact prI C hr hk hP hS hf dX11_old_37
  · replace hf := ite_t c4 hf
    refine lv_iconst (v := (-1 : Int32)) hx hb dX11_old_11 (by decide) ?_
    exact prI C hr hk hP hS hf dX11_old_12
theorem c11_old {l : Launch} {z : Zt} {b n : Nat}  {a1 : Int32} {a2 : Int32} {M M' : Mem} {r : Int32} (hf : f11_old n  a1 a2 M = some (r, M')) : CI l z (xd z b) 339 b yX11_old cX11_old 5 (some .int) rm11_old [.ref (b + 0), .int a1, .int a2] M M' r :=
  CI.ofW (lv := [(0, .ref (b + 0)), (1, .int a1), (2, .int a2)]) (by decide) (Nat.le_of_ble_eq_true rfl) rfl (fun p e s m args below meth c ls C hr hk hP hS hl => w11_old_0 (n := n)  C hr hk  hf hP hS hl)

-- BronzeKing.barred(III)I
theorem dX11_barred_0 : decode cX11_barred 0 = .ok (.iload_n 1, 1) := by decide +kernel
theorem dX11_barred_1 : decode cX11_barred 1 = .ok (.iload_n 2, 1) := by decide +kernel
theorem dX11_barred_2 : decode cX11_barred 2 = .ok (.invokestatic 98, 3) := by decide +kernel
theorem dX11_barred_5 : decode cX11_barred 5 = .ok (.istore 4, 2) := by decide +kernel
theorem dX11_barred_7 : decode cX11_barred 7 = .ok (.iload 4, 2) := by decide +kernel
theorem dX11_barred_9 : decode cX11_barred 9 = .ok (.iconst (-1), 1) := by decide +kernel
theorem dX11_barred_10 : decode cX11_barred 10 = .ok (.if_icmp .eq 12, 3) := by decide +kernel
theorem dX11_barred_13 : decode cX11_barred 13 = .ok (.iload_n 3, 1) := by decide +kernel
theorem dX11_barred_14 : decode cX11_barred 14 = .ok (.ifCond .lt 8, 3) := by decide +kernel
theorem dX11_barred_17 : decode cX11_barred 17 = .ok (.iload_n 3, 1) := by decide +kernel
theorem dX11_barred_18 : decode cX11_barred 18 = .ok (.iconst 1, 1) := by decide +kernel
theorem dX11_barred_19 : decode cX11_barred 19 = .ok (.if_icmp .le 5, 3) := by decide +kernel
theorem dX11_barred_22 : decode cX11_barred 22 = .ok (.iconst (-1), 1) := by decide +kernel
theorem dX11_barred_23 : decode cX11_barred 23 = .ok (.ireturn, 1) := by decide +kernel
theorem dX11_barred_24 : decode cX11_barred 24 = .ok (.aload_n 0, 1) := by decide +kernel
theorem dX11_barred_25 : decode cX11_barred 25 = .ok (.getfield 60, 3) := by decide +kernel
theorem dX11_barred_28 : decode cX11_barred 28 = .ok (.iload 4, 2) := by decide +kernel
theorem dX11_barred_30 : decode cX11_barred 30 = .ok (.iload_n 3, 1) := by decide +kernel
theorem dX11_barred_31 : decode cX11_barred 31 = .ok (.iconst 1, 1) := by decide +kernel
theorem dX11_barred_32 : decode cX11_barred 32 = .ok (.if_icmp .ne 7, 3) := by decide +kernel
theorem dX11_barred_35 : decode cX11_barred 35 = .ok (.iconst 1, 1) := by decide +kernel
theorem dX11_barred_36 : decode cX11_barred 36 = .ok (.goto 4, 3) := by decide +kernel
theorem dX11_barred_39 : decode cX11_barred 39 = .ok (.iconst 0, 1) := by decide +kernel
theorem dX11_barred_40 : decode cX11_barred 40 = .ok (.invokevirtual 236, 3) := by decide +kernel
theorem dX11_barred_43 : decode cX11_barred 43 = .ok (.ireturn, 1) := by decide +kernel
def b11_barred_22 (rc : Nat → List Int32 → List Int64 → Mem → Option (Int32 × Mem)) (n : Nat) (M : Mem) : Option (Int32 × Mem) :=
  some ((-1 : Int32), M)
def b11_barred_40 (rc : Nat → List Int32 → List Int64 → Mem → Option (Int32 × Mem)) (n : Nat) (s1 : Int32) (s2 : Int32) (M : Mem) : Option (Int32 × Mem) :=
  bnd (f6_newWallsTo n s1 s2 M) fun r8 M9 =>
  some (r8, M9)
def b11_barred_0 (rc : Nat → List Int32 → List Int64 → Mem → Option (Int32 × Mem)) (n : Nat) (a1 : Int32) (a2 : Int32) (a3 : Int32) (M : Mem) : Option (Int32 × Mem) :=
  bnd (f11_placeAt n a1 a2 M) fun r1 M2 =>
  (if r1 = (-1 : Int32) then (
   b11_barred_22  rc n  M2)
  else (
   (if a3 < 0 then (
    b11_barred_22  rc n  M2)
   else (
    (if a3 ≤ (1 : Int32) then (
     (if a3 = (1 : Int32) then (
      b11_barred_40  rc n r1 (1 : Int32) M2)
     else (
      b11_barred_40  rc n r1 (0 : Int32) M2)))
    else (
     b11_barred_22  rc n  M2))))))
def f11_barred (n : Nat) (a1 : Int32) (a2 : Int32) (a3 : Int32) (M : Mem) : Option (Int32 × Mem) := b11_barred_0 (fun _ _ _ _ => none) n a1 a2 a3 M
abbrev rm11_barred : Room := { frames := 4, cells := 0, slots := 0, locals := 96 }
theorem y11_barred_w : yV RX11 yX11_barred cX11_barred 5 (some .int) 3 := ⟨g_923, g_924, g_1, g_925, rfl, by decide, by decide, by decide +kernel⟩
set_option maxHeartbeats 4000000 in
set_option maxRecDepth 100000 in
theorem w11_barred_22 {p : Program} {l : Launch} {e : Env} {s : State} {m : MethodId} {args : Array Value} {below : List Frame} {meth : Method} {c : Code} {z : Zt} {b : Nat}  (C : Cx p s m args c cX11_barred 5 RX11 z 339 b) (hr : meth.sig.returnType = (some .int)) (hk : meth.locks = false) {r : Int32} {M' : Mem} {rc : Nat → List Int32 → List Int64 → Mem → Option (Int32 × Mem)} {n : Nat}   {M : Mem} {H : Heap} {locs : List Loc} {ls : Array Slot} (hf : b11_barred_22  rc n  M = some (r, M')) (hP : va_P z.1 vwCl (pw (xd z b) 339 b M) H) (hS : va_S (pA 339 b) s.heap H locs) (hl : lv_has ls 5 []) : W p l e rm11_barred s m args below meth c H locs 0 0 (MQ below (va_Qi (fun (r' : Int32) (M2 : Mem) => r' = r ∧ M2 = M') (fun M2 t => va_P z.1 vwCl (pw (xd z b) 339 b M2) t.heap) (pA 339 b)) args s 0 0 (pA 339 b)) (F0 m 22 ls []) := by
  have hx := C.1.1
  have hb := C.1.2.1
  unfold b11_barred_22 at hf
  refine lv_iconst (v := (-1 : Int32)) hx hb dX11_barred_22 (by decide) ?_
  exact prI C hr hk hP hS hf dX11_barred_23
set_option maxHeartbeats 4000000 in
set_option maxRecDepth 100000 in
theorem w11_barred_40 {p : Program} {l : Launch} {e : Env} {s : State} {m : MethodId} {args : Array Value} {below : List Frame} {meth : Method} {c : Code} {z : Zt} {b : Nat}  (C : Cx p s m args c cX11_barred 5 RX11 z 339 b) (hr : meth.sig.returnType = (some .int)) (hk : meth.locks = false) {r : Int32} {M' : Mem} {rc : Nat → List Int32 → List Int64 → Mem → Option (Int32 × Mem)} {n : Nat}  {s1 : Int32} {s2 : Int32} {M : Mem} {H : Heap} {locs : List Loc} {ls : Array Slot} (hf : b11_barred_40  rc n s1 s2 M = some (r, M')) (hP : va_P z.1 vwCl (pw (xd z b) 339 b M) H) (hS : va_S (pA 339 b) s.heap H locs) (hl : lv_has ls 5 []) : W p l e rm11_barred s m args below meth c H locs 0 0 (MQ below (va_Qi (fun (r' : Int32) (M2 : Mem) => r' = r ∧ M2 = M') (fun M2 t => va_P z.1 vwCl (pw (xd z b) 339 b M2) t.heap) (pA 339 b)) args s 0 0 (pA 339 b)) (F0 m 40 ls [.int s2, .int s1, .ref (b + 27)]) := by
  have hx := C.1.1
  have hb := C.1.2.1
  unfold b11_barred_40 at hf
  obtain ⟨r8, M9, h10, hf⟩ := bnd_s hf
  refine pcVi (As := [.int s1, .int s2]) C hP hS (k := 27) (Nat.le_of_ble_eq_true rfl) (xd_27 _ _) rfl (c6_newWallsTo  h10) y6_newWallsTo_w g_926 rfl rfl rfl ⟨Nat.le_of_ble_eq_true rfl, Nat.le_of_ble_eq_true rfl⟩ hl.1 rfl (Nat.le_of_ble_eq_true rfl) dX11_barred_40 ⟨Nat.le_of_ble_eq_true rfl, Nat.le_of_ble_eq_true rfl⟩ (fun H locs hP hS => ?_)
  exact prI C hr hk hP hS hf dX11_barred_43
set_option maxHeartbeats 4000000 in
set_option maxRecDepth 100000 in
theorem w11_barred_0 {p : Program} {l : Launch} {e : Env} {s : State} {m : MethodId} {args : Array Value} {below : List Frame} {meth : Method} {c : Code} {z : Zt} {b : Nat}  (C : Cx p s m args c cX11_barred 5 RX11 z 339 b) (hr : meth.sig.returnType = (some .int)) (hk : meth.locks = false) {r : Int32} {M' : Mem} {rc : Nat → List Int32 → List Int64 → Mem → Option (Int32 × Mem)} {n : Nat}  {a1 : Int32} {a2 : Int32} {a3 : Int32} {M : Mem} {H : Heap} {locs : List Loc} {ls : Array Slot} (hf : b11_barred_0  rc n a1 a2 a3 M = some (r, M')) (hP : va_P z.1 vwCl (pw (xd z b) 339 b M) H) (hS : va_S (pA 339 b) s.heap H locs) (hl : lv_has ls 5 [(0, .ref (b + 0)), (1, .int a1), (2, .int a2), (3, .int a3)]) : W p l e rm11_barred s m args below meth c H locs 0 0 (MQ below (va_Qi (fun (r' : Int32) (M2 : Mem) => r' = r ∧ M2 = M') (fun M2 t => va_P z.1 vwCl (pw (xd z b) 339 b M2) t.heap) (pA 339 b)) args s 0 0 (pA 339 b)) (F0 m 0 ls []) := by
  have hx := C.1.1
  have hb := C.1.2.1
  unfold b11_barred_0 at hf
  refine lv_iload_n hx hb dX11_barred_0 rfl (lv_at hl 1 rfl) ?_
  refine lv_iload_n hx hb dX11_barred_1 rfl (lv_at hl 2 rfl) ?_
  obtain ⟨r1, M2, h3, hf⟩ := bnd_s hf
  refine pcSi (As := [.int a1, .int a2]) C hP hS (c11_placeAt  h3) y11_placeAt_w g_464 rfl rfl rfl ⟨Nat.le_of_ble_eq_true rfl, Nat.le_of_ble_eq_true rfl⟩ hl.1 rfl (Nat.le_of_ble_eq_true rfl) dX11_barred_2 ⟨Nat.le_of_ble_eq_true rfl, Nat.le_of_ble_eq_true rfl⟩ (fun H locs hP hS => ?_)
  refine lv_istore (lv' := [(4, .int r1), (0, .ref (b + 0)), (1, .int a1), (2, .int a2), (3, .int a3)]) hx hb dX11_barred_5 hl (by decide) rfl (fun ls hl => ?_)
  refine lv_iload hx hb dX11_barred_7 (lv_at hl 0 rfl) ?_
  refine lv_iconst (v := (-1 : Int32)) hx hb dX11_barred_9 (by decide) ?_
  refine lv_icmp_eq (tgt := 22) hx hb dX11_barred_10 (by decide) (fun c4 => ?_) (fun c4 => ?_)
  · replace hf := ite_t c4 hf
    exact w11_barred_22 (n := n)  C hr hk  hf hP hS (lv_sub hl [] rfl)
  · replace hf := ite_f c4 hf
    refine lv_iload_n hx hb dX11_barred_13 rfl (lv_at hl 4 rfl) ?_
    refine lv_if_lt (tgt := 22) hx hb dX11_barred_14 (by decide) (fun c5 => ?_) (fun c5 => ?_)
    · replace hf := ite_t c5 hf
      exact w11_barred_22 (n := n)  C hr hk  hf hP hS (lv_sub hl [] rfl)
    · replace hf := ite_f c5 hf
      refine lv_iload_n hx hb dX11_barred_17 rfl (lv_at hl 4 rfl) ?_
      refine lv_iconst (v := (1 : Int32)) hx hb dX11_barred_18 (by decide) ?_
      refine lv_icmp_le (tgt := 24) hx hb dX11_barred_19 (by decide) (fun c6 => ?_) (fun c6 => ?_)
      · replace hf := ite_t c6 hf
        refine lv_aload_n hx hb dX11_barred_24 rfl (lv_at hl 1 rfl) ?_
        refine pg C hP (k := 0) (j := 6) (Nat.le_of_ble_eq_true rfl) (xd_0 _ _) rfl iw_11 (Nat.le_of_ble_eq_true rfl) g_426 rfl rfl dX11_barred_25 ?_
        refine lv_iload hx hb dX11_barred_28 (lv_at hl 0 rfl) ?_
        refine lv_iload_n hx hb dX11_barred_30 rfl (lv_at hl 4 rfl) ?_
        refine lv_iconst (v := (1 : Int32)) hx hb dX11_barred_31 (by decide) ?_
        refine lv_icmp_ne (tgt := 39) hx hb dX11_barred_32 (by decide) (fun c7 => ?_) (fun c7 => ?_)
        · replace hf := ite_f c7 hf
          refine lv_iconst (v := (0 : Int32)) hx hb dX11_barred_39 (by decide) ?_
          exact w11_barred_40 (n := n)  C hr hk  hf hP hS (lv_sub hl [] rfl)
        · replace hf := ite_t c7 hf
          refine lv_iconst (v := (1 : Int32)) hx hb dX11_barred_35 (by decide) ?_
          refine lv_goto (tgt := 40) hx hb dX11_barred_36 (by decide) ?_
          exact w11_barred_40 (n := n)  C hr hk  hf hP hS (lv_sub hl [] rfl)
      · replace hf := ite_f c6 hf
        exact w11_barred_22 (n := n)  C hr hk  hf hP hS (lv_sub hl [] rfl)
theorem c11_barred {l : Launch} {z : Zt} {b n : Nat}  {a1 : Int32} {a2 : Int32} {a3 : Int32} {M M' : Mem} {r : Int32} (hf : f11_barred n  a1 a2 a3 M = some (r, M')) : CI l z (xd z b) 339 b yX11_barred cX11_barred 5 (some .int) rm11_barred [.ref (b + 0), .int a1, .int a2, .int a3] M M' r :=
  CI.ofW (lv := [(0, .ref (b + 0)), (1, .int a1), (2, .int a2), (3, .int a3)]) (by decide) (Nat.le_of_ble_eq_true rfl) rfl (fun p e s m args below meth c ls C hr hk hP hS hl => w11_barred_0 (n := n)  C hr hk  hf hP hS hl)

-- BronzeKing.chase(II)I
theorem dX11_chase_0 : decode cX11_chase 0 = .ok (.aload_n 0, 1) := by decide +kernel
theorem dX11_chase_1 : decode cX11_chase 1 = .ok (.getfield 19, 3) := by decide +kernel
theorem dX11_chase_4 : decode cX11_chase 4 = .ok (.iload_n 1, 1) := by decide +kernel
theorem dX11_chase_5 : decode cX11_chase 5 = .ok (.invokevirtual 240, 3) := by decide +kernel
theorem dX11_chase_8 : decode cX11_chase 8 = .ok (.ifCond .eq 14, 3) := by decide +kernel
theorem dX11_chase_11 : decode cX11_chase 11 = .ok (.aload_n 0, 1) := by decide +kernel
theorem dX11_chase_12 : decode cX11_chase 12 = .ok (.getfield 19, 3) := by decide +kernel
theorem dX11_chase_15 : decode cX11_chase 15 = .ok (.iload_n 2, 1) := by decide +kernel
theorem dX11_chase_16 : decode cX11_chase 16 = .ok (.invokevirtual 240, 3) := by decide +kernel
theorem dX11_chase_19 : decode cX11_chase 19 = .ok (.ifCond .ne 5, 3) := by decide +kernel
theorem dX11_chase_22 : decode cX11_chase 22 = .ok (.iconst (-1), 1) := by decide +kernel
theorem dX11_chase_23 : decode cX11_chase 23 = .ok (.ireturn, 1) := by decide +kernel
theorem dX11_chase_24 : decode cX11_chase 24 = .ok (.aload_n 0, 1) := by decide +kernel
theorem dX11_chase_25 : decode cX11_chase 25 = .ok (.getfield 67, 3) := by decide +kernel
theorem dX11_chase_28 : decode cX11_chase 28 = .ok (.iload_n 1, 1) := by decide +kernel
theorem dX11_chase_29 : decode cX11_chase 29 = .ok (.iload_n 2, 1) := by decide +kernel
theorem dX11_chase_30 : decode cX11_chase 30 = .ok (.invokevirtual 243, 3) := by decide +kernel
theorem dX11_chase_33 : decode cX11_chase 33 = .ok (.ireturn, 1) := by decide +kernel
def b11_chase_22 (rc : Nat → List Int32 → List Int64 → Mem → Option (Int32 × Mem)) (n : Nat) (M : Mem) : Option (Int32 × Mem) :=
  some ((-1 : Int32), M)
def b11_chase_0 (rc : Nat → List Int32 → List Int64 → Mem → Option (Int32 × Mem)) (n : Nat) (a1 : Int32) (a2 : Int32) (M : Mem) : Option (Int32 × Mem) :=
  bnd (f8_isOpen n a1 M) fun r1 M2 =>
  (if r1 = 0 then (
   b11_chase_22  rc n  M2)
  else (
   bnd (f8_isOpen n a2 M2) fun r5 M6 =>
   (if r5 = 0 then (
    b11_chase_22  rc n  M6)
   else (
    bnd (f1_movesToCatch n a1 a2 M6) fun r9 M10 =>
    some (r9, M10)))))
def f11_chase (n : Nat) (a1 : Int32) (a2 : Int32) (M : Mem) : Option (Int32 × Mem) := b11_chase_0 (fun _ _ _ _ => none) n a1 a2 M
abbrev rm11_chase : Room := { frames := 4, cells := 0, slots := 0, locals := 91 }
theorem y11_chase_w : yV RX11 yX11_chase cX11_chase 3 (some .int) 2 := ⟨g_939, g_940, g_1, g_941, rfl, by decide, by decide, by decide +kernel⟩
set_option maxHeartbeats 4000000 in
set_option maxRecDepth 100000 in
theorem w11_chase_22 {p : Program} {l : Launch} {e : Env} {s : State} {m : MethodId} {args : Array Value} {below : List Frame} {meth : Method} {c : Code} {z : Zt} {b : Nat}  (C : Cx p s m args c cX11_chase 3 RX11 z 339 b) (hr : meth.sig.returnType = (some .int)) (hk : meth.locks = false) {r : Int32} {M' : Mem} {rc : Nat → List Int32 → List Int64 → Mem → Option (Int32 × Mem)} {n : Nat}   {M : Mem} {H : Heap} {locs : List Loc} {ls : Array Slot} (hf : b11_chase_22  rc n  M = some (r, M')) (hP : va_P z.1 vwCl (pw (xd z b) 339 b M) H) (hS : va_S (pA 339 b) s.heap H locs) (hl : lv_has ls 3 []) : W p l e rm11_chase s m args below meth c H locs 0 0 (MQ below (va_Qi (fun (r' : Int32) (M2 : Mem) => r' = r ∧ M2 = M') (fun M2 t => va_P z.1 vwCl (pw (xd z b) 339 b M2) t.heap) (pA 339 b)) args s 0 0 (pA 339 b)) (F0 m 22 ls []) := by
  have hx := C.1.1
  have hb := C.1.2.1
  unfold b11_chase_22 at hf
  refine lv_iconst (v := (-1 : Int32)) hx hb dX11_chase_22 (by decide) ?_
  exact prI C hr hk hP hS hf dX11_chase_23
set_option maxHeartbeats 4000000 in
set_option maxRecDepth 100000 in
theorem w11_chase_0 {p : Program} {l : Launch} {e : Env} {s : State} {m : MethodId} {args : Array Value} {below : List Frame} {meth : Method} {c : Code} {z : Zt} {b : Nat}  (C : Cx p s m args c cX11_chase 3 RX11 z 339 b) (hr : meth.sig.returnType = (some .int)) (hk : meth.locks = false) {r : Int32} {M' : Mem} {rc : Nat → List Int32 → List Int64 → Mem → Option (Int32 × Mem)} {n : Nat}  {a1 : Int32} {a2 : Int32} {M : Mem} {H : Heap} {locs : List Loc} {ls : Array Slot} (hf : b11_chase_0  rc n a1 a2 M = some (r, M')) (hP : va_P z.1 vwCl (pw (xd z b) 339 b M) H) (hS : va_S (pA 339 b) s.heap H locs) (hl : lv_has ls 3 [(0, .ref (b + 0)), (1, .int a1), (2, .int a2)]) : W p l e rm11_chase s m args below meth c H locs 0 0 (MQ below (va_Qi (fun (r' : Int32) (M2 : Mem) => r' = r ∧ M2 = M') (fun M2 t => va_P z.1 vwCl (pw (xd z b) 339 b M2) t.heap) (pA 339 b)) args s 0 0 (pA 339 b)) (F0 m 0 ls []) := by
  have hx := C.1.1
  have hb := C.1.2.1
  unfold b11_chase_0 at hf
  refine lv_aload_n hx hb dX11_chase_0 rfl (lv_at hl 0 rfl) ?_
  refine pg C hP (k := 0) (j := 1) (Nat.le_of_ble_eq_true rfl) (xd_0 _ _) rfl iw_11 (Nat.le_of_ble_eq_true rfl) g_421 rfl rfl dX11_chase_1 ?_
  refine lv_iload_n hx hb dX11_chase_4 rfl (lv_at hl 1 rfl) ?_
  obtain ⟨r1, M2, h3, hf⟩ := bnd_s hf
  refine pcVi (As := [.int a1]) C hP hS (k := 3) (Nat.le_of_ble_eq_true rfl) (xd_3 _ _) rfl (c8_isOpen  h3) y8_isOpen_w g_942 rfl rfl rfl ⟨Nat.le_of_ble_eq_true rfl, Nat.le_of_ble_eq_true rfl⟩ hl.1 rfl (Nat.le_of_ble_eq_true rfl) dX11_chase_5 ⟨Nat.le_of_ble_eq_true rfl, Nat.le_of_ble_eq_true rfl⟩ (fun H locs hP hS => ?_)
  refine lv_if_eq (tgt := 22) hx hb dX11_chase_8 (by decide) (fun c4 => ?_) (fun c4 => ?_)
  · replace hf := ite_t c4 hf
    exact w11_chase_22 (n := n)  C hr hk  hf hP hS (lv_sub hl [] rfl)
  · replace hf := ite_f c4 hf
    refine lv_aload_n hx hb dX11_chase_11 rfl (lv_at hl 0 rfl) ?_
    refine pg C hP (k := 0) (j := 1) (Nat.le_of_ble_eq_true rfl) (xd_0 _ _) rfl iw_11 (Nat.le_of_ble_eq_true rfl) g_421 rfl rfl dX11_chase_12 ?_
    refine lv_iload_n hx hb dX11_chase_15 rfl (lv_at hl 2 rfl) ?_
    obtain ⟨r5, M6, h7, hf⟩ := bnd_s hf
    refine pcVi (As := [.int a2]) C hP hS (k := 3) (Nat.le_of_ble_eq_true rfl) (xd_3 _ _) rfl (c8_isOpen  h7) y8_isOpen_w g_942 rfl rfl rfl ⟨Nat.le_of_ble_eq_true rfl, Nat.le_of_ble_eq_true rfl⟩ hl.1 rfl (Nat.le_of_ble_eq_true rfl) dX11_chase_16 ⟨Nat.le_of_ble_eq_true rfl, Nat.le_of_ble_eq_true rfl⟩ (fun H locs hP hS => ?_)
    refine lv_if_ne (tgt := 24) hx hb dX11_chase_19 (by decide) (fun c8 => ?_) (fun c8 => ?_)
    · replace hf := ite_f c8 hf
      refine lv_aload_n hx hb dX11_chase_24 rfl (lv_at hl 0 rfl) ?_
      refine pg C hP (k := 0) (j := 7) (Nat.le_of_ble_eq_true rfl) (xd_0 _ _) rfl iw_11 (Nat.le_of_ble_eq_true rfl) g_427 rfl rfl dX11_chase_25 ?_
      refine lv_iload_n hx hb dX11_chase_28 rfl (lv_at hl 1 rfl) ?_
      refine lv_iload_n hx hb dX11_chase_29 rfl (lv_at hl 2 rfl) ?_
      obtain ⟨r9, M10, h11, hf⟩ := bnd_s hf
      refine pcVi (As := [.int a1, .int a2]) C hP hS (k := 131) (Nat.le_of_ble_eq_true rfl) (xd_131 _ _) rfl (c1_movesToCatch  h11) y1_movesToCatch_w g_943 rfl rfl rfl ⟨Nat.le_of_ble_eq_true rfl, Nat.le_of_ble_eq_true rfl⟩ hl.1 rfl (Nat.le_of_ble_eq_true rfl) dX11_chase_30 ⟨Nat.le_of_ble_eq_true rfl, Nat.le_of_ble_eq_true rfl⟩ (fun H locs hP hS => ?_)
      exact prI C hr hk hP hS hf dX11_chase_33
    · replace hf := ite_t c8 hf
      exact w11_chase_22 (n := n)  C hr hk  hf hP hS (lv_sub hl [] rfl)
theorem c11_chase {l : Launch} {z : Zt} {b n : Nat}  {a1 : Int32} {a2 : Int32} {M M' : Mem} {r : Int32} (hf : f11_chase n  a1 a2 M = some (r, M')) : CI l z (xd z b) 339 b yX11_chase cX11_chase 3 (some .int) rm11_chase [.ref (b + 0), .int a1, .int a2] M M' r :=
  CI.ofW (lv := [(0, .ref (b + 0)), (1, .int a1), (2, .int a2)]) (by decide) (Nat.le_of_ble_eq_true rfl) rfl (fun p e s m args below meth c ls C hr hk hP hS hl => w11_chase_0 (n := n)  C hr hk  hf hP hS hl)

-- BronzeKing.lovers(II)I
theorem dX11_lovers_0 : decode cX11_lovers 0 = .ok (.iload_n 2, 1) := by decide +kernel
theorem dX11_lovers_1 : decode cX11_lovers 1 = .ok (.ifCond .lt 21, 3) := by decide +kernel
theorem dX11_lovers_4 : decode cX11_lovers 4 = .ok (.iload_n 2, 1) := by decide +kernel
theorem dX11_lovers_5 : decode cX11_lovers 5 = .ok (.iconst 1, 1) := by decide +kernel
theorem dX11_lovers_6 : decode cX11_lovers 6 = .ok (.if_icmp .gt 16, 3) := by decide +kernel
theorem dX11_lovers_9 : decode cX11_lovers 9 = .ok (.aload_n 0, 1) := by decide +kernel
theorem dX11_lovers_10 : decode cX11_lovers 10 = .ok (.getfield 10, 3) := by decide +kernel
theorem dX11_lovers_13 : decode cX11_lovers 13 = .ok (.iload_n 1, 1) := by decide +kernel
theorem dX11_lovers_14 : decode cX11_lovers 14 = .ok (.iconst 2, 1) := by decide +kernel
theorem dX11_lovers_15 : decode cX11_lovers 15 = .ok (.iconst 4, 1) := by decide +kernel
theorem dX11_lovers_16 : decode cX11_lovers 16 = .ok (.invokevirtual 124, 3) := by decide +kernel
theorem dX11_lovers_19 : decode cX11_lovers 19 = .ok (.ifCond .ne 5, 3) := by decide +kernel
theorem dX11_lovers_22 : decode cX11_lovers 22 = .ok (.iconst (-1), 1) := by decide +kernel
theorem dX11_lovers_23 : decode cX11_lovers 23 = .ok (.ireturn, 1) := by decide +kernel
theorem dX11_lovers_24 : decode cX11_lovers 24 = .ok (.aload_n 0, 1) := by decide +kernel
theorem dX11_lovers_25 : decode cX11_lovers 25 = .ok (.getfield 10, 3) := by decide +kernel
theorem dX11_lovers_28 : decode cX11_lovers 28 = .ok (.iconst 0, 1) := by decide +kernel
theorem dX11_lovers_29 : decode cX11_lovers 29 = .ok (.putfield 121, 3) := by decide +kernel
theorem dX11_lovers_32 : decode cX11_lovers 32 = .ok (.aload_n 0, 1) := by decide +kernel
theorem dX11_lovers_33 : decode cX11_lovers 33 = .ok (.getfield 60, 3) := by decide +kernel
theorem dX11_lovers_36 : decode cX11_lovers 36 = .ok (.invokevirtual 246, 3) := by decide +kernel
theorem dX11_lovers_39 : decode cX11_lovers 39 = .ok (.iconst 0, 1) := by decide +kernel
theorem dX11_lovers_40 : decode cX11_lovers 40 = .ok (.istore_n 3, 1) := by decide +kernel
theorem dX11_lovers_41 : decode cX11_lovers 41 = .ok (.iload_n 3, 1) := by decide +kernel
theorem dX11_lovers_42 : decode cX11_lovers 42 = .ok (.iload_n 1, 1) := by decide +kernel
theorem dX11_lovers_43 : decode cX11_lovers 43 = .ok (.if_icmp .ge 44, 3) := by decide +kernel
theorem dX11_lovers_46 : decode cX11_lovers 46 = .ok (.aload_n 0, 1) := by decide +kernel
theorem dX11_lovers_47 : decode cX11_lovers 47 = .ok (.getfield 10, 3) := by decide +kernel
theorem dX11_lovers_50 : decode cX11_lovers 50 = .ok (.getfield 249, 3) := by decide +kernel
theorem dX11_lovers_53 : decode cX11_lovers 53 = .ok (.iload_n 3, 1) := by decide +kernel
theorem dX11_lovers_54 : decode cX11_lovers 54 = .ok (.iaload, 1) := by decide +kernel
theorem dX11_lovers_55 : decode cX11_lovers 55 = .ok (.istore 4, 2) := by decide +kernel
theorem dX11_lovers_57 : decode cX11_lovers 57 = .ok (.aload_n 0, 1) := by decide +kernel
theorem dX11_lovers_58 : decode cX11_lovers 58 = .ok (.getfield 19, 3) := by decide +kernel
theorem dX11_lovers_61 : decode cX11_lovers 61 = .ok (.iload 4, 2) := by decide +kernel
theorem dX11_lovers_63 : decode cX11_lovers 63 = .ok (.invokevirtual 240, 3) := by decide +kernel
theorem dX11_lovers_66 : decode cX11_lovers 66 = .ok (.ifCond .ne 6, 3) := by decide +kernel
theorem dX11_lovers_69 : decode cX11_lovers 69 = .ok (.bipush (-3), 2) := by decide +kernel
theorem dX11_lovers_71 : decode cX11_lovers 71 = .ok (.ireturn, 1) := by decide +kernel
theorem dX11_lovers_72 : decode cX11_lovers 72 = .ok (.aload_n 0, 1) := by decide +kernel
theorem dX11_lovers_73 : decode cX11_lovers 73 = .ok (.getfield 60, 3) := by decide +kernel
theorem dX11_lovers_76 : decode cX11_lovers 76 = .ok (.iload 4, 2) := by decide +kernel
theorem dX11_lovers_78 : decode cX11_lovers 78 = .ok (.invokevirtual 252, 3) := by decide +kernel
theorem dX11_lovers_81 : decode cX11_lovers 81 = .ok (.iinc 3 1, 3) := by decide +kernel
theorem dX11_lovers_84 : decode cX11_lovers 84 = .ok (.goto (-43), 3) := by decide +kernel
theorem dX11_lovers_87 : decode cX11_lovers 87 = .ok (.aload_n 0, 1) := by decide +kernel
theorem dX11_lovers_88 : decode cX11_lovers 88 = .ok (.getfield 60, 3) := by decide +kernel
theorem dX11_lovers_91 : decode cX11_lovers 91 = .ok (.invokevirtual 255, 3) := by decide +kernel
theorem dX11_lovers_94 : decode cX11_lovers 94 = .ok (.istore_n 3, 1) := by decide +kernel
theorem dX11_lovers_95 : decode cX11_lovers 95 = .ok (.iload_n 3, 1) := by decide +kernel
theorem dX11_lovers_96 : decode cX11_lovers 96 = .ok (.bipush (-2), 2) := by decide +kernel
theorem dX11_lovers_98 : decode cX11_lovers 98 = .ok (.if_icmp .eq 7, 3) := by decide +kernel
theorem dX11_lovers_101 : decode cX11_lovers 101 = .ok (.iload_n 2, 1) := by decide +kernel
theorem dX11_lovers_102 : decode cX11_lovers 102 = .ok (.ifCond .ne 7, 3) := by decide +kernel
theorem dX11_lovers_105 : decode cX11_lovers 105 = .ok (.iload_n 3, 1) := by decide +kernel
theorem dX11_lovers_106 : decode cX11_lovers 106 = .ok (.goto 12, 3) := by decide +kernel
theorem dX11_lovers_109 : decode cX11_lovers 109 = .ok (.aload_n 0, 1) := by decide +kernel
theorem dX11_lovers_110 : decode cX11_lovers 110 = .ok (.getfield 60, 3) := by decide +kernel
theorem dX11_lovers_113 : decode cX11_lovers 113 = .ok (.getfield 258, 3) := by decide +kernel
theorem dX11_lovers_116 : decode cX11_lovers 116 = .ok (.iload_n 3, 1) := by decide +kernel
theorem dX11_lovers_117 : decode cX11_lovers 117 = .ok (.iaload, 1) := by decide +kernel
theorem dX11_lovers_118 : decode cX11_lovers 118 = .ok (.ireturn, 1) := by decide +kernel
def b11_lovers_22 (rc : Nat → List Int32 → List Int64 → Mem → Option (Int32 × Mem)) (n : Nat) (M : Mem) : Option (Int32 × Mem) :=
  some ((-1 : Int32), M)
def b11_lovers_105 (rc : Nat → List Int32 → List Int64 → Mem → Option (Int32 × Mem)) (n : Nat) (i3 : Int32) (M : Mem) : Option (Int32 × Mem) :=
  some (i3, M)
def b11_lovers_41 (rc : Nat → List Int32 → List Int64 → Mem → Option (Int32 × Mem)) (n : Nat) (i1 : Int32) (i2 : Int32) (i3 : Int32) (M : Mem) : Option (Int32 × Mem) :=
  (if i1 ≤ i3 then (
   bnd (f6_meetingPlace n M) fun r12 M13 =>
   (if r12 = (-2 : Int32) then (
    b11_lovers_105  rc n r12 M13)
   else (
    (if i2 = 0 then (
     b11_lovers_105  rc n r12 M13)
    else (
     chk (inb r12 96) <|
     some ((M13.1 30 r12.toNatClampNeg), M13))))))
  else (
   chk (inb i3 260) <|
   lt (M.1 2 i3.toNatClampNeg) fun v19 =>
   bnd (f8_isOpen n v19 M) fun r20 M21 =>
   (if r20 = 0 then (
    some ((-3 : Int32), M21))
   else (
    bnd (f6_addLover n v19 M21) fun r24 M25 =>
    lt (i3 + (1 : Int32)) fun v27 =>
    rc 41 [i1, i2, v27] [] M25))))
def b11_lovers_0 (rc : Nat → List Int32 → List Int64 → Mem → Option (Int32 × Mem)) (n : Nat) (a1 : Int32) (a2 : Int32) (M : Mem) : Option (Int32 × Mem) :=
  (if a2 < 0 then (
   b11_lovers_22  rc n  M)
  else (
   (if (1 : Int32) < a2 then (
    b11_lovers_22  rc n  M)
   else (
    bnd (f7_canGive n a1 (2 : Int32) (4 : Int32) M) fun r3 M4 =>
    (if r3 = 0 then (
     b11_lovers_22  rc n  M4)
    else (
     lt (wI M4 1 1 (0 : Int32)) fun M7 =>
     bnd (f6_forgetLovers n M7) fun r8 M9 =>
     b11_lovers_41  rc n a1 a2 (0 : Int32) M9))))))
def r11_lovers : Nat → Nat → List Int32 → List Int64 → Mem → Option (Int32 × Mem)
  | 0 => fun _ _ _ _ => none
  | n + 1 => fun pc li lj M =>
    if pc = 41 then (match li, lj with | [i1, i2, i3], [] => b11_lovers_41  (r11_lovers  n) n i1 i2 i3 M | _, _ => none) else
    none
theorem e11_lovers_41  (n : Nat) (i1 : Int32) (i2 : Int32) (i3 : Int32) (M : Mem) : r11_lovers  (n + 1) 41 [i1, i2, i3] [] M = b11_lovers_41  (r11_lovers  n) n i1 i2 i3 M := by
  rw [r11_lovers]
  simp
def f11_lovers (n : Nat) (a1 : Int32) (a2 : Int32) (M : Mem) : Option (Int32 × Mem) := b11_lovers_0 (r11_lovers n) n a1 a2 M
abbrev rm11_lovers : Room := { frames := 3, cells := 0, slots := 0, locals := 73 }
theorem y11_lovers_w : yV RX11 yX11_lovers cX11_lovers 5 (some .int) 2 := ⟨g_998, g_999, g_1, g_1000, rfl, by decide, by decide, by decide +kernel⟩
set_option maxHeartbeats 4000000 in
set_option maxRecDepth 100000 in
theorem w11_lovers_22 {p : Program} {l : Launch} {e : Env} {s : State} {m : MethodId} {args : Array Value} {below : List Frame} {meth : Method} {c : Code} {z : Zt} {b : Nat}  (C : Cx p s m args c cX11_lovers 5 RX11 z 339 b) (hr : meth.sig.returnType = (some .int)) (hk : meth.locks = false) {r : Int32} {M' : Mem} {rc : Nat → List Int32 → List Int64 → Mem → Option (Int32 × Mem)} {n : Nat} (q41 : ∀ (i1 : Int32) (i2 : Int32) (i3 : Int32) (M : Mem) (H : Heap) (locs : List Loc) (ls : Array Slot), rc 41 [i1, i2, i3] [] M = some (r, M') → va_P z.1 vwCl (pw (xd z b) 339 b M) H → va_S (pA 339 b) s.heap H locs → lv_has ls 5 [(0, .ref (b + 0)), (1, .int i1), (2, .int i2), (3, .int i3)] → W p l e rm11_lovers s m args below meth c H locs 0 0 (MQ below (va_Qi (fun (r' : Int32) (M2 : Mem) => r' = r ∧ M2 = M') (fun M2 t => va_P z.1 vwCl (pw (xd z b) 339 b M2) t.heap) (pA 339 b)) args s 0 0 (pA 339 b)) (F0 m 41 ls []))  {M : Mem} {H : Heap} {locs : List Loc} {ls : Array Slot} (hf : b11_lovers_22  rc n  M = some (r, M')) (hP : va_P z.1 vwCl (pw (xd z b) 339 b M) H) (hS : va_S (pA 339 b) s.heap H locs) (hl : lv_has ls 5 []) : W p l e rm11_lovers s m args below meth c H locs 0 0 (MQ below (va_Qi (fun (r' : Int32) (M2 : Mem) => r' = r ∧ M2 = M') (fun M2 t => va_P z.1 vwCl (pw (xd z b) 339 b M2) t.heap) (pA 339 b)) args s 0 0 (pA 339 b)) (F0 m 22 ls []) := by
  have hx := C.1.1
  have hb := C.1.2.1
  unfold b11_lovers_22 at hf
  refine lv_iconst (v := (-1 : Int32)) hx hb dX11_lovers_22 (by decide) ?_
  exact prI C hr hk hP hS hf dX11_lovers_23
set_option maxHeartbeats 4000000 in
set_option maxRecDepth 100000 in
theorem w11_lovers_105 {p : Program} {l : Launch} {e : Env} {s : State} {m : MethodId} {args : Array Value} {below : List Frame} {meth : Method} {c : Code} {z : Zt} {b : Nat}  (C : Cx p s m args c cX11_lovers 5 RX11 z 339 b) (hr : meth.sig.returnType = (some .int)) (hk : meth.locks = false) {r : Int32} {M' : Mem} {rc : Nat → List Int32 → List Int64 → Mem → Option (Int32 × Mem)} {n : Nat} (q41 : ∀ (i1 : Int32) (i2 : Int32) (i3 : Int32) (M : Mem) (H : Heap) (locs : List Loc) (ls : Array Slot), rc 41 [i1, i2, i3] [] M = some (r, M') → va_P z.1 vwCl (pw (xd z b) 339 b M) H → va_S (pA 339 b) s.heap H locs → lv_has ls 5 [(0, .ref (b + 0)), (1, .int i1), (2, .int i2), (3, .int i3)] → W p l e rm11_lovers s m args below meth c H locs 0 0 (MQ below (va_Qi (fun (r' : Int32) (M2 : Mem) => r' = r ∧ M2 = M') (fun M2 t => va_P z.1 vwCl (pw (xd z b) 339 b M2) t.heap) (pA 339 b)) args s 0 0 (pA 339 b)) (F0 m 41 ls [])) {i3 : Int32} {M : Mem} {H : Heap} {locs : List Loc} {ls : Array Slot} (hf : b11_lovers_105  rc n i3 M = some (r, M')) (hP : va_P z.1 vwCl (pw (xd z b) 339 b M) H) (hS : va_S (pA 339 b) s.heap H locs) (hl : lv_has ls 5 [(3, .int i3)]) : W p l e rm11_lovers s m args below meth c H locs 0 0 (MQ below (va_Qi (fun (r' : Int32) (M2 : Mem) => r' = r ∧ M2 = M') (fun M2 t => va_P z.1 vwCl (pw (xd z b) 339 b M2) t.heap) (pA 339 b)) args s 0 0 (pA 339 b)) (F0 m 105 ls []) := by
  have hx := C.1.1
  have hb := C.1.2.1
  unfold b11_lovers_105 at hf
  refine lv_iload_n hx hb dX11_lovers_105 rfl (lv_at hl 0 rfl) ?_
  refine lv_goto (tgt := 118) hx hb dX11_lovers_106 (by decide) ?_
  exact prI C hr hk hP hS hf dX11_lovers_118
set_option maxHeartbeats 4000000 in
set_option maxRecDepth 100000 in
theorem w11_lovers_41 {p : Program} {l : Launch} {e : Env} {s : State} {m : MethodId} {args : Array Value} {below : List Frame} {meth : Method} {c : Code} {z : Zt} {b : Nat}  (C : Cx p s m args c cX11_lovers 5 RX11 z 339 b) (hr : meth.sig.returnType = (some .int)) (hk : meth.locks = false) {r : Int32} {M' : Mem} {rc : Nat → List Int32 → List Int64 → Mem → Option (Int32 × Mem)} {n : Nat} (q41 : ∀ (i1 : Int32) (i2 : Int32) (i3 : Int32) (M : Mem) (H : Heap) (locs : List Loc) (ls : Array Slot), rc 41 [i1, i2, i3] [] M = some (r, M') → va_P z.1 vwCl (pw (xd z b) 339 b M) H → va_S (pA 339 b) s.heap H locs → lv_has ls 5 [(0, .ref (b + 0)), (1, .int i1), (2, .int i2), (3, .int i3)] → W p l e rm11_lovers s m args below meth c H locs 0 0 (MQ below (va_Qi (fun (r' : Int32) (M2 : Mem) => r' = r ∧ M2 = M') (fun M2 t => va_P z.1 vwCl (pw (xd z b) 339 b M2) t.heap) (pA 339 b)) args s 0 0 (pA 339 b)) (F0 m 41 ls [])) {i1 : Int32} {i2 : Int32} {i3 : Int32} {M : Mem} {H : Heap} {locs : List Loc} {ls : Array Slot} (hf : b11_lovers_41  rc n i1 i2 i3 M = some (r, M')) (hP : va_P z.1 vwCl (pw (xd z b) 339 b M) H) (hS : va_S (pA 339 b) s.heap H locs) (hl : lv_has ls 5 [(0, .ref (b + 0)), (1, .int i1), (2, .int i2), (3, .int i3)]) : W p l e rm11_lovers s m args below meth c H locs 0 0 (MQ below (va_Qi (fun (r' : Int32) (M2 : Mem) => r' = r ∧ M2 = M') (fun M2 t => va_P z.1 vwCl (pw (xd z b) 339 b M2) t.heap) (pA 339 b)) args s 0 0 (pA 339 b)) (F0 m 41 ls []) := by
  have hx := C.1.1
  have hb := C.1.2.1
  unfold b11_lovers_41 at hf
  refine lv_iload_n hx hb dX11_lovers_41 rfl (lv_at hl 3 rfl) ?_
  refine lv_iload_n hx hb dX11_lovers_42 rfl (lv_at hl 1 rfl) ?_
  refine lv_icmp_ge (tgt := 87) hx hb dX11_lovers_43 (by decide) (fun c11 => ?_) (fun c11 => ?_)
  · replace hf := ite_t c11 hf
    refine lv_aload_n hx hb dX11_lovers_87 rfl (lv_at hl 0 rfl) ?_
    refine pg C hP (k := 0) (j := 6) (Nat.le_of_ble_eq_true rfl) (xd_0 _ _) rfl iw_11 (Nat.le_of_ble_eq_true rfl) g_426 rfl rfl dX11_lovers_88 ?_
    obtain ⟨r12, M13, h14, hf⟩ := bnd_s hf
    refine pcVi (As := []) C hP hS (k := 27) (Nat.le_of_ble_eq_true rfl) (xd_27 _ _) rfl (c6_meetingPlace  h14) y6_meetingPlace_w g_1010 rfl rfl rfl ⟨Nat.le_of_ble_eq_true rfl, Nat.le_of_ble_eq_true rfl⟩ hl.1 rfl (Nat.le_of_ble_eq_true rfl) dX11_lovers_91 ⟨Nat.le_of_ble_eq_true rfl, Nat.le_of_ble_eq_true rfl⟩ (fun H locs hP hS => ?_)
    refine lv_istore_n (lv' := [(3, .int r12), (0, .ref (b + 0)), (1, .int i1), (2, .int i2)]) hx hb dX11_lovers_94 rfl hl (by decide) rfl (fun ls hl => ?_)
    refine lv_iload_n hx hb dX11_lovers_95 rfl (lv_at hl 0 rfl) ?_
    refine lv_bipush (v := (-2 : Int32)) hx hb dX11_lovers_96 (by decide) ?_
    refine lv_icmp_eq (tgt := 105) hx hb dX11_lovers_98 (by decide) (fun c15 => ?_) (fun c15 => ?_)
    · replace hf := ite_t c15 hf
      exact w11_lovers_105 (n := n)  C hr hk q41 hf hP hS (lv_sub hl [0] rfl)
    · replace hf := ite_f c15 hf
      refine lv_iload_n hx hb dX11_lovers_101 rfl (lv_at hl 3 rfl) ?_
      refine lv_if_ne (tgt := 109) hx hb dX11_lovers_102 (by decide) (fun c16 => ?_) (fun c16 => ?_)
      · replace hf := ite_f c16 hf
        refine lv_aload_n hx hb dX11_lovers_109 rfl (lv_at hl 1 rfl) ?_
        refine pg C hP (k := 0) (j := 6) (Nat.le_of_ble_eq_true rfl) (xd_0 _ _) rfl iw_11 (Nat.le_of_ble_eq_true rfl) g_426 rfl rfl dX11_lovers_110 ?_
        refine pgN C hP (k := 27) (j := 3) (Nat.le_of_ble_eq_true rfl) (xd_27 _ _) rfl iw_6 (Nat.le_of_ble_eq_true rfl) g_257 rfl rfl dX11_lovers_113 ?_
        refine lv_iload_n hx hb dX11_lovers_116 rfl (lv_at hl 0 rfl) ?_
        have h17 := chk_1 hf
        replace hf := chk_2 hf
        refine paI C hP (k := 30) (Nat.le_of_ble_eq_true rfl) (xd_30 _ _) h17 dX11_lovers_117 ?_
        exact prI C hr hk hP hS hf dX11_lovers_118
      · replace hf := ite_t c16 hf
        exact w11_lovers_105 (n := n)  C hr hk q41 hf hP hS (lv_sub hl [0] rfl)
  · replace hf := ite_f c11 hf
    refine lv_aload_n hx hb dX11_lovers_46 rfl (lv_at hl 0 rfl) ?_
    refine pg C hP (k := 0) (j := 0) (Nat.le_of_ble_eq_true rfl) (xd_0 _ _) rfl iw_11 (Nat.le_of_ble_eq_true rfl) g_420 rfl rfl dX11_lovers_47 ?_
    refine pgN C hP (k := 1) (j := 0) (Nat.le_of_ble_eq_true rfl) (xd_1 _ _) rfl iw_7 (Nat.le_of_ble_eq_true rfl) g_39 rfl rfl dX11_lovers_50 ?_
    refine lv_iload_n hx hb dX11_lovers_53 rfl (lv_at hl 3 rfl) ?_
    have h18 := chk_1 hf
    replace hf := chk_2 hf
    refine paI C hP (k := 2) (Nat.le_of_ble_eq_true rfl) (xd_2 _ _) h18 dX11_lovers_54 ?_
    refine lv_topi (fun v19 ev19 => ?_)
    replace hf := lt_c ev19 hf
    refine lv_istore (lv' := [(4, .int v19), (0, .ref (b + 0)), (1, .int i1), (2, .int i2), (3, .int i3)]) hx hb dX11_lovers_55 hl (by decide) rfl (fun ls hl => ?_)
    refine lv_aload_n hx hb dX11_lovers_57 rfl (lv_at hl 1 rfl) ?_
    refine pg C hP (k := 0) (j := 1) (Nat.le_of_ble_eq_true rfl) (xd_0 _ _) rfl iw_11 (Nat.le_of_ble_eq_true rfl) g_421 rfl rfl dX11_lovers_58 ?_
    refine lv_iload hx hb dX11_lovers_61 (lv_at hl 0 rfl) ?_
    obtain ⟨r20, M21, h22, hf⟩ := bnd_s hf
    refine pcVi (As := [.int v19]) C hP hS (k := 3) (Nat.le_of_ble_eq_true rfl) (xd_3 _ _) rfl (c8_isOpen  h22) y8_isOpen_w g_942 rfl rfl rfl ⟨Nat.le_of_ble_eq_true rfl, Nat.le_of_ble_eq_true rfl⟩ hl.1 rfl (Nat.le_of_ble_eq_true rfl) dX11_lovers_63 ⟨Nat.le_of_ble_eq_true rfl, Nat.le_of_ble_eq_true rfl⟩ (fun H locs hP hS => ?_)
    refine lv_if_ne (tgt := 72) hx hb dX11_lovers_66 (by decide) (fun c23 => ?_) (fun c23 => ?_)
    · replace hf := ite_f c23 hf
      refine lv_aload_n hx hb dX11_lovers_72 rfl (lv_at hl 1 rfl) ?_
      refine pg C hP (k := 0) (j := 6) (Nat.le_of_ble_eq_true rfl) (xd_0 _ _) rfl iw_11 (Nat.le_of_ble_eq_true rfl) g_426 rfl rfl dX11_lovers_73 ?_
      refine lv_iload hx hb dX11_lovers_76 (lv_at hl 0 rfl) ?_
      obtain ⟨r24, M25, h26, hf⟩ := bnd_s hf
      refine pcVv (As := [.int v19]) C hP hS (k := 27) (Nat.le_of_ble_eq_true rfl) (xd_27 _ _) rfl (c6_addLover  h26) y6_addLover_w g_1005 rfl rfl rfl ⟨Nat.le_of_ble_eq_true rfl, Nat.le_of_ble_eq_true rfl⟩ hl.1 rfl (Nat.le_of_ble_eq_true rfl) dX11_lovers_78 ⟨Nat.le_of_ble_eq_true rfl, Nat.le_of_ble_eq_true rfl⟩ (fun H locs hP hS => ?_)
      obtain ⟨v27, ev27⟩ : ∃ v : Int32, v = i3 + (1 : Int32) := ⟨_, rfl⟩
      replace hf := lt_c ev27 hf
      refine lv_iinc (v := v27) (lv' := [(3, .int v27), (4, .int v19), (0, .ref (b + 0)), (1, .int i1), (2, .int i2)]) hx hb dX11_lovers_81 hl (k := 4) rfl (by rw [ev27]; rfl) (by decide) rfl (fun ls hl => ?_)
      refine lv_goto (tgt := 41) hx hb dX11_lovers_84 (by decide) ?_
      exact q41 i1 i2 v27 M25 _ _ _ hf hP hS (lv_sub hl [2, 3, 4, 0] rfl)
    · replace hf := ite_t c23 hf
      refine lv_bipush (v := (-3 : Int32)) hx hb dX11_lovers_69 (by decide) ?_
      exact prI C hr hk hP hS hf dX11_lovers_71
set_option maxHeartbeats 4000000 in
set_option maxRecDepth 100000 in
theorem w11_lovers_0 {p : Program} {l : Launch} {e : Env} {s : State} {m : MethodId} {args : Array Value} {below : List Frame} {meth : Method} {c : Code} {z : Zt} {b : Nat}  (C : Cx p s m args c cX11_lovers 5 RX11 z 339 b) (hr : meth.sig.returnType = (some .int)) (hk : meth.locks = false) {r : Int32} {M' : Mem} {rc : Nat → List Int32 → List Int64 → Mem → Option (Int32 × Mem)} {n : Nat} (q41 : ∀ (i1 : Int32) (i2 : Int32) (i3 : Int32) (M : Mem) (H : Heap) (locs : List Loc) (ls : Array Slot), rc 41 [i1, i2, i3] [] M = some (r, M') → va_P z.1 vwCl (pw (xd z b) 339 b M) H → va_S (pA 339 b) s.heap H locs → lv_has ls 5 [(0, .ref (b + 0)), (1, .int i1), (2, .int i2), (3, .int i3)] → W p l e rm11_lovers s m args below meth c H locs 0 0 (MQ below (va_Qi (fun (r' : Int32) (M2 : Mem) => r' = r ∧ M2 = M') (fun M2 t => va_P z.1 vwCl (pw (xd z b) 339 b M2) t.heap) (pA 339 b)) args s 0 0 (pA 339 b)) (F0 m 41 ls [])) {a1 : Int32} {a2 : Int32} {M : Mem} {H : Heap} {locs : List Loc} {ls : Array Slot} (hf : b11_lovers_0  rc n a1 a2 M = some (r, M')) (hP : va_P z.1 vwCl (pw (xd z b) 339 b M) H) (hS : va_S (pA 339 b) s.heap H locs) (hl : lv_has ls 5 [(0, .ref (b + 0)), (1, .int a1), (2, .int a2)]) : W p l e rm11_lovers s m args below meth c H locs 0 0 (MQ below (va_Qi (fun (r' : Int32) (M2 : Mem) => r' = r ∧ M2 = M') (fun M2 t => va_P z.1 vwCl (pw (xd z b) 339 b M2) t.heap) (pA 339 b)) args s 0 0 (pA 339 b)) (F0 m 0 ls []) := by
  have hx := C.1.1
  have hb := C.1.2.1
  unfold b11_lovers_0 at hf
  refine lv_iload_n hx hb dX11_lovers_0 rfl (lv_at hl 2 rfl) ?_
  refine lv_if_lt (tgt := 22) hx hb dX11_lovers_1 (by decide) (fun c1 => ?_) (fun c1 => ?_)
  · replace hf := ite_t c1 hf
    exact w11_lovers_22 (n := n)  C hr hk q41 hf hP hS (lv_sub hl [] rfl)
  · replace hf := ite_f c1 hf
    refine lv_iload_n hx hb dX11_lovers_4 rfl (lv_at hl 2 rfl) ?_
    refine lv_iconst (v := (1 : Int32)) hx hb dX11_lovers_5 (by decide) ?_
    refine lv_icmp_gt (tgt := 22) hx hb dX11_lovers_6 (by decide) (fun c2 => ?_) (fun c2 => ?_)
    · replace hf := ite_t c2 hf
      exact w11_lovers_22 (n := n)  C hr hk q41 hf hP hS (lv_sub hl [] rfl)
    · replace hf := ite_f c2 hf
      refine lv_aload_n hx hb dX11_lovers_9 rfl (lv_at hl 0 rfl) ?_
      refine pg C hP (k := 0) (j := 0) (Nat.le_of_ble_eq_true rfl) (xd_0 _ _) rfl iw_11 (Nat.le_of_ble_eq_true rfl) g_420 rfl rfl dX11_lovers_10 ?_
      refine lv_iload_n hx hb dX11_lovers_13 rfl (lv_at hl 1 rfl) ?_
      refine lv_iconst (v := (2 : Int32)) hx hb dX11_lovers_14 (by decide) ?_
      refine lv_iconst (v := (4 : Int32)) hx hb dX11_lovers_15 (by decide) ?_
      obtain ⟨r3, M4, h5, hf⟩ := bnd_s hf
      refine pcVi (As := [.int a1, .int (2 : Int32), .int (4 : Int32)]) C hP hS (k := 1) (Nat.le_of_ble_eq_true rfl) (xd_1 _ _) rfl (c7_canGive  h5) y7_canGive_w g_487 rfl rfl rfl ⟨Nat.le_of_ble_eq_true rfl, Nat.le_of_ble_eq_true rfl⟩ hl.1 rfl (Nat.le_of_ble_eq_true rfl) dX11_lovers_16 ⟨Nat.le_of_ble_eq_true rfl, Nat.le_of_ble_eq_true rfl⟩ (fun H locs hP hS => ?_)
      refine lv_if_ne (tgt := 24) hx hb dX11_lovers_19 (by decide) (fun c6 => ?_) (fun c6 => ?_)
      · replace hf := ite_f c6 hf
        refine lv_aload_n hx hb dX11_lovers_24 rfl (lv_at hl 0 rfl) ?_
        refine pg C hP (k := 0) (j := 0) (Nat.le_of_ble_eq_true rfl) (xd_0 _ _) rfl iw_11 (Nat.le_of_ble_eq_true rfl) g_420 rfl rfl dX11_lovers_25 ?_
        refine lv_iconst (v := (0 : Int32)) hx hb dX11_lovers_28 (by decide) ?_
        refine ppIN C hP hS (k := 1) (j := 1) (ty := .int) (Nat.le_of_ble_eq_true rfl) (xd_1 _ _) rfl iw_7 tyX7 tyX7_ok nmX7 (Nat.le_of_ble_eq_true rfl) g_41 rfl rfl (by decide +kernel) rfl rfl (Nat.le_of_ble_eq_true rfl) (xu_1_1 _ _ _) dX11_lovers_29 (fun M7 H locs eM7 hP hS => ?_)
        replace hf := lt_c eM7 hf
        refine lv_aload_n hx hb dX11_lovers_32 rfl (lv_at hl 0 rfl) ?_
        refine pg C hP (k := 0) (j := 6) (Nat.le_of_ble_eq_true rfl) (xd_0 _ _) rfl iw_11 (Nat.le_of_ble_eq_true rfl) g_426 rfl rfl dX11_lovers_33 ?_
        obtain ⟨r8, M9, h10, hf⟩ := bnd_s hf
        refine pcVv (As := []) C hP hS (k := 27) (Nat.le_of_ble_eq_true rfl) (xd_27 _ _) rfl (c6_forgetLovers  h10) y6_forgetLovers_w g_1001 rfl rfl rfl ⟨Nat.le_of_ble_eq_true rfl, Nat.le_of_ble_eq_true rfl⟩ hl.1 rfl (Nat.le_of_ble_eq_true rfl) dX11_lovers_36 ⟨Nat.le_of_ble_eq_true rfl, Nat.le_of_ble_eq_true rfl⟩ (fun H locs hP hS => ?_)
        refine lv_iconst (v := (0 : Int32)) hx hb dX11_lovers_39 (by decide) ?_
        refine lv_istore_n (lv' := [(3, .int (0 : Int32)), (0, .ref (b + 0)), (1, .int a1), (2, .int a2)]) hx hb dX11_lovers_40 rfl hl (by decide) rfl (fun ls hl => ?_)
        exact w11_lovers_41 (n := n)  C hr hk q41 hf hP hS (lv_sub hl [1, 2, 3, 0] rfl)
      · replace hf := ite_t c6 hf
        exact w11_lovers_22 (n := n)  C hr hk q41 hf hP hS (lv_sub hl [] rfl)
set_option maxHeartbeats 4000000 in
set_option maxRecDepth 100000 in
theorem l11_lovers {p : Program} {l : Launch} {e : Env} {s : State} {m : MethodId} {args : Array Value} {below : List Frame} {meth : Method} {c : Code} {z : Zt} {b : Nat}  (C : Cx p s m args c cX11_lovers 5 RX11 z 339 b) (hr : meth.sig.returnType = (some .int)) (hk : meth.locks = false) {r : Int32} {M' : Mem} (n : Nat) : (∀ (i1 : Int32) (i2 : Int32) (i3 : Int32) (M : Mem) (H : Heap) (locs : List Loc) (ls : Array Slot), (r11_lovers  n) 41 [i1, i2, i3] [] M = some (r, M') → va_P z.1 vwCl (pw (xd z b) 339 b M) H → va_S (pA 339 b) s.heap H locs → lv_has ls 5 [(0, .ref (b + 0)), (1, .int i1), (2, .int i2), (3, .int i3)] → W p l e rm11_lovers s m args below meth c H locs 0 0 (MQ below (va_Qi (fun (r' : Int32) (M2 : Mem) => r' = r ∧ M2 = M') (fun M2 t => va_P z.1 vwCl (pw (xd z b) 339 b M2) t.heap) (pA 339 b)) args s 0 0 (pA 339 b)) (F0 m 41 ls [])) := by
  induction n with
  | zero => exact fun _ _ _ _ _ _ _ hf => (by cases hf)
  | succ n ih => exact fun _ _ _ _ _ _ _ hf hP hS hl => w11_lovers_41 (n := n)  C hr hk ih ((e11_lovers_41  n _ _ _ _).symm.trans hf) hP hS hl
theorem c11_lovers {l : Launch} {z : Zt} {b n : Nat}  {a1 : Int32} {a2 : Int32} {M M' : Mem} {r : Int32} (hf : f11_lovers n  a1 a2 M = some (r, M')) : CI l z (xd z b) 339 b yX11_lovers cX11_lovers 5 (some .int) rm11_lovers [.ref (b + 0), .int a1, .int a2] M M' r :=
  CI.ofW (lv := [(0, .ref (b + 0)), (1, .int a1), (2, .int a2)]) (by decide) (Nat.le_of_ble_eq_true rfl) rfl (fun p e s m args below meth c ls C hr hk hP hS hl => w11_lovers_0 (n := n)  C hr hk (l11_lovers  C hr hk n) hf hP hS hl)

-- BronzeKing.benches(II)I
theorem dX11_benches_0 : decode cX11_benches 0 = .ok (.iload_n 1, 1) := by decide +kernel
theorem dX11_benches_1 : decode cX11_benches 1 = .ok (.iconst 1, 1) := by decide +kernel
theorem dX11_benches_2 : decode cX11_benches 2 = .ok (.if_icmp .lt 17, 3) := by decide +kernel
theorem dX11_benches_5 : decode cX11_benches 5 = .ok (.iload_n 1, 1) := by decide +kernel
theorem dX11_benches_6 : decode cX11_benches 6 = .ok (.iconst 2, 1) := by decide +kernel
theorem dX11_benches_7 : decode cX11_benches 7 = .ok (.if_icmp .gt 12, 3) := by decide +kernel
theorem dX11_benches_10 : decode cX11_benches 10 = .ok (.iload_n 2, 1) := by decide +kernel
theorem dX11_benches_11 : decode cX11_benches 11 = .ok (.ifCond .lt 8, 3) := by decide +kernel
theorem dX11_benches_14 : decode cX11_benches 14 = .ok (.iload_n 2, 1) := by decide +kernel
theorem dX11_benches_15 : decode cX11_benches 15 = .ok (.iconst 2, 1) := by decide +kernel
theorem dX11_benches_16 : decode cX11_benches 16 = .ok (.if_icmp .le 5, 3) := by decide +kernel
theorem dX11_benches_19 : decode cX11_benches 19 = .ok (.iconst (-1), 1) := by decide +kernel
theorem dX11_benches_20 : decode cX11_benches 20 = .ok (.ireturn, 1) := by decide +kernel
theorem dX11_benches_21 : decode cX11_benches 21 = .ok (.aload_n 0, 1) := by decide +kernel
theorem dX11_benches_22 : decode cX11_benches 22 = .ok (.getfield 60, 3) := by decide +kernel
theorem dX11_benches_25 : decode cX11_benches 25 = .ok (.aload_n 0, 1) := by decide +kernel
theorem dX11_benches_26 : decode cX11_benches 26 = .ok (.getfield 81, 3) := by decide +kernel
theorem dX11_benches_29 : decode cX11_benches 29 = .ok (.getfield 162, 3) := by decide +kernel
theorem dX11_benches_32 : decode cX11_benches 32 = .ok (.invokevirtual 261, 3) := by decide +kernel
theorem dX11_benches_35 : decode cX11_benches 35 = .ok (.iload_n 1, 1) := by decide +kernel
theorem dX11_benches_36 : decode cX11_benches 36 = .ok (.iconst 1, 1) := by decide +kernel
theorem dX11_benches_37 : decode cX11_benches 37 = .ok (.if_icmp .ne 13, 3) := by decide +kernel
theorem dX11_benches_40 : decode cX11_benches 40 = .ok (.aload_n 0, 1) := by decide +kernel
theorem dX11_benches_41 : decode cX11_benches 41 = .ok (.getfield 60, 3) := by decide +kernel
theorem dX11_benches_44 : decode cX11_benches 44 = .ok (.invokevirtual 265, 3) := by decide +kernel
theorem dX11_benches_47 : decode cX11_benches 47 = .ok (.goto 10, 3) := by decide +kernel
theorem dX11_benches_50 : decode cX11_benches 50 = .ok (.aload_n 0, 1) := by decide +kernel
theorem dX11_benches_51 : decode cX11_benches 51 = .ok (.getfield 60, 3) := by decide +kernel
theorem dX11_benches_54 : decode cX11_benches 54 = .ok (.invokevirtual 268, 3) := by decide +kernel
theorem dX11_benches_57 : decode cX11_benches 57 = .ok (.aload_n 0, 1) := by decide +kernel
theorem dX11_benches_58 : decode cX11_benches 58 = .ok (.getfield 60, 3) := by decide +kernel
theorem dX11_benches_61 : decode cX11_benches 61 = .ok (.getfield 271, 3) := by decide +kernel
theorem dX11_benches_64 : decode cX11_benches 64 = .ok (.ifCond .ne 6, 3) := by decide +kernel
theorem dX11_benches_67 : decode cX11_benches 67 = .ok (.bipush (-2), 2) := by decide +kernel
theorem dX11_benches_69 : decode cX11_benches 69 = .ok (.ireturn, 1) := by decide +kernel
theorem dX11_benches_70 : decode cX11_benches 70 = .ok (.iload_n 2, 1) := by decide +kernel
theorem dX11_benches_71 : decode cX11_benches 71 = .ok (.lookupswitch 41 #[(0, 25), (1, 33)], 25) := by decide +kernel
theorem dX11_benches_96 : decode cX11_benches 96 = .ok (.aload_n 0, 1) := by decide +kernel
theorem dX11_benches_97 : decode cX11_benches 97 = .ok (.getfield 60, 3) := by decide +kernel
theorem dX11_benches_100 : decode cX11_benches 100 = .ok (.getfield 274, 3) := by decide +kernel
theorem dX11_benches_103 : decode cX11_benches 103 = .ok (.ireturn, 1) := by decide +kernel
theorem dX11_benches_104 : decode cX11_benches 104 = .ok (.aload_n 0, 1) := by decide +kernel
theorem dX11_benches_105 : decode cX11_benches 105 = .ok (.getfield 60, 3) := by decide +kernel
theorem dX11_benches_108 : decode cX11_benches 108 = .ok (.getfield 277, 3) := by decide +kernel
theorem dX11_benches_111 : decode cX11_benches 111 = .ok (.ireturn, 1) := by decide +kernel
theorem dX11_benches_112 : decode cX11_benches 112 = .ok (.aload_n 0, 1) := by decide +kernel
theorem dX11_benches_113 : decode cX11_benches 113 = .ok (.getfield 60, 3) := by decide +kernel
theorem dX11_benches_116 : decode cX11_benches 116 = .ok (.getfield 271, 3) := by decide +kernel
theorem dX11_benches_119 : decode cX11_benches 119 = .ok (.ireturn, 1) := by decide +kernel
def b11_benches_19 (rc : Nat → List Int32 → List Int64 → Mem → Option (Int32 × Mem)) (n : Nat) (M : Mem) : Option (Int32 × Mem) :=
  some ((-1 : Int32), M)
def b11_benches_57 (rc : Nat → List Int32 → List Int64 → Mem → Option (Int32 × Mem)) (n : Nat) (i2 : Int32) (M : Mem) : Option (Int32 × Mem) :=
  (if (M.1 27 10) = 0 then (
   some ((-2 : Int32), M))
  else (
   (if i2 = (0 : Int32) then (
    some ((M.1 27 8), M))
   else (
    (if i2 = (1 : Int32) then (
     some ((M.1 27 9), M))
    else (
     some ((M.1 27 10), M)))))))
def b11_benches_0 (rc : Nat → List Int32 → List Int64 → Mem → Option (Int32 × Mem)) (n : Nat) (a1 : Int32) (a2 : Int32) (M : Mem) : Option (Int32 × Mem) :=
  (if a1 < (1 : Int32) then (
   b11_benches_19  rc n  M)
  else (
   (if (2 : Int32) < a1 then (
    b11_benches_19  rc n  M)
   else (
    (if a2 < 0 then (
     b11_benches_19  rc n  M)
    else (
     (if a2 ≤ (2 : Int32) then (
      bnd (f6_lookAround n M) fun r5 M6 =>
      (if a1 = (1 : Int32) then (
       bnd (f6_setOneBench n M6) fun r12 M13 =>
       b11_benches_57  rc n a2 M13)
      else (
       bnd (f6_setTwoBenches n M6) fun r9 M10 =>
       b11_benches_57  rc n a2 M10)))
     else (
      b11_benches_19  rc n  M))))))))
def f11_benches (n : Nat) (a1 : Int32) (a2 : Int32) (M : Mem) : Option (Int32 × Mem) := b11_benches_0 (fun _ _ _ _ => none) n a1 a2 M
abbrev rm11_benches : Room := { frames := 3, cells := 0, slots := 0, locals := 68 }
theorem y11_benches_w : yV RX11 yX11_benches cX11_benches 3 (some .int) 2 := ⟨g_1015, g_1016, g_1, g_1017, rfl, by decide, by decide, by decide +kernel⟩
set_option maxHeartbeats 4000000 in
set_option maxRecDepth 100000 in
theorem w11_benches_19 {p : Program} {l : Launch} {e : Env} {s : State} {m : MethodId} {args : Array Value} {below : List Frame} {meth : Method} {c : Code} {z : Zt} {b : Nat}  (C : Cx p s m args c cX11_benches 3 RX11 z 339 b) (hr : meth.sig.returnType = (some .int)) (hk : meth.locks = false) {r : Int32} {M' : Mem} {rc : Nat → List Int32 → List Int64 → Mem → Option (Int32 × Mem)} {n : Nat}   {M : Mem} {H : Heap} {locs : List Loc} {ls : Array Slot} (hf : b11_benches_19  rc n  M = some (r, M')) (hP : va_P z.1 vwCl (pw (xd z b) 339 b M) H) (hS : va_S (pA 339 b) s.heap H locs) (hl : lv_has ls 3 []) : W p l e rm11_benches s m args below meth c H locs 0 0 (MQ below (va_Qi (fun (r' : Int32) (M2 : Mem) => r' = r ∧ M2 = M') (fun M2 t => va_P z.1 vwCl (pw (xd z b) 339 b M2) t.heap) (pA 339 b)) args s 0 0 (pA 339 b)) (F0 m 19 ls []) := by
  have hx := C.1.1
  have hb := C.1.2.1
  unfold b11_benches_19 at hf
  refine lv_iconst (v := (-1 : Int32)) hx hb dX11_benches_19 (by decide) ?_
  exact prI C hr hk hP hS hf dX11_benches_20
set_option maxHeartbeats 4000000 in
set_option maxRecDepth 100000 in
theorem w11_benches_57 {p : Program} {l : Launch} {e : Env} {s : State} {m : MethodId} {args : Array Value} {below : List Frame} {meth : Method} {c : Code} {z : Zt} {b : Nat}  (C : Cx p s m args c cX11_benches 3 RX11 z 339 b) (hr : meth.sig.returnType = (some .int)) (hk : meth.locks = false) {r : Int32} {M' : Mem} {rc : Nat → List Int32 → List Int64 → Mem → Option (Int32 × Mem)} {n : Nat}  {i2 : Int32} {M : Mem} {H : Heap} {locs : List Loc} {ls : Array Slot} (hf : b11_benches_57  rc n i2 M = some (r, M')) (hP : va_P z.1 vwCl (pw (xd z b) 339 b M) H) (hS : va_S (pA 339 b) s.heap H locs) (hl : lv_has ls 3 [(0, .ref (b + 0)), (2, .int i2)]) : W p l e rm11_benches s m args below meth c H locs 0 0 (MQ below (va_Qi (fun (r' : Int32) (M2 : Mem) => r' = r ∧ M2 = M') (fun M2 t => va_P z.1 vwCl (pw (xd z b) 339 b M2) t.heap) (pA 339 b)) args s 0 0 (pA 339 b)) (F0 m 57 ls []) := by
  have hx := C.1.1
  have hb := C.1.2.1
  unfold b11_benches_57 at hf
  refine lv_aload_n hx hb dX11_benches_57 rfl (lv_at hl 0 rfl) ?_
  refine pg C hP (k := 0) (j := 6) (Nat.le_of_ble_eq_true rfl) (xd_0 _ _) rfl iw_11 (Nat.le_of_ble_eq_true rfl) g_426 rfl rfl dX11_benches_58 ?_
  refine pgN C hP (k := 27) (j := 10) (Nat.le_of_ble_eq_true rfl) (xd_27 _ _) rfl iw_6 (Nat.le_of_ble_eq_true rfl) g_267 rfl rfl dX11_benches_61 ?_
  refine lv_if_ne (tgt := 70) hx hb dX11_benches_64 (by decide) (fun c15 => ?_) (fun c15 => ?_)
  · replace hf := ite_f c15 hf
    refine lv_iload_n hx hb dX11_benches_70 rfl (lv_at hl 1 rfl) ?_
    by_cases c16 : i2 = (0 : Int32)
    · replace hf := ite_t c16 hf
      refine lv_lookup (off := 25) (tgt := 96) hx hb dX11_benches_71 (by decide) (by rw [c16]; decide) (by decide) ?_
      refine lv_aload_n hx hb dX11_benches_96 rfl (lv_at hl 0 rfl) ?_
      refine pg C hP (k := 0) (j := 6) (Nat.le_of_ble_eq_true rfl) (xd_0 _ _) rfl iw_11 (Nat.le_of_ble_eq_true rfl) g_426 rfl rfl dX11_benches_97 ?_
      refine pgN C hP (k := 27) (j := 8) (Nat.le_of_ble_eq_true rfl) (xd_27 _ _) rfl iw_6 (Nat.le_of_ble_eq_true rfl) g_263 rfl rfl dX11_benches_100 ?_
      exact prI C hr hk hP hS hf dX11_benches_103
    · replace hf := ite_f c16 hf
      by_cases c17 : i2 = (1 : Int32)
      · replace hf := ite_t c17 hf
        refine lv_lookup (off := 33) (tgt := 104) hx hb dX11_benches_71 (by decide) (by rw [c17]; decide) (by decide) ?_
        refine lv_aload_n hx hb dX11_benches_104 rfl (lv_at hl 0 rfl) ?_
        refine pg C hP (k := 0) (j := 6) (Nat.le_of_ble_eq_true rfl) (xd_0 _ _) rfl iw_11 (Nat.le_of_ble_eq_true rfl) g_426 rfl rfl dX11_benches_105 ?_
        refine pgN C hP (k := 27) (j := 9) (Nat.le_of_ble_eq_true rfl) (xd_27 _ _) rfl iw_6 (Nat.le_of_ble_eq_true rfl) g_265 rfl rfl dX11_benches_108 ?_
        exact prI C hr hk hP hS hf dX11_benches_111
      · replace hf := ite_f c17 hf
        refine lv_lookup (off := 41) (tgt := 112) hx hb dX11_benches_71 (by decide) (by have z0 : ¬ i2.toInt = 0 := tsn c16; have z1 : ¬ i2.toInt = 1 := tsn c17; simp [Op.lookupswitch.offset]; repeat (first | omega | split)) (by decide) ?_
        refine lv_aload_n hx hb dX11_benches_112 rfl (lv_at hl 0 rfl) ?_
        refine pg C hP (k := 0) (j := 6) (Nat.le_of_ble_eq_true rfl) (xd_0 _ _) rfl iw_11 (Nat.le_of_ble_eq_true rfl) g_426 rfl rfl dX11_benches_113 ?_
        refine pgN C hP (k := 27) (j := 10) (Nat.le_of_ble_eq_true rfl) (xd_27 _ _) rfl iw_6 (Nat.le_of_ble_eq_true rfl) g_267 rfl rfl dX11_benches_116 ?_
        exact prI C hr hk hP hS hf dX11_benches_119
  · replace hf := ite_t c15 hf
    refine lv_bipush (v := (-2 : Int32)) hx hb dX11_benches_67 (by decide) ?_
    exact prI C hr hk hP hS hf dX11_benches_69
set_option maxHeartbeats 4000000 in
set_option maxRecDepth 100000 in
theorem w11_benches_0 {p : Program} {l : Launch} {e : Env} {s : State} {m : MethodId} {args : Array Value} {below : List Frame} {meth : Method} {c : Code} {z : Zt} {b : Nat}  (C : Cx p s m args c cX11_benches 3 RX11 z 339 b) (hr : meth.sig.returnType = (some .int)) (hk : meth.locks = false) {r : Int32} {M' : Mem} {rc : Nat → List Int32 → List Int64 → Mem → Option (Int32 × Mem)} {n : Nat}  {a1 : Int32} {a2 : Int32} {M : Mem} {H : Heap} {locs : List Loc} {ls : Array Slot} (hf : b11_benches_0  rc n a1 a2 M = some (r, M')) (hP : va_P z.1 vwCl (pw (xd z b) 339 b M) H) (hS : va_S (pA 339 b) s.heap H locs) (hl : lv_has ls 3 [(0, .ref (b + 0)), (1, .int a1), (2, .int a2)]) : W p l e rm11_benches s m args below meth c H locs 0 0 (MQ below (va_Qi (fun (r' : Int32) (M2 : Mem) => r' = r ∧ M2 = M') (fun M2 t => va_P z.1 vwCl (pw (xd z b) 339 b M2) t.heap) (pA 339 b)) args s 0 0 (pA 339 b)) (F0 m 0 ls []) := by
  have hx := C.1.1
  have hb := C.1.2.1
  unfold b11_benches_0 at hf
  refine lv_iload_n hx hb dX11_benches_0 rfl (lv_at hl 1 rfl) ?_
  refine lv_iconst (v := (1 : Int32)) hx hb dX11_benches_1 (by decide) ?_
  refine lv_icmp_lt (tgt := 19) hx hb dX11_benches_2 (by decide) (fun c1 => ?_) (fun c1 => ?_)
  · replace hf := ite_t c1 hf
    exact w11_benches_19 (n := n)  C hr hk  hf hP hS (lv_sub hl [] rfl)
  · replace hf := ite_f c1 hf
    refine lv_iload_n hx hb dX11_benches_5 rfl (lv_at hl 1 rfl) ?_
    refine lv_iconst (v := (2 : Int32)) hx hb dX11_benches_6 (by decide) ?_
    refine lv_icmp_gt (tgt := 19) hx hb dX11_benches_7 (by decide) (fun c2 => ?_) (fun c2 => ?_)
    · replace hf := ite_t c2 hf
      exact w11_benches_19 (n := n)  C hr hk  hf hP hS (lv_sub hl [] rfl)
    · replace hf := ite_f c2 hf
      refine lv_iload_n hx hb dX11_benches_10 rfl (lv_at hl 2 rfl) ?_
      refine lv_if_lt (tgt := 19) hx hb dX11_benches_11 (by decide) (fun c3 => ?_) (fun c3 => ?_)
      · replace hf := ite_t c3 hf
        exact w11_benches_19 (n := n)  C hr hk  hf hP hS (lv_sub hl [] rfl)
      · replace hf := ite_f c3 hf
        refine lv_iload_n hx hb dX11_benches_14 rfl (lv_at hl 2 rfl) ?_
        refine lv_iconst (v := (2 : Int32)) hx hb dX11_benches_15 (by decide) ?_
        refine lv_icmp_le (tgt := 21) hx hb dX11_benches_16 (by decide) (fun c4 => ?_) (fun c4 => ?_)
        · replace hf := ite_t c4 hf
          refine lv_aload_n hx hb dX11_benches_21 rfl (lv_at hl 0 rfl) ?_
          refine pg C hP (k := 0) (j := 6) (Nat.le_of_ble_eq_true rfl) (xd_0 _ _) rfl iw_11 (Nat.le_of_ble_eq_true rfl) g_426 rfl rfl dX11_benches_22 ?_
          refine lv_aload_n hx hb dX11_benches_25 rfl (lv_at hl 0 rfl) ?_
          refine pg C hP (k := 0) (j := 9) (Nat.le_of_ble_eq_true rfl) (xd_0 _ _) rfl iw_11 (Nat.le_of_ble_eq_true rfl) g_429 rfl rfl dX11_benches_26 ?_
          refine pgN C hP (k := 330) (j := 0) (co_lt co_330) ((co_d co_330) _ _) rfl iw_0 (Nat.le_of_ble_eq_true rfl) g_355 rfl rfl dX11_benches_29 ?_
          obtain ⟨r5, M6, h7, hf⟩ := bnd_s hf
          refine pcVv (As := [.ref (b + (330 + 1))]) C hP hS (k := 27) (Nat.le_of_ble_eq_true rfl) (xd_27 _ _) rfl (c6_lookAround  h7) y6_lookAround_w g_1018 rfl rfl rfl ⟨Nat.le_of_ble_eq_true rfl, Nat.le_of_ble_eq_true rfl⟩ hl.1 rfl (Nat.le_of_ble_eq_true rfl) dX11_benches_32 ⟨Nat.le_of_ble_eq_true rfl, Nat.le_of_ble_eq_true rfl⟩ (fun H locs hP hS => ?_)
          refine lv_iload_n hx hb dX11_benches_35 rfl (lv_at hl 1 rfl) ?_
          refine lv_iconst (v := (1 : Int32)) hx hb dX11_benches_36 (by decide) ?_
          refine lv_icmp_ne (tgt := 50) hx hb dX11_benches_37 (by decide) (fun c8 => ?_) (fun c8 => ?_)
          · replace hf := ite_f c8 hf
            refine lv_aload_n hx hb dX11_benches_50 rfl (lv_at hl 0 rfl) ?_
            refine pg C hP (k := 0) (j := 6) (Nat.le_of_ble_eq_true rfl) (xd_0 _ _) rfl iw_11 (Nat.le_of_ble_eq_true rfl) g_426 rfl rfl dX11_benches_51 ?_
            obtain ⟨r9, M10, h11, hf⟩ := bnd_s hf
            refine pcVv (As := []) C hP hS (k := 27) (Nat.le_of_ble_eq_true rfl) (xd_27 _ _) rfl (c6_setTwoBenches  h11) y6_setTwoBenches_w g_1035 rfl rfl rfl ⟨Nat.le_of_ble_eq_true rfl, Nat.le_of_ble_eq_true rfl⟩ hl.1 rfl (Nat.le_of_ble_eq_true rfl) dX11_benches_54 ⟨Nat.le_of_ble_eq_true rfl, Nat.le_of_ble_eq_true rfl⟩ (fun H locs hP hS => ?_)
            exact w11_benches_57 (n := n)  C hr hk  hf hP hS (lv_sub hl [0, 2] rfl)
          · replace hf := ite_t c8 hf
            refine lv_aload_n hx hb dX11_benches_40 rfl (lv_at hl 0 rfl) ?_
            refine pg C hP (k := 0) (j := 6) (Nat.le_of_ble_eq_true rfl) (xd_0 _ _) rfl iw_11 (Nat.le_of_ble_eq_true rfl) g_426 rfl rfl dX11_benches_41 ?_
            obtain ⟨r12, M13, h14, hf⟩ := bnd_s hf
            refine pcVv (As := []) C hP hS (k := 27) (Nat.le_of_ble_eq_true rfl) (xd_27 _ _) rfl (c6_setOneBench  h14) y6_setOneBench_w g_1029 rfl rfl rfl ⟨Nat.le_of_ble_eq_true rfl, Nat.le_of_ble_eq_true rfl⟩ hl.1 rfl (Nat.le_of_ble_eq_true rfl) dX11_benches_44 ⟨Nat.le_of_ble_eq_true rfl, Nat.le_of_ble_eq_true rfl⟩ (fun H locs hP hS => ?_)
            refine lv_goto (tgt := 57) hx hb dX11_benches_47 (by decide) ?_
            exact w11_benches_57 (n := n)  C hr hk  hf hP hS (lv_sub hl [0, 2] rfl)
        · replace hf := ite_f c4 hf
          exact w11_benches_19 (n := n)  C hr hk  hf hP hS (lv_sub hl [] rfl)
theorem c11_benches {l : Launch} {z : Zt} {b n : Nat}  {a1 : Int32} {a2 : Int32} {M M' : Mem} {r : Int32} (hf : f11_benches n  a1 a2 M = some (r, M')) : CI l z (xd z b) 339 b yX11_benches cX11_benches 3 (some .int) rm11_benches [.ref (b + 0), .int a1, .int a2] M M' r :=
  CI.ofW (lv := [(0, .ref (b + 0)), (1, .int a1), (2, .int a2)]) (by decide) (Nat.le_of_ble_eq_true rfl) rfl (fun p e s m args below meth c ls C hr hk hP hS hl => w11_benches_0 (n := n)  C hr hk  hf hP hS hl)

-- BronzeKing.pigeons(I)I
theorem dX11_pigeons_0 : decode cX11_pigeons 0 = .ok (.iload_n 1, 1) := by decide +kernel
theorem dX11_pigeons_1 : decode cX11_pigeons 1 = .ok (.ifCond .lt 20, 3) := by decide +kernel
theorem dX11_pigeons_4 : decode cX11_pigeons 4 = .ok (.iload_n 1, 1) := by decide +kernel
theorem dX11_pigeons_5 : decode cX11_pigeons 5 = .ok (.iconst 1, 1) := by decide +kernel
theorem dX11_pigeons_6 : decode cX11_pigeons 6 = .ok (.if_icmp .gt 15, 3) := by decide +kernel
theorem dX11_pigeons_9 : decode cX11_pigeons 9 = .ok (.aload_n 0, 1) := by decide +kernel
theorem dX11_pigeons_10 : decode cX11_pigeons 10 = .ok (.getfield 10, 3) := by decide +kernel
theorem dX11_pigeons_13 : decode cX11_pigeons 13 = .ok (.getfield 121, 3) := by decide +kernel
theorem dX11_pigeons_16 : decode cX11_pigeons 16 = .ok (.bipush 24, 2) := by decide +kernel
theorem dX11_pigeons_18 : decode cX11_pigeons 18 = .ok (.if_icmp .ge 5, 3) := by decide +kernel
theorem dX11_pigeons_21 : decode cX11_pigeons 21 = .ok (.iconst (-1), 1) := by decide +kernel
theorem dX11_pigeons_22 : decode cX11_pigeons 22 = .ok (.ireturn, 1) := by decide +kernel
theorem dX11_pigeons_23 : decode cX11_pigeons 23 = .ok (.aload_n 0, 1) := by decide +kernel
theorem dX11_pigeons_24 : decode cX11_pigeons 24 = .ok (.getfield 10, 3) := by decide +kernel
theorem dX11_pigeons_27 : decode cX11_pigeons 27 = .ok (.iconst 0, 1) := by decide +kernel
theorem dX11_pigeons_28 : decode cX11_pigeons 28 = .ok (.putfield 121, 3) := by decide +kernel
theorem dX11_pigeons_31 : decode cX11_pigeons 31 = .ok (.iconst (-1), 1) := by decide +kernel
theorem dX11_pigeons_32 : decode cX11_pigeons 32 = .ok (.istore_n 2, 1) := by decide +kernel
theorem dX11_pigeons_33 : decode cX11_pigeons 33 = .ok (.iconst 0, 1) := by decide +kernel
theorem dX11_pigeons_34 : decode cX11_pigeons 34 = .ok (.istore_n 3, 1) := by decide +kernel
theorem dX11_pigeons_35 : decode cX11_pigeons 35 = .ok (.iconst 0, 1) := by decide +kernel
theorem dX11_pigeons_36 : decode cX11_pigeons 36 = .ok (.istore 4, 2) := by decide +kernel
theorem dX11_pigeons_38 : decode cX11_pigeons 38 = .ok (.iload 4, 2) := by decide +kernel
theorem dX11_pigeons_40 : decode cX11_pigeons 40 = .ok (.bipush 24, 2) := by decide +kernel
theorem dX11_pigeons_42 : decode cX11_pigeons 42 = .ok (.if_icmp .ge 81, 3) := by decide +kernel
theorem dX11_pigeons_45 : decode cX11_pigeons 45 = .ok (.aload_n 0, 1) := by decide +kernel
theorem dX11_pigeons_46 : decode cX11_pigeons 46 = .ok (.getfield 10, 3) := by decide +kernel
theorem dX11_pigeons_49 : decode cX11_pigeons 49 = .ok (.getfield 249, 3) := by decide +kernel
theorem dX11_pigeons_52 : decode cX11_pigeons 52 = .ok (.iload 4, 2) := by decide +kernel
theorem dX11_pigeons_54 : decode cX11_pigeons 54 = .ok (.bipush 24, 2) := by decide +kernel
theorem dX11_pigeons_56 : decode cX11_pigeons 56 = .ok (.iadd, 1) := by decide +kernel
theorem dX11_pigeons_57 : decode cX11_pigeons 57 = .ok (.iconst 1, 1) := by decide +kernel
theorem dX11_pigeons_58 : decode cX11_pigeons 58 = .ok (.isub, 1) := by decide +kernel
theorem dX11_pigeons_59 : decode cX11_pigeons 59 = .ok (.bipush 24, 2) := by decide +kernel
theorem dX11_pigeons_61 : decode cX11_pigeons 61 = .ok (.irem, 1) := by decide +kernel
theorem dX11_pigeons_62 : decode cX11_pigeons 62 = .ok (.iaload, 1) := by decide +kernel
theorem dX11_pigeons_63 : decode cX11_pigeons 63 = .ok (.istore 5, 2) := by decide +kernel
theorem dX11_pigeons_65 : decode cX11_pigeons 65 = .ok (.aload_n 0, 1) := by decide +kernel
theorem dX11_pigeons_66 : decode cX11_pigeons 66 = .ok (.getfield 10, 3) := by decide +kernel
theorem dX11_pigeons_69 : decode cX11_pigeons 69 = .ok (.getfield 249, 3) := by decide +kernel
theorem dX11_pigeons_72 : decode cX11_pigeons 72 = .ok (.iload 4, 2) := by decide +kernel
theorem dX11_pigeons_74 : decode cX11_pigeons 74 = .ok (.iconst 1, 1) := by decide +kernel
theorem dX11_pigeons_75 : decode cX11_pigeons 75 = .ok (.iadd, 1) := by decide +kernel
theorem dX11_pigeons_76 : decode cX11_pigeons 76 = .ok (.bipush 24, 2) := by decide +kernel
theorem dX11_pigeons_78 : decode cX11_pigeons 78 = .ok (.irem, 1) := by decide +kernel
theorem dX11_pigeons_79 : decode cX11_pigeons 79 = .ok (.iaload, 1) := by decide +kernel
theorem dX11_pigeons_80 : decode cX11_pigeons 80 = .ok (.istore 6, 2) := by decide +kernel
theorem dX11_pigeons_82 : decode cX11_pigeons 82 = .ok (.iconst 2, 1) := by decide +kernel
theorem dX11_pigeons_83 : decode cX11_pigeons 83 = .ok (.aload_n 0, 1) := by decide +kernel
theorem dX11_pigeons_84 : decode cX11_pigeons 84 = .ok (.getfield 10, 3) := by decide +kernel
theorem dX11_pigeons_87 : decode cX11_pigeons 87 = .ok (.getfield 249, 3) := by decide +kernel
theorem dX11_pigeons_90 : decode cX11_pigeons 90 = .ok (.iload 4, 2) := by decide +kernel
theorem dX11_pigeons_92 : decode cX11_pigeons 92 = .ok (.iaload, 1) := by decide +kernel
theorem dX11_pigeons_93 : decode cX11_pigeons 93 = .ok (.imul, 1) := by decide +kernel
theorem dX11_pigeons_94 : decode cX11_pigeons 94 = .ok (.iload 5, 2) := by decide +kernel
theorem dX11_pigeons_96 : decode cX11_pigeons 96 = .ok (.isub, 1) := by decide +kernel
theorem dX11_pigeons_97 : decode cX11_pigeons 97 = .ok (.iload 6, 2) := by decide +kernel
theorem dX11_pigeons_99 : decode cX11_pigeons 99 = .ok (.isub, 1) := by decide +kernel
theorem dX11_pigeons_100 : decode cX11_pigeons 100 = .ok (.invokestatic 280, 3) := by decide +kernel
theorem dX11_pigeons_103 : decode cX11_pigeons 103 = .ok (.istore 7, 2) := by decide +kernel
theorem dX11_pigeons_105 : decode cX11_pigeons 105 = .ok (.iload 7, 2) := by decide +kernel
theorem dX11_pigeons_107 : decode cX11_pigeons 107 = .ok (.iload_n 2, 1) := by decide +kernel
theorem dX11_pigeons_108 : decode cX11_pigeons 108 = .ok (.if_icmp .le 9, 3) := by decide +kernel
theorem dX11_pigeons_111 : decode cX11_pigeons 111 = .ok (.iload 7, 2) := by decide +kernel
theorem dX11_pigeons_113 : decode cX11_pigeons 113 = .ok (.istore_n 2, 1) := by decide +kernel
theorem dX11_pigeons_114 : decode cX11_pigeons 114 = .ok (.iload 4, 2) := by decide +kernel
theorem dX11_pigeons_116 : decode cX11_pigeons 116 = .ok (.istore_n 3, 1) := by decide +kernel
theorem dX11_pigeons_117 : decode cX11_pigeons 117 = .ok (.iinc 4 1, 3) := by decide +kernel
theorem dX11_pigeons_120 : decode cX11_pigeons 120 = .ok (.goto (-82), 3) := by decide +kernel
theorem dX11_pigeons_123 : decode cX11_pigeons 123 = .ok (.iload_n 1, 1) := by decide +kernel
theorem dX11_pigeons_124 : decode cX11_pigeons 124 = .ok (.ifCond .ne 7, 3) := by decide +kernel
theorem dX11_pigeons_127 : decode cX11_pigeons 127 = .ok (.iload_n 3, 1) := by decide +kernel
theorem dX11_pigeons_128 : decode cX11_pigeons 128 = .ok (.goto 4, 3) := by decide +kernel
theorem dX11_pigeons_131 : decode cX11_pigeons 131 = .ok (.iload_n 2, 1) := by decide +kernel
theorem dX11_pigeons_132 : decode cX11_pigeons 132 = .ok (.ireturn, 1) := by decide +kernel
def b11_pigeons_21 (rc : Nat → List Int32 → List Int64 → Mem → Option (Int32 × Mem)) (n : Nat) (M : Mem) : Option (Int32 × Mem) :=
  some ((-1 : Int32), M)
def b11_pigeons_117 (rc : Nat → List Int32 → List Int64 → Mem → Option (Int32 × Mem)) (n : Nat) (i1 : Int32) (i2 : Int32) (i3 : Int32) (i4 : Int32) (M : Mem) : Option (Int32 × Mem) :=
  lt (i4 + (1 : Int32)) fun v14 =>
  rc 38 [i1, i2, i3, v14] [] M
def b11_pigeons_38 (rc : Nat → List Int32 → List Int64 → Mem → Option (Int32 × Mem)) (n : Nat) (i1 : Int32) (i2 : Int32) (i3 : Int32) (i4 : Int32) (M : Mem) : Option (Int32 × Mem) :=
  (if (24 : Int32) ≤ i4 then (
   (if i1 = 0 then (
    some (i3, M))
   else (
    some (i2, M))))
  else (
   chk (inb (((i4 + (24 : Int32)) - (1 : Int32)) - ((i4 + (24 : Int32)) - (1 : Int32)) / (24 : Int32) * (24 : Int32)) 260) <|
   lt (M.1 2 (((i4 + (24 : Int32)) - (1 : Int32)) - ((i4 + (24 : Int32)) - (1 : Int32)) / (24 : Int32) * (24 : Int32)).toNatClampNeg) fun v8 =>
   chk (inb ((i4 + (1 : Int32)) - (i4 + (1 : Int32)) / (24 : Int32) * (24 : Int32)) 260) <|
   lt (M.1 2 ((i4 + (1 : Int32)) - (i4 + (1 : Int32)) / (24 : Int32) * (24 : Int32)).toNatClampNeg) fun v10 =>
   chk (inb i4 260) <|
   lt (if 0 ≤ ((((2 : Int32) * (M.1 2 i4.toNatClampNeg)) - v8) - v10) then ((((2 : Int32) * (M.1 2 i4.toNatClampNeg)) - v8) - v10) else 0 - ((((2 : Int32) * (M.1 2 i4.toNatClampNeg)) - v8) - v10)) fun v12 =>
   (if v12 ≤ i2 then (
    b11_pigeons_117  rc n i1 i2 i3 i4 M)
   else (
    b11_pigeons_117  rc n i1 v12 i4 i4 M))))
def b11_pigeons_0 (rc : Nat → List Int32 → List Int64 → Mem → Option (Int32 × Mem)) (n : Nat) (a1 : Int32) (M : Mem) : Option (Int32 × Mem) :=
  (if a1 < 0 then (
   b11_pigeons_21  rc n  M)
  else (
   (if (1 : Int32) < a1 then (
    b11_pigeons_21  rc n  M)
   else (
    (if (24 : Int32) ≤ (M.1 1 1) then (
     lt (wI M 1 1 (0 : Int32)) fun M4 =>
     b11_pigeons_38  rc n a1 (-1 : Int32) (0 : Int32) (0 : Int32) M4)
    else (
     b11_pigeons_21  rc n  M))))))
def r11_pigeons : Nat → Nat → List Int32 → List Int64 → Mem → Option (Int32 × Mem)
  | 0 => fun _ _ _ _ => none
  | n + 1 => fun pc li lj M =>
    if pc = 38 then (match li, lj with | [i1, i2, i3, i4], [] => b11_pigeons_38  (r11_pigeons  n) n i1 i2 i3 i4 M | _, _ => none) else
    none
theorem e11_pigeons_38  (n : Nat) (i1 : Int32) (i2 : Int32) (i3 : Int32) (i4 : Int32) (M : Mem) : r11_pigeons  (n + 1) 38 [i1, i2, i3, i4] [] M = b11_pigeons_38  (r11_pigeons  n) n i1 i2 i3 i4 M := by
  rw [r11_pigeons]
  simp
def f11_pigeons (n : Nat) (a1 : Int32) (M : Mem) : Option (Int32 × Mem) := b11_pigeons_0 (r11_pigeons n) n a1 M
abbrev rm11_pigeons : Room := { frames := 1, cells := 0, slots := 0, locals := 21 }
theorem y11_pigeons_w : yV RX11 yX11_pigeons cX11_pigeons 8 (some .int) 1 := ⟨g_1044, g_1045, g_1, g_1046, rfl, by decide, by decide, by decide +kernel⟩
set_option maxHeartbeats 4000000 in
set_option maxRecDepth 100000 in
theorem w11_pigeons_21 {p : Program} {l : Launch} {e : Env} {s : State} {m : MethodId} {args : Array Value} {below : List Frame} {meth : Method} {c : Code} {z : Zt} {b : Nat}  (C : Cx p s m args c cX11_pigeons 8 RX11 z 339 b) (hr : meth.sig.returnType = (some .int)) (hk : meth.locks = false) {r : Int32} {M' : Mem} {rc : Nat → List Int32 → List Int64 → Mem → Option (Int32 × Mem)} {n : Nat} (q38 : ∀ (i1 : Int32) (i2 : Int32) (i3 : Int32) (i4 : Int32) (M : Mem) (H : Heap) (locs : List Loc) (ls : Array Slot), rc 38 [i1, i2, i3, i4] [] M = some (r, M') → va_P z.1 vwCl (pw (xd z b) 339 b M) H → va_S (pA 339 b) s.heap H locs → lv_has ls 8 [(0, .ref (b + 0)), (1, .int i1), (2, .int i2), (3, .int i3), (4, .int i4)] → W p l e rm11_pigeons s m args below meth c H locs 0 0 (MQ below (va_Qi (fun (r' : Int32) (M2 : Mem) => r' = r ∧ M2 = M') (fun M2 t => va_P z.1 vwCl (pw (xd z b) 339 b M2) t.heap) (pA 339 b)) args s 0 0 (pA 339 b)) (F0 m 38 ls []))  {M : Mem} {H : Heap} {locs : List Loc} {ls : Array Slot} (hf : b11_pigeons_21  rc n  M = some (r, M')) (hP : va_P z.1 vwCl (pw (xd z b) 339 b M) H) (hS : va_S (pA 339 b) s.heap H locs) (hl : lv_has ls 8 []) : W p l e rm11_pigeons s m args below meth c H locs 0 0 (MQ below (va_Qi (fun (r' : Int32) (M2 : Mem) => r' = r ∧ M2 = M') (fun M2 t => va_P z.1 vwCl (pw (xd z b) 339 b M2) t.heap) (pA 339 b)) args s 0 0 (pA 339 b)) (F0 m 21 ls []) := by
  have hx := C.1.1
  have hb := C.1.2.1
  unfold b11_pigeons_21 at hf
  refine lv_iconst (v := (-1 : Int32)) hx hb dX11_pigeons_21 (by decide) ?_
  exact prI C hr hk hP hS hf dX11_pigeons_22
set_option maxHeartbeats 4000000 in
set_option maxRecDepth 100000 in
theorem w11_pigeons_117 {p : Program} {l : Launch} {e : Env} {s : State} {m : MethodId} {args : Array Value} {below : List Frame} {meth : Method} {c : Code} {z : Zt} {b : Nat}  (C : Cx p s m args c cX11_pigeons 8 RX11 z 339 b) (hr : meth.sig.returnType = (some .int)) (hk : meth.locks = false) {r : Int32} {M' : Mem} {rc : Nat → List Int32 → List Int64 → Mem → Option (Int32 × Mem)} {n : Nat} (q38 : ∀ (i1 : Int32) (i2 : Int32) (i3 : Int32) (i4 : Int32) (M : Mem) (H : Heap) (locs : List Loc) (ls : Array Slot), rc 38 [i1, i2, i3, i4] [] M = some (r, M') → va_P z.1 vwCl (pw (xd z b) 339 b M) H → va_S (pA 339 b) s.heap H locs → lv_has ls 8 [(0, .ref (b + 0)), (1, .int i1), (2, .int i2), (3, .int i3), (4, .int i4)] → W p l e rm11_pigeons s m args below meth c H locs 0 0 (MQ below (va_Qi (fun (r' : Int32) (M2 : Mem) => r' = r ∧ M2 = M') (fun M2 t => va_P z.1 vwCl (pw (xd z b) 339 b M2) t.heap) (pA 339 b)) args s 0 0 (pA 339 b)) (F0 m 38 ls [])) {i1 : Int32} {i2 : Int32} {i3 : Int32} {i4 : Int32} {M : Mem} {H : Heap} {locs : List Loc} {ls : Array Slot} (hf : b11_pigeons_117  rc n i1 i2 i3 i4 M = some (r, M')) (hP : va_P z.1 vwCl (pw (xd z b) 339 b M) H) (hS : va_S (pA 339 b) s.heap H locs) (hl : lv_has ls 8 [(0, .ref (b + 0)), (1, .int i1), (2, .int i2), (3, .int i3), (4, .int i4)]) : W p l e rm11_pigeons s m args below meth c H locs 0 0 (MQ below (va_Qi (fun (r' : Int32) (M2 : Mem) => r' = r ∧ M2 = M') (fun M2 t => va_P z.1 vwCl (pw (xd z b) 339 b M2) t.heap) (pA 339 b)) args s 0 0 (pA 339 b)) (F0 m 117 ls []) := by
  have hx := C.1.1
  have hb := C.1.2.1
  unfold b11_pigeons_117 at hf
  obtain ⟨v14, ev14⟩ : ∃ v : Int32, v = i4 + (1 : Int32) := ⟨_, rfl⟩
  replace hf := lt_c ev14 hf
  refine lv_iinc (v := v14) (lv' := [(4, .int v14), (0, .ref (b + 0)), (1, .int i1), (2, .int i2), (3, .int i3)]) hx hb dX11_pigeons_117 hl (k := 4) rfl (by rw [ev14]; rfl) (by decide) rfl (fun ls hl => ?_)
  refine lv_goto (tgt := 38) hx hb dX11_pigeons_120 (by decide) ?_
  exact q38 i1 i2 i3 v14 M _ _ _ hf hP hS (lv_sub hl [1, 2, 3, 4, 0] rfl)
set_option maxHeartbeats 4000000 in
set_option maxRecDepth 100000 in
theorem w11_pigeons_38 {p : Program} {l : Launch} {e : Env} {s : State} {m : MethodId} {args : Array Value} {below : List Frame} {meth : Method} {c : Code} {z : Zt} {b : Nat}  (C : Cx p s m args c cX11_pigeons 8 RX11 z 339 b) (hr : meth.sig.returnType = (some .int)) (hk : meth.locks = false) {r : Int32} {M' : Mem} {rc : Nat → List Int32 → List Int64 → Mem → Option (Int32 × Mem)} {n : Nat} (q38 : ∀ (i1 : Int32) (i2 : Int32) (i3 : Int32) (i4 : Int32) (M : Mem) (H : Heap) (locs : List Loc) (ls : Array Slot), rc 38 [i1, i2, i3, i4] [] M = some (r, M') → va_P z.1 vwCl (pw (xd z b) 339 b M) H → va_S (pA 339 b) s.heap H locs → lv_has ls 8 [(0, .ref (b + 0)), (1, .int i1), (2, .int i2), (3, .int i3), (4, .int i4)] → W p l e rm11_pigeons s m args below meth c H locs 0 0 (MQ below (va_Qi (fun (r' : Int32) (M2 : Mem) => r' = r ∧ M2 = M') (fun M2 t => va_P z.1 vwCl (pw (xd z b) 339 b M2) t.heap) (pA 339 b)) args s 0 0 (pA 339 b)) (F0 m 38 ls [])) {i1 : Int32} {i2 : Int32} {i3 : Int32} {i4 : Int32} {M : Mem} {H : Heap} {locs : List Loc} {ls : Array Slot} (hf : b11_pigeons_38  rc n i1 i2 i3 i4 M = some (r, M')) (hP : va_P z.1 vwCl (pw (xd z b) 339 b M) H) (hS : va_S (pA 339 b) s.heap H locs) (hl : lv_has ls 8 [(0, .ref (b + 0)), (1, .int i1), (2, .int i2), (3, .int i3), (4, .int i4)]) : W p l e rm11_pigeons s m args below meth c H locs 0 0 (MQ below (va_Qi (fun (r' : Int32) (M2 : Mem) => r' = r ∧ M2 = M') (fun M2 t => va_P z.1 vwCl (pw (xd z b) 339 b M2) t.heap) (pA 339 b)) args s 0 0 (pA 339 b)) (F0 m 38 ls []) := by
  have hx := C.1.1
  have hb := C.1.2.1
  unfold b11_pigeons_38 at hf
  refine lv_iload hx hb dX11_pigeons_38 (lv_at hl 4 rfl) ?_
  refine lv_bipush (v := (24 : Int32)) hx hb dX11_pigeons_40 (by decide) ?_
  refine lv_icmp_ge (tgt := 123) hx hb dX11_pigeons_42 (by decide) (fun c5 => ?_) (fun c5 => ?_)
  · replace hf := ite_t c5 hf
    refine lv_iload_n hx hb dX11_pigeons_123 rfl (lv_at hl 1 rfl) ?_
    refine lv_if_ne (tgt := 131) hx hb dX11_pigeons_124 (by decide) (fun c6 => ?_) (fun c6 => ?_)
    · replace hf := ite_f c6 hf
      refine lv_iload_n hx hb dX11_pigeons_131 rfl (lv_at hl 2 rfl) ?_
      exact prI C hr hk hP hS hf dX11_pigeons_132
    · replace hf := ite_t c6 hf
      refine lv_iload_n hx hb dX11_pigeons_127 rfl (lv_at hl 3 rfl) ?_
      refine lv_goto (tgt := 132) hx hb dX11_pigeons_128 (by decide) ?_
      exact prI C hr hk hP hS hf dX11_pigeons_132
  · replace hf := ite_f c5 hf
    refine lv_aload_n hx hb dX11_pigeons_45 rfl (lv_at hl 0 rfl) ?_
    refine pg C hP (k := 0) (j := 0) (Nat.le_of_ble_eq_true rfl) (xd_0 _ _) rfl iw_11 (Nat.le_of_ble_eq_true rfl) g_420 rfl rfl dX11_pigeons_46 ?_
    refine pgN C hP (k := 1) (j := 0) (Nat.le_of_ble_eq_true rfl) (xd_1 _ _) rfl iw_7 (Nat.le_of_ble_eq_true rfl) g_39 rfl rfl dX11_pigeons_49 ?_
    refine lv_iload hx hb dX11_pigeons_52 (lv_at hl 4 rfl) ?_
    refine lv_bipush (v := (24 : Int32)) hx hb dX11_pigeons_54 (by decide) ?_
    refine lv_iadd hx hb dX11_pigeons_56 ?_
    refine lv_iconst (v := (1 : Int32)) hx hb dX11_pigeons_57 (by decide) ?_
    refine lv_isub hx hb dX11_pigeons_58 ?_
    refine lv_bipush (v := (24 : Int32)) hx hb dX11_pigeons_59 (by decide) ?_
    refine lv_irem hx hb dX11_pigeons_61 (by decide) ?_
    have h7 := chk_1 hf
    replace hf := chk_2 hf
    refine paI C hP (k := 2) (Nat.le_of_ble_eq_true rfl) (xd_2 _ _) h7 dX11_pigeons_62 ?_
    refine lv_topi (fun v8 ev8 => ?_)
    replace hf := lt_c ev8 hf
    refine lv_istore (lv' := [(5, .int v8), (0, .ref (b + 0)), (1, .int i1), (2, .int i2), (3, .int i3), (4, .int i4)]) hx hb dX11_pigeons_63 hl (by decide) rfl (fun ls hl => ?_)
    refine lv_aload_n hx hb dX11_pigeons_65 rfl (lv_at hl 1 rfl) ?_
    refine pg C hP (k := 0) (j := 0) (Nat.le_of_ble_eq_true rfl) (xd_0 _ _) rfl iw_11 (Nat.le_of_ble_eq_true rfl) g_420 rfl rfl dX11_pigeons_66 ?_
    refine pgN C hP (k := 1) (j := 0) (Nat.le_of_ble_eq_true rfl) (xd_1 _ _) rfl iw_7 (Nat.le_of_ble_eq_true rfl) g_39 rfl rfl dX11_pigeons_69 ?_
    refine lv_iload hx hb dX11_pigeons_72 (lv_at hl 5 rfl) ?_
    refine lv_iconst (v := (1 : Int32)) hx hb dX11_pigeons_74 (by decide) ?_
    refine lv_iadd hx hb dX11_pigeons_75 ?_
    refine lv_bipush (v := (24 : Int32)) hx hb dX11_pigeons_76 (by decide) ?_
    refine lv_irem hx hb dX11_pigeons_78 (by decide) ?_
    have h9 := chk_1 hf
    replace hf := chk_2 hf
    refine paI C hP (k := 2) (Nat.le_of_ble_eq_true rfl) (xd_2 _ _) h9 dX11_pigeons_79 ?_
    refine lv_topi (fun v10 ev10 => ?_)
    replace hf := lt_c ev10 hf
    refine lv_istore (lv' := [(6, .int v10), (5, .int v8), (0, .ref (b + 0)), (1, .int i1), (2, .int i2), (3, .int i3), (4, .int i4)]) hx hb dX11_pigeons_80 hl (by decide) rfl (fun ls hl => ?_)
    refine lv_iconst (v := (2 : Int32)) hx hb dX11_pigeons_82 (by decide) ?_
    refine lv_aload_n hx hb dX11_pigeons_83 rfl (lv_at hl 2 rfl) ?_
    refine pg C hP (k := 0) (j := 0) (Nat.le_of_ble_eq_true rfl) (xd_0 _ _) rfl iw_11 (Nat.le_of_ble_eq_true rfl) g_420 rfl rfl dX11_pigeons_84 ?_
    refine pgN C hP (k := 1) (j := 0) (Nat.le_of_ble_eq_true rfl) (xd_1 _ _) rfl iw_7 (Nat.le_of_ble_eq_true rfl) g_39 rfl rfl dX11_pigeons_87 ?_
    refine lv_iload hx hb dX11_pigeons_90 (lv_at hl 6 rfl) ?_
    have h11 := chk_1 hf
    replace hf := chk_2 hf
    refine paI C hP (k := 2) (Nat.le_of_ble_eq_true rfl) (xd_2 _ _) h11 dX11_pigeons_92 ?_
    refine lv_imul hx hb dX11_pigeons_93 ?_
    refine lv_iload hx hb dX11_pigeons_94 (lv_at hl 1 rfl) ?_
    refine lv_isub hx hb dX11_pigeons_96 ?_
    refine lv_iload hx hb dX11_pigeons_97 (lv_at hl 0 rfl) ?_
    refine lv_isub hx hb dX11_pigeons_99 ?_
    refine va_mabs hx hb (by rw [C.1.2.2.1]; exact hl.1.symm) C.1.2.2.2.1 (C.1.2.2.2.2 _ g_1047) (C.1.2.2.2.2 _ g_1048) (C.1.2.2.2.2 _ g_17) (C.1.2.2.2.2 _ g_1049) (Nat.le_of_ble_eq_true rfl) (Nat.le_of_ble_eq_true rfl) (Nat.le_of_ble_eq_true rfl) (Nat.le_of_ble_eq_true rfl) dX11_pigeons_100 ?_
    refine lv_topi (fun v12 ev12 => ?_)
    replace hf := lt_c ev12 hf
    refine lv_istore (lv' := [(7, .int v12), (6, .int v10), (5, .int v8), (0, .ref (b + 0)), (1, .int i1), (2, .int i2), (3, .int i3), (4, .int i4)]) hx hb dX11_pigeons_103 hl (by decide) rfl (fun ls hl => ?_)
    refine lv_iload hx hb dX11_pigeons_105 (lv_at hl 0 rfl) ?_
    refine lv_iload_n hx hb dX11_pigeons_107 rfl (lv_at hl 5 rfl) ?_
    refine lv_icmp_le (tgt := 117) hx hb dX11_pigeons_108 (by decide) (fun c13 => ?_) (fun c13 => ?_)
    · replace hf := ite_t c13 hf
      exact w11_pigeons_117 (n := n)  C hr hk q38 hf hP hS (lv_sub hl [3, 4, 5, 6, 7] rfl)
    · replace hf := ite_f c13 hf
      refine lv_iload hx hb dX11_pigeons_111 (lv_at hl 0 rfl) ?_
      refine lv_istore_n (lv' := [(2, .int v12), (7, .int v12), (6, .int v10), (5, .int v8), (0, .ref (b + 0)), (1, .int i1), (3, .int i3), (4, .int i4)]) hx hb dX11_pigeons_113 rfl hl (by decide) rfl (fun ls hl => ?_)
      refine lv_iload hx hb dX11_pigeons_114 (lv_at hl 7 rfl) ?_
      refine lv_istore_n (lv' := [(3, .int i4), (2, .int v12), (7, .int v12), (6, .int v10), (5, .int v8), (0, .ref (b + 0)), (1, .int i1), (4, .int i4)]) hx hb dX11_pigeons_116 rfl hl (by decide) rfl (fun ls hl => ?_)
      exact w11_pigeons_117 (n := n)  C hr hk q38 hf hP hS (lv_sub hl [5, 6, 1, 0, 7] rfl)
set_option maxHeartbeats 4000000 in
set_option maxRecDepth 100000 in
theorem w11_pigeons_0 {p : Program} {l : Launch} {e : Env} {s : State} {m : MethodId} {args : Array Value} {below : List Frame} {meth : Method} {c : Code} {z : Zt} {b : Nat}  (C : Cx p s m args c cX11_pigeons 8 RX11 z 339 b) (hr : meth.sig.returnType = (some .int)) (hk : meth.locks = false) {r : Int32} {M' : Mem} {rc : Nat → List Int32 → List Int64 → Mem → Option (Int32 × Mem)} {n : Nat} (q38 : ∀ (i1 : Int32) (i2 : Int32) (i3 : Int32) (i4 : Int32) (M : Mem) (H : Heap) (locs : List Loc) (ls : Array Slot), rc 38 [i1, i2, i3, i4] [] M = some (r, M') → va_P z.1 vwCl (pw (xd z b) 339 b M) H → va_S (pA 339 b) s.heap H locs → lv_has ls 8 [(0, .ref (b + 0)), (1, .int i1), (2, .int i2), (3, .int i3), (4, .int i4)] → W p l e rm11_pigeons s m args below meth c H locs 0 0 (MQ below (va_Qi (fun (r' : Int32) (M2 : Mem) => r' = r ∧ M2 = M') (fun M2 t => va_P z.1 vwCl (pw (xd z b) 339 b M2) t.heap) (pA 339 b)) args s 0 0 (pA 339 b)) (F0 m 38 ls [])) {a1 : Int32} {M : Mem} {H : Heap} {locs : List Loc} {ls : Array Slot} (hf : b11_pigeons_0  rc n a1 M = some (r, M')) (hP : va_P z.1 vwCl (pw (xd z b) 339 b M) H) (hS : va_S (pA 339 b) s.heap H locs) (hl : lv_has ls 8 [(0, .ref (b + 0)), (1, .int a1)]) : W p l e rm11_pigeons s m args below meth c H locs 0 0 (MQ below (va_Qi (fun (r' : Int32) (M2 : Mem) => r' = r ∧ M2 = M') (fun M2 t => va_P z.1 vwCl (pw (xd z b) 339 b M2) t.heap) (pA 339 b)) args s 0 0 (pA 339 b)) (F0 m 0 ls []) := by
  have hx := C.1.1
  have hb := C.1.2.1
  unfold b11_pigeons_0 at hf
  refine lv_iload_n hx hb dX11_pigeons_0 rfl (lv_at hl 1 rfl) ?_
  refine lv_if_lt (tgt := 21) hx hb dX11_pigeons_1 (by decide) (fun c1 => ?_) (fun c1 => ?_)
  · replace hf := ite_t c1 hf
    exact w11_pigeons_21 (n := n)  C hr hk q38 hf hP hS (lv_sub hl [] rfl)
  · replace hf := ite_f c1 hf
    refine lv_iload_n hx hb dX11_pigeons_4 rfl (lv_at hl 1 rfl) ?_
    refine lv_iconst (v := (1 : Int32)) hx hb dX11_pigeons_5 (by decide) ?_
    refine lv_icmp_gt (tgt := 21) hx hb dX11_pigeons_6 (by decide) (fun c2 => ?_) (fun c2 => ?_)
    · replace hf := ite_t c2 hf
      exact w11_pigeons_21 (n := n)  C hr hk q38 hf hP hS (lv_sub hl [] rfl)
    · replace hf := ite_f c2 hf
      refine lv_aload_n hx hb dX11_pigeons_9 rfl (lv_at hl 0 rfl) ?_
      refine pg C hP (k := 0) (j := 0) (Nat.le_of_ble_eq_true rfl) (xd_0 _ _) rfl iw_11 (Nat.le_of_ble_eq_true rfl) g_420 rfl rfl dX11_pigeons_10 ?_
      refine pgN C hP (k := 1) (j := 1) (Nat.le_of_ble_eq_true rfl) (xd_1 _ _) rfl iw_7 (Nat.le_of_ble_eq_true rfl) g_41 rfl rfl dX11_pigeons_13 ?_
      refine lv_bipush (v := (24 : Int32)) hx hb dX11_pigeons_16 (by decide) ?_
      refine lv_icmp_ge (tgt := 23) hx hb dX11_pigeons_18 (by decide) (fun c3 => ?_) (fun c3 => ?_)
      · replace hf := ite_t c3 hf
        refine lv_aload_n hx hb dX11_pigeons_23 rfl (lv_at hl 0 rfl) ?_
        refine pg C hP (k := 0) (j := 0) (Nat.le_of_ble_eq_true rfl) (xd_0 _ _) rfl iw_11 (Nat.le_of_ble_eq_true rfl) g_420 rfl rfl dX11_pigeons_24 ?_
        refine lv_iconst (v := (0 : Int32)) hx hb dX11_pigeons_27 (by decide) ?_
        refine ppIN C hP hS (k := 1) (j := 1) (ty := .int) (Nat.le_of_ble_eq_true rfl) (xd_1 _ _) rfl iw_7 tyX7 tyX7_ok nmX7 (Nat.le_of_ble_eq_true rfl) g_41 rfl rfl (by decide +kernel) rfl rfl (Nat.le_of_ble_eq_true rfl) (xu_1_1 _ _ _) dX11_pigeons_28 (fun M4 H locs eM4 hP hS => ?_)
        replace hf := lt_c eM4 hf
        refine lv_iconst (v := (-1 : Int32)) hx hb dX11_pigeons_31 (by decide) ?_
        refine lv_istore_n (lv' := [(2, .int (-1 : Int32)), (0, .ref (b + 0)), (1, .int a1)]) hx hb dX11_pigeons_32 rfl hl (by decide) rfl (fun ls hl => ?_)
        refine lv_iconst (v := (0 : Int32)) hx hb dX11_pigeons_33 (by decide) ?_
        refine lv_istore_n (lv' := [(3, .int (0 : Int32)), (2, .int (-1 : Int32)), (0, .ref (b + 0)), (1, .int a1)]) hx hb dX11_pigeons_34 rfl hl (by decide) rfl (fun ls hl => ?_)
        refine lv_iconst (v := (0 : Int32)) hx hb dX11_pigeons_35 (by decide) ?_
        refine lv_istore (lv' := [(4, .int (0 : Int32)), (3, .int (0 : Int32)), (2, .int (-1 : Int32)), (0, .ref (b + 0)), (1, .int a1)]) hx hb dX11_pigeons_36 hl (by decide) rfl (fun ls hl => ?_)
        exact w11_pigeons_38 (n := n)  C hr hk q38 hf hP hS (lv_sub hl [3, 4, 2, 1, 0] rfl)
      · replace hf := ite_f c3 hf
        exact w11_pigeons_21 (n := n)  C hr hk q38 hf hP hS (lv_sub hl [] rfl)
set_option maxHeartbeats 4000000 in
set_option maxRecDepth 100000 in
theorem l11_pigeons {p : Program} {l : Launch} {e : Env} {s : State} {m : MethodId} {args : Array Value} {below : List Frame} {meth : Method} {c : Code} {z : Zt} {b : Nat}  (C : Cx p s m args c cX11_pigeons 8 RX11 z 339 b) (hr : meth.sig.returnType = (some .int)) (hk : meth.locks = false) {r : Int32} {M' : Mem} (n : Nat) : (∀ (i1 : Int32) (i2 : Int32) (i3 : Int32) (i4 : Int32) (M : Mem) (H : Heap) (locs : List Loc) (ls : Array Slot), (r11_pigeons  n) 38 [i1, i2, i3, i4] [] M = some (r, M') → va_P z.1 vwCl (pw (xd z b) 339 b M) H → va_S (pA 339 b) s.heap H locs → lv_has ls 8 [(0, .ref (b + 0)), (1, .int i1), (2, .int i2), (3, .int i3), (4, .int i4)] → W p l e rm11_pigeons s m args below meth c H locs 0 0 (MQ below (va_Qi (fun (r' : Int32) (M2 : Mem) => r' = r ∧ M2 = M') (fun M2 t => va_P z.1 vwCl (pw (xd z b) 339 b M2) t.heap) (pA 339 b)) args s 0 0 (pA 339 b)) (F0 m 38 ls [])) := by
  induction n with
  | zero => exact fun _ _ _ _ _ _ _ _ hf => (by cases hf)
  | succ n ih => exact fun _ _ _ _ _ _ _ _ hf hP hS hl => w11_pigeons_38 (n := n)  C hr hk ih ((e11_pigeons_38  n _ _ _ _ _).symm.trans hf) hP hS hl
theorem c11_pigeons {l : Launch} {z : Zt} {b n : Nat}  {a1 : Int32} {M M' : Mem} {r : Int32} (hf : f11_pigeons n  a1 M = some (r, M')) : CI l z (xd z b) 339 b yX11_pigeons cX11_pigeons 8 (some .int) rm11_pigeons [.ref (b + 0), .int a1] M M' r :=
  CI.ofW (lv := [(0, .ref (b + 0)), (1, .int a1)]) (by decide) (Nat.le_of_ble_eq_true rfl) rfl (fun p e s m args below meth c ls C hr hk hP hS hl => w11_pigeons_0 (n := n)  C hr hk (l11_pigeons  C hr hk n) hf hP hS hl)

-- BronzeKing.streets(I)I
theorem dX11_streets_0 : decode cX11_streets 0 = .ok (.iload_n 1, 1) := by decide +kernel
theorem dX11_streets_1 : decode cX11_streets 1 = .ok (.tableswitch 116 0 6 #[43, 51, 59, 67, 75, 86, 101], 43) := by decide +kernel
theorem dX11_streets_44 : decode cX11_streets 44 = .ok (.aload_n 0, 1) := by decide +kernel
theorem dX11_streets_45 : decode cX11_streets 45 = .ok (.getfield 60, 3) := by decide +kernel
theorem dX11_streets_48 : decode cX11_streets 48 = .ok (.invokevirtual 283, 3) := by decide +kernel
theorem dX11_streets_51 : decode cX11_streets 51 = .ok (.ireturn, 1) := by decide +kernel
theorem dX11_streets_52 : decode cX11_streets 52 = .ok (.aload_n 0, 1) := by decide +kernel
theorem dX11_streets_53 : decode cX11_streets 53 = .ok (.getfield 60, 3) := by decide +kernel
theorem dX11_streets_56 : decode cX11_streets 56 = .ok (.invokevirtual 286, 3) := by decide +kernel
theorem dX11_streets_59 : decode cX11_streets 59 = .ok (.ireturn, 1) := by decide +kernel
theorem dX11_streets_60 : decode cX11_streets 60 = .ok (.aload_n 0, 1) := by decide +kernel
theorem dX11_streets_61 : decode cX11_streets 61 = .ok (.getfield 60, 3) := by decide +kernel
theorem dX11_streets_64 : decode cX11_streets 64 = .ok (.invokevirtual 289, 3) := by decide +kernel
theorem dX11_streets_67 : decode cX11_streets 67 = .ok (.ireturn, 1) := by decide +kernel
theorem dX11_streets_68 : decode cX11_streets 68 = .ok (.aload_n 0, 1) := by decide +kernel
theorem dX11_streets_69 : decode cX11_streets 69 = .ok (.getfield 60, 3) := by decide +kernel
theorem dX11_streets_72 : decode cX11_streets 72 = .ok (.invokevirtual 292, 3) := by decide +kernel
theorem dX11_streets_75 : decode cX11_streets 75 = .ok (.ireturn, 1) := by decide +kernel
theorem dX11_streets_76 : decode cX11_streets 76 = .ok (.aload_n 0, 1) := by decide +kernel
theorem dX11_streets_77 : decode cX11_streets 77 = .ok (.getfield 19, 3) := by decide +kernel
theorem dX11_streets_80 : decode cX11_streets 80 = .ok (.getfield 295, 3) := by decide +kernel
theorem dX11_streets_83 : decode cX11_streets 83 = .ok (.invokevirtual 299, 3) := by decide +kernel
theorem dX11_streets_86 : decode cX11_streets 86 = .ok (.ireturn, 1) := by decide +kernel
theorem dX11_streets_87 : decode cX11_streets 87 = .ok (.aload_n 0, 1) := by decide +kernel
theorem dX11_streets_88 : decode cX11_streets 88 = .ok (.getfield 60, 3) := by decide +kernel
theorem dX11_streets_91 : decode cX11_streets 91 = .ok (.invokevirtual 303, 3) := by decide +kernel
theorem dX11_streets_94 : decode cX11_streets 94 = .ok (.aload_n 0, 1) := by decide +kernel
theorem dX11_streets_95 : decode cX11_streets 95 = .ok (.getfield 60, 3) := by decide +kernel
theorem dX11_streets_98 : decode cX11_streets 98 = .ok (.getfield 306, 3) := by decide +kernel
theorem dX11_streets_101 : decode cX11_streets 101 = .ok (.ireturn, 1) := by decide +kernel
theorem dX11_streets_102 : decode cX11_streets 102 = .ok (.aload_n 0, 1) := by decide +kernel
theorem dX11_streets_103 : decode cX11_streets 103 = .ok (.getfield 60, 3) := by decide +kernel
theorem dX11_streets_106 : decode cX11_streets 106 = .ok (.invokevirtual 303, 3) := by decide +kernel
theorem dX11_streets_109 : decode cX11_streets 109 = .ok (.aload_n 0, 1) := by decide +kernel
theorem dX11_streets_110 : decode cX11_streets 110 = .ok (.getfield 60, 3) := by decide +kernel
theorem dX11_streets_113 : decode cX11_streets 113 = .ok (.getfield 309, 3) := by decide +kernel
theorem dX11_streets_116 : decode cX11_streets 116 = .ok (.ireturn, 1) := by decide +kernel
theorem dX11_streets_117 : decode cX11_streets 117 = .ok (.iconst (-1), 1) := by decide +kernel
theorem dX11_streets_118 : decode cX11_streets 118 = .ok (.ireturn, 1) := by decide +kernel
def b11_streets_0 (rc : Nat → List Int32 → List Int64 → Mem → Option (Int32 × Mem)) (n : Nat) (a1 : Int32) (M : Mem) : Option (Int32 × Mem) :=
  (if a1 = (0 : Int32) then (
   bnd (f6_islands n M) fun r2 M3 =>
   some (r2, M3))
  else (
   (if a1 = (1 : Int32) then (
    bnd (f6_deadEnds n M) fun r6 M7 =>
    some (r6, M7))
   else (
    (if a1 = (2 : Int32) then (
     bnd (f6_rings n M) fun r10 M11 =>
     some (r10, M11))
    else (
     (if a1 = (3 : Int32) then (
      bnd (f6_crossings n M) fun r14 M15 =>
      some (r14, M15))
     else (
      (if a1 = (4 : Int32) then (
       bnd (f4_size n 10 M) fun r18 M19 =>
       some (r18, M19))
      else (
       (if a1 = (5 : Int32) then (
        bnd (f6_findCuts n M) fun r22 M23 =>
        some ((M23.1 27 11), M23))
       else (
        (if a1 = (6 : Int32) then (
         bnd (f6_findCuts n M) fun r26 M27 =>
         some ((M27.1 27 12), M27))
        else (
         some ((-1 : Int32), M)))))))))))))))
def f11_streets (n : Nat) (a1 : Int32) (M : Mem) : Option (Int32 × Mem) := b11_streets_0 (fun _ _ _ _ => none) n a1 M
abbrev rm11_streets : Room := { frames := 5, cells := 0, slots := 0, locals := 116 }
theorem y11_streets_w : yV RX11 yX11_streets cX11_streets 2 (some .int) 1 := ⟨g_1051, g_1052, g_1, g_1053, rfl, by decide, by decide, by decide +kernel⟩
set_option maxHeartbeats 4000000 in
set_option maxRecDepth 100000 in
theorem w11_streets_0 {p : Program} {l : Launch} {e : Env} {s : State} {m : MethodId} {args : Array Value} {below : List Frame} {meth : Method} {c : Code} {z : Zt} {b : Nat}  (C : Cx p s m args c cX11_streets 2 RX11 z 339 b) (hr : meth.sig.returnType = (some .int)) (hk : meth.locks = false) {r : Int32} {M' : Mem} {rc : Nat → List Int32 → List Int64 → Mem → Option (Int32 × Mem)} {n : Nat}  {a1 : Int32} {M : Mem} {H : Heap} {locs : List Loc} {ls : Array Slot} (hf : b11_streets_0  rc n a1 M = some (r, M')) (hP : va_P z.1 vwCl (pw (xd z b) 339 b M) H) (hS : va_S (pA 339 b) s.heap H locs) (hl : lv_has ls 2 [(0, .ref (b + 0)), (1, .int a1)]) : W p l e rm11_streets s m args below meth c H locs 0 0 (MQ below (va_Qi (fun (r' : Int32) (M2 : Mem) => r' = r ∧ M2 = M') (fun M2 t => va_P z.1 vwCl (pw (xd z b) 339 b M2) t.heap) (pA 339 b)) args s 0 0 (pA 339 b)) (F0 m 0 ls []) := by
  have hx := C.1.1
  have hb := C.1.2.1
  unfold b11_streets_0 at hf
  refine lv_iload_n hx hb dX11_streets_0 rfl (lv_at hl 1 rfl) ?_
  by_cases c1 : a1 = (0 : Int32)
  · replace hf := ite_t c1 hf
    refine lv_tableIn (off := 43) (tgt := 44) hx hb dX11_streets_1 (by rw [c1]; decide) (by rw [c1]; decide) (by rw [c1]; rfl) (by decide) ?_
    refine lv_aload_n hx hb dX11_streets_44 rfl (lv_at hl 0 rfl) ?_
    refine pg C hP (k := 0) (j := 6) (Nat.le_of_ble_eq_true rfl) (xd_0 _ _) rfl iw_11 (Nat.le_of_ble_eq_true rfl) g_426 rfl rfl dX11_streets_45 ?_
    obtain ⟨r2, M3, h4, hf⟩ := bnd_s hf
    refine pcVi (As := []) C hP hS (k := 27) (Nat.le_of_ble_eq_true rfl) (xd_27 _ _) rfl (c6_islands  h4) y6_islands_w g_1054 rfl rfl rfl ⟨Nat.le_of_ble_eq_true rfl, Nat.le_of_ble_eq_true rfl⟩ hl.1 rfl (Nat.le_of_ble_eq_true rfl) dX11_streets_48 ⟨Nat.le_of_ble_eq_true rfl, Nat.le_of_ble_eq_true rfl⟩ (fun H locs hP hS => ?_)
    exact prI C hr hk hP hS hf dX11_streets_51
  · replace hf := ite_f c1 hf
    by_cases c5 : a1 = (1 : Int32)
    · replace hf := ite_t c5 hf
      refine lv_tableIn (off := 51) (tgt := 52) hx hb dX11_streets_1 (by rw [c5]; decide) (by rw [c5]; decide) (by rw [c5]; rfl) (by decide) ?_
      refine lv_aload_n hx hb dX11_streets_52 rfl (lv_at hl 0 rfl) ?_
      refine pg C hP (k := 0) (j := 6) (Nat.le_of_ble_eq_true rfl) (xd_0 _ _) rfl iw_11 (Nat.le_of_ble_eq_true rfl) g_426 rfl rfl dX11_streets_53 ?_
      obtain ⟨r6, M7, h8, hf⟩ := bnd_s hf
      refine pcVi (As := []) C hP hS (k := 27) (Nat.le_of_ble_eq_true rfl) (xd_27 _ _) rfl (c6_deadEnds  h8) y6_deadEnds_w g_1067 rfl rfl rfl ⟨Nat.le_of_ble_eq_true rfl, Nat.le_of_ble_eq_true rfl⟩ hl.1 rfl (Nat.le_of_ble_eq_true rfl) dX11_streets_56 ⟨Nat.le_of_ble_eq_true rfl, Nat.le_of_ble_eq_true rfl⟩ (fun H locs hP hS => ?_)
      exact prI C hr hk hP hS hf dX11_streets_59
    · replace hf := ite_f c5 hf
      by_cases c9 : a1 = (2 : Int32)
      · replace hf := ite_t c9 hf
        refine lv_tableIn (off := 59) (tgt := 60) hx hb dX11_streets_1 (by rw [c9]; decide) (by rw [c9]; decide) (by rw [c9]; rfl) (by decide) ?_
        refine lv_aload_n hx hb dX11_streets_60 rfl (lv_at hl 0 rfl) ?_
        refine pg C hP (k := 0) (j := 6) (Nat.le_of_ble_eq_true rfl) (xd_0 _ _) rfl iw_11 (Nat.le_of_ble_eq_true rfl) g_426 rfl rfl dX11_streets_61 ?_
        obtain ⟨r10, M11, h12, hf⟩ := bnd_s hf
        refine pcVi (As := []) C hP hS (k := 27) (Nat.le_of_ble_eq_true rfl) (xd_27 _ _) rfl (c6_rings  h12) y6_rings_w g_1076 rfl rfl rfl ⟨Nat.le_of_ble_eq_true rfl, Nat.le_of_ble_eq_true rfl⟩ hl.1 rfl (Nat.le_of_ble_eq_true rfl) dX11_streets_64 ⟨Nat.le_of_ble_eq_true rfl, Nat.le_of_ble_eq_true rfl⟩ (fun H locs hP hS => ?_)
        exact prI C hr hk hP hS hf dX11_streets_67
      · replace hf := ite_f c9 hf
        by_cases c13 : a1 = (3 : Int32)
        · replace hf := ite_t c13 hf
          refine lv_tableIn (off := 67) (tgt := 68) hx hb dX11_streets_1 (by rw [c13]; decide) (by rw [c13]; decide) (by rw [c13]; rfl) (by decide) ?_
          refine lv_aload_n hx hb dX11_streets_68 rfl (lv_at hl 0 rfl) ?_
          refine pg C hP (k := 0) (j := 6) (Nat.le_of_ble_eq_true rfl) (xd_0 _ _) rfl iw_11 (Nat.le_of_ble_eq_true rfl) g_426 rfl rfl dX11_streets_69 ?_
          obtain ⟨r14, M15, h16, hf⟩ := bnd_s hf
          refine pcVi (As := []) C hP hS (k := 27) (Nat.le_of_ble_eq_true rfl) (xd_27 _ _) rfl (c6_crossings  h16) y6_crossings_w g_1081 rfl rfl rfl ⟨Nat.le_of_ble_eq_true rfl, Nat.le_of_ble_eq_true rfl⟩ hl.1 rfl (Nat.le_of_ble_eq_true rfl) dX11_streets_72 ⟨Nat.le_of_ble_eq_true rfl, Nat.le_of_ble_eq_true rfl⟩ (fun H locs hP hS => ?_)
          exact prI C hr hk hP hS hf dX11_streets_75
        · replace hf := ite_f c13 hf
          by_cases c17 : a1 = (4 : Int32)
          · replace hf := ite_t c17 hf
            refine lv_tableIn (off := 75) (tgt := 76) hx hb dX11_streets_1 (by rw [c17]; decide) (by rw [c17]; decide) (by rw [c17]; rfl) (by decide) ?_
            refine lv_aload_n hx hb dX11_streets_76 rfl (lv_at hl 0 rfl) ?_
            refine pg C hP (k := 0) (j := 1) (Nat.le_of_ble_eq_true rfl) (xd_0 _ _) rfl iw_11 (Nat.le_of_ble_eq_true rfl) g_421 rfl rfl dX11_streets_77 ?_
            refine pgN C hP (k := 3) (j := 6) (Nat.le_of_ble_eq_true rfl) (xd_3 _ _) rfl iw_8 (Nat.le_of_ble_eq_true rfl) g_87 rfl rfl dX11_streets_80 ?_
            obtain ⟨r18, M19, h20, hf⟩ := bnd_s hf
            refine pcVi (As := []) C hP hS (k := 10) (ps_lt ps_10) ((ps_d ps_10) _ _) rfl (c4_size ps_10 h20) y4_size_w g_1085 rfl rfl rfl ⟨Nat.le_of_ble_eq_true rfl, Nat.le_of_ble_eq_true rfl⟩ hl.1 rfl (Nat.le_of_ble_eq_true rfl) dX11_streets_83 ⟨Nat.le_of_ble_eq_true rfl, Nat.le_of_ble_eq_true rfl⟩ (fun H locs hP hS => ?_)
            exact prI C hr hk hP hS hf dX11_streets_86
          · replace hf := ite_f c17 hf
            by_cases c21 : a1 = (5 : Int32)
            · replace hf := ite_t c21 hf
              refine lv_tableIn (off := 86) (tgt := 87) hx hb dX11_streets_1 (by rw [c21]; decide) (by rw [c21]; decide) (by rw [c21]; rfl) (by decide) ?_
              refine lv_aload_n hx hb dX11_streets_87 rfl (lv_at hl 0 rfl) ?_
              refine pg C hP (k := 0) (j := 6) (Nat.le_of_ble_eq_true rfl) (xd_0 _ _) rfl iw_11 (Nat.le_of_ble_eq_true rfl) g_426 rfl rfl dX11_streets_88 ?_
              obtain ⟨r22, M23, h24, hf⟩ := bnd_s hf
              refine pcVv (As := []) C hP hS (k := 27) (Nat.le_of_ble_eq_true rfl) (xd_27 _ _) rfl (c6_findCuts  h24) y6_findCuts_w g_1086 rfl rfl rfl ⟨Nat.le_of_ble_eq_true rfl, Nat.le_of_ble_eq_true rfl⟩ hl.1 rfl (Nat.le_of_ble_eq_true rfl) dX11_streets_91 ⟨Nat.le_of_ble_eq_true rfl, Nat.le_of_ble_eq_true rfl⟩ (fun H locs hP hS => ?_)
              refine lv_aload_n hx hb dX11_streets_94 rfl (lv_at hl 0 rfl) ?_
              refine pg C hP (k := 0) (j := 6) (Nat.le_of_ble_eq_true rfl) (xd_0 _ _) rfl iw_11 (Nat.le_of_ble_eq_true rfl) g_426 rfl rfl dX11_streets_95 ?_
              refine pgN C hP (k := 27) (j := 11) (Nat.le_of_ble_eq_true rfl) (xd_27 _ _) rfl iw_6 (Nat.le_of_ble_eq_true rfl) g_269 rfl rfl dX11_streets_98 ?_
              exact prI C hr hk hP hS hf dX11_streets_101
            · replace hf := ite_f c21 hf
              by_cases c25 : a1 = (6 : Int32)
              · replace hf := ite_t c25 hf
                refine lv_tableIn (off := 101) (tgt := 102) hx hb dX11_streets_1 (by rw [c25]; decide) (by rw [c25]; decide) (by rw [c25]; rfl) (by decide) ?_
                refine lv_aload_n hx hb dX11_streets_102 rfl (lv_at hl 0 rfl) ?_
                refine pg C hP (k := 0) (j := 6) (Nat.le_of_ble_eq_true rfl) (xd_0 _ _) rfl iw_11 (Nat.le_of_ble_eq_true rfl) g_426 rfl rfl dX11_streets_103 ?_
                obtain ⟨r26, M27, h28, hf⟩ := bnd_s hf
                refine pcVv (As := []) C hP hS (k := 27) (Nat.le_of_ble_eq_true rfl) (xd_27 _ _) rfl (c6_findCuts  h28) y6_findCuts_w g_1086 rfl rfl rfl ⟨Nat.le_of_ble_eq_true rfl, Nat.le_of_ble_eq_true rfl⟩ hl.1 rfl (Nat.le_of_ble_eq_true rfl) dX11_streets_106 ⟨Nat.le_of_ble_eq_true rfl, Nat.le_of_ble_eq_true rfl⟩ (fun H locs hP hS => ?_)
                refine lv_aload_n hx hb dX11_streets_109 rfl (lv_at hl 0 rfl) ?_
                refine pg C hP (k := 0) (j := 6) (Nat.le_of_ble_eq_true rfl) (xd_0 _ _) rfl iw_11 (Nat.le_of_ble_eq_true rfl) g_426 rfl rfl dX11_streets_110 ?_
                refine pgN C hP (k := 27) (j := 12) (Nat.le_of_ble_eq_true rfl) (xd_27 _ _) rfl iw_6 (Nat.le_of_ble_eq_true rfl) g_271 rfl rfl dX11_streets_113 ?_
                exact prI C hr hk hP hS hf dX11_streets_116
              · replace hf := ite_f c25 hf
                refine lv_tableOut (tgt := 117) hx hb dX11_streets_1 (by have z0 : ¬ a1.toInt = 0 := tsn c1; have z1 : ¬ a1.toInt = 1 := tsn c5; have z2 : ¬ a1.toInt = 2 := tsn c9; have z3 : ¬ a1.toInt = 3 := tsn c13; have z4 : ¬ a1.toInt = 4 := tsn c17; have z5 : ¬ a1.toInt = 5 := tsn c21; have z6 : ¬ a1.toInt = 6 := tsn c25; omega) (by decide) ?_
                refine lv_iconst (v := (-1 : Int32)) hx hb dX11_streets_117 (by decide) ?_
                exact prI C hr hk hP hS hf dX11_streets_118
theorem c11_streets {l : Launch} {z : Zt} {b n : Nat}  {a1 : Int32} {M M' : Mem} {r : Int32} (hf : f11_streets n  a1 M = some (r, M')) : CI l z (xd z b) 339 b yX11_streets cX11_streets 2 (some .int) rm11_streets [.ref (b + 0), .int a1] M M' r :=
  CI.ofW (lv := [(0, .ref (b + 0)), (1, .int a1)]) (by decide) (Nat.le_of_ble_eq_true rfl) rfl (fun p e s m args below meth c ls C hr hk hP hS hl => w11_streets_0 (n := n)  C hr hk  hf hP hS hl)
