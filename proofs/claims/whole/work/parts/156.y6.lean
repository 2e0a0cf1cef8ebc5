-- BronzeKingModel.worn()I
theorem dX12_worn_0 : decode cX12_worn 0 = .ok (.bipush (-2), 2) := by decide +kernel
theorem dX12_worn_2 : decode cX12_worn 2 = .ok (.istore_n 1, 1) := by decide +kernel
theorem dX12_worn_3 : decode cX12_worn 3 = .ok (.iconst 0, 1) := by decide +kernel
theorem dX12_worn_4 : decode cX12_worn 4 = .ok (.istore_n 2, 1) := by decide +kernel
theorem dX12_worn_5 : decode cX12_worn 5 = .ok (.iconst 0, 1) := by decide +kernel
theorem dX12_worn_6 : decode cX12_worn 6 = .ok (.istore_n 3, 1) := by decide +kernel
theorem dX12_worn_7 : decode cX12_worn 7 = .ok (.iload_n 3, 1) := by decide +kernel
theorem dX12_worn_8 : decode cX12_worn 8 = .ok (.bipush 96, 2) := by decide +kernel
theorem dX12_worn_10 : decode cX12_worn 10 = .ok (.if_icmp .ge 35, 3) := by decide +kernel
theorem dX12_worn_13 : decode cX12_worn 13 = .ok (.aload_n 0, 1) := by decide +kernel
theorem dX12_worn_14 : decode cX12_worn 14 = .ok (.getfield 7, 3) := by decide +kernel
theorem dX12_worn_17 : decode cX12_worn 17 = .ok (.iconst 0, 1) := by decide +kernel
theorem dX12_worn_18 : decode cX12_worn 18 = .ok (.iload_n 3, 1) := by decide +kernel
theorem dX12_worn_19 : decode cX12_worn 19 = .ok (.iadd, 1) := by decide +kernel
theorem dX12_worn_20 : decode cX12_worn 20 = .ok (.iaload, 1) := by decide +kernel
theorem dX12_worn_21 : decode cX12_worn 21 = .ok (.iload_n 2, 1) := by decide +kernel
theorem dX12_worn_22 : decode cX12_worn 22 = .ok (.if_icmp .gt 6, 3) := by decide +kernel
theorem dX12_worn_25 : decode cX12_worn 25 = .ok (.goto 14, 3) := by decide +kernel
theorem dX12_worn_28 : decode cX12_worn 28 = .ok (.aload_n 0, 1) := by decide +kernel
theorem dX12_worn_29 : decode cX12_worn 29 = .ok (.getfield 7, 3) := by decide +kernel
theorem dX12_worn_32 : decode cX12_worn 32 = .ok (.iconst 0, 1) := by decide +kernel
theorem dX12_worn_33 : decode cX12_worn 33 = .ok (.iload_n 3, 1) := by decide +kernel
theorem dX12_worn_34 : decode cX12_worn 34 = .ok (.iadd, 1) := by decide +kernel
theorem dX12_worn_35 : decode cX12_worn 35 = .ok (.iaload, 1) := by decide +kernel
theorem dX12_worn_36 : decode cX12_worn 36 = .ok (.istore_n 2, 1) := by decide +kernel
theorem dX12_worn_37 : decode cX12_worn 37 = .ok (.iload_n 3, 1) := by decide +kernel
theorem dX12_worn_38 : decode cX12_worn 38 = .ok (.istore_n 1, 1) := by decide +kernel
theorem dX12_worn_39 : decode cX12_worn 39 = .ok (.iinc 3 1, 3) := by decide +kernel
theorem dX12_worn_42 : decode cX12_worn 42 = .ok (.goto (-35), 3) := by decide +kernel
theorem dX12_worn_45 : decode cX12_worn 45 = .ok (.iload_n 1, 1) := by decide +kernel
theorem dX12_worn_46 : decode cX12_worn 46 = .ok (.ireturn, 1) := by decide +kernel
def b12_worn_39 (rc : Nat → List Int32 → List Int64 → Mem → Option (Int32 × Mem)) (n : Nat) (i1 : Int32) (i2 : Int32) (i3 : Int32) (M : Mem) : Option (Int32 × Mem) :=
  lt (i3 + (1 : Int32)) fun v6 =>
  rc 7 [i1, i2, v6] [] M
def b12_worn_7 (rc : Nat → List Int32 → List Int64 → Mem → Option (Int32 × Mem)) (n : Nat) (i1 : Int32) (i2 : Int32) (i3 : Int32) (M : Mem) : Option (Int32 × Mem) :=
  (if (96 : Int32) ≤ i3 then (
   some (i1, M))
  else (
   chk (inb ((0 : Int32) + i3) 162) <|
   (if i2 < (M.1 1 ((0 : Int32) + i3).toNatClampNeg) then (
    chk (inb ((0 : Int32) + i3) 162) <|
    lt (M.1 1 ((0 : Int32) + i3).toNatClampNeg) fun v5 =>
    b12_worn_39  rc n i3 v5 i3 M)
   else (
    b12_worn_39  rc n i1 i2 i3 M))))
def b12_worn_0 (rc : Nat → List Int32 → List Int64 → Mem → Option (Int32 × Mem)) (n : Nat) (M : Mem) : Option (Int32 × Mem) :=
  b12_worn_7  rc n (-2 : Int32) (0 : Int32) (0 : Int32) M
def r12_worn : Nat → Nat → List Int32 → List Int64 → Mem → Option (Int32 × Mem)
  | 0 => fun _ _ _ _ => none
  | n + 1 => fun pc li lj M =>
    if pc = 7 then (match li, lj with | [i1, i2, i3], [] => b12_worn_7  (r12_worn  n) n i1 i2 i3 M | _, _ => none) else
    none
theorem e12_worn_7  (n : Nat) (i1 : Int32) (i2 : Int32) (i3 : Int32) (M : Mem) : r12_worn  (n + 1) 7 [i1, i2, i3] [] M = b12_worn_7  (r12_worn  n) n i1 i2 i3 M := by
  rw [r12_worn]
  simp
def f12_worn (n : Nat)  (M : Mem) : Option (Int32 × Mem) := b12_worn_0 (r12_worn n) n M
abbrev rm12_worn : Room := { frames := 0, cells := 0, slots := 0, locals := 0 }
theorem y12_worn_w : yV RX12 yX12_worn cX12_worn 4 (some .int) 0 := ⟨g_1565, g_1566, g_14, g_1567, rfl, by decide, by decide, by decide +kernel⟩
set_option maxHeartbeats 4000000 in
set_option maxRecDepth 100000 in
theorem w12_worn_39 {p : Program} {l : Launch} {e : Env} {s : State} {m : MethodId} {args : Array Value} {below : List Frame} {meth : Method} {c : Code} {z : Zt} {b : Nat}  (C : Cx p s m args c cX12_worn 4 RX12 z 32 b) (hr : meth.sig.returnType = (some .int)) (hk : meth.locks = false) {r : Int32} {M' : Mem} {rc : Nat → List Int32 → List Int64 → Mem → Option (Int32 × Mem)} {n : Nat} (q7 : ∀ (i1 : Int32) (i2 : Int32) (i3 : Int32) (M : Mem) (H : Heap) (locs : List Loc) (ls : Array Slot), rc 7 [i1, i2, i3] [] M = some (r, M') → va_P z.1 vwCl (pw (yd z b) 32 b M) H → va_S (pA 32 b) s.heap H locs → lv_has ls 4 [(0, .ref (b + 0)), (1, .int i1), (2, .int i2), (3, .int i3)] → W p l e rm12_worn s m args below meth c H locs 0 0 (MQ below (va_Qi (fun (r' : Int32) (M2 : Mem) => r' = r ∧ M2 = M') (fun M2 t => va_P z.1 vwCl (pw (yd z b) 32 b M2) t.heap) (pA 32 b)) args s 0 0 (pA 32 b)) (F0 m 7 ls [])) {i1 : Int32} {i2 : Int32} {i3 : Int32} {M : Mem} {H : Heap} {locs : List Loc} {ls : Array Slot} (hf : b12_worn_39  rc n i1 i2 i3 M = some (r, M')) (hP : va_P z.1 vwCl (pw (yd z b) 32 b M) H) (hS : va_S (pA 32 b) s.heap H locs) (hl : lv_has ls 4 [(0, .ref (b + 0)), (1, .int i1), (2, .int i2), (3, .int i3)]) : W p l e rm12_worn s m args below meth c H locs 0 0 (MQ below (va_Qi (fun (r' : Int32) (M2 : Mem) => r' = r ∧ M2 = M') (fun M2 t => va_P z.1 vwCl (pw (yd z b) 32 b M2) t.heap) (pA 32 b)) args s 0 0 (pA 32 b)) (F0 m 39 ls []) := by
  have hx := C.1.1
  have hb := C.1.2.1
  unfold b12_worn_39 at hf
  obtain ⟨v6, ev6⟩ : ∃ v : Int32, v = i3 + (1 : Int32) := ⟨_, rfl⟩
  replace hf := lt_c ev6 hf
  refine lv_iinc (v := v6) (lv' := [(3, .int v6), (0, .ref (b + 0)), (1, .int i1), (2, .int i2)]) hx hb dX12_worn_39 hl (k := 3) rfl (by rw [ev6]; rfl) (by decide) rfl (fun ls hl => ?_)
  refine lv_goto (tgt := 7) hx hb dX12_worn_42 (by decide) ?_
  exact q7 i1 i2 v6 M _ _ _ hf hP hS (lv_sub hl [1, 2, 3, 0] rfl)
set_option maxHeartbeats 4000000 in
set_option maxRecDepth 100000 in
theorem w12_worn_7 {p : Program} {l : Launch} {e : Env} {s : State} {m : MethodId} {args : Array Value} {below : List Frame} {meth : Method} {c : Code} {z : Zt} {b : Nat}  (C : Cx p s m args c cX12_worn 4 RX12 z 32 b) (hr : meth.sig.returnType = (some .int)) (hk : meth.locks = false) {r : Int32} {M' : Mem} {rc : Nat → List Int32 → List Int64 → Mem → Option (Int32 × Mem)} {n : Nat} (q7 : ∀ (i1 : Int32) (i2 : Int32) (i3 : Int32) (M : Mem) (H : Heap) (locs : List Loc) (ls : Array Slot), rc 7 [i1, i2, i3] [] M = some (r, M') → va_P z.1 vwCl (pw (yd z b) 32 b M) H → va_S (pA 32 b) s.heap H locs → lv_has ls 4 [(0, .ref (b + 0)), (1, .int i1), (2, .int i2), (3, .int i3)] → W p l e rm12_worn s m args below meth c H locs 0 0 (MQ below (va_Qi (fun (r' : Int32) (M2 : Mem) => r' = r ∧ M2 = M') (fun M2 t => va_P z.1 vwCl (pw (yd z b) 32 b M2) t.heap) (pA 32 b)) args s 0 0 (pA 32 b)) (F0 m 7 ls [])) {i1 : Int32} {i2 : Int32} {i3 : Int32} {M : Mem} {H : Heap} {locs : List Loc} {ls : Array Slot} (hf : b12_worn_7  rc n i1 i2 i3 M = some (r, M')) (hP : va_P z.1 vwCl (pw (yd z b) 32 b M) H) (hS : va_S (pA 32 b) s.heap H locs) (hl : lv_has ls 4 [(0, .ref (b + 0)), (1, .int i1), (2, .int i2), (3, .int i3)]) : W p l e rm12_worn s m args below meth c H locs 0 0 (MQ below (va_Qi (fun (r' : Int32) (M2 : Mem) => r' = r ∧ M2 = M') (fun M2 t => va_P z.1 vwCl (pw (yd z b) 32 b M2) t.heap) (pA 32 b)) args s 0 0 (pA 32 b)) (F0 m 7 ls []) := by
  have hx := C.1.1
  have hb := C.1.2.1
  unfold b12_worn_7 at hf
  refine lv_iload_n hx hb dX12_worn_7 rfl (lv_at hl 3 rfl) ?_
  refine lv_bipush (v := (96 : Int32)) hx hb dX12_worn_8 (by decide) ?_
  refine lv_icmp_ge (tgt := 45) hx hb dX12_worn_10 (by decide) (fun c1 => ?_) (fun c1 => ?_)
  · replace hf := ite_t c1 hf
    refine lv_iload_n hx hb dX12_worn_45 rfl (lv_at hl 1 rfl) ?_
    exact prI C hr hk hP hS hf dX12_worn_46
  · replace hf := ite_f c1 hf
    refine lv_aload_n hx hb dX12_worn_13 rfl (lv_at hl 0 rfl) ?_
    refine pg C hP (k := 0) (j := 0) (Nat.le_of_ble_eq_true rfl) (yd_0 _ _) rfl iw_12 (Nat.le_of_ble_eq_true rfl) g_1135 rfl rfl dX12_worn_14 ?_
    refine lv_iconst (v := (0 : Int32)) hx hb dX12_worn_17 (by decide) ?_
    refine lv_iload_n hx hb dX12_worn_18 rfl (lv_at hl 3 rfl) ?_
    refine lv_iadd hx hb dX12_worn_19 ?_
    have h2 := chk_1 hf
    replace hf := chk_2 hf
    refine paI C hP (k := 1) (Nat.le_of_ble_eq_true rfl) (yd_1 _ _) h2 dX12_worn_20 ?_
    refine lv_iload_n hx hb dX12_worn_21 rfl (lv_at hl 2 rfl) ?_
    refine lv_icmp_gt (tgt := 28) hx hb dX12_worn_22 (by decide) (fun c3 => ?_) (fun c3 => ?_)
    · replace hf := ite_t c3 hf
      refine lv_aload_n hx hb dX12_worn_28 rfl (lv_at hl 0 rfl) ?_
      refine pg C hP (k := 0) (j := 0) (Nat.le_of_ble_eq_true rfl) (yd_0 _ _) rfl iw_12 (Nat.le_of_ble_eq_true rfl) g_1135 rfl rfl dX12_worn_29 ?_
      refine lv_iconst (v := (0 : Int32)) hx hb dX12_worn_32 (by decide) ?_
      refine lv_iload_n hx hb dX12_worn_33 rfl (lv_at hl 3 rfl) ?_
      refine lv_iadd hx hb dX12_worn_34 ?_
      have h4 := chk_1 hf
      replace hf := chk_2 hf
      refine paI C hP (k := 1) (Nat.le_of_ble_eq_true rfl) (yd_1 _ _) h4 dX12_worn_35 ?_
      refine lv_topi (fun v5 ev5 => ?_)
      replace hf := lt_c ev5 hf
      refine lv_istore_n (lv' := [(2, .int v5), (0, .ref (b + 0)), (1, .int i1), (3, .int i3)]) hx hb dX12_worn_36 rfl hl (by decide) rfl (fun ls hl => ?_)
      refine lv_iload_n hx hb dX12_worn_37 rfl (lv_at hl 3 rfl) ?_
      refine lv_istore_n (lv' := [(1, .int i3), (2, .int v5), (0, .ref (b + 0)), (3, .int i3)]) hx hb dX12_worn_38 rfl hl (by decide) rfl (fun ls hl => ?_)
      exact w12_worn_39 (n := n)  C hr hk q7 hf hP hS (lv_sub hl [2, 0, 1, 3] rfl)
    · replace hf := ite_f c3 hf
      refine lv_goto (tgt := 39) hx hb dX12_worn_25 (by decide) ?_
      exact w12_worn_39 (n := n)  C hr hk q7 hf hP hS (lv_sub hl [0, 1, 2, 3] rfl)
set_option maxHeartbeats 4000000 in
set_option maxRecDepth 100000 in
theorem w12_worn_0 {p : Program} {l : Launch} {e : Env} {s : State} {m : MethodId} {args : Array Value} {below : List Frame} {meth : Method} {c : Code} {z : Zt} {b : Nat}  (C : Cx p s m args c cX12_worn 4 RX12 z 32 b) (hr : meth.sig.returnType = (some .int)) (hk : meth.locks = false) {r : Int32} {M' : Mem} {rc : Nat → List Int32 → List Int64 → Mem → Option (Int32 × Mem)} {n : Nat} (q7 : ∀ (i1 : Int32) (i2 : Int32) (i3 : Int32) (M : Mem) (H : Heap) (locs : List Loc) (ls : Array Slot), rc 7 [i1, i2, i3] [] M = some (r, M') → va_P z.1 vwCl (pw (yd z b) 32 b M) H → va_S (pA 32 b) s.heap H locs → lv_has ls 4 [(0, .ref (b + 0)), (1, .int i1), (2, .int i2), (3, .int i3)] → W p l e rm12_worn s m args below meth c H locs 0 0 (MQ below (va_Qi (fun (r' : Int32) (M2 : Mem) => r' = r ∧ M2 = M') (fun M2 t => va_P z.1 vwCl (pw (yd z b) 32 b M2) t.heap) (pA 32 b)) args s 0 0 (pA 32 b)) (F0 m 7 ls []))  {M : Mem} {H : Heap} {locs : List Loc} {ls : Array Slot} (hf : b12_worn_0  rc n  M = some (r, M')) (hP : va_P z.1 vwCl (pw (yd z b) 32 b M) H) (hS : va_S (pA 32 b) s.heap H locs) (hl : lv_has ls 4 [(0, .ref (b + 0))]) : W p l e rm12_worn s m args below meth c H locs 0 0 (MQ below (va_Qi (fun (r' : Int32) (M2 : Mem) => r' = r ∧ M2 = M') (fun M2 t => va_P z.1 vwCl (pw (yd z b) 32 b M2) t.heap) (pA 32 b)) args s 0 0 (pA 32 b)) (F0 m 0 ls []) := by
  have hx := C.1.1
  have hb := C.1.2.1
  unfold b12_worn_0 at hf
  refine lv_bipush (v := (-2 : Int32)) hx hb dX12_worn_0 (by decide) ?_
  refine lv_istore_n (lv' := [(1, .int (-2 : Int32)), (0, .ref (b + 0))]) hx hb dX12_worn_2 rfl hl (by decide) rfl (fun ls hl => ?_)
  refine lv_iconst (v := (0 : Int32)) hx hb dX12_worn_3 (by decide) ?_
  refine lv_istore_n (lv' := [(2, .int (0 : Int32)), (1, .int (-2 : Int32)), (0, .ref (b + 0))]) hx hb dX12_worn_4 rfl hl (by decide) rfl (fun ls hl => ?_)
  refine lv_iconst (v := (0 : Int32)) hx hb dX12_worn_5 (by decide) ?_
  refine lv_istore_n (lv' := [(3, .int (0 : Int32)), (2, .int (0 : Int32)), (1, .int (-2 : Int32)), (0, .ref (b + 0))]) hx hb dX12_worn_6 rfl hl (by decide) rfl (fun ls hl => ?_)
  exact w12_worn_7 (n := n)  C hr hk q7 hf hP hS (lv_sub hl [3, 2, 1, 0] rfl)
set_option maxHeartbeats 4000000 in
set_option maxRecDepth 100000 in
theorem l12_worn {p : Program} {l : Launch} {e : Env} {s : State} {m : MethodId} {args : Array Value} {below : List Frame} {meth : Method} {c : Code} {z : Zt} {b : Nat}  (C : Cx p s m args c cX12_worn 4 RX12 z 32 b) (hr : meth.sig.returnType = (some .int)) (hk : meth.locks = false) {r : Int32} {M' : Mem} (n : Nat) : (∀ (i1 : Int32) (i2 : Int32) (i3 : Int32) (M : Mem) (H : Heap) (locs : List Loc) (ls : Array Slot), (r12_worn  n) 7 [i1, i2, i3] [] M = some (r, M') → va_P z.1 vwCl (pw (yd z b) 32 b M) H → va_S (pA 32 b) s.heap H locs → lv_has ls 4 [(0, .ref (b + 0)), (1, .int i1), (2, .int i2), (3, .int i3)] → W p l e rm12_worn s m args below meth c H locs 0 0 (MQ below (va_Qi (fun (r' : Int32) (M2 : Mem) => r' = r ∧ M2 = M') (fun M2 t => va_P z.1 vwCl (pw (yd z b) 32 b M2) t.heap) (pA 32 b)) args s 0 0 (pA 32 b)) (F0 m 7 ls [])) := by
  induction n with
  | zero => exact fun _ _ _ _ _ _ _ hf => (by cases hf)
  | succ n ih => exact fun _ _ _ _ _ _ _ hf hP hS hl => w12_worn_7 (n := n)  C hr hk ih ((e12_worn_7  n _ _ _ _).symm.trans hf) hP hS hl
theorem c12_worn {l : Launch} {z : Zt} {b n : Nat}   {M M' : Mem} {r : Int32} (hf : f12_worn n   M = some (r, M')) : CI l z (yd z b) 32 b yX12_worn cX12_worn 4 (some .int) rm12_worn [.ref (b + 0)] M M' r :=
  CI.ofW (lv := [(0, .ref (b + 0))]) (by decide) (Nat.le_of_ble_eq_true rfl) rfl (fun p e s m args below meth c ls C hr hk hP hS hl => w12_worn_0 (n := n)  C hr hk (l12_worn  C hr hk n) hf hP hS hl)

-- BronzeKingModel.far(I)I
theorem dX12_far_0 : decode cX12_far 0 = .ok (.iload_n 1, 1) := by decide +kernel
theorem dX12_far_1 : decode cX12_far 1 = .ok (.iconst 0, 1) := by decide +kernel
theorem dX12_far_2 : decode cX12_far 2 = .ok (.bipush 60, 2) := by decide +kernel
theorem dX12_far_4 : decode cX12_far 4 = .ok (.invokestatic 106, 3) := by decide +kernel
theorem dX12_far_7 : decode cX12_far 7 = .ok (.ifCond .ne 5, 3) := by decide +kernel
theorem dX12_far_10 : decode cX12_far 10 = .ok (.iconst (-1), 1) := by decide +kernel
theorem dX12_far_11 : decode cX12_far 11 = .ok (.ireturn, 1) := by decide +kernel
theorem dX12_far_12 : decode cX12_far 12 = .ok (.iconst 0, 1) := by decide +kernel
theorem dX12_far_13 : decode cX12_far 13 = .ok (.istore_n 2, 1) := by decide +kernel
theorem dX12_far_14 : decode cX12_far 14 = .ok (.iconst 0, 1) := by decide +kernel
theorem dX12_far_15 : decode cX12_far 15 = .ok (.istore_n 3, 1) := by decide +kernel
theorem dX12_far_16 : decode cX12_far 16 = .ok (.iload_n 3, 1) := by decide +kernel
theorem dX12_far_17 : decode cX12_far 17 = .ok (.bipush 96, 2) := by decide +kernel
theorem dX12_far_19 : decode cX12_far 19 = .ok (.if_icmp .ge 31, 3) := by decide +kernel
theorem dX12_far_22 : decode cX12_far 22 = .ok (.aload_n 0, 1) := by decide +kernel
theorem dX12_far_23 : decode cX12_far 23 = .ok (.aload_n 0, 1) := by decide +kernel
theorem dX12_far_24 : decode cX12_far 24 = .ok (.getfield 110, 3) := by decide +kernel
theorem dX12_far_27 : decode cX12_far 27 = .ok (.iload_n 3, 1) := by decide +kernel
theorem dX12_far_28 : decode cX12_far 28 = .ok (.invokevirtual 134, 3) := by decide +kernel
theorem dX12_far_31 : decode cX12_far 31 = .ok (.iload_n 1, 1) := by decide +kernel
theorem dX12_far_32 : decode cX12_far 32 = .ok (.bipush 30, 2) := by decide +kernel
theorem dX12_far_34 : decode cX12_far 34 = .ok (.invokestatic 299, 3) := by decide +kernel
theorem dX12_far_37 : decode cX12_far 37 = .ok (.if_icmp .gt 7, 3) := by decide +kernel
theorem dX12_far_40 : decode cX12_far 40 = .ok (.iload_n 2, 1) := by decide +kernel
theorem dX12_far_41 : decode cX12_far 41 = .ok (.iconst 1, 1) := by decide +kernel
theorem dX12_far_42 : decode cX12_far 42 = .ok (.iadd, 1) := by decide +kernel
theorem dX12_far_43 : decode cX12_far 43 = .ok (.istore_n 2, 1) := by decide +kernel
theorem dX12_far_44 : decode cX12_far 44 = .ok (.iinc 3 1, 3) := by decide +kernel
theorem dX12_far_47 : decode cX12_far 47 = .ok (.goto (-31), 3) := by decide +kernel
theorem dX12_far_50 : decode cX12_far 50 = .ok (.iload_n 2, 1) := by decide +kernel
theorem dX12_far_51 : decode cX12_far 51 = .ok (.ireturn, 1) := by decide +kernel
def b12_far_44 (rc : Nat → List Int32 → List Int64 → Mem → Option (Int32 × Mem)) (n : Nat) (i1 : Int32) (i2 : Int32) (i3 : Int32) (M : Mem) : Option (Int32 × Mem) :=
  lt (i3 + (1 : Int32)) fun v14 =>
  rc 16 [i1, i2, v14] [] M
def b12_far_16 (rc : Nat → List Int32 → List Int64 → Mem → Option (Int32 × Mem)) (n : Nat) (i1 : Int32) (i2 : Int32) (i3 : Int32) (M : Mem) : Option (Int32 × Mem) :=
  (if (96 : Int32) ≤ i3 then (
   some (i2, M))
  else (
   bnd (f12_steps n (M.1 0 5) i3 M) fun r6 M7 =>
   bnd (f12_min n i1 (30 : Int32) M7) fun r9 M10 =>
   (if r9 < r6 then (
    b12_far_44  rc n i1 i2 i3 M10)
   else (
    lt (i2 + (1 : Int32)) fun v13 =>
    b12_far_44  rc n i1 v13 i3 M10))))
def b12_far_0 (rc : Nat → List Int32 → List Int64 → Mem → Option (Int32 × Mem)) (n : Nat) (a1 : Int32) (M : Mem) : Option (Int32 × Mem) :=
  bnd (f12_in n a1 (0 : Int32) (60 : Int32) M) fun r1 M2 =>
  (if r1 = 0 then (
   some ((-1 : Int32), M2))
  else (
   b12_far_16  rc n a1 (0 : Int32) (0 : Int32) M2))
def r12_far : Nat → Nat → List Int32 → List Int64 → Mem → Option (Int32 × Mem)
  | 0 => fun _ _ _ _ => none
  | n + 1 => fun pc li lj M =>
    if pc = 16 then (match li, lj with | [i1, i2, i3], [] => b12_far_16  (r12_far  n) n i1 i2 i3 M | _, _ => none) else
    none
theorem e12_far_16  (n : Nat) (i1 : Int32) (i2 : Int32) (i3 : Int32) (M : Mem) : r12_far  (n + 1) 16 [i1, i2, i3] [] M = b12_far_16  (r12_far  n) n i1 i2 i3 M := by
  rw [r12_far]
  simp
def f12_far (n : Nat) (a1 : Int32) (M : Mem) : Option (Int32 × Mem) := b12_far_0 (r12_far n) n a1 M
abbrev rm12_far : Room := { frames := 5, cells := 0, slots := 0, locals := 114 }
theorem y12_far_w : yV RX12 yX12_far cX12_far 4 (some .int) 1 := ⟨g_1569, g_1570, g_14, g_1571, rfl, by decide, by decide, by decide +kernel⟩
set_option maxHeartbeats 4000000 in
set_option maxRecDepth 100000 in
theorem w12_far_44 {p : Program} {l : Launch} {e : Env} {s : State} {m : MethodId} {args : Array Value} {below : List Frame} {meth : Method} {c : Code} {z : Zt} {b : Nat}  (C : Cx p s m args c cX12_far 4 RX12 z 32 b) (hr : meth.sig.returnType = (some .int)) (hk : meth.locks = false) {r : Int32} {M' : Mem} {rc : Nat → List Int32 → List Int64 → Mem → Option (Int32 × Mem)} {n : Nat} (q16 : ∀ (i1 : Int32) (i2 : Int32) (i3 : Int32) (M : Mem) (H : Heap) (locs : List Loc) (ls : Array Slot), rc 16 [i1, i2, i3] [] M = some (r, M') → va_P z.1 vwCl (pw (yd z b) 32 b M) H → va_S (pA 32 b) s.heap H locs → lv_has ls 4 [(0, .ref (b + 0)), (1, .int i1), (2, .int i2), (3, .int i3)] → W p l e rm12_far s m args below meth c H locs 0 0 (MQ below (va_Qi (fun (r' : Int32) (M2 : Mem) => r' = r ∧ M2 = M') (fun M2 t => va_P z.1 vwCl (pw (yd z b) 32 b M2) t.heap) (pA 32 b)) args s 0 0 (pA 32 b)) (F0 m 16 ls [])) {i1 : Int32} {i2 : Int32} {i3 : Int32} {M : Mem} {H : Heap} {locs : List Loc} {ls : Array Slot} (hf : b12_far_44  rc n i1 i2 i3 M = some (r, M')) (hP : va_P z.1 vwCl (pw (yd z b) 32 b M) H) (hS : va_S (pA 32 b) s.heap H locs) (hl : lv_has ls 4 [(0, .ref (b + 0)), (1, .int i1), (2, .int i2), (3, .int i3)]) : W p l e rm12_far s m args below meth c H locs 0 0 (MQ below (va_Qi (fun (r' : Int32) (M2 : Mem) => r' = r ∧ M2 = M') (fun M2 t => va_P z.1 vwCl (pw (yd z b) 32 b M2) t.heap) (pA 32 b)) args s 0 0 (pA 32 b)) (F0 m 44 ls []) := by
  have hx := C.1.1
  have hb := C.1.2.1
  unfold b12_far_44 at hf
  obtain ⟨v14, ev14⟩ : ∃ v : Int32, v = i3 + (1 : Int32) := ⟨_, rfl⟩
  replace hf := lt_c ev14 hf
  refine lv_iinc (v := v14) (lv' := [(3, .int v14), (0, .ref (b + 0)), (1, .int i1), (2, .int i2)]) hx hb dX12_far_44 hl (k := 3) rfl (by rw [ev14]; rfl) (by decide) rfl (fun ls hl => ?_)
  refine lv_goto (tgt := 16) hx hb dX12_far_47 (by decide) ?_
  exact q16 i1 i2 v14 M _ _ _ hf hP hS (lv_sub hl [1, 2, 3, 0] rfl)
set_option maxHeartbeats 4000000 in
set_option maxRecDepth 100000 in
theorem w12_far_16 {p : Program} {l : Launch} {e : Env} {s : State} {m : MethodId} {args : Array Value} {below : List Frame} {meth : Method} {c : Code} {z : Zt} {b : Nat}  (C : Cx p s m args c cX12_far 4 RX12 z 32 b) (hr : meth.sig.returnType = (some .int)) (hk : meth.locks = false) {r : Int32} {M' : Mem} {rc : Nat → List Int32 → List Int64 → Mem → Option (Int32 × Mem)} {n : Nat} (q16 : ∀ (i1 : Int32) (i2 : Int32) (i3 : Int32) (M : Mem) (H : Heap) (locs : List Loc) (ls : Array Slot), rc 16 [i1, i2, i3] [] M = some (r, M') → va_P z.1 vwCl (pw (yd z b) 32 b M) H → va_S (pA 32 b) s.heap H locs → lv_has ls 4 [(0, .ref (b + 0)), (1, .int i1), (2, .int i2), (3, .int i3)] → W p l e rm12_far s m args below meth c H locs 0 0 (MQ below (va_Qi (fun (r' : Int32) (M2 : Mem) => r' = r ∧ M2 = M') (fun M2 t => va_P z.1 vwCl (pw (yd z b) 32 b M2) t.heap) (pA 32 b)) args s 0 0 (pA 32 b)) (F0 m 16 ls [])) {i1 : Int32} {i2 : Int32} {i3 : Int32} {M : Mem} {H : Heap} {locs : List Loc} {ls : Array Slot} (hf : b12_far_16  rc n i1 i2 i3 M = some (r, M')) (hP : va_P z.1 vwCl (pw (yd z b) 32 b M) H) (hS : va_S (pA 32 b) s.heap H locs) (hl : lv_has ls 4 [(0, .ref (b + 0)), (1, .int i1), (2, .int i2), (3, .int i3)]) : W p l e rm12_far s m args below meth c H locs 0 0 (MQ below (va_Qi (fun (r' : Int32) (M2 : Mem) => r' = r ∧ M2 = M') (fun M2 t => va_P z.1 vwCl (pw (yd z b) 32 b M2) t.heap) (pA 32 b)) args s 0 0 (pA 32 b)) (F0 m 16 ls []) := by
  have hx := C.1.1
  have hb := C.1.2.1
  unfold b12_far_16 at hf
  refine lv_iload_n hx hb dX12_far_16 rfl (lv_at hl 3 rfl) ?_
  refine lv_bipush (v := (96 : Int32)) hx hb dX12_far_17 (by decide) ?_
  refine lv_icmp_ge (tgt := 50) hx hb dX12_far_19 (by decide) (fun c5 => ?_) (fun c5 => ?_)
  · replace hf := ite_t c5 hf
    refine lv_iload_n hx hb dX12_far_50 rfl (lv_at hl 2 rfl) ?_
    exact prI C hr hk hP hS hf dX12_far_51
  · replace hf := ite_f c5 hf
    refine lv_aload_n hx hb dX12_far_22 rfl (lv_at hl 0 rfl) ?_
    refine lv_aload_n hx hb dX12_far_23 rfl (lv_at hl 0 rfl) ?_
    refine pg C hP (k := 0) (j := 5) (Nat.le_of_ble_eq_true rfl) (yd_0 _ _) rfl iw_12 (Nat.le_of_ble_eq_true rfl) g_1140 rfl rfl dX12_far_24 ?_
    refine lv_iload_n hx hb dX12_far_27 rfl (lv_at hl 3 rfl) ?_
    obtain ⟨r6, M7, h8, hf⟩ := bnd_s hf
    refine pcVi (As := [.int (M.1 0 5), .int i3]) C hP hS (k := 0) (Nat.le_of_ble_eq_true rfl) (yd_0 _ _) rfl (c12_steps  h8) y12_steps_w g_1475 rfl rfl rfl ⟨Nat.le_of_ble_eq_true rfl, Nat.le_of_ble_eq_true rfl⟩ hl.1 rfl (Nat.le_of_ble_eq_true rfl) dX12_far_28 ⟨Nat.le_of_ble_eq_true rfl, Nat.le_of_ble_eq_true rfl⟩ (fun H locs hP hS => ?_)
    refine lv_iload_n hx hb dX12_far_31 rfl (lv_at hl 1 rfl) ?_
    refine lv_bipush (v := (30 : Int32)) hx hb dX12_far_32 (by decide) ?_
    obtain ⟨r9, M10, h11, hf⟩ := bnd_s hf
    refine pcSi (As := [.int i1, .int (30 : Int32)]) C hP hS (c12_min  h11) y12_min_w g_1505 rfl rfl rfl ⟨Nat.le_of_ble_eq_true rfl, Nat.le_of_ble_eq_true rfl⟩ hl.1 rfl (Nat.le_of_ble_eq_true rfl) dX12_far_34 ⟨Nat.le_of_ble_eq_true rfl, Nat.le_of_ble_eq_true rfl⟩ (fun H locs hP hS => ?_)
    refine lv_icmp_gt (tgt := 44) hx hb dX12_far_37 (by decide) (fun c12 => ?_) (fun c12 => ?_)
    · replace hf := ite_t c12 hf
      exact w12_far_44 (n := n)  C hr hk q16 hf hP hS (lv_sub hl [0, 1, 2, 3] rfl)
    · replace hf := ite_f c12 hf
      refine lv_iload_n hx hb dX12_far_40 rfl (lv_at hl 2 rfl) ?_
      refine lv_iconst (v := (1 : Int32)) hx hb dX12_far_41 (by decide) ?_
      refine lv_iadd hx hb dX12_far_42 ?_
      refine lv_topi (fun v13 ev13 => ?_)
      replace hf := lt_c ev13 hf
      refine lv_istore_n (lv' := [(2, .int v13), (0, .ref (b + 0)), (1, .int i1), (3, .int i3)]) hx hb dX12_far_43 rfl hl (by decide) rfl (fun ls hl => ?_)
      exact w12_far_44 (n := n)  C hr hk q16 hf hP hS (lv_sub hl [1, 2, 0, 3] rfl)
set_option maxHeartbeats 4000000 in
set_option maxRecDepth 100000 in
theorem w12_far_0 {p : Program} {l : Launch} {e : Env} {s : State} {m : MethodId} {args : Array Value} {below : List Frame} {meth : Method} {c : Code} {z : Zt} {b : Nat}  (C : Cx p s m args c cX12_far 4 RX12 z 32 b) (hr : meth.sig.returnType = (some .int)) (hk : meth.locks = false) {r : Int32} {M' : Mem} {rc : Nat → List Int32 → List Int64 → Mem → Option (Int32 × Mem)} {n : Nat} (q16 : ∀ (i1 : Int32) (i2 : Int32) (i3 : Int32) (M : Mem) (H : Heap) (locs : List Loc) (ls : Array Slot), rc 16 [i1, i2, i3] [] M = some (r, M') → va_P z.1 vwCl (pw (yd z b) 32 b M) H → va_S (pA 32 b) s.heap H locs → lv_has ls 4 [(0, .ref (b + 0)), (1, .int i1), (2, .int i2), (3, .int i3)] → W p l e rm12_far s m args below meth c H locs 0 0 (MQ below (va_Qi (fun (r' : Int32) (M2 : Mem) => r' = r ∧ M2 = M') (fun M2 t => va_P z.1 vwCl (pw (yd z b) 32 b M2) t.heap) (pA 32 b)) args s 0 0 (pA 32 b)) (F0 m 16 ls [])) {a1 : Int32} {M : Mem} {H : Heap} {locs : List Loc} {ls : Array Slot} (hf : b12_far_0  rc n a1 M = some (r, M')) (hP : va_P z.1 vwCl (pw (yd z b) 32 b M) H) (hS : va_S (pA 32 b) s.heap H locs) (hl : lv_has ls 4 [(0, .ref (b + 0)), (1, .int a1)]) : W p l e rm12_far s m args below meth c H locs 0 0 (MQ below (va_Qi (fun (r' : Int32) (M2 : Mem) => r' = r ∧ M2 = M') (fun M2 t => va_P z.1 vwCl (pw (yd z b) 32 b M2) t.heap) (pA 32 b)) args s 0 0 (pA 32 b)) (F0 m 0 ls []) := by
  have hx := C.1.1
  have hb := C.1.2.1
  unfold b12_far_0 at hf
  refine lv_iload_n hx hb dX12_far_0 rfl (lv_at hl 1 rfl) ?_
  refine lv_iconst (v := (0 : Int32)) hx hb dX12_far_1 (by decide) ?_
  refine lv_bipush (v := (60 : Int32)) hx hb dX12_far_2 (by decide) ?_
  obtain ⟨r1, M2, h3, hf⟩ := bnd_s hf
  refine pcSi (As := [.int a1, .int (0 : Int32), .int (60 : Int32)]) C hP hS (c12_in  h3) y12_in_w g_1306 rfl rfl rfl ⟨Nat.le_of_ble_eq_true rfl, Nat.le_of_ble_eq_true rfl⟩ hl.1 rfl (Nat.le_of_ble_eq_true rfl) dX12_far_4 ⟨Nat.le_of_ble_eq_true rfl, Nat.le_of_ble_eq_true rfl⟩ (fun H locs hP hS => ?_)
  refine lv_if_ne (tgt := 12) hx hb dX12_far_7 (by decide) (fun c4 => ?_) (fun c4 => ?_)
  · replace hf := ite_f c4 hf
    refine lv_iconst (v := (0 : Int32)) hx hb dX12_far_12 (by decide) ?_
    refine lv_istore_n (lv' := [(2, .int (0 : Int32)), (0, .ref (b + 0)), (1, .int a1)]) hx hb dX12_far_13 rfl hl (by decide) rfl (fun ls hl => ?_)
    refine lv_iconst (v := (0 : Int32)) hx hb dX12_far_14 (by decide) ?_
    refine lv_istore_n (lv' := [(3, .int (0 : Int32)), (2, .int (0 : Int32)), (0, .ref (b + 0)), (1, .int a1)]) hx hb dX12_far_15 rfl hl (by decide) rfl (fun ls hl => ?_)
    exact w12_far_16 (n := n)  C hr hk q16 hf hP hS (lv_sub hl [2, 3, 1, 0] rfl)
  · replace hf := ite_t c4 hf
    refine lv_iconst (v := (-1 : Int32)) hx hb dX12_far_10 (by decide) ?_
    exact prI C hr hk hP hS hf dX12_far_11
set_option maxHeartbeats 4000000 in
set_option maxRecDepth 100000 in
theorem l12_far {p : Program} {l : Launch} {e : Env} {s : State} {m : MethodId} {args : Array Value} {below : List Frame} {meth : Method} {c : Code} {z : Zt} {b : Nat}  (C : Cx p s m args c cX12_far 4 RX12 z 32 b) (hr : meth.sig.returnType = (some .int)) (hk : meth.locks = false) {r : Int32} {M' : Mem} (n : Nat) : (∀ (i1 : Int32) (i2 : Int32) (i3 : Int32) (M : Mem) (H : Heap) (locs : List Loc) (ls : Array Slot), (r12_far  n) 16 [i1, i2, i3] [] M = some (r, M') → va_P z.1 vwCl (pw (yd z b) 32 b M) H → va_S (pA 32 b) s.heap H locs → lv_has ls 4 [(0, .ref (b + 0)), (1, .int i1), (2, .int i2), (3, .int i3)] → W p l e rm12_far s m args below meth c H locs 0 0 (MQ below (va_Qi (fun (r' : Int32) (M2 : Mem) => r' = r ∧ M2 = M') (fun M2 t => va_P z.1 vwCl (pw (yd z b) 32 b M2) t.heap) (pA 32 b)) args s 0 0 (pA 32 b)) (F0 m 16 ls [])) := by
  induction n with
  | zero => exact fun _ _ _ _ _ _ _ hf => (by cases hf)
  | succ n ih => exact fun _ _ _ _ _ _ _ hf hP hS hl => w12_far_16 (n := n)  C hr hk ih ((e12_far_16  n _ _ _ _).symm.trans hf) hP hS hl
theorem c12_far {l : Launch} {z : Zt} {b n : Nat}  {a1 : Int32} {M M' : Mem} {r : Int32} (hf : f12_far n  a1 M = some (r, M')) : CI l z (yd z b) 32 b yX12_far cX12_far 4 (some .int) rm12_far [.ref (b + 0), .int a1] M M' r :=
  CI.ofW (lv := [(0, .ref (b + 0)), (1, .int a1)]) (by decide) (Nat.le_of_ble_eq_true rfl) rfl (fun p e s m args below meth c ls C hr hk hP hS hl => w12_far_0 (n := n)  C hr hk (l12_far  C hr hk n) hf hP hS hl)

-- BronzeKingModel.doorWay(II)I
theorem dX12_doorWay_0 : decode cX12_doorWay 0 = .ok (.aload_n 0, 1) := by decide +kernel
theorem dX12_doorWay_1 : decode cX12_doorWay 1 = .ok (.getfield 22, 3) := by decide +kernel
theorem dX12_doorWay_4 : decode cX12_doorWay 4 = .ok (.iload_n 1, 1) := by decide +kernel
theorem dX12_doorWay_5 : decode cX12_doorWay 5 = .ok (.iconst 1, 1) := by decide +kernel
theorem dX12_doorWay_6 : decode cX12_doorWay 6 = .ok (.iadd, 1) := by decide +kernel
theorem dX12_doorWay_7 : decode cX12_doorWay 7 = .ok (.iaload, 1) := by decide +kernel
theorem dX12_doorWay_8 : decode cX12_doorWay 8 = .ok (.iconst (-1), 1) := by decide +kernel
theorem dX12_doorWay_9 : decode cX12_doorWay 9 = .ok (.if_icmp .eq 15, 3) := by decide +kernel
theorem dX12_doorWay_12 : decode cX12_doorWay 12 = .ok (.aload_n 0, 1) := by decide +kernel
theorem dX12_doorWay_13 : decode cX12_doorWay 13 = .ok (.getfield 22, 3) := by decide +kernel
theorem dX12_doorWay_16 : decode cX12_doorWay 16 = .ok (.iload_n 2, 1) := by decide +kernel
theorem dX12_doorWay_17 : decode cX12_doorWay 17 = .ok (.iconst 1, 1) := by decide +kernel
theorem dX12_doorWay_18 : decode cX12_doorWay 18 = .ok (.iadd, 1) := by decide +kernel
theorem dX12_doorWay_19 : decode cX12_doorWay 19 = .ok (.iaload, 1) := by decide +kernel
theorem dX12_doorWay_20 : decode cX12_doorWay 20 = .ok (.iconst (-1), 1) := by decide +kernel
theorem dX12_doorWay_21 : decode cX12_doorWay 21 = .ok (.if_icmp .ne 7, 3) := by decide +kernel
theorem dX12_doorWay_24 : decode cX12_doorWay 24 = .ok (.ldc_w 351, 3) := by decide +kernel
theorem dX12_doorWay_27 : decode cX12_doorWay 27 = .ok (.ireturn, 1) := by decide +kernel
theorem dX12_doorWay_28 : decode cX12_doorWay 28 = .ok (.aload_n 0, 1) := by decide +kernel
theorem dX12_doorWay_29 : decode cX12_doorWay 29 = .ok (.aload_n 0, 1) := by decide +kernel
theorem dX12_doorWay_30 : decode cX12_doorWay 30 = .ok (.getfield 22, 3) := by decide +kernel
theorem dX12_doorWay_33 : decode cX12_doorWay 33 = .ok (.iload_n 1, 1) := by decide +kernel
theorem dX12_doorWay_34 : decode cX12_doorWay 34 = .ok (.iconst 1, 1) := by decide +kernel
theorem dX12_doorWay_35 : decode cX12_doorWay 35 = .ok (.iadd, 1) := by decide +kernel
theorem dX12_doorWay_36 : decode cX12_doorWay 36 = .ok (.iaload, 1) := by decide +kernel
theorem dX12_doorWay_37 : decode cX12_doorWay 37 = .ok (.aload_n 0, 1) := by decide +kernel
theorem dX12_doorWay_38 : decode cX12_doorWay 38 = .ok (.getfield 22, 3) := by decide +kernel
theorem dX12_doorWay_41 : decode cX12_doorWay 41 = .ok (.iload_n 2, 1) := by decide +kernel
theorem dX12_doorWay_42 : decode cX12_doorWay 42 = .ok (.iconst 1, 1) := by decide +kernel
theorem dX12_doorWay_43 : decode cX12_doorWay 43 = .ok (.iadd, 1) := by decide +kernel
theorem dX12_doorWay_44 : decode cX12_doorWay 44 = .ok (.iaload, 1) := by decide +kernel
theorem dX12_doorWay_45 : decode cX12_doorWay 45 = .ok (.invokevirtual 134, 3) := by decide +kernel
theorem dX12_doorWay_48 : decode cX12_doorWay 48 = .ok (.istore_n 3, 1) := by decide +kernel
theorem dX12_doorWay_49 : decode cX12_doorWay 49 = .ok (.iload_n 3, 1) := by decide +kernel
theorem dX12_doorWay_50 : decode cX12_doorWay 50 = .ok (.bipush 99, 2) := by decide +kernel
theorem dX12_doorWay_52 : decode cX12_doorWay 52 = .ok (.if_icmp .ne 9, 3) := by decide +kernel
theorem dX12_doorWay_55 : decode cX12_doorWay 55 = .ok (.ldc_w 351, 3) := by decide +kernel
theorem dX12_doorWay_58 : decode cX12_doorWay 58 = .ok (.goto 4, 3) := by decide +kernel
theorem dX12_doorWay_61 : decode cX12_doorWay 61 = .ok (.iload_n 3, 1) := by decide +kernel
theorem dX12_doorWay_62 : decode cX12_doorWay 62 = .ok (.ireturn, 1) := by decide +kernel
def b12_doorWay_24 (rc : Nat → List Int32 → List Int64 → Mem → Option (Int32 × Mem)) (n : Nat) (M : Mem) : Option (Int32 × Mem) :=
  some ((1000000 : Int32), M)
def b12_doorWay_0 (rc : Nat → List Int32 → List Int64 → Mem → Option (Int32 × Mem)) (n : Nat) (a1 : Int32) (a2 : Int32) (M : Mem) : Option (Int32 × Mem) :=
  chk (inb (a1 + (1 : Int32)) 10) <|
  (if (M.1 5 (a1 + (1 : Int32)).toNatClampNeg) = (-1 : Int32) then (
   b12_doorWay_24  rc n  M)
  else (
   chk (inb (a2 + (1 : Int32)) 10) <|
   (if (M.1 5 (a2 + (1 : Int32)).toNatClampNeg) = (-1 : Int32) then (
    b12_doorWay_24  rc n  M)
   else (
    chk (inb (a1 + (1 : Int32)) 10) <|
    chk (inb (a2 + (1 : Int32)) 10) <|
    bnd (f12_steps n (M.1 5 (a1 + (1 : Int32)).toNatClampNeg) (M.1 5 (a2 + (1 : Int32)).toNatClampNeg) M) fun r7 M8 =>
    (if r7 = (99 : Int32) then (
     some ((1000000 : Int32), M8))
    else (
     some (r7, M8)))))))
def f12_doorWay (n : Nat) (a1 : Int32) (a2 : Int32) (M : Mem) : Option (Int32 × Mem) := b12_doorWay_0 (fun _ _ _ _ => none) n a1 a2 M
abbrev rm12_doorWay : Room := { frames := 5, cells := 0, slots := 0, locals := 114 }
theorem y12_doorWay_w : yV RX12 yX12_doorWay cX12_doorWay 4 (some .int) 2 := ⟨g_1591, gp 82 rfl rfl, g_14, g_1592, rfl, by decide, by decide, by decide +kernel⟩
set_option maxHeartbeats 4000000 in
set_option maxRecDepth 100000 in
theorem w12_doorWay_24 {p : Program} {l : Launch} {e : Env} {s : State} {m : MethodId} {args : Array Value} {below : List Frame} {meth : Method} {c : Code} {z : Zt} {b : Nat}  (C : Cx p s m args c cX12_doorWay 4 RX12 z 32 b) (hr : meth.sig.returnType = (some .int)) (hk : meth.locks = false) {r : Int32} {M' : Mem} {rc : Nat → List Int32 → List Int64 → Mem → Option (Int32 × Mem)} {n : Nat}   {M : Mem} {H : Heap} {locs : List Loc} {ls : Array Slot} (hf : b12_doorWay_24  rc n  M = some (r, M')) (hP : va_P z.1 vwCl (pw (yd z b) 32 b M) H) (hS : va_S (pA 32 b) s.heap H locs) (hl : lv_has ls 4 []) : W p l e rm12_doorWay s m args below meth c H locs 0 0 (MQ below (va_Qi (fun (r' : Int32) (M2 : Mem) => r' = r ∧ M2 = M') (fun M2 t => va_P z.1 vwCl (pw (yd z b) 32 b M2) t.heap) (pA 32 b)) args s 0 0 (pA 32 b)) (F0 m 24 ls []) := by
  have hx := C.1.1
  have hb := C.1.2.1
  unfold b12_doorWay_24 at hf
  refine lv_ldcw hx hb C.1.2.2.2.1 (C.1.2.2.2.2 _ g_1588) dX12_doorWay_24 ?_
  exact prI C hr hk hP hS hf dX12_doorWay_27
set_option maxHeartbeats 4000000 in
set_option maxRecDepth 100000 in
theorem w12_doorWay_0 {p : Program} {l : Launch} {e : Env} {s : State} {m : MethodId} {args : Array Value} {below : List Frame} {meth : Method} {c : Code} {z : Zt} {b : Nat}  (C : Cx p s m args c cX12_doorWay 4 RX12 z 32 b) (hr : meth.sig.returnType = (some .int)) (hk : meth.locks = false) {r : Int32} {M' : Mem} {rc : Nat → List Int32 → List Int64 → Mem → Option (Int32 × Mem)} {n : Nat}  {a1 : Int32} {a2 : Int32} {M : Mem} {H : Heap} {locs : List Loc} {ls : Array Slot} (hf : b12_doorWay_0  rc n a1 a2 M = some (r, M')) (hP : va_P z.1 vwCl (pw (yd z b) 32 b M) H) (hS : va_S (pA 32 b) s.heap H locs) (hl : lv_has ls 4 [(0, .ref (b + 0)), (1, .int a1), (2, .int a2)]) : W p l e rm12_doorWay s m args below meth c H locs 0 0 (MQ below (va_Qi (fun (r' : Int32) (M2 : Mem) => r' = r ∧ M2 = M') (fun M2 t => va_P z.1 vwCl (pw (yd z b) 32 b M2) t.heap) (pA 32 b)) args s 0 0 (pA 32 b)) (F0 m 0 ls []) := by
  have hx := C.1.1
  have hb := C.1.2.1
  unfold b12_doorWay_0 at hf
  refine lv_aload_n hx hb dX12_doorWay_0 rfl (lv_at hl 0 rfl) ?_
  refine pg C hP (k := 0) (j := 4) (Nat.le_of_ble_eq_true rfl) (yd_0 _ _) rfl iw_12 (Nat.le_of_ble_eq_true rfl) g_1139 rfl rfl dX12_doorWay_1 ?_
  refine lv_iload_n hx hb dX12_doorWay_4 rfl (lv_at hl 1 rfl) ?_
  refine lv_iconst (v := (1 : Int32)) hx hb dX12_doorWay_5 (by decide) ?_
  refine lv_iadd hx hb dX12_doorWay_6 ?_
  have h1 := chk_1 hf
  replace hf := chk_2 hf
  refine paI C hP (k := 5) (Nat.le_of_ble_eq_true rfl) (yd_5 _ _) h1 dX12_doorWay_7 ?_
  refine lv_iconst (v := (-1 : Int32)) hx hb dX12_doorWay_8 (by decide) ?_
  refine lv_icmp_eq (tgt := 24) hx hb dX12_doorWay_9 (by decide) (fun c2 => ?_) (fun c2 => ?_)
  · replace hf := ite_t c2 hf
    exact w12_doorWay_24 (n := n)  C hr hk  hf hP hS (lv_sub hl [] rfl)
  · replace hf := ite_f c2 hf
    refine lv_aload_n hx hb dX12_doorWay_12 rfl (lv_at hl 0 rfl) ?_
    refine pg C hP (k := 0) (j := 4) (Nat.le_of_ble_eq_true rfl) (yd_0 _ _) rfl iw_12 (Nat.le_of_ble_eq_true rfl) g_1139 rfl rfl dX12_doorWay_13 ?_
    refine lv_iload_n hx hb dX12_doorWay_16 rfl (lv_at hl 2 rfl) ?_
    refine lv_iconst (v := (1 : Int32)) hx hb dX12_doorWay_17 (by decide) ?_
    refine lv_iadd hx hb dX12_doorWay_18 ?_
    have h3 := chk_1 hf
    replace hf := chk_2 hf
    refine paI C hP (k := 5) (Nat.le_of_ble_eq_true rfl) (yd_5 _ _) h3 dX12_doorWay_19 ?_
    refine lv_iconst (v := (-1 : Int32)) hx hb dX12_doorWay_20 (by decide) ?_
    refine lv_icmp_ne (tgt := 28) hx hb dX12_doorWay_21 (by decide) (fun c4 => ?_) (fun c4 => ?_)
    · replace hf := ite_f c4 hf
      refine lv_aload_n hx hb dX12_doorWay_28 rfl (lv_at hl 0 rfl) ?_
      refine lv_aload_n hx hb dX12_doorWay_29 rfl (lv_at hl 0 rfl) ?_
      refine pg C hP (k := 0) (j := 4) (Nat.le_of_ble_eq_true rfl) (yd_0 _ _) rfl iw_12 (Nat.le_of_ble_eq_true rfl) g_1139 rfl rfl dX12_doorWay_30 ?_
      refine lv_iload_n hx hb dX12_doorWay_33 rfl (lv_at hl 1 rfl) ?_
      refine lv_iconst (v := (1 : Int32)) hx hb dX12_doorWay_34 (by decide) ?_
      refine lv_iadd hx hb dX12_doorWay_35 ?_
      have h5 := chk_1 hf
      replace hf := chk_2 hf
      refine paI C hP (k := 5) (Nat.le_of_ble_eq_true rfl) (yd_5 _ _) h5 dX12_doorWay_36 ?_
      refine lv_aload_n hx hb dX12_doorWay_37 rfl (lv_at hl 0 rfl) ?_
      refine pg C hP (k := 0) (j := 4) (Nat.le_of_ble_eq_true rfl) (yd_0 _ _) rfl iw_12 (Nat.le_of_ble_eq_true rfl) g_1139 rfl rfl dX12_doorWay_38 ?_
      refine lv_iload_n hx hb dX12_doorWay_41 rfl (lv_at hl 2 rfl) ?_
      refine lv_iconst (v := (1 : Int32)) hx hb dX12_doorWay_42 (by decide) ?_
      refine lv_iadd hx hb dX12_doorWay_43 ?_
      have h6 := chk_1 hf
      replace hf := chk_2 hf
      refine paI C hP (k := 5) (Nat.le_of_ble_eq_true rfl) (yd_5 _ _) h6 dX12_doorWay_44 ?_
      obtain ⟨r7, M8, h9, hf⟩ := bnd_s hf
      refine pcVi (As := [.int (M.1 5 (a1 + (1 : Int32)).toNatClampNeg), .int (M.1 5 (a2 + (1 : Int32)).toNatClampNeg)]) C hP hS (k := 0) (Nat.le_of_ble_eq_true rfl) (yd_0 _ _) rfl (c12_steps  h9) y12_steps_w g_1475 rfl rfl rfl ⟨Nat.le_of_ble_eq_true rfl, Nat.le_of_ble_eq_true rfl⟩ hl.1 rfl (Nat.le_of_ble_eq_true rfl) dX12_doorWay_45 ⟨Nat.le_of_ble_eq_true rfl, Nat.le_of_ble_eq_true rfl⟩ (fun H locs hP hS => ?_)
      refine lv_istore_n (lv' := [(3, .int r7), (0, .ref (b + 0)), (1, .int a1), (2, .int a2)]) hx hb dX12_doorWay_48 rfl hl (by decide) rfl (fun ls hl => ?_)
      refine lv_iload_n hx hb dX12_doorWay_49 rfl (lv_at hl 0 rfl) ?_
      refine lv_bipush (v := (99 : Int32)) hx hb dX12_doorWay_50 (by decide) ?_
      refine lv_icmp_ne (tgt := 61) hx hb dX12_doorWay_52 (by decide) (fun c10 => ?_) (fun c10 => ?_)
      · replace hf := ite_f c10 hf
        refine lv_iload_n hx hb dX12_doorWay_61 rfl (lv_at hl 0 rfl) ?_
        exact prI C hr hk hP hS hf dX12_doorWay_62
      · replace hf := ite_t c10 hf
        refine lv_ldcw hx hb C.1.2.2.2.1 (C.1.2.2.2.2 _ g_1588) dX12_doorWay_55 ?_
        refine lv_goto (tgt := 62) hx hb dX12_doorWay_58 (by decide) ?_
        exact prI C hr hk hP hS hf dX12_doorWay_62
    · replace hf := ite_t c4 hf
      exact w12_doorWay_24 (n := n)  C hr hk  hf hP hS (lv_sub hl [] rfl)
theorem c12_doorWay {l : Launch} {z : Zt} {b n : Nat}  {a1 : Int32} {a2 : Int32} {M M' : Mem} {r : Int32} (hf : f12_doorWay n  a1 a2 M = some (r, M')) : CI l z (yd z b) 32 b yX12_doorWay cX12_doorWay 4 (some .int) rm12_doorWay [.ref (b + 0), .int a1, .int a2] M M' r :=
  CI.ofW (lv := [(0, .ref (b + 0)), (1, .int a1), (2, .int a2)]) (by decide) (Nat.le_of_ble_eq_true rfl) rfl (fun p e s m args below meth c ls C hr hk hP hS hl => w12_doorWay_0 (n := n)  C hr hk  hf hP hS hl)

-- BronzeKingModel.squareWay(I)I
theorem dX12_squareWay_0 : decode cX12_squareWay 0 = .ok (.aload_n 0, 1) := by decide +kernel
theorem dX12_squareWay_1 : decode cX12_squareWay 1 = .ok (.getfield 22, 3) := by decide +kernel
theorem dX12_squareWay_4 : decode cX12_squareWay 4 = .ok (.iload_n 1, 1) := by decide +kernel
theorem dX12_squareWay_5 : decode cX12_squareWay 5 = .ok (.iconst 1, 1) := by decide +kernel
theorem dX12_squareWay_6 : decode cX12_squareWay 6 = .ok (.iadd, 1) := by decide +kernel
theorem dX12_squareWay_7 : decode cX12_squareWay 7 = .ok (.iaload, 1) := by decide +kernel
theorem dX12_squareWay_8 : decode cX12_squareWay 8 = .ok (.iconst (-1), 1) := by decide +kernel
theorem dX12_squareWay_9 : decode cX12_squareWay 9 = .ok (.if_icmp .ne 7, 3) := by decide +kernel
theorem dX12_squareWay_12 : decode cX12_squareWay 12 = .ok (.ldc_w 351, 3) := by decide +kernel
theorem dX12_squareWay_15 : decode cX12_squareWay 15 = .ok (.ireturn, 1) := by decide +kernel
theorem dX12_squareWay_16 : decode cX12_squareWay 16 = .ok (.aload_n 0, 1) := by decide +kernel
theorem dX12_squareWay_17 : decode cX12_squareWay 17 = .ok (.aload_n 0, 1) := by decide +kernel
theorem dX12_squareWay_18 : decode cX12_squareWay 18 = .ok (.getfield 110, 3) := by decide +kernel
theorem dX12_squareWay_21 : decode cX12_squareWay 21 = .ok (.aload_n 0, 1) := by decide +kernel
theorem dX12_squareWay_22 : decode cX12_squareWay 22 = .ok (.getfield 22, 3) := by decide +kernel
theorem dX12_squareWay_25 : decode cX12_squareWay 25 = .ok (.iload_n 1, 1) := by decide +kernel
theorem dX12_squareWay_26 : decode cX12_squareWay 26 = .ok (.iconst 1, 1) := by decide +kernel
theorem dX12_squareWay_27 : decode cX12_squareWay 27 = .ok (.iadd, 1) := by decide +kernel
theorem dX12_squareWay_28 : decode cX12_squareWay 28 = .ok (.iaload, 1) := by decide +kernel
theorem dX12_squareWay_29 : decode cX12_squareWay 29 = .ok (.invokevirtual 134, 3) := by decide +kernel
theorem dX12_squareWay_32 : decode cX12_squareWay 32 = .ok (.istore_n 2, 1) := by decide +kernel
theorem dX12_squareWay_33 : decode cX12_squareWay 33 = .ok (.iload_n 2, 1) := by decide +kernel
theorem dX12_squareWay_34 : decode cX12_squareWay 34 = .ok (.bipush 99, 2) := by decide +kernel
theorem dX12_squareWay_36 : decode cX12_squareWay 36 = .ok (.if_icmp .ne 9, 3) := by decide +kernel
theorem dX12_squareWay_39 : decode cX12_squareWay 39 = .ok (.ldc_w 351, 3) := by decide +kernel
theorem dX12_squareWay_42 : decode cX12_squareWay 42 = .ok (.goto 4, 3) := by decide +kernel
theorem dX12_squareWay_45 : decode cX12_squareWay 45 = .ok (.iload_n 2, 1) := by decide +kernel
theorem dX12_squareWay_46 : decode cX12_squareWay 46 = .ok (.ireturn, 1) := by decide +kernel
def b12_squareWay_0 (rc : Nat → List Int32 → List Int64 → Mem → Option (Int32 × Mem)) (n : Nat) (a1 : Int32) (M : Mem) : Option (Int32 × Mem) :=
  chk (inb (a1 + (1 : Int32)) 10) <|
  (if (M.1 5 (a1 + (1 : Int32)).toNatClampNeg) = (-1 : Int32) then (
   some ((1000000 : Int32), M))
  else (
   chk (inb (a1 + (1 : Int32)) 10) <|
   bnd (f12_steps n (M.1 0 5) (M.1 5 (a1 + (1 : Int32)).toNatClampNeg) M) fun r4 M5 =>
   (if r4 = (99 : Int32) then (
    some ((1000000 : Int32), M5))
   else (
    some (r4, M5)))))
def f12_squareWay (n : Nat) (a1 : Int32) (M : Mem) : Option (Int32 × Mem) := b12_squareWay_0 (fun _ _ _ _ => none) n a1 M
abbrev rm12_squareWay : Room := { frames := 5, cells := 0, slots := 0, locals := 114 }
theorem y12_squareWay_w : yV RX12 yX12_squareWay cX12_squareWay 3 (some .int) 1 := ⟨g_1586, gp 81 rfl rfl, g_14, g_1587, rfl, by decide, by decide, by decide +kernel⟩
set_option maxHeartbeats 4000000 in
set_option maxRecDepth 100000 in
theorem w12_squareWay_0 {p : Program} {l : Launch} {e : Env} {s : State} {m : MethodId} {args : Array Value} {below : List Frame} {meth : Method} {c : Code} {z : Zt} {b : Nat}  (C : Cx p s m args c cX12_squareWay 3 RX12 z 32 b) (hr : meth.sig.returnType = (some .int)) (hk : meth.locks = false) {r : Int32} {M' : Mem} {rc : Nat → List Int32 → List Int64 → Mem → Option (Int32 × Mem)} {n : Nat}  {a1 : Int32} {M : Mem} {H : Heap} {locs : List Loc} {ls : Array Slot} (hf : b12_squareWay_0  rc n a1 M = some (r, M')) (hP : va_P z.1 vwCl (pw (yd z b) 32 b M) H) (hS : va_S (pA 32 b) s.heap H locs) (hl : lv_has ls 3 [(0, .ref (b + 0)), (1, .int a1)]) : W p l e rm12_squareWay s m args below meth c H locs 0 0 (MQ below (va_Qi (fun (r' : Int32) (M2 : Mem) => r' = r ∧ M2 = M') (fun M2 t => va_P z.1 vwCl (pw (yd z b) 32 b M2) t.heap) (pA 32 b)) args s 0 0 (pA 32 b)) (F0 m 0 ls []) := by
  have hx := C.1.1
  have hb := C.1.2.1
  unfold b12_squareWay_0 at hf
  refine lv_aload_n hx hb dX12_squareWay_0 rfl (lv_at hl 0 rfl) ?_
  refine pg C hP (k := 0) (j := 4) (Nat.le_of_ble_eq_true rfl) (yd_0 _ _) rfl iw_12 (Nat.le_of_ble_eq_true rfl) g_1139 rfl rfl dX12_squareWay_1 ?_
  refine lv_iload_n hx hb dX12_squareWay_4 rfl (lv_at hl 1 rfl) ?_
  refine lv_iconst (v := (1 : Int32)) hx hb dX12_squareWay_5 (by decide) ?_
  refine lv_iadd hx hb dX12_squareWay_6 ?_
  have h1 := chk_1 hf
  replace hf := chk_2 hf
  refine paI C hP (k := 5) (Nat.le_of_ble_eq_true rfl) (yd_5 _ _) h1 dX12_squareWay_7 ?_
  refine lv_iconst (v := (-1 : Int32)) hx hb dX12_squareWay_8 (by decide) ?_
  refine lv_icmp_ne (tgt := 16) hx hb dX12_squareWay_9 (by decide) (fun c2 => ?_) (fun c2 => ?_)
  · replace hf := ite_f c2 hf
    refine lv_aload_n hx hb dX12_squareWay_16 rfl (lv_at hl 0 rfl) ?_
    refine lv_aload_n hx hb dX12_squareWay_17 rfl (lv_at hl 0 rfl) ?_
    refine pg C hP (k := 0) (j := 5) (Nat.le_of_ble_eq_true rfl) (yd_0 _ _) rfl iw_12 (Nat.le_of_ble_eq_true rfl) g_1140 rfl rfl dX12_squareWay_18 ?_
    refine lv_aload_n hx hb dX12_squareWay_21 rfl (lv_at hl 0 rfl) ?_
    refine pg C hP (k := 0) (j := 4) (Nat.le_of_ble_eq_true rfl) (yd_0 _ _) rfl iw_12 (Nat.le_of_ble_eq_true rfl) g_1139 rfl rfl dX12_squareWay_22 ?_
    refine lv_iload_n hx hb dX12_squareWay_25 rfl (lv_at hl 1 rfl) ?_
    refine lv_iconst (v := (1 : Int32)) hx hb dX12_squareWay_26 (by decide) ?_
    refine lv_iadd hx hb dX12_squareWay_27 ?_
    have h3 := chk_1 hf
    replace hf := chk_2 hf
    refine paI C hP (k := 5) (Nat.le_of_ble_eq_true rfl) (yd_5 _ _) h3 dX12_squareWay_28 ?_
    obtain ⟨r4, M5, h6, hf⟩ := bnd_s hf
    refine pcVi (As := [.int (M.1 0 5), .int (M.1 5 (a1 + (1 : Int32)).toNatClampNeg)]) C hP hS (k := 0) (Nat.le_of_ble_eq_true rfl) (yd_0 _ _) rfl (c12_steps  h6) y12_steps_w g_1475 rfl rfl rfl ⟨Nat.le_of_ble_eq_true rfl, Nat.le_of_ble_eq_true rfl⟩ hl.1 rfl (Nat.le_of_ble_eq_true rfl) dX12_squareWay_29 ⟨Nat.le_of_ble_eq_true rfl, Nat.le_of_ble_eq_true rfl⟩ (fun H locs hP hS => ?_)
    refine lv_istore_n (lv' := [(2, .int r4), (0, .ref (b + 0)), (1, .int a1)]) hx hb dX12_squareWay_32 rfl hl (by decide) rfl (fun ls hl => ?_)
    refine lv_iload_n hx hb dX12_squareWay_33 rfl (lv_at hl 0 rfl) ?_
    refine lv_bipush (v := (99 : Int32)) hx hb dX12_squareWay_34 (by decide) ?_
    refine lv_icmp_ne (tgt := 45) hx hb dX12_squareWay_36 (by decide) (fun c7 => ?_) (fun c7 => ?_)
    · replace hf := ite_f c7 hf
      refine lv_iload_n hx hb dX12_squareWay_45 rfl (lv_at hl 0 rfl) ?_
      exact prI C hr hk hP hS hf dX12_squareWay_46
    · replace hf := ite_t c7 hf
      refine lv_ldcw hx hb C.1.2.2.2.1 (C.1.2.2.2.2 _ g_1588) dX12_squareWay_39 ?_
      refine lv_goto (tgt := 46) hx hb dX12_squareWay_42 (by decide) ?_
      exact prI C hr hk hP hS hf dX12_squareWay_46
  · replace hf := ite_t c2 hf
    refine lv_ldcw hx hb C.1.2.2.2.1 (C.1.2.2.2.2 _ g_1588) dX12_squareWay_12 ?_
    exact prI C hr hk hP hS hf dX12_squareWay_15
theorem c12_squareWay {l : Launch} {z : Zt} {b n : Nat}  {a1 : Int32} {M M' : Mem} {r : Int32} (hf : f12_squareWay n  a1 M = some (r, M')) : CI l z (yd z b) 32 b yX12_squareWay cX12_squareWay 3 (some .int) rm12_squareWay [.ref (b + 0), .int a1] M M' r :=
  CI.ofW (lv := [(0, .ref (b + 0)), (1, .int a1)]) (by decide) (Nat.le_of_ble_eq_true rfl) rfl (fun p e s m args below meth c ls C hr hk hP hS hl => w12_squareWay_0 (n := n)  C hr hk  hf hP hS hl)

-- BronzeKingModel.laysBack()V
theorem dX12_laysBack_0 : decode cX12_laysBack 0 = .ok (.iconst 0, 1) := by decide +kernel
theorem dX12_laysBack_1 : decode cX12_laysBack 1 = .ok (.istore_n 1, 1) := by decide +kernel
theorem dX12_laysBack_2 : decode cX12_laysBack 2 = .ok (.iload_n 1, 1) := by decide +kernel
theorem dX12_laysBack_3 : decode cX12_laysBack 3 = .ok (.sipush 512, 3) := by decide +kernel
theorem dX12_laysBack_6 : decode cX12_laysBack 6 = .ok (.if_icmp .ge 114, 3) := by decide +kernel
theorem dX12_laysBack_9 : decode cX12_laysBack 9 = .ok (.iconst 0, 1) := by decide +kernel
theorem dX12_laysBack_10 : decode cX12_laysBack 10 = .ok (.istore_n 2, 1) := by decide +kernel
theorem dX12_laysBack_11 : decode cX12_laysBack 11 = .ok (.iload_n 2, 1) := by decide +kernel
theorem dX12_laysBack_12 : decode cX12_laysBack 12 = .ok (.bipush 9, 2) := by decide +kernel
theorem dX12_laysBack_14 : decode cX12_laysBack 14 = .ok (.if_icmp .ge 100, 3) := by decide +kernel
theorem dX12_laysBack_17 : decode cX12_laysBack 17 = .ok (.iload_n 1, 1) := by decide +kernel
theorem dX12_laysBack_18 : decode cX12_laysBack 18 = .ok (.ifCond .ne 11, 3) := by decide +kernel
theorem dX12_laysBack_21 : decode cX12_laysBack 21 = .ok (.aload_n 0, 1) := by decide +kernel
theorem dX12_laysBack_22 : decode cX12_laysBack 22 = .ok (.iload_n 2, 1) := by decide +kernel
theorem dX12_laysBack_23 : decode cX12_laysBack 23 = .ok (.invokevirtual 352, 3) := by decide +kernel
theorem dX12_laysBack_26 : decode cX12_laysBack 26 = .ok (.goto 6, 3) := by decide +kernel
theorem dX12_laysBack_29 : decode cX12_laysBack 29 = .ok (.ldc_w 351, 3) := by decide +kernel
theorem dX12_laysBack_32 : decode cX12_laysBack 32 = .ok (.istore_n 3, 1) := by decide +kernel
theorem dX12_laysBack_33 : decode cX12_laysBack 33 = .ok (.iconst 0, 1) := by decide +kernel
theorem dX12_laysBack_34 : decode cX12_laysBack 34 = .ok (.istore 4, 2) := by decide +kernel
theorem dX12_laysBack_36 : decode cX12_laysBack 36 = .ok (.iload 4, 2) := by decide +kernel
theorem dX12_laysBack_38 : decode cX12_laysBack 38 = .ok (.bipush 9, 2) := by decide +kernel
theorem dX12_laysBack_40 : decode cX12_laysBack 40 = .ok (.if_icmp .ge 50, 3) := by decide +kernel
theorem dX12_laysBack_43 : decode cX12_laysBack 43 = .ok (.iload_n 1, 1) := by decide +kernel
theorem dX12_laysBack_44 : decode cX12_laysBack 44 = .ok (.iload 4, 2) := by decide +kernel
theorem dX12_laysBack_46 : decode cX12_laysBack 46 = .ok (.invokestatic 330, 3) := by decide +kernel
theorem dX12_laysBack_49 : decode cX12_laysBack 49 = .ok (.ifCond .eq 35, 3) := by decide +kernel
theorem dX12_laysBack_52 : decode cX12_laysBack 52 = .ok (.iload_n 3, 1) := by decide +kernel
theorem dX12_laysBack_53 : decode cX12_laysBack 53 = .ok (.aload_n 0, 1) := by decide +kernel
theorem dX12_laysBack_54 : decode cX12_laysBack 54 = .ok (.iload_n 2, 1) := by decide +kernel
theorem dX12_laysBack_55 : decode cX12_laysBack 55 = .ok (.iload 4, 2) := by decide +kernel
theorem dX12_laysBack_57 : decode cX12_laysBack 57 = .ok (.invokevirtual 355, 3) := by decide +kernel
theorem dX12_laysBack_60 : decode cX12_laysBack 60 = .ok (.aload_n 0, 1) := by decide +kernel
theorem dX12_laysBack_61 : decode cX12_laysBack 61 = .ok (.getfield 80, 3) := by decide +kernel
theorem dX12_laysBack_64 : decode cX12_laysBack 64 = .ok (.bipush 9, 2) := by decide +kernel
theorem dX12_laysBack_66 : decode cX12_laysBack 66 = .ok (.iload_n 1, 1) := by decide +kernel
theorem dX12_laysBack_67 : decode cX12_laysBack 67 = .ok (.iconst 1, 1) := by decide +kernel
theorem dX12_laysBack_68 : decode cX12_laysBack 68 = .ok (.iload 4, 2) := by decide +kernel
theorem dX12_laysBack_70 : decode cX12_laysBack 70 = .ok (.ishl, 1) := by decide +kernel
theorem dX12_laysBack_71 : decode cX12_laysBack 71 = .ok (.iconst (-1), 1) := by decide +kernel
theorem dX12_laysBack_72 : decode cX12_laysBack 72 = .ok (.ixor, 1) := by decide +kernel
theorem dX12_laysBack_73 : decode cX12_laysBack 73 = .ok (.iand, 1) := by decide +kernel
theorem dX12_laysBack_74 : decode cX12_laysBack 74 = .ok (.imul, 1) := by decide +kernel
theorem dX12_laysBack_75 : decode cX12_laysBack 75 = .ok (.iload 4, 2) := by decide +kernel
theorem dX12_laysBack_77 : decode cX12_laysBack 77 = .ok (.iadd, 1) := by decide +kernel
theorem dX12_laysBack_78 : decode cX12_laysBack 78 = .ok (.iaload, 1) := by decide +kernel
theorem dX12_laysBack_79 : decode cX12_laysBack 79 = .ok (.iadd, 1) := by decide +kernel
theorem dX12_laysBack_80 : decode cX12_laysBack 80 = .ok (.invokestatic 299, 3) := by decide +kernel
theorem dX12_laysBack_83 : decode cX12_laysBack 83 = .ok (.istore_n 3, 1) := by decide +kernel
theorem dX12_laysBack_84 : decode cX12_laysBack 84 = .ok (.iinc 4 1, 3) := by decide +kernel
theorem dX12_laysBack_87 : decode cX12_laysBack 87 = .ok (.goto (-51), 3) := by decide +kernel
theorem dX12_laysBack_90 : decode cX12_laysBack 90 = .ok (.aload_n 0, 1) := by decide +kernel
theorem dX12_laysBack_91 : decode cX12_laysBack 91 = .ok (.getfield 80, 3) := by decide +kernel
theorem dX12_laysBack_94 : decode cX12_laysBack 94 = .ok (.bipush 9, 2) := by decide +kernel
theorem dX12_laysBack_96 : decode cX12_laysBack 96 = .ok (.iload_n 1, 1) := by decide +kernel
theorem dX12_laysBack_97 : decode cX12_laysBack 97 = .ok (.imul, 1) := by decide +kernel
theorem dX12_laysBack_98 : decode cX12_laysBack 98 = .ok (.iload_n 2, 1) := by decide +kernel
theorem dX12_laysBack_99 : decode cX12_laysBack 99 = .ok (.iadd, 1) := by decide +kernel
theorem dX12_laysBack_100 : decode cX12_laysBack 100 = .ok (.ldc_w 351, 3) := by decide +kernel
theorem dX12_laysBack_103 : decode cX12_laysBack 103 = .ok (.iload_n 3, 1) := by decide +kernel
theorem dX12_laysBack_104 : decode cX12_laysBack 104 = .ok (.invokestatic 299, 3) := by decide +kernel
theorem dX12_laysBack_107 : decode cX12_laysBack 107 = .ok (.iastore, 1) := by decide +kernel
theorem dX12_laysBack_108 : decode cX12_laysBack 108 = .ok (.iinc 2 1, 3) := by decide +kernel
theorem dX12_laysBack_111 : decode cX12_laysBack 111 = .ok (.goto (-100), 3) := by decide +kernel
theorem dX12_laysBack_114 : decode cX12_laysBack 114 = .ok (.iinc 1 1, 3) := by decide +kernel
theorem dX12_laysBack_117 : decode cX12_laysBack 117 = .ok (.goto (-115), 3) := by decide +kernel
theorem dX12_laysBack_120 : decode cX12_laysBack 120 = .ok (.return_, 1) := by decide +kernel
def b12_laysBack_84 (rc : Nat → List Int32 → List Int64 → Mem → Option (Unit × Mem)) (n : Nat) (i1 : Int32) (i2 : Int32) (i3 : Int32) (i4 : Int32) (M : Mem) : Option (Unit × Mem) :=
  lt (i4 + (1 : Int32)) fun v26 =>
  rc 36 [i1, i2, i3, v26] [] M
def b12_laysBack_36 (rc : Nat → List Int32 → List Int64 → Mem → Option (Unit × Mem)) (n : Nat) (i1 : Int32) (i2 : Int32) (i3 : Int32) (i4 : Int32) (M : Mem) : Option (Unit × Mem) :=
  (if (9 : Int32) ≤ i4 then (
   bnd (f12_min n (1000000 : Int32) i3 M) fun r9 M10 =>
   chk (inb (((9 : Int32) * i1) + i2) 4608) <|
   lt (wI M10 24 (((9 : Int32) * i1) + i2).toNatClampNeg r9) fun M13 =>
   lt (i2 + (1 : Int32)) fun v14 =>
   rc 11 [i1, v14] [] M13)
  else (
   bnd (f12_has n i1 i4 M) fun r15 M16 =>
   (if r15 = 0 then (
    b12_laysBack_84  rc n i1 i2 i3 i4 M16)
   else (
    bnd (f12_doorWay n i2 i4 M16) fun r19 M20 =>
    chk (inb (((9 : Int32) * (i1 &&& (((1 : Int32) <<< (i4 &&& 31)) ^^^ (-1 : Int32)))) + i4) 4608) <|
    bnd (f12_min n i3 (r19 + (M20.1 24 (((9 : Int32) * (i1 &&& (((1 : Int32) <<< (i4 &&& 31)) ^^^ (-1 : Int32)))) + i4).toNatClampNeg)) M20) fun r23 M24 =>
    b12_laysBack_84  rc n i1 i2 r23 i4 M24))))
def b12_laysBack_32 (rc : Nat → List Int32 → List Int64 → Mem → Option (Unit × Mem)) (n : Nat) (i1 : Int32) (i2 : Int32) (s0 : Int32) (M : Mem) : Option (Unit × Mem) :=
  b12_laysBack_36  rc n i1 i2 s0 (0 : Int32) M
def b12_laysBack_11 (rc : Nat → List Int32 → List Int64 → Mem → Option (Unit × Mem)) (n : Nat) (i1 : Int32) (i2 : Int32) (M : Mem) : Option (Unit × Mem) :=
  (if (9 : Int32) ≤ i2 then (
   lt (i1 + (1 : Int32)) fun v3 =>
   rc 2 [v3] [] M)
  else (
   (if i1 = 0 then (
    bnd (f12_squareWay n i2 M) fun r5 M6 =>
    b12_laysBack_32  rc n i1 i2 r5 M6)
   else (
    b12_laysBack_32  rc n i1 i2 (1000000 : Int32) M))))
def b12_laysBack_2 (rc : Nat → List Int32 → List Int64 → Mem → Option (Unit × Mem)) (n : Nat) (i1 : Int32) (M : Mem) : Option (Unit × Mem) :=
  (if (512 : Int32) ≤ i1 then (
   some ((), M))
  else (
   b12_laysBack_11  rc n i1 (0 : Int32) M))
def b12_laysBack_0 (rc : Nat → List Int32 → List Int64 → Mem → Option (Unit × Mem)) (n : Nat) (M : Mem) : Option (Unit × Mem) :=
  b12_laysBack_2  rc n (0 : Int32) M
def r12_laysBack : Nat → Nat → List Int32 → List Int64 → Mem → Option (Unit × Mem)
  | 0 => fun _ _ _ _ => none
  | n + 1 => fun pc li lj M =>
    if pc = 2 then (match li, lj with | [i1], [] => b12_laysBack_2  (r12_laysBack  n) n i1 M | _, _ => none) else
    if pc = 11 then (match li, lj with | [i1, i2], [] => b12_laysBack_11  (r12_laysBack  n) n i1 i2 M | _, _ => none) else
    if pc = 36 then (match li, lj with | [i1, i2, i3, i4], [] => b12_laysBack_36  (r12_laysBack  n) n i1 i2 i3 i4 M | _, _ => none) else
    none
theorem e12_laysBack_2  (n : Nat) (i1 : Int32) (M : Mem) : r12_laysBack  (n + 1) 2 [i1] [] M = b12_laysBack_2  (r12_laysBack  n) n i1 M := by
  rw [r12_laysBack]
  simp
theorem e12_laysBack_11  (n : Nat) (i1 : Int32) (i2 : Int32) (M : Mem) : r12_laysBack  (n + 1) 11 [i1, i2] [] M = b12_laysBack_11  (r12_laysBack  n) n i1 i2 M := by
  rw [r12_laysBack]
  simp
theorem e12_laysBack_36  (n : Nat) (i1 : Int32) (i2 : Int32) (i3 : Int32) (i4 : Int32) (M : Mem) : r12_laysBack  (n + 1) 36 [i1, i2, i3, i4] [] M = b12_laysBack_36  (r12_laysBack  n) n i1 i2 i3 i4 M := by
  rw [r12_laysBack]
  simp
def f12_laysBack (n : Nat)  (M : Mem) : Option (Unit × Mem) := b12_laysBack_0 (r12_laysBack n) n M
abbrev rm12_laysBack : Room := { frames := 6, cells := 0, slots := 0, locals := 137 }
theorem y12_laysBack_w : yV RX12 yX12_laysBack cX12_laysBack 5 none 0 := ⟨g_1582, gp 80 rfl rfl, g_14, g_1583, rfl, by decide, by decide, by decide +kernel⟩
set_option maxHeartbeats 4000000 in
set_option maxRecDepth 100000 in
theorem w12_laysBack_84 {p : Program} {l : Launch} {e : Env} {s : State} {m : MethodId} {args : Array Value} {below : List Frame} {meth : Method} {c : Code} {z : Zt} {b : Nat}  (C : Cx p s m args c cX12_laysBack 5 RX12 z 32 b) (hr : meth.sig.returnType = none) (hk : meth.locks = false) {r : Unit} {M' : Mem} {rc : Nat → List Int32 → List Int64 → Mem → Option (Unit × Mem)} {n : Nat} (q2 : ∀ (i1 : Int32) (M : Mem) (H : Heap) (locs : List Loc) (ls : Array Slot), rc 2 [i1] [] M = some (r, M') → va_P z.1 vwCl (pw (yd z b) 32 b M) H → va_S (pA 32 b) s.heap H locs → lv_has ls 5 [(0, .ref (b + 0)), (1, .int i1)] → W p l e rm12_laysBack s m args below meth c H locs 0 0 (MQ below (va_Qv (fun (M2 : Mem) => M2 = M') (fun M2 t => va_P z.1 vwCl (pw (yd z b) 32 b M2) t.heap) (pA 32 b)) args s 0 0 (pA 32 b)) (F0 m 2 ls [])) (q11 : ∀ (i1 : Int32) (i2 : Int32) (M : Mem) (H : Heap) (locs : List Loc) (ls : Array Slot), rc 11 [i1, i2] [] M = some (r, M') → va_P z.1 vwCl (pw (yd z b) 32 b M) H → va_S (pA 32 b) s.heap H locs → lv_has ls 5 [(0, .ref (b + 0)), (1, .int i1), (2, .int i2)] → W p l e rm12_laysBack s m args below meth c H locs 0 0 (MQ below (va_Qv (fun (M2 : Mem) => M2 = M') (fun M2 t => va_P z.1 vwCl (pw (yd z b) 32 b M2) t.heap) (pA 32 b)) args s 0 0 (pA 32 b)) (F0 m 11 ls [])) (q36 : ∀ (i1 : Int32) (i2 : Int32) (i3 : Int32) (i4 : Int32) (M : Mem) (H : Heap) (locs : List Loc) (ls : Array Slot), rc 36 [i1, i2, i3, i4] [] M = some (r, M') → va_P z.1 vwCl (pw (yd z b) 32 b M) H → va_S (pA 32 b) s.heap H locs → lv_has ls 5 [(0, .ref (b + 0)), (1, .int i1), (2, .int i2), (3, .int i3), (4, .int i4)] → W p l e rm12_laysBack s m args below meth c H locs 0 0 (MQ below (va_Qv (fun (M2 : Mem) => M2 = M') (fun M2 t => va_P z.1 vwCl (pw (yd z b) 32 b M2) t.heap) (pA 32 b)) args s 0 0 (pA 32 b)) (F0 m 36 ls [])) {i1 : Int32} {i2 : Int32} {i3 : Int32} {i4 : Int32} {M : Mem} {H : Heap} {locs : List Loc} {ls : Array Slot} (hf : b12_laysBack_84  rc n i1 i2 i3 i4 M = some (r, M')) (hP : va_P z.1 vwCl (pw (yd z b) 32 b M) H) (hS : va_S (pA 32 b) s.heap H locs) (hl : lv_has ls 5 [(0, .ref (b + 0)), (1, .int i1), (2, .int i2), (3, .int i3), (4, .int i4)]) : W p l e rm12_laysBack s m args below meth c H locs 0 0 (MQ below (va_Qv (fun (M2 : Mem) => M2 = M') (fun M2 t => va_P z.1 vwCl (pw (yd z b) 32 b M2) t.heap) (pA 32 b)) args s 0 0 (pA 32 b)) (F0 m 84 ls []) := by
  have hx := C.1.1
  have hb := C.1.2.1
  unfold b12_laysBack_84 at hf
  obtain ⟨v26, ev26⟩ : ∃ v : Int32, v = i4 + (1 : Int32) := ⟨_, rfl⟩
  replace hf := lt_c ev26 hf
  refine lv_iinc (v := v26) (lv' := [(4, .int v26), (0, .ref (b + 0)), (1, .int i1), (2, .int i2), (3, .int i3)]) hx hb dX12_laysBack_84 hl (k := 4) rfl (by rw [ev26]; rfl) (by decide) rfl (fun ls hl => ?_)
  refine lv_goto (tgt := 36) hx hb dX12_laysBack_87 (by decide) ?_
  exact q36 i1 i2 i3 v26 M _ _ _ hf hP hS (lv_sub hl [1, 2, 3, 4, 0] rfl)
set_option maxHeartbeats 4000000 in
set_option maxRecDepth 100000 in
theorem w12_laysBack_36 {p : Program} {l : Launch} {e : Env} {s : State} {m : MethodId} {args : Array Value} {below : List Frame} {meth : Method} {c : Code} {z : Zt} {b : Nat}  (C : Cx p s m args c cX12_laysBack 5 RX12 z 32 b) (hr : meth.sig.returnType = none) (hk : meth.locks = false) {r : Unit} {M' : Mem} {rc : Nat → List Int32 → List Int64 → Mem → Option (Unit × Mem)} {n : Nat} (q2 : ∀ (i1 : Int32) (M : Mem) (H : Heap) (locs : List Loc) (ls : Array Slot), rc 2 [i1] [] M = some (r, M') → va_P z.1 vwCl (pw (yd z b) 32 b M) H → va_S (pA 32 b) s.heap H locs → lv_has ls 5 [(0, .ref (b + 0)), (1, .int i1)] → W p l e rm12_laysBack s m args below meth c H locs 0 0 (MQ below (va_Qv (fun (M2 : Mem) => M2 = M') (fun M2 t => va_P z.1 vwCl (pw (yd z b) 32 b M2) t.heap) (pA 32 b)) args s 0 0 (pA 32 b)) (F0 m 2 ls [])) (q11 : ∀ (i1 : Int32) (i2 : Int32) (M : Mem) (H : Heap) (locs : List Loc) (ls : Array Slot), rc 11 [i1, i2] [] M = some (r, M') → va_P z.1 vwCl (pw (yd z b) 32 b M) H → va_S (pA 32 b) s.heap H locs → lv_has ls 5 [(0, .ref (b + 0)), (1, .int i1), (2, .int i2)] → W p l e rm12_laysBack s m args below meth c H locs 0 0 (MQ below (va_Qv (fun (M2 : Mem) => M2 = M') (fun M2 t => va_P z.1 vwCl (pw (yd z b) 32 b M2) t.heap) (pA 32 b)) args s 0 0 (pA 32 b)) (F0 m 11 ls [])) (q36 : ∀ (i1 : Int32) (i2 : Int32) (i3 : Int32) (i4 : Int32) (M : Mem) (H : Heap) (locs : List Loc) (ls : Array Slot), rc 36 [i1, i2, i3, i4] [] M = some (r, M') → va_P z.1 vwCl (pw (yd z b) 32 b M) H → va_S (pA 32 b) s.heap H locs → lv_has ls 5 [(0, .ref (b + 0)), (1, .int i1), (2, .int i2), (3, .int i3), (4, .int i4)] → W p l e rm12_laysBack s m args below meth c H locs 0 0 (MQ below (va_Qv (fun (M2 : Mem) => M2 = M') (fun M2 t => va_P z.1 vwCl (pw (yd z b) 32 b M2) t.heap) (pA 32 b)) args s 0 0 (pA 32 b)) (F0 m 36 ls [])) {i1 : Int32} {i2 : Int32} {i3 : Int32} {i4 : Int32} {M : Mem} {H : Heap} {locs : List Loc} {ls : Array Slot} (hf : b12_laysBack_36  rc n i1 i2 i3 i4 M = some (r, M')) (hP : va_P z.1 vwCl (pw (yd z b) 32 b M) H) (hS : va_S (pA 32 b) s.heap H locs) (hl : lv_has ls 5 [(0, .ref (b + 0)), (1, .int i1), (2, .int i2), (3, .int i3), (4, .int i4)]) : W p l e rm12_laysBack s m args below meth c H locs 0 0 (MQ below (va_Qv (fun (M2 : Mem) => M2 = M') (fun M2 t => va_P z.1 vwCl (pw (yd z b) 32 b M2) t.heap) (pA 32 b)) args s 0 0 (pA 32 b)) (F0 m 36 ls []) := by
  have hx := C.1.1
  have hb := C.1.2.1
  unfold b12_laysBack_36 at hf
  refine lv_iload hx hb dX12_laysBack_36 (lv_at hl 4 rfl) ?_
  refine lv_bipush (v := (9 : Int32)) hx hb dX12_laysBack_38 (by decide) ?_
  refine lv_icmp_ge (tgt := 90) hx hb dX12_laysBack_40 (by decide) (fun c8 => ?_) (fun c8 => ?_)
  · replace hf := ite_t c8 hf
    refine lv_aload_n hx hb dX12_laysBack_90 rfl (lv_at hl 0 rfl) ?_
    refine pg C hP (k := 0) (j := 43) (Nat.le_of_ble_eq_true rfl) (yd_0 _ _) rfl iw_12 (Nat.le_of_ble_eq_true rfl) g_1178 rfl rfl dX12_laysBack_91 ?_
    refine lv_bipush (v := (9 : Int32)) hx hb dX12_laysBack_94 (by decide) ?_
    refine lv_iload_n hx hb dX12_laysBack_96 rfl (lv_at hl 1 rfl) ?_
    refine lv_imul hx hb dX12_laysBack_97 ?_
    refine lv_iload_n hx hb dX12_laysBack_98 rfl (lv_at hl 2 rfl) ?_
    refine lv_iadd hx hb dX12_laysBack_99 ?_
    refine lv_ldcw hx hb C.1.2.2.2.1 (C.1.2.2.2.2 _ g_1588) dX12_laysBack_100 ?_
    refine lv_iload_n hx hb dX12_laysBack_103 rfl (lv_at hl 3 rfl) ?_
    obtain ⟨r9, M10, h11, hf⟩ := bnd_s hf
    refine pcSi (As := [.int (1000000 : Int32), .int i3]) C hP hS (c12_min  h11) y12_min_w g_1505 rfl rfl rfl ⟨Nat.le_of_ble_eq_true rfl, Nat.le_of_ble_eq_true rfl⟩ hl.1 rfl (Nat.le_of_ble_eq_true rfl) dX12_laysBack_104 ⟨Nat.le_of_ble_eq_true rfl, Nat.le_of_ble_eq_true rfl⟩ (fun H locs hP hS => ?_)
    have h12 := chk_1 hf
    replace hf := chk_2 hf
    refine psI C hP hS (k := 24) (Nat.le_of_ble_eq_true rfl) (yd_24) h12 dX12_laysBack_107 (fun M13 H locs eM13 hP hS => ?_)
    replace hf := lt_c eM13 hf
    obtain ⟨v14, ev14⟩ : ∃ v : Int32, v = i2 + (1 : Int32) := ⟨_, rfl⟩
    replace hf := lt_c ev14 hf
    refine lv_iinc (v := v14) (lv' := [(2, .int v14), (0, .ref (b + 0)), (1, .int i1), (3, .int i3), (4, .int i4)]) hx hb dX12_laysBack_108 hl (k := 2) rfl (by rw [ev14]; rfl) (by decide) rfl (fun ls hl => ?_)
    refine lv_goto (tgt := 11) hx hb dX12_laysBack_111 (by decide) ?_
    exact q11 i1 v14 M13 _ _ _ hf hP hS (lv_sub hl [1, 2, 0] rfl)
  · replace hf := ite_f c8 hf
    refine lv_iload_n hx hb dX12_laysBack_43 rfl (lv_at hl 1 rfl) ?_
    refine lv_iload hx hb dX12_laysBack_44 (lv_at hl 4 rfl) ?_
    obtain ⟨r15, M16, h17, hf⟩ := bnd_s hf
    refine pcSi (As := [.int i1, .int i4]) C hP hS (c12_has  h17) y12_has_w g_1538 rfl rfl rfl ⟨Nat.le_of_ble_eq_true rfl, Nat.le_of_ble_eq_true rfl⟩ hl.1 rfl (Nat.le_of_ble_eq_true rfl) dX12_laysBack_46 ⟨Nat.le_of_ble_eq_true rfl, Nat.le_of_ble_eq_true rfl⟩ (fun H locs hP hS => ?_)
    refine lv_if_eq (tgt := 84) hx hb dX12_laysBack_49 (by decide) (fun c18 => ?_) (fun c18 => ?_)
    · replace hf := ite_t c18 hf
      exact w12_laysBack_84 (n := n)  C hr hk q2 q11 q36 hf hP hS (lv_sub hl [0, 1, 2, 3, 4] rfl)
    · replace hf := ite_f c18 hf
      refine lv_iload_n hx hb dX12_laysBack_52 rfl (lv_at hl 3 rfl) ?_
      refine lv_aload_n hx hb dX12_laysBack_53 rfl (lv_at hl 0 rfl) ?_
      refine lv_iload_n hx hb dX12_laysBack_54 rfl (lv_at hl 2 rfl) ?_
      refine lv_iload hx hb dX12_laysBack_55 (lv_at hl 4 rfl) ?_
      obtain ⟨r19, M20, h21, hf⟩ := bnd_s hf
      refine pcVi (As := [.int i2, .int i4]) C hP hS (k := 0) (Nat.le_of_ble_eq_true rfl) (yd_0 _ _) rfl (c12_doorWay  h21) y12_doorWay_w g_1589 rfl rfl rfl ⟨Nat.le_of_ble_eq_true rfl, Nat.le_of_ble_eq_true rfl⟩ hl.1 rfl (Nat.le_of_ble_eq_true rfl) dX12_laysBack_57 ⟨Nat.le_of_ble_eq_true rfl, Nat.le_of_ble_eq_true rfl⟩ (fun H locs hP hS => ?_)
      refine lv_aload_n hx hb dX12_laysBack_60 rfl (lv_at hl 0 rfl) ?_
      refine pg C hP (k := 0) (j := 43) (Nat.le_of_ble_eq_true rfl) (yd_0 _ _) rfl iw_12 (Nat.le_of_ble_eq_true rfl) g_1178 rfl rfl dX12_laysBack_61 ?_
      refine lv_bipush (v := (9 : Int32)) hx hb dX12_laysBack_64 (by decide) ?_
      refine lv_iload_n hx hb dX12_laysBack_66 rfl (lv_at hl 1 rfl) ?_
      refine lv_iconst (v := (1 : Int32)) hx hb dX12_laysBack_67 (by decide) ?_
      refine lv_iload hx hb dX12_laysBack_68 (lv_at hl 4 rfl) ?_
      refine lv_ishl hx hb dX12_laysBack_70 ?_
      refine lv_iconst (v := (-1 : Int32)) hx hb dX12_laysBack_71 (by decide) ?_
      refine lv_ixor hx hb dX12_laysBack_72 ?_
      refine lv_iand hx hb dX12_laysBack_73 ?_
      refine lv_imul hx hb dX12_laysBack_74 ?_
      refine lv_iload hx hb dX12_laysBack_75 (lv_at hl 4 rfl) ?_
      refine lv_iadd hx hb dX12_laysBack_77 ?_
      have h22 := chk_1 hf
      replace hf := chk_2 hf
      refine paI C hP (k := 24) (Nat.le_of_ble_eq_true rfl) (yd_24 _ _) h22 dX12_laysBack_78 ?_
      refine lv_iadd hx hb dX12_laysBack_79 ?_
      obtain ⟨r23, M24, h25, hf⟩ := bnd_s hf
      refine pcSi (As := [.int i3, .int (r19 + (M20.1 24 (((9 : Int32) * (i1 &&& (((1 : Int32) <<< (i4 &&& 31)) ^^^ (-1 : Int32)))) + i4).toNatClampNeg))]) C hP hS (c12_min  h25) y12_min_w g_1505 rfl rfl rfl ⟨Nat.le_of_ble_eq_true rfl, Nat.le_of_ble_eq_true rfl⟩ hl.1 rfl (Nat.le_of_ble_eq_true rfl) dX12_laysBack_80 ⟨Nat.le_of_ble_eq_true rfl, Nat.le_of_ble_eq_true rfl⟩ (fun H locs hP hS => ?_)
      refine lv_istore_n (lv' := [(3, .int r23), (0, .ref (b + 0)), (1, .int i1), (2, .int i2), (4, .int i4)]) hx hb dX12_laysBack_83 rfl hl (by decide) rfl (fun ls hl => ?_)
      exact w12_laysBack_84 (n := n)  C hr hk q2 q11 q36 hf hP hS (lv_sub hl [1, 2, 3, 0, 4] rfl)
set_option maxHeartbeats 4000000 in
set_option maxRecDepth 100000 in
theorem w12_laysBack_32 {p : Program} {l : Launch} {e : Env} {s : State} {m : MethodId} {args : Array Value} {below : List Frame} {meth : Method} {c : Code} {z : Zt} {b : Nat}  (C : Cx p s m args c cX12_laysBack 5 RX12 z 32 b) (hr : meth.sig.returnType = none) (hk : meth.locks = false) {r : Unit} {M' : Mem} {rc : Nat → List Int32 → List Int64 → Mem → Option (Unit × Mem)} {n : Nat} (q2 : ∀ (i1 : Int32) (M : Mem) (H : Heap) (locs : List Loc) (ls : Array Slot), rc 2 [i1] [] M = some (r, M') → va_P z.1 vwCl (pw (yd z b) 32 b M) H → va_S (pA 32 b) s.heap H locs → lv_has ls 5 [(0, .ref (b + 0)), (1, .int i1)] → W p l e rm12_laysBack s m args below meth c H locs 0 0 (MQ below (va_Qv (fun (M2 : Mem) => M2 = M') (fun M2 t => va_P z.1 vwCl (pw (yd z b) 32 b M2) t.heap) (pA 32 b)) args s 0 0 (pA 32 b)) (F0 m 2 ls [])) (q11 : ∀ (i1 : Int32) (i2 : Int32) (M : Mem) (H : Heap) (locs : List Loc) (ls : Array Slot), rc 11 [i1, i2] [] M = some (r, M') → va_P z.1 vwCl (pw (yd z b) 32 b M) H → va_S (pA 32 b) s.heap H locs → lv_has ls 5 [(0, .ref (b + 0)), (1, .int i1), (2, .int i2)] → W p l e rm12_laysBack s m args below meth c H locs 0 0 (MQ below (va_Qv (fun (M2 : Mem) => M2 = M') (fun M2 t => va_P z.1 vwCl (pw (yd z b) 32 b M2) t.heap) (pA 32 b)) args s 0 0 (pA 32 b)) (F0 m 11 ls [])) (q36 : ∀ (i1 : Int32) (i2 : Int32) (i3 : Int32) (i4 : Int32) (M : Mem) (H : Heap) (locs : List Loc) (ls : Array Slot), rc 36 [i1, i2, i3, i4] [] M = some (r, M') → va_P z.1 vwCl (pw (yd z b) 32 b M) H → va_S (pA 32 b) s.heap H locs → lv_has ls 5 [(0, .ref (b + 0)), (1, .int i1), (2, .int i2), (3, .int i3), (4, .int i4)] → W p l e rm12_laysBack s m args below meth c H locs 0 0 (MQ below (va_Qv (fun (M2 : Mem) => M2 = M') (fun M2 t => va_P z.1 vwCl (pw (yd z b) 32 b M2) t.heap) (pA 32 b)) args s 0 0 (pA 32 b)) (F0 m 36 ls [])) {i1 : Int32} {i2 : Int32} {s0 : Int32} {M : Mem} {H : Heap} {locs : List Loc} {ls : Array Slot} (hf : b12_laysBack_32  rc n i1 i2 s0 M = some (r, M')) (hP : va_P z.1 vwCl (pw (yd z b) 32 b M) H) (hS : va_S (pA 32 b) s.heap H locs) (hl : lv_has ls 5 [(0, .ref (b + 0)), (1, .int i1), (2, .int i2)]) : W p l e rm12_laysBack s m args below meth c H locs 0 0 (MQ below (va_Qv (fun (M2 : Mem) => M2 = M') (fun M2 t => va_P z.1 vwCl (pw (yd z b) 32 b M2) t.heap) (pA 32 b)) args s 0 0 (pA 32 b)) (F0 m 32 ls [.int s0]) := by
  have hx := C.1.1
  have hb := C.1.2.1
  unfold b12_laysBack_32 at hf
  refine lv_istore_n (lv' := [(3, .int s0), (0, .ref (b + 0)), (1, .int i1), (2, .int i2)]) hx hb dX12_laysBack_32 rfl hl (by decide) rfl (fun ls hl => ?_)
  refine lv_iconst (v := (0 : Int32)) hx hb dX12_laysBack_33 (by decide) ?_
  refine lv_istore (lv' := [(4, .int (0 : Int32)), (3, .int s0), (0, .ref (b + 0)), (1, .int i1), (2, .int i2)]) hx hb dX12_laysBack_34 hl (by decide) rfl (fun ls hl => ?_)
  exact w12_laysBack_36 (n := n)  C hr hk q2 q11 q36 hf hP hS (lv_sub hl [2, 3, 4, 1, 0] rfl)
set_option maxHeartbeats 4000000 in
set_option maxRecDepth 100000 in
theorem w12_laysBack_11 {p : Program} {l : Launch} {e : Env} {s : State} {m : MethodId} {args : Array Value} {below : List Frame} {meth : Method} {c : Code} {z : Zt} {b : Nat}  (C : Cx p s m args c cX12_laysBack 5 RX12 z 32 b) (hr : meth.sig.returnType = none) (hk : meth.locks = false) {r : Unit} {M' : Mem} {rc : Nat → List Int32 → List Int64 → Mem → Option (Unit × Mem)} {n : Nat} (q2 : ∀ (i1 : Int32) (M : Mem) (H : Heap) (locs : List Loc) (ls : Array Slot), rc 2 [i1] [] M = some (r, M') → va_P z.1 vwCl (pw (yd z b) 32 b M) H → va_S (pA 32 b) s.heap H locs → lv_has ls 5 [(0, .ref (b + 0)), (1, .int i1)] → W p l e rm12_laysBack s m args below meth c H locs 0 0 (MQ below (va_Qv (fun (M2 : Mem) => M2 = M') (fun M2 t => va_P z.1 vwCl (pw (yd z b) 32 b M2) t.heap) (pA 32 b)) args s 0 0 (pA 32 b)) (F0 m 2 ls [])) (q11 : ∀ (i1 : Int32) (i2 : Int32) (M : Mem) (H : Heap) (locs : List Loc) (ls : Array Slot), rc 11 [i1, i2] [] M = some (r, M') → va_P z.1 vwCl (pw (yd z b) 32 b M) H → va_S (pA 32 b) s.heap H locs → lv_has ls 5 [(0, .ref (b + 0)), (1, .int i1), (2, .int i2)] → W p l e rm12_laysBack s m args below meth c H locs 0 0 (MQ below (va_Qv (fun (M2 : Mem) => M2 = M') (fun M2 t => va_P z.1 vwCl (pw (yd z b) 32 b M2) t.heap) (pA 32 b)) args s 0 0 (pA 32 b)) (F0 m 11 ls [])) (q36 : ∀ (i1 : Int32) (i2 : Int32) (i3 : Int32) (i4 : Int32) (M : Mem) (H : Heap) (locs : List Loc) (ls : Array Slot), rc 36 [i1, i2, i3, i4] [] M = some (r, M') → va_P z.1 vwCl (pw (yd z b) 32 b M) H → va_S (pA 32 b) s.heap H locs → lv_has ls 5 [(0, .ref (b + 0)), (1, .int i1), (2, .int i2), (3, .int i3), (4, .int i4)] → W p l e rm12_laysBack s m args below meth c H locs 0 0 (MQ below (va_Qv (fun (M2 : Mem) => M2 = M') (fun M2 t => va_P z.1 vwCl (pw (yd z b) 32 b M2) t.heap) (pA 32 b)) args s 0 0 (pA 32 b)) (F0 m 36 ls [])) {i1 : Int32} {i2 : Int32} {M : Mem} {H : Heap} {locs : List Loc} {ls : Array Slot} (hf : b12_laysBack_11  rc n i1 i2 M = some (r, M')) (hP : va_P z.1 vwCl (pw (yd z b) 32 b M) H) (hS : va_S (pA 32 b) s.heap H locs) (hl : lv_has ls 5 [(0, .ref (b + 0)), (1, .int i1), (2, .int i2)]) : W p l e rm12_laysBack s m args below meth c H locs 0 0 (MQ below (va_Qv (fun (M2 : Mem) => M2 = M') (fun M2 t => va_P z.1 vwCl (pw (yd z b) 32 b M2) t.heap) (pA 32 b)) args s 0 0 (pA 32 b)) (F0 m 11 ls []) := by
  have hx := C.1.1
  have hb := C.1.2.1
  unfold b12_laysBack_11 at hf
  refine lv_iload_n hx hb dX12_laysBack_11 rfl (lv_at hl 2 rfl) ?_
  refine lv_bipush (v := (9 : Int32)) hx hb dX12_laysBack_12 (by decide) ?_
  refine lv_icmp_ge (tgt := 114) hx hb dX12_laysBack_14 (by decide) (fun c2 => ?_) (fun c2 => ?_)
  · replace hf := ite_t c2 hf
    obtain ⟨v3, ev3⟩ : ∃ v : Int32, v = i1 + (1 : Int32) := ⟨_, rfl⟩
    replace hf := lt_c ev3 hf
    refine lv_iinc (v := v3) (lv' := [(1, .int v3), (0, .ref (b + 0)), (2, .int i2)]) hx hb dX12_laysBack_114 hl (k := 1) rfl (by rw [ev3]; rfl) (by decide) rfl (fun ls hl => ?_)
    refine lv_goto (tgt := 2) hx hb dX12_laysBack_117 (by decide) ?_
    exact q2 v3 M _ _ _ hf hP hS (lv_sub hl [1, 0] rfl)
  · replace hf := ite_f c2 hf
    refine lv_iload_n hx hb dX12_laysBack_17 rfl (lv_at hl 1 rfl) ?_
    refine lv_if_ne (tgt := 29) hx hb dX12_laysBack_18 (by decide) (fun c4 => ?_) (fun c4 => ?_)
    · replace hf := ite_f c4 hf
      refine lv_ldcw hx hb C.1.2.2.2.1 (C.1.2.2.2.2 _ g_1588) dX12_laysBack_29 ?_
      exact w12_laysBack_32 (n := n)  C hr hk q2 q11 q36 hf hP hS (lv_sub hl [0, 1, 2] rfl)
    · replace hf := ite_t c4 hf
      refine lv_aload_n hx hb dX12_laysBack_21 rfl (lv_at hl 0 rfl) ?_
      refine lv_iload_n hx hb dX12_laysBack_22 rfl (lv_at hl 2 rfl) ?_
      obtain ⟨r5, M6, h7, hf⟩ := bnd_s hf
      refine pcVi (As := [.int i2]) C hP hS (k := 0) (Nat.le_of_ble_eq_true rfl) (yd_0 _ _) rfl (c12_squareWay  h7) y12_squareWay_w g_1584 rfl rfl rfl ⟨Nat.le_of_ble_eq_true rfl, Nat.le_of_ble_eq_true rfl⟩ hl.1 rfl (Nat.le_of_ble_eq_true rfl) dX12_laysBack_23 ⟨Nat.le_of_ble_eq_true rfl, Nat.le_of_ble_eq_true rfl⟩ (fun H locs hP hS => ?_)
      refine lv_goto (tgt := 32) hx hb dX12_laysBack_26 (by decide) ?_
      exact w12_laysBack_32 (n := n)  C hr hk q2 q11 q36 hf hP hS (lv_sub hl [0, 1, 2] rfl)
set_option maxHeartbeats 4000000 in
set_option maxRecDepth 100000 in
theorem w12_laysBack_2 {p : Program} {l : Launch} {e : Env} {s : State} {m : MethodId} {args : Array Value} {below : List Frame} {meth : Method} {c : Code} {z : Zt} {b : Nat}  (C : Cx p s m args c cX12_laysBack 5 RX12 z 32 b) (hr : meth.sig.returnType = none) (hk : meth.locks = false) {r : Unit} {M' : Mem} {rc : Nat → List Int32 → List Int64 → Mem → Option (Unit × Mem)} {n : Nat} (q2 : ∀ (i1 : Int32) (M : Mem) (H : Heap) (locs : List Loc) (ls : Array Slot), rc 2 [i1] [] M = some (r, M') → va_P z.1 vwCl (pw (yd z b) 32 b M) H → va_S (pA 32 b) s.heap H locs → lv_has ls 5 [(0, .ref (b + 0)), (1, .int i1)] → W p l e rm12_laysBack s m args below meth c H locs 0 0 (MQ below (va_Qv (fun (M2 : Mem) => M2 = M') (fun M2 t => va_P z.1 vwCl (pw (yd z b) 32 b M2) t.heap) (pA 32 b)) args s 0 0 (pA 32 b)) (F0 m 2 ls [])) (q11 : ∀ (i1 : Int32) (i2 : Int32) (M : Mem) (H : Heap) (locs : List Loc) (ls : Array Slot), rc 11 [i1, i2] [] M = some (r, M') → va_P z.1 vwCl (pw (yd z b) 32 b M) H → va_S (pA 32 b) s.heap H locs → lv_has ls 5 [(0, .ref (b + 0)), (1, .int i1), (2, .int i2)] → W p l e rm12_laysBack s m args below meth c H locs 0 0 (MQ below (va_Qv (fun (M2 : Mem) => M2 = M') (fun M2 t => va_P z.1 vwCl (pw (yd z b) 32 b M2) t.heap) (pA 32 b)) args s 0 0 (pA 32 b)) (F0 m 11 ls [])) (q36 : ∀ (i1 : Int32) (i2 : Int32) (i3 : Int32) (i4 : Int32) (M : Mem) (H : Heap) (locs : List Loc) (ls : Array Slot), rc 36 [i1, i2, i3, i4] [] M = some (r, M') → va_P z.1 vwCl (pw (yd z b) 32 b M) H → va_S (pA 32 b) s.heap H locs → lv_has ls 5 [(0, .ref (b + 0)), (1, .int i1), (2, .int i2), (3, .int i3), (4, .int i4)] → W p l e rm12_laysBack s m args below meth c H locs 0 0 (MQ below (va_Qv (fun (M2 : Mem) => M2 = M') (fun M2 t => va_P z.1 vwCl (pw (yd z b) 32 b M2) t.heap) (pA 32 b)) args s 0 0 (pA 32 b)) (F0 m 36 ls [])) {i1 : Int32} {M : Mem} {H : Heap} {locs : List Loc} {ls : Array Slot} (hf : b12_laysBack_2  rc n i1 M = some (r, M')) (hP : va_P z.1 vwCl (pw (yd z b) 32 b M) H) (hS : va_S (pA 32 b) s.heap H locs) (hl : lv_has ls 5 [(0, .ref (b + 0)), (1, .int i1)]) : W p l e rm12_laysBack s m args below meth c H locs 0 0 (MQ below (va_Qv (fun (M2 : Mem) => M2 = M') (fun M2 t => va_P z.1 vwCl (pw (yd z b) 32 b M2) t.heap) (pA 32 b)) args s 0 0 (pA 32 b)) (F0 m 2 ls []) := by
  have hx := C.1.1
  have hb := C.1.2.1
  unfold b12_laysBack_2 at hf
  refine lv_iload_n hx hb dX12_laysBack_2 rfl (lv_at hl 1 rfl) ?_
  refine lv_sipush (v := (512 : Int32)) hx hb dX12_laysBack_3 (by decide) ?_
  refine lv_icmp_ge (tgt := 120) hx hb dX12_laysBack_6 (by decide) (fun c1 => ?_) (fun c1 => ?_)
  · replace hf := ite_t c1 hf
    exact prV C hr hk hP hS hf dX12_laysBack_120
  · replace hf := ite_f c1 hf
    refine lv_iconst (v := (0 : Int32)) hx hb dX12_laysBack_9 (by decide) ?_
    refine lv_istore_n (lv' := [(2, .int (0 : Int32)), (0, .ref (b + 0)), (1, .int i1)]) hx hb dX12_laysBack_10 rfl hl (by decide) rfl (fun ls hl => ?_)
    exact w12_laysBack_11 (n := n)  C hr hk q2 q11 q36 hf hP hS (lv_sub hl [1, 2, 0] rfl)
set_option maxHeartbeats 4000000 in
set_option maxRecDepth 100000 in
theorem w12_laysBack_0 {p : Program} {l : Launch} {e : Env} {s : State} {m : MethodId} {args : Array Value} {below : List Frame} {meth : Method} {c : Code} {z : Zt} {b : Nat}  (C : Cx p s m args c cX12_laysBack 5 RX12 z 32 b) (hr : meth.sig.returnType = none) (hk : meth.locks = false) {r : Unit} {M' : Mem} {rc : Nat → List Int32 → List Int64 → Mem → Option (Unit × Mem)} {n : Nat} (q2 : ∀ (i1 : Int32) (M : Mem) (H : Heap) (locs : List Loc) (ls : Array Slot), rc 2 [i1] [] M = some (r, M') → va_P z.1 vwCl (pw (yd z b) 32 b M) H → va_S (pA 32 b) s.heap H locs → lv_has ls 5 [(0, .ref (b + 0)), (1, .int i1)] → W p l e rm12_laysBack s m args below meth c H locs 0 0 (MQ below (va_Qv (fun (M2 : Mem) => M2 = M') (fun M2 t => va_P z.1 vwCl (pw (yd z b) 32 b M2) t.heap) (pA 32 b)) args s 0 0 (pA 32 b)) (F0 m 2 ls [])) (q11 : ∀ (i1 : Int32) (i2 : Int32) (M : Mem) (H : Heap) (locs : List Loc) (ls : Array Slot), rc 11 [i1, i2] [] M = some (r, M') → va_P z.1 vwCl (pw (yd z b) 32 b M) H → va_S (pA 32 b) s.heap H locs → lv_has ls 5 [(0, .ref (b + 0)), (1, .int i1), (2, .int i2)] → W p l e rm12_laysBack s m args below meth c H locs 0 0 (MQ below (va_Qv (fun (M2 : Mem) => M2 = M') (fun M2 t => va_P z.1 vwCl (pw (yd z b) 32 b M2) t.heap) (pA 32 b)) args s 0 0 (pA 32 b)) (F0 m 11 ls [])) (q36 : ∀ (i1 : Int32) (i2 : Int32) (i3 : Int32) (i4 : Int32) (M : Mem) (H : Heap) (locs : List Loc) (ls : Array Slot), rc 36 [i1, i2, i3, i4] [] M = some (r, M') → va_P z.1 vwCl (pw (yd z b) 32 b M) H → va_S (pA 32 b) s.heap H locs → lv_has ls 5 [(0, .ref (b + 0)), (1, .int i1), (2, .int i2), (3, .int i3), (4, .int i4)] → W p l e rm12_laysBack s m args below meth c H locs 0 0 (MQ below (va_Qv (fun (M2 : Mem) => M2 = M') (fun M2 t => va_P z.1 vwCl (pw (yd z b) 32 b M2) t.heap) (pA 32 b)) args s 0 0 (pA 32 b)) (F0 m 36 ls []))  {M : Mem} {H : Heap} {locs : List Loc} {ls : Array Slot} (hf : b12_laysBack_0  rc n  M = some (r, M')) (hP : va_P z.1 vwCl (pw (yd z b) 32 b M) H) (hS : va_S (pA 32 b) s.heap H locs) (hl : lv_has ls 5 [(0, .ref (b + 0))]) : W p l e rm12_laysBack s m args below meth c H locs 0 0 (MQ below (va_Qv (fun (M2 : Mem) => M2 = M') (fun M2 t => va_P z.1 vwCl (pw (yd z b) 32 b M2) t.heap) (pA 32 b)) args s 0 0 (pA 32 b)) (F0 m 0 ls []) := by
  have hx := C.1.1
  have hb := C.1.2.1
  unfold b12_laysBack_0 at hf
  refine lv_iconst (v := (0 : Int32)) hx hb dX12_laysBack_0 (by decide) ?_
  refine lv_istore_n (lv' := [(1, .int (0 : Int32)), (0, .ref (b + 0))]) hx hb dX12_laysBack_1 rfl hl (by decide) rfl (fun ls hl => ?_)
  exact w12_laysBack_2 (n := n)  C hr hk q2 q11 q36 hf hP hS (lv_sub hl [1, 0] rfl)
set_option maxHeartbeats 4000000 in
set_option maxRecDepth 100000 in
theorem l12_laysBack {p : Program} {l : Launch} {e : Env} {s : State} {m : MethodId} {args : Array Value} {below : List Frame} {meth : Method} {c : Code} {z : Zt} {b : Nat}  (C : Cx p s m args c cX12_laysBack 5 RX12 z 32 b) (hr : meth.sig.returnType = none) (hk : meth.locks = false) {r : Unit} {M' : Mem} (n : Nat) : (∀ (i1 : Int32) (M : Mem) (H : Heap) (locs : List Loc) (ls : Array Slot), (r12_laysBack  n) 2 [i1] [] M = some (r, M') → va_P z.1 vwCl (pw (yd z b) 32 b M) H → va_S (pA 32 b) s.heap H locs → lv_has ls 5 [(0, .ref (b + 0)), (1, .int i1)] → W p l e rm12_laysBack s m args below meth c H locs 0 0 (MQ below (va_Qv (fun (M2 : Mem) => M2 = M') (fun M2 t => va_P z.1 vwCl (pw (yd z b) 32 b M2) t.heap) (pA 32 b)) args s 0 0 (pA 32 b)) (F0 m 2 ls [])) ∧ (∀ (i1 : Int32) (i2 : Int32) (M : Mem) (H : Heap) (locs : List Loc) (ls : Array Slot), (r12_laysBack  n) 11 [i1, i2] [] M = some (r, M') → va_P z.1 vwCl (pw (yd z b) 32 b M) H → va_S (pA 32 b) s.heap H locs → lv_has ls 5 [(0, .ref (b + 0)), (1, .int i1), (2, .int i2)] → W p l e rm12_laysBack s m args below meth c H locs 0 0 (MQ below (va_Qv (fun (M2 : Mem) => M2 = M') (fun M2 t => va_P z.1 vwCl (pw (yd z b) 32 b M2) t.heap) (pA 32 b)) args s 0 0 (pA 32 b)) (F0 m 11 ls [])) ∧ (∀ (i1 : Int32) (i2 : Int32) (i3 : Int32) (i4 : Int32) (M : Mem) (H : Heap) (locs : List Loc) (ls : Array Slot), (r12_laysBack  n) 36 [i1, i2, i3, i4] [] M = some (r, M') → va_P z.1 vwCl (pw (yd z b) 32 b M) H → va_S (pA 32 b) s.heap H locs → lv_has ls 5 [(0, .ref (b + 0)), (1, .int i1), (2, .int i2), (3, .int i3), (4, .int i4)] → W p l e rm12_laysBack s m args below meth c H locs 0 0 (MQ below (va_Qv (fun (M2 : Mem) => M2 = M') (fun M2 t => va_P z.1 vwCl (pw (yd z b) 32 b M2) t.heap) (pA 32 b)) args s 0 0 (pA 32 b)) (F0 m 36 ls [])) := by
  induction n with
  | zero => exact ⟨fun _ _ _ _ _ hf => (by cases hf), fun _ _ _ _ _ _ hf => (by cases hf), fun _ _ _ _ _ _ _ _ hf => (by cases hf)⟩
  | succ n ih => exact ⟨fun _ _ _ _ _ hf hP hS hl => w12_laysBack_2 (n := n)  C hr hk ih.1 ih.2.1 ih.2.2 ((e12_laysBack_2  n _ _).symm.trans hf) hP hS hl, fun _ _ _ _ _ _ hf hP hS hl => w12_laysBack_11 (n := n)  C hr hk ih.1 ih.2.1 ih.2.2 ((e12_laysBack_11  n _ _ _).symm.trans hf) hP hS hl, fun _ _ _ _ _ _ _ _ hf hP hS hl => w12_laysBack_36 (n := n)  C hr hk ih.1 ih.2.1 ih.2.2 ((e12_laysBack_36  n _ _ _ _ _).symm.trans hf) hP hS hl⟩
theorem c12_laysBack {l : Launch} {z : Zt} {b n : Nat}   {M M' : Mem} {r : Unit} (hf : f12_laysBack n   M = some (r, M')) : CV l z (yd z b) 32 b yX12_laysBack cX12_laysBack 5 none rm12_laysBack [.ref (b + 0)] M M' :=
  CV.ofW (lv := [(0, .ref (b + 0))]) (by decide) (Nat.le_of_ble_eq_true rfl) rfl (fun p e s m args below meth c ls C hr hk hP hS hl => w12_laysBack_0 (n := n)  C hr hk (l12_laysBack  C hr hk n).1 (l12_laysBack  C hr hk n).2.1 (l12_laysBack  C hr hk n).2.2 hf hP hS hl)

-- BronzeKingModel.roundBy(I)I
theorem dX12_roundBy_0 : decode cX12_roundBy 0 = .ok (.iload_n 1, 1) := by decide +kernel
theorem dX12_roundBy_1 : decode cX12_roundBy 1 = .ok (.ifCond .ne 5, 3) := by decide +kernel
theorem dX12_roundBy_4 : decode cX12_roundBy 4 = .ok (.iconst 0, 1) := by decide +kernel
theorem dX12_roundBy_5 : decode cX12_roundBy 5 = .ok (.ireturn, 1) := by decide +kernel
theorem dX12_roundBy_6 : decode cX12_roundBy 6 = .ok (.ldc_w 351, 3) := by decide +kernel
theorem dX12_roundBy_9 : decode cX12_roundBy 9 = .ok (.istore_n 2, 1) := by decide +kernel
theorem dX12_roundBy_10 : decode cX12_roundBy 10 = .ok (.iconst 0, 1) := by decide +kernel
theorem dX12_roundBy_11 : decode cX12_roundBy 11 = .ok (.istore_n 3, 1) := by decide +kernel
theorem dX12_roundBy_12 : decode cX12_roundBy 12 = .ok (.iload_n 3, 1) := by decide +kernel
theorem dX12_roundBy_13 : decode cX12_roundBy 13 = .ok (.bipush 9, 2) := by decide +kernel
theorem dX12_roundBy_15 : decode cX12_roundBy 15 = .ok (.if_icmp .ge 45, 3) := by decide +kernel
theorem dX12_roundBy_18 : decode cX12_roundBy 18 = .ok (.iload_n 1, 1) := by decide +kernel
theorem dX12_roundBy_19 : decode cX12_roundBy 19 = .ok (.iload_n 3, 1) := by decide +kernel
theorem dX12_roundBy_20 : decode cX12_roundBy 20 = .ok (.invokestatic 330, 3) := by decide +kernel
theorem dX12_roundBy_23 : decode cX12_roundBy 23 = .ok (.ifCond .eq 31, 3) := by decide +kernel
theorem dX12_roundBy_26 : decode cX12_roundBy 26 = .ok (.iload_n 2, 1) := by decide +kernel
theorem dX12_roundBy_27 : decode cX12_roundBy 27 = .ok (.aload_n 0, 1) := by decide +kernel
theorem dX12_roundBy_28 : decode cX12_roundBy 28 = .ok (.iload_n 3, 1) := by decide +kernel
theorem dX12_roundBy_29 : decode cX12_roundBy 29 = .ok (.invokevirtual 352, 3) := by decide +kernel
theorem dX12_roundBy_32 : decode cX12_roundBy 32 = .ok (.aload_n 0, 1) := by decide +kernel
theorem dX12_roundBy_33 : decode cX12_roundBy 33 = .ok (.getfield 80, 3) := by decide +kernel
theorem dX12_roundBy_36 : decode cX12_roundBy 36 = .ok (.bipush 9, 2) := by decide +kernel
theorem dX12_roundBy_38 : decode cX12_roundBy 38 = .ok (.iload_n 1, 1) := by decide +kernel
theorem dX12_roundBy_39 : decode cX12_roundBy 39 = .ok (.iconst 1, 1) := by decide +kernel
theorem dX12_roundBy_40 : decode cX12_roundBy 40 = .ok (.iload_n 3, 1) := by decide +kernel
theorem dX12_roundBy_41 : decode cX12_roundBy 41 = .ok (.ishl, 1) := by decide +kernel
theorem dX12_roundBy_42 : decode cX12_roundBy 42 = .ok (.iconst (-1), 1) := by decide +kernel
theorem dX12_roundBy_43 : decode cX12_roundBy 43 = .ok (.ixor, 1) := by decide +kernel
theorem dX12_roundBy_44 : decode cX12_roundBy 44 = .ok (.iand, 1) := by decide +kernel
theorem dX12_roundBy_45 : decode cX12_roundBy 45 = .ok (.imul, 1) := by decide +kernel
theorem dX12_roundBy_46 : decode cX12_roundBy 46 = .ok (.iload_n 3, 1) := by decide +kernel
theorem dX12_roundBy_47 : decode cX12_roundBy 47 = .ok (.iadd, 1) := by decide +kernel
theorem dX12_roundBy_48 : decode cX12_roundBy 48 = .ok (.iaload, 1) := by decide +kernel
theorem dX12_roundBy_49 : decode cX12_roundBy 49 = .ok (.iadd, 1) := by decide +kernel
theorem dX12_roundBy_50 : decode cX12_roundBy 50 = .ok (.invokestatic 299, 3) := by decide +kernel
theorem dX12_roundBy_53 : decode cX12_roundBy 53 = .ok (.istore_n 2, 1) := by decide +kernel
theorem dX12_roundBy_54 : decode cX12_roundBy 54 = .ok (.iinc 3 1, 3) := by decide +kernel
theorem dX12_roundBy_57 : decode cX12_roundBy 57 = .ok (.goto (-45), 3) := by decide +kernel
theorem dX12_roundBy_60 : decode cX12_roundBy 60 = .ok (.iload_n 2, 1) := by decide +kernel
theorem dX12_roundBy_61 : decode cX12_roundBy 61 = .ok (.ireturn, 1) := by decide +kernel
def b12_roundBy_54 (rc : Nat → List Int32 → List Int64 → Mem → Option (Int32 × Mem)) (n : Nat) (i1 : Int32) (i2 : Int32) (i3 : Int32) (M : Mem) : Option (Int32 × Mem) :=
  lt (i3 + (1 : Int32)) fun v14 =>
  rc 12 [i1, i2, v14] [] M
def b12_roundBy_12 (rc : Nat → List Int32 → List Int64 → Mem → Option (Int32 × Mem)) (n : Nat) (i1 : Int32) (i2 : Int32) (i3 : Int32) (M : Mem) : Option (Int32 × Mem) :=
  (if (9 : Int32) ≤ i3 then (
   some (i2, M))
  else (
   bnd (f12_has n i1 i3 M) fun r3 M4 =>
   (if r3 = 0 then (
    b12_roundBy_54  rc n i1 i2 i3 M4)
   else (
    bnd (f12_squareWay n i3 M4) fun r7 M8 =>
    chk (inb (((9 : Int32) * (i1 &&& (((1 : Int32) <<< (i3 &&& 31)) ^^^ (-1 : Int32)))) + i3) 4608) <|
    bnd (f12_min n i2 (r7 + (M8.1 24 (((9 : Int32) * (i1 &&& (((1 : Int32) <<< (i3 &&& 31)) ^^^ (-1 : Int32)))) + i3).toNatClampNeg)) M8) fun r11 M12 =>
    b12_roundBy_54  rc n i1 r11 i3 M12))))
def b12_roundBy_0 (rc : Nat → List Int32 → List Int64 → Mem → Option (Int32 × Mem)) (n : Nat) (a1 : Int32) (M : Mem) : Option (Int32 × Mem) :=
  (if a1 = 0 then (
   some ((0 : Int32), M))
  else (
   b12_roundBy_12  rc n a1 (1000000 : Int32) (0 : Int32) M))
def r12_roundBy : Nat → Nat → List Int32 → List Int64 → Mem → Option (Int32 × Mem)
  | 0 => fun _ _ _ _ => none
  | n + 1 => fun pc li lj M =>
    if pc = 12 then (match li, lj with | [i1, i2, i3], [] => b12_roundBy_12  (r12_roundBy  n) n i1 i2 i3 M | _, _ => none) else
    none
theorem e12_roundBy_12  (n : Nat) (i1 : Int32) (i2 : Int32) (i3 : Int32) (M : Mem) : r12_roundBy  (n + 1) 12 [i1, i2, i3] [] M = b12_roundBy_12  (r12_roundBy  n) n i1 i2 i3 M := by
  rw [r12_roundBy]
  simp
def f12_roundBy (n : Nat) (a1 : Int32) (M : Mem) : Option (Int32 × Mem) := b12_roundBy_0 (r12_roundBy n) n a1 M
abbrev rm12_roundBy : Room := { frames := 6, cells := 0, slots := 0, locals := 136 }
theorem y12_roundBy_w : yV RX12 yX12_roundBy cX12_roundBy 4 (some .int) 1 := ⟨g_1595, gp 83 rfl rfl, g_14, g_1596, rfl, by decide, by decide, by decide +kernel⟩
set_option maxHeartbeats 4000000 in
set_option maxRecDepth 100000 in
theorem w12_roundBy_54 {p : Program} {l : Launch} {e : Env} {s : State} {m : MethodId} {args : Array Value} {below : List Frame} {meth : Method} {c : Code} {z : Zt} {b : Nat}  (C : Cx p s m args c cX12_roundBy 4 RX12 z 32 b) (hr : meth.sig.returnType = (some .int)) (hk : meth.locks = false) {r : Int32} {M' : Mem} {rc : Nat → List Int32 → List Int64 → Mem → Option (Int32 × Mem)} {n : Nat} (q12 : ∀ (i1 : Int32) (i2 : Int32) (i3 : Int32) (M : Mem) (H : Heap) (locs : List Loc) (ls : Array Slot), rc 12 [i1, i2, i3] [] M = some (r, M') → va_P z.1 vwCl (pw (yd z b) 32 b M) H → va_S (pA 32 b) s.heap H locs → lv_has ls 4 [(0, .ref (b + 0)), (1, .int i1), (2, .int i2), (3, .int i3)] → W p l e rm12_roundBy s m args below meth c H locs 0 0 (MQ below (va_Qi (fun (r' : Int32) (M2 : Mem) => r' = r ∧ M2 = M') (fun M2 t => va_P z.1 vwCl (pw (yd z b) 32 b M2) t.heap) (pA 32 b)) args s 0 0 (pA 32 b)) (F0 m 12 ls [])) {i1 : Int32} {i2 : Int32} {i3 : Int32} {M : Mem} {H : Heap} {locs : List Loc} {ls : Array Slot} (hf : b12_roundBy_54  rc n i1 i2 i3 M = some (r, M')) (hP : va_P z.1 vwCl (pw (yd z b) 32 b M) H) (hS : va_S (pA 32 b) s.heap H locs) (hl : lv_has ls 4 [(0, .ref (b + 0)), (1, .int i1), (2, .int i2), (3, .int i3)]) : W p l e rm12_roundBy s m args below meth c H locs 0 0 (MQ below (va_Qi (fun (r' : Int32) (M2 : Mem) => r' = r ∧ M2 = M') (fun M2 t => va_P z.1 vwCl (pw (yd z b) 32 b M2) t.heap) (pA 32 b)) args s 0 0 (pA 32 b)) (F0 m 54 ls []) := by
  have hx := C.1.1
  have hb := C.1.2.1
  unfold b12_roundBy_54 at hf
  obtain ⟨v14, ev14⟩ : ∃ v : Int32, v = i3 + (1 : Int32) := ⟨_, rfl⟩
  replace hf := lt_c ev14 hf
  refine lv_iinc (v := v14) (lv' := [(3, .int v14), (0, .ref (b + 0)), (1, .int i1), (2, .int i2)]) hx hb dX12_roundBy_54 hl (k := 3) rfl (by rw [ev14]; rfl) (by decide) rfl (fun ls hl => ?_)
  refine lv_goto (tgt := 12) hx hb dX12_roundBy_57 (by decide) ?_
  exact q12 i1 i2 v14 M _ _ _ hf hP hS (lv_sub hl [1, 2, 3, 0] rfl)
set_option maxHeartbeats 4000000 in
set_option maxRecDepth 100000 in
theorem w12_roundBy_12 {p : Program} {l : Launch} {e : Env} {s : State} {m : MethodId} {args : Array Value} {below : List Frame} {meth : Method} {c : Code} {z : Zt} {b : Nat}  (C : Cx p s m args c cX12_roundBy 4 RX12 z 32 b) (hr : meth.sig.returnType = (some .int)) (hk : meth.locks = false) {r : Int32} {M' : Mem} {rc : Nat → List Int32 → List Int64 → Mem → Option (Int32 × Mem)} {n : Nat} (q12 : ∀ (i1 : Int32) (i2 : Int32) (i3 : Int32) (M : Mem) (H : Heap) (locs : List Loc) (ls : Array Slot), rc 12 [i1, i2, i3] [] M = some (r, M') → va_P z.1 vwCl (pw (yd z b) 32 b M) H → va_S (pA 32 b) s.heap H locs → lv_has ls 4 [(0, .ref (b + 0)), (1, .int i1), (2, .int i2), (3, .int i3)] → W p l e rm12_roundBy s m args below meth c H locs 0 0 (MQ below (va_Qi (fun (r' : Int32) (M2 : Mem) => r' = r ∧ M2 = M') (fun M2 t => va_P z.1 vwCl (pw (yd z b) 32 b M2) t.heap) (pA 32 b)) args s 0 0 (pA 32 b)) (F0 m 12 ls [])) {i1 : Int32} {i2 : Int32} {i3 : Int32} {M : Mem} {H : Heap} {locs : List Loc} {ls : Array Slot} (hf : b12_roundBy_12  rc n i1 i2 i3 M = some (r, M')) (hP : va_P z.1 vwCl (pw (yd z b) 32 b M) H) (hS : va_S (pA 32 b) s.heap H locs) (hl : lv_has ls 4 [(0, .ref (b + 0)), (1, .int i1), (2, .int i2), (3, .int i3)]) : W p l e rm12_roundBy s m args below meth c H locs 0 0 (MQ below (va_Qi (fun (r' : Int32) (M2 : Mem) => r' = r ∧ M2 = M') (fun M2 t => va_P z.1 vwCl (pw (yd z b) 32 b M2) t.heap) (pA 32 b)) args s 0 0 (pA 32 b)) (F0 m 12 ls []) := by
  have hx := C.1.1
  have hb := C.1.2.1
  unfold b12_roundBy_12 at hf
  refine lv_iload_n hx hb dX12_roundBy_12 rfl (lv_at hl 3 rfl) ?_
  refine lv_bipush (v := (9 : Int32)) hx hb dX12_roundBy_13 (by decide) ?_
  refine lv_icmp_ge (tgt := 60) hx hb dX12_roundBy_15 (by decide) (fun c2 => ?_) (fun c2 => ?_)
  · replace hf := ite_t c2 hf
    refine lv_iload_n hx hb dX12_roundBy_60 rfl (lv_at hl 2 rfl) ?_
    exact prI C hr hk hP hS hf dX12_roundBy_61
  · replace hf := ite_f c2 hf
    refine lv_iload_n hx hb dX12_roundBy_18 rfl (lv_at hl 1 rfl) ?_
    refine lv_iload_n hx hb dX12_roundBy_19 rfl (lv_at hl 3 rfl) ?_
    obtain ⟨r3, M4, h5, hf⟩ := bnd_s hf
    refine pcSi (As := [.int i1, .int i3]) C hP hS (c12_has  h5) y12_has_w g_1538 rfl rfl rfl ⟨Nat.le_of_ble_eq_true rfl, Nat.le_of_ble_eq_true rfl⟩ hl.1 rfl (Nat.le_of_ble_eq_true rfl) dX12_roundBy_20 ⟨Nat.le_of_ble_eq_true rfl, Nat.le_of_ble_eq_true rfl⟩ (fun H locs hP hS => ?_)
    refine lv_if_eq (tgt := 54) hx hb dX12_roundBy_23 (by decide) (fun c6 => ?_) (fun c6 => ?_)
    · replace hf := ite_t c6 hf
      exact w12_roundBy_54 (n := n)  C hr hk q12 hf hP hS (lv_sub hl [0, 1, 2, 3] rfl)
    · replace hf := ite_f c6 hf
      refine lv_iload_n hx hb dX12_roundBy_26 rfl (lv_at hl 2 rfl) ?_
      refine lv_aload_n hx hb dX12_roundBy_27 rfl (lv_at hl 0 rfl) ?_
      refine lv_iload_n hx hb dX12_roundBy_28 rfl (lv_at hl 3 rfl) ?_
      obtain ⟨r7, M8, h9, hf⟩ := bnd_s hf
      refine pcVi (As := [.int i3]) C hP hS (k := 0) (Nat.le_of_ble_eq_true rfl) (yd_0 _ _) rfl (c12_squareWay  h9) y12_squareWay_w g_1584 rfl rfl rfl ⟨Nat.le_of_ble_eq_true rfl, Nat.le_of_ble_eq_true rfl⟩ hl.1 rfl (Nat.le_of_ble_eq_true rfl) dX12_roundBy_29 ⟨Nat.le_of_ble_eq_true rfl, Nat.le_of_ble_eq_true rfl⟩ (fun H locs hP hS => ?_)
      refine lv_aload_n hx hb dX12_roundBy_32 rfl (lv_at hl 0 rfl) ?_
      refine pg C hP (k := 0) (j := 43) (Nat.le_of_ble_eq_true rfl) (yd_0 _ _) rfl iw_12 (Nat.le_of_ble_eq_true rfl) g_1178 rfl rfl dX12_roundBy_33 ?_
      refine lv_bipush (v := (9 : Int32)) hx hb dX12_roundBy_36 (by decide) ?_
      refine lv_iload_n hx hb dX12_roundBy_38 rfl (lv_at hl 1 rfl) ?_
      refine lv_iconst (v := (1 : Int32)) hx hb dX12_roundBy_39 (by decide) ?_
      refine lv_iload_n hx hb dX12_roundBy_40 rfl (lv_at hl 3 rfl) ?_
      refine lv_ishl hx hb dX12_roundBy_41 ?_
      refine lv_iconst (v := (-1 : Int32)) hx hb dX12_roundBy_42 (by decide) ?_
      refine lv_ixor hx hb dX12_roundBy_43 ?_
      refine lv_iand hx hb dX12_roundBy_44 ?_
      refine lv_imul hx hb dX12_roundBy_45 ?_
      refine lv_iload_n hx hb dX12_roundBy_46 rfl (lv_at hl 3 rfl) ?_
      refine lv_iadd hx hb dX12_roundBy_47 ?_
      have h10 := chk_1 hf
      replace hf := chk_2 hf
      refine paI C hP (k := 24) (Nat.le_of_ble_eq_true rfl) (yd_24 _ _) h10 dX12_roundBy_48 ?_
      refine lv_iadd hx hb dX12_roundBy_49 ?_
      obtain ⟨r11, M12, h13, hf⟩ := bnd_s hf
      refine pcSi (As := [.int i2, .int (r7 + (M8.1 24 (((9 : Int32) * (i1 &&& (((1 : Int32) <<< (i3 &&& 31)) ^^^ (-1 : Int32)))) + i3).toNatClampNeg))]) C hP hS (c12_min  h13) y12_min_w g_1505 rfl rfl rfl ⟨Nat.le_of_ble_eq_true rfl, Nat.le_of_ble_eq_true rfl⟩ hl.1 rfl (Nat.le_of_ble_eq_true rfl) dX12_roundBy_50 ⟨Nat.le_of_ble_eq_true rfl, Nat.le_of_ble_eq_true rfl⟩ (fun H locs hP hS => ?_)
      refine lv_istore_n (lv' := [(2, .int r11), (0, .ref (b + 0)), (1, .int i1), (3, .int i3)]) hx hb dX12_roundBy_53 rfl hl (by decide) rfl (fun ls hl => ?_)
      exact w12_roundBy_54 (n := n)  C hr hk q12 hf hP hS (lv_sub hl [1, 2, 0, 3] rfl)
set_option maxHeartbeats 4000000 in
set_option maxRecDepth 100000 in
theorem w12_roundBy_0 {p : Program} {l : Launch} {e : Env} {s : State} {m : MethodId} {args : Array Value} {below : List Frame} {meth : Method} {c : Code} {z : Zt} {b : Nat}  (C : Cx p s m args c cX12_roundBy 4 RX12 z 32 b) (hr : meth.sig.returnType = (some .int)) (hk : meth.locks = false) {r : Int32} {M' : Mem} {rc : Nat → List Int32 → List Int64 → Mem → Option (Int32 × Mem)} {n : Nat} (q12 : ∀ (i1 : Int32) (i2 : Int32) (i3 : Int32) (M : Mem) (H : Heap) (locs : List Loc) (ls : Array Slot), rc 12 [i1, i2, i3] [] M = some (r, M') → va_P z.1 vwCl (pw (yd z b) 32 b M) H → va_S (pA 32 b) s.heap H locs → lv_has ls 4 [(0, .ref (b + 0)), (1, .int i1), (2, .int i2), (3, .int i3)] → W p l e rm12_roundBy s m args below meth c H locs 0 0 (MQ below (va_Qi (fun (r' : Int32) (M2 : Mem) => r' = r ∧ M2 = M') (fun M2 t => va_P z.1 vwCl (pw (yd z b) 32 b M2) t.heap) (pA 32 b)) args s 0 0 (pA 32 b)) (F0 m 12 ls [])) {a1 : Int32} {M : Mem} {H : Heap} {locs : List Loc} {ls : Array Slot} (hf : b12_roundBy_0  rc n a1 M = some (r, M')) (hP : va_P z.1 vwCl (pw (yd z b) 32 b M) H) (hS : va_S (pA 32 b) s.heap H locs) (hl : lv_has ls 4 [(0, .ref (b + 0)), (1, .int a1)]) : W p l e rm12_roundBy s m args below meth c H locs 0 0 (MQ below (va_Qi (fun (r' : Int32) (M2 : Mem) => r' = r ∧ M2 = M') (fun M2 t => va_P z.1 vwCl (pw (yd z b) 32 b M2) t.heap) (pA 32 b)) args s 0 0 (pA 32 b)) (F0 m 0 ls []) := by
  have hx := C.1.1
  have hb := C.1.2.1
  unfold b12_roundBy_0 at hf
  refine lv_iload_n hx hb dX12_roundBy_0 rfl (lv_at hl 1 rfl) ?_
  refine lv_if_ne (tgt := 6) hx hb dX12_roundBy_1 (by decide) (fun c1 => ?_) (fun c1 => ?_)
  · replace hf := ite_f c1 hf
    refine lv_ldcw hx hb C.1.2.2.2.1 (C.1.2.2.2.2 _ g_1588) dX12_roundBy_6 ?_
    refine lv_istore_n (lv' := [(2, .int (1000000 : Int32)), (0, .ref (b + 0)), (1, .int a1)]) hx hb dX12_roundBy_9 rfl hl (by decide) rfl (fun ls hl => ?_)
    refine lv_iconst (v := (0 : Int32)) hx hb dX12_roundBy_10 (by decide) ?_
    refine lv_istore_n (lv' := [(3, .int (0 : Int32)), (2, .int (1000000 : Int32)), (0, .ref (b + 0)), (1, .int a1)]) hx hb dX12_roundBy_11 rfl hl (by decide) rfl (fun ls hl => ?_)
    exact w12_roundBy_12 (n := n)  C hr hk q12 hf hP hS (lv_sub hl [2, 3, 1, 0] rfl)
  · replace hf := ite_t c1 hf
    refine lv_iconst (v := (0 : Int32)) hx hb dX12_roundBy_4 (by decide) ?_
    exact prI C hr hk hP hS hf dX12_roundBy_5
set_option maxHeartbeats 4000000 in
set_option maxRecDepth 100000 in
theorem l12_roundBy {p : Program} {l : Launch} {e : Env} {s : State} {m : MethodId} {args : Array Value} {below : List Frame} {meth : Method} {c : Code} {z : Zt} {b : Nat}  (C : Cx p s m args c cX12_roundBy 4 RX12 z 32 b) (hr : meth.sig.returnType = (some .int)) (hk : meth.locks = false) {r : Int32} {M' : Mem} (n : Nat) : (∀ (i1 : Int32) (i2 : Int32) (i3 : Int32) (M : Mem) (H : Heap) (locs : List Loc) (ls : Array Slot), (r12_roundBy  n) 12 [i1, i2, i3] [] M = some (r, M') → va_P z.1 vwCl (pw (yd z b) 32 b M) H → va_S (pA 32 b) s.heap H locs → lv_has ls 4 [(0, .ref (b + 0)), (1, .int i1), (2, .int i2), (3, .int i3)] → W p l e rm12_roundBy s m args below meth c H locs 0 0 (MQ below (va_Qi (fun (r' : Int32) (M2 : Mem) => r' = r ∧ M2 = M') (fun M2 t => va_P z.1 vwCl (pw (yd z b) 32 b M2) t.heap) (pA 32 b)) args s 0 0 (pA 32 b)) (F0 m 12 ls [])) := by
  induction n with
  | zero => exact fun _ _ _ _ _ _ _ hf => (by cases hf)
  | succ n ih => exact fun _ _ _ _ _ _ _ hf hP hS hl => w12_roundBy_12 (n := n)  C hr hk ih ((e12_roundBy_12  n _ _ _ _).symm.trans hf) hP hS hl
theorem c12_roundBy {l : Launch} {z : Zt} {b n : Nat}  {a1 : Int32} {M M' : Mem} {r : Int32} (hf : f12_roundBy n  a1 M = some (r, M')) : CI l z (yd z b) 32 b yX12_roundBy cX12_roundBy 4 (some .int) rm12_roundBy [.ref (b + 0), .int a1] M M' r :=
  CI.ofW (lv := [(0, .ref (b + 0)), (1, .int a1)]) (by decide) (Nat.le_of_ble_eq_true rfl) rfl (fun p e s m args below meth c ls C hr hk hP hS hl => w12_roundBy_0 (n := n)  C hr hk (l12_roundBy  C hr hk n) hf hP hS hl)

-- BronzeKingModel.mayBeRow(IZ)V
theorem dX12_mayBeRow_0 : decode cX12_mayBeRow 0 = .ok (.iload_n 1, 1) := by decide +kernel
theorem dX12_mayBeRow_1 : decode cX12_mayBeRow 1 = .ok (.istore_n 3, 1) := by decide +kernel
theorem dX12_mayBeRow_2 : decode cX12_mayBeRow 2 = .ok (.iconst (-1), 1) := by decide +kernel
theorem dX12_mayBeRow_3 : decode cX12_mayBeRow 3 = .ok (.istore 4, 2) := by decide +kernel
theorem dX12_mayBeRow_5 : decode cX12_mayBeRow 5 = .ok (.aload_n 0, 1) := by decide +kernel
theorem dX12_mayBeRow_6 : decode cX12_mayBeRow 6 = .ok (.getfield 358, 3) := by decide +kernel
theorem dX12_mayBeRow_9 : decode cX12_mayBeRow 9 = .ok (.istore 5, 2) := by decide +kernel
theorem dX12_mayBeRow_11 : decode cX12_mayBeRow 11 = .ok (.iload_n 2, 1) := by decide +kernel
theorem dX12_mayBeRow_12 : decode cX12_mayBeRow 12 = .ok (.istore 6, 2) := by decide +kernel
theorem dX12_mayBeRow_14 : decode cX12_mayBeRow 14 = .ok (.iconst 0, 1) := by decide +kernel
theorem dX12_mayBeRow_15 : decode cX12_mayBeRow 15 = .ok (.istore 7, 2) := by decide +kernel
theorem dX12_mayBeRow_17 : decode cX12_mayBeRow 17 = .ok (.iload 7, 2) := by decide +kernel
theorem dX12_mayBeRow_19 : decode cX12_mayBeRow 19 = .ok (.aload_n 0, 1) := by decide +kernel
theorem dX12_mayBeRow_20 : decode cX12_mayBeRow 20 = .ok (.getfield 361, 3) := by decide +kernel
theorem dX12_mayBeRow_23 : decode cX12_mayBeRow 23 = .ok (.if_icmp .ge 153, 3) := by decide +kernel
theorem dX12_mayBeRow_26 : decode cX12_mayBeRow 26 = .ok (.iconst 0, 1) := by decide +kernel
theorem dX12_mayBeRow_27 : decode cX12_mayBeRow 27 = .ok (.istore 8, 2) := by decide +kernel
theorem dX12_mayBeRow_29 : decode cX12_mayBeRow 29 = .ok (.iload_n 3, 1) := by decide +kernel
theorem dX12_mayBeRow_30 : decode cX12_mayBeRow 30 = .ok (.iload 8, 2) := by decide +kernel
theorem dX12_mayBeRow_32 : decode cX12_mayBeRow 32 = .ok (.invokestatic 330, 3) := by decide +kernel
theorem dX12_mayBeRow_35 : decode cX12_mayBeRow 35 = .ok (.ifCond .eq 51, 3) := by decide +kernel
theorem dX12_mayBeRow_38 : decode cX12_mayBeRow 38 = .ok (.iload 4, 2) := by decide +kernel
theorem dX12_mayBeRow_40 : decode cX12_mayBeRow 40 = .ok (.iconst (-1), 1) := by decide +kernel
theorem dX12_mayBeRow_41 : decode cX12_mayBeRow 41 = .ok (.if_icmp .ne 12, 3) := by decide +kernel
theorem dX12_mayBeRow_44 : decode cX12_mayBeRow 44 = .ok (.aload_n 0, 1) := by decide +kernel
theorem dX12_mayBeRow_45 : decode cX12_mayBeRow 45 = .ok (.iload 8, 2) := by decide +kernel
theorem dX12_mayBeRow_47 : decode cX12_mayBeRow 47 = .ok (.invokevirtual 352, 3) := by decide +kernel
theorem dX12_mayBeRow_50 : decode cX12_mayBeRow 50 = .ok (.goto 11, 3) := by decide +kernel
theorem dX12_mayBeRow_53 : decode cX12_mayBeRow 53 = .ok (.aload_n 0, 1) := by decide +kernel
theorem dX12_mayBeRow_54 : decode cX12_mayBeRow 54 = .ok (.iload 4, 2) := by decide +kernel
theorem dX12_mayBeRow_56 : decode cX12_mayBeRow 56 = .ok (.iload 8, 2) := by decide +kernel
theorem dX12_mayBeRow_58 : decode cX12_mayBeRow 58 = .ok (.invokevirtual 355, 3) := by decide +kernel
theorem dX12_mayBeRow_61 : decode cX12_mayBeRow 61 = .ok (.aload_n 0, 1) := by decide +kernel
theorem dX12_mayBeRow_62 : decode cX12_mayBeRow 62 = .ok (.getfield 80, 3) := by decide +kernel
theorem dX12_mayBeRow_65 : decode cX12_mayBeRow 65 = .ok (.bipush 9, 2) := by decide +kernel
theorem dX12_mayBeRow_67 : decode cX12_mayBeRow 67 = .ok (.iload_n 3, 1) := by decide +kernel
theorem dX12_mayBeRow_68 : decode cX12_mayBeRow 68 = .ok (.iconst 1, 1) := by decide +kernel
theorem dX12_mayBeRow_69 : decode cX12_mayBeRow 69 = .ok (.iload 8, 2) := by decide +kernel
theorem dX12_mayBeRow_71 : decode cX12_mayBeRow 71 = .ok (.ishl, 1) := by decide +kernel
theorem dX12_mayBeRow_72 : decode cX12_mayBeRow 72 = .ok (.iconst (-1), 1) := by decide +kernel
theorem dX12_mayBeRow_73 : decode cX12_mayBeRow 73 = .ok (.ixor, 1) := by decide +kernel
theorem dX12_mayBeRow_74 : decode cX12_mayBeRow 74 = .ok (.iand, 1) := by decide +kernel
theorem dX12_mayBeRow_75 : decode cX12_mayBeRow 75 = .ok (.imul, 1) := by decide +kernel
theorem dX12_mayBeRow_76 : decode cX12_mayBeRow 76 = .ok (.iload 8, 2) := by decide +kernel
theorem dX12_mayBeRow_78 : decode cX12_mayBeRow 78 = .ok (.iadd, 1) := by decide +kernel
theorem dX12_mayBeRow_79 : decode cX12_mayBeRow 79 = .ok (.iaload, 1) := by decide +kernel
theorem dX12_mayBeRow_80 : decode cX12_mayBeRow 80 = .ok (.iadd, 1) := by decide +kernel
theorem dX12_mayBeRow_81 : decode cX12_mayBeRow 81 = .ok (.iload 5, 2) := by decide +kernel
theorem dX12_mayBeRow_83 : decode cX12_mayBeRow 83 = .ok (.if_icmp .eq 12, 3) := by decide +kernel
theorem dX12_mayBeRow_86 : decode cX12_mayBeRow 86 = .ok (.iload 8, 2) := by decide +kernel
theorem dX12_mayBeRow_88 : decode cX12_mayBeRow 88 = .ok (.iconst 1, 1) := by decide +kernel
theorem dX12_mayBeRow_89 : decode cX12_mayBeRow 89 = .ok (.iadd, 1) := by decide +kernel
theorem dX12_mayBeRow_90 : decode cX12_mayBeRow 90 = .ok (.istore 8, 2) := by decide +kernel
theorem dX12_mayBeRow_92 : decode cX12_mayBeRow 92 = .ok (.goto (-63), 3) := by decide +kernel
theorem dX12_mayBeRow_95 : decode cX12_mayBeRow 95 = .ok (.iload 6, 2) := by decide +kernel
theorem dX12_mayBeRow_97 : decode cX12_mayBeRow 97 = .ok (.ifCond .ne 18, 3) := by decide +kernel
theorem dX12_mayBeRow_100 : decode cX12_mayBeRow 100 = .ok (.iload 8, 2) := by decide +kernel
theorem dX12_mayBeRow_102 : decode cX12_mayBeRow 102 = .ok (.iconst 1, 1) := by decide +kernel
theorem dX12_mayBeRow_103 : decode cX12_mayBeRow 103 = .ok (.iadd, 1) := by decide +kernel
theorem dX12_mayBeRow_104 : decode cX12_mayBeRow 104 = .ok (.aload_n 0, 1) := by decide +kernel
theorem dX12_mayBeRow_105 : decode cX12_mayBeRow 105 = .ok (.getfield 83, 3) := by decide +kernel
theorem dX12_mayBeRow_108 : decode cX12_mayBeRow 108 = .ok (.iload 7, 2) := by decide +kernel
theorem dX12_mayBeRow_110 : decode cX12_mayBeRow 110 = .ok (.iaload, 1) := by decide +kernel
theorem dX12_mayBeRow_111 : decode cX12_mayBeRow 111 = .ok (.if_icmp .le 4, 3) := by decide +kernel
theorem dX12_mayBeRow_114 : decode cX12_mayBeRow 114 = .ok (.return_, 1) := by decide +kernel
theorem dX12_mayBeRow_115 : decode cX12_mayBeRow 115 = .ok (.iload 8, 2) := by decide +kernel
theorem dX12_mayBeRow_117 : decode cX12_mayBeRow 117 = .ok (.iconst 1, 1) := by decide +kernel
theorem dX12_mayBeRow_118 : decode cX12_mayBeRow 118 = .ok (.iadd, 1) := by decide +kernel
theorem dX12_mayBeRow_119 : decode cX12_mayBeRow 119 = .ok (.aload_n 0, 1) := by decide +kernel
theorem dX12_mayBeRow_120 : decode cX12_mayBeRow 120 = .ok (.getfield 83, 3) := by decide +kernel
theorem dX12_mayBeRow_123 : decode cX12_mayBeRow 123 = .ok (.iload 7, 2) := by decide +kernel
theorem dX12_mayBeRow_125 : decode cX12_mayBeRow 125 = .ok (.iaload, 1) := by decide +kernel
theorem dX12_mayBeRow_126 : decode cX12_mayBeRow 126 = .ok (.if_icmp .eq 6, 3) := by decide +kernel
theorem dX12_mayBeRow_129 : decode cX12_mayBeRow 129 = .ok (.iconst 1, 1) := by decide +kernel
theorem dX12_mayBeRow_130 : decode cX12_mayBeRow 130 = .ok (.istore 6, 2) := by decide +kernel
theorem dX12_mayBeRow_132 : decode cX12_mayBeRow 132 = .ok (.iload_n 3, 1) := by decide +kernel
theorem dX12_mayBeRow_133 : decode cX12_mayBeRow 133 = .ok (.iconst 1, 1) := by decide +kernel
theorem dX12_mayBeRow_134 : decode cX12_mayBeRow 134 = .ok (.iload 8, 2) := by decide +kernel
theorem dX12_mayBeRow_136 : decode cX12_mayBeRow 136 = .ok (.ishl, 1) := by decide +kernel
theorem dX12_mayBeRow_137 : decode cX12_mayBeRow 137 = .ok (.iconst (-1), 1) := by decide +kernel
theorem dX12_mayBeRow_138 : decode cX12_mayBeRow 138 = .ok (.ixor, 1) := by decide +kernel
theorem dX12_mayBeRow_139 : decode cX12_mayBeRow 139 = .ok (.iand, 1) := by decide +kernel
theorem dX12_mayBeRow_140 : decode cX12_mayBeRow 140 = .ok (.istore_n 3, 1) := by decide +kernel
theorem dX12_mayBeRow_141 : decode cX12_mayBeRow 141 = .ok (.aload_n 0, 1) := by decide +kernel
theorem dX12_mayBeRow_142 : decode cX12_mayBeRow 142 = .ok (.getfield 80, 3) := by decide +kernel
theorem dX12_mayBeRow_145 : decode cX12_mayBeRow 145 = .ok (.bipush 9, 2) := by decide +kernel
theorem dX12_mayBeRow_147 : decode cX12_mayBeRow 147 = .ok (.iload_n 3, 1) := by decide +kernel
theorem dX12_mayBeRow_148 : decode cX12_mayBeRow 148 = .ok (.imul, 1) := by decide +kernel
theorem dX12_mayBeRow_149 : decode cX12_mayBeRow 149 = .ok (.iload 8, 2) := by decide +kernel
theorem dX12_mayBeRow_151 : decode cX12_mayBeRow 151 = .ok (.iadd, 1) := by decide +kernel
theorem dX12_mayBeRow_152 : decode cX12_mayBeRow 152 = .ok (.iaload, 1) := by decide +kernel
theorem dX12_mayBeRow_153 : decode cX12_mayBeRow 153 = .ok (.istore 5, 2) := by decide +kernel
theorem dX12_mayBeRow_155 : decode cX12_mayBeRow 155 = .ok (.iload 8, 2) := by decide +kernel
theorem dX12_mayBeRow_157 : decode cX12_mayBeRow 157 = .ok (.istore 4, 2) := by decide +kernel
theorem dX12_mayBeRow_159 : decode cX12_mayBeRow 159 = .ok (.aload_n 0, 1) := by decide +kernel
theorem dX12_mayBeRow_160 : decode cX12_mayBeRow 160 = .ok (.getfield 83, 3) := by decide +kernel
theorem dX12_mayBeRow_163 : decode cX12_mayBeRow 163 = .ok (.iload 7, 2) := by decide +kernel
theorem dX12_mayBeRow_165 : decode cX12_mayBeRow 165 = .ok (.iload 8, 2) := by decide +kernel
theorem dX12_mayBeRow_167 : decode cX12_mayBeRow 167 = .ok (.iconst 1, 1) := by decide +kernel
theorem dX12_mayBeRow_168 : decode cX12_mayBeRow 168 = .ok (.iadd, 1) := by decide +kernel
theorem dX12_mayBeRow_169 : decode cX12_mayBeRow 169 = .ok (.iastore, 1) := by decide +kernel
theorem dX12_mayBeRow_170 : decode cX12_mayBeRow 170 = .ok (.iinc 7 1, 3) := by decide +kernel
theorem dX12_mayBeRow_173 : decode cX12_mayBeRow 173 = .ok (.goto (-156), 3) := by decide +kernel
theorem dX12_mayBeRow_176 : decode cX12_mayBeRow 176 = .ok (.return_, 1) := by decide +kernel
def b12_mayBeRow_86 (rc : Nat → List Int32 → List Int64 → Mem → Option (Unit × Mem)) (n : Nat) (i3 : Int32) (i4 : Int32) (i5 : Int32) (i6 : Int32) (i7 : Int32) (i8 : Int32) (M : Mem) : Option (Unit × Mem) :=
  lt (i8 + (1 : Int32)) fun v27 =>
  rc 29 [i3, i4, i5, i6, i7, v27] [] M
def b12_mayBeRow_132 (rc : Nat → List Int32 → List Int64 → Mem → Option (Unit × Mem)) (n : Nat) (i3 : Int32) (i6 : Int32) (i7 : Int32) (i8 : Int32) (M : Mem) : Option (Unit × Mem) :=
  lt (i3 &&& (((1 : Int32) <<< (i8 &&& 31)) ^^^ (-1 : Int32))) fun v21 =>
  chk (inb (((9 : Int32) * v21) + i8) 4608) <|
  lt (M.1 24 (((9 : Int32) * v21) + i8).toNatClampNeg) fun v23 =>
  chk (inb i7 9) <|
  lt (wI M 25 i7.toNatClampNeg (i8 + (1 : Int32))) fun M25 =>
  lt (i7 + (1 : Int32)) fun v26 =>
  rc 17 [v21, i8, v23, i6, v26] [] M25
def b12_mayBeRow_115 (rc : Nat → List Int32 → List Int64 → Mem → Option (Unit × Mem)) (n : Nat) (i3 : Int32) (i6 : Int32) (i7 : Int32) (i8 : Int32) (M : Mem) : Option (Unit × Mem) :=
  chk (inb i7 9) <|
  (if (i8 + (1 : Int32)) = (M.1 25 i7.toNatClampNeg) then (
   b12_mayBeRow_132  rc n i3 i6 i7 i8 M)
  else (
   b12_mayBeRow_132  rc n i3 (1 : Int32) i7 i8 M))
def b12_mayBeRow_61 (rc : Nat → List Int32 → List Int64 → Mem → Option (Unit × Mem)) (n : Nat) (i3 : Int32) (i4 : Int32) (i5 : Int32) (i6 : Int32) (i7 : Int32) (i8 : Int32) (s0 : Int32) (M : Mem) : Option (Unit × Mem) :=
  chk (inb (((9 : Int32) * (i3 &&& (((1 : Int32) <<< (i8 &&& 31)) ^^^ (-1 : Int32)))) + i8) 4608) <|
  (if (s0 + (M.1 24 (((9 : Int32) * (i3 &&& (((1 : Int32) <<< (i8 &&& 31)) ^^^ (-1 : Int32)))) + i8).toNatClampNeg)) = i5 then (
   (if i6 = 0 then (
    chk (inb i7 9) <|
    (if (i8 + (1 : Int32)) ≤ (M.1 25 i7.toNatClampNeg) then (
     b12_mayBeRow_115  rc n i3 i6 i7 i8 M)
    else (
     some ((), M))))
   else (
    b12_mayBeRow_115  rc n i3 i6 i7 i8 M)))
  else (
   b12_mayBeRow_86  rc n i3 i4 i5 i6 i7 i8 M))
def b12_mayBeRow_29 (rc : Nat → List Int32 → List Int64 → Mem → Option (Unit × Mem)) (n : Nat) (i3 : Int32) (i4 : Int32) (i5 : Int32) (i6 : Int32) (i7 : Int32) (i8 : Int32) (M : Mem) : Option (Unit × Mem) :=
  bnd (f12_has n i3 i8 M) fun r3 M4 =>
  (if r3 = 0 then (
   b12_mayBeRow_86  rc n i3 i4 i5 i6 i7 i8 M4)
  else (
   (if i4 = (-1 : Int32) then (
    bnd (f12_squareWay n i8 M4) fun r11 M12 =>
    b12_mayBeRow_61  rc n i3 i4 i5 i6 i7 i8 r11 M12)
   else (
    bnd (f12_doorWay n i4 i8 M4) fun r8 M9 =>
    b12_mayBeRow_61  rc n i3 i4 i5 i6 i7 i8 r8 M9))))
def b12_mayBeRow_17 (rc : Nat → List Int32 → List Int64 → Mem → Option (Unit × Mem)) (n : Nat) (i3 : Int32) (i4 : Int32) (i5 : Int32) (i6 : Int32) (i7 : Int32) (M : Mem) : Option (Unit × Mem) :=
  (if (M.1 0 45) ≤ i7 then (
   some ((), M))
  else (
   b12_mayBeRow_29  rc n i3 i4 i5 i6 i7 (0 : Int32) M))
def b12_mayBeRow_0 (rc : Nat → List Int32 → List Int64 → Mem → Option (Unit × Mem)) (n : Nat) (a1 : Int32) (a2 : Int32) (M : Mem) : Option (Unit × Mem) :=
  lt (M.1 0 46) fun v1 =>
  b12_mayBeRow_17  rc n a1 (-1 : Int32) v1 a2 (0 : Int32) M
def r12_mayBeRow : Nat → Nat → List Int32 → List Int64 → Mem → Option (Unit × Mem)
  | 0 => fun _ _ _ _ => none
  | n + 1 => fun pc li lj M =>
    if pc = 17 then (match li, lj with | [i3, i4, i5, i6, i7], [] => b12_mayBeRow_17  (r12_mayBeRow  n) n i3 i4 i5 i6 i7 M | _, _ => none) else
    if pc = 29 then (match li, lj with | [i3, i4, i5, i6, i7, i8], [] => b12_mayBeRow_29  (r12_mayBeRow  n) n i3 i4 i5 i6 i7 i8 M | _, _ => none) else
    none
theorem e12_mayBeRow_17  (n : Nat) (i3 : Int32) (i4 : Int32) (i5 : Int32) (i6 : Int32) (i7 : Int32) (M : Mem) : r12_mayBeRow  (n + 1) 17 [i3, i4, i5, i6, i7] [] M = b12_mayBeRow_17  (r12_mayBeRow  n) n i3 i4 i5 i6 i7 M := by
  rw [r12_mayBeRow]
  simp
theorem e12_mayBeRow_29  (n : Nat) (i3 : Int32) (i4 : Int32) (i5 : Int32) (i6 : Int32) (i7 : Int32) (i8 : Int32) (M : Mem) : r12_mayBeRow  (n + 1) 29 [i3, i4, i5, i6, i7, i8] [] M = b12_mayBeRow_29  (r12_mayBeRow  n) n i3 i4 i5 i6 i7 i8 M := by
  rw [r12_mayBeRow]
  simp
def f12_mayBeRow (n : Nat) (a1 : Int32) (a2 : Int32) (M : Mem) : Option (Unit × Mem) := b12_mayBeRow_0 (r12_mayBeRow n) n a1 a2 M
abbrev rm12_mayBeRow : Room := { frames := 6, cells := 0, slots := 0, locals := 137 }
theorem y12_mayBeRow_w : yV RX12 yX12_mayBeRow cX12_mayBeRow 9 none 2 := ⟨g_1599, gp 84 rfl rfl, g_14, g_1600, rfl, by decide, by decide, by decide +kernel⟩
set_option maxHeartbeats 4000000 in
set_option maxRecDepth 100000 in
theorem w12_mayBeRow_86 {p : Program} {l : Launch} {e : Env} {s : State} {m : MethodId} {args : Array Value} {below : List Frame} {meth : Method} {c : Code} {z : Zt} {b : Nat}  (C : Cx p s m args c cX12_mayBeRow 9 RX12 z 32 b) (hr : meth.sig.returnType = none) (hk : meth.locks = false) {r : Unit} {M' : Mem} {rc : Nat → List Int32 → List Int64 → Mem → Option (Unit × Mem)} {n : Nat} (q17 : ∀ (i3 : Int32) (i4 : Int32) (i5 : Int32) (i6 : Int32) (i7 : Int32) (M : Mem) (H : Heap) (locs : List Loc) (ls : Array Slot), rc 17 [i3, i4, i5, i6, i7] [] M = some (r, M') → va_P z.1 vwCl (pw (yd z b) 32 b M) H → va_S (pA 32 b) s.heap H locs → lv_has ls 9 [(0, .ref (b + 0)), (3, .int i3), (4, .int i4), (5, .int i5), (6, .int i6), (7, .int i7)] → W p l e rm12_mayBeRow s m args below meth c H locs 0 0 (MQ below (va_Qv (fun (M2 : Mem) => M2 = M') (fun M2 t => va_P z.1 vwCl (pw (yd z b) 32 b M2) t.heap) (pA 32 b)) args s 0 0 (pA 32 b)) (F0 m 17 ls [])) (q29 : ∀ (i3 : Int32) (i4 : Int32) (i5 : Int32) (i6 : Int32) (i7 : Int32) (i8 : Int32) (M : Mem) (H : Heap) (locs : List Loc) (ls : Array Slot), rc 29 [i3, i4, i5, i6, i7, i8] [] M = some (r, M') → va_P z.1 vwCl (pw (yd z b) 32 b M) H → va_S (pA 32 b) s.heap H locs → lv_has ls 9 [(0, .ref (b + 0)), (3, .int i3), (4, .int i4), (5, .int i5), (6, .int i6), (7, .int i7), (8, .int i8)] → W p l e rm12_mayBeRow s m args below meth c H locs 0 0 (MQ below (va_Qv (fun (M2 : Mem) => M2 = M') (fun M2 t => va_P z.1 vwCl (pw (yd z b) 32 b M2) t.heap) (pA 32 b)) args s 0 0 (pA 32 b)) (F0 m 29 ls [])) {i3 : Int32} {i4 : Int32} {i5 : Int32} {i6 : Int32} {i7 : Int32} {i8 : Int32} {M : Mem} {H : Heap} {locs : List Loc} {ls : Array Slot} (hf : b12_mayBeRow_86  rc n i3 i4 i5 i6 i7 i8 M = some (r, M')) (hP : va_P z.1 vwCl (pw (yd z b) 32 b M) H) (hS : va_S (pA 32 b) s.heap H locs) (hl : lv_has ls 9 [(0, .ref (b + 0)), (3, .int i3), (4, .int i4), (5, .int i5), (6, .int i6), (7, .int i7), (8, .int i8)]) : W p l e rm12_mayBeRow s m args below meth c H locs 0 0 (MQ below (va_Qv (fun (M2 : Mem) => M2 = M') (fun M2 t => va_P z.1 vwCl (pw (yd z b) 32 b M2) t.heap) (pA 32 b)) args s 0 0 (pA 32 b)) (F0 m 86 ls []) := by
  have hx := C.1.1
  have hb := C.1.2.1
  unfold b12_mayBeRow_86 at hf
  refine lv_iload hx hb dX12_mayBeRow_86 (lv_at hl 6 rfl) ?_
  refine lv_iconst (v := (1 : Int32)) hx hb dX12_mayBeRow_88 (by decide) ?_
  refine lv_iadd hx hb dX12_mayBeRow_89 ?_
  refine lv_topi (fun v27 ev27 => ?_)
  replace hf := lt_c ev27 hf
  refine lv_istore (lv' := [(8, .int v27), (0, .ref (b + 0)), (3, .int i3), (4, .int i4), (5, .int i5), (6, .int i6), (7, .int i7)]) hx hb dX12_mayBeRow_90 hl (by decide) rfl (fun ls hl => ?_)
  refine lv_goto (tgt := 29) hx hb dX12_mayBeRow_92 (by decide) ?_
  exact q29 i3 i4 i5 i6 i7 v27 M _ _ _ hf hP hS (lv_sub hl [1, 2, 3, 4, 5, 6, 0] rfl)
set_option maxHeartbeats 4000000 in
set_option maxRecDepth 100000 in
theorem w12_mayBeRow_132 {p : Program} {l : Launch} {e : Env} {s : State} {m : MethodId} {args : Array Value} {below : List Frame} {meth : Method} {c : Code} {z : Zt} {b : Nat}  (C : Cx p s m args c cX12_mayBeRow 9 RX12 z 32 b) (hr : meth.sig.returnType = none) (hk : meth.locks = false) {r : Unit} {M' : Mem} {rc : Nat → List Int32 → List Int64 → Mem → Option (Unit × Mem)} {n : Nat} (q17 : ∀ (i3 : Int32) (i4 : Int32) (i5 : Int32) (i6 : Int32) (i7 : Int32) (M : Mem) (H : Heap) (locs : List Loc) (ls : Array Slot), rc 17 [i3, i4, i5, i6, i7] [] M = some (r, M') → va_P z.1 vwCl (pw (yd z b) 32 b M) H → va_S (pA 32 b) s.heap H locs → lv_has ls 9 [(0, .ref (b + 0)), (3, .int i3), (4, .int i4), (5, .int i5), (6, .int i6), (7, .int i7)] → W p l e rm12_mayBeRow s m args below meth c H locs 0 0 (MQ below (va_Qv (fun (M2 : Mem) => M2 = M') (fun M2 t => va_P z.1 vwCl (pw (yd z b) 32 b M2) t.heap) (pA 32 b)) args s 0 0 (pA 32 b)) (F0 m 17 ls [])) (q29 : ∀ (i3 : Int32) (i4 : Int32) (i5 : Int32) (i6 : Int32) (i7 : Int32) (i8 : Int32) (M : Mem) (H : Heap) (locs : List Loc) (ls : Array Slot), rc 29 [i3, i4, i5, i6, i7, i8] [] M = some (r, M') → va_P z.1 vwCl (pw (yd z b) 32 b M) H → va_S (pA 32 b) s.heap H locs → lv_has ls 9 [(0, .ref (b + 0)), (3, .int i3), (4, .int i4), (5, .int i5), (6, .int i6), (7, .int i7), (8, .int i8)] → W p l e rm12_mayBeRow s m args below meth c H locs 0 0 (MQ below (va_Qv (fun (M2 : Mem) => M2 = M') (fun M2 t => va_P z.1 vwCl (pw (yd z b) 32 b M2) t.heap) (pA 32 b)) args s 0 0 (pA 32 b)) (F0 m 29 ls [])) {i3 : Int32} {i6 : Int32} {i7 : Int32} {i8 : Int32} {M : Mem} {H : Heap} {locs : List Loc} {ls : Array Slot} (hf : b12_mayBeRow_132  rc n i3 i6 i7 i8 M = some (r, M')) (hP : va_P z.1 vwCl (pw (yd z b) 32 b M) H) (hS : va_S (pA 32 b) s.heap H locs) (hl : lv_has ls 9 [(0, .ref (b + 0)), (3, .int i3), (6, .int i6), (7, .int i7), (8, .int i8)]) : W p l e rm12_mayBeRow s m args below meth c H locs 0 0 (MQ below (va_Qv (fun (M2 : Mem) => M2 = M') (fun M2 t => va_P z.1 vwCl (pw (yd z b) 32 b M2) t.heap) (pA 32 b)) args s 0 0 (pA 32 b)) (F0 m 132 ls []) := by
  have hx := C.1.1
  have hb := C.1.2.1
  unfold b12_mayBeRow_132 at hf
  refine lv_iload_n hx hb dX12_mayBeRow_132 rfl (lv_at hl 1 rfl) ?_
  refine lv_iconst (v := (1 : Int32)) hx hb dX12_mayBeRow_133 (by decide) ?_
  refine lv_iload hx hb dX12_mayBeRow_134 (lv_at hl 4 rfl) ?_
  refine lv_ishl hx hb dX12_mayBeRow_136 ?_
  refine lv_iconst (v := (-1 : Int32)) hx hb dX12_mayBeRow_137 (by decide) ?_
  refine lv_ixor hx hb dX12_mayBeRow_138 ?_
  refine lv_iand hx hb dX12_mayBeRow_139 ?_
  refine lv_topi (fun v21 ev21 => ?_)
  replace hf := lt_c ev21 hf
  refine lv_istore_n (lv' := [(3, .int v21), (0, .ref (b + 0)), (6, .int i6), (7, .int i7), (8, .int i8)]) hx hb dX12_mayBeRow_140 rfl hl (by decide) rfl (fun ls hl => ?_)
  refine lv_aload_n hx hb dX12_mayBeRow_141 rfl (lv_at hl 1 rfl) ?_
  refine pg C hP (k := 0) (j := 43) (Nat.le_of_ble_eq_true rfl) (yd_0 _ _) rfl iw_12 (Nat.le_of_ble_eq_true rfl) g_1178 rfl rfl dX12_mayBeRow_142 ?_
  refine lv_bipush (v := (9 : Int32)) hx hb dX12_mayBeRow_145 (by decide) ?_
  refine lv_iload_n hx hb dX12_mayBeRow_147 rfl (lv_at hl 0 rfl) ?_
  refine lv_imul hx hb dX12_mayBeRow_148 ?_
  refine lv_iload hx hb dX12_mayBeRow_149 (lv_at hl 4 rfl) ?_
  refine lv_iadd hx hb dX12_mayBeRow_151 ?_
  have h22 := chk_1 hf
  replace hf := chk_2 hf
  refine paI C hP (k := 24) (Nat.le_of_ble_eq_true rfl) (yd_24 _ _) h22 dX12_mayBeRow_152 ?_
  refine lv_topi (fun v23 ev23 => ?_)
  replace hf := lt_c ev23 hf
  refine lv_istore (lv' := [(5, .int v23), (3, .int v21), (0, .ref (b + 0)), (6, .int i6), (7, .int i7), (8, .int i8)]) hx hb dX12_mayBeRow_153 hl (by decide) rfl (fun ls hl => ?_)
  refine lv_iload hx hb dX12_mayBeRow_155 (lv_at hl 5 rfl) ?_
  refine lv_istore (lv' := [(4, .int i8), (5, .int v23), (3, .int v21), (0, .ref (b + 0)), (6, .int i6), (7, .int i7), (8, .int i8)]) hx hb dX12_mayBeRow_157 hl (by decide) rfl (fun ls hl => ?_)
  refine lv_aload_n hx hb dX12_mayBeRow_159 rfl (lv_at hl 3 rfl) ?_
  refine pg C hP (k := 0) (j := 44) (Nat.le_of_ble_eq_true rfl) (yd_0 _ _) rfl iw_12 (Nat.le_of_ble_eq_true rfl) g_1179 rfl rfl dX12_mayBeRow_160 ?_
  refine lv_iload hx hb dX12_mayBeRow_163 (lv_at hl 5 rfl) ?_
  refine lv_iload hx hb dX12_mayBeRow_165 (lv_at hl 6 rfl) ?_
  refine lv_iconst (v := (1 : Int32)) hx hb dX12_mayBeRow_167 (by decide) ?_
  refine lv_iadd hx hb dX12_mayBeRow_168 ?_
  have h24 := chk_1 hf
  replace hf := chk_2 hf
  refine psI C hP hS (k := 25) (Nat.le_of_ble_eq_true rfl) (yd_25) h24 dX12_mayBeRow_169 (fun M25 H locs eM25 hP hS => ?_)
  replace hf := lt_c eM25 hf
  obtain ⟨v26, ev26⟩ : ∃ v : Int32, v = i7 + (1 : Int32) := ⟨_, rfl⟩
  replace hf := lt_c ev26 hf
  refine lv_iinc (v := v26) (lv' := [(7, .int v26), (4, .int i8), (5, .int v23), (3, .int v21), (0, .ref (b + 0)), (6, .int i6), (8, .int i8)]) hx hb dX12_mayBeRow_170 hl (k := 5) rfl (by rw [ev26]; rfl) (by decide) rfl (fun ls hl => ?_)
  refine lv_goto (tgt := 17) hx hb dX12_mayBeRow_173 (by decide) ?_
  exact q17 v21 i8 v23 i6 v26 M25 _ _ _ hf hP hS (lv_sub hl [4, 3, 1, 2, 5, 0] rfl)
set_option maxHeartbeats 4000000 in
set_option maxRecDepth 100000 in
theorem w12_mayBeRow_115 {p : Program} {l : Launch} {e : Env} {s : State} {m : MethodId} {args : Array Value} {below : List Frame} {meth : Method} {c : Code} {z : Zt} {b : Nat}  (C : Cx p s m args c cX12_mayBeRow 9 RX12 z 32 b) (hr : meth.sig.returnType = none) (hk : meth.locks = false) {r : Unit} {M' : Mem} {rc : Nat → List Int32 → List Int64 → Mem → Option (Unit × Mem)} {n : Nat} (q17 : ∀ (i3 : Int32) (i4 : Int32) (i5 : Int32) (i6 : Int32) (i7 : Int32) (M : Mem) (H : Heap) (locs : List Loc) (ls : Array Slot), rc 17 [i3, i4, i5, i6, i7] [] M = some (r, M') → va_P z.1 vwCl (pw (yd z b) 32 b M) H → va_S (pA 32 b) s.heap H locs → lv_has ls 9 [(0, .ref (b + 0)), (3, .int i3), (4, .int i4), (5, .int i5), (6, .int i6), (7, .int i7)] → W p l e rm12_mayBeRow s m args below meth c H locs 0 0 (MQ below (va_Qv (fun (M2 : Mem) => M2 = M') (fun M2 t => va_P z.1 vwCl (pw (yd z b) 32 b M2) t.heap) (pA 32 b)) args s 0 0 (pA 32 b)) (F0 m 17 ls [])) (q29 : ∀ (i3 : Int32) (i4 : Int32) (i5 : Int32) (i6 : Int32) (i7 : Int32) (i8 : Int32) (M : Mem) (H : Heap) (locs : List Loc) (ls : Array Slot), rc 29 [i3, i4, i5, i6, i7, i8] [] M = some (r, M') → va_P z.1 vwCl (pw (yd z b) 32 b M) H → va_S (pA 32 b) s.heap H locs → lv_has ls 9 [(0, .ref (b + 0)), (3, .int i3), (4, .int i4), (5, .int i5), (6, .int i6), (7, .int i7), (8, .int i8)] → W p l e rm12_mayBeRow s m args below meth c H locs 0 0 (MQ below (va_Qv (fun (M2 : Mem) => M2 = M') (fun M2 t => va_P z.1 vwCl (pw (yd z b) 32 b M2) t.heap) (pA 32 b)) args s 0 0 (pA 32 b)) (F0 m 29 ls [])) {i3 : Int32} {i6 : Int32} {i7 : Int32} {i8 : Int32} {M : Mem} {H : Heap} {locs : List Loc} {ls : Array Slot} (hf : b12_mayBeRow_115  rc n i3 i6 i7 i8 M = some (r, M')) (hP : va_P z.1 vwCl (pw (yd z b) 32 b M) H) (hS : va_S (pA 32 b) s.heap H locs) (hl : lv_has ls 9 [(0, .ref (b + 0)), (3, .int i3), (6, .int i6), (7, .int i7), (8, .int i8)]) : W p l e rm12_mayBeRow s m args below meth c H locs 0 0 (MQ below (va_Qv (fun (M2 : Mem) => M2 = M') (fun M2 t => va_P z.1 vwCl (pw (yd z b) 32 b M2) t.heap) (pA 32 b)) args s 0 0 (pA 32 b)) (F0 m 115 ls []) := by
  have hx := C.1.1
  have hb := C.1.2.1
  unfold b12_mayBeRow_115 at hf
  refine lv_iload hx hb dX12_mayBeRow_115 (lv_at hl 4 rfl) ?_
  refine lv_iconst (v := (1 : Int32)) hx hb dX12_mayBeRow_117 (by decide) ?_
  refine lv_iadd hx hb dX12_mayBeRow_118 ?_
  refine lv_aload_n hx hb dX12_mayBeRow_119 rfl (lv_at hl 0 rfl) ?_
  refine pg C hP (k := 0) (j := 44) (Nat.le_of_ble_eq_true rfl) (yd_0 _ _) rfl iw_12 (Nat.le_of_ble_eq_true rfl) g_1179 rfl rfl dX12_mayBeRow_120 ?_
  refine lv_iload hx hb dX12_mayBeRow_123 (lv_at hl 3 rfl) ?_
  have h19 := chk_1 hf
  replace hf := chk_2 hf
  refine paI C hP (k := 25) (Nat.le_of_ble_eq_true rfl) (yd_25 _ _) h19 dX12_mayBeRow_125 ?_
  refine lv_icmp_eq (tgt := 132) hx hb dX12_mayBeRow_126 (by decide) (fun c20 => ?_) (fun c20 => ?_)
  · replace hf := ite_t c20 hf
    exact w12_mayBeRow_132 (n := n)  C hr hk q17 q29 hf hP hS (lv_sub hl [0, 1, 2, 3, 4] rfl)
  · replace hf := ite_f c20 hf
    refine lv_iconst (v := (1 : Int32)) hx hb dX12_mayBeRow_129 (by decide) ?_
    refine lv_istore (lv' := [(6, .int (1 : Int32)), (0, .ref (b + 0)), (3, .int i3), (7, .int i7), (8, .int i8)]) hx hb dX12_mayBeRow_130 hl (by decide) rfl (fun ls hl => ?_)
    exact w12_mayBeRow_132 (n := n)  C hr hk q17 q29 hf hP hS (lv_sub hl [1, 2, 0, 3, 4] rfl)
set_option maxHeartbeats 4000000 in
set_option maxRecDepth 100000 in
theorem w12_mayBeRow_61 {p : Program} {l : Launch} {e : Env} {s : State} {m : MethodId} {args : Array Value} {below : List Frame} {meth : Method} {c : Code} {z : Zt} {b : Nat}  (C : Cx p s m args c cX12_mayBeRow 9 RX12 z 32 b) (hr : meth.sig.returnType = none) (hk : meth.locks = false) {r : Unit} {M' : Mem} {rc : Nat → List Int32 → List Int64 → Mem → Option (Unit × Mem)} {n : Nat} (q17 : ∀ (i3 : Int32) (i4 : Int32) (i5 : Int32) (i6 : Int32) (i7 : Int32) (M : Mem) (H : Heap) (locs : List Loc) (ls : Array Slot), rc 17 [i3, i4, i5, i6, i7] [] M = some (r, M') → va_P z.1 vwCl (pw (yd z b) 32 b M) H → va_S (pA 32 b) s.heap H locs → lv_has ls 9 [(0, .ref (b + 0)), (3, .int i3), (4, .int i4), (5, .int i5), (6, .int i6), (7, .int i7)] → W p l e rm12_mayBeRow s m args below meth c H locs 0 0 (MQ below (va_Qv (fun (M2 : Mem) => M2 = M') (fun M2 t => va_P z.1 vwCl (pw (yd z b) 32 b M2) t.heap) (pA 32 b)) args s 0 0 (pA 32 b)) (F0 m 17 ls [])) (q29 : ∀ (i3 : Int32) (i4 : Int32) (i5 : Int32) (i6 : Int32) (i7 : Int32) (i8 : Int32) (M : Mem) (H : Heap) (locs : List Loc) (ls : Array Slot), rc 29 [i3, i4, i5, i6, i7, i8] [] M = some (r, M') → va_P z.1 vwCl (pw (yd z b) 32 b M) H → va_S (pA 32 b) s.heap H locs → lv_has ls 9 [(0, .ref (b + 0)), (3, .int i3), (4, .int i4), (5, .int i5), (6, .int i6), (7, .int i7), (8, .int i8)] → W p l e rm12_mayBeRow s m args below meth c H locs 0 0 (MQ below (va_Qv (fun (M2 : Mem) => M2 = M') (fun M2 t => va_P z.1 vwCl (pw (yd z b) 32 b M2) t.heap) (pA 32 b)) args s 0 0 (pA 32 b)) (F0 m 29 ls [])) {i3 : Int32} {i4 : Int32} {i5 : Int32} {i6 : Int32} {i7 : Int32} {i8 : Int32} {s0 : Int32} {M : Mem} {H : Heap} {locs : List Loc} {ls : Array Slot} (hf : b12_mayBeRow_61  rc n i3 i4 i5 i6 i7 i8 s0 M = some (r, M')) (hP : va_P z.1 vwCl (pw (yd z b) 32 b M) H) (hS : va_S (pA 32 b) s.heap H locs) (hl : lv_has ls 9 [(0, .ref (b + 0)), (3, .int i3), (4, .int i4), (5, .int i5), (6, .int i6), (7, .int i7), (8, .int i8)]) : W p l e rm12_mayBeRow s m args below meth c H locs 0 0 (MQ below (va_Qv (fun (M2 : Mem) => M2 = M') (fun M2 t => va_P z.1 vwCl (pw (yd z b) 32 b M2) t.heap) (pA 32 b)) args s 0 0 (pA 32 b)) (F0 m 61 ls [.int s0]) := by
  have hx := C.1.1
  have hb := C.1.2.1
  unfold b12_mayBeRow_61 at hf
  refine lv_aload_n hx hb dX12_mayBeRow_61 rfl (lv_at hl 0 rfl) ?_
  refine pg C hP (k := 0) (j := 43) (Nat.le_of_ble_eq_true rfl) (yd_0 _ _) rfl iw_12 (Nat.le_of_ble_eq_true rfl) g_1178 rfl rfl dX12_mayBeRow_62 ?_
  refine lv_bipush (v := (9 : Int32)) hx hb dX12_mayBeRow_65 (by decide) ?_
  refine lv_iload_n hx hb dX12_mayBeRow_67 rfl (lv_at hl 1 rfl) ?_
  refine lv_iconst (v := (1 : Int32)) hx hb dX12_mayBeRow_68 (by decide) ?_
  refine lv_iload hx hb dX12_mayBeRow_69 (lv_at hl 6 rfl) ?_
  refine lv_ishl hx hb dX12_mayBeRow_71 ?_
  refine lv_iconst (v := (-1 : Int32)) hx hb dX12_mayBeRow_72 (by decide) ?_
  refine lv_ixor hx hb dX12_mayBeRow_73 ?_
  refine lv_iand hx hb dX12_mayBeRow_74 ?_
  refine lv_imul hx hb dX12_mayBeRow_75 ?_
  refine lv_iload hx hb dX12_mayBeRow_76 (lv_at hl 6 rfl) ?_
  refine lv_iadd hx hb dX12_mayBeRow_78 ?_
  have h14 := chk_1 hf
  replace hf := chk_2 hf
  refine paI C hP (k := 24) (Nat.le_of_ble_eq_true rfl) (yd_24 _ _) h14 dX12_mayBeRow_79 ?_
  refine lv_iadd hx hb dX12_mayBeRow_80 ?_
  refine lv_iload hx hb dX12_mayBeRow_81 (lv_at hl 3 rfl) ?_
  refine lv_icmp_eq (tgt := 95) hx hb dX12_mayBeRow_83 (by decide) (fun c15 => ?_) (fun c15 => ?_)
  · replace hf := ite_t c15 hf
    refine lv_iload hx hb dX12_mayBeRow_95 (lv_at hl 4 rfl) ?_
    refine lv_if_ne (tgt := 115) hx hb dX12_mayBeRow_97 (by decide) (fun c16 => ?_) (fun c16 => ?_)
    · replace hf := ite_f c16 hf
      exact w12_mayBeRow_115 (n := n)  C hr hk q17 q29 hf hP hS (lv_sub hl [0, 1, 4, 5, 6] rfl)
    · replace hf := ite_t c16 hf
      refine lv_iload hx hb dX12_mayBeRow_100 (lv_at hl 6 rfl) ?_
      refine lv_iconst (v := (1 : Int32)) hx hb dX12_mayBeRow_102 (by decide) ?_
      refine lv_iadd hx hb dX12_mayBeRow_103 ?_
      refine lv_aload_n hx hb dX12_mayBeRow_104 rfl (lv_at hl 0 rfl) ?_
      refine pg C hP (k := 0) (j := 44) (Nat.le_of_ble_eq_true rfl) (yd_0 _ _) rfl iw_12 (Nat.le_of_ble_eq_true rfl) g_1179 rfl rfl dX12_mayBeRow_105 ?_
      refine lv_iload hx hb dX12_mayBeRow_108 (lv_at hl 5 rfl) ?_
      have h17 := chk_1 hf
      replace hf := chk_2 hf
      refine paI C hP (k := 25) (Nat.le_of_ble_eq_true rfl) (yd_25 _ _) h17 dX12_mayBeRow_110 ?_
      refine lv_icmp_le (tgt := 115) hx hb dX12_mayBeRow_111 (by decide) (fun c18 => ?_) (fun c18 => ?_)
      · replace hf := ite_t c18 hf
        exact w12_mayBeRow_115 (n := n)  C hr hk q17 q29 hf hP hS (lv_sub hl [0, 1, 4, 5, 6] rfl)
      · replace hf := ite_f c18 hf
        exact prV C hr hk hP hS hf dX12_mayBeRow_114
  · replace hf := ite_f c15 hf
    exact w12_mayBeRow_86 (n := n)  C hr hk q17 q29 hf hP hS (lv_sub hl [0, 1, 2, 3, 4, 5, 6] rfl)
set_option maxHeartbeats 4000000 in
set_option maxRecDepth 100000 in
theorem w12_mayBeRow_29 {p : Program} {l : Launch} {e : Env} {s : State} {m : MethodId} {args : Array Value} {below : List Frame} {meth : Method} {c : Code} {z : Zt} {b : Nat}  (C : Cx p s m args c cX12_mayBeRow 9 RX12 z 32 b) (hr : meth.sig.returnType = none) (hk : meth.locks = false) {r : Unit} {M' : Mem} {rc : Nat → List Int32 → List Int64 → Mem → Option (Unit × Mem)} {n : Nat} (q17 : ∀ (i3 : Int32) (i4 : Int32) (i5 : Int32) (i6 : Int32) (i7 : Int32) (M : Mem) (H : Heap) (locs : List Loc) (ls : Array Slot), rc 17 [i3, i4, i5, i6, i7] [] M = some (r, M') → va_P z.1 vwCl (pw (yd z b) 32 b M) H → va_S (pA 32 b) s.heap H locs → lv_has ls 9 [(0, .ref (b + 0)), (3, .int i3), (4, .int i4), (5, .int i5), (6, .int i6), (7, .int i7)] → W p l e rm12_mayBeRow s m args below meth c H locs 0 0 (MQ below (va_Qv (fun (M2 : Mem) => M2 = M') (fun M2 t => va_P z.1 vwCl (pw (yd z b) 32 b M2) t.heap) (pA 32 b)) args s 0 0 (pA 32 b)) (F0 m 17 ls [])) (q29 : ∀ (i3 : Int32) (i4 : Int32) (i5 : Int32) (i6 : Int32) (i7 : Int32) (i8 : Int32) (M : Mem) (H : Heap) (locs : List Loc) (ls : Array Slot), rc 29 [i3, i4, i5, i6, i7, i8] [] M = some (r, M') → va_P z.1 vwCl (pw (yd z b) 32 b M) H → va_S (pA 32 b) s.heap H locs → lv_has ls 9 [(0, .ref (b + 0)), (3, .int i3), (4, .int i4), (5, .int i5), (6, .int i6), (7, .int i7), (8, .int i8)] → W p l e rm12_mayBeRow s m args below meth c H locs 0 0 (MQ below (va_Qv (fun (M2 : Mem) => M2 = M') (fun M2 t => va_P z.1 vwCl (pw (yd z b) 32 b M2) t.heap) (pA 32 b)) args s 0 0 (pA 32 b)) (F0 m 29 ls [])) {i3 : Int32} {i4 : Int32} {i5 : Int32} {i6 : Int32} {i7 : Int32} {i8 : Int32} {M : Mem} {H : Heap} {locs : List Loc} {ls : Array Slot} (hf : b12_mayBeRow_29  rc n i3 i4 i5 i6 i7 i8 M = some (r, M')) (hP : va_P z.1 vwCl (pw (yd z b) 32 b M) H) (hS : va_S (pA 32 b) s.heap H locs) (hl : lv_has ls 9 [(0, .ref (b + 0)), (3, .int i3), (4, .int i4), (5, .int i5), (6, .int i6), (7, .int i7), (8, .int i8)]) : W p l e rm12_mayBeRow s m args below meth c H locs 0 0 (MQ below (va_Qv (fun (M2 : Mem) => M2 = M') (fun M2 t => va_P z.1 vwCl (pw (yd z b) 32 b M2) t.heap) (pA 32 b)) args s 0 0 (pA 32 b)) (F0 m 29 ls []) := by
  have hx := C.1.1
  have hb := C.1.2.1
  unfold b12_mayBeRow_29 at hf
  refine lv_iload_n hx hb dX12_mayBeRow_29 rfl (lv_at hl 1 rfl) ?_
  refine lv_iload hx hb dX12_mayBeRow_30 (lv_at hl 6 rfl) ?_
  obtain ⟨r3, M4, h5, hf⟩ := bnd_s hf
  refine pcSi (As := [.int i3, .int i8]) C hP hS (c12_has  h5) y12_has_w g_1538 rfl rfl rfl ⟨Nat.le_of_ble_eq_true rfl, Nat.le_of_ble_eq_true rfl⟩ hl.1 rfl (Nat.le_of_ble_eq_true rfl) dX12_mayBeRow_32 ⟨Nat.le_of_ble_eq_true rfl, Nat.le_of_ble_eq_true rfl⟩ (fun H locs hP hS => ?_)
  refine lv_if_eq (tgt := 86) hx hb dX12_mayBeRow_35 (by decide) (fun c6 => ?_) (fun c6 => ?_)
  · replace hf := ite_t c6 hf
    exact w12_mayBeRow_86 (n := n)  C hr hk q17 q29 hf hP hS (lv_sub hl [0, 1, 2, 3, 4, 5, 6] rfl)
  · replace hf := ite_f c6 hf
    refine lv_iload hx hb dX12_mayBeRow_38 (lv_at hl 2 rfl) ?_
    refine lv_iconst (v := (-1 : Int32)) hx hb dX12_mayBeRow_40 (by decide) ?_
    refine lv_icmp_ne (tgt := 53) hx hb dX12_mayBeRow_41 (by decide) (fun c7 => ?_) (fun c7 => ?_)
    · replace hf := ite_f c7 hf
      refine lv_aload_n hx hb dX12_mayBeRow_53 rfl (lv_at hl 0 rfl) ?_
      refine lv_iload hx hb dX12_mayBeRow_54 (lv_at hl 2 rfl) ?_
      refine lv_iload hx hb dX12_mayBeRow_56 (lv_at hl 6 rfl) ?_
      obtain ⟨r8, M9, h10, hf⟩ := bnd_s hf
      refine pcVi (As := [.int i4, .int i8]) C hP hS (k := 0) (Nat.le_of_ble_eq_true rfl) (yd_0 _ _) rfl (c12_doorWay  h10) y12_doorWay_w g_1589 rfl rfl rfl ⟨Nat.le_of_ble_eq_true rfl, Nat.le_of_ble_eq_true rfl⟩ hl.1 rfl (Nat.le_of_ble_eq_true rfl) dX12_mayBeRow_58 ⟨Nat.le_of_ble_eq_true rfl, Nat.le_of_ble_eq_true rfl⟩ (fun H locs hP hS => ?_)
      exact w12_mayBeRow_61 (n := n)  C hr hk q17 q29 hf hP hS (lv_sub hl [0, 1, 2, 3, 4, 5, 6] rfl)
    · replace hf := ite_t c7 hf
      refine lv_aload_n hx hb dX12_mayBeRow_44 rfl (lv_at hl 0 rfl) ?_
      refine lv_iload hx hb dX12_mayBeRow_45 (lv_at hl 6 rfl) ?_
      obtain ⟨r11, M12, h13, hf⟩ := bnd_s hf
      refine pcVi (As := [.int i8]) C hP hS (k := 0) (Nat.le_of_ble_eq_true rfl) (yd_0 _ _) rfl (c12_squareWay  h13) y12_squareWay_w g_1584 rfl rfl rfl ⟨Nat.le_of_ble_eq_true rfl, Nat.le_of_ble_eq_true rfl⟩ hl.1 rfl (Nat.le_of_ble_eq_true rfl) dX12_mayBeRow_47 ⟨Nat.le_of_ble_eq_true rfl, Nat.le_of_ble_eq_true rfl⟩ (fun H locs hP hS => ?_)
      refine lv_goto (tgt := 61) hx hb dX12_mayBeRow_50 (by decide) ?_
      exact w12_mayBeRow_61 (n := n)  C hr hk q17 q29 hf hP hS (lv_sub hl [0, 1, 2, 3, 4, 5, 6] rfl)
set_option maxHeartbeats 4000000 in
set_option maxRecDepth 100000 in
theorem w12_mayBeRow_17 {p : Program} {l : Launch} {e : Env} {s : State} {m : MethodId} {args : Array Value} {below : List Frame} {meth : Method} {c : Code} {z : Zt} {b : Nat}  (C : Cx p s m args c cX12_mayBeRow 9 RX12 z 32 b) (hr : meth.sig.returnType = none) (hk : meth.locks = false) {r : Unit} {M' : Mem} {rc : Nat → List Int32 → List Int64 → Mem → Option (Unit × Mem)} {n : Nat} (q17 : ∀ (i3 : Int32) (i4 : Int32) (i5 : Int32) (i6 : Int32) (i7 : Int32) (M : Mem) (H : Heap) (locs : List Loc) (ls : Array Slot), rc 17 [i3, i4, i5, i6, i7] [] M = some (r, M') → va_P z.1 vwCl (pw (yd z b) 32 b M) H → va_S (pA 32 b) s.heap H locs → lv_has ls 9 [(0, .ref (b + 0)), (3, .int i3), (4, .int i4), (5, .int i5), (6, .int i6), (7, .int i7)] → W p l e rm12_mayBeRow s m args below meth c H locs 0 0 (MQ below (va_Qv (fun (M2 : Mem) => M2 = M') (fun M2 t => va_P z.1 vwCl (pw (yd z b) 32 b M2) t.heap) (pA 32 b)) args s 0 0 (pA 32 b)) (F0 m 17 ls [])) (q29 : ∀ (i3 : Int32) (i4 : Int32) (i5 : Int32) (i6 : Int32) (i7 : Int32) (i8 : Int32) (M : Mem) (H : Heap) (locs : List Loc) (ls : Array Slot), rc 29 [i3, i4, i5, i6, i7, i8] [] M = some (r, M') → va_P z.1 vwCl (pw (yd z b) 32 b M) H → va_S (pA 32 b) s.heap H locs → lv_has ls 9 [(0, .ref (b + 0)), (3, .int i3), (4, .int i4), (5, .int i5), (6, .int i6), (7, .int i7), (8, .int i8)] → W p l e rm12_mayBeRow s m args below meth c H locs 0 0 (MQ below (va_Qv (fun (M2 : Mem) => M2 = M') (fun M2 t => va_P z.1 vwCl (pw (yd z b) 32 b M2) t.heap) (pA 32 b)) args s 0 0 (pA 32 b)) (F0 m 29 ls [])) {i3 : Int32} {i4 : Int32} {i5 : Int32} {i6 : Int32} {i7 : Int32} {M : Mem} {H : Heap} {locs : List Loc} {ls : Array Slot} (hf : b12_mayBeRow_17  rc n i3 i4 i5 i6 i7 M = some (r, M')) (hP : va_P z.1 vwCl (pw (yd z b) 32 b M) H) (hS : va_S (pA 32 b) s.heap H locs) (hl : lv_has ls 9 [(0, .ref (b + 0)), (3, .int i3), (4, .int i4), (5, .int i5), (6, .int i6), (7, .int i7)]) : W p l e rm12_mayBeRow s m args below meth c H locs 0 0 (MQ below (va_Qv (fun (M2 : Mem) => M2 = M') (fun M2 t => va_P z.1 vwCl (pw (yd z b) 32 b M2) t.heap) (pA 32 b)) args s 0 0 (pA 32 b)) (F0 m 17 ls []) := by
  have hx := C.1.1
  have hb := C.1.2.1
  unfold b12_mayBeRow_17 at hf
  refine lv_iload hx hb dX12_mayBeRow_17 (lv_at hl 5 rfl) ?_
  refine lv_aload_n hx hb dX12_mayBeRow_19 rfl (lv_at hl 0 rfl) ?_
  refine pg C hP (k := 0) (j := 45) (Nat.le_of_ble_eq_true rfl) (yd_0 _ _) rfl iw_12 (Nat.le_of_ble_eq_true rfl) g_1180 rfl rfl dX12_mayBeRow_20 ?_
  refine lv_icmp_ge (tgt := 176) hx hb dX12_mayBeRow_23 (by decide) (fun c2 => ?_) (fun c2 => ?_)
  · replace hf := ite_t c2 hf
    exact prV C hr hk hP hS hf dX12_mayBeRow_176
  · replace hf := ite_f c2 hf
    refine lv_iconst (v := (0 : Int32)) hx hb dX12_mayBeRow_26 (by decide) ?_
    refine lv_istore (lv' := [(8, .int (0 : Int32)), (0, .ref (b + 0)), (3, .int i3), (4, .int i4), (5, .int i5), (6, .int i6), (7, .int i7)]) hx hb dX12_mayBeRow_27 hl (by decide) rfl (fun ls hl => ?_)
    exact w12_mayBeRow_29 (n := n)  C hr hk q17 q29 hf hP hS (lv_sub hl [1, 2, 3, 4, 5, 6, 0] rfl)
set_option maxHeartbeats 4000000 in
set_option maxRecDepth 100000 in
theorem w12_mayBeRow_0 {p : Program} {l : Launch} {e : Env} {s : State} {m : MethodId} {args : Array Value} {below : List Frame} {meth : Method} {c : Code} {z : Zt} {b : Nat}  (C : Cx p s m args c cX12_mayBeRow 9 RX12 z 32 b) (hr : meth.sig.returnType = none) (hk : meth.locks = false) {r : Unit} {M' : Mem} {rc : Nat → List Int32 → List Int64 → Mem → Option (Unit × Mem)} {n : Nat} (q17 : ∀ (i3 : Int32) (i4 : Int32) (i5 : Int32) (i6 : Int32) (i7 : Int32) (M : Mem) (H : Heap) (locs : List Loc) (ls : Array Slot), rc 17 [i3, i4, i5, i6, i7] [] M = some (r, M') → va_P z.1 vwCl (pw (yd z b) 32 b M) H → va_S (pA 32 b) s.heap H locs → lv_has ls 9 [(0, .ref (b + 0)), (3, .int i3), (4, .int i4), (5, .int i5), (6, .int i6), (7, .int i7)] → W p l e rm12_mayBeRow s m args below meth c H locs 0 0 (MQ below (va_Qv (fun (M2 : Mem) => M2 = M') (fun M2 t => va_P z.1 vwCl (pw (yd z b) 32 b M2) t.heap) (pA 32 b)) args s 0 0 (pA 32 b)) (F0 m 17 ls [])) (q29 : ∀ (i3 : Int32) (i4 : Int32) (i5 : Int32) (i6 : Int32) (i7 : Int32) (i8 : Int32) (M : Mem) (H : Heap) (locs : List Loc) (ls : Array Slot), rc 29 [i3, i4, i5, i6, i7, i8] [] M = some (r, M') → va_P z.1 vwCl (pw (yd z b) 32 b M) H → va_S (pA 32 b) s.heap H locs → lv_has ls 9 [(0, .ref (b + 0)), (3, .int i3), (4, .int i4), (5, .int i5), (6, .int i6), (7, .int i7), (8, .int i8)] → W p l e rm12_mayBeRow s m args below meth c H locs 0 0 (MQ below (va_Qv (fun (M2 : Mem) => M2 = M') (fun M2 t => va_P z.1 vwCl (pw (yd z b) 32 b M2) t.heap) (pA 32 b)) args s 0 0 (pA 32 b)) (F0 m 29 ls [])) {a1 : Int32} {a2 : Int32} {M : Mem} {H : Heap} {locs : List Loc} {ls : Array Slot} (hf : b12_mayBeRow_0  rc n a1 a2 M = some (r, M')) (hP : va_P z.1 vwCl (pw (yd z b) 32 b M) H) (hS : va_S (pA 32 b) s.heap H locs) (hl : lv_has ls 9 [(0, .ref (b + 0)), (1, .int a1), (2, .int a2)]) : W p l e rm12_mayBeRow s m args below meth c H locs 0 0 (MQ below (va_Qv (fun (M2 : Mem) => M2 = M') (fun M2 t => va_P z.1 vwCl (pw (yd z b) 32 b M2) t.heap) (pA 32 b)) args s 0 0 (pA 32 b)) (F0 m 0 ls []) := by
  have hx := C.1.1
  have hb := C.1.2.1
  unfold b12_mayBeRow_0 at hf
  refine lv_iload_n hx hb dX12_mayBeRow_0 rfl (lv_at hl 1 rfl) ?_
  refine lv_istore_n (lv' := [(3, .int a1), (0, .ref (b + 0)), (1, .int a1), (2, .int a2)]) hx hb dX12_mayBeRow_1 rfl hl (by decide) rfl (fun ls hl => ?_)
  refine lv_iconst (v := (-1 : Int32)) hx hb dX12_mayBeRow_2 (by decide) ?_
  refine lv_istore (lv' := [(4, .int (-1 : Int32)), (3, .int a1), (0, .ref (b + 0)), (1, .int a1), (2, .int a2)]) hx hb dX12_mayBeRow_3 hl (by decide) rfl (fun ls hl => ?_)
  refine lv_aload_n hx hb dX12_mayBeRow_5 rfl (lv_at hl 2 rfl) ?_
  refine pg C hP (k := 0) (j := 46) (Nat.le_of_ble_eq_true rfl) (yd_0 _ _) rfl iw_12 (Nat.le_of_ble_eq_true rfl) g_1181 rfl rfl dX12_mayBeRow_6 ?_
  refine lv_topi (fun v1 ev1 => ?_)
  replace hf := lt_c ev1 hf
  refine lv_istore (lv' := [(5, .int v1), (4, .int (-1 : Int32)), (3, .int a1), (0, .ref (b + 0)), (1, .int a1), (2, .int a2)]) hx hb dX12_mayBeRow_9 hl (by decide) rfl (fun ls hl => ?_)
  refine lv_iload_n hx hb dX12_mayBeRow_11 rfl (lv_at hl 5 rfl) ?_
  refine lv_istore (lv' := [(6, .int a2), (5, .int v1), (4, .int (-1 : Int32)), (3, .int a1), (0, .ref (b + 0)), (1, .int a1), (2, .int a2)]) hx hb dX12_mayBeRow_12 hl (by decide) rfl (fun ls hl => ?_)
  refine lv_iconst (v := (0 : Int32)) hx hb dX12_mayBeRow_14 (by decide) ?_
  refine lv_istore (lv' := [(7, .int (0 : Int32)), (6, .int a2), (5, .int v1), (4, .int (-1 : Int32)), (3, .int a1), (0, .ref (b + 0)), (1, .int a1), (2, .int a2)]) hx hb dX12_mayBeRow_15 hl (by decide) rfl (fun ls hl => ?_)
  exact w12_mayBeRow_17 (n := n)  C hr hk q17 q29 hf hP hS (lv_sub hl [5, 4, 3, 2, 1, 0] rfl)
set_option maxHeartbeats 4000000 in
set_option maxRecDepth 100000 in
theorem l12_mayBeRow {p : Program} {l : Launch} {e : Env} {s : State} {m : MethodId} {args : Array Value} {below : List Frame} {meth : Method} {c : Code} {z : Zt} {b : Nat}  (C : Cx p s m args c cX12_mayBeRow 9 RX12 z 32 b) (hr : meth.sig.returnType = none) (hk : meth.locks = false) {r : Unit} {M' : Mem} (n : Nat) : (∀ (i3 : Int32) (i4 : Int32) (i5 : Int32) (i6 : Int32) (i7 : Int32) (M : Mem) (H : Heap) (locs : List Loc) (ls : Array Slot), (r12_mayBeRow  n) 17 [i3, i4, i5, i6, i7] [] M = some (r, M') → va_P z.1 vwCl (pw (yd z b) 32 b M) H → va_S (pA 32 b) s.heap H locs → lv_has ls 9 [(0, .ref (b + 0)), (3, .int i3), (4, .int i4), (5, .int i5), (6, .int i6), (7, .int i7)] → W p l e rm12_mayBeRow s m args below meth c H locs 0 0 (MQ below (va_Qv (fun (M2 : Mem) => M2 = M') (fun M2 t => va_P z.1 vwCl (pw (yd z b) 32 b M2) t.heap) (pA 32 b)) args s 0 0 (pA 32 b)) (F0 m 17 ls [])) ∧ (∀ (i3 : Int32) (i4 : Int32) (i5 : Int32) (i6 : Int32) (i7 : Int32) (i8 : Int32) (M : Mem) (H : Heap) (locs : List Loc) (ls : Array Slot), (r12_mayBeRow  n) 29 [i3, i4, i5, i6, i7, i8] [] M = some (r, M') → va_P z.1 vwCl (pw (yd z b) 32 b M) H → va_S (pA 32 b) s.heap H locs → lv_has ls 9 [(0, .ref (b + 0)), (3, .int i3), (4, .int i4), (5, .int i5), (6, .int i6), (7, .int i7), (8, .int i8)] → W p l e rm12_mayBeRow s m args below meth c H locs 0 0 (MQ below (va_Qv (fun (M2 : Mem) => M2 = M') (fun M2 t => va_P z.1 vwCl (pw (yd z b) 32 b M2) t.heap) (pA 32 b)) args s 0 0 (pA 32 b)) (F0 m 29 ls [])) := by
  induction n with
  | zero => exact ⟨fun _ _ _ _ _ _ _ _ _ hf => (by cases hf), fun _ _ _ _ _ _ _ _ _ _ hf => (by cases hf)⟩
  | succ n ih => exact ⟨fun _ _ _ _ _ _ _ _ _ hf hP hS hl => w12_mayBeRow_17 (n := n)  C hr hk ih.1 ih.2 ((e12_mayBeRow_17  n _ _ _ _ _ _).symm.trans hf) hP hS hl, fun _ _ _ _ _ _ _ _ _ _ hf hP hS hl => w12_mayBeRow_29 (n := n)  C hr hk ih.1 ih.2 ((e12_mayBeRow_29  n _ _ _ _ _ _ _).symm.trans hf) hP hS hl⟩
theorem c12_mayBeRow {l : Launch} {z : Zt} {b n : Nat}  {a1 : Int32} {a2 : Int32} {M M' : Mem} {r : Unit} (hf : f12_mayBeRow n  a1 a2 M = some (r, M')) : CV l z (yd z b) 32 b yX12_mayBeRow cX12_mayBeRow 9 none rm12_mayBeRow [.ref (b + 0), .int a1, .int a2] M M' :=
  CV.ofW (lv := [(0, .ref (b + 0)), (1, .int a1), (2, .int a2)]) (by decide) (Nat.le_of_ble_eq_true rfl) rfl (fun p e s m args below meth c ls C hr hk hP hS hl => w12_mayBeRow_0 (n := n)  C hr hk (l12_mayBeRow  C hr hk n).1 (l12_mayBeRow  C hr hk n).2 hf hP hS hl)

-- BronzeKingModel.laysCalls(I)V
theorem dX12_laysCalls_0 : decode cX12_laysCalls 0 = .ok (.aload_n 0, 1) := by decide +kernel
theorem dX12_laysCalls_1 : decode cX12_laysCalls 1 = .ok (.invokevirtual 364, 3) := by decide +kernel
theorem dX12_laysCalls_4 : decode cX12_laysCalls 4 = .ok (.aload_n 0, 1) := by decide +kernel
theorem dX12_laysCalls_5 : decode cX12_laysCalls 5 = .ok (.iconst 0, 1) := by decide +kernel
theorem dX12_laysCalls_6 : decode cX12_laysCalls 6 = .ok (.putfield 361, 3) := by decide +kernel
theorem dX12_laysCalls_9 : decode cX12_laysCalls 9 = .ok (.aload_n 0, 1) := by decide +kernel
theorem dX12_laysCalls_10 : decode cX12_laysCalls 10 = .ok (.iconst 0, 1) := by decide +kernel
theorem dX12_laysCalls_11 : decode cX12_laysCalls 11 = .ok (.putfield 358, 3) := by decide +kernel
theorem dX12_laysCalls_14 : decode cX12_laysCalls 14 = .ok (.iconst 1, 1) := by decide +kernel
theorem dX12_laysCalls_15 : decode cX12_laysCalls 15 = .ok (.istore_n 2, 1) := by decide +kernel
theorem dX12_laysCalls_16 : decode cX12_laysCalls 16 = .ok (.iload_n 2, 1) := by decide +kernel
theorem dX12_laysCalls_17 : decode cX12_laysCalls 17 = .ok (.sipush 512, 3) := by decide +kernel
theorem dX12_laysCalls_20 : decode cX12_laysCalls 20 = .ok (.if_icmp .ge 99, 3) := by decide +kernel
theorem dX12_laysCalls_23 : decode cX12_laysCalls 23 = .ok (.aload_n 0, 1) := by decide +kernel
theorem dX12_laysCalls_24 : decode cX12_laysCalls 24 = .ok (.iload_n 2, 1) := by decide +kernel
theorem dX12_laysCalls_25 : decode cX12_laysCalls 25 = .ok (.invokevirtual 367, 3) := by decide +kernel
theorem dX12_laysCalls_28 : decode cX12_laysCalls 28 = .ok (.istore_n 3, 1) := by decide +kernel
theorem dX12_laysCalls_29 : decode cX12_laysCalls 29 = .ok (.iload_n 3, 1) := by decide +kernel
theorem dX12_laysCalls_30 : decode cX12_laysCalls 30 = .ok (.iload_n 1, 1) := by decide +kernel
theorem dX12_laysCalls_31 : decode cX12_laysCalls 31 = .ok (.if_icmp .gt 82, 3) := by decide +kernel
theorem dX12_laysCalls_34 : decode cX12_laysCalls 34 = .ok (.iload_n 2, 1) := by decide +kernel
theorem dX12_laysCalls_35 : decode cX12_laysCalls 35 = .ok (.invokestatic 283, 3) := by decide +kernel
theorem dX12_laysCalls_38 : decode cX12_laysCalls 38 = .ok (.aload_n 0, 1) := by decide +kernel
theorem dX12_laysCalls_39 : decode cX12_laysCalls 39 = .ok (.getfield 361, 3) := by decide +kernel
theorem dX12_laysCalls_42 : decode cX12_laysCalls 42 = .ok (.if_icmp .lt 71, 3) := by decide +kernel
theorem dX12_laysCalls_45 : decode cX12_laysCalls 45 = .ok (.iload_n 2, 1) := by decide +kernel
theorem dX12_laysCalls_46 : decode cX12_laysCalls 46 = .ok (.invokestatic 283, 3) := by decide +kernel
theorem dX12_laysCalls_49 : decode cX12_laysCalls 49 = .ok (.aload_n 0, 1) := by decide +kernel
theorem dX12_laysCalls_50 : decode cX12_laysCalls 50 = .ok (.getfield 361, 3) := by decide +kernel
theorem dX12_laysCalls_53 : decode cX12_laysCalls 53 = .ok (.if_icmp .ne 14, 3) := by decide +kernel
theorem dX12_laysCalls_56 : decode cX12_laysCalls 56 = .ok (.iload_n 3, 1) := by decide +kernel
theorem dX12_laysCalls_57 : decode cX12_laysCalls 57 = .ok (.aload_n 0, 1) := by decide +kernel
theorem dX12_laysCalls_58 : decode cX12_laysCalls 58 = .ok (.getfield 358, 3) := by decide +kernel
theorem dX12_laysCalls_61 : decode cX12_laysCalls 61 = .ok (.if_icmp .le 6, 3) := by decide +kernel
theorem dX12_laysCalls_64 : decode cX12_laysCalls 64 = .ok (.goto 49, 3) := by decide +kernel
theorem dX12_laysCalls_67 : decode cX12_laysCalls 67 = .ok (.iload_n 2, 1) := by decide +kernel
theorem dX12_laysCalls_68 : decode cX12_laysCalls 68 = .ok (.invokestatic 283, 3) := by decide +kernel
theorem dX12_laysCalls_71 : decode cX12_laysCalls 71 = .ok (.aload_n 0, 1) := by decide +kernel
theorem dX12_laysCalls_72 : decode cX12_laysCalls 72 = .ok (.getfield 361, 3) := by decide +kernel
theorem dX12_laysCalls_75 : decode cX12_laysCalls 75 = .ok (.if_icmp .gt 11, 3) := by decide +kernel
theorem dX12_laysCalls_78 : decode cX12_laysCalls 78 = .ok (.iload_n 3, 1) := by decide +kernel
theorem dX12_laysCalls_79 : decode cX12_laysCalls 79 = .ok (.aload_n 0, 1) := by decide +kernel
theorem dX12_laysCalls_80 : decode cX12_laysCalls 80 = .ok (.getfield 358, 3) := by decide +kernel
theorem dX12_laysCalls_83 : decode cX12_laysCalls 83 = .ok (.if_icmp .ge 7, 3) := by decide +kernel
theorem dX12_laysCalls_86 : decode cX12_laysCalls 86 = .ok (.iconst 1, 1) := by decide +kernel
theorem dX12_laysCalls_87 : decode cX12_laysCalls 87 = .ok (.goto 4, 3) := by decide +kernel
theorem dX12_laysCalls_90 : decode cX12_laysCalls 90 = .ok (.iconst 0, 1) := by decide +kernel
theorem dX12_laysCalls_91 : decode cX12_laysCalls 91 = .ok (.istore 4, 2) := by decide +kernel
theorem dX12_laysCalls_93 : decode cX12_laysCalls 93 = .ok (.aload_n 0, 1) := by decide +kernel
theorem dX12_laysCalls_94 : decode cX12_laysCalls 94 = .ok (.iload_n 2, 1) := by decide +kernel
theorem dX12_laysCalls_95 : decode cX12_laysCalls 95 = .ok (.invokestatic 283, 3) := by decide +kernel
theorem dX12_laysCalls_98 : decode cX12_laysCalls 98 = .ok (.putfield 361, 3) := by decide +kernel
theorem dX12_laysCalls_101 : decode cX12_laysCalls 101 = .ok (.aload_n 0, 1) := by decide +kernel
theorem dX12_laysCalls_102 : decode cX12_laysCalls 102 = .ok (.iload_n 3, 1) := by decide +kernel
theorem dX12_laysCalls_103 : decode cX12_laysCalls 103 = .ok (.putfield 358, 3) := by decide +kernel
theorem dX12_laysCalls_106 : decode cX12_laysCalls 106 = .ok (.aload_n 0, 1) := by decide +kernel
theorem dX12_laysCalls_107 : decode cX12_laysCalls 107 = .ok (.iload_n 2, 1) := by decide +kernel
theorem dX12_laysCalls_108 : decode cX12_laysCalls 108 = .ok (.iload 4, 2) := by decide +kernel
theorem dX12_laysCalls_110 : decode cX12_laysCalls 110 = .ok (.invokevirtual 370, 3) := by decide +kernel
theorem dX12_laysCalls_113 : decode cX12_laysCalls 113 = .ok (.iinc 2 1, 3) := by decide +kernel
theorem dX12_laysCalls_116 : decode cX12_laysCalls 116 = .ok (.goto (-100), 3) := by decide +kernel
theorem dX12_laysCalls_119 : decode cX12_laysCalls 119 = .ok (.return_, 1) := by decide +kernel
def b12_laysCalls_113 (rc : Nat → List Int32 → List Int64 → Mem → Option (Unit × Mem)) (n : Nat) (i1 : Int32) (i2 : Int32) (M : Mem) : Option (Unit × Mem) :=
  lt (i2 + (1 : Int32)) fun v33 =>
  rc 16 [i1, v33] [] M
def b12_laysCalls_91 (rc : Nat → List Int32 → List Int64 → Mem → Option (Unit × Mem)) (n : Nat) (i1 : Int32) (i2 : Int32) (i3 : Int32) (s0 : Int32) (M : Mem) : Option (Unit × Mem) :=
  bnd (f12_bits n i2 M) fun r25 M26 =>
  lt (wI M26 0 45 r25) fun M28 =>
  lt (wI M28 0 46 i3) fun M29 =>
  bnd (f12_mayBeRow n i2 s0 M29) fun r30 M31 =>
  b12_laysCalls_113  rc n i1 i2 M31
def b12_laysCalls_86 (rc : Nat → List Int32 → List Int64 → Mem → Option (Unit × Mem)) (n : Nat) (i1 : Int32) (i2 : Int32) (i3 : Int32) (M : Mem) : Option (Unit × Mem) :=
  b12_laysCalls_91  rc n i1 i2 i3 (1 : Int32) M
def b12_laysCalls_67 (rc : Nat → List Int32 → List Int64 → Mem → Option (Unit × Mem)) (n : Nat) (i1 : Int32) (i2 : Int32) (i3 : Int32) (M : Mem) : Option (Unit × Mem) :=
  bnd (f12_bits n i2 M) fun r20 M21 =>
  (if (M21.1 0 45) < r20 then (
   b12_laysCalls_86  rc n i1 i2 i3 M21)
  else (
   (if (M21.1 0 46) ≤ i3 then (
    b12_laysCalls_91  rc n i1 i2 i3 (0 : Int32) M21)
   else (
    b12_laysCalls_86  rc n i1 i2 i3 M21))))
def b12_laysCalls_16 (rc : Nat → List Int32 → List Int64 → Mem → Option (Unit × Mem)) (n : Nat) (i1 : Int32) (i2 : Int32) (M : Mem) : Option (Unit × Mem) :=
  (if (512 : Int32) ≤ i2 then (
   some ((), M))
  else (
   bnd (f12_roundBy n i2 M) fun r7 M8 =>
   (if i1 < r7 then (
    b12_laysCalls_113  rc n i1 i2 M8)
   else (
    bnd (f12_bits n i2 M8) fun r11 M12 =>
    (if r11 < (M12.1 0 45) then (
     b12_laysCalls_113  rc n i1 i2 M12)
    else (
     bnd (f12_bits n i2 M12) fun r15 M16 =>
     (if r15 = (M16.1 0 45) then (
      (if r7 ≤ (M16.1 0 46) then (
       b12_laysCalls_67  rc n i1 i2 r7 M16)
      else (
       b12_laysCalls_113  rc n i1 i2 M16)))
     else (
      b12_laysCalls_67  rc n i1 i2 r7 M16))))))))
def b12_laysCalls_0 (rc : Nat → List Int32 → List Int64 → Mem → Option (Unit × Mem)) (n : Nat) (a1 : Int32) (M : Mem) : Option (Unit × Mem) :=
  bnd (f12_laysBack n M) fun r1 M2 =>
  lt (wI M2 0 45 (0 : Int32)) fun M4 =>
  lt (wI M4 0 46 (0 : Int32)) fun M5 =>
  b12_laysCalls_16  rc n a1 (1 : Int32) M5
def r12_laysCalls : Nat → Nat → List Int32 → List Int64 → Mem → Option (Unit × Mem)
  | 0 => fun _ _ _ _ => none
  | n + 1 => fun pc li lj M =>
    if pc = 16 then (match li, lj with | [i1, i2], [] => b12_laysCalls_16  (r12_laysCalls  n) n i1 i2 M | _, _ => none) else
    none
theorem e12_laysCalls_16  (n : Nat) (i1 : Int32) (i2 : Int32) (M : Mem) : r12_laysCalls  (n + 1) 16 [i1, i2] [] M = b12_laysCalls_16  (r12_laysCalls  n) n i1 i2 M := by
  rw [r12_laysCalls]
  simp
def f12_laysCalls (n : Nat) (a1 : Int32) (M : Mem) : Option (Unit × Mem) := b12_laysCalls_0 (r12_laysCalls n) n a1 M
abbrev rm12_laysCalls : Room := { frames := 7, cells := 0, slots := 0, locals := 165 }
theorem y12_laysCalls_w : yV RX12 yX12_laysCalls cX12_laysCalls 5 none 1 := ⟨g_1578, gp 79 rfl rfl, g_14, g_1579, rfl, by decide, by decide, by decide +kernel⟩
set_option maxHeartbeats 4000000 in
set_option maxRecDepth 100000 in
theorem w12_laysCalls_113 {p : Program} {l : Launch} {e : Env} {s : State} {m : MethodId} {args : Array Value} {below : List Frame} {meth : Method} {c : Code} {z : Zt} {b : Nat}  (C : Cx p s m args c cX12_laysCalls 5 RX12 z 32 b) (hr : meth.sig.returnType = none) (hk : meth.locks = false) {r : Unit} {M' : Mem} {rc : Nat → List Int32 → List Int64 → Mem → Option (Unit × Mem)} {n : Nat} (q16 : ∀ (i1 : Int32) (i2 : Int32) (M : Mem) (H : Heap) (locs : List Loc) (ls : Array Slot), rc 16 [i1, i2] [] M = some (r, M') → va_P z.1 vwCl (pw (yd z b) 32 b M) H → va_S (pA 32 b) s.heap H locs → lv_has ls 5 [(0, .ref (b + 0)), (1, .int i1), (2, .int i2)] → W p l e rm12_laysCalls s m args below meth c H locs 0 0 (MQ below (va_Qv (fun (M2 : Mem) => M2 = M') (fun M2 t => va_P z.1 vwCl (pw (yd z b) 32 b M2) t.heap) (pA 32 b)) args s 0 0 (pA 32 b)) (F0 m 16 ls [])) {i1 : Int32} {i2 : Int32} {M : Mem} {H : Heap} {locs : List Loc} {ls : Array Slot} (hf : b12_laysCalls_113  rc n i1 i2 M = some (r, M')) (hP : va_P z.1 vwCl (pw (yd z b) 32 b M) H) (hS : va_S (pA 32 b) s.heap H locs) (hl : lv_has ls 5 [(0, .ref (b + 0)), (1, .int i1), (2, .int i2)]) : W p l e rm12_laysCalls s m args below meth c H locs 0 0 (MQ below (va_Qv (fun (M2 : Mem) => M2 = M') (fun M2 t => va_P z.1 vwCl (pw (yd z b) 32 b M2) t.heap) (pA 32 b)) args s 0 0 (pA 32 b)) (F0 m 113 ls []) := by
  have hx := C.1.1
  have hb := C.1.2.1
  unfold b12_laysCalls_113 at hf
  obtain ⟨v33, ev33⟩ : ∃ v : Int32, v = i2 + (1 : Int32) := ⟨_, rfl⟩
  replace hf := lt_c ev33 hf
  refine lv_iinc (v := v33) (lv' := [(2, .int v33), (0, .ref (b + 0)), (1, .int i1)]) hx hb dX12_laysCalls_113 hl (k := 2) rfl (by rw [ev33]; rfl) (by decide) rfl (fun ls hl => ?_)
  refine lv_goto (tgt := 16) hx hb dX12_laysCalls_116 (by decide) ?_
  exact q16 i1 v33 M _ _ _ hf hP hS (lv_sub hl [1, 2, 0] rfl)
set_option maxHeartbeats 4000000 in
set_option maxRecDepth 100000 in
theorem w12_laysCalls_91 {p : Program} {l : Launch} {e : Env} {s : State} {m : MethodId} {args : Array Value} {below : List Frame} {meth : Method} {c : Code} {z : Zt} {b : Nat}  (C : Cx p s m args c cX12_laysCalls 5 RX12 z 32 b) (hr : meth.sig.returnType = none) (hk : meth.locks = false) {r : Unit} {M' : Mem} {rc : Nat → List Int32 → List Int64 → Mem → Option (Unit × Mem)} {n : Nat} (q16 : ∀ (i1 : Int32) (i2 : Int32) (M : Mem) (H : Heap) (locs : List Loc) (ls : Array Slot), rc 16 [i1, i2] [] M = some (r, M') → va_P z.1 vwCl (pw (yd z b) 32 b M) H → va_S (pA 32 b) s.heap H locs → lv_has ls 5 [(0, .ref (b + 0)), (1, .int i1), (2, .int i2)] → W p l e rm12_laysCalls s m args below meth c H locs 0 0 (MQ below (va_Qv (fun (M2 : Mem) => M2 = M') (fun M2 t => va_P z.1 vwCl (pw (yd z b) 32 b M2) t.heap) (pA 32 b)) args s 0 0 (pA 32 b)) (F0 m 16 ls [])) {i1 : Int32} {i2 : Int32} {i3 : Int32} {s0 : Int32} {M : Mem} {H : Heap} {locs : List Loc} {ls : Array Slot} (hf : b12_laysCalls_91  rc n i1 i2 i3 s0 M = some (r, M')) (hP : va_P z.1 vwCl (pw (yd z b) 32 b M) H) (hS : va_S (pA 32 b) s.heap H locs) (hl : lv_has ls 5 [(0, .ref (b + 0)), (1, .int i1), (2, .int i2), (3, .int i3)]) : W p l e rm12_laysCalls s m args below meth c H locs 0 0 (MQ below (va_Qv (fun (M2 : Mem) => M2 = M') (fun M2 t => va_P z.1 vwCl (pw (yd z b) 32 b M2) t.heap) (pA 32 b)) args s 0 0 (pA 32 b)) (F0 m 91 ls [.int s0]) := by
  have hx := C.1.1
  have hb := C.1.2.1
  unfold b12_laysCalls_91 at hf
  refine lv_istore (lv' := [(4, .int s0), (0, .ref (b + 0)), (1, .int i1), (2, .int i2), (3, .int i3)]) hx hb dX12_laysCalls_91 hl (by decide) rfl (fun ls hl => ?_)
  refine lv_aload_n hx hb dX12_laysCalls_93 rfl (lv_at hl 1 rfl) ?_
  refine lv_iload_n hx hb dX12_laysCalls_94 rfl (lv_at hl 3 rfl) ?_
  obtain ⟨r25, M26, h27, hf⟩ := bnd_s hf
  refine pcSi (As := [.int i2]) C hP hS (c12_bits  h27) y12_bits_w g_1498 rfl rfl rfl ⟨Nat.le_of_ble_eq_true rfl, Nat.le_of_ble_eq_true rfl⟩ hl.1 rfl (Nat.le_of_ble_eq_true rfl) dX12_laysCalls_95 ⟨Nat.le_of_ble_eq_true rfl, Nat.le_of_ble_eq_true rfl⟩ (fun H locs hP hS => ?_)
  refine ppI C hP hS (k := 0) (j := 45) (ty := .int) (Nat.le_of_ble_eq_true rfl) (yd_0 _ _) rfl iw_12 tyX12 tyX12_ok nmX12 (Nat.le_of_ble_eq_true rfl) g_1180 rfl rfl (by decide +kernel) rfl rfl (Nat.le_of_ble_eq_true rfl) (yu_0_45 _ _ _) dX12_laysCalls_98 (fun M28 H locs eM28 hP hS => ?_)
  replace hf := lt_c eM28 hf
  refine lv_aload_n hx hb dX12_laysCalls_101 rfl (lv_at hl 1 rfl) ?_
  refine lv_iload_n hx hb dX12_laysCalls_102 rfl (lv_at hl 4 rfl) ?_
  refine ppI C hP hS (k := 0) (j := 46) (ty := .int) (Nat.le_of_ble_eq_true rfl) (yd_0 _ _) rfl iw_12 tyX12 tyX12_ok nmX12 (Nat.le_of_ble_eq_true rfl) g_1181 rfl rfl (by decide +kernel) rfl rfl (Nat.le_of_ble_eq_true rfl) (yu_0_46 _ _ _) dX12_laysCalls_103 (fun M29 H locs eM29 hP hS => ?_)
  replace hf := lt_c eM29 hf
  refine lv_aload_n hx hb dX12_laysCalls_106 rfl (lv_at hl 1 rfl) ?_
  refine lv_iload_n hx hb dX12_laysCalls_107 rfl (lv_at hl 3 rfl) ?_
  refine lv_iload hx hb dX12_laysCalls_108 (lv_at hl 0 rfl) ?_
  obtain ⟨r30, M31, h32, hf⟩ := bnd_s hf
  refine pcVv (As := [.int i2, .int s0]) C hP hS (k := 0) (Nat.le_of_ble_eq_true rfl) (yd_0 _ _) rfl (c12_mayBeRow  h32) y12_mayBeRow_w g_1597 rfl rfl rfl ⟨Nat.le_of_ble_eq_true rfl, Nat.le_of_ble_eq_true rfl⟩ hl.1 rfl (Nat.le_of_ble_eq_true rfl) dX12_laysCalls_110 ⟨Nat.le_of_ble_eq_true rfl, Nat.le_of_ble_eq_true rfl⟩ (fun H locs hP hS => ?_)
  exact w12_laysCalls_113 (n := n)  C hr hk q16 hf hP hS (lv_sub hl [1, 2, 3] rfl)
set_option maxHeartbeats 4000000 in
set_option maxRecDepth 100000 in
theorem w12_laysCalls_86 {p : Program} {l : Launch} {e : Env} {s : State} {m : MethodId} {args : Array Value} {below : List Frame} {meth : Method} {c : Code} {z : Zt} {b : Nat}  (C : Cx p s m args c cX12_laysCalls 5 RX12 z 32 b) (hr : meth.sig.returnType = none) (hk : meth.locks = false) {r : Unit} {M' : Mem} {rc : Nat → List Int32 → List Int64 → Mem → Option (Unit × Mem)} {n : Nat} (q16 : ∀ (i1 : Int32) (i2 : Int32) (M : Mem) (H : Heap) (locs : List Loc) (ls : Array Slot), rc 16 [i1, i2] [] M = some (r, M') → va_P z.1 vwCl (pw (yd z b) 32 b M) H → va_S (pA 32 b) s.heap H locs → lv_has ls 5 [(0, .ref (b + 0)), (1, .int i1), (2, .int i2)] → W p l e rm12_laysCalls s m args below meth c H locs 0 0 (MQ below (va_Qv (fun (M2 : Mem) => M2 = M') (fun M2 t => va_P z.1 vwCl (pw (yd z b) 32 b M2) t.heap) (pA 32 b)) args s 0 0 (pA 32 b)) (F0 m 16 ls [])) {i1 : Int32} {i2 : Int32} {i3 : Int32} {M : Mem} {H : Heap} {locs : List Loc} {ls : Array Slot} (hf : b12_laysCalls_86  rc n i1 i2 i3 M = some (r, M')) (hP : va_P z.1 vwCl (pw (yd z b) 32 b M) H) (hS : va_S (pA 32 b) s.heap H locs) (hl : lv_has ls 5 [(0, .ref (b + 0)), (1, .int i1), (2, .int i2), (3, .int i3)]) : W p l e rm12_laysCalls s m args below meth c H locs 0 0 (MQ below (va_Qv (fun (M2 : Mem) => M2 = M') (fun M2 t => va_P z.1 vwCl (pw (yd z b) 32 b M2) t.heap) (pA 32 b)) args s 0 0 (pA 32 b)) (F0 m 86 ls []) := by
  have hx := C.1.1
  have hb := C.1.2.1
  unfold b12_laysCalls_86 at hf
  refine lv_iconst (v := (1 : Int32)) hx hb dX12_laysCalls_86 (by decide) ?_
  refine lv_goto (tgt := 91) hx hb dX12_laysCalls_87 (by decide) ?_
  exact w12_laysCalls_91 (n := n)  C hr hk q16 hf hP hS (lv_sub hl [0, 1, 2, 3] rfl)
set_option maxHeartbeats 4000000 in
set_option maxRecDepth 100000 in
theorem w12_laysCalls_67 {p : Program} {l : Launch} {e : Env} {s : State} {m : MethodId} {args : Array Value} {below : List Frame} {meth : Method} {c : Code} {z : Zt} {b : Nat}  (C : Cx p s m args c cX12_laysCalls 5 RX12 z 32 b) (hr : meth.sig.returnType = none) (hk : meth.locks = false) {r : Unit} {M' : Mem} {rc : Nat → List Int32 → List Int64 → Mem → Option (Unit × Mem)} {n : Nat} (q16 : ∀ (i1 : Int32) (i2 : Int32) (M : Mem) (H : Heap) (locs : List Loc) (ls : Array Slot), rc 16 [i1, i2] [] M = some (r, M') → va_P z.1 vwCl (pw (yd z b) 32 b M) H → va_S (pA 32 b) s.heap H locs → lv_has ls 5 [(0, .ref (b + 0)), (1, .int i1), (2, .int i2)] → W p l e rm12_laysCalls s m args below meth c H locs 0 0 (MQ below (va_Qv (fun (M2 : Mem) => M2 = M') (fun M2 t => va_P z.1 vwCl (pw (yd z b) 32 b M2) t.heap) (pA 32 b)) args s 0 0 (pA 32 b)) (F0 m 16 ls [])) {i1 : Int32} {i2 : Int32} {i3 : Int32} {M : Mem} {H : Heap} {locs : List Loc} {ls : Array Slot} (hf : b12_laysCalls_67  rc n i1 i2 i3 M = some (r, M')) (hP : va_P z.1 vwCl (pw (yd z b) 32 b M) H) (hS : va_S (pA 32 b) s.heap H locs) (hl : lv_has ls 5 [(0, .ref (b + 0)), (1, .int i1), (2, .int i2), (3, .int i3)]) : W p l e rm12_laysCalls s m args below meth c H locs 0 0 (MQ below (va_Qv (fun (M2 : Mem) => M2 = M') (fun M2 t => va_P z.1 vwCl (pw (yd z b) 32 b M2) t.heap) (pA 32 b)) args s 0 0 (pA 32 b)) (F0 m 67 ls []) := by
  have hx := C.1.1
  have hb := C.1.2.1
  unfold b12_laysCalls_67 at hf
  refine lv_iload_n hx hb dX12_laysCalls_67 rfl (lv_at hl 2 rfl) ?_
  obtain ⟨r20, M21, h22, hf⟩ := bnd_s hf
  refine pcSi (As := [.int i2]) C hP hS (c12_bits  h22) y12_bits_w g_1498 rfl rfl rfl ⟨Nat.le_of_ble_eq_true rfl, Nat.le_of_ble_eq_true rfl⟩ hl.1 rfl (Nat.le_of_ble_eq_true rfl) dX12_laysCalls_68 ⟨Nat.le_of_ble_eq_true rfl, Nat.le_of_ble_eq_true rfl⟩ (fun H locs hP hS => ?_)
  refine lv_aload_n hx hb dX12_laysCalls_71 rfl (lv_at hl 0 rfl) ?_
  refine pg C hP (k := 0) (j := 45) (Nat.le_of_ble_eq_true rfl) (yd_0 _ _) rfl iw_12 (Nat.le_of_ble_eq_true rfl) g_1180 rfl rfl dX12_laysCalls_72 ?_
  refine lv_icmp_gt (tgt := 86) hx hb dX12_laysCalls_75 (by decide) (fun c23 => ?_) (fun c23 => ?_)
  · replace hf := ite_t c23 hf
    exact w12_laysCalls_86 (n := n)  C hr hk q16 hf hP hS (lv_sub hl [0, 1, 2, 3] rfl)
  · replace hf := ite_f c23 hf
    refine lv_iload_n hx hb dX12_laysCalls_78 rfl (lv_at hl 3 rfl) ?_
    refine lv_aload_n hx hb dX12_laysCalls_79 rfl (lv_at hl 0 rfl) ?_
    refine pg C hP (k := 0) (j := 46) (Nat.le_of_ble_eq_true rfl) (yd_0 _ _) rfl iw_12 (Nat.le_of_ble_eq_true rfl) g_1181 rfl rfl dX12_laysCalls_80 ?_
    refine lv_icmp_ge (tgt := 90) hx hb dX12_laysCalls_83 (by decide) (fun c24 => ?_) (fun c24 => ?_)
    · replace hf := ite_t c24 hf
      refine lv_iconst (v := (0 : Int32)) hx hb dX12_laysCalls_90 (by decide) ?_
      exact w12_laysCalls_91 (n := n)  C hr hk q16 hf hP hS (lv_sub hl [0, 1, 2, 3] rfl)
    · replace hf := ite_f c24 hf
      exact w12_laysCalls_86 (n := n)  C hr hk q16 hf hP hS (lv_sub hl [0, 1, 2, 3] rfl)
set_option maxHeartbeats 4000000 in
set_option maxRecDepth 100000 in
theorem w12_laysCalls_16 {p : Program} {l : Launch} {e : Env} {s : State} {m : MethodId} {args : Array Value} {below : List Frame} {meth : Method} {c : Code} {z : Zt} {b : Nat}  (C : Cx p s m args c cX12_laysCalls 5 RX12 z 32 b) (hr : meth.sig.returnType = none) (hk : meth.locks = false) {r : Unit} {M' : Mem} {rc : Nat → List Int32 → List Int64 → Mem → Option (Unit × Mem)} {n : Nat} (q16 : ∀ (i1 : Int32) (i2 : Int32) (M : Mem) (H : Heap) (locs : List Loc) (ls : Array Slot), rc 16 [i1, i2] [] M = some (r, M') → va_P z.1 vwCl (pw (yd z b) 32 b M) H → va_S (pA 32 b) s.heap H locs → lv_has ls 5 [(0, .ref (b + 0)), (1, .int i1), (2, .int i2)] → W p l e rm12_laysCalls s m args below meth c H locs 0 0 (MQ below (va_Qv (fun (M2 : Mem) => M2 = M') (fun M2 t => va_P z.1 vwCl (pw (yd z b) 32 b M2) t.heap) (pA 32 b)) args s 0 0 (pA 32 b)) (F0 m 16 ls [])) {i1 : Int32} {i2 : Int32} {M : Mem} {H : Heap} {locs : List Loc} {ls : Array Slot} (hf : b12_laysCalls_16  rc n i1 i2 M = some (r, M')) (hP : va_P z.1 vwCl (pw (yd z b) 32 b M) H) (hS : va_S (pA 32 b) s.heap H locs) (hl : lv_has ls 5 [(0, .ref (b + 0)), (1, .int i1), (2, .int i2)]) : W p l e rm12_laysCalls s m args below meth c H locs 0 0 (MQ below (va_Qv (fun (M2 : Mem) => M2 = M') (fun M2 t => va_P z.1 vwCl (pw (yd z b) 32 b M2) t.heap) (pA 32 b)) args s 0 0 (pA 32 b)) (F0 m 16 ls []) := by
  have hx := C.1.1
  have hb := C.1.2.1
  unfold b12_laysCalls_16 at hf
  refine lv_iload_n hx hb dX12_laysCalls_16 rfl (lv_at hl 2 rfl) ?_
  refine lv_sipush (v := (512 : Int32)) hx hb dX12_laysCalls_17 (by decide) ?_
  refine lv_icmp_ge (tgt := 119) hx hb dX12_laysCalls_20 (by decide) (fun c6 => ?_) (fun c6 => ?_)
  · replace hf := ite_t c6 hf
    exact prV C hr hk hP hS hf dX12_laysCalls_119
  · replace hf := ite_f c6 hf
    refine lv_aload_n hx hb dX12_laysCalls_23 rfl (lv_at hl 0 rfl) ?_
    refine lv_iload_n hx hb dX12_laysCalls_24 rfl (lv_at hl 2 rfl) ?_
    obtain ⟨r7, M8, h9, hf⟩ := bnd_s hf
    refine pcVi (As := [.int i2]) C hP hS (k := 0) (Nat.le_of_ble_eq_true rfl) (yd_0 _ _) rfl (c12_roundBy  h9) y12_roundBy_w g_1593 rfl rfl rfl ⟨Nat.le_of_ble_eq_true rfl, Nat.le_of_ble_eq_true rfl⟩ hl.1 rfl (Nat.le_of_ble_eq_true rfl) dX12_laysCalls_25 ⟨Nat.le_of_ble_eq_true rfl, Nat.le_of_ble_eq_true rfl⟩ (fun H locs hP hS => ?_)
    refine lv_istore_n (lv' := [(3, .int r7), (0, .ref (b + 0)), (1, .int i1), (2, .int i2)]) hx hb dX12_laysCalls_28 rfl hl (by decide) rfl (fun ls hl => ?_)
    refine lv_iload_n hx hb dX12_laysCalls_29 rfl (lv_at hl 0 rfl) ?_
    refine lv_iload_n hx hb dX12_laysCalls_30 rfl (lv_at hl 2 rfl) ?_
    refine lv_icmp_gt (tgt := 113) hx hb dX12_laysCalls_31 (by decide) (fun c10 => ?_) (fun c10 => ?_)
    · replace hf := ite_t c10 hf
      exact w12_laysCalls_113 (n := n)  C hr hk q16 hf hP hS (lv_sub hl [1, 2, 3] rfl)
    · replace hf := ite_f c10 hf
      refine lv_iload_n hx hb dX12_laysCalls_34 rfl (lv_at hl 3 rfl) ?_
      obtain ⟨r11, M12, h13, hf⟩ := bnd_s hf
      refine pcSi (As := [.int i2]) C hP hS (c12_bits  h13) y12_bits_w g_1498 rfl rfl rfl ⟨Nat.le_of_ble_eq_true rfl, Nat.le_of_ble_eq_true rfl⟩ hl.1 rfl (Nat.le_of_ble_eq_true rfl) dX12_laysCalls_35 ⟨Nat.le_of_ble_eq_true rfl, Nat.le_of_ble_eq_true rfl⟩ (fun H locs hP hS => ?_)
      refine lv_aload_n hx hb dX12_laysCalls_38 rfl (lv_at hl 1 rfl) ?_
      refine pg C hP (k := 0) (j := 45) (Nat.le_of_ble_eq_true rfl) (yd_0 _ _) rfl iw_12 (Nat.le_of_ble_eq_true rfl) g_1180 rfl rfl dX12_laysCalls_39 ?_
      refine lv_icmp_lt (tgt := 113) hx hb dX12_laysCalls_42 (by decide) (fun c14 => ?_) (fun c14 => ?_)
      · replace hf := ite_t c14 hf
        exact w12_laysCalls_113 (n := n)  C hr hk q16 hf hP hS (lv_sub hl [1, 2, 3] rfl)
      · replace hf := ite_f c14 hf
        refine lv_iload_n hx hb dX12_laysCalls_45 rfl (lv_at hl 3 rfl) ?_
        obtain ⟨r15, M16, h17, hf⟩ := bnd_s hf
        refine pcSi (As := [.int i2]) C hP hS (c12_bits  h17) y12_bits_w g_1498 rfl rfl rfl ⟨Nat.le_of_ble_eq_true rfl, Nat.le_of_ble_eq_true rfl⟩ hl.1 rfl (Nat.le_of_ble_eq_true rfl) dX12_laysCalls_46 ⟨Nat.le_of_ble_eq_true rfl, Nat.le_of_ble_eq_true rfl⟩ (fun H locs hP hS => ?_)
        refine lv_aload_n hx hb dX12_laysCalls_49 rfl (lv_at hl 1 rfl) ?_
        refine pg C hP (k := 0) (j := 45) (Nat.le_of_ble_eq_true rfl) (yd_0 _ _) rfl iw_12 (Nat.le_of_ble_eq_true rfl) g_1180 rfl rfl dX12_laysCalls_50 ?_
        refine lv_icmp_ne (tgt := 67) hx hb dX12_laysCalls_53 (by decide) (fun c18 => ?_) (fun c18 => ?_)
        · replace hf := ite_f c18 hf
          exact w12_laysCalls_67 (n := n)  C hr hk q16 hf hP hS (lv_sub hl [1, 2, 3, 0] rfl)
        · replace hf := ite_t c18 hf
          refine lv_iload_n hx hb dX12_laysCalls_56 rfl (lv_at hl 0 rfl) ?_
          refine lv_aload_n hx hb dX12_laysCalls_57 rfl (lv_at hl 1 rfl) ?_
          refine pg C hP (k := 0) (j := 46) (Nat.le_of_ble_eq_true rfl) (yd_0 _ _) rfl iw_12 (Nat.le_of_ble_eq_true rfl) g_1181 rfl rfl dX12_laysCalls_58 ?_
          refine lv_icmp_le (tgt := 67) hx hb dX12_laysCalls_61 (by decide) (fun c19 => ?_) (fun c19 => ?_)
          · replace hf := ite_t c19 hf
            exact w12_laysCalls_67 (n := n)  C hr hk q16 hf hP hS (lv_sub hl [1, 2, 3, 0] rfl)
          · replace hf := ite_f c19 hf
            refine lv_goto (tgt := 113) hx hb dX12_laysCalls_64 (by decide) ?_
            exact w12_laysCalls_113 (n := n)  C hr hk q16 hf hP hS (lv_sub hl [1, 2, 3] rfl)
set_option maxHeartbeats 4000000 in
set_option maxRecDepth 100000 in
theorem w12_laysCalls_0 {p : Program} {l : Launch} {e : Env} {s : State} {m : MethodId} {args : Array Value} {below : List Frame} {meth : Method} {c : Code} {z : Zt} {b : Nat}  (C : Cx p s m args c cX12_laysCalls 5 RX12 z 32 b) (hr : meth.sig.returnType = none) (hk : meth.locks = false) {r : Unit} {M' : Mem} {rc : Nat → List Int32 → List Int64 → Mem → Option (Unit × Mem)} {n : Nat} (q16 : ∀ (i1 : Int32) (i2 : Int32) (M : Mem) (H : Heap) (locs : List Loc) (ls : Array Slot), rc 16 [i1, i2] [] M = some (r, M') → va_P z.1 vwCl (pw (yd z b) 32 b M) H → va_S (pA 32 b) s.heap H locs → lv_has ls 5 [(0, .ref (b + 0)), (1, .int i1), (2, .int i2)] → W p l e rm12_laysCalls s m args below meth c H locs 0 0 (MQ below (va_Qv (fun (M2 : Mem) => M2 = M') (fun M2 t => va_P z.1 vwCl (pw (yd z b) 32 b M2) t.heap) (pA 32 b)) args s 0 0 (pA 32 b)) (F0 m 16 ls [])) {a1 : Int32} {M : Mem} {H : Heap} {locs : List Loc} {ls : Array Slot} (hf : b12_laysCalls_0  rc n a1 M = some (r, M')) (hP : va_P z.1 vwCl (pw (yd z b) 32 b M) H) (hS : va_S (pA 32 b) s.heap H locs) (hl : lv_has ls 5 [(0, .ref (b + 0)), (1, .int a1)]) : W p l e rm12_laysCalls s m args below meth c H locs 0 0 (MQ below (va_Qv (fun (M2 : Mem) => M2 = M') (fun M2 t => va_P z.1 vwCl (pw (yd z b) 32 b M2) t.heap) (pA 32 b)) args s 0 0 (pA 32 b)) (F0 m 0 ls []) := by
  have hx := C.1.1
  have hb := C.1.2.1
  unfold b12_laysCalls_0 at hf
  refine lv_aload_n hx hb dX12_laysCalls_0 rfl (lv_at hl 0 rfl) ?_
  obtain ⟨r1, M2, h3, hf⟩ := bnd_s hf
  refine pcVv (As := []) C hP hS (k := 0) (Nat.le_of_ble_eq_true rfl) (yd_0 _ _) rfl (c12_laysBack  h3) y12_laysBack_w g_1580 rfl rfl rfl ⟨Nat.le_of_ble_eq_true rfl, Nat.le_of_ble_eq_true rfl⟩ hl.1 rfl (Nat.le_of_ble_eq_true rfl) dX12_laysCalls_1 ⟨Nat.le_of_ble_eq_true rfl, Nat.le_of_ble_eq_true rfl⟩ (fun H locs hP hS => ?_)
  refine lv_aload_n hx hb dX12_laysCalls_4 rfl (lv_at hl 0 rfl) ?_
  refine lv_iconst (v := (0 : Int32)) hx hb dX12_laysCalls_5 (by decide) ?_
  refine ppI C hP hS (k := 0) (j := 45) (ty := .int) (Nat.le_of_ble_eq_true rfl) (yd_0 _ _) rfl iw_12 tyX12 tyX12_ok nmX12 (Nat.le_of_ble_eq_true rfl) g_1180 rfl rfl (by decide +kernel) rfl rfl (Nat.le_of_ble_eq_true rfl) (yu_0_45 _ _ _) dX12_laysCalls_6 (fun M4 H locs eM4 hP hS => ?_)
  replace hf := lt_c eM4 hf
  refine lv_aload_n hx hb dX12_laysCalls_9 rfl (lv_at hl 0 rfl) ?_
  refine lv_iconst (v := (0 : Int32)) hx hb dX12_laysCalls_10 (by decide) ?_
  refine ppI C hP hS (k := 0) (j := 46) (ty := .int) (Nat.le_of_ble_eq_true rfl) (yd_0 _ _) rfl iw_12 tyX12 tyX12_ok nmX12 (Nat.le_of_ble_eq_true rfl) g_1181 rfl rfl (by decide +kernel) rfl rfl (Nat.le_of_ble_eq_true rfl) (yu_0_46 _ _ _) dX12_laysCalls_11 (fun M5 H locs eM5 hP hS => ?_)
  replace hf := lt_c eM5 hf
  refine lv_iconst (v := (1 : Int32)) hx hb dX12_laysCalls_14 (by decide) ?_
  refine lv_istore_n (lv' := [(2, .int (1 : Int32)), (0, .ref (b + 0)), (1, .int a1)]) hx hb dX12_laysCalls_15 rfl hl (by decide) rfl (fun ls hl => ?_)
  exact w12_laysCalls_16 (n := n)  C hr hk q16 hf hP hS (lv_sub hl [1, 2, 0] rfl)
set_option maxHeartbeats 4000000 in
set_option maxRecDepth 100000 in
theorem l12_laysCalls {p : Program} {l : Launch} {e : Env} {s : State} {m : MethodId} {args : Array Value} {below : List Frame} {meth : Method} {c : Code} {z : Zt} {b : Nat}  (C : Cx p s m args c cX12_laysCalls 5 RX12 z 32 b) (hr : meth.sig.returnType = none) (hk : meth.locks = false) {r : Unit} {M' : Mem} (n : Nat) : (∀ (i1 : Int32) (i2 : Int32) (M : Mem) (H : Heap) (locs : List Loc) (ls : Array Slot), (r12_laysCalls  n) 16 [i1, i2] [] M = some (r, M') → va_P z.1 vwCl (pw (yd z b) 32 b M) H → va_S (pA 32 b) s.heap H locs → lv_has ls 5 [(0, .ref (b + 0)), (1, .int i1), (2, .int i2)] → W p l e rm12_laysCalls s m args below meth c H locs 0 0 (MQ below (va_Qv (fun (M2 : Mem) => M2 = M') (fun M2 t => va_P z.1 vwCl (pw (yd z b) 32 b M2) t.heap) (pA 32 b)) args s 0 0 (pA 32 b)) (F0 m 16 ls [])) := by
  induction n with
  | zero => exact fun _ _ _ _ _ _ hf => (by cases hf)
  | succ n ih => exact fun _ _ _ _ _ _ hf hP hS hl => w12_laysCalls_16 (n := n)  C hr hk ih ((e12_laysCalls_16  n _ _ _).symm.trans hf) hP hS hl
theorem c12_laysCalls {l : Launch} {z : Zt} {b n : Nat}  {a1 : Int32} {M M' : Mem} {r : Unit} (hf : f12_laysCalls n  a1 M = some (r, M')) : CV l z (yd z b) 32 b yX12_laysCalls cX12_laysCalls 5 none rm12_laysCalls [.ref (b + 0), .int a1] M M' :=
  CV.ofW (lv := [(0, .ref (b + 0)), (1, .int a1)]) (by decide) (Nat.le_of_ble_eq_true rfl) rfl (fun p e s m args below meth c ls C hr hk hP hS hl => w12_laysCalls_0 (n := n)  C hr hk (l12_laysCalls  C hr hk n) hf hP hS hl)

-- BronzeKingModel.calls(II)I
theorem dX12_calls_0 : decode cX12_calls 0 = .ok (.iload_n 1, 1) := by decide +kernel
theorem dX12_calls_1 : decode cX12_calls 1 = .ok (.iconst 1, 1) := by decide +kernel
theorem dX12_calls_2 : decode cX12_calls 2 = .ok (.bipush 60, 2) := by decide +kernel
theorem dX12_calls_4 : decode cX12_calls 4 = .ok (.invokestatic 106, 3) := by decide +kernel
theorem dX12_calls_7 : decode cX12_calls 7 = .ok (.ifCond .eq 24, 3) := by decide +kernel
theorem dX12_calls_10 : decode cX12_calls 10 = .ok (.iload_n 2, 1) := by decide +kernel
theorem dX12_calls_11 : decode cX12_calls 11 = .ok (.iconst 0, 1) := by decide +kernel
theorem dX12_calls_12 : decode cX12_calls 12 = .ok (.bipush 8, 2) := by decide +kernel
theorem dX12_calls_14 : decode cX12_calls 14 = .ok (.invokestatic 106, 3) := by decide +kernel
theorem dX12_calls_17 : decode cX12_calls 17 = .ok (.ifCond .ne 16, 3) := by decide +kernel
theorem dX12_calls_20 : decode cX12_calls 20 = .ok (.iload_n 2, 1) := by decide +kernel
theorem dX12_calls_21 : decode cX12_calls 21 = .ok (.bipush 100, 2) := by decide +kernel
theorem dX12_calls_23 : decode cX12_calls 23 = .ok (.bipush 101, 2) := by decide +kernel
theorem dX12_calls_25 : decode cX12_calls 25 = .ok (.invokestatic 106, 3) := by decide +kernel
theorem dX12_calls_28 : decode cX12_calls 28 = .ok (.ifCond .ne 5, 3) := by decide +kernel
theorem dX12_calls_31 : decode cX12_calls 31 = .ok (.iconst (-1), 1) := by decide +kernel
theorem dX12_calls_32 : decode cX12_calls 32 = .ok (.ireturn, 1) := by decide +kernel
theorem dX12_calls_33 : decode cX12_calls 33 = .ok (.aload_n 0, 1) := by decide +kernel
theorem dX12_calls_34 : decode cX12_calls 34 = .ok (.iload_n 1, 1) := by decide +kernel
theorem dX12_calls_35 : decode cX12_calls 35 = .ok (.invokevirtual 374, 3) := by decide +kernel
theorem dX12_calls_38 : decode cX12_calls 38 = .ok (.iload_n 2, 1) := by decide +kernel
theorem dX12_calls_39 : decode cX12_calls 39 = .ok (.bipush 100, 2) := by decide +kernel
theorem dX12_calls_41 : decode cX12_calls 41 = .ok (.if_icmp .ge 23, 3) := by decide +kernel
theorem dX12_calls_44 : decode cX12_calls 44 = .ok (.iload_n 2, 1) := by decide +kernel
theorem dX12_calls_45 : decode cX12_calls 45 = .ok (.aload_n 0, 1) := by decide +kernel
theorem dX12_calls_46 : decode cX12_calls 46 = .ok (.getfield 361, 3) := by decide +kernel
theorem dX12_calls_49 : decode cX12_calls 49 = .ok (.if_icmp .ge 12, 3) := by decide +kernel
theorem dX12_calls_52 : decode cX12_calls 52 = .ok (.aload_n 0, 1) := by decide +kernel
theorem dX12_calls_53 : decode cX12_calls 53 = .ok (.getfield 83, 3) := by decide +kernel
theorem dX12_calls_56 : decode cX12_calls 56 = .ok (.iload_n 2, 1) := by decide +kernel
theorem dX12_calls_57 : decode cX12_calls 57 = .ok (.iaload, 1) := by decide +kernel
theorem dX12_calls_58 : decode cX12_calls 58 = .ok (.goto 5, 3) := by decide +kernel
theorem dX12_calls_61 : decode cX12_calls 61 = .ok (.bipush (-4), 2) := by decide +kernel
theorem dX12_calls_63 : decode cX12_calls 63 = .ok (.ireturn, 1) := by decide +kernel
theorem dX12_calls_64 : decode cX12_calls 64 = .ok (.iload_n 2, 1) := by decide +kernel
theorem dX12_calls_65 : decode cX12_calls 65 = .ok (.bipush 100, 2) := by decide +kernel
theorem dX12_calls_67 : decode cX12_calls 67 = .ok (.if_icmp .ne 10, 3) := by decide +kernel
theorem dX12_calls_70 : decode cX12_calls 70 = .ok (.aload_n 0, 1) := by decide +kernel
theorem dX12_calls_71 : decode cX12_calls 71 = .ok (.getfield 361, 3) := by decide +kernel
theorem dX12_calls_74 : decode cX12_calls 74 = .ok (.goto 7, 3) := by decide +kernel
theorem dX12_calls_77 : decode cX12_calls 77 = .ok (.aload_n 0, 1) := by decide +kernel
theorem dX12_calls_78 : decode cX12_calls 78 = .ok (.getfield 358, 3) := by decide +kernel
theorem dX12_calls_81 : decode cX12_calls 81 = .ok (.ireturn, 1) := by decide +kernel
def b12_calls_31 (rc : Nat → List Int32 → List Int64 → Mem → Option (Int32 × Mem)) (n : Nat) (M : Mem) : Option (Int32 × Mem) :=
  some ((-1 : Int32), M)
def b12_calls_33 (rc : Nat → List Int32 → List Int64 → Mem → Option (Int32 × Mem)) (n : Nat) (i1 : Int32) (i2 : Int32) (M : Mem) : Option (Int32 × Mem) :=
  bnd (f12_laysCalls n i1 M) fun r13 M14 =>
  (if (100 : Int32) ≤ i2 then (
   (if i2 = (100 : Int32) then (
    some ((M14.1 0 45), M14))
   else (
    some ((M14.1 0 46), M14))))
  else (
   (if (M14.1 0 45) ≤ i2 then (
    some ((-4 : Int32), M14))
   else (
    chk (inb i2 9) <|
    some ((M14.1 25 i2.toNatClampNeg), M14)))))
def b12_calls_0 (rc : Nat → List Int32 → List Int64 → Mem → Option (Int32 × Mem)) (n : Nat) (a1 : Int32) (a2 : Int32) (M : Mem) : Option (Int32 × Mem) :=
  bnd (f12_in n a1 (1 : Int32) (60 : Int32) M) fun r1 M2 =>
  (if r1 = 0 then (
   b12_calls_31  rc n  M2)
  else (
   bnd (f12_in n a2 (0 : Int32) (8 : Int32) M2) fun r5 M6 =>
   (if r5 = 0 then (
    bnd (f12_in n a2 (100 : Int32) (101 : Int32) M6) fun r9 M10 =>
    (if r9 = 0 then (
     b12_calls_31  rc n  M10)
    else (
     b12_calls_33  rc n a1 a2 M10)))
   else (
    b12_calls_33  rc n a1 a2 M6))))
def f12_calls (n : Nat) (a1 : Int32) (a2 : Int32) (M : Mem) : Option (Int32 × Mem) := b12_calls_0 (fun _ _ _ _ => none) n a1 a2 M
abbrev rm12_calls : Room := { frames := 8, cells := 0, slots := 0, locals := 189 }
theorem y12_calls_w : yV RX12 yX12_calls cX12_calls 3 (some .int) 2 := ⟨g_1573, g_1574, g_14, g_1575, rfl, by decide, by decide, by decide +kernel⟩
set_option maxHeartbeats 4000000 in
set_option maxRecDepth 100000 in
theorem w12_calls_31 {p : Program} {l : Launch} {e : Env} {s : State} {m : MethodId} {args : Array Value} {below : List Frame} {meth : Method} {c : Code} {z : Zt} {b : Nat}  (C : Cx p s m args c cX12_calls 3 RX12 z 32 b) (hr : meth.sig.returnType = (some .int)) (hk : meth.locks = false) {r : Int32} {M' : Mem} {rc : Nat → List Int32 → List Int64 → Mem → Option (Int32 × Mem)} {n : Nat}   {M : Mem} {H : Heap} {locs : List Loc} {ls : Array Slot} (hf : b12_calls_31  rc n  M = some (r, M')) (hP : va_P z.1 vwCl (pw (yd z b) 32 b M) H) (hS : va_S (pA 32 b) s.heap H locs) (hl : lv_has ls 3 []) : W p l e rm12_calls s m args below meth c H locs 0 0 (MQ below (va_Qi (fun (r' : Int32) (M2 : Mem) => r' = r ∧ M2 = M') (fun M2 t => va_P z.1 vwCl (pw (yd z b) 32 b M2) t.heap) (pA 32 b)) args s 0 0 (pA 32 b)) (F0 m 31 ls []) := by
  have hx := C.1.1
  have hb := C.1.2.1
  unfold b12_calls_31 at hf
  refine lv_iconst (v := (-1 : Int32)) hx hb dX12_calls_31 (by decide) ?_
  exact prI C hr hk hP hS hf dX12_calls_32
set_option maxHeartbeats 4000000 in
set_option maxRecDepth 100000 in
theorem w12_calls_33 {p : Program} {l : Launch} {e : Env} {s : State} {m : MethodId} {args : Array Value} {below : List Frame} {meth : Method} {c : Code} {z : Zt} {b : Nat}  (C : Cx p s m args c cX12_calls 3 RX12 z 32 b) (hr : meth.sig.returnType = (some .int)) (hk : meth.locks = false) {r : Int32} {M' : Mem} {rc : Nat → List Int32 → List Int64 → Mem → Option (Int32 × Mem)} {n : Nat}  {i1 : Int32} {i2 : Int32} {M : Mem} {H : Heap} {locs : List Loc} {ls : Array Slot} (hf : b12_calls_33  rc n i1 i2 M = some (r, M')) (hP : va_P z.1 vwCl (pw (yd z b) 32 b M) H) (hS : va_S (pA 32 b) s.heap H locs) (hl : lv_has ls 3 [(0, .ref (b + 0)), (1, .int i1), (2, .int i2)]) : W p l e rm12_calls s m args below meth c H locs 0 0 (MQ below (va_Qi (fun (r' : Int32) (M2 : Mem) => r' = r ∧ M2 = M') (fun M2 t => va_P z.1 vwCl (pw (yd z b) 32 b M2) t.heap) (pA 32 b)) args s 0 0 (pA 32 b)) (F0 m 33 ls []) := by
  have hx := C.1.1
  have hb := C.1.2.1
  unfold b12_calls_33 at hf
  refine lv_aload_n hx hb dX12_calls_33 rfl (lv_at hl 0 rfl) ?_
  refine lv_iload_n hx hb dX12_calls_34 rfl (lv_at hl 1 rfl) ?_
  obtain ⟨r13, M14, h15, hf⟩ := bnd_s hf
  refine pcVv (As := [.int i1]) C hP hS (k := 0) (Nat.le_of_ble_eq_true rfl) (yd_0 _ _) rfl (c12_laysCalls  h15) y12_laysCalls_w g_1576 rfl rfl rfl ⟨Nat.le_of_ble_eq_true rfl, Nat.le_of_ble_eq_true rfl⟩ hl.1 rfl (Nat.le_of_ble_eq_true rfl) dX12_calls_35 ⟨Nat.le_of_ble_eq_true rfl, Nat.le_of_ble_eq_true rfl⟩ (fun H locs hP hS => ?_)
  refine lv_iload_n hx hb dX12_calls_38 rfl (lv_at hl 2 rfl) ?_
  refine lv_bipush (v := (100 : Int32)) hx hb dX12_calls_39 (by decide) ?_
  refine lv_icmp_ge (tgt := 64) hx hb dX12_calls_41 (by decide) (fun c16 => ?_) (fun c16 => ?_)
  · replace hf := ite_t c16 hf
    refine lv_iload_n hx hb dX12_calls_64 rfl (lv_at hl 2 rfl) ?_
    refine lv_bipush (v := (100 : Int32)) hx hb dX12_calls_65 (by decide) ?_
    refine lv_icmp_ne (tgt := 77) hx hb dX12_calls_67 (by decide) (fun c17 => ?_) (fun c17 => ?_)
    · replace hf := ite_f c17 hf
      refine lv_aload_n hx hb dX12_calls_77 rfl (lv_at hl 0 rfl) ?_
      refine pg C hP (k := 0) (j := 46) (Nat.le_of_ble_eq_true rfl) (yd_0 _ _) rfl iw_12 (Nat.le_of_ble_eq_true rfl) g_1181 rfl rfl dX12_calls_78 ?_
      exact prI C hr hk hP hS hf dX12_calls_81
    · replace hf := ite_t c17 hf
      refine lv_aload_n hx hb dX12_calls_70 rfl (lv_at hl 0 rfl) ?_
      refine pg C hP (k := 0) (j := 45) (Nat.le_of_ble_eq_true rfl) (yd_0 _ _) rfl iw_12 (Nat.le_of_ble_eq_true rfl) g_1180 rfl rfl dX12_calls_71 ?_
      refine lv_goto (tgt := 81) hx hb dX12_calls_74 (by decide) ?_
      exact prI C hr hk hP hS hf dX12_calls_81
  · replace hf := ite_f c16 hf
    refine lv_iload_n hx hb dX12_calls_44 rfl (lv_at hl 2 rfl) ?_
    refine lv_aload_n hx hb dX12_calls_45 rfl (lv_at hl 0 rfl) ?_
    refine pg C hP (k := 0) (j := 45) (Nat.le_of_ble_eq_true rfl) (yd_0 _ _) rfl iw_12 (Nat.le_of_ble_eq_true rfl) g_1180 rfl rfl dX12_calls_46 ?_
    refine lv_icmp_ge (tgt := 61) hx hb dX12_calls_49 (by decide) (fun c18 => ?_) (fun c18 => ?_)
    · replace hf := ite_t c18 hf
      refine lv_bipush (v := (-4 : Int32)) hx hb dX12_calls_61 (by decide) ?_
      exact prI C hr hk hP hS hf dX12_calls_63
    · replace hf := ite_f c18 hf
      refine lv_aload_n hx hb dX12_calls_52 rfl (lv_at hl 0 rfl) ?_
      refine pg C hP (k := 0) (j := 44) (Nat.le_of_ble_eq_true rfl) (yd_0 _ _) rfl iw_12 (Nat.le_of_ble_eq_true rfl) g_1179 rfl rfl dX12_calls_53 ?_
      refine lv_iload_n hx hb dX12_calls_56 rfl (lv_at hl 2 rfl) ?_
      have h19 := chk_1 hf
      replace hf := chk_2 hf
      refine paI C hP (k := 25) (Nat.le_of_ble_eq_true rfl) (yd_25 _ _) h19 dX12_calls_57 ?_
      refine lv_goto (tgt := 63) hx hb dX12_calls_58 (by decide) ?_
      exact prI C hr hk hP hS hf dX12_calls_63
set_option maxHeartbeats 4000000 in
set_option maxRecDepth 100000 in
theorem w12_calls_0 {p : Program} {l : Launch} {e : Env} {s : State} {m : MethodId} {args : Array Value} {below : List Frame} {meth : Method} {c : Code} {z : Zt} {b : Nat}  (C : Cx p s m args c cX12_calls 3 RX12 z 32 b) (hr : meth.sig.returnType = (some .int)) (hk : meth.locks = false) {r : Int32} {M' : Mem} {rc : Nat → List Int32 → List Int64 → Mem → Option (Int32 × Mem)} {n : Nat}  {a1 : Int32} {a2 : Int32} {M : Mem} {H : Heap} {locs : List Loc} {ls : Array Slot} (hf : b12_calls_0  rc n a1 a2 M = some (r, M')) (hP : va_P z.1 vwCl (pw (yd z b) 32 b M) H) (hS : va_S (pA 32 b) s.heap H locs) (hl : lv_has ls 3 [(0, .ref (b + 0)), (1, .int a1), (2, .int a2)]) : W p l e rm12_calls s m args below meth c H locs 0 0 (MQ below (va_Qi (fun (r' : Int32) (M2 : Mem) => r' = r ∧ M2 = M') (fun M2 t => va_P z.1 vwCl (pw (yd z b) 32 b M2) t.heap) (pA 32 b)) args s 0 0 (pA 32 b)) (F0 m 0 ls []) := by
  have hx := C.1.1
  have hb := C.1.2.1
  unfold b12_calls_0 at hf
  refine lv_iload_n hx hb dX12_calls_0 rfl (lv_at hl 1 rfl) ?_
  refine lv_iconst (v := (1 : Int32)) hx hb dX12_calls_1 (by decide) ?_
  refine lv_bipush (v := (60 : Int32)) hx hb dX12_calls_2 (by decide) ?_
  obtain ⟨r1, M2, h3, hf⟩ := bnd_s hf
  refine pcSi (As := [.int a1, .int (1 : Int32), .int (60 : Int32)]) C hP hS (c12_in  h3) y12_in_w g_1306 rfl rfl rfl ⟨Nat.le_of_ble_eq_true rfl, Nat.le_of_ble_eq_true rfl⟩ hl.1 rfl (Nat.le_of_ble_eq_true rfl) dX12_calls_4 ⟨Nat.le_of_ble_eq_true rfl, Nat.le_of_ble_eq_true rfl⟩ (fun H locs hP hS => ?_)
  refine lv_if_eq (tgt := 31) hx hb dX12_calls_7 (by decide) (fun c4 => ?_) (fun c4 => ?_)
  · replace hf := ite_t c4 hf
    exact w12_calls_31 (n := n)  C hr hk  hf hP hS (lv_sub hl [] rfl)
  · replace hf := ite_f c4 hf
    refine lv_iload_n hx hb dX12_calls_10 rfl (lv_at hl 2 rfl) ?_
    refine lv_iconst (v := (0 : Int32)) hx hb dX12_calls_11 (by decide) ?_
    refine lv_bipush (v := (8 : Int32)) hx hb dX12_calls_12 (by decide) ?_
    obtain ⟨r5, M6, h7, hf⟩ := bnd_s hf
    refine pcSi (As := [.int a2, .int (0 : Int32), .int (8 : Int32)]) C hP hS (c12_in  h7) y12_in_w g_1306 rfl rfl rfl ⟨Nat.le_of_ble_eq_true rfl, Nat.le_of_ble_eq_true rfl⟩ hl.1 rfl (Nat.le_of_ble_eq_true rfl) dX12_calls_14 ⟨Nat.le_of_ble_eq_true rfl, Nat.le_of_ble_eq_true rfl⟩ (fun H locs hP hS => ?_)
    refine lv_if_ne (tgt := 33) hx hb dX12_calls_17 (by decide) (fun c8 => ?_) (fun c8 => ?_)
    · replace hf := ite_f c8 hf
      exact w12_calls_33 (n := n)  C hr hk  hf hP hS (lv_sub hl [0, 1, 2] rfl)
    · replace hf := ite_t c8 hf
      refine lv_iload_n hx hb dX12_calls_20 rfl (lv_at hl 2 rfl) ?_
      refine lv_bipush (v := (100 : Int32)) hx hb dX12_calls_21 (by decide) ?_
      refine lv_bipush (v := (101 : Int32)) hx hb dX12_calls_23 (by decide) ?_
      obtain ⟨r9, M10, h11, hf⟩ := bnd_s hf
      refine pcSi (As := [.int a2, .int (100 : Int32), .int (101 : Int32)]) C hP hS (c12_in  h11) y12_in_w g_1306 rfl rfl rfl ⟨Nat.le_of_ble_eq_true rfl, Nat.le_of_ble_eq_true rfl⟩ hl.1 rfl (Nat.le_of_ble_eq_true rfl) dX12_calls_25 ⟨Nat.le_of_ble_eq_true rfl, Nat.le_of_ble_eq_true rfl⟩ (fun H locs hP hS => ?_)
      refine lv_if_ne (tgt := 33) hx hb dX12_calls_28 (by decide) (fun c12 => ?_) (fun c12 => ?_)
      · replace hf := ite_f c12 hf
        exact w12_calls_33 (n := n)  C hr hk  hf hP hS (lv_sub hl [0, 1, 2] rfl)
      · replace hf := ite_t c12 hf
        exact w12_calls_31 (n := n)  C hr hk  hf hP hS (lv_sub hl [] rfl)
theorem c12_calls {l : Launch} {z : Zt} {b n : Nat}  {a1 : Int32} {a2 : Int32} {M M' : Mem} {r : Int32} (hf : f12_calls n  a1 a2 M = some (r, M')) : CI l z (yd z b) 32 b yX12_calls cX12_calls 3 (some .int) rm12_calls [.ref (b + 0), .int a1, .int a2] M M' r :=
  CI.ofW (lv := [(0, .ref (b + 0)), (1, .int a1), (2, .int a2)]) (by decide) (Nat.le_of_ble_eq_true rfl) rfl (fun p e s m args below meth c ls C hr hk hP hS hl => w12_calls_0 (n := n)  C hr hk  hf hP hS hl)

-- BronzeKingModel.laysCosts(II)V
theorem dX12_laysCosts_0 : decode cX12_laysCosts 0 = .ok (.iconst 0, 1) := by decide +kernel
theorem dX12_laysCosts_1 : decode cX12_laysCosts 1 = .ok (.istore_n 3, 1) := by decide +kernel
theorem dX12_laysCosts_2 : decode cX12_laysCosts 2 = .ok (.iload_n 3, 1) := by decide +kernel
theorem dX12_laysCosts_3 : decode cX12_laysCosts 3 = .ok (.bipush 96, 2) := by decide +kernel
theorem dX12_laysCosts_5 : decode cX12_laysCosts 5 = .ok (.if_icmp .ge 18, 3) := by decide +kernel
theorem dX12_laysCosts_8 : decode cX12_laysCosts 8 = .ok (.aload_n 0, 1) := by decide +kernel
theorem dX12_laysCosts_9 : decode cX12_laysCosts 9 = .ok (.getfield 86, 3) := by decide +kernel
theorem dX12_laysCosts_12 : decode cX12_laysCosts 12 = .ok (.iload_n 3, 1) := by decide +kernel
theorem dX12_laysCosts_13 : decode cX12_laysCosts 13 = .ok (.ldc_w 351, 3) := by decide +kernel
theorem dX12_laysCosts_16 : decode cX12_laysCosts 16 = .ok (.iastore, 1) := by decide +kernel
theorem dX12_laysCosts_17 : decode cX12_laysCosts 17 = .ok (.iinc 3 1, 3) := by decide +kernel
theorem dX12_laysCosts_20 : decode cX12_laysCosts 20 = .ok (.goto (-18), 3) := by decide +kernel
theorem dX12_laysCosts_23 : decode cX12_laysCosts 23 = .ok (.aload_n 0, 1) := by decide +kernel
theorem dX12_laysCosts_24 : decode cX12_laysCosts 24 = .ok (.getfield 86, 3) := by decide +kernel
theorem dX12_laysCosts_27 : decode cX12_laysCosts 27 = .ok (.aload_n 0, 1) := by decide +kernel
theorem dX12_laysCosts_28 : decode cX12_laysCosts 28 = .ok (.getfield 110, 3) := by decide +kernel
theorem dX12_laysCosts_31 : decode cX12_laysCosts 31 = .ok (.iconst 0, 1) := by decide +kernel
theorem dX12_laysCosts_32 : decode cX12_laysCosts 32 = .ok (.iastore, 1) := by decide +kernel
theorem dX12_laysCosts_33 : decode cX12_laysCosts 33 = .ok (.iconst 1, 1) := by decide +kernel
theorem dX12_laysCosts_34 : decode cX12_laysCosts 34 = .ok (.istore_n 3, 1) := by decide +kernel
theorem dX12_laysCosts_35 : decode cX12_laysCosts 35 = .ok (.iload_n 3, 1) := by decide +kernel
theorem dX12_laysCosts_36 : decode cX12_laysCosts 36 = .ok (.ifCond .eq 141, 3) := by decide +kernel
theorem dX12_laysCosts_39 : decode cX12_laysCosts 39 = .ok (.iconst 0, 1) := by decide +kernel
theorem dX12_laysCosts_40 : decode cX12_laysCosts 40 = .ok (.istore_n 3, 1) := by decide +kernel
theorem dX12_laysCosts_41 : decode cX12_laysCosts 41 = .ok (.iconst 0, 1) := by decide +kernel
theorem dX12_laysCosts_42 : decode cX12_laysCosts 42 = .ok (.istore 4, 2) := by decide +kernel
theorem dX12_laysCosts_44 : decode cX12_laysCosts 44 = .ok (.iload 4, 2) := by decide +kernel
theorem dX12_laysCosts_46 : decode cX12_laysCosts 46 = .ok (.bipush 96, 2) := by decide +kernel
theorem dX12_laysCosts_48 : decode cX12_laysCosts 48 = .ok (.if_icmp .ge 126, 3) := by decide +kernel
theorem dX12_laysCosts_51 : decode cX12_laysCosts 51 = .ok (.iconst 0, 1) := by decide +kernel
theorem dX12_laysCosts_52 : decode cX12_laysCosts 52 = .ok (.istore 5, 2) := by decide +kernel
theorem dX12_laysCosts_54 : decode cX12_laysCosts 54 = .ok (.iload 5, 2) := by decide +kernel
theorem dX12_laysCosts_56 : decode cX12_laysCosts 56 = .ok (.iconst 4, 1) := by decide +kernel
theorem dX12_laysCosts_57 : decode cX12_laysCosts 57 = .ok (.if_icmp .ge 111, 3) := by decide +kernel
theorem dX12_laysCosts_60 : decode cX12_laysCosts 60 = .ok (.iload 4, 2) := by decide +kernel
theorem dX12_laysCosts_62 : decode cX12_laysCosts 62 = .ok (.iload 5, 2) := by decide +kernel
theorem dX12_laysCosts_64 : decode cX12_laysCosts 64 = .ok (.invokestatic 126, 3) := by decide +kernel
theorem dX12_laysCosts_67 : decode cX12_laysCosts 67 = .ok (.istore 6, 2) := by decide +kernel
theorem dX12_laysCosts_69 : decode cX12_laysCosts 69 = .ok (.aload_n 0, 1) := by decide +kernel
theorem dX12_laysCosts_70 : decode cX12_laysCosts 70 = .ok (.getfield 86, 3) := by decide +kernel
theorem dX12_laysCosts_73 : decode cX12_laysCosts 73 = .ok (.iload 4, 2) := by decide +kernel
theorem dX12_laysCosts_75 : decode cX12_laysCosts 75 = .ok (.iaload, 1) := by decide +kernel
theorem dX12_laysCosts_76 : decode cX12_laysCosts 76 = .ok (.ldc_w 351, 3) := by decide +kernel
theorem dX12_laysCosts_79 : decode cX12_laysCosts 79 = .ok (.if_icmp .eq 83, 3) := by decide +kernel
theorem dX12_laysCosts_82 : decode cX12_laysCosts 82 = .ok (.iload 6, 2) := by decide +kernel
theorem dX12_laysCosts_84 : decode cX12_laysCosts 84 = .ok (.iconst (-1), 1) := by decide +kernel
theorem dX12_laysCosts_85 : decode cX12_laysCosts 85 = .ok (.if_icmp .eq 77, 3) := by decide +kernel
theorem dX12_laysCosts_88 : decode cX12_laysCosts 88 = .ok (.aload_n 0, 1) := by decide +kernel
theorem dX12_laysCosts_89 : decode cX12_laysCosts 89 = .ok (.iload 6, 2) := by decide +kernel
theorem dX12_laysCosts_91 : decode cX12_laysCosts 91 = .ok (.invokevirtual 122, 3) := by decide +kernel
theorem dX12_laysCosts_94 : decode cX12_laysCosts 94 = .ok (.ifCond .ne 16, 3) := by decide +kernel
theorem dX12_laysCosts_97 : decode cX12_laysCosts 97 = .ok (.aload_n 0, 1) := by decide +kernel
theorem dX12_laysCosts_98 : decode cX12_laysCosts 98 = .ok (.getfield 19, 3) := by decide +kernel
theorem dX12_laysCosts_101 : decode cX12_laysCosts 101 = .ok (.iload 6, 2) := by decide +kernel
theorem dX12_laysCosts_103 : decode cX12_laysCosts 103 = .ok (.iaload, 1) := by decide +kernel
theorem dX12_laysCosts_104 : decode cX12_laysCosts 104 = .ok (.ifCond .ne 6, 3) := by decide +kernel
theorem dX12_laysCosts_107 : decode cX12_laysCosts 107 = .ok (.goto 55, 3) := by decide +kernel
theorem dX12_laysCosts_110 : decode cX12_laysCosts 110 = .ok (.aload_n 0, 1) := by decide +kernel
theorem dX12_laysCosts_111 : decode cX12_laysCosts 111 = .ok (.getfield 86, 3) := by decide +kernel
theorem dX12_laysCosts_114 : decode cX12_laysCosts 114 = .ok (.iload 4, 2) := by decide +kernel
theorem dX12_laysCosts_116 : decode cX12_laysCosts 116 = .ok (.iaload, 1) := by decide +kernel
theorem dX12_laysCosts_117 : decode cX12_laysCosts 117 = .ok (.iload_n 1, 1) := by decide +kernel
theorem dX12_laysCosts_118 : decode cX12_laysCosts 118 = .ok (.iadd, 1) := by decide +kernel
theorem dX12_laysCosts_119 : decode cX12_laysCosts 119 = .ok (.aload_n 0, 1) := by decide +kernel
theorem dX12_laysCosts_120 : decode cX12_laysCosts 120 = .ok (.iload 6, 2) := by decide +kernel
theorem dX12_laysCosts_122 : decode cX12_laysCosts 122 = .ok (.invokevirtual 122, 3) := by decide +kernel
theorem dX12_laysCosts_125 : decode cX12_laysCosts 125 = .ok (.ifCond .eq 7, 3) := by decide +kernel
theorem dX12_laysCosts_128 : decode cX12_laysCosts 128 = .ok (.iconst 0, 1) := by decide +kernel
theorem dX12_laysCosts_129 : decode cX12_laysCosts 129 = .ok (.goto 4, 3) := by decide +kernel
theorem dX12_laysCosts_132 : decode cX12_laysCosts 132 = .ok (.iload_n 2, 1) := by decide +kernel
theorem dX12_laysCosts_133 : decode cX12_laysCosts 133 = .ok (.iadd, 1) := by decide +kernel
theorem dX12_laysCosts_134 : decode cX12_laysCosts 134 = .ok (.istore 7, 2) := by decide +kernel
theorem dX12_laysCosts_136 : decode cX12_laysCosts 136 = .ok (.iload 7, 2) := by decide +kernel
theorem dX12_laysCosts_138 : decode cX12_laysCosts 138 = .ok (.aload_n 0, 1) := by decide +kernel
theorem dX12_laysCosts_139 : decode cX12_laysCosts 139 = .ok (.getfield 86, 3) := by decide +kernel
theorem dX12_laysCosts_142 : decode cX12_laysCosts 142 = .ok (.iload 6, 2) := by decide +kernel
theorem dX12_laysCosts_144 : decode cX12_laysCosts 144 = .ok (.iaload, 1) := by decide +kernel
theorem dX12_laysCosts_145 : decode cX12_laysCosts 145 = .ok (.if_icmp .lt 6, 3) := by decide +kernel
theorem dX12_laysCosts_148 : decode cX12_laysCosts 148 = .ok (.goto 14, 3) := by decide +kernel
theorem dX12_laysCosts_151 : decode cX12_laysCosts 151 = .ok (.aload_n 0, 1) := by decide +kernel
theorem dX12_laysCosts_152 : decode cX12_laysCosts 152 = .ok (.getfield 86, 3) := by decide +kernel
theorem dX12_laysCosts_155 : decode cX12_laysCosts 155 = .ok (.iload 6, 2) := by decide +kernel
theorem dX12_laysCosts_157 : decode cX12_laysCosts 157 = .ok (.iload 7, 2) := by decide +kernel
theorem dX12_laysCosts_159 : decode cX12_laysCosts 159 = .ok (.iastore, 1) := by decide +kernel
theorem dX12_laysCosts_160 : decode cX12_laysCosts 160 = .ok (.iconst 1, 1) := by decide +kernel
theorem dX12_laysCosts_161 : decode cX12_laysCosts 161 = .ok (.istore_n 3, 1) := by decide +kernel
theorem dX12_laysCosts_162 : decode cX12_laysCosts 162 = .ok (.iinc 5 1, 3) := by decide +kernel
theorem dX12_laysCosts_165 : decode cX12_laysCosts 165 = .ok (.goto (-111), 3) := by decide +kernel
theorem dX12_laysCosts_168 : decode cX12_laysCosts 168 = .ok (.iinc 4 1, 3) := by decide +kernel
theorem dX12_laysCosts_171 : decode cX12_laysCosts 171 = .ok (.goto (-127), 3) := by decide +kernel
theorem dX12_laysCosts_174 : decode cX12_laysCosts 174 = .ok (.goto (-139), 3) := by decide +kernel
theorem dX12_laysCosts_177 : decode cX12_laysCosts 177 = .ok (.return_, 1) := by decide +kernel
def b12_laysCosts_162 (rc : Nat → List Int32 → List Int64 → Mem → Option (Unit × Mem)) (n : Nat) (i1 : Int32) (i2 : Int32) (i3 : Int32) (i4 : Int32) (i5 : Int32) (M : Mem) : Option (Unit × Mem) :=
  lt (i5 + (1 : Int32)) fun v33 =>
  rc 54 [i1, i2, i3, i4, v33] [] M
def b12_laysCosts_133 (rc : Nat → List Int32 → List Int64 → Mem → Option (Unit × Mem)) (n : Nat) (i1 : Int32) (i2 : Int32) (i3 : Int32) (i4 : Int32) (i5 : Int32) (i6 : Int32) (s0 : Int32) (s1 : Int32) (M : Mem) : Option (Unit × Mem) :=
  lt (s0 + s1) fun v28 =>
  chk (inb i6 96) <|
  (if v28 < (M.1 26 i6.toNatClampNeg) then (
   chk (inb i6 96) <|
   lt (wI M 26 i6.toNatClampNeg v28) fun M32 =>
   b12_laysCosts_162  rc n i1 i2 (1 : Int32) i4 i5 M32)
  else (
   b12_laysCosts_162  rc n i1 i2 i3 i4 i5 M))
def b12_laysCosts_110 (rc : Nat → List Int32 → List Int64 → Mem → Option (Unit × Mem)) (n : Nat) (i1 : Int32) (i2 : Int32) (i3 : Int32) (i4 : Int32) (i5 : Int32) (i6 : Int32) (M : Mem) : Option (Unit × Mem) :=
  chk (inb i4 96) <|
  bnd (f12_isOpen n i6 M) fun r24 M25 =>
  (if r24 = 0 then (
   b12_laysCosts_133  rc n i1 i2 i3 i4 i5 i6 ((M.1 26 i4.toNatClampNeg) + i1) i2 M25)
  else (
   b12_laysCosts_133  rc n i1 i2 i3 i4 i5 i6 ((M.1 26 i4.toNatClampNeg) + i1) (0 : Int32) M25))
def b12_laysCosts_54 (rc : Nat → List Int32 → List Int64 → Mem → Option (Unit × Mem)) (n : Nat) (i1 : Int32) (i2 : Int32) (i3 : Int32) (i4 : Int32) (i5 : Int32) (M : Mem) : Option (Unit × Mem) :=
  (if (4 : Int32) ≤ i5 then (
   lt (i4 + (1 : Int32)) fun v10 =>
   rc 44 [i1, i2, i3, v10] [] M)
  else (
   bnd (f12_beside n i4 i5 M) fun r11 M12 =>
   chk (inb i4 96) <|
   (if (M12.1 26 i4.toNatClampNeg) = (1000000 : Int32) then (
    b12_laysCosts_162  rc n i1 i2 i3 i4 i5 M12)
   else (
    (if r11 = (-1 : Int32) then (
     b12_laysCosts_162  rc n i1 i2 i3 i4 i5 M12)
    else (
     bnd (f12_isOpen n r11 M12) fun r17 M18 =>
     (if r17 = 0 then (
      chk (inb r11 96) <|
      (if (M18.1 4 r11.toNatClampNeg) = 0 then (
       b12_laysCosts_162  rc n i1 i2 i3 i4 i5 M18)
      else (
       b12_laysCosts_110  rc n i1 i2 i3 i4 i5 r11 M18)))
     else (
      b12_laysCosts_110  rc n i1 i2 i3 i4 i5 r11 M18))))))))
def b12_laysCosts_44 (rc : Nat → List Int32 → List Int64 → Mem → Option (Unit × Mem)) (n : Nat) (i1 : Int32) (i2 : Int32) (i3 : Int32) (i4 : Int32) (M : Mem) : Option (Unit × Mem) :=
  (if (96 : Int32) ≤ i4 then (
   rc 35 [i1, i2, i3] [] M)
  else (
   b12_laysCosts_54  rc n i1 i2 i3 i4 (0 : Int32) M))
def b12_laysCosts_35 (rc : Nat → List Int32 → List Int64 → Mem → Option (Unit × Mem)) (n : Nat) (i1 : Int32) (i2 : Int32) (i3 : Int32) (M : Mem) : Option (Unit × Mem) :=
  (if i3 = 0 then (
   some ((), M))
  else (
   b12_laysCosts_44  rc n i1 i2 (0 : Int32) (0 : Int32) M))
def b12_laysCosts_2 (rc : Nat → List Int32 → List Int64 → Mem → Option (Unit × Mem)) (n : Nat) (i1 : Int32) (i2 : Int32) (i3 : Int32) (M : Mem) : Option (Unit × Mem) :=
  (if (96 : Int32) ≤ i3 then (
   chk (inb (M.1 0 5) 96) <|
   lt (wI M 26 (M.1 0 5).toNatClampNeg (0 : Int32)) fun M3 =>
   b12_laysCosts_35  rc n i1 i2 (1 : Int32) M3)
  else (
   chk (inb i3 96) <|
   lt (wI M 26 i3.toNatClampNeg (1000000 : Int32)) fun M5 =>
   lt (i3 + (1 : Int32)) fun v6 =>
   rc 2 [i1, i2, v6] [] M5))
def b12_laysCosts_0 (rc : Nat → List Int32 → List Int64 → Mem → Option (Unit × Mem)) (n : Nat) (a1 : Int32) (a2 : Int32) (M : Mem) : Option (Unit × Mem) :=
  b12_laysCosts_2  rc n a1 a2 (0 : Int32) M
def r12_laysCosts : Nat → Nat → List Int32 → List Int64 → Mem → Option (Unit × Mem)
  | 0 => fun _ _ _ _ => none
  | n + 1 => fun pc li lj M =>
    if pc = 2 then (match li, lj with | [i1, i2, i3], [] => b12_laysCosts_2  (r12_laysCosts  n) n i1 i2 i3 M | _, _ => none) else
    if pc = 35 then (match li, lj with | [i1, i2, i3], [] => b12_laysCosts_35  (r12_laysCosts  n) n i1 i2 i3 M | _, _ => none) else
    if pc = 44 then (match li, lj with | [i1, i2, i3, i4], [] => b12_laysCosts_44  (r12_laysCosts  n) n i1 i2 i3 i4 M | _, _ => none) else
    if pc = 54 then (match li, lj with | [i1, i2, i3, i4, i5], [] => b12_laysCosts_54  (r12_laysCosts  n) n i1 i2 i3 i4 i5 M | _, _ => none) else
    none
theorem e12_laysCosts_2  (n : Nat) (i1 : Int32) (i2 : Int32) (i3 : Int32) (M : Mem) : r12_laysCosts  (n + 1) 2 [i1, i2, i3] [] M = b12_laysCosts_2  (r12_laysCosts  n) n i1 i2 i3 M := by
  rw [r12_laysCosts]
  simp
theorem e12_laysCosts_35  (n : Nat) (i1 : Int32) (i2 : Int32) (i3 : Int32) (M : Mem) : r12_laysCosts  (n + 1) 35 [i1, i2, i3] [] M = b12_laysCosts_35  (r12_laysCosts  n) n i1 i2 i3 M := by
  rw [r12_laysCosts]
  simp
theorem e12_laysCosts_44  (n : Nat) (i1 : Int32) (i2 : Int32) (i3 : Int32) (i4 : Int32) (M : Mem) : r12_laysCosts  (n + 1) 44 [i1, i2, i3, i4] [] M = b12_laysCosts_44  (r12_laysCosts  n) n i1 i2 i3 i4 M := by
  rw [r12_laysCosts]
  simp
theorem e12_laysCosts_54  (n : Nat) (i1 : Int32) (i2 : Int32) (i3 : Int32) (i4 : Int32) (i5 : Int32) (M : Mem) : r12_laysCosts  (n + 1) 54 [i1, i2, i3, i4, i5] [] M = b12_laysCosts_54  (r12_laysCosts  n) n i1 i2 i3 i4 i5 M := by
  rw [r12_laysCosts]
  simp
def f12_laysCosts (n : Nat) (a1 : Int32) (a2 : Int32) (M : Mem) : Option (Unit × Mem) := b12_laysCosts_0 (r12_laysCosts n) n a1 a2 M
abbrev rm12_laysCosts : Room := { frames := 3, cells := 0, slots := 0, locals := 66 }
theorem y12_laysCosts_w : yV RX12 yX12_laysCosts cX12_laysCosts 8 none 2 := ⟨g_1607, gp 85 rfl rfl, g_14, g_1608, rfl, by decide, by decide, by decide +kernel⟩
set_option maxHeartbeats 4000000 in
set_option maxRecDepth 100000 in
theorem w12_laysCosts_162 {p : Program} {l : Launch} {e : Env} {s : State} {m : MethodId} {args : Array Value} {below : List Frame} {meth : Method} {c : Code} {z : Zt} {b : Nat}  (C : Cx p s m args c cX12_laysCosts 8 RX12 z 32 b) (hr : meth.sig.returnType = none) (hk : meth.locks = false) {r : Unit} {M' : Mem} {rc : Nat → List Int32 → List Int64 → Mem → Option (Unit × Mem)} {n : Nat} (q2 : ∀ (i1 : Int32) (i2 : Int32) (i3 : Int32) (M : Mem) (H : Heap) (locs : List Loc) (ls : Array Slot), rc 2 [i1, i2, i3] [] M = some (r, M') → va_P z.1 vwCl (pw (yd z b) 32 b M) H → va_S (pA 32 b) s.heap H locs → lv_has ls 8 [(0, .ref (b + 0)), (1, .int i1), (2, .int i2), (3, .int i3)] → W p l e rm12_laysCosts s m args below meth c H locs 0 0 (MQ below (va_Qv (fun (M2 : Mem) => M2 = M') (fun M2 t => va_P z.1 vwCl (pw (yd z b) 32 b M2) t.heap) (pA 32 b)) args s 0 0 (pA 32 b)) (F0 m 2 ls [])) (q35 : ∀ (i1 : Int32) (i2 : Int32) (i3 : Int32) (M : Mem) (H : Heap) (locs : List Loc) (ls : Array Slot), rc 35 [i1, i2, i3] [] M = some (r, M') → va_P z.1 vwCl (pw (yd z b) 32 b M) H → va_S (pA 32 b) s.heap H locs → lv_has ls 8 [(0, .ref (b + 0)), (1, .int i1), (2, .int i2), (3, .int i3)] → W p l e rm12_laysCosts s m args below meth c H locs 0 0 (MQ below (va_Qv (fun (M2 : Mem) => M2 = M') (fun M2 t => va_P z.1 vwCl (pw (yd z b) 32 b M2) t.heap) (pA 32 b)) args s 0 0 (pA 32 b)) (F0 m 35 ls [])) (q44 : ∀ (i1 : Int32) (i2 : Int32) (i3 : Int32) (i4 : Int32) (M : Mem) (H : Heap) (locs : List Loc) (ls : Array Slot), rc 44 [i1, i2, i3, i4] [] M = some (r, M') → va_P z.1 vwCl (pw (yd z b) 32 b M) H → va_S (pA 32 b) s.heap H locs → lv_has ls 8 [(0, .ref (b + 0)), (1, .int i1), (2, .int i2), (3, .int i3), (4, .int i4)] → W p l e rm12_laysCosts s m args below meth c H locs 0 0 (MQ below (va_Qv (fun (M2 : Mem) => M2 = M') (fun M2 t => va_P z.1 vwCl (pw (yd z b) 32 b M2) t.heap) (pA 32 b)) args s 0 0 (pA 32 b)) (F0 m 44 ls [])) (q54 : ∀ (i1 : Int32) (i2 : Int32) (i3 : Int32) (i4 : Int32) (i5 : Int32) (M : Mem) (H : Heap) (locs : List Loc) (ls : Array Slot), rc 54 [i1, i2, i3, i4, i5] [] M = some (r, M') → va_P z.1 vwCl (pw (yd z b) 32 b M) H → va_S (pA 32 b) s.heap H locs → lv_has ls 8 [(0, .ref (b + 0)), (1, .int i1), (2, .int i2), (3, .int i3), (4, .int i4), (5, .int i5)] → W p l e rm12_laysCosts s m args below meth c H locs 0 0 (MQ below (va_Qv (fun (M2 : Mem) => M2 = M') (fun M2 t => va_P z.1 vwCl (pw (yd z b) 32 b M2) t.heap) (pA 32 b)) args s 0 0 (pA 32 b)) (F0 m 54 ls [])) {i1 : Int32} {i2 : Int32} {i3 : Int32} {i4 : Int32} {i5 : Int32} {M : Mem} {H : Heap} {locs : List Loc} {ls : Array Slot} (hf : b12_laysCosts_162  rc n i1 i2 i3 i4 i5 M = some (r, M')) (hP : va_P z.1 vwCl (pw (yd z b) 32 b M) H) (hS : va_S (pA 32 b) s.heap H locs) (hl : lv_has ls 8 [(0, .ref (b + 0)), (1, .int i1), (2, .int i2), (3, .int i3), (4, .int i4), (5, .int i5)]) : W p l e rm12_laysCosts s m args below meth c H locs 0 0 (MQ below (va_Qv (fun (M2 : Mem) => M2 = M') (fun M2 t => va_P z.1 vwCl (pw (yd z b) 32 b M2) t.heap) (pA 32 b)) args s 0 0 (pA 32 b)) (F0 m 162 ls []) := by
  have hx := C.1.1
  have hb := C.1.2.1
  unfold b12_laysCosts_162 at hf
  obtain ⟨v33, ev33⟩ : ∃ v : Int32, v = i5 + (1 : Int32) := ⟨_, rfl⟩
  replace hf := lt_c ev33 hf
  refine lv_iinc (v := v33) (lv' := [(5, .int v33), (0, .ref (b + 0)), (1, .int i1), (2, .int i2), (3, .int i3), (4, .int i4)]) hx hb dX12_laysCosts_162 hl (k := 5) rfl (by rw [ev33]; rfl) (by decide) rfl (fun ls hl => ?_)
  refine lv_goto (tgt := 54) hx hb dX12_laysCosts_165 (by decide) ?_
  exact q54 i1 i2 i3 i4 v33 M _ _ _ hf hP hS (lv_sub hl [1, 2, 3, 4, 5, 0] rfl)
set_option maxHeartbeats 4000000 in
set_option maxRecDepth 100000 in
theorem w12_laysCosts_133 {p : Program} {l : Launch} {e : Env} {s : State} {m : MethodId} {args : Array Value} {below : List Frame} {meth : Method} {c : Code} {z : Zt} {b : Nat}  (C : Cx p s m args c cX12_laysCosts 8 RX12 z 32 b) (hr : meth.sig.returnType = none) (hk : meth.locks = false) {r : Unit} {M' : Mem} {rc : Nat → List Int32 → List Int64 → Mem → Option (Unit × Mem)} {n : Nat} (q2 : ∀ (i1 : Int32) (i2 : Int32) (i3 : Int32) (M : Mem) (H : Heap) (locs : List Loc) (ls : Array Slot), rc 2 [i1, i2, i3] [] M = some (r, M') → va_P z.1 vwCl (pw (yd z b) 32 b M) H → va_S (pA 32 b) s.heap H locs → lv_has ls 8 [(0, .ref (b + 0)), (1, .int i1), (2, .int i2), (3, .int i3)] → W p l e rm12_laysCosts s m args below meth c H locs 0 0 (MQ below (va_Qv (fun (M2 : Mem) => M2 = M') (fun M2 t => va_P z.1 vwCl (pw (yd z b) 32 b M2) t.heap) (pA 32 b)) args s 0 0 (pA 32 b)) (F0 m 2 ls [])) (q35 : ∀ (i1 : Int32) (i2 : Int32) (i3 : Int32) (M : Mem) (H : Heap) (locs : List Loc) (ls : Array Slot), rc 35 [i1, i2, i3] [] M = some (r, M') → va_P z.1 vwCl (pw (yd z b) 32 b M) H → va_S (pA 32 b) s.heap H locs → lv_has ls 8 [(0, .ref (b + 0)), (1, .int i1), (2, .int i2), (3, .int i3)] → W p l e rm12_laysCosts s m args below meth c H locs 0 0 (MQ below (va_Qv (fun (M2 : Mem) => M2 = M') (fun M2 t => va_P z.1 vwCl (pw (yd z b) 32 b M2) t.heap) (pA 32 b)) args s 0 0 (pA 32 b)) (F0 m 35 ls [])) (q44 : ∀ (i1 : Int32) (i2 : Int32) (i3 : Int32) (i4 : Int32) (M : Mem) (H : Heap) (locs : List Loc) (ls : Array Slot), rc 44 [i1, i2, i3, i4] [] M = some (r, M') → va_P z.1 vwCl (pw (yd z b) 32 b M) H → va_S (pA 32 b) s.heap H locs → lv_has ls 8 [(0, .ref (b + 0)), (1, .int i1), (2, .int i2), (3, .int i3), (4, .int i4)] → W p l e rm12_laysCosts s m args below meth c H locs 0 0 (MQ below (va_Qv (fun (M2 : Mem) => M2 = M') (fun M2 t => va_P z.1 vwCl (pw (yd z b) 32 b M2) t.heap) (pA 32 b)) args s 0 0 (pA 32 b)) (F0 m 44 ls [])) (q54 : ∀ (i1 : Int32) (i2 : Int32) (i3 : Int32) (i4 : Int32) (i5 : Int32) (M : Mem) (H : Heap) (locs : List Loc) (ls : Array Slot), rc 54 [i1, i2, i3, i4, i5] [] M = some (r, M') → va_P z.1 vwCl (pw (yd z b) 32 b M) H → va_S (pA 32 b) s.heap H locs → lv_has ls 8 [(0, .ref (b + 0)), (1, .int i1), (2, .int i2), (3, .int i3), (4, .int i4), (5, .int i5)] → W p l e rm12_laysCosts s m args below meth c H locs 0 0 (MQ below (va_Qv (fun (M2 : Mem) => M2 = M') (fun M2 t => va_P z.1 vwCl (pw (yd z b) 32 b M2) t.heap) (pA 32 b)) args s 0 0 (pA 32 b)) (F0 m 54 ls [])) {i1 : Int32} {i2 : Int32} {i3 : Int32} {i4 : Int32} {i5 : Int32} {i6 : Int32} {s0 : Int32} {s1 : Int32} {M : Mem} {H : Heap} {locs : List Loc} {ls : Array Slot} (hf : b12_laysCosts_133  rc n i1 i2 i3 i4 i5 i6 s0 s1 M = some (r, M')) (hP : va_P z.1 vwCl (pw (yd z b) 32 b M) H) (hS : va_S (pA 32 b) s.heap H locs) (hl : lv_has ls 8 [(0, .ref (b + 0)), (1, .int i1), (2, .int i2), (3, .int i3), (4, .int i4), (5, .int i5), (6, .int i6)]) : W p l e rm12_laysCosts s m args below meth c H locs 0 0 (MQ below (va_Qv (fun (M2 : Mem) => M2 = M') (fun M2 t => va_P z.1 vwCl (pw (yd z b) 32 b M2) t.heap) (pA 32 b)) args s 0 0 (pA 32 b)) (F0 m 133 ls [.int s1, .int s0]) := by
  have hx := C.1.1
  have hb := C.1.2.1
  unfold b12_laysCosts_133 at hf
  refine lv_iadd hx hb dX12_laysCosts_133 ?_
  refine lv_topi (fun v28 ev28 => ?_)
  replace hf := lt_c ev28 hf
  refine lv_istore (lv' := [(7, .int v28), (0, .ref (b + 0)), (1, .int i1), (2, .int i2), (3, .int i3), (4, .int i4), (5, .int i5), (6, .int i6)]) hx hb dX12_laysCosts_134 hl (by decide) rfl (fun ls hl => ?_)
  refine lv_iload hx hb dX12_laysCosts_136 (lv_at hl 0 rfl) ?_
  refine lv_aload_n hx hb dX12_laysCosts_138 rfl (lv_at hl 1 rfl) ?_
  refine pg C hP (k := 0) (j := 47) (Nat.le_of_ble_eq_true rfl) (yd_0 _ _) rfl iw_12 (Nat.le_of_ble_eq_true rfl) g_1182 rfl rfl dX12_laysCosts_139 ?_
  refine lv_iload hx hb dX12_laysCosts_142 (lv_at hl 7 rfl) ?_
  have h29 := chk_1 hf
  replace hf := chk_2 hf
  refine paI C hP (k := 26) (Nat.le_of_ble_eq_true rfl) (yd_26 _ _) h29 dX12_laysCosts_144 ?_
  refine lv_icmp_lt (tgt := 151) hx hb dX12_laysCosts_145 (by decide) (fun c30 => ?_) (fun c30 => ?_)
  · replace hf := ite_t c30 hf
    refine lv_aload_n hx hb dX12_laysCosts_151 rfl (lv_at hl 1 rfl) ?_
    refine pg C hP (k := 0) (j := 47) (Nat.le_of_ble_eq_true rfl) (yd_0 _ _) rfl iw_12 (Nat.le_of_ble_eq_true rfl) g_1182 rfl rfl dX12_laysCosts_152 ?_
    refine lv_iload hx hb dX12_laysCosts_155 (lv_at hl 7 rfl) ?_
    refine lv_iload hx hb dX12_laysCosts_157 (lv_at hl 0 rfl) ?_
    have h31 := chk_1 hf
    replace hf := chk_2 hf
    refine psI C hP hS (k := 26) (Nat.le_of_ble_eq_true rfl) (yd_26) h31 dX12_laysCosts_159 (fun M32 H locs eM32 hP hS => ?_)
    replace hf := lt_c eM32 hf
    refine lv_iconst (v := (1 : Int32)) hx hb dX12_laysCosts_160 (by decide) ?_
    refine lv_istore_n (lv' := [(3, .int (1 : Int32)), (7, .int v28), (0, .ref (b + 0)), (1, .int i1), (2, .int i2), (4, .int i4), (5, .int i5), (6, .int i6)]) hx hb dX12_laysCosts_161 rfl hl (by decide) rfl (fun ls hl => ?_)
    exact w12_laysCosts_162 (n := n)  C hr hk q2 q35 q44 q54 hf hP hS (lv_sub hl [2, 3, 4, 0, 5, 6] rfl)
  · replace hf := ite_f c30 hf
    refine lv_goto (tgt := 162) hx hb dX12_laysCosts_148 (by decide) ?_
    exact w12_laysCosts_162 (n := n)  C hr hk q2 q35 q44 q54 hf hP hS (lv_sub hl [1, 2, 3, 4, 5, 6] rfl)
set_option maxHeartbeats 4000000 in
set_option maxRecDepth 100000 in
theorem w12_laysCosts_110 {p : Program} {l : Launch} {e : Env} {s : State} {m : MethodId} {args : Array Value} {below : List Frame} {meth : Method} {c : Code} {z : Zt} {b : Nat}  (C : Cx p s m args c cX12_laysCosts 8 RX12 z 32 b) (hr : meth.sig.returnType = none) (hk : meth.locks = false) {r : Unit} {M' : Mem} {rc : Nat → List Int32 → List Int64 → Mem → Option (Unit × Mem)} {n : Nat} (q2 : ∀ (i1 : Int32) (i2 : Int32) (i3 : Int32) (M : Mem) (H : Heap) (locs : List Loc) (ls : Array Slot), rc 2 [i1, i2, i3] [] M = some (r, M') → va_P z.1 vwCl (pw (yd z b) 32 b M) H → va_S (pA 32 b) s.heap H locs → lv_has ls 8 [(0, .ref (b + 0)), (1, .int i1), (2, .int i2), (3, .int i3)] → W p l e rm12_laysCosts s m args below meth c H locs 0 0 (MQ below (va_Qv (fun (M2 : Mem) => M2 = M') (fun M2 t => va_P z.1 vwCl (pw (yd z b) 32 b M2) t.heap) (pA 32 b)) args s 0 0 (pA 32 b)) (F0 m 2 ls [])) (q35 : ∀ (i1 : Int32) (i2 : Int32) (i3 : Int32) (M : Mem) (H : Heap) (locs : List Loc) (ls : Array Slot), rc 35 [i1, i2, i3] [] M = some (r, M') → va_P z.1 vwCl (pw (yd z b) 32 b M) H → va_S (pA 32 b) s.heap H locs → lv_has ls 8 [(0, .ref (b + 0)), (1, .int i1), (2, .int i2), (3, .int i3)] → W p l e rm12_laysCosts s m args below meth c H locs 0 0 (MQ below (va_Qv (fun (M2 : Mem) => M2 = M') (fun M2 t => va_P z.1 vwCl (pw (yd z b) 32 b M2) t.heap) (pA 32 b)) args s 0 0 (pA 32 b)) (F0 m 35 ls [])) (q44 : ∀ (i1 : Int32) (i2 : Int32) (i3 : Int32) (i4 : Int32) (M : Mem) (H : Heap) (locs : List Loc) (ls : Array Slot), rc 44 [i1, i2, i3, i4] [] M = some (r, M') → va_P z.1 vwCl (pw (yd z b) 32 b M) H → va_S (pA 32 b) s.heap H locs → lv_has ls 8 [(0, .ref (b + 0)), (1, .int i1), (2, .int i2), (3, .int i3), (4, .int i4)] → W p l e rm12_laysCosts s m args below meth c H locs 0 0 (MQ below (va_Qv (fun (M2 : Mem) => M2 = M') (fun M2 t => va_P z.1 vwCl (pw (yd z b) 32 b M2) t.heap) (pA 32 b)) args s 0 0 (pA 32 b)) (F0 m 44 ls [])) (q54 : ∀ (i1 : Int32) (i2 : Int32) (i3 : Int32) (i4 : Int32) (i5 : Int32) (M : Mem) (H : Heap) (locs : List Loc) (ls : Array Slot), rc 54 [i1, i2, i3, i4, i5] [] M = some (r, M') → va_P z.1 vwCl (pw (yd z b) 32 b M) H → va_S (pA 32 b) s.heap H locs → lv_has ls 8 [(0, .ref (b + 0)), (1, .int i1), (2, .int i2), (3, .int i3), (4, .int i4), (5, .int i5)] → W p l e rm12_laysCosts s m args below meth c H locs 0 0 (MQ below (va_Qv (fun (M2 : Mem) => M2 = M') (fun M2 t => va_P z.1 vwCl (pw (yd z b) 32 b M2) t.heap) (pA 32 b)) args s 0 0 (pA 32 b)) (F0 m 54 ls [])) {i1 : Int32} {i2 : Int32} {i3 : Int32} {i4 : Int32} {i5 : Int32} {i6 : Int32} {M : Mem} {H : Heap} {locs : List Loc} {ls : Array Slot} (hf : b12_laysCosts_110  rc n i1 i2 i3 i4 i5 i6 M = some (r, M')) (hP : va_P z.1 vwCl (pw (yd z b) 32 b M) H) (hS : va_S (pA 32 b) s.heap H locs) (hl : lv_has ls 8 [(0, .ref (b + 0)), (1, .int i1), (2, .int i2), (3, .int i3), (4, .int i4), (5, .int i5), (6, .int i6)]) : W p l e rm12_laysCosts s m args below meth c H locs 0 0 (MQ below (va_Qv (fun (M2 : Mem) => M2 = M') (fun M2 t => va_P z.1 vwCl (pw (yd z b) 32 b M2) t.heap) (pA 32 b)) args s 0 0 (pA 32 b)) (F0 m 110 ls []) := by
  have hx := C.1.1
  have hb := C.1.2.1
  unfold b12_laysCosts_110 at hf
  refine lv_aload_n hx hb dX12_laysCosts_110 rfl (lv_at hl 0 rfl) ?_
  refine pg C hP (k := 0) (j := 47) (Nat.le_of_ble_eq_true rfl) (yd_0 _ _) rfl iw_12 (Nat.le_of_ble_eq_true rfl) g_1182 rfl rfl dX12_laysCosts_111 ?_
  refine lv_iload hx hb dX12_laysCosts_114 (lv_at hl 4 rfl) ?_
  have h23 := chk_1 hf
  replace hf := chk_2 hf
  refine paI C hP (k := 26) (Nat.le_of_ble_eq_true rfl) (yd_26 _ _) h23 dX12_laysCosts_116 ?_
  refine lv_iload_n hx hb dX12_laysCosts_117 rfl (lv_at hl 1 rfl) ?_
  refine lv_iadd hx hb dX12_laysCosts_118 ?_
  refine lv_aload_n hx hb dX12_laysCosts_119 rfl (lv_at hl 0 rfl) ?_
  refine lv_iload hx hb dX12_laysCosts_120 (lv_at hl 6 rfl) ?_
  obtain ⟨r24, M25, h26, hf⟩ := bnd_s hf
  refine pcVi (As := [.int i6]) C hP hS (k := 0) (Nat.le_of_ble_eq_true rfl) (yd_0 _ _) rfl (c12_isOpen  h26) y12_isOpen_w g_1483 rfl rfl rfl ⟨Nat.le_of_ble_eq_true rfl, Nat.le_of_ble_eq_true rfl⟩ hl.1 rfl (Nat.le_of_ble_eq_true rfl) dX12_laysCosts_122 ⟨Nat.le_of_ble_eq_true rfl, Nat.le_of_ble_eq_true rfl⟩ (fun H locs hP hS => ?_)
  refine lv_if_eq (tgt := 132) hx hb dX12_laysCosts_125 (by decide) (fun c27 => ?_) (fun c27 => ?_)
  · replace hf := ite_t c27 hf
    refine lv_iload_n hx hb dX12_laysCosts_132 rfl (lv_at hl 2 rfl) ?_
    exact w12_laysCosts_133 (n := n)  C hr hk q2 q35 q44 q54 hf hP hS (lv_sub hl [0, 1, 2, 3, 4, 5, 6] rfl)
  · replace hf := ite_f c27 hf
    refine lv_iconst (v := (0 : Int32)) hx hb dX12_laysCosts_128 (by decide) ?_
    refine lv_goto (tgt := 133) hx hb dX12_laysCosts_129 (by decide) ?_
    exact w12_laysCosts_133 (n := n)  C hr hk q2 q35 q44 q54 hf hP hS (lv_sub hl [0, 1, 2, 3, 4, 5, 6] rfl)
set_option maxHeartbeats 4000000 in
set_option maxRecDepth 100000 in
theorem w12_laysCosts_54 {p : Program} {l : Launch} {e : Env} {s : State} {m : MethodId} {args : Array Value} {below : List Frame} {meth : Method} {c : Code} {z : Zt} {b : Nat}  (C : Cx p s m args c cX12_laysCosts 8 RX12 z 32 b) (hr : meth.sig.returnType = none) (hk : meth.locks = false) {r : Unit} {M' : Mem} {rc : Nat → List Int32 → List Int64 → Mem → Option (Unit × Mem)} {n : Nat} (q2 : ∀ (i1 : Int32) (i2 : Int32) (i3 : Int32) (M : Mem) (H : Heap) (locs : List Loc) (ls : Array Slot), rc 2 [i1, i2, i3] [] M = some (r, M') → va_P z.1 vwCl (pw (yd z b) 32 b M) H → va_S (pA 32 b) s.heap H locs → lv_has ls 8 [(0, .ref (b + 0)), (1, .int i1), (2, .int i2), (3, .int i3)] → W p l e rm12_laysCosts s m args below meth c H locs 0 0 (MQ below (va_Qv (fun (M2 : Mem) => M2 = M') (fun M2 t => va_P z.1 vwCl (pw (yd z b) 32 b M2) t.heap) (pA 32 b)) args s 0 0 (pA 32 b)) (F0 m 2 ls [])) (q35 : ∀ (i1 : Int32) (i2 : Int32) (i3 : Int32) (M : Mem) (H : Heap) (locs : List Loc) (ls : Array Slot), rc 35 [i1, i2, i3] [] M = some (r, M') → va_P z.1 vwCl (pw (yd z b) 32 b M) H → va_S (pA 32 b) s.heap H locs → lv_has ls 8 [(0, .ref (b + 0)), (1, .int i1), (2, .int i2), (3, .int i3)] → W p l e rm12_laysCosts s m args below meth c H locs 0 0 (MQ below (va_Qv (fun (M2 : Mem) => M2 = M') (fun M2 t => va_P z.1 vwCl (pw (yd z b) 32 b M2) t.heap) (pA 32 b)) args s 0 0 (pA 32 b)) (F0 m 35 ls [])) (q44 : ∀ (i1 : Int32) (i2 : Int32) (i3 : Int32) (i4 : Int32) (M : Mem) (H : Heap) (locs : List Loc) (ls : Array Slot), rc 44 [i1, i2, i3, i4] [] M = some (r, M') → va_P z.1 vwCl (pw (yd z b) 32 b M) H → va_S (pA 32 b) s.heap H locs → lv_has ls 8 [(0, .ref (b + 0)), (1, .int i1), (2, .int i2), (3, .int i3), (4, .int i4)] → W p l e rm12_laysCosts s m args below meth c H locs 0 0 (MQ below (va_Qv (fun (M2 : Mem) => M2 = M') (fun M2 t => va_P z.1 vwCl (pw (yd z b) 32 b M2) t.heap) (pA 32 b)) args s 0 0 (pA 32 b)) (F0 m 44 ls [])) (q54 : ∀ (i1 : Int32) (i2 : Int32) (i3 : Int32) (i4 : Int32) (i5 : Int32) (M : Mem) (H : Heap) (locs : List Loc) (ls : Array Slot), rc 54 [i1, i2, i3, i4, i5] [] M = some (r, M') → va_P z.1 vwCl (pw (yd z b) 32 b M) H → va_S (pA 32 b) s.heap H locs → lv_has ls 8 [(0, .ref (b + 0)), (1, .int i1), (2, .int i2), (3, .int i3), (4, .int i4), (5, .int i5)] → W p l e rm12_laysCosts s m args below meth c H locs 0 0 (MQ below (va_Qv (fun (M2 : Mem) => M2 = M') (fun M2 t => va_P z.1 vwCl (pw (yd z b) 32 b M2) t.heap) (pA 32 b)) args s 0 0 (pA 32 b)) (F0 m 54 ls [])) {i1 : Int32} {i2 : Int32} {i3 : Int32} {i4 : Int32} {i5 : Int32} {M : Mem} {H : Heap} {locs : List Loc} {ls : Array Slot} (hf : b12_laysCosts_54  rc n i1 i2 i3 i4 i5 M = some (r, M')) (hP : va_P z.1 vwCl (pw (yd z b) 32 b M) H) (hS : va_S (pA 32 b) s.heap H locs) (hl : lv_has ls 8 [(0, .ref (b + 0)), (1, .int i1), (2, .int i2), (3, .int i3), (4, .int i4), (5, .int i5)]) : W p l e rm12_laysCosts s m args below meth c H locs 0 0 (MQ below (va_Qv (fun (M2 : Mem) => M2 = M') (fun M2 t => va_P z.1 vwCl (pw (yd z b) 32 b M2) t.heap) (pA 32 b)) args s 0 0 (pA 32 b)) (F0 m 54 ls []) := by
  have hx := C.1.1
  have hb := C.1.2.1
  unfold b12_laysCosts_54 at hf
  refine lv_iload hx hb dX12_laysCosts_54 (lv_at hl 5 rfl) ?_
  refine lv_iconst (v := (4 : Int32)) hx hb dX12_laysCosts_56 (by decide) ?_
  refine lv_icmp_ge (tgt := 168) hx hb dX12_laysCosts_57 (by decide) (fun c9 => ?_) (fun c9 => ?_)
  · replace hf := ite_t c9 hf
    obtain ⟨v10, ev10⟩ : ∃ v : Int32, v = i4 + (1 : Int32) := ⟨_, rfl⟩
    replace hf := lt_c ev10 hf
    refine lv_iinc (v := v10) (lv' := [(4, .int v10), (0, .ref (b + 0)), (1, .int i1), (2, .int i2), (3, .int i3), (5, .int i5)]) hx hb dX12_laysCosts_168 hl (k := 4) rfl (by rw [ev10]; rfl) (by decide) rfl (fun ls hl => ?_)
    refine lv_goto (tgt := 44) hx hb dX12_laysCosts_171 (by decide) ?_
    exact q44 i1 i2 i3 v10 M _ _ _ hf hP hS (lv_sub hl [1, 2, 3, 4, 0] rfl)
  · replace hf := ite_f c9 hf
    refine lv_iload hx hb dX12_laysCosts_60 (lv_at hl 4 rfl) ?_
    refine lv_iload hx hb dX12_laysCosts_62 (lv_at hl 5 rfl) ?_
    obtain ⟨r11, M12, h13, hf⟩ := bnd_s hf
    refine pcSi (As := [.int i4, .int i5]) C hP hS (c12_beside  h13) y12_beside_w g_1487 rfl rfl rfl ⟨Nat.le_of_ble_eq_true rfl, Nat.le_of_ble_eq_true rfl⟩ hl.1 rfl (Nat.le_of_ble_eq_true rfl) dX12_laysCosts_64 ⟨Nat.le_of_ble_eq_true rfl, Nat.le_of_ble_eq_true rfl⟩ (fun H locs hP hS => ?_)
    refine lv_istore (lv' := [(6, .int r11), (0, .ref (b + 0)), (1, .int i1), (2, .int i2), (3, .int i3), (4, .int i4), (5, .int i5)]) hx hb dX12_laysCosts_67 hl (by decide) rfl (fun ls hl => ?_)
    refine lv_aload_n hx hb dX12_laysCosts_69 rfl (lv_at hl 1 rfl) ?_
    refine pg C hP (k := 0) (j := 47) (Nat.le_of_ble_eq_true rfl) (yd_0 _ _) rfl iw_12 (Nat.le_of_ble_eq_true rfl) g_1182 rfl rfl dX12_laysCosts_70 ?_
    refine lv_iload hx hb dX12_laysCosts_73 (lv_at hl 5 rfl) ?_
    have h14 := chk_1 hf
    replace hf := chk_2 hf
    refine paI C hP (k := 26) (Nat.le_of_ble_eq_true rfl) (yd_26 _ _) h14 dX12_laysCosts_75 ?_
    refine lv_ldcw hx hb C.1.2.2.2.1 (C.1.2.2.2.2 _ g_1588) dX12_laysCosts_76 ?_
    refine lv_icmp_eq (tgt := 162) hx hb dX12_laysCosts_79 (by decide) (fun c15 => ?_) (fun c15 => ?_)
    · replace hf := ite_t c15 hf
      exact w12_laysCosts_162 (n := n)  C hr hk q2 q35 q44 q54 hf hP hS (lv_sub hl [1, 2, 3, 4, 5, 6] rfl)
    · replace hf := ite_f c15 hf
      refine lv_iload hx hb dX12_laysCosts_82 (lv_at hl 0 rfl) ?_
      refine lv_iconst (v := (-1 : Int32)) hx hb dX12_laysCosts_84 (by decide) ?_
      refine lv_icmp_eq (tgt := 162) hx hb dX12_laysCosts_85 (by decide) (fun c16 => ?_) (fun c16 => ?_)
      · replace hf := ite_t c16 hf
        exact w12_laysCosts_162 (n := n)  C hr hk q2 q35 q44 q54 hf hP hS (lv_sub hl [1, 2, 3, 4, 5, 6] rfl)
      · replace hf := ite_f c16 hf
        refine lv_aload_n hx hb dX12_laysCosts_88 rfl (lv_at hl 1 rfl) ?_
        refine lv_iload hx hb dX12_laysCosts_89 (lv_at hl 0 rfl) ?_
        obtain ⟨r17, M18, h19, hf⟩ := bnd_s hf
        refine pcVi (As := [.int r11]) C hP hS (k := 0) (Nat.le_of_ble_eq_true rfl) (yd_0 _ _) rfl (c12_isOpen  h19) y12_isOpen_w g_1483 rfl rfl rfl ⟨Nat.le_of_ble_eq_true rfl, Nat.le_of_ble_eq_true rfl⟩ hl.1 rfl (Nat.le_of_ble_eq_true rfl) dX12_laysCosts_91 ⟨Nat.le_of_ble_eq_true rfl, Nat.le_of_ble_eq_true rfl⟩ (fun H locs hP hS => ?_)
        refine lv_if_ne (tgt := 110) hx hb dX12_laysCosts_94 (by decide) (fun c20 => ?_) (fun c20 => ?_)
        · replace hf := ite_f c20 hf
          exact w12_laysCosts_110 (n := n)  C hr hk q2 q35 q44 q54 hf hP hS (lv_sub hl [1, 2, 3, 4, 5, 6, 0] rfl)
        · replace hf := ite_t c20 hf
          refine lv_aload_n hx hb dX12_laysCosts_97 rfl (lv_at hl 1 rfl) ?_
          refine pg C hP (k := 0) (j := 3) (Nat.le_of_ble_eq_true rfl) (yd_0 _ _) rfl iw_12 (Nat.le_of_ble_eq_true rfl) g_1138 rfl rfl dX12_laysCosts_98 ?_
          refine lv_iload hx hb dX12_laysCosts_101 (lv_at hl 0 rfl) ?_
          have h21 := chk_1 hf
          replace hf := chk_2 hf
          refine paI C hP (k := 4) (Nat.le_of_ble_eq_true rfl) (yd_4 _ _) h21 dX12_laysCosts_103 ?_
          refine lv_if_ne (tgt := 110) hx hb dX12_laysCosts_104 (by decide) (fun c22 => ?_) (fun c22 => ?_)
          · replace hf := ite_f c22 hf
            exact w12_laysCosts_110 (n := n)  C hr hk q2 q35 q44 q54 hf hP hS (lv_sub hl [1, 2, 3, 4, 5, 6, 0] rfl)
          · replace hf := ite_t c22 hf
            refine lv_goto (tgt := 162) hx hb dX12_laysCosts_107 (by decide) ?_
            exact w12_laysCosts_162 (n := n)  C hr hk q2 q35 q44 q54 hf hP hS (lv_sub hl [1, 2, 3, 4, 5, 6] rfl)
set_option maxHeartbeats 4000000 in
set_option maxRecDepth 100000 in
theorem w12_laysCosts_44 {p : Program} {l : Launch} {e : Env} {s : State} {m : MethodId} {args : Array Value} {below : List Frame} {meth : Method} {c : Code} {z : Zt} {b : Nat}  (C : Cx p s m args c cX12_laysCosts 8 RX12 z 32 b) (hr : meth.sig.returnType = none) (hk : meth.locks = false) {r : Unit} {M' : Mem} {rc : Nat → List Int32 → List Int64 → Mem → Option (Unit × Mem)} {n : Nat} (q2 : ∀ (i1 : Int32) (i2 : Int32) (i3 : Int32) (M : Mem) (H : Heap) (locs : List Loc) (ls : Array Slot), rc 2 [i1, i2, i3] [] M = some (r, M') → va_P z.1 vwCl (pw (yd z b) 32 b M) H → va_S (pA 32 b) s.heap H locs → lv_has ls 8 [(0, .ref (b + 0)), (1, .int i1), (2, .int i2), (3, .int i3)] → W p l e rm12_laysCosts s m args below meth c H locs 0 0 (MQ below (va_Qv (fun (M2 : Mem) => M2 = M') (fun M2 t => va_P z.1 vwCl (pw (yd z b) 32 b M2) t.heap) (pA 32 b)) args s 0 0 (pA 32 b)) (F0 m 2 ls [])) (q35 : ∀ (i1 : Int32) (i2 : Int32) (i3 : Int32) (M : Mem) (H : Heap) (locs : List Loc) (ls : Array Slot), rc 35 [i1, i2, i3] [] M = some (r, M') → va_P z.1 vwCl (pw (yd z b) 32 b M) H → va_S (pA 32 b) s.heap H locs → lv_has ls 8 [(0, .ref (b + 0)), (1, .int i1), (2, .int i2), (3, .int i3)] → W p l e rm12_laysCosts s m args below meth c H locs 0 0 (MQ below (va_Qv (fun (M2 : Mem) => M2 = M') (fun M2 t => va_P z.1 vwCl (pw (yd z b) 32 b M2) t.heap) (pA 32 b)) args s 0 0 (pA 32 b)) (F0 m 35 ls [])) (q44 : ∀ (i1 : Int32) (i2 : Int32) (i3 : Int32) (i4 : Int32) (M : Mem) (H : Heap) (locs : List Loc) (ls : Array Slot), rc 44 [i1, i2, i3, i4] [] M = some (r, M') → va_P z.1 vwCl (pw (yd z b) 32 b M) H → va_S (pA 32 b) s.heap H locs → lv_has ls 8 [(0, .ref (b + 0)), (1, .int i1), (2, .int i2), (3, .int i3), (4, .int i4)] → W p l e rm12_laysCosts s m args below meth c H locs 0 0 (MQ below (va_Qv (fun (M2 : Mem) => M2 = M') (fun M2 t => va_P z.1 vwCl (pw (yd z b) 32 b M2) t.heap) (pA 32 b)) args s 0 0 (pA 32 b)) (F0 m 44 ls [])) (q54 : ∀ (i1 : Int32) (i2 : Int32) (i3 : Int32) (i4 : Int32) (i5 : Int32) (M : Mem) (H : Heap) (locs : List Loc) (ls : Array Slot), rc 54 [i1, i2, i3, i4, i5] [] M = some (r, M') → va_P z.1 vwCl (pw (yd z b) 32 b M) H → va_S (pA 32 b) s.heap H locs → lv_has ls 8 [(0, .ref (b + 0)), (1, .int i1), (2, .int i2), (3, .int i3), (4, .int i4), (5, .int i5)] → W p l e rm12_laysCosts s m args below meth c H locs 0 0 (MQ below (va_Qv (fun (M2 : Mem) => M2 = M') (fun M2 t => va_P z.1 vwCl (pw (yd z b) 32 b M2) t.heap) (pA 32 b)) args s 0 0 (pA 32 b)) (F0 m 54 ls [])) {i1 : Int32} {i2 : Int32} {i3 : Int32} {i4 : Int32} {M : Mem} {H : Heap} {locs : List Loc} {ls : Array Slot} (hf : b12_laysCosts_44  rc n i1 i2 i3 i4 M = some (r, M')) (hP : va_P z.1 vwCl (pw (yd z b) 32 b M) H) (hS : va_S (pA 32 b) s.heap H locs) (hl : lv_has ls 8 [(0, .ref (b + 0)), (1, .int i1), (2, .int i2), (3, .int i3), (4, .int i4)]) : W p l e rm12_laysCosts s m args below meth c H locs 0 0 (MQ below (va_Qv (fun (M2 : Mem) => M2 = M') (fun M2 t => va_P z.1 vwCl (pw (yd z b) 32 b M2) t.heap) (pA 32 b)) args s 0 0 (pA 32 b)) (F0 m 44 ls []) := by
  have hx := C.1.1
  have hb := C.1.2.1
  unfold b12_laysCosts_44 at hf
  refine lv_iload hx hb dX12_laysCosts_44 (lv_at hl 4 rfl) ?_
  refine lv_bipush (v := (96 : Int32)) hx hb dX12_laysCosts_46 (by decide) ?_
  refine lv_icmp_ge (tgt := 174) hx hb dX12_laysCosts_48 (by decide) (fun c8 => ?_) (fun c8 => ?_)
  · replace hf := ite_t c8 hf
    refine lv_goto (tgt := 35) hx hb dX12_laysCosts_174 (by decide) ?_
    exact q35 i1 i2 i3 M _ _ _ hf hP hS (lv_sub hl [0, 1, 2, 3] rfl)
  · replace hf := ite_f c8 hf
    refine lv_iconst (v := (0 : Int32)) hx hb dX12_laysCosts_51 (by decide) ?_
    refine lv_istore (lv' := [(5, .int (0 : Int32)), (0, .ref (b + 0)), (1, .int i1), (2, .int i2), (3, .int i3), (4, .int i4)]) hx hb dX12_laysCosts_52 hl (by decide) rfl (fun ls hl => ?_)
    exact w12_laysCosts_54 (n := n)  C hr hk q2 q35 q44 q54 hf hP hS (lv_sub hl [1, 2, 3, 4, 5, 0] rfl)
set_option maxHeartbeats 4000000 in
set_option maxRecDepth 100000 in
theorem w12_laysCosts_35 {p : Program} {l : Launch} {e : Env} {s : State} {m : MethodId} {args : Array Value} {below : List Frame} {meth : Method} {c : Code} {z : Zt} {b : Nat}  (C : Cx p s m args c cX12_laysCosts 8 RX12 z 32 b) (hr : meth.sig.returnType = none) (hk : meth.locks = false) {r : Unit} {M' : Mem} {rc : Nat → List Int32 → List Int64 → Mem → Option (Unit × Mem)} {n : Nat} (q2 : ∀ (i1 : Int32) (i2 : Int32) (i3 : Int32) (M : Mem) (H : Heap) (locs : List Loc) (ls : Array Slot), rc 2 [i1, i2, i3] [] M = some (r, M') → va_P z.1 vwCl (pw (yd z b) 32 b M) H → va_S (pA 32 b) s.heap H locs → lv_has ls 8 [(0, .ref (b + 0)), (1, .int i1), (2, .int i2), (3, .int i3)] → W p l e rm12_laysCosts s m args below meth c H locs 0 0 (MQ below (va_Qv (fun (M2 : Mem) => M2 = M') (fun M2 t => va_P z.1 vwCl (pw (yd z b) 32 b M2) t.heap) (pA 32 b)) args s 0 0 (pA 32 b)) (F0 m 2 ls [])) (q35 : ∀ (i1 : Int32) (i2 : Int32) (i3 : Int32) (M : Mem) (H : Heap) (locs : List Loc) (ls : Array Slot), rc 35 [i1, i2, i3] [] M = some (r, M') → va_P z.1 vwCl (pw (yd z b) 32 b M) H → va_S (pA 32 b) s.heap H locs → lv_has ls 8 [(0, .ref (b + 0)), (1, .int i1), (2, .int i2), (3, .int i3)] → W p l e rm12_laysCosts s m args below meth c H locs 0 0 (MQ below (va_Qv (fun (M2 : Mem) => M2 = M') (fun M2 t => va_P z.1 vwCl (pw (yd z b) 32 b M2) t.heap) (pA 32 b)) args s 0 0 (pA 32 b)) (F0 m 35 ls [])) (q44 : ∀ (i1 : Int32) (i2 : Int32) (i3 : Int32) (i4 : Int32) (M : Mem) (H : Heap) (locs : List Loc) (ls : Array Slot), rc 44 [i1, i2, i3, i4] [] M = some (r, M') → va_P z.1 vwCl (pw (yd z b) 32 b M) H → va_S (pA 32 b) s.heap H locs → lv_has ls 8 [(0, .ref (b + 0)), (1, .int i1), (2, .int i2), (3, .int i3), (4, .int i4)] → W p l e rm12_laysCosts s m args below meth c H locs 0 0 (MQ below (va_Qv (fun (M2 : Mem) => M2 = M') (fun M2 t => va_P z.1 vwCl (pw (yd z b) 32 b M2) t.heap) (pA 32 b)) args s 0 0 (pA 32 b)) (F0 m 44 ls [])) (q54 : ∀ (i1 : Int32) (i2 : Int32) (i3 : Int32) (i4 : Int32) (i5 : Int32) (M : Mem) (H : Heap) (locs : List Loc) (ls : Array Slot), rc 54 [i1, i2, i3, i4, i5] [] M = some (r, M') → va_P z.1 vwCl (pw (yd z b) 32 b M) H → va_S (pA 32 b) s.heap H locs → lv_has ls 8 [(0, .ref (b + 0)), (1, .int i1), (2, .int i2), (3, .int i3), (4, .int i4), (5, .int i5)] → W p l e rm12_laysCosts s m args below meth c H locs 0 0 (MQ below (va_Qv (fun (M2 : Mem) => M2 = M') (fun M2 t => va_P z.1 vwCl (pw (yd z b) 32 b M2) t.heap) (pA 32 b)) args s 0 0 (pA 32 b)) (F0 m 54 ls [])) {i1 : Int32} {i2 : Int32} {i3 : Int32} {M : Mem} {H : Heap} {locs : List Loc} {ls : Array Slot} (hf : b12_laysCosts_35  rc n i1 i2 i3 M = some (r, M')) (hP : va_P z.1 vwCl (pw (yd z b) 32 b M) H) (hS : va_S (pA 32 b) s.heap H locs) (hl : lv_has ls 8 [(0, .ref (b + 0)), (1, .int i1), (2, .int i2), (3, .int i3)]) : W p l e rm12_laysCosts s m args below meth c H locs 0 0 (MQ below (va_Qv (fun (M2 : Mem) => M2 = M') (fun M2 t => va_P z.1 vwCl (pw (yd z b) 32 b M2) t.heap) (pA 32 b)) args s 0 0 (pA 32 b)) (F0 m 35 ls []) := by
  have hx := C.1.1
  have hb := C.1.2.1
  unfold b12_laysCosts_35 at hf
  refine lv_iload_n hx hb dX12_laysCosts_35 rfl (lv_at hl 3 rfl) ?_
  refine lv_if_eq (tgt := 177) hx hb dX12_laysCosts_36 (by decide) (fun c7 => ?_) (fun c7 => ?_)
  · replace hf := ite_t c7 hf
    exact prV C hr hk hP hS hf dX12_laysCosts_177
  · replace hf := ite_f c7 hf
    refine lv_iconst (v := (0 : Int32)) hx hb dX12_laysCosts_39 (by decide) ?_
    refine lv_istore_n (lv' := [(3, .int (0 : Int32)), (0, .ref (b + 0)), (1, .int i1), (2, .int i2)]) hx hb dX12_laysCosts_40 rfl hl (by decide) rfl (fun ls hl => ?_)
    refine lv_iconst (v := (0 : Int32)) hx hb dX12_laysCosts_41 (by decide) ?_
    refine lv_istore (lv' := [(4, .int (0 : Int32)), (3, .int (0 : Int32)), (0, .ref (b + 0)), (1, .int i1), (2, .int i2)]) hx hb dX12_laysCosts_42 hl (by decide) rfl (fun ls hl => ?_)
    exact w12_laysCosts_44 (n := n)  C hr hk q2 q35 q44 q54 hf hP hS (lv_sub hl [2, 3, 4, 1, 0] rfl)
set_option maxHeartbeats 4000000 in
set_option maxRecDepth 100000 in
theorem w12_laysCosts_2 {p : Program} {l : Launch} {e : Env} {s : State} {m : MethodId} {args : Array Value} {below : List Frame} {meth : Method} {c : Code} {z : Zt} {b : Nat}  (C : Cx p s m args c cX12_laysCosts 8 RX12 z 32 b) (hr : meth.sig.returnType = none) (hk : meth.locks = false) {r : Unit} {M' : Mem} {rc : Nat → List Int32 → List Int64 → Mem → Option (Unit × Mem)} {n : Nat} (q2 : ∀ (i1 : Int32) (i2 : Int32) (i3 : Int32) (M : Mem) (H : Heap) (locs : List Loc) (ls : Array Slot), rc 2 [i1, i2, i3] [] M = some (r, M') → va_P z.1 vwCl (pw (yd z b) 32 b M) H → va_S (pA 32 b) s.heap H locs → lv_has ls 8 [(0, .ref (b + 0)), (1, .int i1), (2, .int i2), (3, .int i3)] → W p l e rm12_laysCosts s m args below meth c H locs 0 0 (MQ below (va_Qv (fun (M2 : Mem) => M2 = M') (fun M2 t => va_P z.1 vwCl (pw (yd z b) 32 b M2) t.heap) (pA 32 b)) args s 0 0 (pA 32 b)) (F0 m 2 ls [])) (q35 : ∀ (i1 : Int32) (i2 : Int32) (i3 : Int32) (M : Mem) (H : Heap) (locs : List Loc) (ls : Array Slot), rc 35 [i1, i2, i3] [] M = some (r, M') → va_P z.1 vwCl (pw (yd z b) 32 b M) H → va_S (pA 32 b) s.heap H locs → lv_has ls 8 [(0, .ref (b + 0)), (1, .int i1), (2, .int i2), (3, .int i3)] → W p l e rm12_laysCosts s m args below meth c H locs 0 0 (MQ below (va_Qv (fun (M2 : Mem) => M2 = M') (fun M2 t => va_P z.1 vwCl (pw (yd z b) 32 b M2) t.heap) (pA 32 b)) args s 0 0 (pA 32 b)) (F0 m 35 ls [])) (q44 : ∀ (i1 : Int32) (i2 : Int32) (i3 : Int32) (i4 : Int32) (M : Mem) (H : Heap) (locs : List Loc) (ls : Array Slot), rc 44 [i1, i2, i3, i4] [] M = some (r, M') → va_P z.1 vwCl (pw (yd z b) 32 b M) H → va_S (pA 32 b) s.heap H locs → lv_has ls 8 [(0, .ref (b + 0)), (1, .int i1), (2, .int i2), (3, .int i3), (4, .int i4)] → W p l e rm12_laysCosts s m args below meth c H locs 0 0 (MQ below (va_Qv (fun (M2 : Mem) => M2 = M') (fun M2 t => va_P z.1 vwCl (pw (yd z b) 32 b M2) t.heap) (pA 32 b)) args s 0 0 (pA 32 b)) (F0 m 44 ls [])) (q54 : ∀ (i1 : Int32) (i2 : Int32) (i3 : Int32) (i4 : Int32) (i5 : Int32) (M : Mem) (H : Heap) (locs : List Loc) (ls : Array Slot), rc 54 [i1, i2, i3, i4, i5] [] M = some (r, M') → va_P z.1 vwCl (pw (yd z b) 32 b M) H → va_S (pA 32 b) s.heap H locs → lv_has ls 8 [(0, .ref (b + 0)), (1, .int i1), (2, .int i2), (3, .int i3), (4, .int i4), (5, .int i5)] → W p l e rm12_laysCosts s m args below meth c H locs 0 0 (MQ below (va_Qv (fun (M2 : Mem) => M2 = M') (fun M2 t => va_P z.1 vwCl (pw (yd z b) 32 b M2) t.heap) (pA 32 b)) args s 0 0 (pA 32 b)) (F0 m 54 ls [])) {i1 : Int32} {i2 : Int32} {i3 : Int32} {M : Mem} {H : Heap} {locs : List Loc} {ls : Array Slot} (hf : b12_laysCosts_2  rc n i1 i2 i3 M = some (r, M')) (hP : va_P z.1 vwCl (pw (yd z b) 32 b M) H) (hS : va_S (pA 32 b) s.heap H locs) (hl : lv_has ls 8 [(0, .ref (b + 0)), (1, .int i1), (2, .int i2), (3, .int i3)]) : W p l e rm12_laysCosts s m args below meth c H locs 0 0 (MQ below (va_Qv (fun (M2 : Mem) => M2 = M') (fun M2 t => va_P z.1 vwCl (pw (yd z b) 32 b M2) t.heap) (pA 32 b)) args s 0 0 (pA 32 b)) (F0 m 2 ls []) := by
  have hx := C.1.1
  have hb := C.1.2.1
  unfold b12_laysCosts_2 at hf
  refine lv_iload_n hx hb dX12_laysCosts_2 rfl (lv_at hl 3 rfl) ?_
  refine lv_bipush (v := (96 : Int32)) hx hb dX12_laysCosts_3 (by decide) ?_
  refine lv_icmp_ge (tgt := 23) hx hb dX12_laysCosts_5 (by decide) (fun c1 => ?_) (fun c1 => ?_)
  · replace hf := ite_t c1 hf
    refine lv_aload_n hx hb dX12_laysCosts_23 rfl (lv_at hl 0 rfl) ?_
    refine pg C hP (k := 0) (j := 47) (Nat.le_of_ble_eq_true rfl) (yd_0 _ _) rfl iw_12 (Nat.le_of_ble_eq_true rfl) g_1182 rfl rfl dX12_laysCosts_24 ?_
    refine lv_aload_n hx hb dX12_laysCosts_27 rfl (lv_at hl 0 rfl) ?_
    refine pg C hP (k := 0) (j := 5) (Nat.le_of_ble_eq_true rfl) (yd_0 _ _) rfl iw_12 (Nat.le_of_ble_eq_true rfl) g_1140 rfl rfl dX12_laysCosts_28 ?_
    refine lv_iconst (v := (0 : Int32)) hx hb dX12_laysCosts_31 (by decide) ?_
    have h2 := chk_1 hf
    replace hf := chk_2 hf
    refine psI C hP hS (k := 26) (Nat.le_of_ble_eq_true rfl) (yd_26) h2 dX12_laysCosts_32 (fun M3 H locs eM3 hP hS => ?_)
    replace hf := lt_c eM3 hf
    refine lv_iconst (v := (1 : Int32)) hx hb dX12_laysCosts_33 (by decide) ?_
    refine lv_istore_n (lv' := [(3, .int (1 : Int32)), (0, .ref (b + 0)), (1, .int i1), (2, .int i2)]) hx hb dX12_laysCosts_34 rfl hl (by decide) rfl (fun ls hl => ?_)
    exact w12_laysCosts_35 (n := n)  C hr hk q2 q35 q44 q54 hf hP hS (lv_sub hl [1, 2, 3, 0] rfl)
  · replace hf := ite_f c1 hf
    refine lv_aload_n hx hb dX12_laysCosts_8 rfl (lv_at hl 0 rfl) ?_
    refine pg C hP (k := 0) (j := 47) (Nat.le_of_ble_eq_true rfl) (yd_0 _ _) rfl iw_12 (Nat.le_of_ble_eq_true rfl) g_1182 rfl rfl dX12_laysCosts_9 ?_
    refine lv_iload_n hx hb dX12_laysCosts_12 rfl (lv_at hl 3 rfl) ?_
    refine lv_ldcw hx hb C.1.2.2.2.1 (C.1.2.2.2.2 _ g_1588) dX12_laysCosts_13 ?_
    have h4 := chk_1 hf
    replace hf := chk_2 hf
    refine psI C hP hS (k := 26) (Nat.le_of_ble_eq_true rfl) (yd_26) h4 dX12_laysCosts_16 (fun M5 H locs eM5 hP hS => ?_)
    replace hf := lt_c eM5 hf
    obtain ⟨v6, ev6⟩ : ∃ v : Int32, v = i3 + (1 : Int32) := ⟨_, rfl⟩
    replace hf := lt_c ev6 hf
    refine lv_iinc (v := v6) (lv' := [(3, .int v6), (0, .ref (b + 0)), (1, .int i1), (2, .int i2)]) hx hb dX12_laysCosts_17 hl (k := 3) rfl (by rw [ev6]; rfl) (by decide) rfl (fun ls hl => ?_)
    refine lv_goto (tgt := 2) hx hb dX12_laysCosts_20 (by decide) ?_
    exact q2 i1 i2 v6 M5 _ _ _ hf hP hS (lv_sub hl [1, 2, 3, 0] rfl)
set_option maxHeartbeats 4000000 in
set_option maxRecDepth 100000 in
theorem w12_laysCosts_0 {p : Program} {l : Launch} {e : Env} {s : State} {m : MethodId} {args : Array Value} {below : List Frame} {meth : Method} {c : Code} {z : Zt} {b : Nat}  (C : Cx p s m args c cX12_laysCosts 8 RX12 z 32 b) (hr : meth.sig.returnType = none) (hk : meth.locks = false) {r : Unit} {M' : Mem} {rc : Nat → List Int32 → List Int64 → Mem → Option (Unit × Mem)} {n : Nat} (q2 : ∀ (i1 : Int32) (i2 : Int32) (i3 : Int32) (M : Mem) (H : Heap) (locs : List Loc) (ls : Array Slot), rc 2 [i1, i2, i3] [] M = some (r, M') → va_P z.1 vwCl (pw (yd z b) 32 b M) H → va_S (pA 32 b) s.heap H locs → lv_has ls 8 [(0, .ref (b + 0)), (1, .int i1), (2, .int i2), (3, .int i3)] → W p l e rm12_laysCosts s m args below meth c H locs 0 0 (MQ below (va_Qv (fun (M2 : Mem) => M2 = M') (fun M2 t => va_P z.1 vwCl (pw (yd z b) 32 b M2) t.heap) (pA 32 b)) args s 0 0 (pA 32 b)) (F0 m 2 ls [])) (q35 : ∀ (i1 : Int32) (i2 : Int32) (i3 : Int32) (M : Mem) (H : Heap) (locs : List Loc) (ls : Array Slot), rc 35 [i1, i2, i3] [] M = some (r, M') → va_P z.1 vwCl (pw (yd z b) 32 b M) H → va_S (pA 32 b) s.heap H locs → lv_has ls 8 [(0, .ref (b + 0)), (1, .int i1), (2, .int i2), (3, .int i3)] → W p l e rm12_laysCosts s m args below meth c H locs 0 0 (MQ below (va_Qv (fun (M2 : Mem) => M2 = M') (fun M2 t => va_P z.1 vwCl (pw (yd z b) 32 b M2) t.heap) (pA 32 b)) args s 0 0 (pA 32 b)) (F0 m 35 ls [])) (q44 : ∀ (i1 : Int32) (i2 : Int32) (i3 : Int32) (i4 : Int32) (M : Mem) (H : Heap) (locs : List Loc) (ls : Array Slot), rc 44 [i1, i2, i3, i4] [] M = some (r, M') → va_P z.1 vwCl (pw (yd z b) 32 b M) H → va_S (pA 32 b) s.heap H locs → lv_has ls 8 [(0, .ref (b + 0)), (1, .int i1), (2, .int i2), (3, .int i3), (4, .int i4)] → W p l e rm12_laysCosts s m args below meth c H locs 0 0 (MQ below (va_Qv (fun (M2 : Mem) => M2 = M') (fun M2 t => va_P z.1 vwCl (pw (yd z b) 32 b M2) t.heap) (pA 32 b)) args s 0 0 (pA 32 b)) (F0 m 44 ls [])) (q54 : ∀ (i1 : Int32) (i2 : Int32) (i3 : Int32) (i4 : Int32) (i5 : Int32) (M : Mem) (H : Heap) (locs : List Loc) (ls : Array Slot), rc 54 [i1, i2, i3, i4, i5] [] M = some (r, M') → va_P z.1 vwCl (pw (yd z b) 32 b M) H → va_S (pA 32 b) s.heap H locs → lv_has ls 8 [(0, .ref (b + 0)), (1, .int i1), (2, .int i2), (3, .int i3), (4, .int i4), (5, .int i5)] → W p l e rm12_laysCosts s m args below meth c H locs 0 0 (MQ below (va_Qv (fun (M2 : Mem) => M2 = M') (fun M2 t => va_P z.1 vwCl (pw (yd z b) 32 b M2) t.heap) (pA 32 b)) args s 0 0 (pA 32 b)) (F0 m 54 ls [])) {a1 : Int32} {a2 : Int32} {M : Mem} {H : Heap} {locs : List Loc} {ls : Array Slot} (hf : b12_laysCosts_0  rc n a1 a2 M = some (r, M')) (hP : va_P z.1 vwCl (pw (yd z b) 32 b M) H) (hS : va_S (pA 32 b) s.heap H locs) (hl : lv_has ls 8 [(0, .ref (b + 0)), (1, .int a1), (2, .int a2)]) : W p l e rm12_laysCosts s m args below meth c H locs 0 0 (MQ below (va_Qv (fun (M2 : Mem) => M2 = M') (fun M2 t => va_P z.1 vwCl (pw (yd z b) 32 b M2) t.heap) (pA 32 b)) args s 0 0 (pA 32 b)) (F0 m 0 ls []) := by
  have hx := C.1.1
  have hb := C.1.2.1
  unfold b12_laysCosts_0 at hf
  refine lv_iconst (v := (0 : Int32)) hx hb dX12_laysCosts_0 (by decide) ?_
  refine lv_istore_n (lv' := [(3, .int (0 : Int32)), (0, .ref (b + 0)), (1, .int a1), (2, .int a2)]) hx hb dX12_laysCosts_1 rfl hl (by decide) rfl (fun ls hl => ?_)
  exact w12_laysCosts_2 (n := n)  C hr hk q2 q35 q44 q54 hf hP hS (lv_sub hl [1, 2, 3, 0] rfl)
set_option maxHeartbeats 4000000 in
set_option maxRecDepth 100000 in
theorem l12_laysCosts {p : Program} {l : Launch} {e : Env} {s : State} {m : MethodId} {args : Array Value} {below : List Frame} {meth : Method} {c : Code} {z : Zt} {b : Nat}  (C : Cx p s m args c cX12_laysCosts 8 RX12 z 32 b) (hr : meth.sig.returnType = none) (hk : meth.locks = false) {r : Unit} {M' : Mem} (n : Nat) : (∀ (i1 : Int32) (i2 : Int32) (i3 : Int32) (M : Mem) (H : Heap) (locs : List Loc) (ls : Array Slot), (r12_laysCosts  n) 2 [i1, i2, i3] [] M = some (r, M') → va_P z.1 vwCl (pw (yd z b) 32 b M) H → va_S (pA 32 b) s.heap H locs → lv_has ls 8 [(0, .ref (b + 0)), (1, .int i1), (2, .int i2), (3, .int i3)] → W p l e rm12_laysCosts s m args below meth c H locs 0 0 (MQ below (va_Qv (fun (M2 : Mem) => M2 = M') (fun M2 t => va_P z.1 vwCl (pw (yd z b) 32 b M2) t.heap) (pA 32 b)) args s 0 0 (pA 32 b)) (F0 m 2 ls [])) ∧ (∀ (i1 : Int32) (i2 : Int32) (i3 : Int32) (M : Mem) (H : Heap) (locs : List Loc) (ls : Array Slot), (r12_laysCosts  n) 35 [i1, i2, i3] [] M = some (r, M') → va_P z.1 vwCl (pw (yd z b) 32 b M) H → va_S (pA 32 b) s.heap H locs → lv_has ls 8 [(0, .ref (b + 0)), (1, .int i1), (2, .int i2), (3, .int i3)] → W p l e rm12_laysCosts s m args below meth c H locs 0 0 (MQ below (va_Qv (fun (M2 : Mem) => M2 = M') (fun M2 t => va_P z.1 vwCl (pw (yd z b) 32 b M2) t.heap) (pA 32 b)) args s 0 0 (pA 32 b)) (F0 m 35 ls [])) ∧ (∀ (i1 : Int32) (i2 : Int32) (i3 : Int32) (i4 : Int32) (M : Mem) (H : Heap) (locs : List Loc) (ls : Array Slot), (r12_laysCosts  n) 44 [i1, i2, i3, i4] [] M = some (r, M') → va_P z.1 vwCl (pw (yd z b) 32 b M) H → va_S (pA 32 b) s.heap H locs → lv_has ls 8 [(0, .ref (b + 0)), (1, .int i1), (2, .int i2), (3, .int i3), (4, .int i4)] → W p l e rm12_laysCosts s m args below meth c H locs 0 0 (MQ below (va_Qv (fun (M2 : Mem) => M2 = M') (fun M2 t => va_P z.1 vwCl (pw (yd z b) 32 b M2) t.heap) (pA 32 b)) args s 0 0 (pA 32 b)) (F0 m 44 ls [])) ∧ (∀ (i1 : Int32) (i2 : Int32) (i3 : Int32) (i4 : Int32) (i5 : Int32) (M : Mem) (H : Heap) (locs : List Loc) (ls : Array Slot), (r12_laysCosts  n) 54 [i1, i2, i3, i4, i5] [] M = some (r, M') → va_P z.1 vwCl (pw (yd z b) 32 b M) H → va_S (pA 32 b) s.heap H locs → lv_has ls 8 [(0, .ref (b + 0)), (1, .int i1), (2, .int i2), (3, .int i3), (4, .int i4), (5, .int i5)] → W p l e rm12_laysCosts s m args below meth c H locs 0 0 (MQ below (va_Qv (fun (M2 : Mem) => M2 = M') (fun M2 t => va_P z.1 vwCl (pw (yd z b) 32 b M2) t.heap) (pA 32 b)) args s 0 0 (pA 32 b)) (F0 m 54 ls [])) := by
  induction n with
  | zero => exact ⟨fun _ _ _ _ _ _ _ hf => (by cases hf), fun _ _ _ _ _ _ _ hf => (by cases hf), fun _ _ _ _ _ _ _ _ hf => (by cases hf), fun _ _ _ _ _ _ _ _ _ hf => (by cases hf)⟩
  | succ n ih => exact ⟨fun _ _ _ _ _ _ _ hf hP hS hl => w12_laysCosts_2 (n := n)  C hr hk ih.1 ih.2.1 ih.2.2.1 ih.2.2.2 ((e12_laysCosts_2  n _ _ _ _).symm.trans hf) hP hS hl, fun _ _ _ _ _ _ _ hf hP hS hl => w12_laysCosts_35 (n := n)  C hr hk ih.1 ih.2.1 ih.2.2.1 ih.2.2.2 ((e12_laysCosts_35  n _ _ _ _).symm.trans hf) hP hS hl, fun _ _ _ _ _ _ _ _ hf hP hS hl => w12_laysCosts_44 (n := n)  C hr hk ih.1 ih.2.1 ih.2.2.1 ih.2.2.2 ((e12_laysCosts_44  n _ _ _ _ _).symm.trans hf) hP hS hl, fun _ _ _ _ _ _ _ _ _ hf hP hS hl => w12_laysCosts_54 (n := n)  C hr hk ih.1 ih.2.1 ih.2.2.1 ih.2.2.2 ((e12_laysCosts_54  n _ _ _ _ _ _).symm.trans hf) hP hS hl⟩
theorem c12_laysCosts {l : Launch} {z : Zt} {b n : Nat}  {a1 : Int32} {a2 : Int32} {M M' : Mem} {r : Unit} (hf : f12_laysCosts n  a1 a2 M = some (r, M')) : CV l z (yd z b) 32 b yX12_laysCosts cX12_laysCosts 8 none rm12_laysCosts [.ref (b + 0), .int a1, .int a2] M M' :=
  CV.ofW (lv := [(0, .ref (b + 0)), (1, .int a1), (2, .int a2)]) (by decide) (Nat.le_of_ble_eq_true rfl) rfl (fun p e s m args below meth c ls C hr hk hP hS hl => w12_laysCosts_0 (n := n)  C hr hk (l12_laysCosts  C hr hk n).1 (l12_laysCosts  C hr hk n).2.1 (l12_laysCosts  C hr hk n).2.2.1 (l12_laysCosts  C hr hk n).2.2.2 hf hP hS hl)
