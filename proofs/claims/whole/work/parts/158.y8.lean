-- BronzeKingModel.bitsOf(J)I
theorem dX12_bitsOf_0 : decode cX12_bitsOf 0 = .ok (.iconst 0, 1) := by decide +kernel
theorem dX12_bitsOf_1 : decode cX12_bitsOf 1 = .ok (.istore_n 2, 1) := by decide +kernel
theorem dX12_bitsOf_2 : decode cX12_bitsOf 2 = .ok (.iconst 0, 1) := by decide +kernel
theorem dX12_bitsOf_3 : decode cX12_bitsOf 3 = .ok (.istore_n 3, 1) := by decide +kernel
theorem dX12_bitsOf_4 : decode cX12_bitsOf 4 = .ok (.iload_n 3, 1) := by decide +kernel
theorem dX12_bitsOf_5 : decode cX12_bitsOf 5 = .ok (.bipush 48, 2) := by decide +kernel
theorem dX12_bitsOf_7 : decode cX12_bitsOf 7 = .ok (.if_icmp .ge 18, 3) := by decide +kernel
theorem dX12_bitsOf_10 : decode cX12_bitsOf 10 = .ok (.iload_n 2, 1) := by decide +kernel
theorem dX12_bitsOf_11 : decode cX12_bitsOf 11 = .ok (.lload_n 0, 1) := by decide +kernel
theorem dX12_bitsOf_12 : decode cX12_bitsOf 12 = .ok (.iload_n 3, 1) := by decide +kernel
theorem dX12_bitsOf_13 : decode cX12_bitsOf 13 = .ok (.lshr, 1) := by decide +kernel
theorem dX12_bitsOf_14 : decode cX12_bitsOf 14 = .ok (.lconst 1, 1) := by decide +kernel
theorem dX12_bitsOf_15 : decode cX12_bitsOf 15 = .ok (.land, 1) := by decide +kernel
theorem dX12_bitsOf_16 : decode cX12_bitsOf 16 = .ok (.l2i, 1) := by decide +kernel
theorem dX12_bitsOf_17 : decode cX12_bitsOf 17 = .ok (.iadd, 1) := by decide +kernel
theorem dX12_bitsOf_18 : decode cX12_bitsOf 18 = .ok (.istore_n 2, 1) := by decide +kernel
theorem dX12_bitsOf_19 : decode cX12_bitsOf 19 = .ok (.iinc 3 1, 3) := by decide +kernel
theorem dX12_bitsOf_22 : decode cX12_bitsOf 22 = .ok (.goto (-18), 3) := by decide +kernel
theorem dX12_bitsOf_25 : decode cX12_bitsOf 25 = .ok (.iload_n 2, 1) := by decide +kernel
theorem dX12_bitsOf_26 : decode cX12_bitsOf 26 = .ok (.ireturn, 1) := by decide +kernel
def b12_bitsOf_4 (rc : Nat → List Int32 → List Int64 → Mem → Option (Int32 × Mem)) (n : Nat) (i2 : Int32) (i3 : Int32) (j0 : Int64) (M : Mem) : Option (Int32 × Mem) :=
  (if (48 : Int32) ≤ i3 then (
   some (i2, M))
  else (
   lt (i2 + ((j0 >>> (i3.toInt64 &&& 63)) &&& (1 : Int64)).toInt32) fun v2 =>
   lt (i3 + (1 : Int32)) fun v3 =>
   rc 4 [v2, v3] [j0] M))
def b12_bitsOf_0 (rc : Nat → List Int32 → List Int64 → Mem → Option (Int32 × Mem)) (n : Nat) (a0 : Int64) (M : Mem) : Option (Int32 × Mem) :=
  b12_bitsOf_4  rc n (0 : Int32) (0 : Int32) a0 M
def r12_bitsOf : Nat → Nat → List Int32 → List Int64 → Mem → Option (Int32 × Mem)
  | 0 => fun _ _ _ _ => none
  | n + 1 => fun pc li lj M =>
    if pc = 4 then (match li, lj with | [i2, i3], [j0] => b12_bitsOf_4  (r12_bitsOf  n) n i2 i3 j0 M | _, _ => none) else
    none
theorem e12_bitsOf_4  (n : Nat) (i2 : Int32) (i3 : Int32) (j0 : Int64) (M : Mem) : r12_bitsOf  (n + 1) 4 [i2, i3] [j0] M = b12_bitsOf_4  (r12_bitsOf  n) n i2 i3 j0 M := by
  rw [r12_bitsOf]
  simp
def f12_bitsOf (n : Nat) (a0 : Int64) (M : Mem) : Option (Int32 × Mem) := b12_bitsOf_0 (r12_bitsOf n) n a0 M
abbrev rm12_bitsOf : Room := { frames := 0, cells := 0, slots := 0, locals := 0 }
theorem y12_bitsOf_w : yS yX12_bitsOf cX12_bitsOf 4 (some .int) 1 := ⟨g_1651, g_14, g_1652, by decide, by decide, by decide +kernel⟩
set_option maxHeartbeats 4000000 in
set_option maxRecDepth 100000 in
theorem w12_bitsOf_4 {p : Program} {l : Launch} {e : Env} {s : State} {m : MethodId} {args : Array Value} {below : List Frame} {meth : Method} {c : Code} {z : Zt} {b : Nat}  (C : Cx p s m args c cX12_bitsOf 4 RX12 z 32 b) (hr : meth.sig.returnType = (some .int)) (hk : meth.locks = false) {r : Int32} {M' : Mem} {rc : Nat → List Int32 → List Int64 → Mem → Option (Int32 × Mem)} {n : Nat} (q4 : ∀ (i2 : Int32) (i3 : Int32) (j0 : Int64) (M : Mem) (H : Heap) (locs : List Loc) (ls : Array Slot), rc 4 [i2, i3] [j0] M = some (r, M') → va_P z.1 vwCl (pw (yd z b) 32 b M) H → va_S (pA 32 b) s.heap H locs → lv_has ls 4 [(0, .long j0), (2, .int i2), (3, .int i3)] → W p l e rm12_bitsOf s m args below meth c H locs 0 0 (MQ below (va_Qi (fun (r' : Int32) (M2 : Mem) => r' = r ∧ M2 = M') (fun M2 t => va_P z.1 vwCl (pw (yd z b) 32 b M2) t.heap) (pA 32 b)) args s 0 0 (pA 32 b)) (F0 m 4 ls [])) {i2 : Int32} {i3 : Int32} {j0 : Int64} {M : Mem} {H : Heap} {locs : List Loc} {ls : Array Slot} (hf : b12_bitsOf_4  rc n i2 i3 j0 M = some (r, M')) (hP : va_P z.1 vwCl (pw (yd z b) 32 b M) H) (hS : va_S (pA 32 b) s.heap H locs) (hl : lv_has ls 4 [(0, .long j0), (2, .int i2), (3, .int i3)]) : W p l e rm12_bitsOf s m args below meth c H locs 0 0 (MQ below (va_Qi (fun (r' : Int32) (M2 : Mem) => r' = r ∧ M2 = M') (fun M2 t => va_P z.1 vwCl (pw (yd z b) 32 b M2) t.heap) (pA 32 b)) args s 0 0 (pA 32 b)) (F0 m 4 ls []) := by
  have hx := C.1.1
  have hb := C.1.2.1
  unfold b12_bitsOf_4 at hf
  refine lv_iload_n hx hb dX12_bitsOf_4 rfl (lv_at hl 2 rfl) ?_
  refine lv_bipush (v := (48 : Int32)) hx hb dX12_bitsOf_5 (by decide) ?_
  refine lv_icmp_ge (tgt := 25) hx hb dX12_bitsOf_7 (by decide) (fun c1 => ?_) (fun c1 => ?_)
  · replace hf := ite_t c1 hf
    refine lv_iload_n hx hb dX12_bitsOf_25 rfl (lv_at hl 1 rfl) ?_
    exact prI C hr hk hP hS hf dX12_bitsOf_26
  · replace hf := ite_f c1 hf
    refine lv_iload_n hx hb dX12_bitsOf_10 rfl (lv_at hl 1 rfl) ?_
    refine lv_lload_n hx hb dX12_bitsOf_11 rfl (lv_at hl 0 rfl) ?_
    refine lv_iload_n hx hb dX12_bitsOf_12 rfl (lv_at hl 2 rfl) ?_
    refine lv_lshr hx hb dX12_bitsOf_13 rfl ?_
    refine lv_lconst (v := (1 : Int64)) hx hb dX12_bitsOf_14 (by decide) ?_
    refine lv_land hx hb dX12_bitsOf_15 ?_
    refine lv_l2i hx hb dX12_bitsOf_16 rfl ?_
    refine lv_iadd hx hb dX12_bitsOf_17 ?_
    refine lv_topi (fun v2 ev2 => ?_)
    replace hf := lt_c ev2 hf
    refine lv_istore_n (lv' := [(2, .int v2), (0, .long j0), (3, .int i3)]) hx hb dX12_bitsOf_18 rfl hl (by decide) rfl (fun ls hl => ?_)
    obtain ⟨v3, ev3⟩ : ∃ v : Int32, v = i3 + (1 : Int32) := ⟨_, rfl⟩
    replace hf := lt_c ev3 hf
    refine lv_iinc (v := v3) (lv' := [(3, .int v3), (2, .int v2), (0, .long j0)]) hx hb dX12_bitsOf_19 hl (k := 2) rfl (by rw [ev3]; rfl) (by decide) rfl (fun ls hl => ?_)
    refine lv_goto (tgt := 4) hx hb dX12_bitsOf_22 (by decide) ?_
    exact q4 v2 v3 j0 M _ _ _ hf hP hS (lv_sub hl [2, 1, 0] rfl)
set_option maxHeartbeats 4000000 in
set_option maxRecDepth 100000 in
theorem w12_bitsOf_0 {p : Program} {l : Launch} {e : Env} {s : State} {m : MethodId} {args : Array Value} {below : List Frame} {meth : Method} {c : Code} {z : Zt} {b : Nat}  (C : Cx p s m args c cX12_bitsOf 4 RX12 z 32 b) (hr : meth.sig.returnType = (some .int)) (hk : meth.locks = false) {r : Int32} {M' : Mem} {rc : Nat → List Int32 → List Int64 → Mem → Option (Int32 × Mem)} {n : Nat} (q4 : ∀ (i2 : Int32) (i3 : Int32) (j0 : Int64) (M : Mem) (H : Heap) (locs : List Loc) (ls : Array Slot), rc 4 [i2, i3] [j0] M = some (r, M') → va_P z.1 vwCl (pw (yd z b) 32 b M) H → va_S (pA 32 b) s.heap H locs → lv_has ls 4 [(0, .long j0), (2, .int i2), (3, .int i3)] → W p l e rm12_bitsOf s m args below meth c H locs 0 0 (MQ below (va_Qi (fun (r' : Int32) (M2 : Mem) => r' = r ∧ M2 = M') (fun M2 t => va_P z.1 vwCl (pw (yd z b) 32 b M2) t.heap) (pA 32 b)) args s 0 0 (pA 32 b)) (F0 m 4 ls [])) {a0 : Int64} {M : Mem} {H : Heap} {locs : List Loc} {ls : Array Slot} (hf : b12_bitsOf_0  rc n a0 M = some (r, M')) (hP : va_P z.1 vwCl (pw (yd z b) 32 b M) H) (hS : va_S (pA 32 b) s.heap H locs) (hl : lv_has ls 4 [(0, .long a0)]) : W p l e rm12_bitsOf s m args below meth c H locs 0 0 (MQ below (va_Qi (fun (r' : Int32) (M2 : Mem) => r' = r ∧ M2 = M') (fun M2 t => va_P z.1 vwCl (pw (yd z b) 32 b M2) t.heap) (pA 32 b)) args s 0 0 (pA 32 b)) (F0 m 0 ls []) := by
  have hx := C.1.1
  have hb := C.1.2.1
  unfold b12_bitsOf_0 at hf
  refine lv_iconst (v := (0 : Int32)) hx hb dX12_bitsOf_0 (by decide) ?_
  refine lv_istore_n (lv' := [(2, .int (0 : Int32)), (0, .long a0)]) hx hb dX12_bitsOf_1 rfl hl (by decide) rfl (fun ls hl => ?_)
  refine lv_iconst (v := (0 : Int32)) hx hb dX12_bitsOf_2 (by decide) ?_
  refine lv_istore_n (lv' := [(3, .int (0 : Int32)), (2, .int (0 : Int32)), (0, .long a0)]) hx hb dX12_bitsOf_3 rfl hl (by decide) rfl (fun ls hl => ?_)
  exact w12_bitsOf_4 (n := n)  C hr hk q4 hf hP hS (lv_sub hl [2, 1, 0] rfl)
set_option maxHeartbeats 4000000 in
set_option maxRecDepth 100000 in
theorem l12_bitsOf {p : Program} {l : Launch} {e : Env} {s : State} {m : MethodId} {args : Array Value} {below : List Frame} {meth : Method} {c : Code} {z : Zt} {b : Nat}  (C : Cx p s m args c cX12_bitsOf 4 RX12 z 32 b) (hr : meth.sig.returnType = (some .int)) (hk : meth.locks = false) {r : Int32} {M' : Mem} (n : Nat) : (∀ (i2 : Int32) (i3 : Int32) (j0 : Int64) (M : Mem) (H : Heap) (locs : List Loc) (ls : Array Slot), (r12_bitsOf  n) 4 [i2, i3] [j0] M = some (r, M') → va_P z.1 vwCl (pw (yd z b) 32 b M) H → va_S (pA 32 b) s.heap H locs → lv_has ls 4 [(0, .long j0), (2, .int i2), (3, .int i3)] → W p l e rm12_bitsOf s m args below meth c H locs 0 0 (MQ below (va_Qi (fun (r' : Int32) (M2 : Mem) => r' = r ∧ M2 = M') (fun M2 t => va_P z.1 vwCl (pw (yd z b) 32 b M2) t.heap) (pA 32 b)) args s 0 0 (pA 32 b)) (F0 m 4 ls [])) := by
  induction n with
  | zero => exact fun _ _ _ _ _ _ _ hf => (by cases hf)
  | succ n ih => exact fun _ _ _ _ _ _ _ hf hP hS hl => w12_bitsOf_4 (n := n)  C hr hk ih ((e12_bitsOf_4  n _ _ _ _).symm.trans hf) hP hS hl
theorem c12_bitsOf {l : Launch} {z : Zt} {b n : Nat}  {a0 : Int64} {M M' : Mem} {r : Int32} (hf : f12_bitsOf n  a0 M = some (r, M')) : CI l z (yd z b) 32 b yX12_bitsOf cX12_bitsOf 4 (some .int) rm12_bitsOf [.long a0] M M' r :=
  CI.ofW (lv := [(0, .long a0)]) (by decide) (Nat.le_of_ble_eq_true rfl) rfl (fun p e s m args below meth c ls C hr hk hP hS hl => w12_bitsOf_0 (n := n)  C hr hk (l12_bitsOf  C hr hk n) hf hP hS hl)

-- BronzeKingModel.openPlaces()I
theorem dX12_openPlaces_0 : decode cX12_openPlaces 0 = .ok (.iconst 0, 1) := by decide +kernel
theorem dX12_openPlaces_1 : decode cX12_openPlaces 1 = .ok (.istore_n 1, 1) := by decide +kernel
theorem dX12_openPlaces_2 : decode cX12_openPlaces 2 = .ok (.iconst 0, 1) := by decide +kernel
theorem dX12_openPlaces_3 : decode cX12_openPlaces 3 = .ok (.istore_n 2, 1) := by decide +kernel
theorem dX12_openPlaces_4 : decode cX12_openPlaces 4 = .ok (.iload_n 2, 1) := by decide +kernel
theorem dX12_openPlaces_5 : decode cX12_openPlaces 5 = .ok (.bipush 96, 2) := by decide +kernel
theorem dX12_openPlaces_7 : decode cX12_openPlaces 7 = .ok (.if_icmp .ge 21, 3) := by decide +kernel
theorem dX12_openPlaces_10 : decode cX12_openPlaces 10 = .ok (.aload_n 0, 1) := by decide +kernel
theorem dX12_openPlaces_11 : decode cX12_openPlaces 11 = .ok (.iload_n 2, 1) := by decide +kernel
theorem dX12_openPlaces_12 : decode cX12_openPlaces 12 = .ok (.invokevirtual 122, 3) := by decide +kernel
theorem dX12_openPlaces_15 : decode cX12_openPlaces 15 = .ok (.ifCond .eq 7, 3) := by decide +kernel
theorem dX12_openPlaces_18 : decode cX12_openPlaces 18 = .ok (.iload_n 1, 1) := by decide +kernel
theorem dX12_openPlaces_19 : decode cX12_openPlaces 19 = .ok (.iconst 1, 1) := by decide +kernel
theorem dX12_openPlaces_20 : decode cX12_openPlaces 20 = .ok (.iadd, 1) := by decide +kernel
theorem dX12_openPlaces_21 : decode cX12_openPlaces 21 = .ok (.istore_n 1, 1) := by decide +kernel
theorem dX12_openPlaces_22 : decode cX12_openPlaces 22 = .ok (.iinc 2 1, 3) := by decide +kernel
theorem dX12_openPlaces_25 : decode cX12_openPlaces 25 = .ok (.goto (-21), 3) := by decide +kernel
theorem dX12_openPlaces_28 : decode cX12_openPlaces 28 = .ok (.iload_n 1, 1) := by decide +kernel
theorem dX12_openPlaces_29 : decode cX12_openPlaces 29 = .ok (.ireturn, 1) := by decide +kernel
def b12_openPlaces_22 (rc : Nat → List Int32 → List Int64 → Mem → Option (Int32 × Mem)) (n : Nat) (i1 : Int32) (i2 : Int32) (M : Mem) : Option (Int32 × Mem) :=
  lt (i2 + (1 : Int32)) fun v7 =>
  rc 4 [i1, v7] [] M
def b12_openPlaces_4 (rc : Nat → List Int32 → List Int64 → Mem → Option (Int32 × Mem)) (n : Nat) (i1 : Int32) (i2 : Int32) (M : Mem) : Option (Int32 × Mem) :=
  (if (96 : Int32) ≤ i2 then (
   some (i1, M))
  else (
   bnd (f12_isOpen n i2 M) fun r2 M3 =>
   (if r2 = 0 then (
    b12_openPlaces_22  rc n i1 i2 M3)
   else (
    lt (i1 + (1 : Int32)) fun v6 =>
    b12_openPlaces_22  rc n v6 i2 M3))))
def b12_openPlaces_0 (rc : Nat → List Int32 → List Int64 → Mem → Option (Int32 × Mem)) (n : Nat) (M : Mem) : Option (Int32 × Mem) :=
  b12_openPlaces_4  rc n (0 : Int32) (0 : Int32) M
def r12_openPlaces : Nat → Nat → List Int32 → List Int64 → Mem → Option (Int32 × Mem)
  | 0 => fun _ _ _ _ => none
  | n + 1 => fun pc li lj M =>
    if pc = 4 then (match li, lj with | [i1, i2], [] => b12_openPlaces_4  (r12_openPlaces  n) n i1 i2 M | _, _ => none) else
    none
theorem e12_openPlaces_4  (n : Nat) (i1 : Int32) (i2 : Int32) (M : Mem) : r12_openPlaces  (n + 1) 4 [i1, i2] [] M = b12_openPlaces_4  (r12_openPlaces  n) n i1 i2 M := by
  rw [r12_openPlaces]
  simp
def f12_openPlaces (n : Nat)  (M : Mem) : Option (Int32 × Mem) := b12_openPlaces_0 (r12_openPlaces n) n M
abbrev rm12_openPlaces : Room := { frames := 1, cells := 0, slots := 0, locals := 21 }
theorem y12_openPlaces_w : yV RX12 yX12_openPlaces cX12_openPlaces 3 (some .int) 0 := ⟨g_1644, gp 90 rfl rfl, g_14, g_1645, rfl, by decide, by decide, by decide +kernel⟩
set_option maxHeartbeats 4000000 in
set_option maxRecDepth 100000 in
theorem w12_openPlaces_22 {p : Program} {l : Launch} {e : Env} {s : State} {m : MethodId} {args : Array Value} {below : List Frame} {meth : Method} {c : Code} {z : Zt} {b : Nat}  (C : Cx p s m args c cX12_openPlaces 3 RX12 z 32 b) (hr : meth.sig.returnType = (some .int)) (hk : meth.locks = false) {r : Int32} {M' : Mem} {rc : Nat → List Int32 → List Int64 → Mem → Option (Int32 × Mem)} {n : Nat} (q4 : ∀ (i1 : Int32) (i2 : Int32) (M : Mem) (H : Heap) (locs : List Loc) (ls : Array Slot), rc 4 [i1, i2] [] M = some (r, M') → va_P z.1 vwCl (pw (yd z b) 32 b M) H → va_S (pA 32 b) s.heap H locs → lv_has ls 3 [(0, .ref (b + 0)), (1, .int i1), (2, .int i2)] → W p l e rm12_openPlaces s m args below meth c H locs 0 0 (MQ below (va_Qi (fun (r' : Int32) (M2 : Mem) => r' = r ∧ M2 = M') (fun M2 t => va_P z.1 vwCl (pw (yd z b) 32 b M2) t.heap) (pA 32 b)) args s 0 0 (pA 32 b)) (F0 m 4 ls [])) {i1 : Int32} {i2 : Int32} {M : Mem} {H : Heap} {locs : List Loc} {ls : Array Slot} (hf : b12_openPlaces_22  rc n i1 i2 M = some (r, M')) (hP : va_P z.1 vwCl (pw (yd z b) 32 b M) H) (hS : va_S (pA 32 b) s.heap H locs) (hl : lv_has ls 3 [(0, .ref (b + 0)), (1, .int i1), (2, .int i2)]) : W p l e rm12_openPlaces s m args below meth c H locs 0 0 (MQ below (va_Qi (fun (r' : Int32) (M2 : Mem) => r' = r ∧ M2 = M') (fun M2 t => va_P z.1 vwCl (pw (yd z b) 32 b M2) t.heap) (pA 32 b)) args s 0 0 (pA 32 b)) (F0 m 22 ls []) := by
  have hx := C.1.1
  have hb := C.1.2.1
  unfold b12_openPlaces_22 at hf
  obtain ⟨v7, ev7⟩ : ∃ v : Int32, v = i2 + (1 : Int32) := ⟨_, rfl⟩
  replace hf := lt_c ev7 hf
  refine lv_iinc (v := v7) (lv' := [(2, .int v7), (0, .ref (b + 0)), (1, .int i1)]) hx hb dX12_openPlaces_22 hl (k := 2) rfl (by rw [ev7]; rfl) (by decide) rfl (fun ls hl => ?_)
  refine lv_goto (tgt := 4) hx hb dX12_openPlaces_25 (by decide) ?_
  exact q4 i1 v7 M _ _ _ hf hP hS (lv_sub hl [1, 2, 0] rfl)
set_option maxHeartbeats 4000000 in
set_option maxRecDepth 100000 in
theorem w12_openPlaces_4 {p : Program} {l : Launch} {e : Env} {s : State} {m : MethodId} {args : Array Value} {below : List Frame} {meth : Method} {c : Code} {z : Zt} {b : Nat}  (C : Cx p s m args c cX12_openPlaces 3 RX12 z 32 b) (hr : meth.sig.returnType = (some .int)) (hk : meth.locks = false) {r : Int32} {M' : Mem} {rc : Nat → List Int32 → List Int64 → Mem → Option (Int32 × Mem)} {n : Nat} (q4 : ∀ (i1 : Int32) (i2 : Int32) (M : Mem) (H : Heap) (locs : List Loc) (ls : Array Slot), rc 4 [i1, i2] [] M = some (r, M') → va_P z.1 vwCl (pw (yd z b) 32 b M) H → va_S (pA 32 b) s.heap H locs → lv_has ls 3 [(0, .ref (b + 0)), (1, .int i1), (2, .int i2)] → W p l e rm12_openPlaces s m args below meth c H locs 0 0 (MQ below (va_Qi (fun (r' : Int32) (M2 : Mem) => r' = r ∧ M2 = M') (fun M2 t => va_P z.1 vwCl (pw (yd z b) 32 b M2) t.heap) (pA 32 b)) args s 0 0 (pA 32 b)) (F0 m 4 ls [])) {i1 : Int32} {i2 : Int32} {M : Mem} {H : Heap} {locs : List Loc} {ls : Array Slot} (hf : b12_openPlaces_4  rc n i1 i2 M = some (r, M')) (hP : va_P z.1 vwCl (pw (yd z b) 32 b M) H) (hS : va_S (pA 32 b) s.heap H locs) (hl : lv_has ls 3 [(0, .ref (b + 0)), (1, .int i1), (2, .int i2)]) : W p l e rm12_openPlaces s m args below meth c H locs 0 0 (MQ below (va_Qi (fun (r' : Int32) (M2 : Mem) => r' = r ∧ M2 = M') (fun M2 t => va_P z.1 vwCl (pw (yd z b) 32 b M2) t.heap) (pA 32 b)) args s 0 0 (pA 32 b)) (F0 m 4 ls []) := by
  have hx := C.1.1
  have hb := C.1.2.1
  unfold b12_openPlaces_4 at hf
  refine lv_iload_n hx hb dX12_openPlaces_4 rfl (lv_at hl 2 rfl) ?_
  refine lv_bipush (v := (96 : Int32)) hx hb dX12_openPlaces_5 (by decide) ?_
  refine lv_icmp_ge (tgt := 28) hx hb dX12_openPlaces_7 (by decide) (fun c1 => ?_) (fun c1 => ?_)
  · replace hf := ite_t c1 hf
    refine lv_iload_n hx hb dX12_openPlaces_28 rfl (lv_at hl 1 rfl) ?_
    exact prI C hr hk hP hS hf dX12_openPlaces_29
  · replace hf := ite_f c1 hf
    refine lv_aload_n hx hb dX12_openPlaces_10 rfl (lv_at hl 0 rfl) ?_
    refine lv_iload_n hx hb dX12_openPlaces_11 rfl (lv_at hl 2 rfl) ?_
    obtain ⟨r2, M3, h4, hf⟩ := bnd_s hf
    refine pcVi (As := [.int i2]) C hP hS (k := 0) (Nat.le_of_ble_eq_true rfl) (yd_0 _ _) rfl (c12_isOpen  h4) y12_isOpen_w g_1483 rfl rfl rfl ⟨Nat.le_of_ble_eq_true rfl, Nat.le_of_ble_eq_true rfl⟩ hl.1 rfl (Nat.le_of_ble_eq_true rfl) dX12_openPlaces_12 ⟨Nat.le_of_ble_eq_true rfl, Nat.le_of_ble_eq_true rfl⟩ (fun H locs hP hS => ?_)
    refine lv_if_eq (tgt := 22) hx hb dX12_openPlaces_15 (by decide) (fun c5 => ?_) (fun c5 => ?_)
    · replace hf := ite_t c5 hf
      exact w12_openPlaces_22 (n := n)  C hr hk q4 hf hP hS (lv_sub hl [0, 1, 2] rfl)
    · replace hf := ite_f c5 hf
      refine lv_iload_n hx hb dX12_openPlaces_18 rfl (lv_at hl 1 rfl) ?_
      refine lv_iconst (v := (1 : Int32)) hx hb dX12_openPlaces_19 (by decide) ?_
      refine lv_iadd hx hb dX12_openPlaces_20 ?_
      refine lv_topi (fun v6 ev6 => ?_)
      replace hf := lt_c ev6 hf
      refine lv_istore_n (lv' := [(1, .int v6), (0, .ref (b + 0)), (2, .int i2)]) hx hb dX12_openPlaces_21 rfl hl (by decide) rfl (fun ls hl => ?_)
      exact w12_openPlaces_22 (n := n)  C hr hk q4 hf hP hS (lv_sub hl [1, 0, 2] rfl)
set_option maxHeartbeats 4000000 in
set_option maxRecDepth 100000 in
theorem w12_openPlaces_0 {p : Program} {l : Launch} {e : Env} {s : State} {m : MethodId} {args : Array Value} {below : List Frame} {meth : Method} {c : Code} {z : Zt} {b : Nat}  (C : Cx p s m args c cX12_openPlaces 3 RX12 z 32 b) (hr : meth.sig.returnType = (some .int)) (hk : meth.locks = false) {r : Int32} {M' : Mem} {rc : Nat → List Int32 → List Int64 → Mem → Option (Int32 × Mem)} {n : Nat} (q4 : ∀ (i1 : Int32) (i2 : Int32) (M : Mem) (H : Heap) (locs : List Loc) (ls : Array Slot), rc 4 [i1, i2] [] M = some (r, M') → va_P z.1 vwCl (pw (yd z b) 32 b M) H → va_S (pA 32 b) s.heap H locs → lv_has ls 3 [(0, .ref (b + 0)), (1, .int i1), (2, .int i2)] → W p l e rm12_openPlaces s m args below meth c H locs 0 0 (MQ below (va_Qi (fun (r' : Int32) (M2 : Mem) => r' = r ∧ M2 = M') (fun M2 t => va_P z.1 vwCl (pw (yd z b) 32 b M2) t.heap) (pA 32 b)) args s 0 0 (pA 32 b)) (F0 m 4 ls []))  {M : Mem} {H : Heap} {locs : List Loc} {ls : Array Slot} (hf : b12_openPlaces_0  rc n  M = some (r, M')) (hP : va_P z.1 vwCl (pw (yd z b) 32 b M) H) (hS : va_S (pA 32 b) s.heap H locs) (hl : lv_has ls 3 [(0, .ref (b + 0))]) : W p l e rm12_openPlaces s m args below meth c H locs 0 0 (MQ below (va_Qi (fun (r' : Int32) (M2 : Mem) => r' = r ∧ M2 = M') (fun M2 t => va_P z.1 vwCl (pw (yd z b) 32 b M2) t.heap) (pA 32 b)) args s 0 0 (pA 32 b)) (F0 m 0 ls []) := by
  have hx := C.1.1
  have hb := C.1.2.1
  unfold b12_openPlaces_0 at hf
  refine lv_iconst (v := (0 : Int32)) hx hb dX12_openPlaces_0 (by decide) ?_
  refine lv_istore_n (lv' := [(1, .int (0 : Int32)), (0, .ref (b + 0))]) hx hb dX12_openPlaces_1 rfl hl (by decide) rfl (fun ls hl => ?_)
  refine lv_iconst (v := (0 : Int32)) hx hb dX12_openPlaces_2 (by decide) ?_
  refine lv_istore_n (lv' := [(2, .int (0 : Int32)), (1, .int (0 : Int32)), (0, .ref (b + 0))]) hx hb dX12_openPlaces_3 rfl hl (by decide) rfl (fun ls hl => ?_)
  exact w12_openPlaces_4 (n := n)  C hr hk q4 hf hP hS (lv_sub hl [2, 1, 0] rfl)
set_option maxHeartbeats 4000000 in
set_option maxRecDepth 100000 in
theorem l12_openPlaces {p : Program} {l : Launch} {e : Env} {s : State} {m : MethodId} {args : Array Value} {below : List Frame} {meth : Method} {c : Code} {z : Zt} {b : Nat}  (C : Cx p s m args c cX12_openPlaces 3 RX12 z 32 b) (hr : meth.sig.returnType = (some .int)) (hk : meth.locks = false) {r : Int32} {M' : Mem} (n : Nat) : (∀ (i1 : Int32) (i2 : Int32) (M : Mem) (H : Heap) (locs : List Loc) (ls : Array Slot), (r12_openPlaces  n) 4 [i1, i2] [] M = some (r, M') → va_P z.1 vwCl (pw (yd z b) 32 b M) H → va_S (pA 32 b) s.heap H locs → lv_has ls 3 [(0, .ref (b + 0)), (1, .int i1), (2, .int i2)] → W p l e rm12_openPlaces s m args below meth c H locs 0 0 (MQ below (va_Qi (fun (r' : Int32) (M2 : Mem) => r' = r ∧ M2 = M') (fun M2 t => va_P z.1 vwCl (pw (yd z b) 32 b M2) t.heap) (pA 32 b)) args s 0 0 (pA 32 b)) (F0 m 4 ls [])) := by
  induction n with
  | zero => exact fun _ _ _ _ _ _ hf => (by cases hf)
  | succ n ih => exact fun _ _ _ _ _ _ hf hP hS hl => w12_openPlaces_4 (n := n)  C hr hk ih ((e12_openPlaces_4  n _ _ _).symm.trans hf) hP hS hl
theorem c12_openPlaces {l : Launch} {z : Zt} {b n : Nat}   {M M' : Mem} {r : Int32} (hf : f12_openPlaces n   M = some (r, M')) : CI l z (yd z b) 32 b yX12_openPlaces cX12_openPlaces 3 (some .int) rm12_openPlaces [.ref (b + 0)] M M' r :=
  CI.ofW (lv := [(0, .ref (b + 0))]) (by decide) (Nat.le_of_ble_eq_true rfl) rfl (fun p e s m args below meth c ls C hr hk hP hS hl => w12_openPlaces_0 (n := n)  C hr hk (l12_openPlaces  C hr hk n) hf hP hS hl)

-- BronzeKingModel.benches(II)I
theorem dX12_benches_0 : decode cX12_benches 0 = .ok (.iload_n 1, 1) := by decide +kernel
theorem dX12_benches_1 : decode cX12_benches 1 = .ok (.iconst 1, 1) := by decide +kernel
theorem dX12_benches_2 : decode cX12_benches 2 = .ok (.iconst 2, 1) := by decide +kernel
theorem dX12_benches_3 : decode cX12_benches 3 = .ok (.invokestatic 106, 3) := by decide +kernel
theorem dX12_benches_6 : decode cX12_benches 6 = .ok (.ifCond .eq 12, 3) := by decide +kernel
theorem dX12_benches_9 : decode cX12_benches 9 = .ok (.iload_n 2, 1) := by decide +kernel
theorem dX12_benches_10 : decode cX12_benches 10 = .ok (.iconst 0, 1) := by decide +kernel
theorem dX12_benches_11 : decode cX12_benches 11 = .ok (.iconst 2, 1) := by decide +kernel
theorem dX12_benches_12 : decode cX12_benches 12 = .ok (.invokestatic 106, 3) := by decide +kernel
theorem dX12_benches_15 : decode cX12_benches 15 = .ok (.ifCond .ne 5, 3) := by decide +kernel
theorem dX12_benches_18 : decode cX12_benches 18 = .ok (.iconst (-1), 1) := by decide +kernel
theorem dX12_benches_19 : decode cX12_benches 19 = .ok (.ireturn, 1) := by decide +kernel
theorem dX12_benches_20 : decode cX12_benches 20 = .ok (.aload_n 0, 1) := by decide +kernel
theorem dX12_benches_21 : decode cX12_benches 21 = .ok (.invokevirtual 392, 3) := by decide +kernel
theorem dX12_benches_24 : decode cX12_benches 24 = .ok (.bipush (-2), 2) := by decide +kernel
theorem dX12_benches_26 : decode cX12_benches 26 = .ok (.if_icmp .eq 11, 3) := by decide +kernel
theorem dX12_benches_29 : decode cX12_benches 29 = .ok (.aload_n 0, 1) := by decide +kernel
theorem dX12_benches_30 : decode cX12_benches 30 = .ok (.invokevirtual 395, 3) := by decide +kernel
theorem dX12_benches_33 : decode cX12_benches 33 = .ok (.iload_n 1, 1) := by decide +kernel
theorem dX12_benches_34 : decode cX12_benches 34 = .ok (.if_icmp .ge 6, 3) := by decide +kernel
theorem dX12_benches_37 : decode cX12_benches 37 = .ok (.bipush (-2), 2) := by decide +kernel
theorem dX12_benches_39 : decode cX12_benches 39 = .ok (.ireturn, 1) := by decide +kernel
theorem dX12_benches_40 : decode cX12_benches 40 = .ok (.aload_n 0, 1) := by decide +kernel
theorem dX12_benches_41 : decode cX12_benches 41 = .ok (.invokevirtual 398, 3) := by decide +kernel
theorem dX12_benches_44 : decode cX12_benches 44 = .ok (.bipush (-2), 2) := by decide +kernel
theorem dX12_benches_46 : decode cX12_benches 46 = .ok (.istore_n 3, 1) := by decide +kernel
theorem dX12_benches_47 : decode cX12_benches 47 = .ok (.bipush (-2), 2) := by decide +kernel
theorem dX12_benches_49 : decode cX12_benches 49 = .ok (.istore 4, 2) := by decide +kernel
theorem dX12_benches_51 : decode cX12_benches 51 = .ok (.iconst (-1), 1) := by decide +kernel
theorem dX12_benches_52 : decode cX12_benches 52 = .ok (.istore 5, 2) := by decide +kernel
theorem dX12_benches_54 : decode cX12_benches 54 = .ok (.iconst 0, 1) := by decide +kernel
theorem dX12_benches_55 : decode cX12_benches 55 = .ok (.istore 6, 2) := by decide +kernel
theorem dX12_benches_57 : decode cX12_benches 57 = .ok (.iload 6, 2) := by decide +kernel
theorem dX12_benches_59 : decode cX12_benches 59 = .ok (.bipush 96, 2) := by decide +kernel
theorem dX12_benches_61 : decode cX12_benches 61 = .ok (.if_icmp .ge 141, 3) := by decide +kernel
theorem dX12_benches_64 : decode cX12_benches 64 = .ok (.iload_n 1, 1) := by decide +kernel
theorem dX12_benches_65 : decode cX12_benches 65 = .ok (.iconst 1, 1) := by decide +kernel
theorem dX12_benches_66 : decode cX12_benches 66 = .ok (.if_icmp .ne 8, 3) := by decide +kernel
theorem dX12_benches_69 : decode cX12_benches 69 = .ok (.iload 6, 2) := by decide +kernel
theorem dX12_benches_71 : decode cX12_benches 71 = .ok (.goto 7, 3) := by decide +kernel
theorem dX12_benches_74 : decode cX12_benches 74 = .ok (.iload 6, 2) := by decide +kernel
theorem dX12_benches_76 : decode cX12_benches 76 = .ok (.iconst 1, 1) := by decide +kernel
theorem dX12_benches_77 : decode cX12_benches 77 = .ok (.iadd, 1) := by decide +kernel
theorem dX12_benches_78 : decode cX12_benches 78 = .ok (.istore 7, 2) := by decide +kernel
theorem dX12_benches_80 : decode cX12_benches 80 = .ok (.iload 7, 2) := by decide +kernel
theorem dX12_benches_82 : decode cX12_benches 82 = .ok (.iload_n 1, 1) := by decide +kernel
theorem dX12_benches_83 : decode cX12_benches 83 = .ok (.iconst 1, 1) := by decide +kernel
theorem dX12_benches_84 : decode cX12_benches 84 = .ok (.if_icmp .ne 10, 3) := by decide +kernel
theorem dX12_benches_87 : decode cX12_benches 87 = .ok (.iload 6, 2) := by decide +kernel
theorem dX12_benches_89 : decode cX12_benches 89 = .ok (.iconst 1, 1) := by decide +kernel
theorem dX12_benches_90 : decode cX12_benches 90 = .ok (.iadd, 1) := by decide +kernel
theorem dX12_benches_91 : decode cX12_benches 91 = .ok (.goto 5, 3) := by decide +kernel
theorem dX12_benches_94 : decode cX12_benches 94 = .ok (.bipush 96, 2) := by decide +kernel
theorem dX12_benches_96 : decode cX12_benches 96 = .ok (.if_icmp .ge 100, 3) := by decide +kernel
theorem dX12_benches_99 : decode cX12_benches 99 = .ok (.aload_n 0, 1) := by decide +kernel
theorem dX12_benches_100 : decode cX12_benches 100 = .ok (.iload 6, 2) := by decide +kernel
theorem dX12_benches_102 : decode cX12_benches 102 = .ok (.invokevirtual 122, 3) := by decide +kernel
theorem dX12_benches_105 : decode cX12_benches 105 = .ok (.ifCond .eq 85, 3) := by decide +kernel
theorem dX12_benches_108 : decode cX12_benches 108 = .ok (.aload_n 0, 1) := by decide +kernel
theorem dX12_benches_109 : decode cX12_benches 109 = .ok (.iload 7, 2) := by decide +kernel
theorem dX12_benches_111 : decode cX12_benches 111 = .ok (.invokevirtual 122, 3) := by decide +kernel
theorem dX12_benches_114 : decode cX12_benches 114 = .ok (.ifCond .ne 6, 3) := by decide +kernel
theorem dX12_benches_117 : decode cX12_benches 117 = .ok (.goto 73, 3) := by decide +kernel
theorem dX12_benches_120 : decode cX12_benches 120 = .ok (.aload_n 0, 1) := by decide +kernel
theorem dX12_benches_121 : decode cX12_benches 121 = .ok (.getfield 96, 3) := by decide +kernel
theorem dX12_benches_124 : decode cX12_benches 124 = .ok (.iload 6, 2) := by decide +kernel
theorem dX12_benches_126 : decode cX12_benches 126 = .ok (.laload, 1) := by decide +kernel
theorem dX12_benches_127 : decode cX12_benches 127 = .ok (.aload_n 0, 1) := by decide +kernel
theorem dX12_benches_128 : decode cX12_benches 128 = .ok (.getfield 96, 3) := by decide +kernel
theorem dX12_benches_131 : decode cX12_benches 131 = .ok (.iload 7, 2) := by decide +kernel
theorem dX12_benches_133 : decode cX12_benches 133 = .ok (.laload, 1) := by decide +kernel
theorem dX12_benches_134 : decode cX12_benches 134 = .ok (.lor, 1) := by decide +kernel
theorem dX12_benches_135 : decode cX12_benches 135 = .ok (.invokestatic 401, 3) := by decide +kernel
theorem dX12_benches_138 : decode cX12_benches 138 = .ok (.aload_n 0, 1) := by decide +kernel
theorem dX12_benches_139 : decode cX12_benches 139 = .ok (.getfield 100, 3) := by decide +kernel
theorem dX12_benches_142 : decode cX12_benches 142 = .ok (.iload 6, 2) := by decide +kernel
theorem dX12_benches_144 : decode cX12_benches 144 = .ok (.laload, 1) := by decide +kernel
theorem dX12_benches_145 : decode cX12_benches 145 = .ok (.aload_n 0, 1) := by decide +kernel
theorem dX12_benches_146 : decode cX12_benches 146 = .ok (.getfield 100, 3) := by decide +kernel
theorem dX12_benches_149 : decode cX12_benches 149 = .ok (.iload 7, 2) := by decide +kernel
theorem dX12_benches_151 : decode cX12_benches 151 = .ok (.laload, 1) := by decide +kernel
theorem dX12_benches_152 : decode cX12_benches 152 = .ok (.lor, 1) := by decide +kernel
theorem dX12_benches_153 : decode cX12_benches 153 = .ok (.invokestatic 401, 3) := by decide +kernel
theorem dX12_benches_156 : decode cX12_benches 156 = .ok (.iadd, 1) := by decide +kernel
theorem dX12_benches_157 : decode cX12_benches 157 = .ok (.istore 8, 2) := by decide +kernel
theorem dX12_benches_159 : decode cX12_benches 159 = .ok (.iload 8, 2) := by decide +kernel
theorem dX12_benches_161 : decode cX12_benches 161 = .ok (.iload 5, 2) := by decide +kernel
theorem dX12_benches_163 : decode cX12_benches 163 = .ok (.if_icmp .gt 6, 3) := by decide +kernel
theorem dX12_benches_166 : decode cX12_benches 166 = .ok (.goto 24, 3) := by decide +kernel
theorem dX12_benches_169 : decode cX12_benches 169 = .ok (.iload 8, 2) := by decide +kernel
theorem dX12_benches_171 : decode cX12_benches 171 = .ok (.istore 5, 2) := by decide +kernel
theorem dX12_benches_173 : decode cX12_benches 173 = .ok (.iload 6, 2) := by decide +kernel
theorem dX12_benches_175 : decode cX12_benches 175 = .ok (.istore_n 3, 1) := by decide +kernel
theorem dX12_benches_176 : decode cX12_benches 176 = .ok (.iload_n 1, 1) := by decide +kernel
theorem dX12_benches_177 : decode cX12_benches 177 = .ok (.iconst 1, 1) := by decide +kernel
theorem dX12_benches_178 : decode cX12_benches 178 = .ok (.if_icmp .ne 8, 3) := by decide +kernel
theorem dX12_benches_181 : decode cX12_benches 181 = .ok (.bipush (-2), 2) := by decide +kernel
theorem dX12_benches_183 : decode cX12_benches 183 = .ok (.goto 5, 3) := by decide +kernel
theorem dX12_benches_186 : decode cX12_benches 186 = .ok (.iload 7, 2) := by decide +kernel
theorem dX12_benches_188 : decode cX12_benches 188 = .ok (.istore 4, 2) := by decide +kernel
theorem dX12_benches_190 : decode cX12_benches 190 = .ok (.iinc 7 1, 3) := by decide +kernel
theorem dX12_benches_193 : decode cX12_benches 193 = .ok (.goto (-113), 3) := by decide +kernel
theorem dX12_benches_196 : decode cX12_benches 196 = .ok (.iinc 6 1, 3) := by decide +kernel
theorem dX12_benches_199 : decode cX12_benches 199 = .ok (.goto (-142), 3) := by decide +kernel
theorem dX12_benches_202 : decode cX12_benches 202 = .ok (.iload 5, 2) := by decide +kernel
theorem dX12_benches_204 : decode cX12_benches 204 = .ok (.iconst 1, 1) := by decide +kernel
theorem dX12_benches_205 : decode cX12_benches 205 = .ok (.if_icmp .ge 6, 3) := by decide +kernel
theorem dX12_benches_208 : decode cX12_benches 208 = .ok (.bipush (-2), 2) := by decide +kernel
theorem dX12_benches_210 : decode cX12_benches 210 = .ok (.ireturn, 1) := by decide +kernel
theorem dX12_benches_211 : decode cX12_benches 211 = .ok (.iload_n 2, 1) := by decide +kernel
theorem dX12_benches_212 : decode cX12_benches 212 = .ok (.ifCond .ne 7, 3) := by decide +kernel
theorem dX12_benches_215 : decode cX12_benches 215 = .ok (.iload_n 3, 1) := by decide +kernel
theorem dX12_benches_216 : decode cX12_benches 216 = .ok (.goto 15, 3) := by decide +kernel
theorem dX12_benches_219 : decode cX12_benches 219 = .ok (.iload_n 2, 1) := by decide +kernel
theorem dX12_benches_220 : decode cX12_benches 220 = .ok (.iconst 1, 1) := by decide +kernel
theorem dX12_benches_221 : decode cX12_benches 221 = .ok (.if_icmp .ne 8, 3) := by decide +kernel
theorem dX12_benches_224 : decode cX12_benches 224 = .ok (.iload 4, 2) := by decide +kernel
theorem dX12_benches_226 : decode cX12_benches 226 = .ok (.goto 5, 3) := by decide +kernel
theorem dX12_benches_229 : decode cX12_benches 229 = .ok (.iload 5, 2) := by decide +kernel
theorem dX12_benches_231 : decode cX12_benches 231 = .ok (.ireturn, 1) := by decide +kernel
def b12_benches_18 (rc : Nat → List Int32 → List Int64 → Mem → Option (Int32 × Mem)) (n : Nat) (M : Mem) : Option (Int32 × Mem) :=
  some ((-1 : Int32), M)
def b12_benches_37 (rc : Nat → List Int32 → List Int64 → Mem → Option (Int32 × Mem)) (n : Nat) (M : Mem) : Option (Int32 × Mem) :=
  some ((-2 : Int32), M)
def b12_benches_190 (rc : Nat → List Int32 → List Int64 → Mem → Option (Int32 × Mem)) (n : Nat) (i1 : Int32) (i2 : Int32) (i3 : Int32) (i4 : Int32) (i5 : Int32) (i6 : Int32) (i7 : Int32) (M : Mem) : Option (Int32 × Mem) :=
  lt (i7 + (1 : Int32)) fun v49 =>
  rc 80 [i1, i2, i3, i4, i5, i6, v49] [] M
def b12_benches_188 (rc : Nat → List Int32 → List Int64 → Mem → Option (Int32 × Mem)) (n : Nat) (i1 : Int32) (i2 : Int32) (i3 : Int32) (i5 : Int32) (i6 : Int32) (i7 : Int32) (s0 : Int32) (M : Mem) : Option (Int32 × Mem) :=
  b12_benches_190  rc n i1 i2 i3 s0 i5 i6 i7 M
def b12_benches_96 (rc : Nat → List Int32 → List Int64 → Mem → Option (Int32 × Mem)) (n : Nat) (i1 : Int32) (i2 : Int32) (i3 : Int32) (i4 : Int32) (i5 : Int32) (i6 : Int32) (i7 : Int32) (s0 : Int32) (s1 : Int32) (M : Mem) : Option (Int32 × Mem) :=
  (if s1 ≤ s0 then (
   lt (i6 + (1 : Int32)) fun v27 =>
   rc 57 [i1, i2, i3, i4, i5, v27] [] M)
  else (
   bnd (f12_isOpen n i6 M) fun r28 M29 =>
   (if r28 = 0 then (
    b12_benches_190  rc n i1 i2 i3 i4 i5 i6 i7 M29)
   else (
    bnd (f12_isOpen n i7 M29) fun r32 M33 =>
    (if r32 = 0 then (
     b12_benches_190  rc n i1 i2 i3 i4 i5 i6 i7 M33)
    else (
     chk (inb i6 96) <|
     chk (inb i7 96) <|
     bnd (f12_bitsOf n ((M33.2 29 i6.toNatClampNeg) ||| (M33.2 29 i7.toNatClampNeg)) M33) fun r38 M39 =>
     chk (inb i6 96) <|
     chk (inb i7 96) <|
     bnd (f12_bitsOf n ((M39.2 30 i6.toNatClampNeg) ||| (M39.2 30 i7.toNatClampNeg)) M39) fun r43 M44 =>
     lt (r38 + r43) fun v46 =>
     (if i5 < v46 then (
      (if i1 = (1 : Int32) then (
       b12_benches_188  rc n i1 i2 i6 v46 i6 i7 (-2 : Int32) M44)
      else (
       b12_benches_188  rc n i1 i2 i6 v46 i6 i7 i7 M44)))
     else (
      b12_benches_190  rc n i1 i2 i3 i4 i5 i6 i7 M44))))))))
def b12_benches_80 (rc : Nat → List Int32 → List Int64 → Mem → Option (Int32 × Mem)) (n : Nat) (i1 : Int32) (i2 : Int32) (i3 : Int32) (i4 : Int32) (i5 : Int32) (i6 : Int32) (i7 : Int32) (M : Mem) : Option (Int32 × Mem) :=
  (if i1 = (1 : Int32) then (
   b12_benches_96  rc n i1 i2 i3 i4 i5 i6 i7 i7 (i6 + (1 : Int32)) M)
  else (
   b12_benches_96  rc n i1 i2 i3 i4 i5 i6 i7 i7 (96 : Int32) M))
def b12_benches_78 (rc : Nat → List Int32 → List Int64 → Mem → Option (Int32 × Mem)) (n : Nat) (i1 : Int32) (i2 : Int32) (i3 : Int32) (i4 : Int32) (i5 : Int32) (i6 : Int32) (s0 : Int32) (M : Mem) : Option (Int32 × Mem) :=
  b12_benches_80  rc n i1 i2 i3 i4 i5 i6 s0 M
def b12_benches_57 (rc : Nat → List Int32 → List Int64 → Mem → Option (Int32 × Mem)) (n : Nat) (i1 : Int32) (i2 : Int32) (i3 : Int32) (i4 : Int32) (i5 : Int32) (i6 : Int32) (M : Mem) : Option (Int32 × Mem) :=
  (if (96 : Int32) ≤ i6 then (
   (if (1 : Int32) ≤ i5 then (
    (if i2 = 0 then (
     some (i3, M))
    else (
     (if i2 = (1 : Int32) then (
      some (i4, M))
     else (
      some (i5, M))))))
   else (
    some ((-2 : Int32), M))))
  else (
   (if i1 = (1 : Int32) then (
    b12_benches_78  rc n i1 i2 i3 i4 i5 i6 i6 M)
   else (
    b12_benches_78  rc n i1 i2 i3 i4 i5 i6 (i6 + (1 : Int32)) M))))
def b12_benches_0 (rc : Nat → List Int32 → List Int64 → Mem → Option (Int32 × Mem)) (n : Nat) (a1 : Int32) (a2 : Int32) (M : Mem) : Option (Int32 × Mem) :=
  bnd (f12_in n a1 (1 : Int32) (2 : Int32) M) fun r1 M2 =>
  (if r1 = 0 then (
   b12_benches_18  rc n  M2)
  else (
   bnd (f12_in n a2 (0 : Int32) (2 : Int32) M2) fun r5 M6 =>
   (if r5 = 0 then (
    b12_benches_18  rc n  M6)
   else (
    bnd (f12_worn n M6) fun r9 M10 =>
    (if r9 = (-2 : Int32) then (
     b12_benches_37  rc n  M10)
    else (
     bnd (f12_openPlaces n M10) fun r13 M14 =>
     (if a1 ≤ r13 then (
      bnd (f12_laysNear n M14) fun r17 M18 =>
      b12_benches_57  rc n a1 a2 (-2 : Int32) (-2 : Int32) (-1 : Int32) (0 : Int32) M18)
     else (
      b12_benches_37  rc n  M14))))))))
def r12_benches : Nat → Nat → List Int32 → List Int64 → Mem → Option (Int32 × Mem)
  | 0 => fun _ _ _ _ => none
  | n + 1 => fun pc li lj M =>
    if pc = 57 then (match li, lj with | [i1, i2, i3, i4, i5, i6], [] => b12_benches_57  (r12_benches  n) n i1 i2 i3 i4 i5 i6 M | _, _ => none) else
    if pc = 80 then (match li, lj with | [i1, i2, i3, i4, i5, i6, i7], [] => b12_benches_80  (r12_benches  n) n i1 i2 i3 i4 i5 i6 i7 M | _, _ => none) else
    none
theorem e12_benches_57  (n : Nat) (i1 : Int32) (i2 : Int32) (i3 : Int32) (i4 : Int32) (i5 : Int32) (i6 : Int32) (M : Mem) : r12_benches  (n + 1) 57 [i1, i2, i3, i4, i5, i6] [] M = b12_benches_57  (r12_benches  n) n i1 i2 i3 i4 i5 i6 M := by
  rw [r12_benches]
  simp
theorem e12_benches_80  (n : Nat) (i1 : Int32) (i2 : Int32) (i3 : Int32) (i4 : Int32) (i5 : Int32) (i6 : Int32) (i7 : Int32) (M : Mem) : r12_benches  (n + 1) 80 [i1, i2, i3, i4, i5, i6, i7] [] M = b12_benches_80  (r12_benches  n) n i1 i2 i3 i4 i5 i6 i7 M := by
  rw [r12_benches]
  simp
def f12_benches (n : Nat) (a1 : Int32) (a2 : Int32) (M : Mem) : Option (Int32 × Mem) := b12_benches_0 (r12_benches n) n a1 a2 M
abbrev rm12_benches : Room := { frames := 6, cells := 0, slots := 0, locals := 136 }
theorem y12_benches_w : yV RX12 yX12_benches cX12_benches 9 (some .int) 2 := ⟨g_1638, g_1639, g_14, g_1640, rfl, by decide, by decide, by decide +kernel⟩
set_option maxHeartbeats 4000000 in
set_option maxRecDepth 100000 in
theorem w12_benches_18 {p : Program} {l : Launch} {e : Env} {s : State} {m : MethodId} {args : Array Value} {below : List Frame} {meth : Method} {c : Code} {z : Zt} {b : Nat}  (C : Cx p s m args c cX12_benches 9 RX12 z 32 b) (hr : meth.sig.returnType = (some .int)) (hk : meth.locks = false) {r : Int32} {M' : Mem} {rc : Nat → List Int32 → List Int64 → Mem → Option (Int32 × Mem)} {n : Nat} (q57 : ∀ (i1 : Int32) (i2 : Int32) (i3 : Int32) (i4 : Int32) (i5 : Int32) (i6 : Int32) (M : Mem) (H : Heap) (locs : List Loc) (ls : Array Slot), rc 57 [i1, i2, i3, i4, i5, i6] [] M = some (r, M') → va_P z.1 vwCl (pw (yd z b) 32 b M) H → va_S (pA 32 b) s.heap H locs → lv_has ls 9 [(0, .ref (b + 0)), (1, .int i1), (2, .int i2), (3, .int i3), (4, .int i4), (5, .int i5), (6, .int i6)] → W p l e rm12_benches s m args below meth c H locs 0 0 (MQ below (va_Qi (fun (r' : Int32) (M2 : Mem) => r' = r ∧ M2 = M') (fun M2 t => va_P z.1 vwCl (pw (yd z b) 32 b M2) t.heap) (pA 32 b)) args s 0 0 (pA 32 b)) (F0 m 57 ls [])) (q80 : ∀ (i1 : Int32) (i2 : Int32) (i3 : Int32) (i4 : Int32) (i5 : Int32) (i6 : Int32) (i7 : Int32) (M : Mem) (H : Heap) (locs : List Loc) (ls : Array Slot), rc 80 [i1, i2, i3, i4, i5, i6, i7] [] M = some (r, M') → va_P z.1 vwCl (pw (yd z b) 32 b M) H → va_S (pA 32 b) s.heap H locs → lv_has ls 9 [(0, .ref (b + 0)), (1, .int i1), (2, .int i2), (3, .int i3), (4, .int i4), (5, .int i5), (6, .int i6), (7, .int i7)] → W p l e rm12_benches s m args below meth c H locs 0 0 (MQ below (va_Qi (fun (r' : Int32) (M2 : Mem) => r' = r ∧ M2 = M') (fun M2 t => va_P z.1 vwCl (pw (yd z b) 32 b M2) t.heap) (pA 32 b)) args s 0 0 (pA 32 b)) (F0 m 80 ls []))  {M : Mem} {H : Heap} {locs : List Loc} {ls : Array Slot} (hf : b12_benches_18  rc n  M = some (r, M')) (hP : va_P z.1 vwCl (pw (yd z b) 32 b M) H) (hS : va_S (pA 32 b) s.heap H locs) (hl : lv_has ls 9 []) : W p l e rm12_benches s m args below meth c H locs 0 0 (MQ below (va_Qi (fun (r' : Int32) (M2 : Mem) => r' = r ∧ M2 = M') (fun M2 t => va_P z.1 vwCl (pw (yd z b) 32 b M2) t.heap) (pA 32 b)) args s 0 0 (pA 32 b)) (F0 m 18 ls []) := by
  have hx := C.1.1
  have hb := C.1.2.1
  unfold b12_benches_18 at hf
  refine lv_iconst (v := (-1 : Int32)) hx hb dX12_benches_18 (by decide) ?_
  exact prI C hr hk hP hS hf dX12_benches_19
set_option maxHeartbeats 4000000 in
set_option maxRecDepth 100000 in
theorem w12_benches_37 {p : Program} {l : Launch} {e : Env} {s : State} {m : MethodId} {args : Array Value} {below : List Frame} {meth : Method} {c : Code} {z : Zt} {b : Nat}  (C : Cx p s m args c cX12_benches 9 RX12 z 32 b) (hr : meth.sig.returnType = (some .int)) (hk : meth.locks = false) {r : Int32} {M' : Mem} {rc : Nat → List Int32 → List Int64 → Mem → Option (Int32 × Mem)} {n : Nat} (q57 : ∀ (i1 : Int32) (i2 : Int32) (i3 : Int32) (i4 : Int32) (i5 : Int32) (i6 : Int32) (M : Mem) (H : Heap) (locs : List Loc) (ls : Array Slot), rc 57 [i1, i2, i3, i4, i5, i6] [] M = some (r, M') → va_P z.1 vwCl (pw (yd z b) 32 b M) H → va_S (pA 32 b) s.heap H locs → lv_has ls 9 [(0, .ref (b + 0)), (1, .int i1), (2, .int i2), (3, .int i3), (4, .int i4), (5, .int i5), (6, .int i6)] → W p l e rm12_benches s m args below meth c H locs 0 0 (MQ below (va_Qi (fun (r' : Int32) (M2 : Mem) => r' = r ∧ M2 = M') (fun M2 t => va_P z.1 vwCl (pw (yd z b) 32 b M2) t.heap) (pA 32 b)) args s 0 0 (pA 32 b)) (F0 m 57 ls [])) (q80 : ∀ (i1 : Int32) (i2 : Int32) (i3 : Int32) (i4 : Int32) (i5 : Int32) (i6 : Int32) (i7 : Int32) (M : Mem) (H : Heap) (locs : List Loc) (ls : Array Slot), rc 80 [i1, i2, i3, i4, i5, i6, i7] [] M = some (r, M') → va_P z.1 vwCl (pw (yd z b) 32 b M) H → va_S (pA 32 b) s.heap H locs → lv_has ls 9 [(0, .ref (b + 0)), (1, .int i1), (2, .int i2), (3, .int i3), (4, .int i4), (5, .int i5), (6, .int i6), (7, .int i7)] → W p l e rm12_benches s m args below meth c H locs 0 0 (MQ below (va_Qi (fun (r' : Int32) (M2 : Mem) => r' = r ∧ M2 = M') (fun M2 t => va_P z.1 vwCl (pw (yd z b) 32 b M2) t.heap) (pA 32 b)) args s 0 0 (pA 32 b)) (F0 m 80 ls []))  {M : Mem} {H : Heap} {locs : List Loc} {ls : Array Slot} (hf : b12_benches_37  rc n  M = some (r, M')) (hP : va_P z.1 vwCl (pw (yd z b) 32 b M) H) (hS : va_S (pA 32 b) s.heap H locs) (hl : lv_has ls 9 []) : W p l e rm12_benches s m args below meth c H locs 0 0 (MQ below (va_Qi (fun (r' : Int32) (M2 : Mem) => r' = r ∧ M2 = M') (fun M2 t => va_P z.1 vwCl (pw (yd z b) 32 b M2) t.heap) (pA 32 b)) args s 0 0 (pA 32 b)) (F0 m 37 ls []) := by
  have hx := C.1.1
  have hb := C.1.2.1
  unfold b12_benches_37 at hf
  refine lv_bipush (v := (-2 : Int32)) hx hb dX12_benches_37 (by decide) ?_
  exact prI C hr hk hP hS hf dX12_benches_39
set_option maxHeartbeats 4000000 in
set_option maxRecDepth 100000 in
theorem w12_benches_190 {p : Program} {l : Launch} {e : Env} {s : State} {m : MethodId} {args : Array Value} {below : List Frame} {meth : Method} {c : Code} {z : Zt} {b : Nat}  (C : Cx p s m args c cX12_benches 9 RX12 z 32 b) (hr : meth.sig.returnType = (some .int)) (hk : meth.locks = false) {r : Int32} {M' : Mem} {rc : Nat → List Int32 → List Int64 → Mem → Option (Int32 × Mem)} {n : Nat} (q57 : ∀ (i1 : Int32) (i2 : Int32) (i3 : Int32) (i4 : Int32) (i5 : Int32) (i6 : Int32) (M : Mem) (H : Heap) (locs : List Loc) (ls : Array Slot), rc 57 [i1, i2, i3, i4, i5, i6] [] M = some (r, M') → va_P z.1 vwCl (pw (yd z b) 32 b M) H → va_S (pA 32 b) s.heap H locs → lv_has ls 9 [(0, .ref (b + 0)), (1, .int i1), (2, .int i2), (3, .int i3), (4, .int i4), (5, .int i5), (6, .int i6)] → W p l e rm12_benches s m args below meth c H locs 0 0 (MQ below (va_Qi (fun (r' : Int32) (M2 : Mem) => r' = r ∧ M2 = M') (fun M2 t => va_P z.1 vwCl (pw (yd z b) 32 b M2) t.heap) (pA 32 b)) args s 0 0 (pA 32 b)) (F0 m 57 ls [])) (q80 : ∀ (i1 : Int32) (i2 : Int32) (i3 : Int32) (i4 : Int32) (i5 : Int32) (i6 : Int32) (i7 : Int32) (M : Mem) (H : Heap) (locs : List Loc) (ls : Array Slot), rc 80 [i1, i2, i3, i4, i5, i6, i7] [] M = some (r, M') → va_P z.1 vwCl (pw (yd z b) 32 b M) H → va_S (pA 32 b) s.heap H locs → lv_has ls 9 [(0, .ref (b + 0)), (1, .int i1), (2, .int i2), (3, .int i3), (4, .int i4), (5, .int i5), (6, .int i6), (7, .int i7)] → W p l e rm12_benches s m args below meth c H locs 0 0 (MQ below (va_Qi (fun (r' : Int32) (M2 : Mem) => r' = r ∧ M2 = M') (fun M2 t => va_P z.1 vwCl (pw (yd z b) 32 b M2) t.heap) (pA 32 b)) args s 0 0 (pA 32 b)) (F0 m 80 ls [])) {i1 : Int32} {i2 : Int32} {i3 : Int32} {i4 : Int32} {i5 : Int32} {i6 : Int32} {i7 : Int32} {M : Mem} {H : Heap} {locs : List Loc} {ls : Array Slot} (hf : b12_benches_190  rc n i1 i2 i3 i4 i5 i6 i7 M = some (r, M')) (hP : va_P z.1 vwCl (pw (yd z b) 32 b M) H) (hS : va_S (pA 32 b) s.heap H locs) (hl : lv_has ls 9 [(0, .ref (b + 0)), (1, .int i1), (2, .int i2), (3, .int i3), (4, .int i4), (5, .int i5), (6, .int i6), (7, .int i7)]) : W p l e rm12_benches s m args below meth c H locs 0 0 (MQ below (va_Qi (fun (r' : Int32) (M2 : Mem) => r' = r ∧ M2 = M') (fun M2 t => va_P z.1 vwCl (pw (yd z b) 32 b M2) t.heap) (pA 32 b)) args s 0 0 (pA 32 b)) (F0 m 190 ls []) := by
  have hx := C.1.1
  have hb := C.1.2.1
  unfold b12_benches_190 at hf
  obtain ⟨v49, ev49⟩ : ∃ v : Int32, v = i7 + (1 : Int32) := ⟨_, rfl⟩
  replace hf := lt_c ev49 hf
  refine lv_iinc (v := v49) (lv' := [(7, .int v49), (0, .ref (b + 0)), (1, .int i1), (2, .int i2), (3, .int i3), (4, .int i4), (5, .int i5), (6, .int i6)]) hx hb dX12_benches_190 hl (k := 7) rfl (by rw [ev49]; rfl) (by decide) rfl (fun ls hl => ?_)
  refine lv_goto (tgt := 80) hx hb dX12_benches_193 (by decide) ?_
  exact q80 i1 i2 i3 i4 i5 i6 v49 M _ _ _ hf hP hS (lv_sub hl [1, 2, 3, 4, 5, 6, 7, 0] rfl)
set_option maxHeartbeats 4000000 in
set_option maxRecDepth 100000 in
theorem w12_benches_188 {p : Program} {l : Launch} {e : Env} {s : State} {m : MethodId} {args : Array Value} {below : List Frame} {meth : Method} {c : Code} {z : Zt} {b : Nat}  (C : Cx p s m args c cX12_benches 9 RX12 z 32 b) (hr : meth.sig.returnType = (some .int)) (hk : meth.locks = false) {r : Int32} {M' : Mem} {rc : Nat → List Int32 → List Int64 → Mem → Option (Int32 × Mem)} {n : Nat} (q57 : ∀ (i1 : Int32) (i2 : Int32) (i3 : Int32) (i4 : Int32) (i5 : Int32) (i6 : Int32) (M : Mem) (H : Heap) (locs : List Loc) (ls : Array Slot), rc 57 [i1, i2, i3, i4, i5, i6] [] M = some (r, M') → va_P z.1 vwCl (pw (yd z b) 32 b M) H → va_S (pA 32 b) s.heap H locs → lv_has ls 9 [(0, .ref (b + 0)), (1, .int i1), (2, .int i2), (3, .int i3), (4, .int i4), (5, .int i5), (6, .int i6)] → W p l e rm12_benches s m args below meth c H locs 0 0 (MQ below (va_Qi (fun (r' : Int32) (M2 : Mem) => r' = r ∧ M2 = M') (fun M2 t => va_P z.1 vwCl (pw (yd z b) 32 b M2) t.heap) (pA 32 b)) args s 0 0 (pA 32 b)) (F0 m 57 ls [])) (q80 : ∀ (i1 : Int32) (i2 : Int32) (i3 : Int32) (i4 : Int32) (i5 : Int32) (i6 : Int32) (i7 : Int32) (M : Mem) (H : Heap) (locs : List Loc) (ls : Array Slot), rc 80 [i1, i2, i3, i4, i5, i6, i7] [] M = some (r, M') → va_P z.1 vwCl (pw (yd z b) 32 b M) H → va_S (pA 32 b) s.heap H locs → lv_has ls 9 [(0, .ref (b + 0)), (1, .int i1), (2, .int i2), (3, .int i3), (4, .int i4), (5, .int i5), (6, .int i6), (7, .int i7)] → W p l e rm12_benches s m args below meth c H locs 0 0 (MQ below (va_Qi (fun (r' : Int32) (M2 : Mem) => r' = r ∧ M2 = M') (fun M2 t => va_P z.1 vwCl (pw (yd z b) 32 b M2) t.heap) (pA 32 b)) args s 0 0 (pA 32 b)) (F0 m 80 ls [])) {i1 : Int32} {i2 : Int32} {i3 : Int32} {i5 : Int32} {i6 : Int32} {i7 : Int32} {s0 : Int32} {M : Mem} {H : Heap} {locs : List Loc} {ls : Array Slot} (hf : b12_benches_188  rc n i1 i2 i3 i5 i6 i7 s0 M = some (r, M')) (hP : va_P z.1 vwCl (pw (yd z b) 32 b M) H) (hS : va_S (pA 32 b) s.heap H locs) (hl : lv_has ls 9 [(0, .ref (b + 0)), (1, .int i1), (2, .int i2), (3, .int i3), (5, .int i5), (6, .int i6), (7, .int i7)]) : W p l e rm12_benches s m args below meth c H locs 0 0 (MQ below (va_Qi (fun (r' : Int32) (M2 : Mem) => r' = r ∧ M2 = M') (fun M2 t => va_P z.1 vwCl (pw (yd z b) 32 b M2) t.heap) (pA 32 b)) args s 0 0 (pA 32 b)) (F0 m 188 ls [.int s0]) := by
  have hx := C.1.1
  have hb := C.1.2.1
  unfold b12_benches_188 at hf
  refine lv_istore (lv' := [(4, .int s0), (0, .ref (b + 0)), (1, .int i1), (2, .int i2), (3, .int i3), (5, .int i5), (6, .int i6), (7, .int i7)]) hx hb dX12_benches_188 hl (by decide) rfl (fun ls hl => ?_)
  exact w12_benches_190 (n := n)  C hr hk q57 q80 hf hP hS (lv_sub hl [1, 2, 3, 4, 0, 5, 6, 7] rfl)
set_option maxHeartbeats 4000000 in
set_option maxRecDepth 100000 in
theorem w12_benches_96 {p : Program} {l : Launch} {e : Env} {s : State} {m : MethodId} {args : Array Value} {below : List Frame} {meth : Method} {c : Code} {z : Zt} {b : Nat}  (C : Cx p s m args c cX12_benches 9 RX12 z 32 b) (hr : meth.sig.returnType = (some .int)) (hk : meth.locks = false) {r : Int32} {M' : Mem} {rc : Nat → List Int32 → List Int64 → Mem → Option (Int32 × Mem)} {n : Nat} (q57 : ∀ (i1 : Int32) (i2 : Int32) (i3 : Int32) (i4 : Int32) (i5 : Int32) (i6 : Int32) (M : Mem) (H : Heap) (locs : List Loc) (ls : Array Slot), rc 57 [i1, i2, i3, i4, i5, i6] [] M = some (r, M') → va_P z.1 vwCl (pw (yd z b) 32 b M) H → va_S (pA 32 b) s.heap H locs → lv_has ls 9 [(0, .ref (b + 0)), (1, .int i1), (2, .int i2), (3, .int i3), (4, .int i4), (5, .int i5), (6, .int i6)] → W p l e rm12_benches s m args below meth c H locs 0 0 (MQ below (va_Qi (fun (r' : Int32) (M2 : Mem) => r' = r ∧ M2 = M') (fun M2 t => va_P z.1 vwCl (pw (yd z b) 32 b M2) t.heap) (pA 32 b)) args s 0 0 (pA 32 b)) (F0 m 57 ls [])) (q80 : ∀ (i1 : Int32) (i2 : Int32) (i3 : Int32) (i4 : Int32) (i5 : Int32) (i6 : Int32) (i7 : Int32) (M : Mem) (H : Heap) (locs : List Loc) (ls : Array Slot), rc 80 [i1, i2, i3, i4, i5, i6, i7] [] M = some (r, M') → va_P z.1 vwCl (pw (yd z b) 32 b M) H → va_S (pA 32 b) s.heap H locs → lv_has ls 9 [(0, .ref (b + 0)), (1, .int i1), (2, .int i2), (3, .int i3), (4, .int i4), (5, .int i5), (6, .int i6), (7, .int i7)] → W p l e rm12_benches s m args below meth c H locs 0 0 (MQ below (va_Qi (fun (r' : Int32) (M2 : Mem) => r' = r ∧ M2 = M') (fun M2 t => va_P z.1 vwCl (pw (yd z b) 32 b M2) t.heap) (pA 32 b)) args s 0 0 (pA 32 b)) (F0 m 80 ls [])) {i1 : Int32} {i2 : Int32} {i3 : Int32} {i4 : Int32} {i5 : Int32} {i6 : Int32} {i7 : Int32} {s0 : Int32} {s1 : Int32} {M : Mem} {H : Heap} {locs : List Loc} {ls : Array Slot} (hf : b12_benches_96  rc n i1 i2 i3 i4 i5 i6 i7 s0 s1 M = some (r, M')) (hP : va_P z.1 vwCl (pw (yd z b) 32 b M) H) (hS : va_S (pA 32 b) s.heap H locs) (hl : lv_has ls 9 [(0, .ref (b + 0)), (1, .int i1), (2, .int i2), (3, .int i3), (4, .int i4), (5, .int i5), (6, .int i6), (7, .int i7)]) : W p l e rm12_benches s m args below meth c H locs 0 0 (MQ below (va_Qi (fun (r' : Int32) (M2 : Mem) => r' = r ∧ M2 = M') (fun M2 t => va_P z.1 vwCl (pw (yd z b) 32 b M2) t.heap) (pA 32 b)) args s 0 0 (pA 32 b)) (F0 m 96 ls [.int s1, .int s0]) := by
  have hx := C.1.1
  have hb := C.1.2.1
  unfold b12_benches_96 at hf
  refine lv_icmp_ge (tgt := 196) hx hb dX12_benches_96 (by decide) (fun c26 => ?_) (fun c26 => ?_)
  · replace hf := ite_t c26 hf
    obtain ⟨v27, ev27⟩ : ∃ v : Int32, v = i6 + (1 : Int32) := ⟨_, rfl⟩
    replace hf := lt_c ev27 hf
    refine lv_iinc (v := v27) (lv' := [(6, .int v27), (0, .ref (b + 0)), (1, .int i1), (2, .int i2), (3, .int i3), (4, .int i4), (5, .int i5), (7, .int i7)]) hx hb dX12_benches_196 hl (k := 6) rfl (by rw [ev27]; rfl) (by decide) rfl (fun ls hl => ?_)
    refine lv_goto (tgt := 57) hx hb dX12_benches_199 (by decide) ?_
    exact q57 i1 i2 i3 i4 i5 v27 M _ _ _ hf hP hS (lv_sub hl [1, 2, 3, 4, 5, 6, 0] rfl)
  · replace hf := ite_f c26 hf
    refine lv_aload_n hx hb dX12_benches_99 rfl (lv_at hl 0 rfl) ?_
    refine lv_iload hx hb dX12_benches_100 (lv_at hl 6 rfl) ?_
    obtain ⟨r28, M29, h30, hf⟩ := bnd_s hf
    refine pcVi (As := [.int i6]) C hP hS (k := 0) (Nat.le_of_ble_eq_true rfl) (yd_0 _ _) rfl (c12_isOpen  h30) y12_isOpen_w g_1483 rfl rfl rfl ⟨Nat.le_of_ble_eq_true rfl, Nat.le_of_ble_eq_true rfl⟩ hl.1 rfl (Nat.le_of_ble_eq_true rfl) dX12_benches_102 ⟨Nat.le_of_ble_eq_true rfl, Nat.le_of_ble_eq_true rfl⟩ (fun H locs hP hS => ?_)
    refine lv_if_eq (tgt := 190) hx hb dX12_benches_105 (by decide) (fun c31 => ?_) (fun c31 => ?_)
    · replace hf := ite_t c31 hf
      exact w12_benches_190 (n := n)  C hr hk q57 q80 hf hP hS (lv_sub hl [0, 1, 2, 3, 4, 5, 6, 7] rfl)
    · replace hf := ite_f c31 hf
      refine lv_aload_n hx hb dX12_benches_108 rfl (lv_at hl 0 rfl) ?_
      refine lv_iload hx hb dX12_benches_109 (lv_at hl 7 rfl) ?_
      obtain ⟨r32, M33, h34, hf⟩ := bnd_s hf
      refine pcVi (As := [.int i7]) C hP hS (k := 0) (Nat.le_of_ble_eq_true rfl) (yd_0 _ _) rfl (c12_isOpen  h34) y12_isOpen_w g_1483 rfl rfl rfl ⟨Nat.le_of_ble_eq_true rfl, Nat.le_of_ble_eq_true rfl⟩ hl.1 rfl (Nat.le_of_ble_eq_true rfl) dX12_benches_111 ⟨Nat.le_of_ble_eq_true rfl, Nat.le_of_ble_eq_true rfl⟩ (fun H locs hP hS => ?_)
      refine lv_if_ne (tgt := 120) hx hb dX12_benches_114 (by decide) (fun c35 => ?_) (fun c35 => ?_)
      · replace hf := ite_f c35 hf
        refine lv_aload_n hx hb dX12_benches_120 rfl (lv_at hl 0 rfl) ?_
        refine pg C hP (k := 0) (j := 50) (Nat.le_of_ble_eq_true rfl) (yd_0 _ _) rfl iw_12 (Nat.le_of_ble_eq_true rfl) g_1185 rfl rfl dX12_benches_121 ?_
        refine lv_iload hx hb dX12_benches_124 (lv_at hl 6 rfl) ?_
        have h36 := chk_1 hf
        replace hf := chk_2 hf
        refine paJ C hP (k := 29) (Nat.le_of_ble_eq_true rfl) (yd_29 _ _) h36 dX12_benches_126 ?_
        refine lv_aload_n hx hb dX12_benches_127 rfl (lv_at hl 0 rfl) ?_
        refine pg C hP (k := 0) (j := 50) (Nat.le_of_ble_eq_true rfl) (yd_0 _ _) rfl iw_12 (Nat.le_of_ble_eq_true rfl) g_1185 rfl rfl dX12_benches_128 ?_
        refine lv_iload hx hb dX12_benches_131 (lv_at hl 7 rfl) ?_
        have h37 := chk_1 hf
        replace hf := chk_2 hf
        refine paJ C hP (k := 29) (Nat.le_of_ble_eq_true rfl) (yd_29 _ _) h37 dX12_benches_133 ?_
        refine lv_lor hx hb dX12_benches_134 ?_
        obtain ⟨r38, M39, h40, hf⟩ := bnd_s hf
        refine pcSi (As := [.long ((M33.2 29 i6.toNatClampNeg) ||| (M33.2 29 i7.toNatClampNeg))]) C hP hS (c12_bitsOf  h40) y12_bitsOf_w g_1650 rfl rfl rfl ⟨Nat.le_of_ble_eq_true rfl, Nat.le_of_ble_eq_true rfl⟩ hl.1 rfl (Nat.le_of_ble_eq_true rfl) dX12_benches_135 ⟨Nat.le_of_ble_eq_true rfl, Nat.le_of_ble_eq_true rfl⟩ (fun H locs hP hS => ?_)
        refine lv_aload_n hx hb dX12_benches_138 rfl (lv_at hl 0 rfl) ?_
        refine pg C hP (k := 0) (j := 51) (Nat.le_of_ble_eq_true rfl) (yd_0 _ _) rfl iw_12 (Nat.le_of_ble_eq_true rfl) g_1186 rfl rfl dX12_benches_139 ?_
        refine lv_iload hx hb dX12_benches_142 (lv_at hl 6 rfl) ?_
        have h41 := chk_1 hf
        replace hf := chk_2 hf
        refine paJ C hP (k := 30) (Nat.le_of_ble_eq_true rfl) (yd_30 _ _) h41 dX12_benches_144 ?_
        refine lv_aload_n hx hb dX12_benches_145 rfl (lv_at hl 0 rfl) ?_
        refine pg C hP (k := 0) (j := 51) (Nat.le_of_ble_eq_true rfl) (yd_0 _ _) rfl iw_12 (Nat.le_of_ble_eq_true rfl) g_1186 rfl rfl dX12_benches_146 ?_
        refine lv_iload hx hb dX12_benches_149 (lv_at hl 7 rfl) ?_
        have h42 := chk_1 hf
        replace hf := chk_2 hf
        refine paJ C hP (k := 30) (Nat.le_of_ble_eq_true rfl) (yd_30 _ _) h42 dX12_benches_151 ?_
        refine lv_lor hx hb dX12_benches_152 ?_
        obtain ⟨r43, M44, h45, hf⟩ := bnd_s hf
        refine pcSi (As := [.long ((M39.2 30 i6.toNatClampNeg) ||| (M39.2 30 i7.toNatClampNeg))]) C hP hS (c12_bitsOf  h45) y12_bitsOf_w g_1650 rfl rfl rfl ⟨Nat.le_of_ble_eq_true rfl, Nat.le_of_ble_eq_true rfl⟩ hl.1 rfl (Nat.le_of_ble_eq_true rfl) dX12_benches_153 ⟨Nat.le_of_ble_eq_true rfl, Nat.le_of_ble_eq_true rfl⟩ (fun H locs hP hS => ?_)
        refine lv_iadd hx hb dX12_benches_156 ?_
        refine lv_topi (fun v46 ev46 => ?_)
        replace hf := lt_c ev46 hf
        refine lv_istore (lv' := [(8, .int v46), (0, .ref (b + 0)), (1, .int i1), (2, .int i2), (3, .int i3), (4, .int i4), (5, .int i5), (6, .int i6), (7, .int i7)]) hx hb dX12_benches_157 hl (by decide) rfl (fun ls hl => ?_)
        refine lv_iload hx hb dX12_benches_159 (lv_at hl 0 rfl) ?_
        refine lv_iload hx hb dX12_benches_161 (lv_at hl 6 rfl) ?_
        refine lv_icmp_gt (tgt := 169) hx hb dX12_benches_163 (by decide) (fun c47 => ?_) (fun c47 => ?_)
        · replace hf := ite_t c47 hf
          refine lv_iload hx hb dX12_benches_169 (lv_at hl 0 rfl) ?_
          refine lv_istore (lv' := [(5, .int v46), (8, .int v46), (0, .ref (b + 0)), (1, .int i1), (2, .int i2), (3, .int i3), (4, .int i4), (6, .int i6), (7, .int i7)]) hx hb dX12_benches_171 hl (by decide) rfl (fun ls hl => ?_)
          refine lv_iload hx hb dX12_benches_173 (lv_at hl 7 rfl) ?_
          refine lv_istore_n (lv' := [(3, .int i6), (5, .int v46), (8, .int v46), (0, .ref (b + 0)), (1, .int i1), (2, .int i2), (4, .int i4), (6, .int i6), (7, .int i7)]) hx hb dX12_benches_175 rfl hl (by decide) rfl (fun ls hl => ?_)
          refine lv_iload_n hx hb dX12_benches_176 rfl (lv_at hl 4 rfl) ?_
          refine lv_iconst (v := (1 : Int32)) hx hb dX12_benches_177 (by decide) ?_
          refine lv_icmp_ne (tgt := 186) hx hb dX12_benches_178 (by decide) (fun c48 => ?_) (fun c48 => ?_)
          · replace hf := ite_f c48 hf
            refine lv_iload hx hb dX12_benches_186 (lv_at hl 8 rfl) ?_
            exact w12_benches_188 (n := n)  C hr hk q57 q80 hf hP hS (lv_sub hl [3, 4, 5, 0, 1, 7, 8] rfl)
          · replace hf := ite_t c48 hf
            refine lv_bipush (v := (-2 : Int32)) hx hb dX12_benches_181 (by decide) ?_
            refine lv_goto (tgt := 188) hx hb dX12_benches_183 (by decide) ?_
            exact w12_benches_188 (n := n)  C hr hk q57 q80 hf hP hS (lv_sub hl [3, 4, 5, 0, 1, 7, 8] rfl)
        · replace hf := ite_f c47 hf
          refine lv_goto (tgt := 190) hx hb dX12_benches_166 (by decide) ?_
          exact w12_benches_190 (n := n)  C hr hk q57 q80 hf hP hS (lv_sub hl [1, 2, 3, 4, 5, 6, 7, 8] rfl)
      · replace hf := ite_t c35 hf
        refine lv_goto (tgt := 190) hx hb dX12_benches_117 (by decide) ?_
        exact w12_benches_190 (n := n)  C hr hk q57 q80 hf hP hS (lv_sub hl [0, 1, 2, 3, 4, 5, 6, 7] rfl)
set_option maxHeartbeats 4000000 in
set_option maxRecDepth 100000 in
theorem w12_benches_80 {p : Program} {l : Launch} {e : Env} {s : State} {m : MethodId} {args : Array Value} {below : List Frame} {meth : Method} {c : Code} {z : Zt} {b : Nat}  (C : Cx p s m args c cX12_benches 9 RX12 z 32 b) (hr : meth.sig.returnType = (some .int)) (hk : meth.locks = false) {r : Int32} {M' : Mem} {rc : Nat → List Int32 → List Int64 → Mem → Option (Int32 × Mem)} {n : Nat} (q57 : ∀ (i1 : Int32) (i2 : Int32) (i3 : Int32) (i4 : Int32) (i5 : Int32) (i6 : Int32) (M : Mem) (H : Heap) (locs : List Loc) (ls : Array Slot), rc 57 [i1, i2, i3, i4, i5, i6] [] M = some (r, M') → va_P z.1 vwCl (pw (yd z b) 32 b M) H → va_S (pA 32 b) s.heap H locs → lv_has ls 9 [(0, .ref (b + 0)), (1, .int i1), (2, .int i2), (3, .int i3), (4, .int i4), (5, .int i5), (6, .int i6)] → W p l e rm12_benches s m args below meth c H locs 0 0 (MQ below (va_Qi (fun (r' : Int32) (M2 : Mem) => r' = r ∧ M2 = M') (fun M2 t => va_P z.1 vwCl (pw (yd z b) 32 b M2) t.heap) (pA 32 b)) args s 0 0 (pA 32 b)) (F0 m 57 ls [])) (q80 : ∀ (i1 : Int32) (i2 : Int32) (i3 : Int32) (i4 : Int32) (i5 : Int32) (i6 : Int32) (i7 : Int32) (M : Mem) (H : Heap) (locs : List Loc) (ls : Array Slot), rc 80 [i1, i2, i3, i4, i5, i6, i7] [] M = some (r, M') → va_P z.1 vwCl (pw (yd z b) 32 b M) H → va_S (pA 32 b) s.heap H locs → lv_has ls 9 [(0, .ref (b + 0)), (1, .int i1), (2, .int i2), (3, .int i3), (4, .int i4), (5, .int i5), (6, .int i6), (7, .int i7)] → W p l e rm12_benches s m args below meth c H locs 0 0 (MQ below (va_Qi (fun (r' : Int32) (M2 : Mem) => r' = r ∧ M2 = M') (fun M2 t => va_P z.1 vwCl (pw (yd z b) 32 b M2) t.heap) (pA 32 b)) args s 0 0 (pA 32 b)) (F0 m 80 ls [])) {i1 : Int32} {i2 : Int32} {i3 : Int32} {i4 : Int32} {i5 : Int32} {i6 : Int32} {i7 : Int32} {M : Mem} {H : Heap} {locs : List Loc} {ls : Array Slot} (hf : b12_benches_80  rc n i1 i2 i3 i4 i5 i6 i7 M = some (r, M')) (hP : va_P z.1 vwCl (pw (yd z b) 32 b M) H) (hS : va_S (pA 32 b) s.heap H locs) (hl : lv_has ls 9 [(0, .ref (b + 0)), (1, .int i1), (2, .int i2), (3, .int i3), (4, .int i4), (5, .int i5), (6, .int i6), (7, .int i7)]) : W p l e rm12_benches s m args below meth c H locs 0 0 (MQ below (va_Qi (fun (r' : Int32) (M2 : Mem) => r' = r ∧ M2 = M') (fun M2 t => va_P z.1 vwCl (pw (yd z b) 32 b M2) t.heap) (pA 32 b)) args s 0 0 (pA 32 b)) (F0 m 80 ls []) := by
  have hx := C.1.1
  have hb := C.1.2.1
  unfold b12_benches_80 at hf
  refine lv_iload hx hb dX12_benches_80 (lv_at hl 7 rfl) ?_
  refine lv_iload_n hx hb dX12_benches_82 rfl (lv_at hl 1 rfl) ?_
  refine lv_iconst (v := (1 : Int32)) hx hb dX12_benches_83 (by decide) ?_
  refine lv_icmp_ne (tgt := 94) hx hb dX12_benches_84 (by decide) (fun c25 => ?_) (fun c25 => ?_)
  · replace hf := ite_f c25 hf
    refine lv_bipush (v := (96 : Int32)) hx hb dX12_benches_94 (by decide) ?_
    exact w12_benches_96 (n := n)  C hr hk q57 q80 hf hP hS (lv_sub hl [0, 1, 2, 3, 4, 5, 6, 7] rfl)
  · replace hf := ite_t c25 hf
    refine lv_iload hx hb dX12_benches_87 (lv_at hl 6 rfl) ?_
    refine lv_iconst (v := (1 : Int32)) hx hb dX12_benches_89 (by decide) ?_
    refine lv_iadd hx hb dX12_benches_90 ?_
    refine lv_goto (tgt := 96) hx hb dX12_benches_91 (by decide) ?_
    exact w12_benches_96 (n := n)  C hr hk q57 q80 hf hP hS (lv_sub hl [0, 1, 2, 3, 4, 5, 6, 7] rfl)
set_option maxHeartbeats 4000000 in
set_option maxRecDepth 100000 in
theorem w12_benches_78 {p : Program} {l : Launch} {e : Env} {s : State} {m : MethodId} {args : Array Value} {below : List Frame} {meth : Method} {c : Code} {z : Zt} {b : Nat}  (C : Cx p s m args c cX12_benches 9 RX12 z 32 b) (hr : meth.sig.returnType = (some .int)) (hk : meth.locks = false) {r : Int32} {M' : Mem} {rc : Nat → List Int32 → List Int64 → Mem → Option (Int32 × Mem)} {n : Nat} (q57 : ∀ (i1 : Int32) (i2 : Int32) (i3 : Int32) (i4 : Int32) (i5 : Int32) (i6 : Int32) (M : Mem) (H : Heap) (locs : List Loc) (ls : Array Slot), rc 57 [i1, i2, i3, i4, i5, i6] [] M = some (r, M') → va_P z.1 vwCl (pw (yd z b) 32 b M) H → va_S (pA 32 b) s.heap H locs → lv_has ls 9 [(0, .ref (b + 0)), (1, .int i1), (2, .int i2), (3, .int i3), (4, .int i4), (5, .int i5), (6, .int i6)] → W p l e rm12_benches s m args below meth c H locs 0 0 (MQ below (va_Qi (fun (r' : Int32) (M2 : Mem) => r' = r ∧ M2 = M') (fun M2 t => va_P z.1 vwCl (pw (yd z b) 32 b M2) t.heap) (pA 32 b)) args s 0 0 (pA 32 b)) (F0 m 57 ls [])) (q80 : ∀ (i1 : Int32) (i2 : Int32) (i3 : Int32) (i4 : Int32) (i5 : Int32) (i6 : Int32) (i7 : Int32) (M : Mem) (H : Heap) (locs : List Loc) (ls : Array Slot), rc 80 [i1, i2, i3, i4, i5, i6, i7] [] M = some (r, M') → va_P z.1 vwCl (pw (yd z b) 32 b M) H → va_S (pA 32 b) s.heap H locs → lv_has ls 9 [(0, .ref (b + 0)), (1, .int i1), (2, .int i2), (3, .int i3), (4, .int i4), (5, .int i5), (6, .int i6), (7, .int i7)] → W p l e rm12_benches s m args below meth c H locs 0 0 (MQ below (va_Qi (fun (r' : Int32) (M2 : Mem) => r' = r ∧ M2 = M') (fun M2 t => va_P z.1 vwCl (pw (yd z b) 32 b M2) t.heap) (pA 32 b)) args s 0 0 (pA 32 b)) (F0 m 80 ls [])) {i1 : Int32} {i2 : Int32} {i3 : Int32} {i4 : Int32} {i5 : Int32} {i6 : Int32} {s0 : Int32} {M : Mem} {H : Heap} {locs : List Loc} {ls : Array Slot} (hf : b12_benches_78  rc n i1 i2 i3 i4 i5 i6 s0 M = some (r, M')) (hP : va_P z.1 vwCl (pw (yd z b) 32 b M) H) (hS : va_S (pA 32 b) s.heap H locs) (hl : lv_has ls 9 [(0, .ref (b + 0)), (1, .int i1), (2, .int i2), (3, .int i3), (4, .int i4), (5, .int i5), (6, .int i6)]) : W p l e rm12_benches s m args below meth c H locs 0 0 (MQ below (va_Qi (fun (r' : Int32) (M2 : Mem) => r' = r ∧ M2 = M') (fun M2 t => va_P z.1 vwCl (pw (yd z b) 32 b M2) t.heap) (pA 32 b)) args s 0 0 (pA 32 b)) (F0 m 78 ls [.int s0]) := by
  have hx := C.1.1
  have hb := C.1.2.1
  unfold b12_benches_78 at hf
  refine lv_istore (lv' := [(7, .int s0), (0, .ref (b + 0)), (1, .int i1), (2, .int i2), (3, .int i3), (4, .int i4), (5, .int i5), (6, .int i6)]) hx hb dX12_benches_78 hl (by decide) rfl (fun ls hl => ?_)
  exact w12_benches_80 (n := n)  C hr hk q57 q80 hf hP hS (lv_sub hl [1, 2, 3, 4, 5, 6, 7, 0] rfl)
set_option maxHeartbeats 4000000 in
set_option maxRecDepth 100000 in
theorem w12_benches_57 {p : Program} {l : Launch} {e : Env} {s : State} {m : MethodId} {args : Array Value} {below : List Frame} {meth : Method} {c : Code} {z : Zt} {b : Nat}  (C : Cx p s m args c cX12_benches 9 RX12 z 32 b) (hr : meth.sig.returnType = (some .int)) (hk : meth.locks = false) {r : Int32} {M' : Mem} {rc : Nat → List Int32 → List Int64 → Mem → Option (Int32 × Mem)} {n : Nat} (q57 : ∀ (i1 : Int32) (i2 : Int32) (i3 : Int32) (i4 : Int32) (i5 : Int32) (i6 : Int32) (M : Mem) (H : Heap) (locs : List Loc) (ls : Array Slot), rc 57 [i1, i2, i3, i4, i5, i6] [] M = some (r, M') → va_P z.1 vwCl (pw (yd z b) 32 b M) H → va_S (pA 32 b) s.heap H locs → lv_has ls 9 [(0, .ref (b + 0)), (1, .int i1), (2, .int i2), (3, .int i3), (4, .int i4), (5, .int i5), (6, .int i6)] → W p l e rm12_benches s m args below meth c H locs 0 0 (MQ below (va_Qi (fun (r' : Int32) (M2 : Mem) => r' = r ∧ M2 = M') (fun M2 t => va_P z.1 vwCl (pw (yd z b) 32 b M2) t.heap) (pA 32 b)) args s 0 0 (pA 32 b)) (F0 m 57 ls [])) (q80 : ∀ (i1 : Int32) (i2 : Int32) (i3 : Int32) (i4 : Int32) (i5 : Int32) (i6 : Int32) (i7 : Int32) (M : Mem) (H : Heap) (locs : List Loc) (ls : Array Slot), rc 80 [i1, i2, i3, i4, i5, i6, i7] [] M = some (r, M') → va_P z.1 vwCl (pw (yd z b) 32 b M) H → va_S (pA 32 b) s.heap H locs → lv_has ls 9 [(0, .ref (b + 0)), (1, .int i1), (2, .int i2), (3, .int i3), (4, .int i4), (5, .int i5), (6, .int i6), (7, .int i7)] → W p l e rm12_benches s m args below meth c H locs 0 0 (MQ below (va_Qi (fun (r' : Int32) (M2 : Mem) => r' = r ∧ M2 = M') (fun M2 t => va_P z.1 vwCl (pw (yd z b) 32 b M2) t.heap) (pA 32 b)) args s 0 0 (pA 32 b)) (F0 m 80 ls [])) {i1 : Int32} {i2 : Int32} {i3 : Int32} {i4 : Int32} {i5 : Int32} {i6 : Int32} {M : Mem} {H : Heap} {locs : List Loc} {ls : Array Slot} (hf : b12_benches_57  rc n i1 i2 i3 i4 i5 i6 M = some (r, M')) (hP : va_P z.1 vwCl (pw (yd z b) 32 b M) H) (hS : va_S (pA 32 b) s.heap H locs) (hl : lv_has ls 9 [(0, .ref (b + 0)), (1, .int i1), (2, .int i2), (3, .int i3), (4, .int i4), (5, .int i5), (6, .int i6)]) : W p l e rm12_benches s m args below meth c H locs 0 0 (MQ below (va_Qi (fun (r' : Int32) (M2 : Mem) => r' = r ∧ M2 = M') (fun M2 t => va_P z.1 vwCl (pw (yd z b) 32 b M2) t.heap) (pA 32 b)) args s 0 0 (pA 32 b)) (F0 m 57 ls []) := by
  have hx := C.1.1
  have hb := C.1.2.1
  unfold b12_benches_57 at hf
  refine lv_iload hx hb dX12_benches_57 (lv_at hl 6 rfl) ?_
  refine lv_bipush (v := (96 : Int32)) hx hb dX12_benches_59 (by decide) ?_
  refine lv_icmp_ge (tgt := 202) hx hb dX12_benches_61 (by decide) (fun c20 => ?_) (fun c20 => ?_)
  · replace hf := ite_t c20 hf
    refine lv_iload hx hb dX12_benches_202 (lv_at hl 5 rfl) ?_
    refine lv_iconst (v := (1 : Int32)) hx hb dX12_benches_204 (by decide) ?_
    refine lv_icmp_ge (tgt := 211) hx hb dX12_benches_205 (by decide) (fun c21 => ?_) (fun c21 => ?_)
    · replace hf := ite_t c21 hf
      refine lv_iload_n hx hb dX12_benches_211 rfl (lv_at hl 2 rfl) ?_
      refine lv_if_ne (tgt := 219) hx hb dX12_benches_212 (by decide) (fun c22 => ?_) (fun c22 => ?_)
      · replace hf := ite_f c22 hf
        refine lv_iload_n hx hb dX12_benches_219 rfl (lv_at hl 2 rfl) ?_
        refine lv_iconst (v := (1 : Int32)) hx hb dX12_benches_220 (by decide) ?_
        refine lv_icmp_ne (tgt := 229) hx hb dX12_benches_221 (by decide) (fun c23 => ?_) (fun c23 => ?_)
        · replace hf := ite_f c23 hf
          refine lv_iload hx hb dX12_benches_229 (lv_at hl 5 rfl) ?_
          exact prI C hr hk hP hS hf dX12_benches_231
        · replace hf := ite_t c23 hf
          refine lv_iload hx hb dX12_benches_224 (lv_at hl 4 rfl) ?_
          refine lv_goto (tgt := 231) hx hb dX12_benches_226 (by decide) ?_
          exact prI C hr hk hP hS hf dX12_benches_231
      · replace hf := ite_t c22 hf
        refine lv_iload_n hx hb dX12_benches_215 rfl (lv_at hl 3 rfl) ?_
        refine lv_goto (tgt := 231) hx hb dX12_benches_216 (by decide) ?_
        exact prI C hr hk hP hS hf dX12_benches_231
    · replace hf := ite_f c21 hf
      refine lv_bipush (v := (-2 : Int32)) hx hb dX12_benches_208 (by decide) ?_
      exact prI C hr hk hP hS hf dX12_benches_210
  · replace hf := ite_f c20 hf
    refine lv_iload_n hx hb dX12_benches_64 rfl (lv_at hl 1 rfl) ?_
    refine lv_iconst (v := (1 : Int32)) hx hb dX12_benches_65 (by decide) ?_
    refine lv_icmp_ne (tgt := 74) hx hb dX12_benches_66 (by decide) (fun c24 => ?_) (fun c24 => ?_)
    · replace hf := ite_f c24 hf
      refine lv_iload hx hb dX12_benches_74 (lv_at hl 6 rfl) ?_
      refine lv_iconst (v := (1 : Int32)) hx hb dX12_benches_76 (by decide) ?_
      refine lv_iadd hx hb dX12_benches_77 ?_
      exact w12_benches_78 (n := n)  C hr hk q57 q80 hf hP hS (lv_sub hl [0, 1, 2, 3, 4, 5, 6] rfl)
    · replace hf := ite_t c24 hf
      refine lv_iload hx hb dX12_benches_69 (lv_at hl 6 rfl) ?_
      refine lv_goto (tgt := 78) hx hb dX12_benches_71 (by decide) ?_
      exact w12_benches_78 (n := n)  C hr hk q57 q80 hf hP hS (lv_sub hl [0, 1, 2, 3, 4, 5, 6] rfl)
set_option maxHeartbeats 4000000 in
set_option maxRecDepth 100000 in
theorem w12_benches_0 {p : Program} {l : Launch} {e : Env} {s : State} {m : MethodId} {args : Array Value} {below : List Frame} {meth : Method} {c : Code} {z : Zt} {b : Nat}  (C : Cx p s m args c cX12_benches 9 RX12 z 32 b) (hr : meth.sig.returnType = (some .int)) (hk : meth.locks = false) {r : Int32} {M' : Mem} {rc : Nat → List Int32 → List Int64 → Mem → Option (Int32 × Mem)} {n : Nat} (q57 : ∀ (i1 : Int32) (i2 : Int32) (i3 : Int32) (i4 : Int32) (i5 : Int32) (i6 : Int32) (M : Mem) (H : Heap) (locs : List Loc) (ls : Array Slot), rc 57 [i1, i2, i3, i4, i5, i6] [] M = some (r, M') → va_P z.1 vwCl (pw (yd z b) 32 b M) H → va_S (pA 32 b) s.heap H locs → lv_has ls 9 [(0, .ref (b + 0)), (1, .int i1), (2, .int i2), (3, .int i3), (4, .int i4), (5, .int i5), (6, .int i6)] → W p l e rm12_benches s m args below meth c H locs 0 0 (MQ below (va_Qi (fun (r' : Int32) (M2 : Mem) => r' = r ∧ M2 = M') (fun M2 t => va_P z.1 vwCl (pw (yd z b) 32 b M2) t.heap) (pA 32 b)) args s 0 0 (pA 32 b)) (F0 m 57 ls [])) (q80 : ∀ (i1 : Int32) (i2 : Int32) (i3 : Int32) (i4 : Int32) (i5 : Int32) (i6 : Int32) (i7 : Int32) (M : Mem) (H : Heap) (locs : List Loc) (ls : Array Slot), rc 80 [i1, i2, i3, i4, i5, i6, i7] [] M = some (r, M') → va_P z.1 vwCl (pw (yd z b) 32 b M) H → va_S (pA 32 b) s.heap H locs → lv_has ls 9 [(0, .ref (b + 0)), (1, .int i1), (2, .int i2), (3, .int i3), (4, .int i4), (5, .int i5), (6, .int i6), (7, .int i7)] → W p l e rm12_benches s m args below meth c H locs 0 0 (MQ below (va_Qi (fun (r' : Int32) (M2 : Mem) => r' = r ∧ M2 = M') (fun M2 t => va_P z.1 vwCl (pw (yd z b) 32 b M2) t.heap) (pA 32 b)) args s 0 0 (pA 32 b)) (F0 m 80 ls [])) {a1 : Int32} {a2 : Int32} {M : Mem} {H : Heap} {locs : List Loc} {ls : Array Slot} (hf : b12_benches_0  rc n a1 a2 M = some (r, M')) (hP : va_P z.1 vwCl (pw (yd z b) 32 b M) H) (hS : va_S (pA 32 b) s.heap H locs) (hl : lv_has ls 9 [(0, .ref (b + 0)), (1, .int a1), (2, .int a2)]) : W p l e rm12_benches s m args below meth c H locs 0 0 (MQ below (va_Qi (fun (r' : Int32) (M2 : Mem) => r' = r ∧ M2 = M') (fun M2 t => va_P z.1 vwCl (pw (yd z b) 32 b M2) t.heap) (pA 32 b)) args s 0 0 (pA 32 b)) (F0 m 0 ls []) := by
  have hx := C.1.1
  have hb := C.1.2.1
  unfold b12_benches_0 at hf
  refine lv_iload_n hx hb dX12_benches_0 rfl (lv_at hl 1 rfl) ?_
  refine lv_iconst (v := (1 : Int32)) hx hb dX12_benches_1 (by decide) ?_
  refine lv_iconst (v := (2 : Int32)) hx hb dX12_benches_2 (by decide) ?_
  obtain ⟨r1, M2, h3, hf⟩ := bnd_s hf
  refine pcSi (As := [.int a1, .int (1 : Int32), .int (2 : Int32)]) C hP hS (c12_in  h3) y12_in_w g_1306 rfl rfl rfl ⟨Nat.le_of_ble_eq_true rfl, Nat.le_of_ble_eq_true rfl⟩ hl.1 rfl (Nat.le_of_ble_eq_true rfl) dX12_benches_3 ⟨Nat.le_of_ble_eq_true rfl, Nat.le_of_ble_eq_true rfl⟩ (fun H locs hP hS => ?_)
  refine lv_if_eq (tgt := 18) hx hb dX12_benches_6 (by decide) (fun c4 => ?_) (fun c4 => ?_)
  · replace hf := ite_t c4 hf
    exact w12_benches_18 (n := n)  C hr hk q57 q80 hf hP hS (lv_sub hl [] rfl)
  · replace hf := ite_f c4 hf
    refine lv_iload_n hx hb dX12_benches_9 rfl (lv_at hl 2 rfl) ?_
    refine lv_iconst (v := (0 : Int32)) hx hb dX12_benches_10 (by decide) ?_
    refine lv_iconst (v := (2 : Int32)) hx hb dX12_benches_11 (by decide) ?_
    obtain ⟨r5, M6, h7, hf⟩ := bnd_s hf
    refine pcSi (As := [.int a2, .int (0 : Int32), .int (2 : Int32)]) C hP hS (c12_in  h7) y12_in_w g_1306 rfl rfl rfl ⟨Nat.le_of_ble_eq_true rfl, Nat.le_of_ble_eq_true rfl⟩ hl.1 rfl (Nat.le_of_ble_eq_true rfl) dX12_benches_12 ⟨Nat.le_of_ble_eq_true rfl, Nat.le_of_ble_eq_true rfl⟩ (fun H locs hP hS => ?_)
    refine lv_if_ne (tgt := 20) hx hb dX12_benches_15 (by decide) (fun c8 => ?_) (fun c8 => ?_)
    · replace hf := ite_f c8 hf
      refine lv_aload_n hx hb dX12_benches_20 rfl (lv_at hl 0 rfl) ?_
      obtain ⟨r9, M10, h11, hf⟩ := bnd_s hf
      refine pcVi (As := []) C hP hS (k := 0) (Nat.le_of_ble_eq_true rfl) (yd_0 _ _) rfl (c12_worn  h11) y12_worn_w g_1641 rfl rfl rfl ⟨Nat.le_of_ble_eq_true rfl, Nat.le_of_ble_eq_true rfl⟩ hl.1 rfl (Nat.le_of_ble_eq_true rfl) dX12_benches_21 ⟨Nat.le_of_ble_eq_true rfl, Nat.le_of_ble_eq_true rfl⟩ (fun H locs hP hS => ?_)
      refine lv_bipush (v := (-2 : Int32)) hx hb dX12_benches_24 (by decide) ?_
      refine lv_icmp_eq (tgt := 37) hx hb dX12_benches_26 (by decide) (fun c12 => ?_) (fun c12 => ?_)
      · replace hf := ite_t c12 hf
        exact w12_benches_37 (n := n)  C hr hk q57 q80 hf hP hS (lv_sub hl [] rfl)
      · replace hf := ite_f c12 hf
        refine lv_aload_n hx hb dX12_benches_29 rfl (lv_at hl 0 rfl) ?_
        obtain ⟨r13, M14, h15, hf⟩ := bnd_s hf
        refine pcVi (As := []) C hP hS (k := 0) (Nat.le_of_ble_eq_true rfl) (yd_0 _ _) rfl (c12_openPlaces  h15) y12_openPlaces_w g_1642 rfl rfl rfl ⟨Nat.le_of_ble_eq_true rfl, Nat.le_of_ble_eq_true rfl⟩ hl.1 rfl (Nat.le_of_ble_eq_true rfl) dX12_benches_30 ⟨Nat.le_of_ble_eq_true rfl, Nat.le_of_ble_eq_true rfl⟩ (fun H locs hP hS => ?_)
        refine lv_iload_n hx hb dX12_benches_33 rfl (lv_at hl 1 rfl) ?_
        refine lv_icmp_ge (tgt := 40) hx hb dX12_benches_34 (by decide) (fun c16 => ?_) (fun c16 => ?_)
        · replace hf := ite_t c16 hf
          refine lv_aload_n hx hb dX12_benches_40 rfl (lv_at hl 0 rfl) ?_
          obtain ⟨r17, M18, h19, hf⟩ := bnd_s hf
          refine pcVv (As := []) C hP hS (k := 0) (Nat.le_of_ble_eq_true rfl) (yd_0 _ _) rfl (c12_laysNear  h19) y12_laysNear_w g_1646 rfl rfl rfl ⟨Nat.le_of_ble_eq_true rfl, Nat.le_of_ble_eq_true rfl⟩ hl.1 rfl (Nat.le_of_ble_eq_true rfl) dX12_benches_41 ⟨Nat.le_of_ble_eq_true rfl, Nat.le_of_ble_eq_true rfl⟩ (fun H locs hP hS => ?_)
          refine lv_bipush (v := (-2 : Int32)) hx hb dX12_benches_44 (by decide) ?_
          refine lv_istore_n (lv' := [(3, .int (-2 : Int32)), (0, .ref (b + 0)), (1, .int a1), (2, .int a2)]) hx hb dX12_benches_46 rfl hl (by decide) rfl (fun ls hl => ?_)
          refine lv_bipush (v := (-2 : Int32)) hx hb dX12_benches_47 (by decide) ?_
          refine lv_istore (lv' := [(4, .int (-2 : Int32)), (3, .int (-2 : Int32)), (0, .ref (b + 0)), (1, .int a1), (2, .int a2)]) hx hb dX12_benches_49 hl (by decide) rfl (fun ls hl => ?_)
          refine lv_iconst (v := (-1 : Int32)) hx hb dX12_benches_51 (by decide) ?_
          refine lv_istore (lv' := [(5, .int (-1 : Int32)), (4, .int (-2 : Int32)), (3, .int (-2 : Int32)), (0, .ref (b + 0)), (1, .int a1), (2, .int a2)]) hx hb dX12_benches_52 hl (by decide) rfl (fun ls hl => ?_)
          refine lv_iconst (v := (0 : Int32)) hx hb dX12_benches_54 (by decide) ?_
          refine lv_istore (lv' := [(6, .int (0 : Int32)), (5, .int (-1 : Int32)), (4, .int (-2 : Int32)), (3, .int (-2 : Int32)), (0, .ref (b + 0)), (1, .int a1), (2, .int a2)]) hx hb dX12_benches_55 hl (by decide) rfl (fun ls hl => ?_)
          exact w12_benches_57 (n := n)  C hr hk q57 q80 hf hP hS (lv_sub hl [4, 5, 6, 3, 2, 1, 0] rfl)
        · replace hf := ite_f c16 hf
          exact w12_benches_37 (n := n)  C hr hk q57 q80 hf hP hS (lv_sub hl [] rfl)
    · replace hf := ite_t c8 hf
      exact w12_benches_18 (n := n)  C hr hk q57 q80 hf hP hS (lv_sub hl [] rfl)
set_option maxHeartbeats 4000000 in
set_option maxRecDepth 100000 in
theorem l12_benches {p : Program} {l : Launch} {e : Env} {s : State} {m : MethodId} {args : Array Value} {below : List Frame} {meth : Method} {c : Code} {z : Zt} {b : Nat}  (C : Cx p s m args c cX12_benches 9 RX12 z 32 b) (hr : meth.sig.returnType = (some .int)) (hk : meth.locks = false) {r : Int32} {M' : Mem} (n : Nat) : (∀ (i1 : Int32) (i2 : Int32) (i3 : Int32) (i4 : Int32) (i5 : Int32) (i6 : Int32) (M : Mem) (H : Heap) (locs : List Loc) (ls : Array Slot), (r12_benches  n) 57 [i1, i2, i3, i4, i5, i6] [] M = some (r, M') → va_P z.1 vwCl (pw (yd z b) 32 b M) H → va_S (pA 32 b) s.heap H locs → lv_has ls 9 [(0, .ref (b + 0)), (1, .int i1), (2, .int i2), (3, .int i3), (4, .int i4), (5, .int i5), (6, .int i6)] → W p l e rm12_benches s m args below meth c H locs 0 0 (MQ below (va_Qi (fun (r' : Int32) (M2 : Mem) => r' = r ∧ M2 = M') (fun M2 t => va_P z.1 vwCl (pw (yd z b) 32 b M2) t.heap) (pA 32 b)) args s 0 0 (pA 32 b)) (F0 m 57 ls [])) ∧ (∀ (i1 : Int32) (i2 : Int32) (i3 : Int32) (i4 : Int32) (i5 : Int32) (i6 : Int32) (i7 : Int32) (M : Mem) (H : Heap) (locs : List Loc) (ls : Array Slot), (r12_benches  n) 80 [i1, i2, i3, i4, i5, i6, i7] [] M = some (r, M') → va_P z.1 vwCl (pw (yd z b) 32 b M) H → va_S (pA 32 b) s.heap H locs → lv_has ls 9 [(0, .ref (b + 0)), (1, .int i1), (2, .int i2), (3, .int i3), (4, .int i4), (5, .int i5), (6, .int i6), (7, .int i7)] → W p l e rm12_benches s m args below meth c H locs 0 0 (MQ below (va_Qi (fun (r' : Int32) (M2 : Mem) => r' = r ∧ M2 = M') (fun M2 t => va_P z.1 vwCl (pw (yd z b) 32 b M2) t.heap) (pA 32 b)) args s 0 0 (pA 32 b)) (F0 m 80 ls [])) := by
  induction n with
  | zero => exact ⟨fun _ _ _ _ _ _ _ _ _ _ hf => (by cases hf), fun _ _ _ _ _ _ _ _ _ _ _ hf => (by cases hf)⟩
  | succ n ih => exact ⟨fun _ _ _ _ _ _ _ _ _ _ hf hP hS hl => w12_benches_57 (n := n)  C hr hk ih.1 ih.2 ((e12_benches_57  n _ _ _ _ _ _ _).symm.trans hf) hP hS hl, fun _ _ _ _ _ _ _ _ _ _ _ hf hP hS hl => w12_benches_80 (n := n)  C hr hk ih.1 ih.2 ((e12_benches_80  n _ _ _ _ _ _ _ _).symm.trans hf) hP hS hl⟩
theorem c12_benches {l : Launch} {z : Zt} {b n : Nat}  {a1 : Int32} {a2 : Int32} {M M' : Mem} {r : Int32} (hf : f12_benches n  a1 a2 M = some (r, M')) : CI l z (yd z b) 32 b yX12_benches cX12_benches 9 (some .int) rm12_benches [.ref (b + 0), .int a1, .int a2] M M' r :=
  CI.ofW (lv := [(0, .ref (b + 0)), (1, .int a1), (2, .int a2)]) (by decide) (Nat.le_of_ble_eq_true rfl) rfl (fun p e s m args below meth c ls C hr hk hP hS hl => w12_benches_0 (n := n)  C hr hk (l12_benches  C hr hk n).1 (l12_benches  C hr hk n).2 hf hP hS hl)

-- BronzeKingModel.pigeons(I)I
theorem dX12_pigeons_0 : decode cX12_pigeons 0 = .ok (.iload_n 1, 1) := by decide +kernel
theorem dX12_pigeons_1 : decode cX12_pigeons 1 = .ok (.iconst 0, 1) := by decide +kernel
theorem dX12_pigeons_2 : decode cX12_pigeons 2 = .ok (.iconst 1, 1) := by decide +kernel
theorem dX12_pigeons_3 : decode cX12_pigeons 3 = .ok (.invokestatic 106, 3) := by decide +kernel
theorem dX12_pigeons_6 : decode cX12_pigeons 6 = .ok (.ifCond .eq 12, 3) := by decide +kernel
theorem dX12_pigeons_9 : decode cX12_pigeons 9 = .ok (.aload_n 0, 1) := by decide +kernel
theorem dX12_pigeons_10 : decode cX12_pigeons 10 = .ok (.getfield 137, 3) := by decide +kernel
theorem dX12_pigeons_13 : decode cX12_pigeons 13 = .ok (.bipush 24, 2) := by decide +kernel
theorem dX12_pigeons_15 : decode cX12_pigeons 15 = .ok (.if_icmp .ge 5, 3) := by decide +kernel
theorem dX12_pigeons_18 : decode cX12_pigeons 18 = .ok (.iconst (-1), 1) := by decide +kernel
theorem dX12_pigeons_19 : decode cX12_pigeons 19 = .ok (.ireturn, 1) := by decide +kernel
theorem dX12_pigeons_20 : decode cX12_pigeons 20 = .ok (.aload_n 0, 1) := by decide +kernel
theorem dX12_pigeons_21 : decode cX12_pigeons 21 = .ok (.iconst 0, 1) := by decide +kernel
theorem dX12_pigeons_22 : decode cX12_pigeons 22 = .ok (.putfield 137, 3) := by decide +kernel
theorem dX12_pigeons_25 : decode cX12_pigeons 25 = .ok (.iconst 0, 1) := by decide +kernel
theorem dX12_pigeons_26 : decode cX12_pigeons 26 = .ok (.istore_n 2, 1) := by decide +kernel
theorem dX12_pigeons_27 : decode cX12_pigeons 27 = .ok (.iconst (-1), 1) := by decide +kernel
theorem dX12_pigeons_28 : decode cX12_pigeons 28 = .ok (.istore_n 3, 1) := by decide +kernel
theorem dX12_pigeons_29 : decode cX12_pigeons 29 = .ok (.iconst 0, 1) := by decide +kernel
theorem dX12_pigeons_30 : decode cX12_pigeons 30 = .ok (.istore 4, 2) := by decide +kernel
theorem dX12_pigeons_32 : decode cX12_pigeons 32 = .ok (.iload 4, 2) := by decide +kernel
theorem dX12_pigeons_34 : decode cX12_pigeons 34 = .ok (.bipush 24, 2) := by decide +kernel
theorem dX12_pigeons_36 : decode cX12_pigeons 36 = .ok (.if_icmp .ge 62, 3) := by decide +kernel
theorem dX12_pigeons_39 : decode cX12_pigeons 39 = .ok (.iconst 2, 1) := by decide +kernel
theorem dX12_pigeons_40 : decode cX12_pigeons 40 = .ok (.aload_n 0, 1) := by decide +kernel
theorem dX12_pigeons_41 : decode cX12_pigeons 41 = .ok (.iload 4, 2) := by decide +kernel
theorem dX12_pigeons_43 : decode cX12_pigeons 43 = .ok (.invokevirtual 389, 3) := by decide +kernel
theorem dX12_pigeons_46 : decode cX12_pigeons 46 = .ok (.imul, 1) := by decide +kernel
theorem dX12_pigeons_47 : decode cX12_pigeons 47 = .ok (.aload_n 0, 1) := by decide +kernel
theorem dX12_pigeons_48 : decode cX12_pigeons 48 = .ok (.iload 4, 2) := by decide +kernel
theorem dX12_pigeons_50 : decode cX12_pigeons 50 = .ok (.iconst 1, 1) := by decide +kernel
theorem dX12_pigeons_51 : decode cX12_pigeons 51 = .ok (.iadd, 1) := by decide +kernel
theorem dX12_pigeons_52 : decode cX12_pigeons 52 = .ok (.bipush 24, 2) := by decide +kernel
theorem dX12_pigeons_54 : decode cX12_pigeons 54 = .ok (.irem, 1) := by decide +kernel
theorem dX12_pigeons_55 : decode cX12_pigeons 55 = .ok (.invokevirtual 389, 3) := by decide +kernel
theorem dX12_pigeons_58 : decode cX12_pigeons 58 = .ok (.isub, 1) := by decide +kernel
theorem dX12_pigeons_59 : decode cX12_pigeons 59 = .ok (.aload_n 0, 1) := by decide +kernel
theorem dX12_pigeons_60 : decode cX12_pigeons 60 = .ok (.iload 4, 2) := by decide +kernel
theorem dX12_pigeons_62 : decode cX12_pigeons 62 = .ok (.bipush 23, 2) := by decide +kernel
theorem dX12_pigeons_64 : decode cX12_pigeons 64 = .ok (.iadd, 1) := by decide +kernel
theorem dX12_pigeons_65 : decode cX12_pigeons 65 = .ok (.bipush 24, 2) := by decide +kernel
theorem dX12_pigeons_67 : decode cX12_pigeons 67 = .ok (.irem, 1) := by decide +kernel
theorem dX12_pigeons_68 : decode cX12_pigeons 68 = .ok (.invokevirtual 389, 3) := by decide +kernel
theorem dX12_pigeons_71 : decode cX12_pigeons 71 = .ok (.isub, 1) := by decide +kernel
theorem dX12_pigeons_72 : decode cX12_pigeons 72 = .ok (.invokestatic 405, 3) := by decide +kernel
theorem dX12_pigeons_75 : decode cX12_pigeons 75 = .ok (.istore 5, 2) := by decide +kernel
theorem dX12_pigeons_77 : decode cX12_pigeons 77 = .ok (.iload 5, 2) := by decide +kernel
theorem dX12_pigeons_79 : decode cX12_pigeons 79 = .ok (.iload_n 3, 1) := by decide +kernel
theorem dX12_pigeons_80 : decode cX12_pigeons 80 = .ok (.if_icmp .gt 6, 3) := by decide +kernel
theorem dX12_pigeons_83 : decode cX12_pigeons 83 = .ok (.goto 9, 3) := by decide +kernel
theorem dX12_pigeons_86 : decode cX12_pigeons 86 = .ok (.iload 5, 2) := by decide +kernel
theorem dX12_pigeons_88 : decode cX12_pigeons 88 = .ok (.istore_n 3, 1) := by decide +kernel
theorem dX12_pigeons_89 : decode cX12_pigeons 89 = .ok (.iload 4, 2) := by decide +kernel
theorem dX12_pigeons_91 : decode cX12_pigeons 91 = .ok (.istore_n 2, 1) := by decide +kernel
theorem dX12_pigeons_92 : decode cX12_pigeons 92 = .ok (.iinc 4 1, 3) := by decide +kernel
theorem dX12_pigeons_95 : decode cX12_pigeons 95 = .ok (.goto (-63), 3) := by decide +kernel
theorem dX12_pigeons_98 : decode cX12_pigeons 98 = .ok (.iload_n 1, 1) := by decide +kernel
theorem dX12_pigeons_99 : decode cX12_pigeons 99 = .ok (.ifCond .ne 7, 3) := by decide +kernel
theorem dX12_pigeons_102 : decode cX12_pigeons 102 = .ok (.iload_n 2, 1) := by decide +kernel
theorem dX12_pigeons_103 : decode cX12_pigeons 103 = .ok (.goto 4, 3) := by decide +kernel
theorem dX12_pigeons_106 : decode cX12_pigeons 106 = .ok (.iload_n 3, 1) := by decide +kernel
theorem dX12_pigeons_107 : decode cX12_pigeons 107 = .ok (.ireturn, 1) := by decide +kernel
def b12_pigeons_18 (rc : Nat → List Int32 → List Int64 → Mem → Option (Int32 × Mem)) (n : Nat) (M : Mem) : Option (Int32 × Mem) :=
  some ((-1 : Int32), M)
def b12_pigeons_92 (rc : Nat → List Int32 → List Int64 → Mem → Option (Int32 × Mem)) (n : Nat) (i1 : Int32) (i2 : Int32) (i3 : Int32) (i4 : Int32) (M : Mem) : Option (Int32 × Mem) :=
  lt (i4 + (1 : Int32)) fun v22 =>
  rc 32 [i1, i2, i3, v22] [] M
def b12_pigeons_32 (rc : Nat → List Int32 → List Int64 → Mem → Option (Int32 × Mem)) (n : Nat) (i1 : Int32) (i2 : Int32) (i3 : Int32) (i4 : Int32) (M : Mem) : Option (Int32 × Mem) :=
  (if (24 : Int32) ≤ i4 then (
   (if i1 = 0 then (
    some (i2, M))
   else (
    some (i3, M))))
  else (
   bnd (f12_octet n i4 M) fun r9 M10 =>
   bnd (f12_octet n ((i4 + (1 : Int32)) - (i4 + (1 : Int32)) / (24 : Int32) * (24 : Int32)) M10) fun r12 M13 =>
   bnd (f12_octet n ((i4 + (23 : Int32)) - (i4 + (23 : Int32)) / (24 : Int32) * (24 : Int32)) M13) fun r15 M16 =>
   bnd (f12_size n ((((2 : Int32) * r9) - r12) - r15) M16) fun r18 M19 =>
   (if i3 < r18 then (
    b12_pigeons_92  rc n i1 i4 r18 i4 M19)
   else (
    b12_pigeons_92  rc n i1 i2 i3 i4 M19))))
def b12_pigeons_0 (rc : Nat → List Int32 → List Int64 → Mem → Option (Int32 × Mem)) (n : Nat) (a1 : Int32) (M : Mem) : Option (Int32 × Mem) :=
  bnd (f12_in n a1 (0 : Int32) (1 : Int32) M) fun r1 M2 =>
  (if r1 = 0 then (
   b12_pigeons_18  rc n  M2)
  else (
   (if (24 : Int32) ≤ (M2.1 0 11) then (
    lt (wI M2 0 11 (0 : Int32)) fun M6 =>
    b12_pigeons_32  rc n a1 (0 : Int32) (-1 : Int32) (0 : Int32) M6)
   else (
    b12_pigeons_18  rc n  M2))))
def r12_pigeons : Nat → Nat → List Int32 → List Int64 → Mem → Option (Int32 × Mem)
  | 0 => fun _ _ _ _ => none
  | n + 1 => fun pc li lj M =>
    if pc = 32 then (match li, lj with | [i1, i2, i3, i4], [] => b12_pigeons_32  (r12_pigeons  n) n i1 i2 i3 i4 M | _, _ => none) else
    none
theorem e12_pigeons_32  (n : Nat) (i1 : Int32) (i2 : Int32) (i3 : Int32) (i4 : Int32) (M : Mem) : r12_pigeons  (n + 1) 32 [i1, i2, i3, i4] [] M = b12_pigeons_32  (r12_pigeons  n) n i1 i2 i3 i4 M := by
  rw [r12_pigeons]
  simp
def f12_pigeons (n : Nat) (a1 : Int32) (M : Mem) : Option (Int32 × Mem) := b12_pigeons_0 (r12_pigeons n) n a1 M
abbrev rm12_pigeons : Room := { frames := 1, cells := 0, slots := 0, locals := 22 }
theorem y12_pigeons_w : yV RX12 yX12_pigeons cX12_pigeons 6 (some .int) 1 := ⟨g_1654, g_1655, g_14, g_1656, rfl, by decide, by decide, by decide +kernel⟩
set_option maxHeartbeats 4000000 in
set_option maxRecDepth 100000 in
theorem w12_pigeons_18 {p : Program} {l : Launch} {e : Env} {s : State} {m : MethodId} {args : Array Value} {below : List Frame} {meth : Method} {c : Code} {z : Zt} {b : Nat}  (C : Cx p s m args c cX12_pigeons 6 RX12 z 32 b) (hr : meth.sig.returnType = (some .int)) (hk : meth.locks = false) {r : Int32} {M' : Mem} {rc : Nat → List Int32 → List Int64 → Mem → Option (Int32 × Mem)} {n : Nat} (q32 : ∀ (i1 : Int32) (i2 : Int32) (i3 : Int32) (i4 : Int32) (M : Mem) (H : Heap) (locs : List Loc) (ls : Array Slot), rc 32 [i1, i2, i3, i4] [] M = some (r, M') → va_P z.1 vwCl (pw (yd z b) 32 b M) H → va_S (pA 32 b) s.heap H locs → lv_has ls 6 [(0, .ref (b + 0)), (1, .int i1), (2, .int i2), (3, .int i3), (4, .int i4)] → W p l e rm12_pigeons s m args below meth c H locs 0 0 (MQ below (va_Qi (fun (r' : Int32) (M2 : Mem) => r' = r ∧ M2 = M') (fun M2 t => va_P z.1 vwCl (pw (yd z b) 32 b M2) t.heap) (pA 32 b)) args s 0 0 (pA 32 b)) (F0 m 32 ls []))  {M : Mem} {H : Heap} {locs : List Loc} {ls : Array Slot} (hf : b12_pigeons_18  rc n  M = some (r, M')) (hP : va_P z.1 vwCl (pw (yd z b) 32 b M) H) (hS : va_S (pA 32 b) s.heap H locs) (hl : lv_has ls 6 []) : W p l e rm12_pigeons s m args below meth c H locs 0 0 (MQ below (va_Qi (fun (r' : Int32) (M2 : Mem) => r' = r ∧ M2 = M') (fun M2 t => va_P z.1 vwCl (pw (yd z b) 32 b M2) t.heap) (pA 32 b)) args s 0 0 (pA 32 b)) (F0 m 18 ls []) := by
  have hx := C.1.1
  have hb := C.1.2.1
  unfold b12_pigeons_18 at hf
  refine lv_iconst (v := (-1 : Int32)) hx hb dX12_pigeons_18 (by decide) ?_
  exact prI C hr hk hP hS hf dX12_pigeons_19
set_option maxHeartbeats 4000000 in
set_option maxRecDepth 100000 in
theorem w12_pigeons_92 {p : Program} {l : Launch} {e : Env} {s : State} {m : MethodId} {args : Array Value} {below : List Frame} {meth : Method} {c : Code} {z : Zt} {b : Nat}  (C : Cx p s m args c cX12_pigeons 6 RX12 z 32 b) (hr : meth.sig.returnType = (some .int)) (hk : meth.locks = false) {r : Int32} {M' : Mem} {rc : Nat → List Int32 → List Int64 → Mem → Option (Int32 × Mem)} {n : Nat} (q32 : ∀ (i1 : Int32) (i2 : Int32) (i3 : Int32) (i4 : Int32) (M : Mem) (H : Heap) (locs : List Loc) (ls : Array Slot), rc 32 [i1, i2, i3, i4] [] M = some (r, M') → va_P z.1 vwCl (pw (yd z b) 32 b M) H → va_S (pA 32 b) s.heap H locs → lv_has ls 6 [(0, .ref (b + 0)), (1, .int i1), (2, .int i2), (3, .int i3), (4, .int i4)] → W p l e rm12_pigeons s m args below meth c H locs 0 0 (MQ below (va_Qi (fun (r' : Int32) (M2 : Mem) => r' = r ∧ M2 = M') (fun M2 t => va_P z.1 vwCl (pw (yd z b) 32 b M2) t.heap) (pA 32 b)) args s 0 0 (pA 32 b)) (F0 m 32 ls [])) {i1 : Int32} {i2 : Int32} {i3 : Int32} {i4 : Int32} {M : Mem} {H : Heap} {locs : List Loc} {ls : Array Slot} (hf : b12_pigeons_92  rc n i1 i2 i3 i4 M = some (r, M')) (hP : va_P z.1 vwCl (pw (yd z b) 32 b M) H) (hS : va_S (pA 32 b) s.heap H locs) (hl : lv_has ls 6 [(0, .ref (b + 0)), (1, .int i1), (2, .int i2), (3, .int i3), (4, .int i4)]) : W p l e rm12_pigeons s m args below meth c H locs 0 0 (MQ below (va_Qi (fun (r' : Int32) (M2 : Mem) => r' = r ∧ M2 = M') (fun M2 t => va_P z.1 vwCl (pw (yd z b) 32 b M2) t.heap) (pA 32 b)) args s 0 0 (pA 32 b)) (F0 m 92 ls []) := by
  have hx := C.1.1
  have hb := C.1.2.1
  unfold b12_pigeons_92 at hf
  obtain ⟨v22, ev22⟩ : ∃ v : Int32, v = i4 + (1 : Int32) := ⟨_, rfl⟩
  replace hf := lt_c ev22 hf
  refine lv_iinc (v := v22) (lv' := [(4, .int v22), (0, .ref (b + 0)), (1, .int i1), (2, .int i2), (3, .int i3)]) hx hb dX12_pigeons_92 hl (k := 4) rfl (by rw [ev22]; rfl) (by decide) rfl (fun ls hl => ?_)
  refine lv_goto (tgt := 32) hx hb dX12_pigeons_95 (by decide) ?_
  exact q32 i1 i2 i3 v22 M _ _ _ hf hP hS (lv_sub hl [1, 2, 3, 4, 0] rfl)
set_option maxHeartbeats 4000000 in
set_option maxRecDepth 100000 in
theorem w12_pigeons_32 {p : Program} {l : Launch} {e : Env} {s : State} {m : MethodId} {args : Array Value} {below : List Frame} {meth : Method} {c : Code} {z : Zt} {b : Nat}  (C : Cx p s m args c cX12_pigeons 6 RX12 z 32 b) (hr : meth.sig.returnType = (some .int)) (hk : meth.locks = false) {r : Int32} {M' : Mem} {rc : Nat → List Int32 → List Int64 → Mem → Option (Int32 × Mem)} {n : Nat} (q32 : ∀ (i1 : Int32) (i2 : Int32) (i3 : Int32) (i4 : Int32) (M : Mem) (H : Heap) (locs : List Loc) (ls : Array Slot), rc 32 [i1, i2, i3, i4] [] M = some (r, M') → va_P z.1 vwCl (pw (yd z b) 32 b M) H → va_S (pA 32 b) s.heap H locs → lv_has ls 6 [(0, .ref (b + 0)), (1, .int i1), (2, .int i2), (3, .int i3), (4, .int i4)] → W p l e rm12_pigeons s m args below meth c H locs 0 0 (MQ below (va_Qi (fun (r' : Int32) (M2 : Mem) => r' = r ∧ M2 = M') (fun M2 t => va_P z.1 vwCl (pw (yd z b) 32 b M2) t.heap) (pA 32 b)) args s 0 0 (pA 32 b)) (F0 m 32 ls [])) {i1 : Int32} {i2 : Int32} {i3 : Int32} {i4 : Int32} {M : Mem} {H : Heap} {locs : List Loc} {ls : Array Slot} (hf : b12_pigeons_32  rc n i1 i2 i3 i4 M = some (r, M')) (hP : va_P z.1 vwCl (pw (yd z b) 32 b M) H) (hS : va_S (pA 32 b) s.heap H locs) (hl : lv_has ls 6 [(0, .ref (b + 0)), (1, .int i1), (2, .int i2), (3, .int i3), (4, .int i4)]) : W p l e rm12_pigeons s m args below meth c H locs 0 0 (MQ below (va_Qi (fun (r' : Int32) (M2 : Mem) => r' = r ∧ M2 = M') (fun M2 t => va_P z.1 vwCl (pw (yd z b) 32 b M2) t.heap) (pA 32 b)) args s 0 0 (pA 32 b)) (F0 m 32 ls []) := by
  have hx := C.1.1
  have hb := C.1.2.1
  unfold b12_pigeons_32 at hf
  refine lv_iload hx hb dX12_pigeons_32 (lv_at hl 4 rfl) ?_
  refine lv_bipush (v := (24 : Int32)) hx hb dX12_pigeons_34 (by decide) ?_
  refine lv_icmp_ge (tgt := 98) hx hb dX12_pigeons_36 (by decide) (fun c7 => ?_) (fun c7 => ?_)
  · replace hf := ite_t c7 hf
    refine lv_iload_n hx hb dX12_pigeons_98 rfl (lv_at hl 1 rfl) ?_
    refine lv_if_ne (tgt := 106) hx hb dX12_pigeons_99 (by decide) (fun c8 => ?_) (fun c8 => ?_)
    · replace hf := ite_f c8 hf
      refine lv_iload_n hx hb dX12_pigeons_106 rfl (lv_at hl 3 rfl) ?_
      exact prI C hr hk hP hS hf dX12_pigeons_107
    · replace hf := ite_t c8 hf
      refine lv_iload_n hx hb dX12_pigeons_102 rfl (lv_at hl 2 rfl) ?_
      refine lv_goto (tgt := 107) hx hb dX12_pigeons_103 (by decide) ?_
      exact prI C hr hk hP hS hf dX12_pigeons_107
  · replace hf := ite_f c7 hf
    refine lv_iconst (v := (2 : Int32)) hx hb dX12_pigeons_39 (by decide) ?_
    refine lv_aload_n hx hb dX12_pigeons_40 rfl (lv_at hl 0 rfl) ?_
    refine lv_iload hx hb dX12_pigeons_41 (lv_at hl 4 rfl) ?_
    obtain ⟨r9, M10, h11, hf⟩ := bnd_s hf
    refine pcVi (As := [.int i4]) C hP hS (k := 0) (Nat.le_of_ble_eq_true rfl) (yd_0 _ _) rfl (c12_octet  h11) y12_octet_w g_1633 rfl rfl rfl ⟨Nat.le_of_ble_eq_true rfl, Nat.le_of_ble_eq_true rfl⟩ hl.1 rfl (Nat.le_of_ble_eq_true rfl) dX12_pigeons_43 ⟨Nat.le_of_ble_eq_true rfl, Nat.le_of_ble_eq_true rfl⟩ (fun H locs hP hS => ?_)
    refine lv_imul hx hb dX12_pigeons_46 ?_
    refine lv_aload_n hx hb dX12_pigeons_47 rfl (lv_at hl 0 rfl) ?_
    refine lv_iload hx hb dX12_pigeons_48 (lv_at hl 4 rfl) ?_
    refine lv_iconst (v := (1 : Int32)) hx hb dX12_pigeons_50 (by decide) ?_
    refine lv_iadd hx hb dX12_pigeons_51 ?_
    refine lv_bipush (v := (24 : Int32)) hx hb dX12_pigeons_52 (by decide) ?_
    refine lv_irem hx hb dX12_pigeons_54 (by decide) ?_
    obtain ⟨r12, M13, h14, hf⟩ := bnd_s hf
    refine pcVi (As := [.int ((i4 + (1 : Int32)) - (i4 + (1 : Int32)) / (24 : Int32) * (24 : Int32))]) C hP hS (k := 0) (Nat.le_of_ble_eq_true rfl) (yd_0 _ _) rfl (c12_octet  h14) y12_octet_w g_1633 rfl rfl rfl ⟨Nat.le_of_ble_eq_true rfl, Nat.le_of_ble_eq_true rfl⟩ hl.1 rfl (Nat.le_of_ble_eq_true rfl) dX12_pigeons_55 ⟨Nat.le_of_ble_eq_true rfl, Nat.le_of_ble_eq_true rfl⟩ (fun H locs hP hS => ?_)
    refine lv_isub hx hb dX12_pigeons_58 ?_
    refine lv_aload_n hx hb dX12_pigeons_59 rfl (lv_at hl 0 rfl) ?_
    refine lv_iload hx hb dX12_pigeons_60 (lv_at hl 4 rfl) ?_
    refine lv_bipush (v := (23 : Int32)) hx hb dX12_pigeons_62 (by decide) ?_
    refine lv_iadd hx hb dX12_pigeons_64 ?_
    refine lv_bipush (v := (24 : Int32)) hx hb dX12_pigeons_65 (by decide) ?_
    refine lv_irem hx hb dX12_pigeons_67 (by decide) ?_
    obtain ⟨r15, M16, h17, hf⟩ := bnd_s hf
    refine pcVi (As := [.int ((i4 + (23 : Int32)) - (i4 + (23 : Int32)) / (24 : Int32) * (24 : Int32))]) C hP hS (k := 0) (Nat.le_of_ble_eq_true rfl) (yd_0 _ _) rfl (c12_octet  h17) y12_octet_w g_1633 rfl rfl rfl ⟨Nat.le_of_ble_eq_true rfl, Nat.le_of_ble_eq_true rfl⟩ hl.1 rfl (Nat.le_of_ble_eq_true rfl) dX12_pigeons_68 ⟨Nat.le_of_ble_eq_true rfl, Nat.le_of_ble_eq_true rfl⟩ (fun H locs hP hS => ?_)
    refine lv_isub hx hb dX12_pigeons_71 ?_
    obtain ⟨r18, M19, h20, hf⟩ := bnd_s hf
    refine pcSi (As := [.int ((((2 : Int32) * r9) - r12) - r15)]) C hP hS (c12_size  h20) y12_size_w g_1657 rfl rfl rfl ⟨Nat.le_of_ble_eq_true rfl, Nat.le_of_ble_eq_true rfl⟩ hl.1 rfl (Nat.le_of_ble_eq_true rfl) dX12_pigeons_72 ⟨Nat.le_of_ble_eq_true rfl, Nat.le_of_ble_eq_true rfl⟩ (fun H locs hP hS => ?_)
    refine lv_istore (lv' := [(5, .int r18), (0, .ref (b + 0)), (1, .int i1), (2, .int i2), (3, .int i3), (4, .int i4)]) hx hb dX12_pigeons_75 hl (by decide) rfl (fun ls hl => ?_)
    refine lv_iload hx hb dX12_pigeons_77 (lv_at hl 0 rfl) ?_
    refine lv_iload_n hx hb dX12_pigeons_79 rfl (lv_at hl 4 rfl) ?_
    refine lv_icmp_gt (tgt := 86) hx hb dX12_pigeons_80 (by decide) (fun c21 => ?_) (fun c21 => ?_)
    · replace hf := ite_t c21 hf
      refine lv_iload hx hb dX12_pigeons_86 (lv_at hl 0 rfl) ?_
      refine lv_istore_n (lv' := [(3, .int r18), (5, .int r18), (0, .ref (b + 0)), (1, .int i1), (2, .int i2), (4, .int i4)]) hx hb dX12_pigeons_88 rfl hl (by decide) rfl (fun ls hl => ?_)
      refine lv_iload hx hb dX12_pigeons_89 (lv_at hl 5 rfl) ?_
      refine lv_istore_n (lv' := [(2, .int i4), (3, .int r18), (5, .int r18), (0, .ref (b + 0)), (1, .int i1), (4, .int i4)]) hx hb dX12_pigeons_91 rfl hl (by decide) rfl (fun ls hl => ?_)
      exact w12_pigeons_92 (n := n)  C hr hk q32 hf hP hS (lv_sub hl [3, 4, 0, 1, 5] rfl)
    · replace hf := ite_f c21 hf
      refine lv_goto (tgt := 92) hx hb dX12_pigeons_83 (by decide) ?_
      exact w12_pigeons_92 (n := n)  C hr hk q32 hf hP hS (lv_sub hl [1, 2, 3, 4, 5] rfl)
set_option maxHeartbeats 4000000 in
set_option maxRecDepth 100000 in
theorem w12_pigeons_0 {p : Program} {l : Launch} {e : Env} {s : State} {m : MethodId} {args : Array Value} {below : List Frame} {meth : Method} {c : Code} {z : Zt} {b : Nat}  (C : Cx p s m args c cX12_pigeons 6 RX12 z 32 b) (hr : meth.sig.returnType = (some .int)) (hk : meth.locks = false) {r : Int32} {M' : Mem} {rc : Nat → List Int32 → List Int64 → Mem → Option (Int32 × Mem)} {n : Nat} (q32 : ∀ (i1 : Int32) (i2 : Int32) (i3 : Int32) (i4 : Int32) (M : Mem) (H : Heap) (locs : List Loc) (ls : Array Slot), rc 32 [i1, i2, i3, i4] [] M = some (r, M') → va_P z.1 vwCl (pw (yd z b) 32 b M) H → va_S (pA 32 b) s.heap H locs → lv_has ls 6 [(0, .ref (b + 0)), (1, .int i1), (2, .int i2), (3, .int i3), (4, .int i4)] → W p l e rm12_pigeons s m args below meth c H locs 0 0 (MQ below (va_Qi (fun (r' : Int32) (M2 : Mem) => r' = r ∧ M2 = M') (fun M2 t => va_P z.1 vwCl (pw (yd z b) 32 b M2) t.heap) (pA 32 b)) args s 0 0 (pA 32 b)) (F0 m 32 ls [])) {a1 : Int32} {M : Mem} {H : Heap} {locs : List Loc} {ls : Array Slot} (hf : b12_pigeons_0  rc n a1 M = some (r, M')) (hP : va_P z.1 vwCl (pw (yd z b) 32 b M) H) (hS : va_S (pA 32 b) s.heap H locs) (hl : lv_has ls 6 [(0, .ref (b + 0)), (1, .int a1)]) : W p l e rm12_pigeons s m args below meth c H locs 0 0 (MQ below (va_Qi (fun (r' : Int32) (M2 : Mem) => r' = r ∧ M2 = M') (fun M2 t => va_P z.1 vwCl (pw (yd z b) 32 b M2) t.heap) (pA 32 b)) args s 0 0 (pA 32 b)) (F0 m 0 ls []) := by
  have hx := C.1.1
  have hb := C.1.2.1
  unfold b12_pigeons_0 at hf
  refine lv_iload_n hx hb dX12_pigeons_0 rfl (lv_at hl 1 rfl) ?_
  refine lv_iconst (v := (0 : Int32)) hx hb dX12_pigeons_1 (by decide) ?_
  refine lv_iconst (v := (1 : Int32)) hx hb dX12_pigeons_2 (by decide) ?_
  obtain ⟨r1, M2, h3, hf⟩ := bnd_s hf
  refine pcSi (As := [.int a1, .int (0 : Int32), .int (1 : Int32)]) C hP hS (c12_in  h3) y12_in_w g_1306 rfl rfl rfl ⟨Nat.le_of_ble_eq_true rfl, Nat.le_of_ble_eq_true rfl⟩ hl.1 rfl (Nat.le_of_ble_eq_true rfl) dX12_pigeons_3 ⟨Nat.le_of_ble_eq_true rfl, Nat.le_of_ble_eq_true rfl⟩ (fun H locs hP hS => ?_)
  refine lv_if_eq (tgt := 18) hx hb dX12_pigeons_6 (by decide) (fun c4 => ?_) (fun c4 => ?_)
  · replace hf := ite_t c4 hf
    exact w12_pigeons_18 (n := n)  C hr hk q32 hf hP hS (lv_sub hl [] rfl)
  · replace hf := ite_f c4 hf
    refine lv_aload_n hx hb dX12_pigeons_9 rfl (lv_at hl 0 rfl) ?_
    refine pg C hP (k := 0) (j := 11) (Nat.le_of_ble_eq_true rfl) (yd_0 _ _) rfl iw_12 (Nat.le_of_ble_eq_true rfl) g_1146 rfl rfl dX12_pigeons_10 ?_
    refine lv_bipush (v := (24 : Int32)) hx hb dX12_pigeons_13 (by decide) ?_
    refine lv_icmp_ge (tgt := 20) hx hb dX12_pigeons_15 (by decide) (fun c5 => ?_) (fun c5 => ?_)
    · replace hf := ite_t c5 hf
      refine lv_aload_n hx hb dX12_pigeons_20 rfl (lv_at hl 0 rfl) ?_
      refine lv_iconst (v := (0 : Int32)) hx hb dX12_pigeons_21 (by decide) ?_
      refine ppI C hP hS (k := 0) (j := 11) (ty := .int) (Nat.le_of_ble_eq_true rfl) (yd_0 _ _) rfl iw_12 tyX12 tyX12_ok nmX12 (Nat.le_of_ble_eq_true rfl) g_1146 rfl rfl (by decide +kernel) rfl rfl (Nat.le_of_ble_eq_true rfl) (yu_0_11 _ _ _) dX12_pigeons_22 (fun M6 H locs eM6 hP hS => ?_)
      replace hf := lt_c eM6 hf
      refine lv_iconst (v := (0 : Int32)) hx hb dX12_pigeons_25 (by decide) ?_
      refine lv_istore_n (lv' := [(2, .int (0 : Int32)), (0, .ref (b + 0)), (1, .int a1)]) hx hb dX12_pigeons_26 rfl hl (by decide) rfl (fun ls hl => ?_)
      refine lv_iconst (v := (-1 : Int32)) hx hb dX12_pigeons_27 (by decide) ?_
      refine lv_istore_n (lv' := [(3, .int (-1 : Int32)), (2, .int (0 : Int32)), (0, .ref (b + 0)), (1, .int a1)]) hx hb dX12_pigeons_28 rfl hl (by decide) rfl (fun ls hl => ?_)
      refine lv_iconst (v := (0 : Int32)) hx hb dX12_pigeons_29 (by decide) ?_
      refine lv_istore (lv' := [(4, .int (0 : Int32)), (3, .int (-1 : Int32)), (2, .int (0 : Int32)), (0, .ref (b + 0)), (1, .int a1)]) hx hb dX12_pigeons_30 hl (by decide) rfl (fun ls hl => ?_)
      exact w12_pigeons_32 (n := n)  C hr hk q32 hf hP hS (lv_sub hl [3, 4, 2, 1, 0] rfl)
    · replace hf := ite_f c5 hf
      exact w12_pigeons_18 (n := n)  C hr hk q32 hf hP hS (lv_sub hl [] rfl)
set_option maxHeartbeats 4000000 in
set_option maxRecDepth 100000 in
theorem l12_pigeons {p : Program} {l : Launch} {e : Env} {s : State} {m : MethodId} {args : Array Value} {below : List Frame} {meth : Method} {c : Code} {z : Zt} {b : Nat}  (C : Cx p s m args c cX12_pigeons 6 RX12 z 32 b) (hr : meth.sig.returnType = (some .int)) (hk : meth.locks = false) {r : Int32} {M' : Mem} (n : Nat) : (∀ (i1 : Int32) (i2 : Int32) (i3 : Int32) (i4 : Int32) (M : Mem) (H : Heap) (locs : List Loc) (ls : Array Slot), (r12_pigeons  n) 32 [i1, i2, i3, i4] [] M = some (r, M') → va_P z.1 vwCl (pw (yd z b) 32 b M) H → va_S (pA 32 b) s.heap H locs → lv_has ls 6 [(0, .ref (b + 0)), (1, .int i1), (2, .int i2), (3, .int i3), (4, .int i4)] → W p l e rm12_pigeons s m args below meth c H locs 0 0 (MQ below (va_Qi (fun (r' : Int32) (M2 : Mem) => r' = r ∧ M2 = M') (fun M2 t => va_P z.1 vwCl (pw (yd z b) 32 b M2) t.heap) (pA 32 b)) args s 0 0 (pA 32 b)) (F0 m 32 ls [])) := by
  induction n with
  | zero => exact fun _ _ _ _ _ _ _ _ hf => (by cases hf)
  | succ n ih => exact fun _ _ _ _ _ _ _ _ hf hP hS hl => w12_pigeons_32 (n := n)  C hr hk ih ((e12_pigeons_32  n _ _ _ _ _).symm.trans hf) hP hS hl
theorem c12_pigeons {l : Launch} {z : Zt} {b n : Nat}  {a1 : Int32} {M M' : Mem} {r : Int32} (hf : f12_pigeons n  a1 M = some (r, M')) : CI l z (yd z b) 32 b yX12_pigeons cX12_pigeons 6 (some .int) rm12_pigeons [.ref (b + 0), .int a1] M M' r :=
  CI.ofW (lv := [(0, .ref (b + 0)), (1, .int a1)]) (by decide) (Nat.le_of_ble_eq_true rfl) rfl (fun p e s m args below meth c ls C hr hk hP hS hl => w12_pigeons_0 (n := n)  C hr hk (l12_pigeons  C hr hk n) hf hP hS hl)

-- BronzeKingModel.islands()I
theorem dX12_islands_0 : decode cX12_islands 0 = .ok (.iconst 0, 1) := by decide +kernel
theorem dX12_islands_1 : decode cX12_islands 1 = .ok (.istore_n 1, 1) := by decide +kernel
theorem dX12_islands_2 : decode cX12_islands 2 = .ok (.iconst 0, 1) := by decide +kernel
theorem dX12_islands_3 : decode cX12_islands 3 = .ok (.istore_n 2, 1) := by decide +kernel
theorem dX12_islands_4 : decode cX12_islands 4 = .ok (.iload_n 2, 1) := by decide +kernel
theorem dX12_islands_5 : decode cX12_islands 5 = .ok (.bipush 96, 2) := by decide +kernel
theorem dX12_islands_7 : decode cX12_islands 7 = .ok (.if_icmp .ge 56, 3) := by decide +kernel
theorem dX12_islands_10 : decode cX12_islands 10 = .ok (.aload_n 0, 1) := by decide +kernel
theorem dX12_islands_11 : decode cX12_islands 11 = .ok (.iload_n 2, 1) := by decide +kernel
theorem dX12_islands_12 : decode cX12_islands 12 = .ok (.invokevirtual 122, 3) := by decide +kernel
theorem dX12_islands_15 : decode cX12_islands 15 = .ok (.istore_n 3, 1) := by decide +kernel
theorem dX12_islands_16 : decode cX12_islands 16 = .ok (.iconst 0, 1) := by decide +kernel
theorem dX12_islands_17 : decode cX12_islands 17 = .ok (.istore 4, 2) := by decide +kernel
theorem dX12_islands_19 : decode cX12_islands 19 = .ok (.iload 4, 2) := by decide +kernel
theorem dX12_islands_21 : decode cX12_islands 21 = .ok (.iload_n 2, 1) := by decide +kernel
theorem dX12_islands_22 : decode cX12_islands 22 = .ok (.if_icmp .ge 27, 3) := by decide +kernel
theorem dX12_islands_25 : decode cX12_islands 25 = .ok (.iload_n 3, 1) := by decide +kernel
theorem dX12_islands_26 : decode cX12_islands 26 = .ok (.ifCond .eq 17, 3) := by decide +kernel
theorem dX12_islands_29 : decode cX12_islands 29 = .ok (.aload_n 0, 1) := by decide +kernel
theorem dX12_islands_30 : decode cX12_islands 30 = .ok (.iload_n 2, 1) := by decide +kernel
theorem dX12_islands_31 : decode cX12_islands 31 = .ok (.iload 4, 2) := by decide +kernel
theorem dX12_islands_33 : decode cX12_islands 33 = .ok (.invokevirtual 134, 3) := by decide +kernel
theorem dX12_islands_36 : decode cX12_islands 36 = .ok (.bipush 99, 2) := by decide +kernel
theorem dX12_islands_38 : decode cX12_islands 38 = .ok (.if_icmp .eq 5, 3) := by decide +kernel
theorem dX12_islands_41 : decode cX12_islands 41 = .ok (.iconst 0, 1) := by decide +kernel
theorem dX12_islands_42 : decode cX12_islands 42 = .ok (.istore_n 3, 1) := by decide +kernel
theorem dX12_islands_43 : decode cX12_islands 43 = .ok (.iinc 4 1, 3) := by decide +kernel
theorem dX12_islands_46 : decode cX12_islands 46 = .ok (.goto (-27), 3) := by decide +kernel
theorem dX12_islands_49 : decode cX12_islands 49 = .ok (.iload_n 3, 1) := by decide +kernel
theorem dX12_islands_50 : decode cX12_islands 50 = .ok (.ifCond .eq 7, 3) := by decide +kernel
theorem dX12_islands_53 : decode cX12_islands 53 = .ok (.iload_n 1, 1) := by decide +kernel
theorem dX12_islands_54 : decode cX12_islands 54 = .ok (.iconst 1, 1) := by decide +kernel
theorem dX12_islands_55 : decode cX12_islands 55 = .ok (.iadd, 1) := by decide +kernel
theorem dX12_islands_56 : decode cX12_islands 56 = .ok (.istore_n 1, 1) := by decide +kernel
theorem dX12_islands_57 : decode cX12_islands 57 = .ok (.iinc 2 1, 3) := by decide +kernel
theorem dX12_islands_60 : decode cX12_islands 60 = .ok (.goto (-56), 3) := by decide +kernel
theorem dX12_islands_63 : decode cX12_islands 63 = .ok (.iload_n 1, 1) := by decide +kernel
theorem dX12_islands_64 : decode cX12_islands 64 = .ok (.ireturn, 1) := by decide +kernel
def b12_islands_57 (rc : Nat → List Int32 → List Int64 → Mem → Option (Int32 × Mem)) (n : Nat) (i1 : Int32) (i2 : Int32) (M : Mem) : Option (Int32 × Mem) :=
  lt (i2 + (1 : Int32)) fun v14 =>
  rc 4 [i1, v14] [] M
def b12_islands_43 (rc : Nat → List Int32 → List Int64 → Mem → Option (Int32 × Mem)) (n : Nat) (i1 : Int32) (i2 : Int32) (i3 : Int32) (i4 : Int32) (M : Mem) : Option (Int32 × Mem) :=
  lt (i4 + (1 : Int32)) fun v13 =>
  rc 19 [i1, i2, i3, v13] [] M
def b12_islands_19 (rc : Nat → List Int32 → List Int64 → Mem → Option (Int32 × Mem)) (n : Nat) (i1 : Int32) (i2 : Int32) (i3 : Int32) (i4 : Int32) (M : Mem) : Option (Int32 × Mem) :=
  (if i2 ≤ i4 then (
   (if i3 = 0 then (
    b12_islands_57  rc n i1 i2 M)
   else (
    lt (i1 + (1 : Int32)) fun v7 =>
    b12_islands_57  rc n v7 i2 M)))
  else (
   (if i3 = 0 then (
    b12_islands_43  rc n i1 i2 i3 i4 M)
   else (
    bnd (f12_steps n i2 i4 M) fun r9 M10 =>
    (if r9 = (99 : Int32) then (
     b12_islands_43  rc n i1 i2 i3 i4 M10)
    else (
     b12_islands_43  rc n i1 i2 (0 : Int32) i4 M10))))))
def b12_islands_4 (rc : Nat → List Int32 → List Int64 → Mem → Option (Int32 × Mem)) (n : Nat) (i1 : Int32) (i2 : Int32) (M : Mem) : Option (Int32 × Mem) :=
  (if (96 : Int32) ≤ i2 then (
   some (i1, M))
  else (
   bnd (f12_isOpen n i2 M) fun r2 M3 =>
   b12_islands_19  rc n i1 i2 r2 (0 : Int32) M3))
def b12_islands_0 (rc : Nat → List Int32 → List Int64 → Mem → Option (Int32 × Mem)) (n : Nat) (M : Mem) : Option (Int32 × Mem) :=
  b12_islands_4  rc n (0 : Int32) (0 : Int32) M
def r12_islands : Nat → Nat → List Int32 → List Int64 → Mem → Option (Int32 × Mem)
  | 0 => fun _ _ _ _ => none
  | n + 1 => fun pc li lj M =>
    if pc = 4 then (match li, lj with | [i1, i2], [] => b12_islands_4  (r12_islands  n) n i1 i2 M | _, _ => none) else
    if pc = 19 then (match li, lj with | [i1, i2, i3, i4], [] => b12_islands_19  (r12_islands  n) n i1 i2 i3 i4 M | _, _ => none) else
    none
theorem e12_islands_4  (n : Nat) (i1 : Int32) (i2 : Int32) (M : Mem) : r12_islands  (n + 1) 4 [i1, i2] [] M = b12_islands_4  (r12_islands  n) n i1 i2 M := by
  rw [r12_islands]
  simp
theorem e12_islands_19  (n : Nat) (i1 : Int32) (i2 : Int32) (i3 : Int32) (i4 : Int32) (M : Mem) : r12_islands  (n + 1) 19 [i1, i2, i3, i4] [] M = b12_islands_19  (r12_islands  n) n i1 i2 i3 i4 M := by
  rw [r12_islands]
  simp
def f12_islands (n : Nat)  (M : Mem) : Option (Int32 × Mem) := b12_islands_0 (r12_islands n) n M
abbrev rm12_islands : Room := { frames := 5, cells := 0, slots := 0, locals := 114 }
theorem y12_islands_w : yV RX12 yX12_islands cX12_islands 5 (some .int) 0 := ⟨g_1670, gp 93 rfl rfl, g_14, g_1671, rfl, by decide, by decide, by decide +kernel⟩
set_option maxHeartbeats 4000000 in
set_option maxRecDepth 100000 in
theorem w12_islands_57 {p : Program} {l : Launch} {e : Env} {s : State} {m : MethodId} {args : Array Value} {below : List Frame} {meth : Method} {c : Code} {z : Zt} {b : Nat}  (C : Cx p s m args c cX12_islands 5 RX12 z 32 b) (hr : meth.sig.returnType = (some .int)) (hk : meth.locks = false) {r : Int32} {M' : Mem} {rc : Nat → List Int32 → List Int64 → Mem → Option (Int32 × Mem)} {n : Nat} (q4 : ∀ (i1 : Int32) (i2 : Int32) (M : Mem) (H : Heap) (locs : List Loc) (ls : Array Slot), rc 4 [i1, i2] [] M = some (r, M') → va_P z.1 vwCl (pw (yd z b) 32 b M) H → va_S (pA 32 b) s.heap H locs → lv_has ls 5 [(0, .ref (b + 0)), (1, .int i1), (2, .int i2)] → W p l e rm12_islands s m args below meth c H locs 0 0 (MQ below (va_Qi (fun (r' : Int32) (M2 : Mem) => r' = r ∧ M2 = M') (fun M2 t => va_P z.1 vwCl (pw (yd z b) 32 b M2) t.heap) (pA 32 b)) args s 0 0 (pA 32 b)) (F0 m 4 ls [])) (q19 : ∀ (i1 : Int32) (i2 : Int32) (i3 : Int32) (i4 : Int32) (M : Mem) (H : Heap) (locs : List Loc) (ls : Array Slot), rc 19 [i1, i2, i3, i4] [] M = some (r, M') → va_P z.1 vwCl (pw (yd z b) 32 b M) H → va_S (pA 32 b) s.heap H locs → lv_has ls 5 [(0, .ref (b + 0)), (1, .int i1), (2, .int i2), (3, .int i3), (4, .int i4)] → W p l e rm12_islands s m args below meth c H locs 0 0 (MQ below (va_Qi (fun (r' : Int32) (M2 : Mem) => r' = r ∧ M2 = M') (fun M2 t => va_P z.1 vwCl (pw (yd z b) 32 b M2) t.heap) (pA 32 b)) args s 0 0 (pA 32 b)) (F0 m 19 ls [])) {i1 : Int32} {i2 : Int32} {M : Mem} {H : Heap} {locs : List Loc} {ls : Array Slot} (hf : b12_islands_57  rc n i1 i2 M = some (r, M')) (hP : va_P z.1 vwCl (pw (yd z b) 32 b M) H) (hS : va_S (pA 32 b) s.heap H locs) (hl : lv_has ls 5 [(0, .ref (b + 0)), (1, .int i1), (2, .int i2)]) : W p l e rm12_islands s m args below meth c H locs 0 0 (MQ below (va_Qi (fun (r' : Int32) (M2 : Mem) => r' = r ∧ M2 = M') (fun M2 t => va_P z.1 vwCl (pw (yd z b) 32 b M2) t.heap) (pA 32 b)) args s 0 0 (pA 32 b)) (F0 m 57 ls []) := by
  have hx := C.1.1
  have hb := C.1.2.1
  unfold b12_islands_57 at hf
  obtain ⟨v14, ev14⟩ : ∃ v : Int32, v = i2 + (1 : Int32) := ⟨_, rfl⟩
  replace hf := lt_c ev14 hf
  refine lv_iinc (v := v14) (lv' := [(2, .int v14), (0, .ref (b + 0)), (1, .int i1)]) hx hb dX12_islands_57 hl (k := 2) rfl (by rw [ev14]; rfl) (by decide) rfl (fun ls hl => ?_)
  refine lv_goto (tgt := 4) hx hb dX12_islands_60 (by decide) ?_
  exact q4 i1 v14 M _ _ _ hf hP hS (lv_sub hl [1, 2, 0] rfl)
set_option maxHeartbeats 4000000 in
set_option maxRecDepth 100000 in
theorem w12_islands_43 {p : Program} {l : Launch} {e : Env} {s : State} {m : MethodId} {args : Array Value} {below : List Frame} {meth : Method} {c : Code} {z : Zt} {b : Nat}  (C : Cx p s m args c cX12_islands 5 RX12 z 32 b) (hr : meth.sig.returnType = (some .int)) (hk : meth.locks = false) {r : Int32} {M' : Mem} {rc : Nat → List Int32 → List Int64 → Mem → Option (Int32 × Mem)} {n : Nat} (q4 : ∀ (i1 : Int32) (i2 : Int32) (M : Mem) (H : Heap) (locs : List Loc) (ls : Array Slot), rc 4 [i1, i2] [] M = some (r, M') → va_P z.1 vwCl (pw (yd z b) 32 b M) H → va_S (pA 32 b) s.heap H locs → lv_has ls 5 [(0, .ref (b + 0)), (1, .int i1), (2, .int i2)] → W p l e rm12_islands s m args below meth c H locs 0 0 (MQ below (va_Qi (fun (r' : Int32) (M2 : Mem) => r' = r ∧ M2 = M') (fun M2 t => va_P z.1 vwCl (pw (yd z b) 32 b M2) t.heap) (pA 32 b)) args s 0 0 (pA 32 b)) (F0 m 4 ls [])) (q19 : ∀ (i1 : Int32) (i2 : Int32) (i3 : Int32) (i4 : Int32) (M : Mem) (H : Heap) (locs : List Loc) (ls : Array Slot), rc 19 [i1, i2, i3, i4] [] M = some (r, M') → va_P z.1 vwCl (pw (yd z b) 32 b M) H → va_S (pA 32 b) s.heap H locs → lv_has ls 5 [(0, .ref (b + 0)), (1, .int i1), (2, .int i2), (3, .int i3), (4, .int i4)] → W p l e rm12_islands s m args below meth c H locs 0 0 (MQ below (va_Qi (fun (r' : Int32) (M2 : Mem) => r' = r ∧ M2 = M') (fun M2 t => va_P z.1 vwCl (pw (yd z b) 32 b M2) t.heap) (pA 32 b)) args s 0 0 (pA 32 b)) (F0 m 19 ls [])) {i1 : Int32} {i2 : Int32} {i3 : Int32} {i4 : Int32} {M : Mem} {H : Heap} {locs : List Loc} {ls : Array Slot} (hf : b12_islands_43  rc n i1 i2 i3 i4 M = some (r, M')) (hP : va_P z.1 vwCl (pw (yd z b) 32 b M) H) (hS : va_S (pA 32 b) s.heap H locs) (hl : lv_has ls 5 [(0, .ref (b + 0)), (1, .int i1), (2, .int i2), (3, .int i3), (4, .int i4)]) : W p l e rm12_islands s m args below meth c H locs 0 0 (MQ below (va_Qi (fun (r' : Int32) (M2 : Mem) => r' = r ∧ M2 = M') (fun M2 t => va_P z.1 vwCl (pw (yd z b) 32 b M2) t.heap) (pA 32 b)) args s 0 0 (pA 32 b)) (F0 m 43 ls []) := by
  have hx := C.1.1
  have hb := C.1.2.1
  unfold b12_islands_43 at hf
  obtain ⟨v13, ev13⟩ : ∃ v : Int32, v = i4 + (1 : Int32) := ⟨_, rfl⟩
  replace hf := lt_c ev13 hf
  refine lv_iinc (v := v13) (lv' := [(4, .int v13), (0, .ref (b + 0)), (1, .int i1), (2, .int i2), (3, .int i3)]) hx hb dX12_islands_43 hl (k := 4) rfl (by rw [ev13]; rfl) (by decide) rfl (fun ls hl => ?_)
  refine lv_goto (tgt := 19) hx hb dX12_islands_46 (by decide) ?_
  exact q19 i1 i2 i3 v13 M _ _ _ hf hP hS (lv_sub hl [1, 2, 3, 4, 0] rfl)
set_option maxHeartbeats 4000000 in
set_option maxRecDepth 100000 in
theorem w12_islands_19 {p : Program} {l : Launch} {e : Env} {s : State} {m : MethodId} {args : Array Value} {below : List Frame} {meth : Method} {c : Code} {z : Zt} {b : Nat}  (C : Cx p s m args c cX12_islands 5 RX12 z 32 b) (hr : meth.sig.returnType = (some .int)) (hk : meth.locks = false) {r : Int32} {M' : Mem} {rc : Nat → List Int32 → List Int64 → Mem → Option (Int32 × Mem)} {n : Nat} (q4 : ∀ (i1 : Int32) (i2 : Int32) (M : Mem) (H : Heap) (locs : List Loc) (ls : Array Slot), rc 4 [i1, i2] [] M = some (r, M') → va_P z.1 vwCl (pw (yd z b) 32 b M) H → va_S (pA 32 b) s.heap H locs → lv_has ls 5 [(0, .ref (b + 0)), (1, .int i1), (2, .int i2)] → W p l e rm12_islands s m args below meth c H locs 0 0 (MQ below (va_Qi (fun (r' : Int32) (M2 : Mem) => r' = r ∧ M2 = M') (fun M2 t => va_P z.1 vwCl (pw (yd z b) 32 b M2) t.heap) (pA 32 b)) args s 0 0 (pA 32 b)) (F0 m 4 ls [])) (q19 : ∀ (i1 : Int32) (i2 : Int32) (i3 : Int32) (i4 : Int32) (M : Mem) (H : Heap) (locs : List Loc) (ls : Array Slot), rc 19 [i1, i2, i3, i4] [] M = some (r, M') → va_P z.1 vwCl (pw (yd z b) 32 b M) H → va_S (pA 32 b) s.heap H locs → lv_has ls 5 [(0, .ref (b + 0)), (1, .int i1), (2, .int i2), (3, .int i3), (4, .int i4)] → W p l e rm12_islands s m args below meth c H locs 0 0 (MQ below (va_Qi (fun (r' : Int32) (M2 : Mem) => r' = r ∧ M2 = M') (fun M2 t => va_P z.1 vwCl (pw (yd z b) 32 b M2) t.heap) (pA 32 b)) args s 0 0 (pA 32 b)) (F0 m 19 ls [])) {i1 : Int32} {i2 : Int32} {i3 : Int32} {i4 : Int32} {M : Mem} {H : Heap} {locs : List Loc} {ls : Array Slot} (hf : b12_islands_19  rc n i1 i2 i3 i4 M = some (r, M')) (hP : va_P z.1 vwCl (pw (yd z b) 32 b M) H) (hS : va_S (pA 32 b) s.heap H locs) (hl : lv_has ls 5 [(0, .ref (b + 0)), (1, .int i1), (2, .int i2), (3, .int i3), (4, .int i4)]) : W p l e rm12_islands s m args below meth c H locs 0 0 (MQ below (va_Qi (fun (r' : Int32) (M2 : Mem) => r' = r ∧ M2 = M') (fun M2 t => va_P z.1 vwCl (pw (yd z b) 32 b M2) t.heap) (pA 32 b)) args s 0 0 (pA 32 b)) (F0 m 19 ls []) := by
  have hx := C.1.1
  have hb := C.1.2.1
  unfold b12_islands_19 at hf
  refine lv_iload hx hb dX12_islands_19 (lv_at hl 4 rfl) ?_
  refine lv_iload_n hx hb dX12_islands_21 rfl (lv_at hl 2 rfl) ?_
  refine lv_icmp_ge (tgt := 49) hx hb dX12_islands_22 (by decide) (fun c5 => ?_) (fun c5 => ?_)
  · replace hf := ite_t c5 hf
    refine lv_iload_n hx hb dX12_islands_49 rfl (lv_at hl 3 rfl) ?_
    refine lv_if_eq (tgt := 57) hx hb dX12_islands_50 (by decide) (fun c6 => ?_) (fun c6 => ?_)
    · replace hf := ite_t c6 hf
      exact w12_islands_57 (n := n)  C hr hk q4 q19 hf hP hS (lv_sub hl [0, 1, 2] rfl)
    · replace hf := ite_f c6 hf
      refine lv_iload_n hx hb dX12_islands_53 rfl (lv_at hl 1 rfl) ?_
      refine lv_iconst (v := (1 : Int32)) hx hb dX12_islands_54 (by decide) ?_
      refine lv_iadd hx hb dX12_islands_55 ?_
      refine lv_topi (fun v7 ev7 => ?_)
      replace hf := lt_c ev7 hf
      refine lv_istore_n (lv' := [(1, .int v7), (0, .ref (b + 0)), (2, .int i2), (3, .int i3), (4, .int i4)]) hx hb dX12_islands_56 rfl hl (by decide) rfl (fun ls hl => ?_)
      exact w12_islands_57 (n := n)  C hr hk q4 q19 hf hP hS (lv_sub hl [1, 0, 2] rfl)
  · replace hf := ite_f c5 hf
    refine lv_iload_n hx hb dX12_islands_25 rfl (lv_at hl 3 rfl) ?_
    refine lv_if_eq (tgt := 43) hx hb dX12_islands_26 (by decide) (fun c8 => ?_) (fun c8 => ?_)
    · replace hf := ite_t c8 hf
      exact w12_islands_43 (n := n)  C hr hk q4 q19 hf hP hS (lv_sub hl [0, 1, 2, 3, 4] rfl)
    · replace hf := ite_f c8 hf
      refine lv_aload_n hx hb dX12_islands_29 rfl (lv_at hl 0 rfl) ?_
      refine lv_iload_n hx hb dX12_islands_30 rfl (lv_at hl 2 rfl) ?_
      refine lv_iload hx hb dX12_islands_31 (lv_at hl 4 rfl) ?_
      obtain ⟨r9, M10, h11, hf⟩ := bnd_s hf
      refine pcVi (As := [.int i2, .int i4]) C hP hS (k := 0) (Nat.le_of_ble_eq_true rfl) (yd_0 _ _) rfl (c12_steps  h11) y12_steps_w g_1475 rfl rfl rfl ⟨Nat.le_of_ble_eq_true rfl, Nat.le_of_ble_eq_true rfl⟩ hl.1 rfl (Nat.le_of_ble_eq_true rfl) dX12_islands_33 ⟨Nat.le_of_ble_eq_true rfl, Nat.le_of_ble_eq_true rfl⟩ (fun H locs hP hS => ?_)
      refine lv_bipush (v := (99 : Int32)) hx hb dX12_islands_36 (by decide) ?_
      refine lv_icmp_eq (tgt := 43) hx hb dX12_islands_38 (by decide) (fun c12 => ?_) (fun c12 => ?_)
      · replace hf := ite_t c12 hf
        exact w12_islands_43 (n := n)  C hr hk q4 q19 hf hP hS (lv_sub hl [0, 1, 2, 3, 4] rfl)
      · replace hf := ite_f c12 hf
        refine lv_iconst (v := (0 : Int32)) hx hb dX12_islands_41 (by decide) ?_
        refine lv_istore_n (lv' := [(3, .int (0 : Int32)), (0, .ref (b + 0)), (1, .int i1), (2, .int i2), (4, .int i4)]) hx hb dX12_islands_42 rfl hl (by decide) rfl (fun ls hl => ?_)
        exact w12_islands_43 (n := n)  C hr hk q4 q19 hf hP hS (lv_sub hl [1, 2, 3, 0, 4] rfl)
set_option maxHeartbeats 4000000 in
set_option maxRecDepth 100000 in
theorem w12_islands_4 {p : Program} {l : Launch} {e : Env} {s : State} {m : MethodId} {args : Array Value} {below : List Frame} {meth : Method} {c : Code} {z : Zt} {b : Nat}  (C : Cx p s m args c cX12_islands 5 RX12 z 32 b) (hr : meth.sig.returnType = (some .int)) (hk : meth.locks = false) {r : Int32} {M' : Mem} {rc : Nat → List Int32 → List Int64 → Mem → Option (Int32 × Mem)} {n : Nat} (q4 : ∀ (i1 : Int32) (i2 : Int32) (M : Mem) (H : Heap) (locs : List Loc) (ls : Array Slot), rc 4 [i1, i2] [] M = some (r, M') → va_P z.1 vwCl (pw (yd z b) 32 b M) H → va_S (pA 32 b) s.heap H locs → lv_has ls 5 [(0, .ref (b + 0)), (1, .int i1), (2, .int i2)] → W p l e rm12_islands s m args below meth c H locs 0 0 (MQ below (va_Qi (fun (r' : Int32) (M2 : Mem) => r' = r ∧ M2 = M') (fun M2 t => va_P z.1 vwCl (pw (yd z b) 32 b M2) t.heap) (pA 32 b)) args s 0 0 (pA 32 b)) (F0 m 4 ls [])) (q19 : ∀ (i1 : Int32) (i2 : Int32) (i3 : Int32) (i4 : Int32) (M : Mem) (H : Heap) (locs : List Loc) (ls : Array Slot), rc 19 [i1, i2, i3, i4] [] M = some (r, M') → va_P z.1 vwCl (pw (yd z b) 32 b M) H → va_S (pA 32 b) s.heap H locs → lv_has ls 5 [(0, .ref (b + 0)), (1, .int i1), (2, .int i2), (3, .int i3), (4, .int i4)] → W p l e rm12_islands s m args below meth c H locs 0 0 (MQ below (va_Qi (fun (r' : Int32) (M2 : Mem) => r' = r ∧ M2 = M') (fun M2 t => va_P z.1 vwCl (pw (yd z b) 32 b M2) t.heap) (pA 32 b)) args s 0 0 (pA 32 b)) (F0 m 19 ls [])) {i1 : Int32} {i2 : Int32} {M : Mem} {H : Heap} {locs : List Loc} {ls : Array Slot} (hf : b12_islands_4  rc n i1 i2 M = some (r, M')) (hP : va_P z.1 vwCl (pw (yd z b) 32 b M) H) (hS : va_S (pA 32 b) s.heap H locs) (hl : lv_has ls 5 [(0, .ref (b + 0)), (1, .int i1), (2, .int i2)]) : W p l e rm12_islands s m args below meth c H locs 0 0 (MQ below (va_Qi (fun (r' : Int32) (M2 : Mem) => r' = r ∧ M2 = M') (fun M2 t => va_P z.1 vwCl (pw (yd z b) 32 b M2) t.heap) (pA 32 b)) args s 0 0 (pA 32 b)) (F0 m 4 ls []) := by
  have hx := C.1.1
  have hb := C.1.2.1
  unfold b12_islands_4 at hf
  refine lv_iload_n hx hb dX12_islands_4 rfl (lv_at hl 2 rfl) ?_
  refine lv_bipush (v := (96 : Int32)) hx hb dX12_islands_5 (by decide) ?_
  refine lv_icmp_ge (tgt := 63) hx hb dX12_islands_7 (by decide) (fun c1 => ?_) (fun c1 => ?_)
  · replace hf := ite_t c1 hf
    refine lv_iload_n hx hb dX12_islands_63 rfl (lv_at hl 1 rfl) ?_
    exact prI C hr hk hP hS hf dX12_islands_64
  · replace hf := ite_f c1 hf
    refine lv_aload_n hx hb dX12_islands_10 rfl (lv_at hl 0 rfl) ?_
    refine lv_iload_n hx hb dX12_islands_11 rfl (lv_at hl 2 rfl) ?_
    obtain ⟨r2, M3, h4, hf⟩ := bnd_s hf
    refine pcVi (As := [.int i2]) C hP hS (k := 0) (Nat.le_of_ble_eq_true rfl) (yd_0 _ _) rfl (c12_isOpen  h4) y12_isOpen_w g_1483 rfl rfl rfl ⟨Nat.le_of_ble_eq_true rfl, Nat.le_of_ble_eq_true rfl⟩ hl.1 rfl (Nat.le_of_ble_eq_true rfl) dX12_islands_12 ⟨Nat.le_of_ble_eq_true rfl, Nat.le_of_ble_eq_true rfl⟩ (fun H locs hP hS => ?_)
    refine lv_istore_n (lv' := [(3, .int r2), (0, .ref (b + 0)), (1, .int i1), (2, .int i2)]) hx hb dX12_islands_15 rfl hl (by decide) rfl (fun ls hl => ?_)
    refine lv_iconst (v := (0 : Int32)) hx hb dX12_islands_16 (by decide) ?_
    refine lv_istore (lv' := [(4, .int (0 : Int32)), (3, .int r2), (0, .ref (b + 0)), (1, .int i1), (2, .int i2)]) hx hb dX12_islands_17 hl (by decide) rfl (fun ls hl => ?_)
    exact w12_islands_19 (n := n)  C hr hk q4 q19 hf hP hS (lv_sub hl [2, 3, 4, 1, 0] rfl)
set_option maxHeartbeats 4000000 in
set_option maxRecDepth 100000 in
theorem w12_islands_0 {p : Program} {l : Launch} {e : Env} {s : State} {m : MethodId} {args : Array Value} {below : List Frame} {meth : Method} {c : Code} {z : Zt} {b : Nat}  (C : Cx p s m args c cX12_islands 5 RX12 z 32 b) (hr : meth.sig.returnType = (some .int)) (hk : meth.locks = false) {r : Int32} {M' : Mem} {rc : Nat → List Int32 → List Int64 → Mem → Option (Int32 × Mem)} {n : Nat} (q4 : ∀ (i1 : Int32) (i2 : Int32) (M : Mem) (H : Heap) (locs : List Loc) (ls : Array Slot), rc 4 [i1, i2] [] M = some (r, M') → va_P z.1 vwCl (pw (yd z b) 32 b M) H → va_S (pA 32 b) s.heap H locs → lv_has ls 5 [(0, .ref (b + 0)), (1, .int i1), (2, .int i2)] → W p l e rm12_islands s m args below meth c H locs 0 0 (MQ below (va_Qi (fun (r' : Int32) (M2 : Mem) => r' = r ∧ M2 = M') (fun M2 t => va_P z.1 vwCl (pw (yd z b) 32 b M2) t.heap) (pA 32 b)) args s 0 0 (pA 32 b)) (F0 m 4 ls [])) (q19 : ∀ (i1 : Int32) (i2 : Int32) (i3 : Int32) (i4 : Int32) (M : Mem) (H : Heap) (locs : List Loc) (ls : Array Slot), rc 19 [i1, i2, i3, i4] [] M = some (r, M') → va_P z.1 vwCl (pw (yd z b) 32 b M) H → va_S (pA 32 b) s.heap H locs → lv_has ls 5 [(0, .ref (b + 0)), (1, .int i1), (2, .int i2), (3, .int i3), (4, .int i4)] → W p l e rm12_islands s m args below meth c H locs 0 0 (MQ below (va_Qi (fun (r' : Int32) (M2 : Mem) => r' = r ∧ M2 = M') (fun M2 t => va_P z.1 vwCl (pw (yd z b) 32 b M2) t.heap) (pA 32 b)) args s 0 0 (pA 32 b)) (F0 m 19 ls []))  {M : Mem} {H : Heap} {locs : List Loc} {ls : Array Slot} (hf : b12_islands_0  rc n  M = some (r, M')) (hP : va_P z.1 vwCl (pw (yd z b) 32 b M) H) (hS : va_S (pA 32 b) s.heap H locs) (hl : lv_has ls 5 [(0, .ref (b + 0))]) : W p l e rm12_islands s m args below meth c H locs 0 0 (MQ below (va_Qi (fun (r' : Int32) (M2 : Mem) => r' = r ∧ M2 = M') (fun M2 t => va_P z.1 vwCl (pw (yd z b) 32 b M2) t.heap) (pA 32 b)) args s 0 0 (pA 32 b)) (F0 m 0 ls []) := by
  have hx := C.1.1
  have hb := C.1.2.1
  unfold b12_islands_0 at hf
  refine lv_iconst (v := (0 : Int32)) hx hb dX12_islands_0 (by decide) ?_
  refine lv_istore_n (lv' := [(1, .int (0 : Int32)), (0, .ref (b + 0))]) hx hb dX12_islands_1 rfl hl (by decide) rfl (fun ls hl => ?_)
  refine lv_iconst (v := (0 : Int32)) hx hb dX12_islands_2 (by decide) ?_
  refine lv_istore_n (lv' := [(2, .int (0 : Int32)), (1, .int (0 : Int32)), (0, .ref (b + 0))]) hx hb dX12_islands_3 rfl hl (by decide) rfl (fun ls hl => ?_)
  exact w12_islands_4 (n := n)  C hr hk q4 q19 hf hP hS (lv_sub hl [2, 1, 0] rfl)
set_option maxHeartbeats 4000000 in
set_option maxRecDepth 100000 in
theorem l12_islands {p : Program} {l : Launch} {e : Env} {s : State} {m : MethodId} {args : Array Value} {below : List Frame} {meth : Method} {c : Code} {z : Zt} {b : Nat}  (C : Cx p s m args c cX12_islands 5 RX12 z 32 b) (hr : meth.sig.returnType = (some .int)) (hk : meth.locks = false) {r : Int32} {M' : Mem} (n : Nat) : (∀ (i1 : Int32) (i2 : Int32) (M : Mem) (H : Heap) (locs : List Loc) (ls : Array Slot), (r12_islands  n) 4 [i1, i2] [] M = some (r, M') → va_P z.1 vwCl (pw (yd z b) 32 b M) H → va_S (pA 32 b) s.heap H locs → lv_has ls 5 [(0, .ref (b + 0)), (1, .int i1), (2, .int i2)] → W p l e rm12_islands s m args below meth c H locs 0 0 (MQ below (va_Qi (fun (r' : Int32) (M2 : Mem) => r' = r ∧ M2 = M') (fun M2 t => va_P z.1 vwCl (pw (yd z b) 32 b M2) t.heap) (pA 32 b)) args s 0 0 (pA 32 b)) (F0 m 4 ls [])) ∧ (∀ (i1 : Int32) (i2 : Int32) (i3 : Int32) (i4 : Int32) (M : Mem) (H : Heap) (locs : List Loc) (ls : Array Slot), (r12_islands  n) 19 [i1, i2, i3, i4] [] M = some (r, M') → va_P z.1 vwCl (pw (yd z b) 32 b M) H → va_S (pA 32 b) s.heap H locs → lv_has ls 5 [(0, .ref (b + 0)), (1, .int i1), (2, .int i2), (3, .int i3), (4, .int i4)] → W p l e rm12_islands s m args below meth c H locs 0 0 (MQ below (va_Qi (fun (r' : Int32) (M2 : Mem) => r' = r ∧ M2 = M') (fun M2 t => va_P z.1 vwCl (pw (yd z b) 32 b M2) t.heap) (pA 32 b)) args s 0 0 (pA 32 b)) (F0 m 19 ls [])) := by
  induction n with
  | zero => exact ⟨fun _ _ _ _ _ _ hf => (by cases hf), fun _ _ _ _ _ _ _ _ hf => (by cases hf)⟩
  | succ n ih => exact ⟨fun _ _ _ _ _ _ hf hP hS hl => w12_islands_4 (n := n)  C hr hk ih.1 ih.2 ((e12_islands_4  n _ _ _).symm.trans hf) hP hS hl, fun _ _ _ _ _ _ _ _ hf hP hS hl => w12_islands_19 (n := n)  C hr hk ih.1 ih.2 ((e12_islands_19  n _ _ _ _ _).symm.trans hf) hP hS hl⟩
theorem c12_islands {l : Launch} {z : Zt} {b n : Nat}   {M M' : Mem} {r : Int32} (hf : f12_islands n   M = some (r, M')) : CI l z (yd z b) 32 b yX12_islands cX12_islands 5 (some .int) rm12_islands [.ref (b + 0)] M M' r :=
  CI.ofW (lv := [(0, .ref (b + 0))]) (by decide) (Nat.le_of_ble_eq_true rfl) rfl (fun p e s m args below meth c ls C hr hk hP hS hl => w12_islands_0 (n := n)  C hr hk (l12_islands  C hr hk n).1 (l12_islands  C hr hk n).2 hf hP hS hl)

-- BronzeKingModel.withNeighbours(II)I
theorem dX12_withNeighbours_0 : decode cX12_withNeighbours 0 = .ok (.iconst 0, 1) := by decide +kernel
theorem dX12_withNeighbours_1 : decode cX12_withNeighbours 1 = .ok (.istore_n 3, 1) := by decide +kernel
theorem dX12_withNeighbours_2 : decode cX12_withNeighbours 2 = .ok (.iconst 0, 1) := by decide +kernel
theorem dX12_withNeighbours_3 : decode cX12_withNeighbours 3 = .ok (.istore 4, 2) := by decide +kernel
theorem dX12_withNeighbours_5 : decode cX12_withNeighbours 5 = .ok (.iload 4, 2) := by decide +kernel
theorem dX12_withNeighbours_7 : decode cX12_withNeighbours 7 = .ok (.bipush 96, 2) := by decide +kernel
theorem dX12_withNeighbours_9 : decode cX12_withNeighbours 9 = .ok (.if_icmp .ge 36, 3) := by decide +kernel
theorem dX12_withNeighbours_12 : decode cX12_withNeighbours 12 = .ok (.aload_n 0, 1) := by decide +kernel
theorem dX12_withNeighbours_13 : decode cX12_withNeighbours 13 = .ok (.iload 4, 2) := by decide +kernel
theorem dX12_withNeighbours_15 : decode cX12_withNeighbours 15 = .ok (.invokevirtual 122, 3) := by decide +kernel
theorem dX12_withNeighbours_18 : decode cX12_withNeighbours 18 = .ok (.ifCond .eq 21, 3) := by decide +kernel
theorem dX12_withNeighbours_21 : decode cX12_withNeighbours 21 = .ok (.aload_n 0, 1) := by decide +kernel
theorem dX12_withNeighbours_22 : decode cX12_withNeighbours 22 = .ok (.iload 4, 2) := by decide +kernel
theorem dX12_withNeighbours_24 : decode cX12_withNeighbours 24 = .ok (.invokevirtual 327, 3) := by decide +kernel
theorem dX12_withNeighbours_27 : decode cX12_withNeighbours 27 = .ok (.iload_n 1, 1) := by decide +kernel
theorem dX12_withNeighbours_28 : decode cX12_withNeighbours 28 = .ok (.iload_n 2, 1) := by decide +kernel
theorem dX12_withNeighbours_29 : decode cX12_withNeighbours 29 = .ok (.invokestatic 106, 3) := by decide +kernel
theorem dX12_withNeighbours_32 : decode cX12_withNeighbours 32 = .ok (.ifCond .eq 7, 3) := by decide +kernel
theorem dX12_withNeighbours_35 : decode cX12_withNeighbours 35 = .ok (.iload_n 3, 1) := by decide +kernel
theorem dX12_withNeighbours_36 : decode cX12_withNeighbours 36 = .ok (.iconst 1, 1) := by decide +kernel
theorem dX12_withNeighbours_37 : decode cX12_withNeighbours 37 = .ok (.iadd, 1) := by decide +kernel
theorem dX12_withNeighbours_38 : decode cX12_withNeighbours 38 = .ok (.istore_n 3, 1) := by decide +kernel
theorem dX12_withNeighbours_39 : decode cX12_withNeighbours 39 = .ok (.iinc 4 1, 3) := by decide +kernel
theorem dX12_withNeighbours_42 : decode cX12_withNeighbours 42 = .ok (.goto (-37), 3) := by decide +kernel
theorem dX12_withNeighbours_45 : decode cX12_withNeighbours 45 = .ok (.iload_n 3, 1) := by decide +kernel
theorem dX12_withNeighbours_46 : decode cX12_withNeighbours 46 = .ok (.ireturn, 1) := by decide +kernel
def b12_withNeighbours_39 (rc : Nat → List Int32 → List Int64 → Mem → Option (Int32 × Mem)) (n : Nat) (i1 : Int32) (i2 : Int32) (i3 : Int32) (i4 : Int32) (M : Mem) : Option (Int32 × Mem) :=
  lt (i4 + (1 : Int32)) fun v14 =>
  rc 5 [i1, i2, i3, v14] [] M
def b12_withNeighbours_5 (rc : Nat → List Int32 → List Int64 → Mem → Option (Int32 × Mem)) (n : Nat) (i1 : Int32) (i2 : Int32) (i3 : Int32) (i4 : Int32) (M : Mem) : Option (Int32 × Mem) :=
  (if (96 : Int32) ≤ i4 then (
   some (i3, M))
  else (
   bnd (f12_isOpen n i4 M) fun r2 M3 =>
   (if r2 = 0 then (
    b12_withNeighbours_39  rc n i1 i2 i3 i4 M3)
   else (
    bnd (f12_neighbours n i4 M3) fun r6 M7 =>
    bnd (f12_in n r6 i1 i2 M7) fun r9 M10 =>
    (if r9 = 0 then (
     b12_withNeighbours_39  rc n i1 i2 i3 i4 M10)
    else (
     lt (i3 + (1 : Int32)) fun v13 =>
     b12_withNeighbours_39  rc n i1 i2 v13 i4 M10))))))
def b12_withNeighbours_0 (rc : Nat → List Int32 → List Int64 → Mem → Option (Int32 × Mem)) (n : Nat) (a1 : Int32) (a2 : Int32) (M : Mem) : Option (Int32 × Mem) :=
  b12_withNeighbours_5  rc n a1 a2 (0 : Int32) (0 : Int32) M
def r12_withNeighbours : Nat → Nat → List Int32 → List Int64 → Mem → Option (Int32 × Mem)
  | 0 => fun _ _ _ _ => none
  | n + 1 => fun pc li lj M =>
    if pc = 5 then (match li, lj with | [i1, i2, i3, i4], [] => b12_withNeighbours_5  (r12_withNeighbours  n) n i1 i2 i3 i4 M | _, _ => none) else
    none
theorem e12_withNeighbours_5  (n : Nat) (i1 : Int32) (i2 : Int32) (i3 : Int32) (i4 : Int32) (M : Mem) : r12_withNeighbours  (n + 1) 5 [i1, i2, i3, i4] [] M = b12_withNeighbours_5  (r12_withNeighbours  n) n i1 i2 i3 i4 M := by
  rw [r12_withNeighbours]
  simp
def f12_withNeighbours (n : Nat) (a1 : Int32) (a2 : Int32) (M : Mem) : Option (Int32 × Mem) := b12_withNeighbours_0 (r12_withNeighbours n) n a1 a2 M
abbrev rm12_withNeighbours : Room := { frames := 4, cells := 0, slots := 0, locals := 89 }
theorem y12_withNeighbours_w : yV RX12 yX12_withNeighbours cX12_withNeighbours 5 (some .int) 2 := ⟨g_1674, gp 94 rfl rfl, g_14, g_1675, rfl, by decide, by decide, by decide +kernel⟩
set_option maxHeartbeats 4000000 in
set_option maxRecDepth 100000 in
theorem w12_withNeighbours_39 {p : Program} {l : Launch} {e : Env} {s : State} {m : MethodId} {args : Array Value} {below : List Frame} {meth : Method} {c : Code} {z : Zt} {b : Nat}  (C : Cx p s m args c cX12_withNeighbours 5 RX12 z 32 b) (hr : meth.sig.returnType = (some .int)) (hk : meth.locks = false) {r : Int32} {M' : Mem} {rc : Nat → List Int32 → List Int64 → Mem → Option (Int32 × Mem)} {n : Nat} (q5 : ∀ (i1 : Int32) (i2 : Int32) (i3 : Int32) (i4 : Int32) (M : Mem) (H : Heap) (locs : List Loc) (ls : Array Slot), rc 5 [i1, i2, i3, i4] [] M = some (r, M') → va_P z.1 vwCl (pw (yd z b) 32 b M) H → va_S (pA 32 b) s.heap H locs → lv_has ls 5 [(0, .ref (b + 0)), (1, .int i1), (2, .int i2), (3, .int i3), (4, .int i4)] → W p l e rm12_withNeighbours s m args below meth c H locs 0 0 (MQ below (va_Qi (fun (r' : Int32) (M2 : Mem) => r' = r ∧ M2 = M') (fun M2 t => va_P z.1 vwCl (pw (yd z b) 32 b M2) t.heap) (pA 32 b)) args s 0 0 (pA 32 b)) (F0 m 5 ls [])) {i1 : Int32} {i2 : Int32} {i3 : Int32} {i4 : Int32} {M : Mem} {H : Heap} {locs : List Loc} {ls : Array Slot} (hf : b12_withNeighbours_39  rc n i1 i2 i3 i4 M = some (r, M')) (hP : va_P z.1 vwCl (pw (yd z b) 32 b M) H) (hS : va_S (pA 32 b) s.heap H locs) (hl : lv_has ls 5 [(0, .ref (b + 0)), (1, .int i1), (2, .int i2), (3, .int i3), (4, .int i4)]) : W p l e rm12_withNeighbours s m args below meth c H locs 0 0 (MQ below (va_Qi (fun (r' : Int32) (M2 : Mem) => r' = r ∧ M2 = M') (fun M2 t => va_P z.1 vwCl (pw (yd z b) 32 b M2) t.heap) (pA 32 b)) args s 0 0 (pA 32 b)) (F0 m 39 ls []) := by
  have hx := C.1.1
  have hb := C.1.2.1
  unfold b12_withNeighbours_39 at hf
  obtain ⟨v14, ev14⟩ : ∃ v : Int32, v = i4 + (1 : Int32) := ⟨_, rfl⟩
  replace hf := lt_c ev14 hf
  refine lv_iinc (v := v14) (lv' := [(4, .int v14), (0, .ref (b + 0)), (1, .int i1), (2, .int i2), (3, .int i3)]) hx hb dX12_withNeighbours_39 hl (k := 4) rfl (by rw [ev14]; rfl) (by decide) rfl (fun ls hl => ?_)
  refine lv_goto (tgt := 5) hx hb dX12_withNeighbours_42 (by decide) ?_
  exact q5 i1 i2 i3 v14 M _ _ _ hf hP hS (lv_sub hl [1, 2, 3, 4, 0] rfl)
set_option maxHeartbeats 4000000 in
set_option maxRecDepth 100000 in
theorem w12_withNeighbours_5 {p : Program} {l : Launch} {e : Env} {s : State} {m : MethodId} {args : Array Value} {below : List Frame} {meth : Method} {c : Code} {z : Zt} {b : Nat}  (C : Cx p s m args c cX12_withNeighbours 5 RX12 z 32 b) (hr : meth.sig.returnType = (some .int)) (hk : meth.locks = false) {r : Int32} {M' : Mem} {rc : Nat → List Int32 → List Int64 → Mem → Option (Int32 × Mem)} {n : Nat} (q5 : ∀ (i1 : Int32) (i2 : Int32) (i3 : Int32) (i4 : Int32) (M : Mem) (H : Heap) (locs : List Loc) (ls : Array Slot), rc 5 [i1, i2, i3, i4] [] M = some (r, M') → va_P z.1 vwCl (pw (yd z b) 32 b M) H → va_S (pA 32 b) s.heap H locs → lv_has ls 5 [(0, .ref (b + 0)), (1, .int i1), (2, .int i2), (3, .int i3), (4, .int i4)] → W p l e rm12_withNeighbours s m args below meth c H locs 0 0 (MQ below (va_Qi (fun (r' : Int32) (M2 : Mem) => r' = r ∧ M2 = M') (fun M2 t => va_P z.1 vwCl (pw (yd z b) 32 b M2) t.heap) (pA 32 b)) args s 0 0 (pA 32 b)) (F0 m 5 ls [])) {i1 : Int32} {i2 : Int32} {i3 : Int32} {i4 : Int32} {M : Mem} {H : Heap} {locs : List Loc} {ls : Array Slot} (hf : b12_withNeighbours_5  rc n i1 i2 i3 i4 M = some (r, M')) (hP : va_P z.1 vwCl (pw (yd z b) 32 b M) H) (hS : va_S (pA 32 b) s.heap H locs) (hl : lv_has ls 5 [(0, .ref (b + 0)), (1, .int i1), (2, .int i2), (3, .int i3), (4, .int i4)]) : W p l e rm12_withNeighbours s m args below meth c H locs 0 0 (MQ below (va_Qi (fun (r' : Int32) (M2 : Mem) => r' = r ∧ M2 = M') (fun M2 t => va_P z.1 vwCl (pw (yd z b) 32 b M2) t.heap) (pA 32 b)) args s 0 0 (pA 32 b)) (F0 m 5 ls []) := by
  have hx := C.1.1
  have hb := C.1.2.1
  unfold b12_withNeighbours_5 at hf
  refine lv_iload hx hb dX12_withNeighbours_5 (lv_at hl 4 rfl) ?_
  refine lv_bipush (v := (96 : Int32)) hx hb dX12_withNeighbours_7 (by decide) ?_
  refine lv_icmp_ge (tgt := 45) hx hb dX12_withNeighbours_9 (by decide) (fun c1 => ?_) (fun c1 => ?_)
  · replace hf := ite_t c1 hf
    refine lv_iload_n hx hb dX12_withNeighbours_45 rfl (lv_at hl 3 rfl) ?_
    exact prI C hr hk hP hS hf dX12_withNeighbours_46
  · replace hf := ite_f c1 hf
    refine lv_aload_n hx hb dX12_withNeighbours_12 rfl (lv_at hl 0 rfl) ?_
    refine lv_iload hx hb dX12_withNeighbours_13 (lv_at hl 4 rfl) ?_
    obtain ⟨r2, M3, h4, hf⟩ := bnd_s hf
    refine pcVi (As := [.int i4]) C hP hS (k := 0) (Nat.le_of_ble_eq_true rfl) (yd_0 _ _) rfl (c12_isOpen  h4) y12_isOpen_w g_1483 rfl rfl rfl ⟨Nat.le_of_ble_eq_true rfl, Nat.le_of_ble_eq_true rfl⟩ hl.1 rfl (Nat.le_of_ble_eq_true rfl) dX12_withNeighbours_15 ⟨Nat.le_of_ble_eq_true rfl, Nat.le_of_ble_eq_true rfl⟩ (fun H locs hP hS => ?_)
    refine lv_if_eq (tgt := 39) hx hb dX12_withNeighbours_18 (by decide) (fun c5 => ?_) (fun c5 => ?_)
    · replace hf := ite_t c5 hf
      exact w12_withNeighbours_39 (n := n)  C hr hk q5 hf hP hS (lv_sub hl [0, 1, 2, 3, 4] rfl)
    · replace hf := ite_f c5 hf
      refine lv_aload_n hx hb dX12_withNeighbours_21 rfl (lv_at hl 0 rfl) ?_
      refine lv_iload hx hb dX12_withNeighbours_22 (lv_at hl 4 rfl) ?_
      obtain ⟨r6, M7, h8, hf⟩ := bnd_s hf
      refine pcVi (As := [.int i4]) C hP hS (k := 0) (Nat.le_of_ble_eq_true rfl) (yd_0 _ _) rfl (c12_neighbours  h8) y12_neighbours_w g_1526 rfl rfl rfl ⟨Nat.le_of_ble_eq_true rfl, Nat.le_of_ble_eq_true rfl⟩ hl.1 rfl (Nat.le_of_ble_eq_true rfl) dX12_withNeighbours_24 ⟨Nat.le_of_ble_eq_true rfl, Nat.le_of_ble_eq_true rfl⟩ (fun H locs hP hS => ?_)
      refine lv_iload_n hx hb dX12_withNeighbours_27 rfl (lv_at hl 1 rfl) ?_
      refine lv_iload_n hx hb dX12_withNeighbours_28 rfl (lv_at hl 2 rfl) ?_
      obtain ⟨r9, M10, h11, hf⟩ := bnd_s hf
      refine pcSi (As := [.int r6, .int i1, .int i2]) C hP hS (c12_in  h11) y12_in_w g_1306 rfl rfl rfl ⟨Nat.le_of_ble_eq_true rfl, Nat.le_of_ble_eq_true rfl⟩ hl.1 rfl (Nat.le_of_ble_eq_true rfl) dX12_withNeighbours_29 ⟨Nat.le_of_ble_eq_true rfl, Nat.le_of_ble_eq_true rfl⟩ (fun H locs hP hS => ?_)
      refine lv_if_eq (tgt := 39) hx hb dX12_withNeighbours_32 (by decide) (fun c12 => ?_) (fun c12 => ?_)
      · replace hf := ite_t c12 hf
        exact w12_withNeighbours_39 (n := n)  C hr hk q5 hf hP hS (lv_sub hl [0, 1, 2, 3, 4] rfl)
      · replace hf := ite_f c12 hf
        refine lv_iload_n hx hb dX12_withNeighbours_35 rfl (lv_at hl 3 rfl) ?_
        refine lv_iconst (v := (1 : Int32)) hx hb dX12_withNeighbours_36 (by decide) ?_
        refine lv_iadd hx hb dX12_withNeighbours_37 ?_
        refine lv_topi (fun v13 ev13 => ?_)
        replace hf := lt_c ev13 hf
        refine lv_istore_n (lv' := [(3, .int v13), (0, .ref (b + 0)), (1, .int i1), (2, .int i2), (4, .int i4)]) hx hb dX12_withNeighbours_38 rfl hl (by decide) rfl (fun ls hl => ?_)
        exact w12_withNeighbours_39 (n := n)  C hr hk q5 hf hP hS (lv_sub hl [1, 2, 3, 0, 4] rfl)
set_option maxHeartbeats 4000000 in
set_option maxRecDepth 100000 in
theorem w12_withNeighbours_0 {p : Program} {l : Launch} {e : Env} {s : State} {m : MethodId} {args : Array Value} {below : List Frame} {meth : Method} {c : Code} {z : Zt} {b : Nat}  (C : Cx p s m args c cX12_withNeighbours 5 RX12 z 32 b) (hr : meth.sig.returnType = (some .int)) (hk : meth.locks = false) {r : Int32} {M' : Mem} {rc : Nat → List Int32 → List Int64 → Mem → Option (Int32 × Mem)} {n : Nat} (q5 : ∀ (i1 : Int32) (i2 : Int32) (i3 : Int32) (i4 : Int32) (M : Mem) (H : Heap) (locs : List Loc) (ls : Array Slot), rc 5 [i1, i2, i3, i4] [] M = some (r, M') → va_P z.1 vwCl (pw (yd z b) 32 b M) H → va_S (pA 32 b) s.heap H locs → lv_has ls 5 [(0, .ref (b + 0)), (1, .int i1), (2, .int i2), (3, .int i3), (4, .int i4)] → W p l e rm12_withNeighbours s m args below meth c H locs 0 0 (MQ below (va_Qi (fun (r' : Int32) (M2 : Mem) => r' = r ∧ M2 = M') (fun M2 t => va_P z.1 vwCl (pw (yd z b) 32 b M2) t.heap) (pA 32 b)) args s 0 0 (pA 32 b)) (F0 m 5 ls [])) {a1 : Int32} {a2 : Int32} {M : Mem} {H : Heap} {locs : List Loc} {ls : Array Slot} (hf : b12_withNeighbours_0  rc n a1 a2 M = some (r, M')) (hP : va_P z.1 vwCl (pw (yd z b) 32 b M) H) (hS : va_S (pA 32 b) s.heap H locs) (hl : lv_has ls 5 [(0, .ref (b + 0)), (1, .int a1), (2, .int a2)]) : W p l e rm12_withNeighbours s m args below meth c H locs 0 0 (MQ below (va_Qi (fun (r' : Int32) (M2 : Mem) => r' = r ∧ M2 = M') (fun M2 t => va_P z.1 vwCl (pw (yd z b) 32 b M2) t.heap) (pA 32 b)) args s 0 0 (pA 32 b)) (F0 m 0 ls []) := by
  have hx := C.1.1
  have hb := C.1.2.1
  unfold b12_withNeighbours_0 at hf
  refine lv_iconst (v := (0 : Int32)) hx hb dX12_withNeighbours_0 (by decide) ?_
  refine lv_istore_n (lv' := [(3, .int (0 : Int32)), (0, .ref (b + 0)), (1, .int a1), (2, .int a2)]) hx hb dX12_withNeighbours_1 rfl hl (by decide) rfl (fun ls hl => ?_)
  refine lv_iconst (v := (0 : Int32)) hx hb dX12_withNeighbours_2 (by decide) ?_
  refine lv_istore (lv' := [(4, .int (0 : Int32)), (3, .int (0 : Int32)), (0, .ref (b + 0)), (1, .int a1), (2, .int a2)]) hx hb dX12_withNeighbours_3 hl (by decide) rfl (fun ls hl => ?_)
  exact w12_withNeighbours_5 (n := n)  C hr hk q5 hf hP hS (lv_sub hl [2, 3, 4, 1, 0] rfl)
set_option maxHeartbeats 4000000 in
set_option maxRecDepth 100000 in
theorem l12_withNeighbours {p : Program} {l : Launch} {e : Env} {s : State} {m : MethodId} {args : Array Value} {below : List Frame} {meth : Method} {c : Code} {z : Zt} {b : Nat}  (C : Cx p s m args c cX12_withNeighbours 5 RX12 z 32 b) (hr : meth.sig.returnType = (some .int)) (hk : meth.locks = false) {r : Int32} {M' : Mem} (n : Nat) : (∀ (i1 : Int32) (i2 : Int32) (i3 : Int32) (i4 : Int32) (M : Mem) (H : Heap) (locs : List Loc) (ls : Array Slot), (r12_withNeighbours  n) 5 [i1, i2, i3, i4] [] M = some (r, M') → va_P z.1 vwCl (pw (yd z b) 32 b M) H → va_S (pA 32 b) s.heap H locs → lv_has ls 5 [(0, .ref (b + 0)), (1, .int i1), (2, .int i2), (3, .int i3), (4, .int i4)] → W p l e rm12_withNeighbours s m args below meth c H locs 0 0 (MQ below (va_Qi (fun (r' : Int32) (M2 : Mem) => r' = r ∧ M2 = M') (fun M2 t => va_P z.1 vwCl (pw (yd z b) 32 b M2) t.heap) (pA 32 b)) args s 0 0 (pA 32 b)) (F0 m 5 ls [])) := by
  induction n with
  | zero => exact fun _ _ _ _ _ _ _ _ hf => (by cases hf)
  | succ n ih => exact fun _ _ _ _ _ _ _ _ hf hP hS hl => w12_withNeighbours_5 (n := n)  C hr hk ih ((e12_withNeighbours_5  n _ _ _ _ _).symm.trans hf) hP hS hl
theorem c12_withNeighbours {l : Launch} {z : Zt} {b n : Nat}  {a1 : Int32} {a2 : Int32} {M M' : Mem} {r : Int32} (hf : f12_withNeighbours n  a1 a2 M = some (r, M')) : CI l z (yd z b) 32 b yX12_withNeighbours cX12_withNeighbours 5 (some .int) rm12_withNeighbours [.ref (b + 0), .int a1, .int a2] M M' r :=
  CI.ofW (lv := [(0, .ref (b + 0)), (1, .int a1), (2, .int a2)]) (by decide) (Nat.le_of_ble_eq_true rfl) rfl (fun p e s m args below meth c ls C hr hk hP hS hl => w12_withNeighbours_0 (n := n)  C hr hk (l12_withNeighbours  C hr hk n) hf hP hS hl)

-- BronzeKingModel.twos()I
theorem dX12_twos_0 : decode cX12_twos 0 = .ok (.iconst 0, 1) := by decide +kernel
theorem dX12_twos_1 : decode cX12_twos 1 = .ok (.istore_n 1, 1) := by decide +kernel
theorem dX12_twos_2 : decode cX12_twos 2 = .ok (.iconst 0, 1) := by decide +kernel
theorem dX12_twos_3 : decode cX12_twos 3 = .ok (.istore_n 2, 1) := by decide +kernel
theorem dX12_twos_4 : decode cX12_twos 4 = .ok (.iload_n 2, 1) := by decide +kernel
theorem dX12_twos_5 : decode cX12_twos 5 = .ok (.bipush 96, 2) := by decide +kernel
theorem dX12_twos_7 : decode cX12_twos 7 = .ok (.if_icmp .ge 25, 3) := by decide +kernel
theorem dX12_twos_10 : decode cX12_twos 10 = .ok (.aload_n 0, 1) := by decide +kernel
theorem dX12_twos_11 : decode cX12_twos 11 = .ok (.iload_n 2, 1) := by decide +kernel
theorem dX12_twos_12 : decode cX12_twos 12 = .ok (.invokevirtual 122, 3) := by decide +kernel
theorem dX12_twos_15 : decode cX12_twos 15 = .ok (.ifCond .eq 11, 3) := by decide +kernel
theorem dX12_twos_18 : decode cX12_twos 18 = .ok (.iload_n 1, 1) := by decide +kernel
theorem dX12_twos_19 : decode cX12_twos 19 = .ok (.aload_n 0, 1) := by decide +kernel
theorem dX12_twos_20 : decode cX12_twos 20 = .ok (.iload_n 2, 1) := by decide +kernel
theorem dX12_twos_21 : decode cX12_twos 21 = .ok (.invokevirtual 327, 3) := by decide +kernel
theorem dX12_twos_24 : decode cX12_twos 24 = .ok (.iadd, 1) := by decide +kernel
theorem dX12_twos_25 : decode cX12_twos 25 = .ok (.istore_n 1, 1) := by decide +kernel
theorem dX12_twos_26 : decode cX12_twos 26 = .ok (.iinc 2 1, 3) := by decide +kernel
theorem dX12_twos_29 : decode cX12_twos 29 = .ok (.goto (-25), 3) := by decide +kernel
theorem dX12_twos_32 : decode cX12_twos 32 = .ok (.iload_n 1, 1) := by decide +kernel
theorem dX12_twos_33 : decode cX12_twos 33 = .ok (.iconst 2, 1) := by decide +kernel
theorem dX12_twos_34 : decode cX12_twos 34 = .ok (.idiv, 1) := by decide +kernel
theorem dX12_twos_35 : decode cX12_twos 35 = .ok (.ireturn, 1) := by decide +kernel
def b12_twos_26 (rc : Nat → List Int32 → List Int64 → Mem → Option (Int32 × Mem)) (n : Nat) (i1 : Int32) (i2 : Int32) (M : Mem) : Option (Int32 × Mem) :=
  lt (i2 + (1 : Int32)) fun v10 =>
  rc 4 [i1, v10] [] M
def b12_twos_4 (rc : Nat → List Int32 → List Int64 → Mem → Option (Int32 × Mem)) (n : Nat) (i1 : Int32) (i2 : Int32) (M : Mem) : Option (Int32 × Mem) :=
  (if (96 : Int32) ≤ i2 then (
   some ((i1 / (2 : Int32)), M))
  else (
   bnd (f12_isOpen n i2 M) fun r2 M3 =>
   (if r2 = 0 then (
    b12_twos_26  rc n i1 i2 M3)
   else (
    bnd (f12_neighbours n i2 M3) fun r6 M7 =>
    lt (i1 + r6) fun v9 =>
    b12_twos_26  rc n v9 i2 M7))))
def b12_twos_0 (rc : Nat → List Int32 → List Int64 → Mem → Option (Int32 × Mem)) (n : Nat) (M : Mem) : Option (Int32 × Mem) :=
  b12_twos_4  rc n (0 : Int32) (0 : Int32) M
def r12_twos : Nat → Nat → List Int32 → List Int64 → Mem → Option (Int32 × Mem)
  | 0 => fun _ _ _ _ => none
  | n + 1 => fun pc li lj M =>
    if pc = 4 then (match li, lj with | [i1, i2], [] => b12_twos_4  (r12_twos  n) n i1 i2 M | _, _ => none) else
    none
theorem e12_twos_4  (n : Nat) (i1 : Int32) (i2 : Int32) (M : Mem) : r12_twos  (n + 1) 4 [i1, i2] [] M = b12_twos_4  (r12_twos  n) n i1 i2 M := by
  rw [r12_twos]
  simp
def f12_twos (n : Nat)  (M : Mem) : Option (Int32 × Mem) := b12_twos_0 (r12_twos n) n M
abbrev rm12_twos : Room := { frames := 4, cells := 0, slots := 0, locals := 89 }
theorem y12_twos_w : yV RX12 yX12_twos cX12_twos 3 (some .int) 0 := ⟨g_1678, gp 95 rfl rfl, g_14, g_1679, rfl, by decide, by decide, by decide +kernel⟩
set_option maxHeartbeats 4000000 in
set_option maxRecDepth 100000 in
theorem w12_twos_26 {p : Program} {l : Launch} {e : Env} {s : State} {m : MethodId} {args : Array Value} {below : List Frame} {meth : Method} {c : Code} {z : Zt} {b : Nat}  (C : Cx p s m args c cX12_twos 3 RX12 z 32 b) (hr : meth.sig.returnType = (some .int)) (hk : meth.locks = false) {r : Int32} {M' : Mem} {rc : Nat → List Int32 → List Int64 → Mem → Option (Int32 × Mem)} {n : Nat} (q4 : ∀ (i1 : Int32) (i2 : Int32) (M : Mem) (H : Heap) (locs : List Loc) (ls : Array Slot), rc 4 [i1, i2] [] M = some (r, M') → va_P z.1 vwCl (pw (yd z b) 32 b M) H → va_S (pA 32 b) s.heap H locs → lv_has ls 3 [(0, .ref (b + 0)), (1, .int i1), (2, .int i2)] → W p l e rm12_twos s m args below meth c H locs 0 0 (MQ below (va_Qi (fun (r' : Int32) (M2 : Mem) => r' = r ∧ M2 = M') (fun M2 t => va_P z.1 vwCl (pw (yd z b) 32 b M2) t.heap) (pA 32 b)) args s 0 0 (pA 32 b)) (F0 m 4 ls [])) {i1 : Int32} {i2 : Int32} {M : Mem} {H : Heap} {locs : List Loc} {ls : Array Slot} (hf : b12_twos_26  rc n i1 i2 M = some (r, M')) (hP : va_P z.1 vwCl (pw (yd z b) 32 b M) H) (hS : va_S (pA 32 b) s.heap H locs) (hl : lv_has ls 3 [(0, .ref (b + 0)), (1, .int i1), (2, .int i2)]) : W p l e rm12_twos s m args below meth c H locs 0 0 (MQ below (va_Qi (fun (r' : Int32) (M2 : Mem) => r' = r ∧ M2 = M') (fun M2 t => va_P z.1 vwCl (pw (yd z b) 32 b M2) t.heap) (pA 32 b)) args s 0 0 (pA 32 b)) (F0 m 26 ls []) := by
  have hx := C.1.1
  have hb := C.1.2.1
  unfold b12_twos_26 at hf
  obtain ⟨v10, ev10⟩ : ∃ v : Int32, v = i2 + (1 : Int32) := ⟨_, rfl⟩
  replace hf := lt_c ev10 hf
  refine lv_iinc (v := v10) (lv' := [(2, .int v10), (0, .ref (b + 0)), (1, .int i1)]) hx hb dX12_twos_26 hl (k := 2) rfl (by rw [ev10]; rfl) (by decide) rfl (fun ls hl => ?_)
  refine lv_goto (tgt := 4) hx hb dX12_twos_29 (by decide) ?_
  exact q4 i1 v10 M _ _ _ hf hP hS (lv_sub hl [1, 2, 0] rfl)
set_option maxHeartbeats 4000000 in
set_option maxRecDepth 100000 in
theorem w12_twos_4 {p : Program} {l : Launch} {e : Env} {s : State} {m : MethodId} {args : Array Value} {below : List Frame} {meth : Method} {c : Code} {z : Zt} {b : Nat}  (C : Cx p s m args c cX12_twos 3 RX12 z 32 b) (hr : meth.sig.returnType = (some .int)) (hk : meth.locks = false) {r : Int32} {M' : Mem} {rc : Nat → List Int32 → List Int64 → Mem → Option (Int32 × Mem)} {n : Nat} (q4 : ∀ (i1 : Int32) (i2 : Int32) (M : Mem) (H : Heap) (locs : List Loc) (ls : Array Slot), rc 4 [i1, i2] [] M = some (r, M') → va_P z.1 vwCl (pw (yd z b) 32 b M) H → va_S (pA 32 b) s.heap H locs → lv_has ls 3 [(0, .ref (b + 0)), (1, .int i1), (2, .int i2)] → W p l e rm12_twos s m args below meth c H locs 0 0 (MQ below (va_Qi (fun (r' : Int32) (M2 : Mem) => r' = r ∧ M2 = M') (fun M2 t => va_P z.1 vwCl (pw (yd z b) 32 b M2) t.heap) (pA 32 b)) args s 0 0 (pA 32 b)) (F0 m 4 ls [])) {i1 : Int32} {i2 : Int32} {M : Mem} {H : Heap} {locs : List Loc} {ls : Array Slot} (hf : b12_twos_4  rc n i1 i2 M = some (r, M')) (hP : va_P z.1 vwCl (pw (yd z b) 32 b M) H) (hS : va_S (pA 32 b) s.heap H locs) (hl : lv_has ls 3 [(0, .ref (b + 0)), (1, .int i1), (2, .int i2)]) : W p l e rm12_twos s m args below meth c H locs 0 0 (MQ below (va_Qi (fun (r' : Int32) (M2 : Mem) => r' = r ∧ M2 = M') (fun M2 t => va_P z.1 vwCl (pw (yd z b) 32 b M2) t.heap) (pA 32 b)) args s 0 0 (pA 32 b)) (F0 m 4 ls []) := by
  have hx := C.1.1
  have hb := C.1.2.1
  unfold b12_twos_4 at hf
  refine lv_iload_n hx hb dX12_twos_4 rfl (lv_at hl 2 rfl) ?_
  refine lv_bipush (v := (96 : Int32)) hx hb dX12_twos_5 (by decide) ?_
  refine lv_icmp_ge (tgt := 32) hx hb dX12_twos_7 (by decide) (fun c1 => ?_) (fun c1 => ?_)
  · replace hf := ite_t c1 hf
    refine lv_iload_n hx hb dX12_twos_32 rfl (lv_at hl 1 rfl) ?_
    refine lv_iconst (v := (2 : Int32)) hx hb dX12_twos_33 (by decide) ?_
    refine lv_idiv hx hb dX12_twos_34 (by decide) ?_
    exact prI C hr hk hP hS hf dX12_twos_35
  · replace hf := ite_f c1 hf
    refine lv_aload_n hx hb dX12_twos_10 rfl (lv_at hl 0 rfl) ?_
    refine lv_iload_n hx hb dX12_twos_11 rfl (lv_at hl 2 rfl) ?_
    obtain ⟨r2, M3, h4, hf⟩ := bnd_s hf
    refine pcVi (As := [.int i2]) C hP hS (k := 0) (Nat.le_of_ble_eq_true rfl) (yd_0 _ _) rfl (c12_isOpen  h4) y12_isOpen_w g_1483 rfl rfl rfl ⟨Nat.le_of_ble_eq_true rfl, Nat.le_of_ble_eq_true rfl⟩ hl.1 rfl (Nat.le_of_ble_eq_true rfl) dX12_twos_12 ⟨Nat.le_of_ble_eq_true rfl, Nat.le_of_ble_eq_true rfl⟩ (fun H locs hP hS => ?_)
    refine lv_if_eq (tgt := 26) hx hb dX12_twos_15 (by decide) (fun c5 => ?_) (fun c5 => ?_)
    · replace hf := ite_t c5 hf
      exact w12_twos_26 (n := n)  C hr hk q4 hf hP hS (lv_sub hl [0, 1, 2] rfl)
    · replace hf := ite_f c5 hf
      refine lv_iload_n hx hb dX12_twos_18 rfl (lv_at hl 1 rfl) ?_
      refine lv_aload_n hx hb dX12_twos_19 rfl (lv_at hl 0 rfl) ?_
      refine lv_iload_n hx hb dX12_twos_20 rfl (lv_at hl 2 rfl) ?_
      obtain ⟨r6, M7, h8, hf⟩ := bnd_s hf
      refine pcVi (As := [.int i2]) C hP hS (k := 0) (Nat.le_of_ble_eq_true rfl) (yd_0 _ _) rfl (c12_neighbours  h8) y12_neighbours_w g_1526 rfl rfl rfl ⟨Nat.le_of_ble_eq_true rfl, Nat.le_of_ble_eq_true rfl⟩ hl.1 rfl (Nat.le_of_ble_eq_true rfl) dX12_twos_21 ⟨Nat.le_of_ble_eq_true rfl, Nat.le_of_ble_eq_true rfl⟩ (fun H locs hP hS => ?_)
      refine lv_iadd hx hb dX12_twos_24 ?_
      refine lv_topi (fun v9 ev9 => ?_)
      replace hf := lt_c ev9 hf
      refine lv_istore_n (lv' := [(1, .int v9), (0, .ref (b + 0)), (2, .int i2)]) hx hb dX12_twos_25 rfl hl (by decide) rfl (fun ls hl => ?_)
      exact w12_twos_26 (n := n)  C hr hk q4 hf hP hS (lv_sub hl [1, 0, 2] rfl)
set_option maxHeartbeats 4000000 in
set_option maxRecDepth 100000 in
theorem w12_twos_0 {p : Program} {l : Launch} {e : Env} {s : State} {m : MethodId} {args : Array Value} {below : List Frame} {meth : Method} {c : Code} {z : Zt} {b : Nat}  (C : Cx p s m args c cX12_twos 3 RX12 z 32 b) (hr : meth.sig.returnType = (some .int)) (hk : meth.locks = false) {r : Int32} {M' : Mem} {rc : Nat → List Int32 → List Int64 → Mem → Option (Int32 × Mem)} {n : Nat} (q4 : ∀ (i1 : Int32) (i2 : Int32) (M : Mem) (H : Heap) (locs : List Loc) (ls : Array Slot), rc 4 [i1, i2] [] M = some (r, M') → va_P z.1 vwCl (pw (yd z b) 32 b M) H → va_S (pA 32 b) s.heap H locs → lv_has ls 3 [(0, .ref (b + 0)), (1, .int i1), (2, .int i2)] → W p l e rm12_twos s m args below meth c H locs 0 0 (MQ below (va_Qi (fun (r' : Int32) (M2 : Mem) => r' = r ∧ M2 = M') (fun M2 t => va_P z.1 vwCl (pw (yd z b) 32 b M2) t.heap) (pA 32 b)) args s 0 0 (pA 32 b)) (F0 m 4 ls []))  {M : Mem} {H : Heap} {locs : List Loc} {ls : Array Slot} (hf : b12_twos_0  rc n  M = some (r, M')) (hP : va_P z.1 vwCl (pw (yd z b) 32 b M) H) (hS : va_S (pA 32 b) s.heap H locs) (hl : lv_has ls 3 [(0, .ref (b + 0))]) : W p l e rm12_twos s m args below meth c H locs 0 0 (MQ below (va_Qi (fun (r' : Int32) (M2 : Mem) => r' = r ∧ M2 = M') (fun M2 t => va_P z.1 vwCl (pw (yd z b) 32 b M2) t.heap) (pA 32 b)) args s 0 0 (pA 32 b)) (F0 m 0 ls []) := by
  have hx := C.1.1
  have hb := C.1.2.1
  unfold b12_twos_0 at hf
  refine lv_iconst (v := (0 : Int32)) hx hb dX12_twos_0 (by decide) ?_
  refine lv_istore_n (lv' := [(1, .int (0 : Int32)), (0, .ref (b + 0))]) hx hb dX12_twos_1 rfl hl (by decide) rfl (fun ls hl => ?_)
  refine lv_iconst (v := (0 : Int32)) hx hb dX12_twos_2 (by decide) ?_
  refine lv_istore_n (lv' := [(2, .int (0 : Int32)), (1, .int (0 : Int32)), (0, .ref (b + 0))]) hx hb dX12_twos_3 rfl hl (by decide) rfl (fun ls hl => ?_)
  exact w12_twos_4 (n := n)  C hr hk q4 hf hP hS (lv_sub hl [2, 1, 0] rfl)
set_option maxHeartbeats 4000000 in
set_option maxRecDepth 100000 in
theorem l12_twos {p : Program} {l : Launch} {e : Env} {s : State} {m : MethodId} {args : Array Value} {below : List Frame} {meth : Method} {c : Code} {z : Zt} {b : Nat}  (C : Cx p s m args c cX12_twos 3 RX12 z 32 b) (hr : meth.sig.returnType = (some .int)) (hk : meth.locks = false) {r : Int32} {M' : Mem} (n : Nat) : (∀ (i1 : Int32) (i2 : Int32) (M : Mem) (H : Heap) (locs : List Loc) (ls : Array Slot), (r12_twos  n) 4 [i1, i2] [] M = some (r, M') → va_P z.1 vwCl (pw (yd z b) 32 b M) H → va_S (pA 32 b) s.heap H locs → lv_has ls 3 [(0, .ref (b + 0)), (1, .int i1), (2, .int i2)] → W p l e rm12_twos s m args below meth c H locs 0 0 (MQ below (va_Qi (fun (r' : Int32) (M2 : Mem) => r' = r ∧ M2 = M') (fun M2 t => va_P z.1 vwCl (pw (yd z b) 32 b M2) t.heap) (pA 32 b)) args s 0 0 (pA 32 b)) (F0 m 4 ls [])) := by
  induction n with
  | zero => exact fun _ _ _ _ _ _ hf => (by cases hf)
  | succ n ih => exact fun _ _ _ _ _ _ hf hP hS hl => w12_twos_4 (n := n)  C hr hk ih ((e12_twos_4  n _ _ _).symm.trans hf) hP hS hl
theorem c12_twos {l : Launch} {z : Zt} {b n : Nat}   {M M' : Mem} {r : Int32} (hf : f12_twos n   M = some (r, M')) : CI l z (yd z b) 32 b yX12_twos cX12_twos 3 (some .int) rm12_twos [.ref (b + 0)] M M' r :=
  CI.ofW (lv := [(0, .ref (b + 0))]) (by decide) (Nat.le_of_ble_eq_true rfl) rfl (fun p e s m args below meth c ls C hr hk hP hS hl => w12_twos_0 (n := n)  C hr hk (l12_twos  C hr hk n) hf hP hS hl)

-- BronzeKingModel.cameTo(I)I
theorem dX12_cameTo_0 : decode cX12_cameTo 0 = .ok (.iconst 0, 1) := by decide +kernel
theorem dX12_cameTo_1 : decode cX12_cameTo 1 = .ok (.istore_n 2, 1) := by decide +kernel
theorem dX12_cameTo_2 : decode cX12_cameTo 2 = .ok (.iload_n 2, 1) := by decide +kernel
theorem dX12_cameTo_3 : decode cX12_cameTo 3 = .ok (.bipush 96, 2) := by decide +kernel
theorem dX12_cameTo_5 : decode cX12_cameTo 5 = .ok (.if_icmp .ge 25, 3) := by decide +kernel
theorem dX12_cameTo_8 : decode cX12_cameTo 8 = .ok (.aload_n 0, 1) := by decide +kernel
theorem dX12_cameTo_9 : decode cX12_cameTo 9 = .ok (.getfield 103, 3) := by decide +kernel
theorem dX12_cameTo_12 : decode cX12_cameTo 12 = .ok (.iload_n 2, 1) := by decide +kernel
theorem dX12_cameTo_13 : decode cX12_cameTo 13 = .ok (.iload_n 2, 1) := by decide +kernel
theorem dX12_cameTo_14 : decode cX12_cameTo 14 = .ok (.iload_n 1, 1) := by decide +kernel
theorem dX12_cameTo_15 : decode cX12_cameTo 15 = .ok (.if_icmp .ne 7, 3) := by decide +kernel
theorem dX12_cameTo_18 : decode cX12_cameTo 18 = .ok (.iconst 1, 1) := by decide +kernel
theorem dX12_cameTo_19 : decode cX12_cameTo 19 = .ok (.goto 4, 3) := by decide +kernel
theorem dX12_cameTo_22 : decode cX12_cameTo 22 = .ok (.iconst 0, 1) := by decide +kernel
theorem dX12_cameTo_23 : decode cX12_cameTo 23 = .ok (.bastore, 1) := by decide +kernel
theorem dX12_cameTo_24 : decode cX12_cameTo 24 = .ok (.iinc 2 1, 3) := by decide +kernel
theorem dX12_cameTo_27 : decode cX12_cameTo 27 = .ok (.goto (-25), 3) := by decide +kernel
theorem dX12_cameTo_30 : decode cX12_cameTo 30 = .ok (.aload_n 0, 1) := by decide +kernel
theorem dX12_cameTo_31 : decode cX12_cameTo 31 = .ok (.getfield 29, 3) := by decide +kernel
theorem dX12_cameTo_34 : decode cX12_cameTo 34 = .ok (.iconst 0, 1) := by decide +kernel
theorem dX12_cameTo_35 : decode cX12_cameTo 35 = .ok (.aload_n 0, 1) := by decide +kernel
theorem dX12_cameTo_36 : decode cX12_cameTo 36 = .ok (.getfield 110, 3) := by decide +kernel
theorem dX12_cameTo_39 : decode cX12_cameTo 39 = .ok (.iastore, 1) := by decide +kernel
theorem dX12_cameTo_40 : decode cX12_cameTo 40 = .ok (.aload_n 0, 1) := by decide +kernel
theorem dX12_cameTo_41 : decode cX12_cameTo 41 = .ok (.getfield 103, 3) := by decide +kernel
theorem dX12_cameTo_44 : decode cX12_cameTo 44 = .ok (.aload_n 0, 1) := by decide +kernel
theorem dX12_cameTo_45 : decode cX12_cameTo 45 = .ok (.getfield 110, 3) := by decide +kernel
theorem dX12_cameTo_48 : decode cX12_cameTo 48 = .ok (.iconst 1, 1) := by decide +kernel
theorem dX12_cameTo_49 : decode cX12_cameTo 49 = .ok (.bastore, 1) := by decide +kernel
theorem dX12_cameTo_50 : decode cX12_cameTo 50 = .ok (.iconst 1, 1) := by decide +kernel
theorem dX12_cameTo_51 : decode cX12_cameTo 51 = .ok (.istore_n 2, 1) := by decide +kernel
theorem dX12_cameTo_52 : decode cX12_cameTo 52 = .ok (.iconst 0, 1) := by decide +kernel
theorem dX12_cameTo_53 : decode cX12_cameTo 53 = .ok (.istore_n 3, 1) := by decide +kernel
theorem dX12_cameTo_54 : decode cX12_cameTo 54 = .ok (.iload_n 3, 1) := by decide +kernel
theorem dX12_cameTo_55 : decode cX12_cameTo 55 = .ok (.iload_n 2, 1) := by decide +kernel
theorem dX12_cameTo_56 : decode cX12_cameTo 56 = .ok (.if_icmp .ge 85, 3) := by decide +kernel
theorem dX12_cameTo_59 : decode cX12_cameTo 59 = .ok (.iconst 0, 1) := by decide +kernel
theorem dX12_cameTo_60 : decode cX12_cameTo 60 = .ok (.istore 4, 2) := by decide +kernel
theorem dX12_cameTo_62 : decode cX12_cameTo 62 = .ok (.iload 4, 2) := by decide +kernel
theorem dX12_cameTo_64 : decode cX12_cameTo 64 = .ok (.iconst 4, 1) := by decide +kernel
theorem dX12_cameTo_65 : decode cX12_cameTo 65 = .ok (.if_icmp .ge 70, 3) := by decide +kernel
theorem dX12_cameTo_68 : decode cX12_cameTo 68 = .ok (.aload_n 0, 1) := by decide +kernel
theorem dX12_cameTo_69 : decode cX12_cameTo 69 = .ok (.getfield 29, 3) := by decide +kernel
theorem dX12_cameTo_72 : decode cX12_cameTo 72 = .ok (.iload_n 3, 1) := by decide +kernel
theorem dX12_cameTo_73 : decode cX12_cameTo 73 = .ok (.iaload, 1) := by decide +kernel
theorem dX12_cameTo_74 : decode cX12_cameTo 74 = .ok (.iload 4, 2) := by decide +kernel
theorem dX12_cameTo_76 : decode cX12_cameTo 76 = .ok (.invokestatic 126, 3) := by decide +kernel
theorem dX12_cameTo_79 : decode cX12_cameTo 79 = .ok (.istore 5, 2) := by decide +kernel
theorem dX12_cameTo_81 : decode cX12_cameTo 81 = .ok (.iload 5, 2) := by decide +kernel
theorem dX12_cameTo_83 : decode cX12_cameTo 83 = .ok (.iconst (-1), 1) := by decide +kernel
theorem dX12_cameTo_84 : decode cX12_cameTo 84 = .ok (.if_icmp .eq 45, 3) := by decide +kernel
theorem dX12_cameTo_87 : decode cX12_cameTo 87 = .ok (.aload_n 0, 1) := by decide +kernel
theorem dX12_cameTo_88 : decode cX12_cameTo 88 = .ok (.iload 5, 2) := by decide +kernel
theorem dX12_cameTo_90 : decode cX12_cameTo 90 = .ok (.invokevirtual 122, 3) := by decide +kernel
theorem dX12_cameTo_93 : decode cX12_cameTo 93 = .ok (.ifCond .eq 36, 3) := by decide +kernel
theorem dX12_cameTo_96 : decode cX12_cameTo 96 = .ok (.aload_n 0, 1) := by decide +kernel
theorem dX12_cameTo_97 : decode cX12_cameTo 97 = .ok (.getfield 103, 3) := by decide +kernel
theorem dX12_cameTo_100 : decode cX12_cameTo 100 = .ok (.iload 5, 2) := by decide +kernel
theorem dX12_cameTo_102 : decode cX12_cameTo 102 = .ok (.baload, 1) := by decide +kernel
theorem dX12_cameTo_103 : decode cX12_cameTo 103 = .ok (.ifCond .eq 6, 3) := by decide +kernel
theorem dX12_cameTo_106 : decode cX12_cameTo 106 = .ok (.goto 23, 3) := by decide +kernel
theorem dX12_cameTo_109 : decode cX12_cameTo 109 = .ok (.aload_n 0, 1) := by decide +kernel
theorem dX12_cameTo_110 : decode cX12_cameTo 110 = .ok (.getfield 103, 3) := by decide +kernel
theorem dX12_cameTo_113 : decode cX12_cameTo 113 = .ok (.iload 5, 2) := by decide +kernel
theorem dX12_cameTo_115 : decode cX12_cameTo 115 = .ok (.iconst 1, 1) := by decide +kernel
theorem dX12_cameTo_116 : decode cX12_cameTo 116 = .ok (.bastore, 1) := by decide +kernel
theorem dX12_cameTo_117 : decode cX12_cameTo 117 = .ok (.aload_n 0, 1) := by decide +kernel
theorem dX12_cameTo_118 : decode cX12_cameTo 118 = .ok (.getfield 29, 3) := by decide +kernel
theorem dX12_cameTo_121 : decode cX12_cameTo 121 = .ok (.iload_n 2, 1) := by decide +kernel
theorem dX12_cameTo_122 : decode cX12_cameTo 122 = .ok (.iload 5, 2) := by decide +kernel
theorem dX12_cameTo_124 : decode cX12_cameTo 124 = .ok (.iastore, 1) := by decide +kernel
theorem dX12_cameTo_125 : decode cX12_cameTo 125 = .ok (.iload_n 2, 1) := by decide +kernel
theorem dX12_cameTo_126 : decode cX12_cameTo 126 = .ok (.iconst 1, 1) := by decide +kernel
theorem dX12_cameTo_127 : decode cX12_cameTo 127 = .ok (.iadd, 1) := by decide +kernel
theorem dX12_cameTo_128 : decode cX12_cameTo 128 = .ok (.istore_n 2, 1) := by decide +kernel
theorem dX12_cameTo_129 : decode cX12_cameTo 129 = .ok (.iinc 4 1, 3) := by decide +kernel
theorem dX12_cameTo_132 : decode cX12_cameTo 132 = .ok (.goto (-70), 3) := by decide +kernel
theorem dX12_cameTo_135 : decode cX12_cameTo 135 = .ok (.iinc 3 1, 3) := by decide +kernel
theorem dX12_cameTo_138 : decode cX12_cameTo 138 = .ok (.goto (-84), 3) := by decide +kernel
theorem dX12_cameTo_141 : decode cX12_cameTo 141 = .ok (.iload_n 2, 1) := by decide +kernel
theorem dX12_cameTo_142 : decode cX12_cameTo 142 = .ok (.ireturn, 1) := by decide +kernel
def b12_cameTo_129 (rc : Nat → List Int32 → List Int64 → Mem → Option (Int32 × Mem)) (n : Nat) (i2 : Int32) (i3 : Int32) (i4 : Int32) (M : Mem) : Option (Int32 × Mem) :=
  lt (i4 + (1 : Int32)) fun v29 =>
  rc 62 [i2, i3, v29] [] M
def b12_cameTo_62 (rc : Nat → List Int32 → List Int64 → Mem → Option (Int32 × Mem)) (n : Nat) (i2 : Int32) (i3 : Int32) (i4 : Int32) (M : Mem) : Option (Int32 × Mem) :=
  (if (4 : Int32) ≤ i4 then (
   lt (i3 + (1 : Int32)) fun v12 =>
   rc 54 [i2, v12] [] M)
  else (
   chk (inb i3 96) <|
   bnd (f12_beside n (M.1 7 i3.toNatClampNeg) i4 M) fun r14 M15 =>
   (if r14 = (-1 : Int32) then (
    b12_cameTo_129  rc n i2 i3 i4 M15)
   else (
    bnd (f12_isOpen n r14 M15) fun r18 M19 =>
    (if r18 = 0 then (
     b12_cameTo_129  rc n i2 i3 i4 M19)
    else (
     chk (inb r14 96) <|
     (if (M19.1 31 r14.toNatClampNeg) = 0 then (
      chk (inb r14 96) <|
      lt (wI M19 31 r14.toNatClampNeg (vp_nar .boolean (1 : Int32))) fun M25 =>
      chk (inb i2 96) <|
      lt (wI M25 7 i2.toNatClampNeg r14) fun M27 =>
      lt (i2 + (1 : Int32)) fun v28 =>
      b12_cameTo_129  rc n v28 i3 i4 M27)
     else (
      b12_cameTo_129  rc n i2 i3 i4 M19))))))))
def b12_cameTo_54 (rc : Nat → List Int32 → List Int64 → Mem → Option (Int32 × Mem)) (n : Nat) (i2 : Int32) (i3 : Int32) (M : Mem) : Option (Int32 × Mem) :=
  (if i2 ≤ i3 then (
   some (i2, M))
  else (
   b12_cameTo_62  rc n i2 i3 (0 : Int32) M))
def b12_cameTo_23 (rc : Nat → List Int32 → List Int64 → Mem → Option (Int32 × Mem)) (n : Nat) (i1 : Int32) (i2 : Int32) (s1 : Int32) (s2 : Int32) (M : Mem) : Option (Int32 × Mem) :=
  chk (inb s1 96) <|
  lt (wI M 31 s1.toNatClampNeg (vp_nar .boolean s2)) fun M8 =>
  lt (i2 + (1 : Int32)) fun v9 =>
  rc 2 [i1, v9] [] M8
def b12_cameTo_2 (rc : Nat → List Int32 → List Int64 → Mem → Option (Int32 × Mem)) (n : Nat) (i1 : Int32) (i2 : Int32) (M : Mem) : Option (Int32 × Mem) :=
  (if (96 : Int32) ≤ i2 then (
   chk (inb (0 : Int32) 96) <|
   lt (wI M 7 (0 : Int32).toNatClampNeg (M.1 0 5)) fun M3 =>
   chk (inb (M3.1 0 5) 96) <|
   lt (wI M3 31 (M3.1 0 5).toNatClampNeg (vp_nar .boolean (1 : Int32))) fun M5 =>
   b12_cameTo_54  rc n (1 : Int32) (0 : Int32) M5)
  else (
   (if i2 = i1 then (
    b12_cameTo_23  rc n i1 i2 i2 (1 : Int32) M)
   else (
    b12_cameTo_23  rc n i1 i2 i2 (0 : Int32) M))))
def b12_cameTo_0 (rc : Nat → List Int32 → List Int64 → Mem → Option (Int32 × Mem)) (n : Nat) (a1 : Int32) (M : Mem) : Option (Int32 × Mem) :=
  b12_cameTo_2  rc n a1 (0 : Int32) M
def r12_cameTo : Nat → Nat → List Int32 → List Int64 → Mem → Option (Int32 × Mem)
  | 0 => fun _ _ _ _ => none
  | n + 1 => fun pc li lj M =>
    if pc = 2 then (match li, lj with | [i1, i2], [] => b12_cameTo_2  (r12_cameTo  n) n i1 i2 M | _, _ => none) else
    if pc = 54 then (match li, lj with | [i2, i3], [] => b12_cameTo_54  (r12_cameTo  n) n i2 i3 M | _, _ => none) else
    if pc = 62 then (match li, lj with | [i2, i3, i4], [] => b12_cameTo_62  (r12_cameTo  n) n i2 i3 i4 M | _, _ => none) else
    none
theorem e12_cameTo_2  (n : Nat) (i1 : Int32) (i2 : Int32) (M : Mem) : r12_cameTo  (n + 1) 2 [i1, i2] [] M = b12_cameTo_2  (r12_cameTo  n) n i1 i2 M := by
  rw [r12_cameTo]
  simp
theorem e12_cameTo_54  (n : Nat) (i2 : Int32) (i3 : Int32) (M : Mem) : r12_cameTo  (n + 1) 54 [i2, i3] [] M = b12_cameTo_54  (r12_cameTo  n) n i2 i3 M := by
  rw [r12_cameTo]
  simp
theorem e12_cameTo_62  (n : Nat) (i2 : Int32) (i3 : Int32) (i4 : Int32) (M : Mem) : r12_cameTo  (n + 1) 62 [i2, i3, i4] [] M = b12_cameTo_62  (r12_cameTo  n) n i2 i3 i4 M := by
  rw [r12_cameTo]
  simp
def f12_cameTo (n : Nat) (a1 : Int32) (M : Mem) : Option (Int32 × Mem) := b12_cameTo_0 (r12_cameTo n) n a1 M
abbrev rm12_cameTo : Room := { frames := 3, cells := 0, slots := 0, locals := 66 }
theorem y12_cameTo_w : yV RX12 yX12_cameTo cX12_cameTo 6 (some .int) 1 := ⟨g_1666, gp 92 rfl rfl, g_14, g_1667, rfl, by decide, by decide, by decide +kernel⟩
set_option maxHeartbeats 4000000 in
set_option maxRecDepth 100000 in
theorem w12_cameTo_129 {p : Program} {l : Launch} {e : Env} {s : State} {m : MethodId} {args : Array Value} {below : List Frame} {meth : Method} {c : Code} {z : Zt} {b : Nat}  (C : Cx p s m args c cX12_cameTo 6 RX12 z 32 b) (hr : meth.sig.returnType = (some .int)) (hk : meth.locks = false) {r : Int32} {M' : Mem} {rc : Nat → List Int32 → List Int64 → Mem → Option (Int32 × Mem)} {n : Nat} (q2 : ∀ (i1 : Int32) (i2 : Int32) (M : Mem) (H : Heap) (locs : List Loc) (ls : Array Slot), rc 2 [i1, i2] [] M = some (r, M') → va_P z.1 vwCl (pw (yd z b) 32 b M) H → va_S (pA 32 b) s.heap H locs → lv_has ls 6 [(0, .ref (b + 0)), (1, .int i1), (2, .int i2)] → W p l e rm12_cameTo s m args below meth c H locs 0 0 (MQ below (va_Qi (fun (r' : Int32) (M2 : Mem) => r' = r ∧ M2 = M') (fun M2 t => va_P z.1 vwCl (pw (yd z b) 32 b M2) t.heap) (pA 32 b)) args s 0 0 (pA 32 b)) (F0 m 2 ls [])) (q54 : ∀ (i2 : Int32) (i3 : Int32) (M : Mem) (H : Heap) (locs : List Loc) (ls : Array Slot), rc 54 [i2, i3] [] M = some (r, M') → va_P z.1 vwCl (pw (yd z b) 32 b M) H → va_S (pA 32 b) s.heap H locs → lv_has ls 6 [(0, .ref (b + 0)), (2, .int i2), (3, .int i3)] → W p l e rm12_cameTo s m args below meth c H locs 0 0 (MQ below (va_Qi (fun (r' : Int32) (M2 : Mem) => r' = r ∧ M2 = M') (fun M2 t => va_P z.1 vwCl (pw (yd z b) 32 b M2) t.heap) (pA 32 b)) args s 0 0 (pA 32 b)) (F0 m 54 ls [])) (q62 : ∀ (i2 : Int32) (i3 : Int32) (i4 : Int32) (M : Mem) (H : Heap) (locs : List Loc) (ls : Array Slot), rc 62 [i2, i3, i4] [] M = some (r, M') → va_P z.1 vwCl (pw (yd z b) 32 b M) H → va_S (pA 32 b) s.heap H locs → lv_has ls 6 [(0, .ref (b + 0)), (2, .int i2), (3, .int i3), (4, .int i4)] → W p l e rm12_cameTo s m args below meth c H locs 0 0 (MQ below (va_Qi (fun (r' : Int32) (M2 : Mem) => r' = r ∧ M2 = M') (fun M2 t => va_P z.1 vwCl (pw (yd z b) 32 b M2) t.heap) (pA 32 b)) args s 0 0 (pA 32 b)) (F0 m 62 ls [])) {i2 : Int32} {i3 : Int32} {i4 : Int32} {M : Mem} {H : Heap} {locs : List Loc} {ls : Array Slot} (hf : b12_cameTo_129  rc n i2 i3 i4 M = some (r, M')) (hP : va_P z.1 vwCl (pw (yd z b) 32 b M) H) (hS : va_S (pA 32 b) s.heap H locs) (hl : lv_has ls 6 [(0, .ref (b + 0)), (2, .int i2), (3, .int i3), (4, .int i4)]) : W p l e rm12_cameTo s m args below meth c H locs 0 0 (MQ below (va_Qi (fun (r' : Int32) (M2 : Mem) => r' = r ∧ M2 = M') (fun M2 t => va_P z.1 vwCl (pw (yd z b) 32 b M2) t.heap) (pA 32 b)) args s 0 0 (pA 32 b)) (F0 m 129 ls []) := by
  have hx := C.1.1
  have hb := C.1.2.1
  unfold b12_cameTo_129 at hf
  obtain ⟨v29, ev29⟩ : ∃ v : Int32, v = i4 + (1 : Int32) := ⟨_, rfl⟩
  replace hf := lt_c ev29 hf
  refine lv_iinc (v := v29) (lv' := [(4, .int v29), (0, .ref (b + 0)), (2, .int i2), (3, .int i3)]) hx hb dX12_cameTo_129 hl (k := 3) rfl (by rw [ev29]; rfl) (by decide) rfl (fun ls hl => ?_)
  refine lv_goto (tgt := 62) hx hb dX12_cameTo_132 (by decide) ?_
  exact q62 i2 i3 v29 M _ _ _ hf hP hS (lv_sub hl [1, 2, 3, 0] rfl)
set_option maxHeartbeats 4000000 in
set_option maxRecDepth 100000 in
theorem w12_cameTo_62 {p : Program} {l : Launch} {e : Env} {s : State} {m : MethodId} {args : Array Value} {below : List Frame} {meth : Method} {c : Code} {z : Zt} {b : Nat}  (C : Cx p s m args c cX12_cameTo 6 RX12 z 32 b) (hr : meth.sig.returnType = (some .int)) (hk : meth.locks = false) {r : Int32} {M' : Mem} {rc : Nat → List Int32 → List Int64 → Mem → Option (Int32 × Mem)} {n : Nat} (q2 : ∀ (i1 : Int32) (i2 : Int32) (M : Mem) (H : Heap) (locs : List Loc) (ls : Array Slot), rc 2 [i1, i2] [] M = some (r, M') → va_P z.1 vwCl (pw (yd z b) 32 b M) H → va_S (pA 32 b) s.heap H locs → lv_has ls 6 [(0, .ref (b + 0)), (1, .int i1), (2, .int i2)] → W p l e rm12_cameTo s m args below meth c H locs 0 0 (MQ below (va_Qi (fun (r' : Int32) (M2 : Mem) => r' = r ∧ M2 = M') (fun M2 t => va_P z.1 vwCl (pw (yd z b) 32 b M2) t.heap) (pA 32 b)) args s 0 0 (pA 32 b)) (F0 m 2 ls [])) (q54 : ∀ (i2 : Int32) (i3 : Int32) (M : Mem) (H : Heap) (locs : List Loc) (ls : Array Slot), rc 54 [i2, i3] [] M = some (r, M') → va_P z.1 vwCl (pw (yd z b) 32 b M) H → va_S (pA 32 b) s.heap H locs → lv_has ls 6 [(0, .ref (b + 0)), (2, .int i2), (3, .int i3)] → W p l e rm12_cameTo s m args below meth c H locs 0 0 (MQ below (va_Qi (fun (r' : Int32) (M2 : Mem) => r' = r ∧ M2 = M') (fun M2 t => va_P z.1 vwCl (pw (yd z b) 32 b M2) t.heap) (pA 32 b)) args s 0 0 (pA 32 b)) (F0 m 54 ls [])) (q62 : ∀ (i2 : Int32) (i3 : Int32) (i4 : Int32) (M : Mem) (H : Heap) (locs : List Loc) (ls : Array Slot), rc 62 [i2, i3, i4] [] M = some (r, M') → va_P z.1 vwCl (pw (yd z b) 32 b M) H → va_S (pA 32 b) s.heap H locs → lv_has ls 6 [(0, .ref (b + 0)), (2, .int i2), (3, .int i3), (4, .int i4)] → W p l e rm12_cameTo s m args below meth c H locs 0 0 (MQ below (va_Qi (fun (r' : Int32) (M2 : Mem) => r' = r ∧ M2 = M') (fun M2 t => va_P z.1 vwCl (pw (yd z b) 32 b M2) t.heap) (pA 32 b)) args s 0 0 (pA 32 b)) (F0 m 62 ls [])) {i2 : Int32} {i3 : Int32} {i4 : Int32} {M : Mem} {H : Heap} {locs : List Loc} {ls : Array Slot} (hf : b12_cameTo_62  rc n i2 i3 i4 M = some (r, M')) (hP : va_P z.1 vwCl (pw (yd z b) 32 b M) H) (hS : va_S (pA 32 b) s.heap H locs) (hl : lv_has ls 6 [(0, .ref (b + 0)), (2, .int i2), (3, .int i3), (4, .int i4)]) : W p l e rm12_cameTo s m args below meth c H locs 0 0 (MQ below (va_Qi (fun (r' : Int32) (M2 : Mem) => r' = r ∧ M2 = M') (fun M2 t => va_P z.1 vwCl (pw (yd z b) 32 b M2) t.heap) (pA 32 b)) args s 0 0 (pA 32 b)) (F0 m 62 ls []) := by
  have hx := C.1.1
  have hb := C.1.2.1
  unfold b12_cameTo_62 at hf
  refine lv_iload hx hb dX12_cameTo_62 (lv_at hl 3 rfl) ?_
  refine lv_iconst (v := (4 : Int32)) hx hb dX12_cameTo_64 (by decide) ?_
  refine lv_icmp_ge (tgt := 135) hx hb dX12_cameTo_65 (by decide) (fun c11 => ?_) (fun c11 => ?_)
  · replace hf := ite_t c11 hf
    obtain ⟨v12, ev12⟩ : ∃ v : Int32, v = i3 + (1 : Int32) := ⟨_, rfl⟩
    replace hf := lt_c ev12 hf
    refine lv_iinc (v := v12) (lv' := [(3, .int v12), (0, .ref (b + 0)), (2, .int i2), (4, .int i4)]) hx hb dX12_cameTo_135 hl (k := 2) rfl (by rw [ev12]; rfl) (by decide) rfl (fun ls hl => ?_)
    refine lv_goto (tgt := 54) hx hb dX12_cameTo_138 (by decide) ?_
    exact q54 i2 v12 M _ _ _ hf hP hS (lv_sub hl [1, 2, 0] rfl)
  · replace hf := ite_f c11 hf
    refine lv_aload_n hx hb dX12_cameTo_68 rfl (lv_at hl 0 rfl) ?_
    refine pg C hP (k := 0) (j := 8) (Nat.le_of_ble_eq_true rfl) (yd_0 _ _) rfl iw_12 (Nat.le_of_ble_eq_true rfl) g_1143 rfl rfl dX12_cameTo_69 ?_
    refine lv_iload_n hx hb dX12_cameTo_72 rfl (lv_at hl 2 rfl) ?_
    have h13 := chk_1 hf
    replace hf := chk_2 hf
    refine paI C hP (k := 7) (Nat.le_of_ble_eq_true rfl) (yd_7 _ _) h13 dX12_cameTo_73 ?_
    refine lv_iload hx hb dX12_cameTo_74 (lv_at hl 3 rfl) ?_
    obtain ⟨r14, M15, h16, hf⟩ := bnd_s hf
    refine pcSi (As := [.int (M.1 7 i3.toNatClampNeg), .int i4]) C hP hS (c12_beside  h16) y12_beside_w g_1487 rfl rfl rfl ⟨Nat.le_of_ble_eq_true rfl, Nat.le_of_ble_eq_true rfl⟩ hl.1 rfl (Nat.le_of_ble_eq_true rfl) dX12_cameTo_76 ⟨Nat.le_of_ble_eq_true rfl, Nat.le_of_ble_eq_true rfl⟩ (fun H locs hP hS => ?_)
    refine lv_istore (lv' := [(5, .int r14), (0, .ref (b + 0)), (2, .int i2), (3, .int i3), (4, .int i4)]) hx hb dX12_cameTo_79 hl (by decide) rfl (fun ls hl => ?_)
    refine lv_iload hx hb dX12_cameTo_81 (lv_at hl 0 rfl) ?_
    refine lv_iconst (v := (-1 : Int32)) hx hb dX12_cameTo_83 (by decide) ?_
    refine lv_icmp_eq (tgt := 129) hx hb dX12_cameTo_84 (by decide) (fun c17 => ?_) (fun c17 => ?_)
    · replace hf := ite_t c17 hf
      exact w12_cameTo_129 (n := n)  C hr hk q2 q54 q62 hf hP hS (lv_sub hl [1, 2, 3, 4] rfl)
    · replace hf := ite_f c17 hf
      refine lv_aload_n hx hb dX12_cameTo_87 rfl (lv_at hl 1 rfl) ?_
      refine lv_iload hx hb dX12_cameTo_88 (lv_at hl 0 rfl) ?_
      obtain ⟨r18, M19, h20, hf⟩ := bnd_s hf
      refine pcVi (As := [.int r14]) C hP hS (k := 0) (Nat.le_of_ble_eq_true rfl) (yd_0 _ _) rfl (c12_isOpen  h20) y12_isOpen_w g_1483 rfl rfl rfl ⟨Nat.le_of_ble_eq_true rfl, Nat.le_of_ble_eq_true rfl⟩ hl.1 rfl (Nat.le_of_ble_eq_true rfl) dX12_cameTo_90 ⟨Nat.le_of_ble_eq_true rfl, Nat.le_of_ble_eq_true rfl⟩ (fun H locs hP hS => ?_)
      refine lv_if_eq (tgt := 129) hx hb dX12_cameTo_93 (by decide) (fun c21 => ?_) (fun c21 => ?_)
      · replace hf := ite_t c21 hf
        exact w12_cameTo_129 (n := n)  C hr hk q2 q54 q62 hf hP hS (lv_sub hl [1, 2, 3, 4] rfl)
      · replace hf := ite_f c21 hf
        refine lv_aload_n hx hb dX12_cameTo_96 rfl (lv_at hl 1 rfl) ?_
        refine pg C hP (k := 0) (j := 52) (Nat.le_of_ble_eq_true rfl) (yd_0 _ _) rfl iw_12 (Nat.le_of_ble_eq_true rfl) g_1187 rfl rfl dX12_cameTo_97 ?_
        refine lv_iload hx hb dX12_cameTo_100 (lv_at hl 0 rfl) ?_
        have h22 := chk_1 hf
        replace hf := chk_2 hf
        refine paZ C hP (k := 31) (Nat.le_of_ble_eq_true rfl) (yd_31 _ _) h22 dX12_cameTo_102 ?_
        refine lv_if_eq (tgt := 109) hx hb dX12_cameTo_103 (by decide) (fun c23 => ?_) (fun c23 => ?_)
        · replace hf := ite_t c23 hf
          refine lv_aload_n hx hb dX12_cameTo_109 rfl (lv_at hl 1 rfl) ?_
          refine pg C hP (k := 0) (j := 52) (Nat.le_of_ble_eq_true rfl) (yd_0 _ _) rfl iw_12 (Nat.le_of_ble_eq_true rfl) g_1187 rfl rfl dX12_cameTo_110 ?_
          refine lv_iload hx hb dX12_cameTo_113 (lv_at hl 0 rfl) ?_
          refine lv_iconst (v := (1 : Int32)) hx hb dX12_cameTo_115 (by decide) ?_
          have h24 := chk_1 hf
          replace hf := chk_2 hf
          refine psZ C hP hS (k := 31) (Nat.le_of_ble_eq_true rfl) (yd_31) h24 dX12_cameTo_116 (fun M25 H locs eM25 hP hS => ?_)
          replace hf := lt_c eM25 hf
          refine lv_aload_n hx hb dX12_cameTo_117 rfl (lv_at hl 1 rfl) ?_
          refine pg C hP (k := 0) (j := 8) (Nat.le_of_ble_eq_true rfl) (yd_0 _ _) rfl iw_12 (Nat.le_of_ble_eq_true rfl) g_1143 rfl rfl dX12_cameTo_118 ?_
          refine lv_iload_n hx hb dX12_cameTo_121 rfl (lv_at hl 2 rfl) ?_
          refine lv_iload hx hb dX12_cameTo_122 (lv_at hl 0 rfl) ?_
          have h26 := chk_1 hf
          replace hf := chk_2 hf
          refine psI C hP hS (k := 7) (Nat.le_of_ble_eq_true rfl) (yd_7) h26 dX12_cameTo_124 (fun M27 H locs eM27 hP hS => ?_)
          replace hf := lt_c eM27 hf
          refine lv_iload_n hx hb dX12_cameTo_125 rfl (lv_at hl 2 rfl) ?_
          refine lv_iconst (v := (1 : Int32)) hx hb dX12_cameTo_126 (by decide) ?_
          refine lv_iadd hx hb dX12_cameTo_127 ?_
          refine lv_topi (fun v28 ev28 => ?_)
          replace hf := lt_c ev28 hf
          refine lv_istore_n (lv' := [(2, .int v28), (5, .int r14), (0, .ref (b + 0)), (3, .int i3), (4, .int i4)]) hx hb dX12_cameTo_128 rfl hl (by decide) rfl (fun ls hl => ?_)
          exact w12_cameTo_129 (n := n)  C hr hk q2 q54 q62 hf hP hS (lv_sub hl [2, 0, 3, 4] rfl)
        · replace hf := ite_f c23 hf
          refine lv_goto (tgt := 129) hx hb dX12_cameTo_106 (by decide) ?_
          exact w12_cameTo_129 (n := n)  C hr hk q2 q54 q62 hf hP hS (lv_sub hl [1, 2, 3, 4] rfl)
set_option maxHeartbeats 4000000 in
set_option maxRecDepth 100000 in
theorem w12_cameTo_54 {p : Program} {l : Launch} {e : Env} {s : State} {m : MethodId} {args : Array Value} {below : List Frame} {meth : Method} {c : Code} {z : Zt} {b : Nat}  (C : Cx p s m args c cX12_cameTo 6 RX12 z 32 b) (hr : meth.sig.returnType = (some .int)) (hk : meth.locks = false) {r : Int32} {M' : Mem} {rc : Nat → List Int32 → List Int64 → Mem → Option (Int32 × Mem)} {n : Nat} (q2 : ∀ (i1 : Int32) (i2 : Int32) (M : Mem) (H : Heap) (locs : List Loc) (ls : Array Slot), rc 2 [i1, i2] [] M = some (r, M') → va_P z.1 vwCl (pw (yd z b) 32 b M) H → va_S (pA 32 b) s.heap H locs → lv_has ls 6 [(0, .ref (b + 0)), (1, .int i1), (2, .int i2)] → W p l e rm12_cameTo s m args below meth c H locs 0 0 (MQ below (va_Qi (fun (r' : Int32) (M2 : Mem) => r' = r ∧ M2 = M') (fun M2 t => va_P z.1 vwCl (pw (yd z b) 32 b M2) t.heap) (pA 32 b)) args s 0 0 (pA 32 b)) (F0 m 2 ls [])) (q54 : ∀ (i2 : Int32) (i3 : Int32) (M : Mem) (H : Heap) (locs : List Loc) (ls : Array Slot), rc 54 [i2, i3] [] M = some (r, M') → va_P z.1 vwCl (pw (yd z b) 32 b M) H → va_S (pA 32 b) s.heap H locs → lv_has ls 6 [(0, .ref (b + 0)), (2, .int i2), (3, .int i3)] → W p l e rm12_cameTo s m args below meth c H locs 0 0 (MQ below (va_Qi (fun (r' : Int32) (M2 : Mem) => r' = r ∧ M2 = M') (fun M2 t => va_P z.1 vwCl (pw (yd z b) 32 b M2) t.heap) (pA 32 b)) args s 0 0 (pA 32 b)) (F0 m 54 ls [])) (q62 : ∀ (i2 : Int32) (i3 : Int32) (i4 : Int32) (M : Mem) (H : Heap) (locs : List Loc) (ls : Array Slot), rc 62 [i2, i3, i4] [] M = some (r, M') → va_P z.1 vwCl (pw (yd z b) 32 b M) H → va_S (pA 32 b) s.heap H locs → lv_has ls 6 [(0, .ref (b + 0)), (2, .int i2), (3, .int i3), (4, .int i4)] → W p l e rm12_cameTo s m args below meth c H locs 0 0 (MQ below (va_Qi (fun (r' : Int32) (M2 : Mem) => r' = r ∧ M2 = M') (fun M2 t => va_P z.1 vwCl (pw (yd z b) 32 b M2) t.heap) (pA 32 b)) args s 0 0 (pA 32 b)) (F0 m 62 ls [])) {i2 : Int32} {i3 : Int32} {M : Mem} {H : Heap} {locs : List Loc} {ls : Array Slot} (hf : b12_cameTo_54  rc n i2 i3 M = some (r, M')) (hP : va_P z.1 vwCl (pw (yd z b) 32 b M) H) (hS : va_S (pA 32 b) s.heap H locs) (hl : lv_has ls 6 [(0, .ref (b + 0)), (2, .int i2), (3, .int i3)]) : W p l e rm12_cameTo s m args below meth c H locs 0 0 (MQ below (va_Qi (fun (r' : Int32) (M2 : Mem) => r' = r ∧ M2 = M') (fun M2 t => va_P z.1 vwCl (pw (yd z b) 32 b M2) t.heap) (pA 32 b)) args s 0 0 (pA 32 b)) (F0 m 54 ls []) := by
  have hx := C.1.1
  have hb := C.1.2.1
  unfold b12_cameTo_54 at hf
  refine lv_iload_n hx hb dX12_cameTo_54 rfl (lv_at hl 2 rfl) ?_
  refine lv_iload_n hx hb dX12_cameTo_55 rfl (lv_at hl 1 rfl) ?_
  refine lv_icmp_ge (tgt := 141) hx hb dX12_cameTo_56 (by decide) (fun c10 => ?_) (fun c10 => ?_)
  · replace hf := ite_t c10 hf
    refine lv_iload_n hx hb dX12_cameTo_141 rfl (lv_at hl 1 rfl) ?_
    exact prI C hr hk hP hS hf dX12_cameTo_142
  · replace hf := ite_f c10 hf
    refine lv_iconst (v := (0 : Int32)) hx hb dX12_cameTo_59 (by decide) ?_
    refine lv_istore (lv' := [(4, .int (0 : Int32)), (0, .ref (b + 0)), (2, .int i2), (3, .int i3)]) hx hb dX12_cameTo_60 hl (by decide) rfl (fun ls hl => ?_)
    exact w12_cameTo_62 (n := n)  C hr hk q2 q54 q62 hf hP hS (lv_sub hl [1, 2, 3, 0] rfl)
set_option maxHeartbeats 4000000 in
set_option maxRecDepth 100000 in
theorem w12_cameTo_23 {p : Program} {l : Launch} {e : Env} {s : State} {m : MethodId} {args : Array Value} {below : List Frame} {meth : Method} {c : Code} {z : Zt} {b : Nat}  (C : Cx p s m args c cX12_cameTo 6 RX12 z 32 b) (hr : meth.sig.returnType = (some .int)) (hk : meth.locks = false) {r : Int32} {M' : Mem} {rc : Nat → List Int32 → List Int64 → Mem → Option (Int32 × Mem)} {n : Nat} (q2 : ∀ (i1 : Int32) (i2 : Int32) (M : Mem) (H : Heap) (locs : List Loc) (ls : Array Slot), rc 2 [i1, i2] [] M = some (r, M') → va_P z.1 vwCl (pw (yd z b) 32 b M) H → va_S (pA 32 b) s.heap H locs → lv_has ls 6 [(0, .ref (b + 0)), (1, .int i1), (2, .int i2)] → W p l e rm12_cameTo s m args below meth c H locs 0 0 (MQ below (va_Qi (fun (r' : Int32) (M2 : Mem) => r' = r ∧ M2 = M') (fun M2 t => va_P z.1 vwCl (pw (yd z b) 32 b M2) t.heap) (pA 32 b)) args s 0 0 (pA 32 b)) (F0 m 2 ls [])) (q54 : ∀ (i2 : Int32) (i3 : Int32) (M : Mem) (H : Heap) (locs : List Loc) (ls : Array Slot), rc 54 [i2, i3] [] M = some (r, M') → va_P z.1 vwCl (pw (yd z b) 32 b M) H → va_S (pA 32 b) s.heap H locs → lv_has ls 6 [(0, .ref (b + 0)), (2, .int i2), (3, .int i3)] → W p l e rm12_cameTo s m args below meth c H locs 0 0 (MQ below (va_Qi (fun (r' : Int32) (M2 : Mem) => r' = r ∧ M2 = M') (fun M2 t => va_P z.1 vwCl (pw (yd z b) 32 b M2) t.heap) (pA 32 b)) args s 0 0 (pA 32 b)) (F0 m 54 ls [])) (q62 : ∀ (i2 : Int32) (i3 : Int32) (i4 : Int32) (M : Mem) (H : Heap) (locs : List Loc) (ls : Array Slot), rc 62 [i2, i3, i4] [] M = some (r, M') → va_P z.1 vwCl (pw (yd z b) 32 b M) H → va_S (pA 32 b) s.heap H locs → lv_has ls 6 [(0, .ref (b + 0)), (2, .int i2), (3, .int i3), (4, .int i4)] → W p l e rm12_cameTo s m args below meth c H locs 0 0 (MQ below (va_Qi (fun (r' : Int32) (M2 : Mem) => r' = r ∧ M2 = M') (fun M2 t => va_P z.1 vwCl (pw (yd z b) 32 b M2) t.heap) (pA 32 b)) args s 0 0 (pA 32 b)) (F0 m 62 ls [])) {i1 : Int32} {i2 : Int32} {s1 : Int32} {s2 : Int32} {M : Mem} {H : Heap} {locs : List Loc} {ls : Array Slot} (hf : b12_cameTo_23  rc n i1 i2 s1 s2 M = some (r, M')) (hP : va_P z.1 vwCl (pw (yd z b) 32 b M) H) (hS : va_S (pA 32 b) s.heap H locs) (hl : lv_has ls 6 [(0, .ref (b + 0)), (1, .int i1), (2, .int i2)]) : W p l e rm12_cameTo s m args below meth c H locs 0 0 (MQ below (va_Qi (fun (r' : Int32) (M2 : Mem) => r' = r ∧ M2 = M') (fun M2 t => va_P z.1 vwCl (pw (yd z b) 32 b M2) t.heap) (pA 32 b)) args s 0 0 (pA 32 b)) (F0 m 23 ls [.int s2, .int s1, .ref (b + 31)]) := by
  have hx := C.1.1
  have hb := C.1.2.1
  unfold b12_cameTo_23 at hf
  have h7 := chk_1 hf
  replace hf := chk_2 hf
  refine psZ C hP hS (k := 31) (Nat.le_of_ble_eq_true rfl) (yd_31) h7 dX12_cameTo_23 (fun M8 H locs eM8 hP hS => ?_)
  replace hf := lt_c eM8 hf
  obtain ⟨v9, ev9⟩ : ∃ v : Int32, v = i2 + (1 : Int32) := ⟨_, rfl⟩
  replace hf := lt_c ev9 hf
  refine lv_iinc (v := v9) (lv' := [(2, .int v9), (0, .ref (b + 0)), (1, .int i1)]) hx hb dX12_cameTo_24 hl (k := 2) rfl (by rw [ev9]; rfl) (by decide) rfl (fun ls hl => ?_)
  refine lv_goto (tgt := 2) hx hb dX12_cameTo_27 (by decide) ?_
  exact q2 i1 v9 M8 _ _ _ hf hP hS (lv_sub hl [1, 2, 0] rfl)
set_option maxHeartbeats 4000000 in
set_option maxRecDepth 100000 in
theorem w12_cameTo_2 {p : Program} {l : Launch} {e : Env} {s : State} {m : MethodId} {args : Array Value} {below : List Frame} {meth : Method} {c : Code} {z : Zt} {b : Nat}  (C : Cx p s m args c cX12_cameTo 6 RX12 z 32 b) (hr : meth.sig.returnType = (some .int)) (hk : meth.locks = false) {r : Int32} {M' : Mem} {rc : Nat → List Int32 → List Int64 → Mem → Option (Int32 × Mem)} {n : Nat} (q2 : ∀ (i1 : Int32) (i2 : Int32) (M : Mem) (H : Heap) (locs : List Loc) (ls : Array Slot), rc 2 [i1, i2] [] M = some (r, M') → va_P z.1 vwCl (pw (yd z b) 32 b M) H → va_S (pA 32 b) s.heap H locs → lv_has ls 6 [(0, .ref (b + 0)), (1, .int i1), (2, .int i2)] → W p l e rm12_cameTo s m args below meth c H locs 0 0 (MQ below (va_Qi (fun (r' : Int32) (M2 : Mem) => r' = r ∧ M2 = M') (fun M2 t => va_P z.1 vwCl (pw (yd z b) 32 b M2) t.heap) (pA 32 b)) args s 0 0 (pA 32 b)) (F0 m 2 ls [])) (q54 : ∀ (i2 : Int32) (i3 : Int32) (M : Mem) (H : Heap) (locs : List Loc) (ls : Array Slot), rc 54 [i2, i3] [] M = some (r, M') → va_P z.1 vwCl (pw (yd z b) 32 b M) H → va_S (pA 32 b) s.heap H locs → lv_has ls 6 [(0, .ref (b + 0)), (2, .int i2), (3, .int i3)] → W p l e rm12_cameTo s m args below meth c H locs 0 0 (MQ below (va_Qi (fun (r' : Int32) (M2 : Mem) => r' = r ∧ M2 = M') (fun M2 t => va_P z.1 vwCl (pw (yd z b) 32 b M2) t.heap) (pA 32 b)) args s 0 0 (pA 32 b)) (F0 m 54 ls [])) (q62 : ∀ (i2 : Int32) (i3 : Int32) (i4 : Int32) (M : Mem) (H : Heap) (locs : List Loc) (ls : Array Slot), rc 62 [i2, i3, i4] [] M = some (r, M') → va_P z.1 vwCl (pw (yd z b) 32 b M) H → va_S (pA 32 b) s.heap H locs → lv_has ls 6 [(0, .ref (b + 0)), (2, .int i2), (3, .int i3), (4, .int i4)] → W p l e rm12_cameTo s m args below meth c H locs 0 0 (MQ below (va_Qi (fun (r' : Int32) (M2 : Mem) => r' = r ∧ M2 = M') (fun M2 t => va_P z.1 vwCl (pw (yd z b) 32 b M2) t.heap) (pA 32 b)) args s 0 0 (pA 32 b)) (F0 m 62 ls [])) {i1 : Int32} {i2 : Int32} {M : Mem} {H : Heap} {locs : List Loc} {ls : Array Slot} (hf : b12_cameTo_2  rc n i1 i2 M = some (r, M')) (hP : va_P z.1 vwCl (pw (yd z b) 32 b M) H) (hS : va_S (pA 32 b) s.heap H locs) (hl : lv_has ls 6 [(0, .ref (b + 0)), (1, .int i1), (2, .int i2)]) : W p l e rm12_cameTo s m args below meth c H locs 0 0 (MQ below (va_Qi (fun (r' : Int32) (M2 : Mem) => r' = r ∧ M2 = M') (fun M2 t => va_P z.1 vwCl (pw (yd z b) 32 b M2) t.heap) (pA 32 b)) args s 0 0 (pA 32 b)) (F0 m 2 ls []) := by
  have hx := C.1.1
  have hb := C.1.2.1
  unfold b12_cameTo_2 at hf
  refine lv_iload_n hx hb dX12_cameTo_2 rfl (lv_at hl 2 rfl) ?_
  refine lv_bipush (v := (96 : Int32)) hx hb dX12_cameTo_3 (by decide) ?_
  refine lv_icmp_ge (tgt := 30) hx hb dX12_cameTo_5 (by decide) (fun c1 => ?_) (fun c1 => ?_)
  · replace hf := ite_t c1 hf
    refine lv_aload_n hx hb dX12_cameTo_30 rfl (lv_at hl 0 rfl) ?_
    refine pg C hP (k := 0) (j := 8) (Nat.le_of_ble_eq_true rfl) (yd_0 _ _) rfl iw_12 (Nat.le_of_ble_eq_true rfl) g_1143 rfl rfl dX12_cameTo_31 ?_
    refine lv_iconst (v := (0 : Int32)) hx hb dX12_cameTo_34 (by decide) ?_
    refine lv_aload_n hx hb dX12_cameTo_35 rfl (lv_at hl 0 rfl) ?_
    refine pg C hP (k := 0) (j := 5) (Nat.le_of_ble_eq_true rfl) (yd_0 _ _) rfl iw_12 (Nat.le_of_ble_eq_true rfl) g_1140 rfl rfl dX12_cameTo_36 ?_
    have h2 := chk_1 hf
    replace hf := chk_2 hf
    refine psI C hP hS (k := 7) (Nat.le_of_ble_eq_true rfl) (yd_7) h2 dX12_cameTo_39 (fun M3 H locs eM3 hP hS => ?_)
    replace hf := lt_c eM3 hf
    refine lv_aload_n hx hb dX12_cameTo_40 rfl (lv_at hl 0 rfl) ?_
    refine pg C hP (k := 0) (j := 52) (Nat.le_of_ble_eq_true rfl) (yd_0 _ _) rfl iw_12 (Nat.le_of_ble_eq_true rfl) g_1187 rfl rfl dX12_cameTo_41 ?_
    refine lv_aload_n hx hb dX12_cameTo_44 rfl (lv_at hl 0 rfl) ?_
    refine pg C hP (k := 0) (j := 5) (Nat.le_of_ble_eq_true rfl) (yd_0 _ _) rfl iw_12 (Nat.le_of_ble_eq_true rfl) g_1140 rfl rfl dX12_cameTo_45 ?_
    refine lv_iconst (v := (1 : Int32)) hx hb dX12_cameTo_48 (by decide) ?_
    have h4 := chk_1 hf
    replace hf := chk_2 hf
    refine psZ C hP hS (k := 31) (Nat.le_of_ble_eq_true rfl) (yd_31) h4 dX12_cameTo_49 (fun M5 H locs eM5 hP hS => ?_)
    replace hf := lt_c eM5 hf
    refine lv_iconst (v := (1 : Int32)) hx hb dX12_cameTo_50 (by decide) ?_
    refine lv_istore_n (lv' := [(2, .int (1 : Int32)), (0, .ref (b + 0)), (1, .int i1)]) hx hb dX12_cameTo_51 rfl hl (by decide) rfl (fun ls hl => ?_)
    refine lv_iconst (v := (0 : Int32)) hx hb dX12_cameTo_52 (by decide) ?_
    refine lv_istore_n (lv' := [(3, .int (0 : Int32)), (2, .int (1 : Int32)), (0, .ref (b + 0)), (1, .int i1)]) hx hb dX12_cameTo_53 rfl hl (by decide) rfl (fun ls hl => ?_)
    exact w12_cameTo_54 (n := n)  C hr hk q2 q54 q62 hf hP hS (lv_sub hl [2, 1, 0] rfl)
  · replace hf := ite_f c1 hf
    refine lv_aload_n hx hb dX12_cameTo_8 rfl (lv_at hl 0 rfl) ?_
    refine pg C hP (k := 0) (j := 52) (Nat.le_of_ble_eq_true rfl) (yd_0 _ _) rfl iw_12 (Nat.le_of_ble_eq_true rfl) g_1187 rfl rfl dX12_cameTo_9 ?_
    refine lv_iload_n hx hb dX12_cameTo_12 rfl (lv_at hl 2 rfl) ?_
    refine lv_iload_n hx hb dX12_cameTo_13 rfl (lv_at hl 2 rfl) ?_
    refine lv_iload_n hx hb dX12_cameTo_14 rfl (lv_at hl 1 rfl) ?_
    refine lv_icmp_ne (tgt := 22) hx hb dX12_cameTo_15 (by decide) (fun c6 => ?_) (fun c6 => ?_)
    · replace hf := ite_f c6 hf
      refine lv_iconst (v := (0 : Int32)) hx hb dX12_cameTo_22 (by decide) ?_
      exact w12_cameTo_23 (n := n)  C hr hk q2 q54 q62 hf hP hS (lv_sub hl [0, 1, 2] rfl)
    · replace hf := ite_t c6 hf
      refine lv_iconst (v := (1 : Int32)) hx hb dX12_cameTo_18 (by decide) ?_
      refine lv_goto (tgt := 23) hx hb dX12_cameTo_19 (by decide) ?_
      exact w12_cameTo_23 (n := n)  C hr hk q2 q54 q62 hf hP hS (lv_sub hl [0, 1, 2] rfl)
set_option maxHeartbeats 4000000 in
set_option maxRecDepth 100000 in
theorem w12_cameTo_0 {p : Program} {l : Launch} {e : Env} {s : State} {m : MethodId} {args : Array Value} {below : List Frame} {meth : Method} {c : Code} {z : Zt} {b : Nat}  (C : Cx p s m args c cX12_cameTo 6 RX12 z 32 b) (hr : meth.sig.returnType = (some .int)) (hk : meth.locks = false) {r : Int32} {M' : Mem} {rc : Nat → List Int32 → List Int64 → Mem → Option (Int32 × Mem)} {n : Nat} (q2 : ∀ (i1 : Int32) (i2 : Int32) (M : Mem) (H : Heap) (locs : List Loc) (ls : Array Slot), rc 2 [i1, i2] [] M = some (r, M') → va_P z.1 vwCl (pw (yd z b) 32 b M) H → va_S (pA 32 b) s.heap H locs → lv_has ls 6 [(0, .ref (b + 0)), (1, .int i1), (2, .int i2)] → W p l e rm12_cameTo s m args below meth c H locs 0 0 (MQ below (va_Qi (fun (r' : Int32) (M2 : Mem) => r' = r ∧ M2 = M') (fun M2 t => va_P z.1 vwCl (pw (yd z b) 32 b M2) t.heap) (pA 32 b)) args s 0 0 (pA 32 b)) (F0 m 2 ls [])) (q54 : ∀ (i2 : Int32) (i3 : Int32) (M : Mem) (H : Heap) (locs : List Loc) (ls : Array Slot), rc 54 [i2, i3] [] M = some (r, M') → va_P z.1 vwCl (pw (yd z b) 32 b M) H → va_S (pA 32 b) s.heap H locs → lv_has ls 6 [(0, .ref (b + 0)), (2, .int i2), (3, .int i3)] → W p l e rm12_cameTo s m args below meth c H locs 0 0 (MQ below (va_Qi (fun (r' : Int32) (M2 : Mem) => r' = r ∧ M2 = M') (fun M2 t => va_P z.1 vwCl (pw (yd z b) 32 b M2) t.heap) (pA 32 b)) args s 0 0 (pA 32 b)) (F0 m 54 ls [])) (q62 : ∀ (i2 : Int32) (i3 : Int32) (i4 : Int32) (M : Mem) (H : Heap) (locs : List Loc) (ls : Array Slot), rc 62 [i2, i3, i4] [] M = some (r, M') → va_P z.1 vwCl (pw (yd z b) 32 b M) H → va_S (pA 32 b) s.heap H locs → lv_has ls 6 [(0, .ref (b + 0)), (2, .int i2), (3, .int i3), (4, .int i4)] → W p l e rm12_cameTo s m args below meth c H locs 0 0 (MQ below (va_Qi (fun (r' : Int32) (M2 : Mem) => r' = r ∧ M2 = M') (fun M2 t => va_P z.1 vwCl (pw (yd z b) 32 b M2) t.heap) (pA 32 b)) args s 0 0 (pA 32 b)) (F0 m 62 ls [])) {a1 : Int32} {M : Mem} {H : Heap} {locs : List Loc} {ls : Array Slot} (hf : b12_cameTo_0  rc n a1 M = some (r, M')) (hP : va_P z.1 vwCl (pw (yd z b) 32 b M) H) (hS : va_S (pA 32 b) s.heap H locs) (hl : lv_has ls 6 [(0, .ref (b + 0)), (1, .int a1)]) : W p l e rm12_cameTo s m args below meth c H locs 0 0 (MQ below (va_Qi (fun (r' : Int32) (M2 : Mem) => r' = r ∧ M2 = M') (fun M2 t => va_P z.1 vwCl (pw (yd z b) 32 b M2) t.heap) (pA 32 b)) args s 0 0 (pA 32 b)) (F0 m 0 ls []) := by
  have hx := C.1.1
  have hb := C.1.2.1
  unfold b12_cameTo_0 at hf
  refine lv_iconst (v := (0 : Int32)) hx hb dX12_cameTo_0 (by decide) ?_
  refine lv_istore_n (lv' := [(2, .int (0 : Int32)), (0, .ref (b + 0)), (1, .int a1)]) hx hb dX12_cameTo_1 rfl hl (by decide) rfl (fun ls hl => ?_)
  exact w12_cameTo_2 (n := n)  C hr hk q2 q54 q62 hf hP hS (lv_sub hl [1, 2, 0] rfl)
set_option maxHeartbeats 4000000 in
set_option maxRecDepth 100000 in
theorem l12_cameTo {p : Program} {l : Launch} {e : Env} {s : State} {m : MethodId} {args : Array Value} {below : List Frame} {meth : Method} {c : Code} {z : Zt} {b : Nat}  (C : Cx p s m args c cX12_cameTo 6 RX12 z 32 b) (hr : meth.sig.returnType = (some .int)) (hk : meth.locks = false) {r : Int32} {M' : Mem} (n : Nat) : (∀ (i1 : Int32) (i2 : Int32) (M : Mem) (H : Heap) (locs : List Loc) (ls : Array Slot), (r12_cameTo  n) 2 [i1, i2] [] M = some (r, M') → va_P z.1 vwCl (pw (yd z b) 32 b M) H → va_S (pA 32 b) s.heap H locs → lv_has ls 6 [(0, .ref (b + 0)), (1, .int i1), (2, .int i2)] → W p l e rm12_cameTo s m args below meth c H locs 0 0 (MQ below (va_Qi (fun (r' : Int32) (M2 : Mem) => r' = r ∧ M2 = M') (fun M2 t => va_P z.1 vwCl (pw (yd z b) 32 b M2) t.heap) (pA 32 b)) args s 0 0 (pA 32 b)) (F0 m 2 ls [])) ∧ (∀ (i2 : Int32) (i3 : Int32) (M : Mem) (H : Heap) (locs : List Loc) (ls : Array Slot), (r12_cameTo  n) 54 [i2, i3] [] M = some (r, M') → va_P z.1 vwCl (pw (yd z b) 32 b M) H → va_S (pA 32 b) s.heap H locs → lv_has ls 6 [(0, .ref (b + 0)), (2, .int i2), (3, .int i3)] → W p l e rm12_cameTo s m args below meth c H locs 0 0 (MQ below (va_Qi (fun (r' : Int32) (M2 : Mem) => r' = r ∧ M2 = M') (fun M2 t => va_P z.1 vwCl (pw (yd z b) 32 b M2) t.heap) (pA 32 b)) args s 0 0 (pA 32 b)) (F0 m 54 ls [])) ∧ (∀ (i2 : Int32) (i3 : Int32) (i4 : Int32) (M : Mem) (H : Heap) (locs : List Loc) (ls : Array Slot), (r12_cameTo  n) 62 [i2, i3, i4] [] M = some (r, M') → va_P z.1 vwCl (pw (yd z b) 32 b M) H → va_S (pA 32 b) s.heap H locs → lv_has ls 6 [(0, .ref (b + 0)), (2, .int i2), (3, .int i3), (4, .int i4)] → W p l e rm12_cameTo s m args below meth c H locs 0 0 (MQ below (va_Qi (fun (r' : Int32) (M2 : Mem) => r' = r ∧ M2 = M') (fun M2 t => va_P z.1 vwCl (pw (yd z b) 32 b M2) t.heap) (pA 32 b)) args s 0 0 (pA 32 b)) (F0 m 62 ls [])) := by
  induction n with
  | zero => exact ⟨fun _ _ _ _ _ _ hf => (by cases hf), fun _ _ _ _ _ _ hf => (by cases hf), fun _ _ _ _ _ _ _ hf => (by cases hf)⟩
  | succ n ih => exact ⟨fun _ _ _ _ _ _ hf hP hS hl => w12_cameTo_2 (n := n)  C hr hk ih.1 ih.2.1 ih.2.2 ((e12_cameTo_2  n _ _ _).symm.trans hf) hP hS hl, fun _ _ _ _ _ _ hf hP hS hl => w12_cameTo_54 (n := n)  C hr hk ih.1 ih.2.1 ih.2.2 ((e12_cameTo_54  n _ _ _).symm.trans hf) hP hS hl, fun _ _ _ _ _ _ _ hf hP hS hl => w12_cameTo_62 (n := n)  C hr hk ih.1 ih.2.1 ih.2.2 ((e12_cameTo_62  n _ _ _ _).symm.trans hf) hP hS hl⟩
theorem c12_cameTo {l : Launch} {z : Zt} {b n : Nat}  {a1 : Int32} {M M' : Mem} {r : Int32} (hf : f12_cameTo n  a1 M = some (r, M')) : CI l z (yd z b) 32 b yX12_cameTo cX12_cameTo 6 (some .int) rm12_cameTo [.ref (b + 0), .int a1] M M' r :=
  CI.ofW (lv := [(0, .ref (b + 0)), (1, .int a1)]) (by decide) (Nat.le_of_ble_eq_true rfl) rfl (fun p e s m args below meth c ls C hr hk hP hS hl => w12_cameTo_0 (n := n)  C hr hk (l12_cameTo  C hr hk n).1 (l12_cameTo  C hr hk n).2.1 (l12_cameTo  C hr hk n).2.2 hf hP hS hl)

-- BronzeKingModel.isCut(II)Z
theorem dX12_isCut_0 : decode cX12_isCut 0 = .ok (.iload_n 1, 1) := by decide +kernel
theorem dX12_isCut_1 : decode cX12_isCut 1 = .ok (.aload_n 0, 1) := by decide +kernel
theorem dX12_isCut_2 : decode cX12_isCut 2 = .ok (.getfield 110, 3) := by decide +kernel
theorem dX12_isCut_5 : decode cX12_isCut 5 = .ok (.if_icmp .eq 32, 3) := by decide +kernel
theorem dX12_isCut_8 : decode cX12_isCut 8 = .ok (.aload_n 0, 1) := by decide +kernel
theorem dX12_isCut_9 : decode cX12_isCut 9 = .ok (.iload_n 1, 1) := by decide +kernel
theorem dX12_isCut_10 : decode cX12_isCut 10 = .ok (.aload_n 0, 1) := by decide +kernel
theorem dX12_isCut_11 : decode cX12_isCut 11 = .ok (.getfield 110, 3) := by decide +kernel
theorem dX12_isCut_14 : decode cX12_isCut 14 = .ok (.invokevirtual 134, 3) := by decide +kernel
theorem dX12_isCut_17 : decode cX12_isCut 17 = .ok (.bipush 99, 2) := by decide +kernel
theorem dX12_isCut_19 : decode cX12_isCut 19 = .ok (.if_icmp .eq 18, 3) := by decide +kernel
theorem dX12_isCut_22 : decode cX12_isCut 22 = .ok (.aload_n 0, 1) := by decide +kernel
theorem dX12_isCut_23 : decode cX12_isCut 23 = .ok (.iload_n 1, 1) := by decide +kernel
theorem dX12_isCut_24 : decode cX12_isCut 24 = .ok (.invokevirtual 408, 3) := by decide +kernel
theorem dX12_isCut_27 : decode cX12_isCut 27 = .ok (.iload_n 2, 1) := by decide +kernel
theorem dX12_isCut_28 : decode cX12_isCut 28 = .ok (.iconst 1, 1) := by decide +kernel
theorem dX12_isCut_29 : decode cX12_isCut 29 = .ok (.isub, 1) := by decide +kernel
theorem dX12_isCut_30 : decode cX12_isCut 30 = .ok (.if_icmp .ge 7, 3) := by decide +kernel
theorem dX12_isCut_33 : decode cX12_isCut 33 = .ok (.iconst 1, 1) := by decide +kernel
theorem dX12_isCut_34 : decode cX12_isCut 34 = .ok (.goto 4, 3) := by decide +kernel
theorem dX12_isCut_37 : decode cX12_isCut 37 = .ok (.iconst 0, 1) := by decide +kernel
theorem dX12_isCut_38 : decode cX12_isCut 38 = .ok (.ireturn, 1) := by decide +kernel
def b12_isCut_37 (rc : Nat → List Int32 → List Int64 → Mem → Option (Int32 × Mem)) (n : Nat) (M : Mem) : Option (Int32 × Mem) :=
  some ((0 : Int32), M)
def b12_isCut_0 (rc : Nat → List Int32 → List Int64 → Mem → Option (Int32 × Mem)) (n : Nat) (a1 : Int32) (a2 : Int32) (M : Mem) : Option (Int32 × Mem) :=
  (if a1 = (M.1 0 5) then (
   b12_isCut_37  rc n  M)
  else (
   bnd (f12_steps n a1 (M.1 0 5) M) fun r2 M3 =>
   (if r2 = (99 : Int32) then (
    b12_isCut_37  rc n  M3)
   else (
    bnd (f12_cameTo n a1 M3) fun r6 M7 =>
    (if (a2 - (1 : Int32)) ≤ r6 then (
     b12_isCut_37  rc n  M7)
    else (
     some ((1 : Int32), M7)))))))
def f12_isCut (n : Nat) (a1 : Int32) (a2 : Int32) (M : Mem) : Option (Int32 × Mem) := b12_isCut_0 (fun _ _ _ _ => none) n a1 a2 M
abbrev rm12_isCut : Room := { frames := 5, cells := 0, slots := 0, locals := 114 }
theorem y12_isCut_w : yV RX12 yX12_isCut cX12_isCut 3 (some .boolean) 2 := ⟨g_1682, gp 96 rfl rfl, g_14, g_1683, rfl, by decide, by decide, by decide +kernel⟩
set_option maxHeartbeats 4000000 in
set_option maxRecDepth 100000 in
theorem w12_isCut_37 {p : Program} {l : Launch} {e : Env} {s : State} {m : MethodId} {args : Array Value} {below : List Frame} {meth : Method} {c : Code} {z : Zt} {b : Nat}  (C : Cx p s m args c cX12_isCut 3 RX12 z 32 b) (hr : meth.sig.returnType = (some .boolean)) (hk : meth.locks = false) {r : Int32} {M' : Mem} {rc : Nat → List Int32 → List Int64 → Mem → Option (Int32 × Mem)} {n : Nat}   {M : Mem} {H : Heap} {locs : List Loc} {ls : Array Slot} (hf : b12_isCut_37  rc n  M = some (r, M')) (hP : va_P z.1 vwCl (pw (yd z b) 32 b M) H) (hS : va_S (pA 32 b) s.heap H locs) (hl : lv_has ls 3 []) : W p l e rm12_isCut s m args below meth c H locs 0 0 (MQ below (va_Qi (fun (r' : Int32) (M2 : Mem) => r' = r ∧ M2 = M') (fun M2 t => va_P z.1 vwCl (pw (yd z b) 32 b M2) t.heap) (pA 32 b)) args s 0 0 (pA 32 b)) (F0 m 37 ls []) := by
  have hx := C.1.1
  have hb := C.1.2.1
  unfold b12_isCut_37 at hf
  refine lv_iconst (v := (0 : Int32)) hx hb dX12_isCut_37 (by decide) ?_
  exact prZ C hr hk hP hS hf rfl dX12_isCut_38
set_option maxHeartbeats 4000000 in
set_option maxRecDepth 100000 in
theorem w12_isCut_0 {p : Program} {l : Launch} {e : Env} {s : State} {m : MethodId} {args : Array Value} {below : List Frame} {meth : Method} {c : Code} {z : Zt} {b : Nat}  (C : Cx p s m args c cX12_isCut 3 RX12 z 32 b) (hr : meth.sig.returnType = (some .boolean)) (hk : meth.locks = false) {r : Int32} {M' : Mem} {rc : Nat → List Int32 → List Int64 → Mem → Option (Int32 × Mem)} {n : Nat}  {a1 : Int32} {a2 : Int32} {M : Mem} {H : Heap} {locs : List Loc} {ls : Array Slot} (hf : b12_isCut_0  rc n a1 a2 M = some (r, M')) (hP : va_P z.1 vwCl (pw (yd z b) 32 b M) H) (hS : va_S (pA 32 b) s.heap H locs) (hl : lv_has ls 3 [(0, .ref (b + 0)), (1, .int a1), (2, .int a2)]) : W p l e rm12_isCut s m args below meth c H locs 0 0 (MQ below (va_Qi (fun (r' : Int32) (M2 : Mem) => r' = r ∧ M2 = M') (fun M2 t => va_P z.1 vwCl (pw (yd z b) 32 b M2) t.heap) (pA 32 b)) args s 0 0 (pA 32 b)) (F0 m 0 ls []) := by
  have hx := C.1.1
  have hb := C.1.2.1
  unfold b12_isCut_0 at hf
  refine lv_iload_n hx hb dX12_isCut_0 rfl (lv_at hl 1 rfl) ?_
  refine lv_aload_n hx hb dX12_isCut_1 rfl (lv_at hl 0 rfl) ?_
  refine pg C hP (k := 0) (j := 5) (Nat.le_of_ble_eq_true rfl) (yd_0 _ _) rfl iw_12 (Nat.le_of_ble_eq_true rfl) g_1140 rfl rfl dX12_isCut_2 ?_
  refine lv_icmp_eq (tgt := 37) hx hb dX12_isCut_5 (by decide) (fun c1 => ?_) (fun c1 => ?_)
  · replace hf := ite_t c1 hf
    exact w12_isCut_37 (n := n)  C hr hk  hf hP hS (lv_sub hl [] rfl)
  · replace hf := ite_f c1 hf
    refine lv_aload_n hx hb dX12_isCut_8 rfl (lv_at hl 0 rfl) ?_
    refine lv_iload_n hx hb dX12_isCut_9 rfl (lv_at hl 1 rfl) ?_
    refine lv_aload_n hx hb dX12_isCut_10 rfl (lv_at hl 0 rfl) ?_
    refine pg C hP (k := 0) (j := 5) (Nat.le_of_ble_eq_true rfl) (yd_0 _ _) rfl iw_12 (Nat.le_of_ble_eq_true rfl) g_1140 rfl rfl dX12_isCut_11 ?_
    obtain ⟨r2, M3, h4, hf⟩ := bnd_s hf
    refine pcVi (As := [.int a1, .int (M.1 0 5)]) C hP hS (k := 0) (Nat.le_of_ble_eq_true rfl) (yd_0 _ _) rfl (c12_steps  h4) y12_steps_w g_1475 rfl rfl rfl ⟨Nat.le_of_ble_eq_true rfl, Nat.le_of_ble_eq_true rfl⟩ hl.1 rfl (Nat.le_of_ble_eq_true rfl) dX12_isCut_14 ⟨Nat.le_of_ble_eq_true rfl, Nat.le_of_ble_eq_true rfl⟩ (fun H locs hP hS => ?_)
    refine lv_bipush (v := (99 : Int32)) hx hb dX12_isCut_17 (by decide) ?_
    refine lv_icmp_eq (tgt := 37) hx hb dX12_isCut_19 (by decide) (fun c5 => ?_) (fun c5 => ?_)
    · replace hf := ite_t c5 hf
      exact w12_isCut_37 (n := n)  C hr hk  hf hP hS (lv_sub hl [] rfl)
    · replace hf := ite_f c5 hf
      refine lv_aload_n hx hb dX12_isCut_22 rfl (lv_at hl 0 rfl) ?_
      refine lv_iload_n hx hb dX12_isCut_23 rfl (lv_at hl 1 rfl) ?_
      obtain ⟨r6, M7, h8, hf⟩ := bnd_s hf
      refine pcVi (As := [.int a1]) C hP hS (k := 0) (Nat.le_of_ble_eq_true rfl) (yd_0 _ _) rfl (c12_cameTo  h8) y12_cameTo_w g_1664 rfl rfl rfl ⟨Nat.le_of_ble_eq_true rfl, Nat.le_of_ble_eq_true rfl⟩ hl.1 rfl (Nat.le_of_ble_eq_true rfl) dX12_isCut_24 ⟨Nat.le_of_ble_eq_true rfl, Nat.le_of_ble_eq_true rfl⟩ (fun H locs hP hS => ?_)
      refine lv_iload_n hx hb dX12_isCut_27 rfl (lv_at hl 2 rfl) ?_
      refine lv_iconst (v := (1 : Int32)) hx hb dX12_isCut_28 (by decide) ?_
      refine lv_isub hx hb dX12_isCut_29 ?_
      refine lv_icmp_ge (tgt := 37) hx hb dX12_isCut_30 (by decide) (fun c9 => ?_) (fun c9 => ?_)
      · replace hf := ite_t c9 hf
        exact w12_isCut_37 (n := n)  C hr hk  hf hP hS (lv_sub hl [] rfl)
      · replace hf := ite_f c9 hf
        refine lv_iconst (v := (1 : Int32)) hx hb dX12_isCut_33 (by decide) ?_
        refine lv_goto (tgt := 38) hx hb dX12_isCut_34 (by decide) ?_
        exact prZ C hr hk hP hS hf rfl dX12_isCut_38
theorem c12_isCut {l : Launch} {z : Zt} {b n : Nat}  {a1 : Int32} {a2 : Int32} {M M' : Mem} {r : Int32} (hf : f12_isCut n  a1 a2 M = some (r, M')) : CI l z (yd z b) 32 b yX12_isCut cX12_isCut 3 (some .boolean) rm12_isCut [.ref (b + 0), .int a1, .int a2] M M' r :=
  CI.ofW (lv := [(0, .ref (b + 0)), (1, .int a1), (2, .int a2)]) (by decide) (Nat.le_of_ble_eq_true rfl) rfl (fun p e s m args below meth c ls C hr hk hP hS hl => w12_isCut_0 (n := n)  C hr hk  hf hP hS hl)

-- BronzeKingModel.streets(I)I
theorem dX12_streets_0 : decode cX12_streets 0 = .ok (.aload_n 0, 1) := by decide +kernel
theorem dX12_streets_1 : decode cX12_streets 1 = .ok (.iconst (-1), 1) := by decide +kernel
theorem dX12_streets_2 : decode cX12_streets 2 = .ok (.invokevirtual 408, 3) := by decide +kernel
theorem dX12_streets_5 : decode cX12_streets 5 = .ok (.istore_n 2, 1) := by decide +kernel
theorem dX12_streets_6 : decode cX12_streets 6 = .ok (.iconst 0, 1) := by decide +kernel
theorem dX12_streets_7 : decode cX12_streets 7 = .ok (.istore_n 3, 1) := by decide +kernel
theorem dX12_streets_8 : decode cX12_streets 8 = .ok (.bipush (-2), 2) := by decide +kernel
theorem dX12_streets_10 : decode cX12_streets 10 = .ok (.istore 4, 2) := by decide +kernel
theorem dX12_streets_12 : decode cX12_streets 12 = .ok (.iload_n 1, 1) := by decide +kernel
theorem dX12_streets_13 : decode cX12_streets 13 = .ok (.tableswitch 130 0 6 #[43, 48, 55, 70, 77, 82, 82], 43) := by decide +kernel
theorem dX12_streets_56 : decode cX12_streets 56 = .ok (.aload_n 0, 1) := by decide +kernel
theorem dX12_streets_57 : decode cX12_streets 57 = .ok (.invokevirtual 411, 3) := by decide +kernel
theorem dX12_streets_60 : decode cX12_streets 60 = .ok (.ireturn, 1) := by decide +kernel
theorem dX12_streets_61 : decode cX12_streets 61 = .ok (.aload_n 0, 1) := by decide +kernel
theorem dX12_streets_62 : decode cX12_streets 62 = .ok (.iconst 0, 1) := by decide +kernel
theorem dX12_streets_63 : decode cX12_streets 63 = .ok (.iconst 1, 1) := by decide +kernel
theorem dX12_streets_64 : decode cX12_streets 64 = .ok (.invokevirtual 414, 3) := by decide +kernel
theorem dX12_streets_67 : decode cX12_streets 67 = .ok (.ireturn, 1) := by decide +kernel
theorem dX12_streets_68 : decode cX12_streets 68 = .ok (.aload_n 0, 1) := by decide +kernel
theorem dX12_streets_69 : decode cX12_streets 69 = .ok (.invokevirtual 417, 3) := by decide +kernel
theorem dX12_streets_72 : decode cX12_streets 72 = .ok (.aload_n 0, 1) := by decide +kernel
theorem dX12_streets_73 : decode cX12_streets 73 = .ok (.invokevirtual 395, 3) := by decide +kernel
theorem dX12_streets_76 : decode cX12_streets 76 = .ok (.isub, 1) := by decide +kernel
theorem dX12_streets_77 : decode cX12_streets 77 = .ok (.aload_n 0, 1) := by decide +kernel
theorem dX12_streets_78 : decode cX12_streets 78 = .ok (.invokevirtual 411, 3) := by decide +kernel
theorem dX12_streets_81 : decode cX12_streets 81 = .ok (.iadd, 1) := by decide +kernel
theorem dX12_streets_82 : decode cX12_streets 82 = .ok (.ireturn, 1) := by decide +kernel
theorem dX12_streets_83 : decode cX12_streets 83 = .ok (.aload_n 0, 1) := by decide +kernel
theorem dX12_streets_84 : decode cX12_streets 84 = .ok (.iconst 4, 1) := by decide +kernel
theorem dX12_streets_85 : decode cX12_streets 85 = .ok (.iconst 4, 1) := by decide +kernel
theorem dX12_streets_86 : decode cX12_streets 86 = .ok (.invokevirtual 414, 3) := by decide +kernel
theorem dX12_streets_89 : decode cX12_streets 89 = .ok (.ireturn, 1) := by decide +kernel
theorem dX12_streets_90 : decode cX12_streets 90 = .ok (.aload_n 0, 1) := by decide +kernel
theorem dX12_streets_91 : decode cX12_streets 91 = .ok (.invokevirtual 395, 3) := by decide +kernel
theorem dX12_streets_94 : decode cX12_streets 94 = .ok (.ireturn, 1) := by decide +kernel
theorem dX12_streets_95 : decode cX12_streets 95 = .ok (.bipush 95, 2) := by decide +kernel
theorem dX12_streets_97 : decode cX12_streets 97 = .ok (.istore 5, 2) := by decide +kernel
theorem dX12_streets_99 : decode cX12_streets 99 = .ok (.iload 5, 2) := by decide +kernel
theorem dX12_streets_101 : decode cX12_streets 101 = .ok (.ifCond .lt 30, 3) := by decide +kernel
theorem dX12_streets_104 : decode cX12_streets 104 = .ok (.aload_n 0, 1) := by decide +kernel
theorem dX12_streets_105 : decode cX12_streets 105 = .ok (.iload 5, 2) := by decide +kernel
theorem dX12_streets_107 : decode cX12_streets 107 = .ok (.iload_n 2, 1) := by decide +kernel
theorem dX12_streets_108 : decode cX12_streets 108 = .ok (.invokevirtual 420, 3) := by decide +kernel
theorem dX12_streets_111 : decode cX12_streets 111 = .ok (.ifCond .ne 6, 3) := by decide +kernel
theorem dX12_streets_114 : decode cX12_streets 114 = .ok (.goto 11, 3) := by decide +kernel
theorem dX12_streets_117 : decode cX12_streets 117 = .ok (.iload_n 3, 1) := by decide +kernel
theorem dX12_streets_118 : decode cX12_streets 118 = .ok (.iconst 1, 1) := by decide +kernel
theorem dX12_streets_119 : decode cX12_streets 119 = .ok (.iadd, 1) := by decide +kernel
theorem dX12_streets_120 : decode cX12_streets 120 = .ok (.istore_n 3, 1) := by decide +kernel
theorem dX12_streets_121 : decode cX12_streets 121 = .ok (.iload 5, 2) := by decide +kernel
theorem dX12_streets_123 : decode cX12_streets 123 = .ok (.istore 4, 2) := by decide +kernel
theorem dX12_streets_125 : decode cX12_streets 125 = .ok (.iinc 5 (-1), 3) := by decide +kernel
theorem dX12_streets_128 : decode cX12_streets 128 = .ok (.goto (-29), 3) := by decide +kernel
theorem dX12_streets_131 : decode cX12_streets 131 = .ok (.iload_n 1, 1) := by decide +kernel
theorem dX12_streets_132 : decode cX12_streets 132 = .ok (.iconst 5, 1) := by decide +kernel
theorem dX12_streets_133 : decode cX12_streets 133 = .ok (.if_icmp .ne 7, 3) := by decide +kernel
theorem dX12_streets_136 : decode cX12_streets 136 = .ok (.iload_n 3, 1) := by decide +kernel
theorem dX12_streets_137 : decode cX12_streets 137 = .ok (.goto 5, 3) := by decide +kernel
theorem dX12_streets_140 : decode cX12_streets 140 = .ok (.iload 4, 2) := by decide +kernel
theorem dX12_streets_142 : decode cX12_streets 142 = .ok (.ireturn, 1) := by decide +kernel
theorem dX12_streets_143 : decode cX12_streets 143 = .ok (.iconst (-1), 1) := by decide +kernel
theorem dX12_streets_144 : decode cX12_streets 144 = .ok (.ireturn, 1) := by decide +kernel
def b12_streets_125 (rc : Nat → List Int32 → List Int64 → Mem → Option (Int32 × Mem)) (n : Nat) (i1 : Int32) (i2 : Int32) (i3 : Int32) (i4 : Int32) (i5 : Int32) (M : Mem) : Option (Int32 × Mem) :=
  lt (i5 + (-1 : Int32)) fun v39 =>
  rc 99 [i1, i2, i3, i4, v39] [] M
def b12_streets_99 (rc : Nat → List Int32 → List Int64 → Mem → Option (Int32 × Mem)) (n : Nat) (i1 : Int32) (i2 : Int32) (i3 : Int32) (i4 : Int32) (i5 : Int32) (M : Mem) : Option (Int32 × Mem) :=
  (if i5 < 0 then (
   (if i1 = (5 : Int32) then (
    some (i3, M))
   else (
    some (i4, M))))
  else (
   bnd (f12_isCut n i5 i2 M) fun r34 M35 =>
   (if r34 = 0 then (
    b12_streets_125  rc n i1 i2 i3 i4 i5 M35)
   else (
    lt (i3 + (1 : Int32)) fun v38 =>
    b12_streets_125  rc n i1 i2 v38 i5 i5 M35))))
def b12_streets_0 (rc : Nat → List Int32 → List Int64 → Mem → Option (Int32 × Mem)) (n : Nat) (a1 : Int32) (M : Mem) : Option (Int32 × Mem) :=
  bnd (f12_cameTo n (-1 : Int32) M) fun r1 M2 =>
  (if a1 = (0 : Int32) then (
   bnd (f12_islands n M2) fun r5 M6 =>
   some (r5, M6))
  else (
   (if a1 = (1 : Int32) then (
    bnd (f12_withNeighbours n (0 : Int32) (1 : Int32) M2) fun r9 M10 =>
    some (r9, M10))
   else (
    (if a1 = (2 : Int32) then (
     bnd (f12_twos n M2) fun r13 M14 =>
     bnd (f12_openPlaces n M14) fun r16 M17 =>
     bnd (f12_islands n M17) fun r19 M20 =>
     some (((r13 - r16) + r19), M20))
    else (
     (if a1 = (3 : Int32) then (
      bnd (f12_withNeighbours n (4 : Int32) (4 : Int32) M2) fun r23 M24 =>
      some (r23, M24))
     else (
      (if a1 = (4 : Int32) then (
       bnd (f12_openPlaces n M2) fun r27 M28 =>
       some (r27, M28))
      else (
       (if a1 = (5 : Int32) then (
        b12_streets_99  rc n a1 r1 (0 : Int32) (-2 : Int32) (95 : Int32) M2)
       else (
        (if a1 = (6 : Int32) then (
         b12_streets_99  rc n a1 r1 (0 : Int32) (-2 : Int32) (95 : Int32) M2)
        else (
         some ((-1 : Int32), M2)))))))))))))))
def r12_streets : Nat → Nat → List Int32 → List Int64 → Mem → Option (Int32 × Mem)
  | 0 => fun _ _ _ _ => none
  | n + 1 => fun pc li lj M =>
    if pc = 99 then (match li, lj with | [i1, i2, i3, i4, i5], [] => b12_streets_99  (r12_streets  n) n i1 i2 i3 i4 i5 M | _, _ => none) else
    none
theorem e12_streets_99  (n : Nat) (i1 : Int32) (i2 : Int32) (i3 : Int32) (i4 : Int32) (i5 : Int32) (M : Mem) : r12_streets  (n + 1) 99 [i1, i2, i3, i4, i5] [] M = b12_streets_99  (r12_streets  n) n i1 i2 i3 i4 i5 M := by
  rw [r12_streets]
  simp
def f12_streets (n : Nat) (a1 : Int32) (M : Mem) : Option (Int32 × Mem) := b12_streets_0 (r12_streets n) n a1 M
abbrev rm12_streets : Room := { frames := 6, cells := 0, slots := 0, locals := 138 }
theorem y12_streets_w : yV RX12 yX12_streets cX12_streets 6 (some .int) 1 := ⟨g_1661, g_1662, g_14, g_1663, rfl, by decide, by decide, by decide +kernel⟩
set_option maxHeartbeats 4000000 in
set_option maxRecDepth 100000 in
theorem w12_streets_125 {p : Program} {l : Launch} {e : Env} {s : State} {m : MethodId} {args : Array Value} {below : List Frame} {meth : Method} {c : Code} {z : Zt} {b : Nat}  (C : Cx p s m args c cX12_streets 6 RX12 z 32 b) (hr : meth.sig.returnType = (some .int)) (hk : meth.locks = false) {r : Int32} {M' : Mem} {rc : Nat → List Int32 → List Int64 → Mem → Option (Int32 × Mem)} {n : Nat} (q99 : ∀ (i1 : Int32) (i2 : Int32) (i3 : Int32) (i4 : Int32) (i5 : Int32) (M : Mem) (H : Heap) (locs : List Loc) (ls : Array Slot), rc 99 [i1, i2, i3, i4, i5] [] M = some (r, M') → va_P z.1 vwCl (pw (yd z b) 32 b M) H → va_S (pA 32 b) s.heap H locs → lv_has ls 6 [(0, .ref (b + 0)), (1, .int i1), (2, .int i2), (3, .int i3), (4, .int i4), (5, .int i5)] → W p l e rm12_streets s m args below meth c H locs 0 0 (MQ below (va_Qi (fun (r' : Int32) (M2 : Mem) => r' = r ∧ M2 = M') (fun M2 t => va_P z.1 vwCl (pw (yd z b) 32 b M2) t.heap) (pA 32 b)) args s 0 0 (pA 32 b)) (F0 m 99 ls [])) {i1 : Int32} {i2 : Int32} {i3 : Int32} {i4 : Int32} {i5 : Int32} {M : Mem} {H : Heap} {locs : List Loc} {ls : Array Slot} (hf : b12_streets_125  rc n i1 i2 i3 i4 i5 M = some (r, M')) (hP : va_P z.1 vwCl (pw (yd z b) 32 b M) H) (hS : va_S (pA 32 b) s.heap H locs) (hl : lv_has ls 6 [(0, .ref (b + 0)), (1, .int i1), (2, .int i2), (3, .int i3), (4, .int i4), (5, .int i5)]) : W p l e rm12_streets s m args below meth c H locs 0 0 (MQ below (va_Qi (fun (r' : Int32) (M2 : Mem) => r' = r ∧ M2 = M') (fun M2 t => va_P z.1 vwCl (pw (yd z b) 32 b M2) t.heap) (pA 32 b)) args s 0 0 (pA 32 b)) (F0 m 125 ls []) := by
  have hx := C.1.1
  have hb := C.1.2.1
  unfold b12_streets_125 at hf
  obtain ⟨v39, ev39⟩ : ∃ v : Int32, v = i5 + (-1 : Int32) := ⟨_, rfl⟩
  replace hf := lt_c ev39 hf
  refine lv_iinc (v := v39) (lv' := [(5, .int v39), (0, .ref (b + 0)), (1, .int i1), (2, .int i2), (3, .int i3), (4, .int i4)]) hx hb dX12_streets_125 hl (k := 5) rfl (by rw [ev39]; rfl) (by decide) rfl (fun ls hl => ?_)
  refine lv_goto (tgt := 99) hx hb dX12_streets_128 (by decide) ?_
  exact q99 i1 i2 i3 i4 v39 M _ _ _ hf hP hS (lv_sub hl [1, 2, 3, 4, 5, 0] rfl)
set_option maxHeartbeats 4000000 in
set_option maxRecDepth 100000 in
theorem w12_streets_99 {p : Program} {l : Launch} {e : Env} {s : State} {m : MethodId} {args : Array Value} {below : List Frame} {meth : Method} {c : Code} {z : Zt} {b : Nat}  (C : Cx p s m args c cX12_streets 6 RX12 z 32 b) (hr : meth.sig.returnType = (some .int)) (hk : meth.locks = false) {r : Int32} {M' : Mem} {rc : Nat → List Int32 → List Int64 → Mem → Option (Int32 × Mem)} {n : Nat} (q99 : ∀ (i1 : Int32) (i2 : Int32) (i3 : Int32) (i4 : Int32) (i5 : Int32) (M : Mem) (H : Heap) (locs : List Loc) (ls : Array Slot), rc 99 [i1, i2, i3, i4, i5] [] M = some (r, M') → va_P z.1 vwCl (pw (yd z b) 32 b M) H → va_S (pA 32 b) s.heap H locs → lv_has ls 6 [(0, .ref (b + 0)), (1, .int i1), (2, .int i2), (3, .int i3), (4, .int i4), (5, .int i5)] → W p l e rm12_streets s m args below meth c H locs 0 0 (MQ below (va_Qi (fun (r' : Int32) (M2 : Mem) => r' = r ∧ M2 = M') (fun M2 t => va_P z.1 vwCl (pw (yd z b) 32 b M2) t.heap) (pA 32 b)) args s 0 0 (pA 32 b)) (F0 m 99 ls [])) {i1 : Int32} {i2 : Int32} {i3 : Int32} {i4 : Int32} {i5 : Int32} {M : Mem} {H : Heap} {locs : List Loc} {ls : Array Slot} (hf : b12_streets_99  rc n i1 i2 i3 i4 i5 M = some (r, M')) (hP : va_P z.1 vwCl (pw (yd z b) 32 b M) H) (hS : va_S (pA 32 b) s.heap H locs) (hl : lv_has ls 6 [(0, .ref (b + 0)), (1, .int i1), (2, .int i2), (3, .int i3), (4, .int i4), (5, .int i5)]) : W p l e rm12_streets s m args below meth c H locs 0 0 (MQ below (va_Qi (fun (r' : Int32) (M2 : Mem) => r' = r ∧ M2 = M') (fun M2 t => va_P z.1 vwCl (pw (yd z b) 32 b M2) t.heap) (pA 32 b)) args s 0 0 (pA 32 b)) (F0 m 99 ls []) := by
  have hx := C.1.1
  have hb := C.1.2.1
  unfold b12_streets_99 at hf
  refine lv_iload hx hb dX12_streets_99 (lv_at hl 5 rfl) ?_
  refine lv_if_lt (tgt := 131) hx hb dX12_streets_101 (by decide) (fun c32 => ?_) (fun c32 => ?_)
  · replace hf := ite_t c32 hf
    refine lv_iload_n hx hb dX12_streets_131 rfl (lv_at hl 1 rfl) ?_
    refine lv_iconst (v := (5 : Int32)) hx hb dX12_streets_132 (by decide) ?_
    refine lv_icmp_ne (tgt := 140) hx hb dX12_streets_133 (by decide) (fun c33 => ?_) (fun c33 => ?_)
    · replace hf := ite_f c33 hf
      refine lv_iload hx hb dX12_streets_140 (lv_at hl 4 rfl) ?_
      exact prI C hr hk hP hS hf dX12_streets_142
    · replace hf := ite_t c33 hf
      refine lv_iload_n hx hb dX12_streets_136 rfl (lv_at hl 3 rfl) ?_
      refine lv_goto (tgt := 142) hx hb dX12_streets_137 (by decide) ?_
      exact prI C hr hk hP hS hf dX12_streets_142
  · replace hf := ite_f c32 hf
    refine lv_aload_n hx hb dX12_streets_104 rfl (lv_at hl 0 rfl) ?_
    refine lv_iload hx hb dX12_streets_105 (lv_at hl 5 rfl) ?_
    refine lv_iload_n hx hb dX12_streets_107 rfl (lv_at hl 2 rfl) ?_
    obtain ⟨r34, M35, h36, hf⟩ := bnd_s hf
    refine pcVi (As := [.int i5, .int i2]) C hP hS (k := 0) (Nat.le_of_ble_eq_true rfl) (yd_0 _ _) rfl (c12_isCut  h36) y12_isCut_w g_1680 rfl rfl rfl ⟨Nat.le_of_ble_eq_true rfl, Nat.le_of_ble_eq_true rfl⟩ hl.1 rfl (Nat.le_of_ble_eq_true rfl) dX12_streets_108 ⟨Nat.le_of_ble_eq_true rfl, Nat.le_of_ble_eq_true rfl⟩ (fun H locs hP hS => ?_)
    refine lv_if_ne (tgt := 117) hx hb dX12_streets_111 (by decide) (fun c37 => ?_) (fun c37 => ?_)
    · replace hf := ite_f c37 hf
      refine lv_iload_n hx hb dX12_streets_117 rfl (lv_at hl 3 rfl) ?_
      refine lv_iconst (v := (1 : Int32)) hx hb dX12_streets_118 (by decide) ?_
      refine lv_iadd hx hb dX12_streets_119 ?_
      refine lv_topi (fun v38 ev38 => ?_)
      replace hf := lt_c ev38 hf
      refine lv_istore_n (lv' := [(3, .int v38), (0, .ref (b + 0)), (1, .int i1), (2, .int i2), (4, .int i4), (5, .int i5)]) hx hb dX12_streets_120 rfl hl (by decide) rfl (fun ls hl => ?_)
      refine lv_iload hx hb dX12_streets_121 (lv_at hl 5 rfl) ?_
      refine lv_istore (lv' := [(4, .int i5), (3, .int v38), (0, .ref (b + 0)), (1, .int i1), (2, .int i2), (5, .int i5)]) hx hb dX12_streets_123 hl (by decide) rfl (fun ls hl => ?_)
      exact w12_streets_125 (n := n)  C hr hk q99 hf hP hS (lv_sub hl [2, 3, 4, 1, 0, 5] rfl)
    · replace hf := ite_t c37 hf
      refine lv_goto (tgt := 125) hx hb dX12_streets_114 (by decide) ?_
      exact w12_streets_125 (n := n)  C hr hk q99 hf hP hS (lv_sub hl [0, 1, 2, 3, 4, 5] rfl)
set_option maxHeartbeats 4000000 in
set_option maxRecDepth 100000 in
theorem w12_streets_0 {p : Program} {l : Launch} {e : Env} {s : State} {m : MethodId} {args : Array Value} {below : List Frame} {meth : Method} {c : Code} {z : Zt} {b : Nat}  (C : Cx p s m args c cX12_streets 6 RX12 z 32 b) (hr : meth.sig.returnType = (some .int)) (hk : meth.locks = false) {r : Int32} {M' : Mem} {rc : Nat → List Int32 → List Int64 → Mem → Option (Int32 × Mem)} {n : Nat} (q99 : ∀ (i1 : Int32) (i2 : Int32) (i3 : Int32) (i4 : Int32) (i5 : Int32) (M : Mem) (H : Heap) (locs : List Loc) (ls : Array Slot), rc 99 [i1, i2, i3, i4, i5] [] M = some (r, M') → va_P z.1 vwCl (pw (yd z b) 32 b M) H → va_S (pA 32 b) s.heap H locs → lv_has ls 6 [(0, .ref (b + 0)), (1, .int i1), (2, .int i2), (3, .int i3), (4, .int i4), (5, .int i5)] → W p l e rm12_streets s m args below meth c H locs 0 0 (MQ below (va_Qi (fun (r' : Int32) (M2 : Mem) => r' = r ∧ M2 = M') (fun M2 t => va_P z.1 vwCl (pw (yd z b) 32 b M2) t.heap) (pA 32 b)) args s 0 0 (pA 32 b)) (F0 m 99 ls [])) {a1 : Int32} {M : Mem} {H : Heap} {locs : List Loc} {ls : Array Slot} (hf : b12_streets_0  rc n a1 M = some (r, M')) (hP : va_P z.1 vwCl (pw (yd z b) 32 b M) H) (hS : va_S (pA 32 b) s.heap H locs) (hl : lv_has ls 6 [(0, .ref (b + 0)), (1, .int a1)]) : W p l e rm12_streets s m args below meth c H locs 0 0 (MQ below (va_Qi (fun (r' : Int32) (M2 : Mem) => r' = r ∧ M2 = M') (fun M2 t => va_P z.1 vwCl (pw (yd z b) 32 b M2) t.heap) (pA 32 b)) args s 0 0 (pA 32 b)) (F0 m 0 ls []) := by
  have hx := C.1.1
  have hb := C.1.2.1
  unfold b12_streets_0 at hf
  refine lv_aload_n hx hb dX12_streets_0 rfl (lv_at hl 0 rfl) ?_
  refine lv_iconst (v := (-1 : Int32)) hx hb dX12_streets_1 (by decide) ?_
  obtain ⟨r1, M2, h3, hf⟩ := bnd_s hf
  refine pcVi (As := [.int (-1 : Int32)]) C hP hS (k := 0) (Nat.le_of_ble_eq_true rfl) (yd_0 _ _) rfl (c12_cameTo  h3) y12_cameTo_w g_1664 rfl rfl rfl ⟨Nat.le_of_ble_eq_true rfl, Nat.le_of_ble_eq_true rfl⟩ hl.1 rfl (Nat.le_of_ble_eq_true rfl) dX12_streets_2 ⟨Nat.le_of_ble_eq_true rfl, Nat.le_of_ble_eq_true rfl⟩ (fun H locs hP hS => ?_)
  refine lv_istore_n (lv' := [(2, .int r1), (0, .ref (b + 0)), (1, .int a1)]) hx hb dX12_streets_5 rfl hl (by decide) rfl (fun ls hl => ?_)
  refine lv_iconst (v := (0 : Int32)) hx hb dX12_streets_6 (by decide) ?_
  refine lv_istore_n (lv' := [(3, .int (0 : Int32)), (2, .int r1), (0, .ref (b + 0)), (1, .int a1)]) hx hb dX12_streets_7 rfl hl (by decide) rfl (fun ls hl => ?_)
  refine lv_bipush (v := (-2 : Int32)) hx hb dX12_streets_8 (by decide) ?_
  refine lv_istore (lv' := [(4, .int (-2 : Int32)), (3, .int (0 : Int32)), (2, .int r1), (0, .ref (b + 0)), (1, .int a1)]) hx hb dX12_streets_10 hl (by decide) rfl (fun ls hl => ?_)
  refine lv_iload_n hx hb dX12_streets_12 rfl (lv_at hl 4 rfl) ?_
  by_cases c4 : a1 = (0 : Int32)
  · replace hf := ite_t c4 hf
    refine lv_tableIn (off := 43) (tgt := 56) hx hb dX12_streets_13 (by rw [c4]; decide) (by rw [c4]; decide) (by rw [c4]; rfl) (by decide) ?_
    refine lv_aload_n hx hb dX12_streets_56 rfl (lv_at hl 3 rfl) ?_
    obtain ⟨r5, M6, h7, hf⟩ := bnd_s hf
    refine pcVi (As := []) C hP hS (k := 0) (Nat.le_of_ble_eq_true rfl) (yd_0 _ _) rfl (c12_islands  h7) y12_islands_w g_1668 rfl rfl rfl ⟨Nat.le_of_ble_eq_true rfl, Nat.le_of_ble_eq_true rfl⟩ hl.1 rfl (Nat.le_of_ble_eq_true rfl) dX12_streets_57 ⟨Nat.le_of_ble_eq_true rfl, Nat.le_of_ble_eq_true rfl⟩ (fun H locs hP hS => ?_)
    exact prI C hr hk hP hS hf dX12_streets_60
  · replace hf := ite_f c4 hf
    by_cases c8 : a1 = (1 : Int32)
    · replace hf := ite_t c8 hf
      refine lv_tableIn (off := 48) (tgt := 61) hx hb dX12_streets_13 (by rw [c8]; decide) (by rw [c8]; decide) (by rw [c8]; rfl) (by decide) ?_
      refine lv_aload_n hx hb dX12_streets_61 rfl (lv_at hl 3 rfl) ?_
      refine lv_iconst (v := (0 : Int32)) hx hb dX12_streets_62 (by decide) ?_
      refine lv_iconst (v := (1 : Int32)) hx hb dX12_streets_63 (by decide) ?_
      obtain ⟨r9, M10, h11, hf⟩ := bnd_s hf
      refine pcVi (As := [.int (0 : Int32), .int (1 : Int32)]) C hP hS (k := 0) (Nat.le_of_ble_eq_true rfl) (yd_0 _ _) rfl (c12_withNeighbours  h11) y12_withNeighbours_w g_1672 rfl rfl rfl ⟨Nat.le_of_ble_eq_true rfl, Nat.le_of_ble_eq_true rfl⟩ hl.1 rfl (Nat.le_of_ble_eq_true rfl) dX12_streets_64 ⟨Nat.le_of_ble_eq_true rfl, Nat.le_of_ble_eq_true rfl⟩ (fun H locs hP hS => ?_)
      exact prI C hr hk hP hS hf dX12_streets_67
    · replace hf := ite_f c8 hf
      by_cases c12 : a1 = (2 : Int32)
      · replace hf := ite_t c12 hf
        refine lv_tableIn (off := 55) (tgt := 68) hx hb dX12_streets_13 (by rw [c12]; decide) (by rw [c12]; decide) (by rw [c12]; rfl) (by decide) ?_
        refine lv_aload_n hx hb dX12_streets_68 rfl (lv_at hl 3 rfl) ?_
        obtain ⟨r13, M14, h15, hf⟩ := bnd_s hf
        refine pcVi (As := []) C hP hS (k := 0) (Nat.le_of_ble_eq_true rfl) (yd_0 _ _) rfl (c12_twos  h15) y12_twos_w g_1676 rfl rfl rfl ⟨Nat.le_of_ble_eq_true rfl, Nat.le_of_ble_eq_true rfl⟩ hl.1 rfl (Nat.le_of_ble_eq_true rfl) dX12_streets_69 ⟨Nat.le_of_ble_eq_true rfl, Nat.le_of_ble_eq_true rfl⟩ (fun H locs hP hS => ?_)
        refine lv_aload_n hx hb dX12_streets_72 rfl (lv_at hl 3 rfl) ?_
        obtain ⟨r16, M17, h18, hf⟩ := bnd_s hf
        refine pcVi (As := []) C hP hS (k := 0) (Nat.le_of_ble_eq_true rfl) (yd_0 _ _) rfl (c12_openPlaces  h18) y12_openPlaces_w g_1642 rfl rfl rfl ⟨Nat.le_of_ble_eq_true rfl, Nat.le_of_ble_eq_true rfl⟩ hl.1 rfl (Nat.le_of_ble_eq_true rfl) dX12_streets_73 ⟨Nat.le_of_ble_eq_true rfl, Nat.le_of_ble_eq_true rfl⟩ (fun H locs hP hS => ?_)
        refine lv_isub hx hb dX12_streets_76 ?_
        refine lv_aload_n hx hb dX12_streets_77 rfl (lv_at hl 3 rfl) ?_
        obtain ⟨r19, M20, h21, hf⟩ := bnd_s hf
        refine pcVi (As := []) C hP hS (k := 0) (Nat.le_of_ble_eq_true rfl) (yd_0 _ _) rfl (c12_islands  h21) y12_islands_w g_1668 rfl rfl rfl ⟨Nat.le_of_ble_eq_true rfl, Nat.le_of_ble_eq_true rfl⟩ hl.1 rfl (Nat.le_of_ble_eq_true rfl) dX12_streets_78 ⟨Nat.le_of_ble_eq_true rfl, Nat.le_of_ble_eq_true rfl⟩ (fun H locs hP hS => ?_)
        refine lv_iadd hx hb dX12_streets_81 ?_
        exact prI C hr hk hP hS hf dX12_streets_82
      · replace hf := ite_f c12 hf
        by_cases c22 : a1 = (3 : Int32)
        · replace hf := ite_t c22 hf
          refine lv_tableIn (off := 70) (tgt := 83) hx hb dX12_streets_13 (by rw [c22]; decide) (by rw [c22]; decide) (by rw [c22]; rfl) (by decide) ?_
          refine lv_aload_n hx hb dX12_streets_83 rfl (lv_at hl 3 rfl) ?_
          refine lv_iconst (v := (4 : Int32)) hx hb dX12_streets_84 (by decide) ?_
          refine lv_iconst (v := (4 : Int32)) hx hb dX12_streets_85 (by decide) ?_
          obtain ⟨r23, M24, h25, hf⟩ := bnd_s hf
          refine pcVi (As := [.int (4 : Int32), .int (4 : Int32)]) C hP hS (k := 0) (Nat.le_of_ble_eq_true rfl) (yd_0 _ _) rfl (c12_withNeighbours  h25) y12_withNeighbours_w g_1672 rfl rfl rfl ⟨Nat.le_of_ble_eq_true rfl, Nat.le_of_ble_eq_true rfl⟩ hl.1 rfl (Nat.le_of_ble_eq_true rfl) dX12_streets_86 ⟨Nat.le_of_ble_eq_true rfl, Nat.le_of_ble_eq_true rfl⟩ (fun H locs hP hS => ?_)
          exact prI C hr hk hP hS hf dX12_streets_89
        · replace hf := ite_f c22 hf
          by_cases c26 : a1 = (4 : Int32)
          · replace hf := ite_t c26 hf
            refine lv_tableIn (off := 77) (tgt := 90) hx hb dX12_streets_13 (by rw [c26]; decide) (by rw [c26]; decide) (by rw [c26]; rfl) (by decide) ?_
            refine lv_aload_n hx hb dX12_streets_90 rfl (lv_at hl 3 rfl) ?_
            obtain ⟨r27, M28, h29, hf⟩ := bnd_s hf
            refine pcVi (As := []) C hP hS (k := 0) (Nat.le_of_ble_eq_true rfl) (yd_0 _ _) rfl (c12_openPlaces  h29) y12_openPlaces_w g_1642 rfl rfl rfl ⟨Nat.le_of_ble_eq_true rfl, Nat.le_of_ble_eq_true rfl⟩ hl.1 rfl (Nat.le_of_ble_eq_true rfl) dX12_streets_91 ⟨Nat.le_of_ble_eq_true rfl, Nat.le_of_ble_eq_true rfl⟩ (fun H locs hP hS => ?_)
            exact prI C hr hk hP hS hf dX12_streets_94
          · replace hf := ite_f c26 hf
            by_cases c30 : a1 = (5 : Int32)
            · replace hf := ite_t c30 hf
              refine lv_tableIn (off := 82) (tgt := 95) hx hb dX12_streets_13 (by rw [c30]; decide) (by rw [c30]; decide) (by rw [c30]; rfl) (by decide) ?_
              refine lv_bipush (v := (95 : Int32)) hx hb dX12_streets_95 (by decide) ?_
              refine lv_istore (lv' := [(5, .int (95 : Int32)), (4, .int (-2 : Int32)), (3, .int (0 : Int32)), (2, .int r1), (0, .ref (b + 0)), (1, .int a1)]) hx hb dX12_streets_97 hl (by decide) rfl (fun ls hl => ?_)
              exact w12_streets_99 (n := n)  C hr hk q99 hf hP hS (lv_sub hl [4, 5, 3, 2, 1, 0] rfl)
            · replace hf := ite_f c30 hf
              by_cases c31 : a1 = (6 : Int32)
              · replace hf := ite_t c31 hf
                refine lv_tableIn (off := 82) (tgt := 95) hx hb dX12_streets_13 (by rw [c31]; decide) (by rw [c31]; decide) (by rw [c31]; rfl) (by decide) ?_
                refine lv_bipush (v := (95 : Int32)) hx hb dX12_streets_95 (by decide) ?_
                refine lv_istore (lv' := [(5, .int (95 : Int32)), (4, .int (-2 : Int32)), (3, .int (0 : Int32)), (2, .int r1), (0, .ref (b + 0)), (1, .int a1)]) hx hb dX12_streets_97 hl (by decide) rfl (fun ls hl => ?_)
                exact w12_streets_99 (n := n)  C hr hk q99 hf hP hS (lv_sub hl [4, 5, 3, 2, 1, 0] rfl)
              · replace hf := ite_f c31 hf
                refine lv_tableOut (tgt := 143) hx hb dX12_streets_13 (by have z0 : ¬ a1.toInt = 0 := tsn c4; have z1 : ¬ a1.toInt = 1 := tsn c8; have z2 : ¬ a1.toInt = 2 := tsn c12; have z3 : ¬ a1.toInt = 3 := tsn c22; have z4 : ¬ a1.toInt = 4 := tsn c26; have z5 : ¬ a1.toInt = 5 := tsn c30; have z6 : ¬ a1.toInt = 6 := tsn c31; omega) (by decide) ?_
                refine lv_iconst (v := (-1 : Int32)) hx hb dX12_streets_143 (by decide) ?_
                exact prI C hr hk hP hS hf dX12_streets_144
set_option maxHeartbeats 4000000 in
set_option maxRecDepth 100000 in
theorem l12_streets {p : Program} {l : Launch} {e : Env} {s : State} {m : MethodId} {args : Array Value} {below : List Frame} {meth : Method} {c : Code} {z : Zt} {b : Nat}  (C : Cx p s m args c cX12_streets 6 RX12 z 32 b) (hr : meth.sig.returnType = (some .int)) (hk : meth.locks = false) {r : Int32} {M' : Mem} (n : Nat) : (∀ (i1 : Int32) (i2 : Int32) (i3 : Int32) (i4 : Int32) (i5 : Int32) (M : Mem) (H : Heap) (locs : List Loc) (ls : Array Slot), (r12_streets  n) 99 [i1, i2, i3, i4, i5] [] M = some (r, M') → va_P z.1 vwCl (pw (yd z b) 32 b M) H → va_S (pA 32 b) s.heap H locs → lv_has ls 6 [(0, .ref (b + 0)), (1, .int i1), (2, .int i2), (3, .int i3), (4, .int i4), (5, .int i5)] → W p l e rm12_streets s m args below meth c H locs 0 0 (MQ below (va_Qi (fun (r' : Int32) (M2 : Mem) => r' = r ∧ M2 = M') (fun M2 t => va_P z.1 vwCl (pw (yd z b) 32 b M2) t.heap) (pA 32 b)) args s 0 0 (pA 32 b)) (F0 m 99 ls [])) := by
  induction n with
  | zero => exact fun _ _ _ _ _ _ _ _ _ hf => (by cases hf)
  | succ n ih => exact fun _ _ _ _ _ _ _ _ _ hf hP hS hl => w12_streets_99 (n := n)  C hr hk ih ((e12_streets_99  n _ _ _ _ _ _).symm.trans hf) hP hS hl
theorem c12_streets {l : Launch} {z : Zt} {b n : Nat}  {a1 : Int32} {M M' : Mem} {r : Int32} (hf : f12_streets n  a1 M = some (r, M')) : CI l z (yd z b) 32 b yX12_streets cX12_streets 6 (some .int) rm12_streets [.ref (b + 0), .int a1] M M' r :=
  CI.ofW (lv := [(0, .ref (b + 0)), (1, .int a1)]) (by decide) (Nat.le_of_ble_eq_true rfl) rfl (fun p e s m args below meth c ls C hr hk hP hS hl => w12_streets_0 (n := n)  C hr hk (l12_streets  C hr hk n) hf hP hS hl)
