-- BronzeKing$Hunt.movesToCatch(II)I
theorem dX1_movesToCatch_0 : decode cX1_movesToCatch 0 = .ok (.iconst 0, 1) := by decide +kernel
theorem dX1_movesToCatch_1 : decode cX1_movesToCatch 1 = .ok (.istore_n 3, 1) := by decide +kernel
theorem dX1_movesToCatch_2 : decode cX1_movesToCatch 2 = .ok (.iload_n 3, 1) := by decide +kernel
theorem dX1_movesToCatch_3 : decode cX1_movesToCatch 3 = .ok (.bipush 96, 2) := by decide +kernel
theorem dX1_movesToCatch_5 : decode cX1_movesToCatch 5 = .ok (.if_icmp .ge 28, 3) := by decide +kernel
theorem dX1_movesToCatch_8 : decode cX1_movesToCatch 8 = .ok (.aload_n 0, 1) := by decide +kernel
theorem dX1_movesToCatch_9 : decode cX1_movesToCatch 9 = .ok (.getfield 11, 3) := by decide +kernel
theorem dX1_movesToCatch_12 : decode cX1_movesToCatch 12 = .ok (.iload_n 3, 1) := by decide +kernel
theorem dX1_movesToCatch_13 : decode cX1_movesToCatch 13 = .ok (.aaload, 1) := by decide +kernel
theorem dX1_movesToCatch_14 : decode cX1_movesToCatch 14 = .ok (.invokevirtual 25, 3) := by decide +kernel
theorem dX1_movesToCatch_17 : decode cX1_movesToCatch 17 = .ok (.aload_n 0, 1) := by decide +kernel
theorem dX1_movesToCatch_18 : decode cX1_movesToCatch 18 = .ok (.getfield 11, 3) := by decide +kernel
theorem dX1_movesToCatch_21 : decode cX1_movesToCatch 21 = .ok (.iload_n 3, 1) := by decide +kernel
theorem dX1_movesToCatch_22 : decode cX1_movesToCatch 22 = .ok (.aaload, 1) := by decide +kernel
theorem dX1_movesToCatch_23 : decode cX1_movesToCatch 23 = .ok (.iload_n 3, 1) := by decide +kernel
theorem dX1_movesToCatch_24 : decode cX1_movesToCatch 24 = .ok (.invokevirtual 28, 3) := by decide +kernel
theorem dX1_movesToCatch_27 : decode cX1_movesToCatch 27 = .ok (.iinc 3 1, 3) := by decide +kernel
theorem dX1_movesToCatch_30 : decode cX1_movesToCatch 30 = .ok (.goto (-28), 3) := by decide +kernel
theorem dX1_movesToCatch_33 : decode cX1_movesToCatch 33 = .ok (.iconst 1, 1) := by decide +kernel
theorem dX1_movesToCatch_34 : decode cX1_movesToCatch 34 = .ok (.istore_n 3, 1) := by decide +kernel
theorem dX1_movesToCatch_35 : decode cX1_movesToCatch 35 = .ok (.iconst 0, 1) := by decide +kernel
theorem dX1_movesToCatch_36 : decode cX1_movesToCatch 36 = .ok (.istore 4, 2) := by decide +kernel
theorem dX1_movesToCatch_38 : decode cX1_movesToCatch 38 = .ok (.iload 4, 2) := by decide +kernel
theorem dX1_movesToCatch_40 : decode cX1_movesToCatch 40 = .ok (.bipush 60, 2) := by decide +kernel
theorem dX1_movesToCatch_42 : decode cX1_movesToCatch 42 = .ok (.if_icmp .gt 38, 3) := by decide +kernel
theorem dX1_movesToCatch_45 : decode cX1_movesToCatch 45 = .ok (.iload_n 3, 1) := by decide +kernel
theorem dX1_movesToCatch_46 : decode cX1_movesToCatch 46 = .ok (.ifCond .eq 34, 3) := by decide +kernel
theorem dX1_movesToCatch_49 : decode cX1_movesToCatch 49 = .ok (.aload_n 0, 1) := by decide +kernel
theorem dX1_movesToCatch_50 : decode cX1_movesToCatch 50 = .ok (.getfield 11, 3) := by decide +kernel
theorem dX1_movesToCatch_53 : decode cX1_movesToCatch 53 = .ok (.iload_n 1, 1) := by decide +kernel
theorem dX1_movesToCatch_54 : decode cX1_movesToCatch 54 = .ok (.aaload, 1) := by decide +kernel
theorem dX1_movesToCatch_55 : decode cX1_movesToCatch 55 = .ok (.iload_n 2, 1) := by decide +kernel
theorem dX1_movesToCatch_56 : decode cX1_movesToCatch 56 = .ok (.invokevirtual 32, 3) := by decide +kernel
theorem dX1_movesToCatch_59 : decode cX1_movesToCatch 59 = .ok (.ifCond .eq 6, 3) := by decide +kernel
theorem dX1_movesToCatch_62 : decode cX1_movesToCatch 62 = .ok (.iload 4, 2) := by decide +kernel
theorem dX1_movesToCatch_64 : decode cX1_movesToCatch 64 = .ok (.ireturn, 1) := by decide +kernel
theorem dX1_movesToCatch_65 : decode cX1_movesToCatch 65 = .ok (.aload_n 0, 1) := by decide +kernel
theorem dX1_movesToCatch_66 : decode cX1_movesToCatch 66 = .ok (.invokevirtual 36, 3) := by decide +kernel
theorem dX1_movesToCatch_69 : decode cX1_movesToCatch 69 = .ok (.aload_n 0, 1) := by decide +kernel
theorem dX1_movesToCatch_70 : decode cX1_movesToCatch 70 = .ok (.invokevirtual 39, 3) := by decide +kernel
theorem dX1_movesToCatch_73 : decode cX1_movesToCatch 73 = .ok (.istore_n 3, 1) := by decide +kernel
theorem dX1_movesToCatch_74 : decode cX1_movesToCatch 74 = .ok (.iinc 4 1, 3) := by decide +kernel
theorem dX1_movesToCatch_77 : decode cX1_movesToCatch 77 = .ok (.goto (-39), 3) := by decide +kernel
theorem dX1_movesToCatch_80 : decode cX1_movesToCatch 80 = .ok (.bipush (-2), 2) := by decide +kernel
theorem dX1_movesToCatch_82 : decode cX1_movesToCatch 82 = .ok (.ireturn, 1) := by decide +kernel
def b1_movesToCatch_80 (rc : Nat → List Int32 → List Int64 → Mem → Option (Int32 × Mem)) (n : Nat) (M : Mem) : Option (Int32 × Mem) :=
  some ((-2 : Int32), M)
def b1_movesToCatch_38 (rc : Nat → List Int32 → List Int64 → Mem → Option (Int32 × Mem)) (n : Nat) (i1 : Int32) (i2 : Int32) (i3 : Int32) (i4 : Int32) (M : Mem) : Option (Int32 × Mem) :=
  (if (60 : Int32) < i4 then (
   b1_movesToCatch_80  rc n  M)
  else (
   (if i3 = 0 then (
    b1_movesToCatch_80  rc n  M)
   else (
    chk (inb i1 96) <|
    bnd (f4_has n (134 + 2 * i1.toNatClampNeg) i2 M) fun r14 M15 =>
    (if r14 = 0 then (
     bnd (f1_trapThief n M15) fun r18 M19 =>
     bnd (f1_moveKing n M19) fun r21 M22 =>
     lt (i4 + (1 : Int32)) fun v24 =>
     rc 38 [i1, i2, r21, v24] [] M22)
    else (
     some (i4, M15)))))))
def b1_movesToCatch_2 (rc : Nat → List Int32 → List Int64 → Mem → Option (Int32 × Mem)) (n : Nat) (i1 : Int32) (i2 : Int32) (i3 : Int32) (M : Mem) : Option (Int32 × Mem) :=
  (if (96 : Int32) ≤ i3 then (
   b1_movesToCatch_38  rc n i1 i2 (1 : Int32) (0 : Int32) M)
  else (
   chk (inb i3 96) <|
   bnd (f4_clear n (134 + 2 * i3.toNatClampNeg) M) fun r3 M4 =>
   chk (inb i3 96) <|
   bnd (f4_add n (134 + 2 * i3.toNatClampNeg) i3 M4) fun r7 M8 =>
   lt (i3 + (1 : Int32)) fun v10 =>
   rc 2 [i1, i2, v10] [] M8))
def b1_movesToCatch_0 (rc : Nat → List Int32 → List Int64 → Mem → Option (Int32 × Mem)) (n : Nat) (a1 : Int32) (a2 : Int32) (M : Mem) : Option (Int32 × Mem) :=
  b1_movesToCatch_2  rc n a1 a2 (0 : Int32) M
def r1_movesToCatch : Nat → Nat → List Int32 → List Int64 → Mem → Option (Int32 × Mem)
  | 0 => fun _ _ _ _ => none
  | n + 1 => fun pc li lj M =>
    if pc = 2 then (match li, lj with | [i1, i2, i3], [] => b1_movesToCatch_2  (r1_movesToCatch  n) n i1 i2 i3 M | _, _ => none) else
    if pc = 38 then (match li, lj with | [i1, i2, i3, i4], [] => b1_movesToCatch_38  (r1_movesToCatch  n) n i1 i2 i3 i4 M | _, _ => none) else
    none
theorem e1_movesToCatch_2  (n : Nat) (i1 : Int32) (i2 : Int32) (i3 : Int32) (M : Mem) : r1_movesToCatch  (n + 1) 2 [i1, i2, i3] [] M = b1_movesToCatch_2  (r1_movesToCatch  n) n i1 i2 i3 M := by
  rw [r1_movesToCatch]
  simp
theorem e1_movesToCatch_38  (n : Nat) (i1 : Int32) (i2 : Int32) (i3 : Int32) (i4 : Int32) (M : Mem) : r1_movesToCatch  (n + 1) 38 [i1, i2, i3, i4] [] M = b1_movesToCatch_38  (r1_movesToCatch  n) n i1 i2 i3 i4 M := by
  rw [r1_movesToCatch]
  simp
def f1_movesToCatch (n : Nat) (a1 : Int32) (a2 : Int32) (M : Mem) : Option (Int32 × Mem) := b1_movesToCatch_0 (r1_movesToCatch n) n a1 a2 M
abbrev rm1_movesToCatch : Room := { frames := 3, cells := 0, slots := 0, locals := 67 }
theorem y1_movesToCatch_w : yV RX1 yX1_movesToCatch cX1_movesToCatch 5 (some .int) 2 := ⟨g_944, g_945, g_11, g_946, rfl, by decide, by decide, by decide +kernel⟩
set_option maxHeartbeats 4000000 in
set_option maxRecDepth 100000 in
theorem w1_movesToCatch_80 {p : Program} {l : Launch} {e : Env} {s : State} {m : MethodId} {args : Array Value} {below : List Frame} {meth : Method} {c : Code} {z : Zt} {b : Nat}  (C : Cx p s m args c cX1_movesToCatch 5 RX1 z 339 b) (hr : meth.sig.returnType = (some .int)) (hk : meth.locks = false) {r : Int32} {M' : Mem} {rc : Nat → List Int32 → List Int64 → Mem → Option (Int32 × Mem)} {n : Nat} (q2 : ∀ (i1 : Int32) (i2 : Int32) (i3 : Int32) (M : Mem) (H : Heap) (locs : List Loc) (ls : Array Slot), rc 2 [i1, i2, i3] [] M = some (r, M') → va_P z.1 vwCl (pw (xd z b) 339 b M) H → va_S (pA 339 b) s.heap H locs → lv_has ls 5 [(0, .ref (b + 131)), (1, .int i1), (2, .int i2), (3, .int i3)] → W p l e rm1_movesToCatch s m args below meth c H locs 0 0 (MQ below (va_Qi (fun (r' : Int32) (M2 : Mem) => r' = r ∧ M2 = M') (fun M2 t => va_P z.1 vwCl (pw (xd z b) 339 b M2) t.heap) (pA 339 b)) args s 0 0 (pA 339 b)) (F0 m 2 ls [])) (q38 : ∀ (i1 : Int32) (i2 : Int32) (i3 : Int32) (i4 : Int32) (M : Mem) (H : Heap) (locs : List Loc) (ls : Array Slot), rc 38 [i1, i2, i3, i4] [] M = some (r, M') → va_P z.1 vwCl (pw (xd z b) 339 b M) H → va_S (pA 339 b) s.heap H locs → lv_has ls 5 [(0, .ref (b + 131)), (1, .int i1), (2, .int i2), (3, .int i3), (4, .int i4)] → W p l e rm1_movesToCatch s m args below meth c H locs 0 0 (MQ below (va_Qi (fun (r' : Int32) (M2 : Mem) => r' = r ∧ M2 = M') (fun M2 t => va_P z.1 vwCl (pw (xd z b) 339 b M2) t.heap) (pA 339 b)) args s 0 0 (pA 339 b)) (F0 m 38 ls []))  {M : Mem} {H : Heap} {locs : List Loc} {ls : Array Slot} (hf : b1_movesToCatch_80  rc n  M = some (r, M')) (hP : va_P z.1 vwCl (pw (xd z b) 339 b M) H) (hS : va_S (pA 339 b) s.heap H locs) (hl : lv_has ls 5 []) : W p l e rm1_movesToCatch s m args below meth c H locs 0 0 (MQ below (va_Qi (fun (r' : Int32) (M2 : Mem) => r' = r ∧ M2 = M') (fun M2 t => va_P z.1 vwCl (pw (xd z b) 339 b M2) t.heap) (pA 339 b)) args s 0 0 (pA 339 b)) (F0 m 80 ls []) := by
  have hx := C.1.1
  have hb := C.1.2.1
  unfold b1_movesToCatch_80 at hf
  refine lv_bipush (v := (-2 : Int32)) hx hb dX1_movesToCatch_80 (by decide) ?_
  exact prI C hr hk hP hS hf dX1_movesToCatch_82
set_option maxHeartbeats 4000000 in
set_option maxRecDepth 100000 in
theorem w1_movesToCatch_38 {p : Program} {l : Launch} {e : Env} {s : State} {m : MethodId} {args : Array Value} {below : List Frame} {meth : Method} {c : Code} {z : Zt} {b : Nat}  (C : Cx p s m args c cX1_movesToCatch 5 RX1 z 339 b) (hr : meth.sig.returnType = (some .int)) (hk : meth.locks = false) {r : Int32} {M' : Mem} {rc : Nat → List Int32 → List Int64 → Mem → Option (Int32 × Mem)} {n : Nat} (q2 : ∀ (i1 : Int32) (i2 : Int32) (i3 : Int32) (M : Mem) (H : Heap) (locs : List Loc) (ls : Array Slot), rc 2 [i1, i2, i3] [] M = some (r, M') → va_P z.1 vwCl (pw (xd z b) 339 b M) H → va_S (pA 339 b) s.heap H locs → lv_has ls 5 [(0, .ref (b + 131)), (1, .int i1), (2, .int i2), (3, .int i3)] → W p l e rm1_movesToCatch s m args below meth c H locs 0 0 (MQ below (va_Qi (fun (r' : Int32) (M2 : Mem) => r' = r ∧ M2 = M') (fun M2 t => va_P z.1 vwCl (pw (xd z b) 339 b M2) t.heap) (pA 339 b)) args s 0 0 (pA 339 b)) (F0 m 2 ls [])) (q38 : ∀ (i1 : Int32) (i2 : Int32) (i3 : Int32) (i4 : Int32) (M : Mem) (H : Heap) (locs : List Loc) (ls : Array Slot), rc 38 [i1, i2, i3, i4] [] M = some (r, M') → va_P z.1 vwCl (pw (xd z b) 339 b M) H → va_S (pA 339 b) s.heap H locs → lv_has ls 5 [(0, .ref (b + 131)), (1, .int i1), (2, .int i2), (3, .int i3), (4, .int i4)] → W p l e rm1_movesToCatch s m args below meth c H locs 0 0 (MQ below (va_Qi (fun (r' : Int32) (M2 : Mem) => r' = r ∧ M2 = M') (fun M2 t => va_P z.1 vwCl (pw (xd z b) 339 b M2) t.heap) (pA 339 b)) args s 0 0 (pA 339 b)) (F0 m 38 ls [])) {i1 : Int32} {i2 : Int32} {i3 : Int32} {i4 : Int32} {M : Mem} {H : Heap} {locs : List Loc} {ls : Array Slot} (hf : b1_movesToCatch_38  rc n i1 i2 i3 i4 M = some (r, M')) (hP : va_P z.1 vwCl (pw (xd z b) 339 b M) H) (hS : va_S (pA 339 b) s.heap H locs) (hl : lv_has ls 5 [(0, .ref (b + 131)), (1, .int i1), (2, .int i2), (3, .int i3), (4, .int i4)]) : W p l e rm1_movesToCatch s m args below meth c H locs 0 0 (MQ below (va_Qi (fun (r' : Int32) (M2 : Mem) => r' = r ∧ M2 = M') (fun M2 t => va_P z.1 vwCl (pw (xd z b) 339 b M2) t.heap) (pA 339 b)) args s 0 0 (pA 339 b)) (F0 m 38 ls []) := by
  have hx := C.1.1
  have hb := C.1.2.1
  unfold b1_movesToCatch_38 at hf
  refine lv_iload hx hb dX1_movesToCatch_38 (lv_at hl 4 rfl) ?_
  refine lv_bipush (v := (60 : Int32)) hx hb dX1_movesToCatch_40 (by decide) ?_
  refine lv_icmp_gt (tgt := 80) hx hb dX1_movesToCatch_42 (by decide) (fun c11 => ?_) (fun c11 => ?_)
  · replace hf := ite_t c11 hf
    exact w1_movesToCatch_80 (n := n)  C hr hk q2 q38 hf hP hS (lv_sub hl [] rfl)
  · replace hf := ite_f c11 hf
    refine lv_iload_n hx hb dX1_movesToCatch_45 rfl (lv_at hl 3 rfl) ?_
    refine lv_if_eq (tgt := 80) hx hb dX1_movesToCatch_46 (by decide) (fun c12 => ?_) (fun c12 => ?_)
    · replace hf := ite_t c12 hf
      exact w1_movesToCatch_80 (n := n)  C hr hk q2 q38 hf hP hS (lv_sub hl [] rfl)
    · replace hf := ite_f c12 hf
      refine lv_aload_n hx hb dX1_movesToCatch_49 rfl (lv_at hl 0 rfl) ?_
      refine pg C hP (k := 131) (j := 1) (Nat.le_of_ble_eq_true rfl) (xd_131 _ _) rfl iw_1 (Nat.le_of_ble_eq_true rfl) g_308 rfl rfl dX1_movesToCatch_50 ?_
      refine lv_iload_n hx hb dX1_movesToCatch_53 rfl (lv_at hl 1 rfl) ?_
      have h13 := chk_1 hf
      replace hf := chk_2 hf
      refine paO C hP (k := 132) (k2 := 134 + 2 * i1.toNatClampNeg) (Nat.le_of_ble_eq_true rfl) (xd_132 _ _) h13 rfl dX1_movesToCatch_54 ?_
      refine lv_iload_n hx hb dX1_movesToCatch_55 rfl (lv_at hl 2 rfl) ?_
      obtain ⟨r14, M15, h16, hf⟩ := bnd_s hf
      refine pcVi (As := [.int i2]) C hP hS (k := 134 + 2 * i1.toNatClampNeg) (ps_lt (ps_caught h13)) ((ps_d (ps_caught h13)) _ _) rfl (c4_has (ps_caught h13) h16) y4_has_w g_949 rfl rfl rfl ⟨Nat.le_of_ble_eq_true rfl, Nat.le_of_ble_eq_true rfl⟩ hl.1 rfl (Nat.le_of_ble_eq_true rfl) dX1_movesToCatch_56 ⟨Nat.le_of_ble_eq_true rfl, Nat.le_of_ble_eq_true rfl⟩ (fun H locs hP hS => ?_)
      refine lv_if_eq (tgt := 65) hx hb dX1_movesToCatch_59 (by decide) (fun c17 => ?_) (fun c17 => ?_)
      · replace hf := ite_t c17 hf
        refine lv_aload_n hx hb dX1_movesToCatch_65 rfl (lv_at hl 0 rfl) ?_
        obtain ⟨r18, M19, h20, hf⟩ := bnd_s hf
        refine pcVv (As := []) C hP hS (k := 131) (Nat.le_of_ble_eq_true rfl) (xd_131 _ _) rfl (c1_trapThief  h20) y1_trapThief_w g_953 rfl rfl rfl ⟨Nat.le_of_ble_eq_true rfl, Nat.le_of_ble_eq_true rfl⟩ hl.1 rfl (Nat.le_of_ble_eq_true rfl) dX1_movesToCatch_66 ⟨Nat.le_of_ble_eq_true rfl, Nat.le_of_ble_eq_true rfl⟩ (fun H locs hP hS => ?_)
        refine lv_aload_n hx hb dX1_movesToCatch_69 rfl (lv_at hl 0 rfl) ?_
        obtain ⟨r21, M22, h23, hf⟩ := bnd_s hf
        refine pcVi (As := []) C hP hS (k := 131) (Nat.le_of_ble_eq_true rfl) (xd_131 _ _) rfl (c1_moveKing  h23) y1_moveKing_w g_977 rfl rfl rfl ⟨Nat.le_of_ble_eq_true rfl, Nat.le_of_ble_eq_true rfl⟩ hl.1 rfl (Nat.le_of_ble_eq_true rfl) dX1_movesToCatch_70 ⟨Nat.le_of_ble_eq_true rfl, Nat.le_of_ble_eq_true rfl⟩ (fun H locs hP hS => ?_)
        refine lv_istore_n (lv' := [(3, .int r21), (0, .ref (b + 131)), (1, .int i1), (2, .int i2), (4, .int i4)]) hx hb dX1_movesToCatch_73 rfl hl (by decide) rfl (fun ls hl => ?_)
        obtain ⟨v24, ev24⟩ : ∃ v : Int32, v = i4 + (1 : Int32) := ⟨_, rfl⟩
        replace hf := lt_c ev24 hf
        refine lv_iinc (v := v24) (lv' := [(4, .int v24), (3, .int r21), (0, .ref (b + 131)), (1, .int i1), (2, .int i2)]) hx hb dX1_movesToCatch_74 hl (k := 4) rfl (by rw [ev24]; rfl) (by decide) rfl (fun ls hl => ?_)
        refine lv_goto (tgt := 38) hx hb dX1_movesToCatch_77 (by decide) ?_
        exact q38 i1 i2 r21 v24 M22 _ _ _ hf hP hS (lv_sub hl [2, 3, 4, 1, 0] rfl)
      · replace hf := ite_f c17 hf
        refine lv_iload hx hb dX1_movesToCatch_62 (lv_at hl 4 rfl) ?_
        exact prI C hr hk hP hS hf dX1_movesToCatch_64
set_option maxHeartbeats 4000000 in
set_option maxRecDepth 100000 in
theorem w1_movesToCatch_2 {p : Program} {l : Launch} {e : Env} {s : State} {m : MethodId} {args : Array Value} {below : List Frame} {meth : Method} {c : Code} {z : Zt} {b : Nat}  (C : Cx p s m args c cX1_movesToCatch 5 RX1 z 339 b) (hr : meth.sig.returnType = (some .int)) (hk : meth.locks = false) {r : Int32} {M' : Mem} {rc : Nat → List Int32 → List Int64 → Mem → Option (Int32 × Mem)} {n : Nat} (q2 : ∀ (i1 : Int32) (i2 : Int32) (i3 : Int32) (M : Mem) (H : Heap) (locs : List Loc) (ls : Array Slot), rc 2 [i1, i2, i3] [] M = some (r, M') → va_P z.1 vwCl (pw (xd z b) 339 b M) H → va_S (pA 339 b) s.heap H locs → lv_has ls 5 [(0, .ref (b + 131)), (1, .int i1), (2, .int i2), (3, .int i3)] → W p l e rm1_movesToCatch s m args below meth c H locs 0 0 (MQ below (va_Qi (fun (r' : Int32) (M2 : Mem) => r' = r ∧ M2 = M') (fun M2 t => va_P z.1 vwCl (pw (xd z b) 339 b M2) t.heap) (pA 339 b)) args s 0 0 (pA 339 b)) (F0 m 2 ls [])) (q38 : ∀ (i1 : Int32) (i2 : Int32) (i3 : Int32) (i4 : Int32) (M : Mem) (H : Heap) (locs : List Loc) (ls : Array Slot), rc 38 [i1, i2, i3, i4] [] M = some (r, M') → va_P z.1 vwCl (pw (xd z b) 339 b M) H → va_S (pA 339 b) s.heap H locs → lv_has ls 5 [(0, .ref (b + 131)), (1, .int i1), (2, .int i2), (3, .int i3), (4, .int i4)] → W p l e rm1_movesToCatch s m args below meth c H locs 0 0 (MQ below (va_Qi (fun (r' : Int32) (M2 : Mem) => r' = r ∧ M2 = M') (fun M2 t => va_P z.1 vwCl (pw (xd z b) 339 b M2) t.heap) (pA 339 b)) args s 0 0 (pA 339 b)) (F0 m 38 ls [])) {i1 : Int32} {i2 : Int32} {i3 : Int32} {M : Mem} {H : Heap} {locs : List Loc} {ls : Array Slot} (hf : b1_movesToCatch_2  rc n i1 i2 i3 M = some (r, M')) (hP : va_P z.1 vwCl (pw (xd z b) 339 b M) H) (hS : va_S (pA 339 b) s.heap H locs) (hl : lv_has ls 5 [(0, .ref (b + 131)), (1, .int i1), (2, .int i2), (3, .int i3)]) : W p l e rm1_movesToCatch s m args below meth c H locs 0 0 (MQ below (va_Qi (fun (r' : Int32) (M2 : Mem) => r' = r ∧ M2 = M') (fun M2 t => va_P z.1 vwCl (pw (xd z b) 339 b M2) t.heap) (pA 339 b)) args s 0 0 (pA 339 b)) (F0 m 2 ls []) := by
  have hx := C.1.1
  have hb := C.1.2.1
  unfold b1_movesToCatch_2 at hf
  refine lv_iload_n hx hb dX1_movesToCatch_2 rfl (lv_at hl 3 rfl) ?_
  refine lv_bipush (v := (96 : Int32)) hx hb dX1_movesToCatch_3 (by decide) ?_
  refine lv_icmp_ge (tgt := 33) hx hb dX1_movesToCatch_5 (by decide) (fun c1 => ?_) (fun c1 => ?_)
  · replace hf := ite_t c1 hf
    refine lv_iconst (v := (1 : Int32)) hx hb dX1_movesToCatch_33 (by decide) ?_
    refine lv_istore_n (lv' := [(3, .int (1 : Int32)), (0, .ref (b + 131)), (1, .int i1), (2, .int i2)]) hx hb dX1_movesToCatch_34 rfl hl (by decide) rfl (fun ls hl => ?_)
    refine lv_iconst (v := (0 : Int32)) hx hb dX1_movesToCatch_35 (by decide) ?_
    refine lv_istore (lv' := [(4, .int (0 : Int32)), (3, .int (1 : Int32)), (0, .ref (b + 131)), (1, .int i1), (2, .int i2)]) hx hb dX1_movesToCatch_36 hl (by decide) rfl (fun ls hl => ?_)
    exact w1_movesToCatch_38 (n := n)  C hr hk q2 q38 hf hP hS (lv_sub hl [2, 3, 4, 1, 0] rfl)
  · replace hf := ite_f c1 hf
    refine lv_aload_n hx hb dX1_movesToCatch_8 rfl (lv_at hl 0 rfl) ?_
    refine pg C hP (k := 131) (j := 1) (Nat.le_of_ble_eq_true rfl) (xd_131 _ _) rfl iw_1 (Nat.le_of_ble_eq_true rfl) g_308 rfl rfl dX1_movesToCatch_9 ?_
    refine lv_iload_n hx hb dX1_movesToCatch_12 rfl (lv_at hl 3 rfl) ?_
    have h2 := chk_1 hf
    replace hf := chk_2 hf
    refine paO C hP (k := 132) (k2 := 134 + 2 * i3.toNatClampNeg) (Nat.le_of_ble_eq_true rfl) (xd_132 _ _) h2 rfl dX1_movesToCatch_13 ?_
    obtain ⟨r3, M4, h5, hf⟩ := bnd_s hf
    refine pcVv (As := []) C hP hS (k := 134 + 2 * i3.toNatClampNeg) (ps_lt (ps_caught h2)) ((ps_d (ps_caught h2)) _ _) rfl (c4_clear (ps_caught h2) h5) y4_clear_w g_947 rfl rfl rfl ⟨Nat.le_of_ble_eq_true rfl, Nat.le_of_ble_eq_true rfl⟩ hl.1 rfl (Nat.le_of_ble_eq_true rfl) dX1_movesToCatch_14 ⟨Nat.le_of_ble_eq_true rfl, Nat.le_of_ble_eq_true rfl⟩ (fun H locs hP hS => ?_)
    refine lv_aload_n hx hb dX1_movesToCatch_17 rfl (lv_at hl 0 rfl) ?_
    refine pg C hP (k := 131) (j := 1) (Nat.le_of_ble_eq_true rfl) (xd_131 _ _) rfl iw_1 (Nat.le_of_ble_eq_true rfl) g_308 rfl rfl dX1_movesToCatch_18 ?_
    refine lv_iload_n hx hb dX1_movesToCatch_21 rfl (lv_at hl 3 rfl) ?_
    have h6 := chk_1 hf
    replace hf := chk_2 hf
    refine paO C hP (k := 132) (k2 := 134 + 2 * i3.toNatClampNeg) (Nat.le_of_ble_eq_true rfl) (xd_132 _ _) h6 rfl dX1_movesToCatch_22 ?_
    refine lv_iload_n hx hb dX1_movesToCatch_23 rfl (lv_at hl 3 rfl) ?_
    obtain ⟨r7, M8, h9, hf⟩ := bnd_s hf
    refine pcVv (As := [.int i3]) C hP hS (k := 134 + 2 * i3.toNatClampNeg) (ps_lt (ps_caught h6)) ((ps_d (ps_caught h6)) _ _) rfl (c4_add (ps_caught h6) h9) y4_add_w g_948 rfl rfl rfl ⟨Nat.le_of_ble_eq_true rfl, Nat.le_of_ble_eq_true rfl⟩ hl.1 rfl (Nat.le_of_ble_eq_true rfl) dX1_movesToCatch_24 ⟨Nat.le_of_ble_eq_true rfl, Nat.le_of_ble_eq_true rfl⟩ (fun H locs hP hS => ?_)
    obtain ⟨v10, ev10⟩ : ∃ v : Int32, v = i3 + (1 : Int32) := ⟨_, rfl⟩
    replace hf := lt_c ev10 hf
    refine lv_iinc (v := v10) (lv' := [(3, .int v10), (0, .ref (b + 131)), (1, .int i1), (2, .int i2)]) hx hb dX1_movesToCatch_27 hl (k := 3) rfl (by rw [ev10]; rfl) (by decide) rfl (fun ls hl => ?_)
    refine lv_goto (tgt := 2) hx hb dX1_movesToCatch_30 (by decide) ?_
    exact q2 i1 i2 v10 M8 _ _ _ hf hP hS (lv_sub hl [1, 2, 3, 0] rfl)
set_option maxHeartbeats 4000000 in
set_option maxRecDepth 100000 in
theorem w1_movesToCatch_0 {p : Program} {l : Launch} {e : Env} {s : State} {m : MethodId} {args : Array Value} {below : List Frame} {meth : Method} {c : Code} {z : Zt} {b : Nat}  (C : Cx p s m args c cX1_movesToCatch 5 RX1 z 339 b) (hr : meth.sig.returnType = (some .int)) (hk : meth.locks = false) {r : Int32} {M' : Mem} {rc : Nat → List Int32 → List Int64 → Mem → Option (Int32 × Mem)} {n : Nat} (q2 : ∀ (i1 : Int32) (i2 : Int32) (i3 : Int32) (M : Mem) (H : Heap) (locs : List Loc) (ls : Array Slot), rc 2 [i1, i2, i3] [] M = some (r, M') → va_P z.1 vwCl (pw (xd z b) 339 b M) H → va_S (pA 339 b) s.heap H locs → lv_has ls 5 [(0, .ref (b + 131)), (1, .int i1), (2, .int i2), (3, .int i3)] → W p l e rm1_movesToCatch s m args below meth c H locs 0 0 (MQ below (va_Qi (fun (r' : Int32) (M2 : Mem) => r' = r ∧ M2 = M') (fun M2 t => va_P z.1 vwCl (pw (xd z b) 339 b M2) t.heap) (pA 339 b)) args s 0 0 (pA 339 b)) (F0 m 2 ls [])) (q38 : ∀ (i1 : Int32) (i2 : Int32) (i3 : Int32) (i4 : Int32) (M : Mem) (H : Heap) (locs : List Loc) (ls : Array Slot), rc 38 [i1, i2, i3, i4] [] M = some (r, M') → va_P z.1 vwCl (pw (xd z b) 339 b M) H → va_S (pA 339 b) s.heap H locs → lv_has ls 5 [(0, .ref (b + 131)), (1, .int i1), (2, .int i2), (3, .int i3), (4, .int i4)] → W p l e rm1_movesToCatch s m args below meth c H locs 0 0 (MQ below (va_Qi (fun (r' : Int32) (M2 : Mem) => r' = r ∧ M2 = M') (fun M2 t => va_P z.1 vwCl (pw (xd z b) 339 b M2) t.heap) (pA 339 b)) args s 0 0 (pA 339 b)) (F0 m 38 ls [])) {a1 : Int32} {a2 : Int32} {M : Mem} {H : Heap} {locs : List Loc} {ls : Array Slot} (hf : b1_movesToCatch_0  rc n a1 a2 M = some (r, M')) (hP : va_P z.1 vwCl (pw (xd z b) 339 b M) H) (hS : va_S (pA 339 b) s.heap H locs) (hl : lv_has ls 5 [(0, .ref (b + 131)), (1, .int a1), (2, .int a2)]) : W p l e rm1_movesToCatch s m args below meth c H locs 0 0 (MQ below (va_Qi (fun (r' : Int32) (M2 : Mem) => r' = r ∧ M2 = M') (fun M2 t => va_P z.1 vwCl (pw (xd z b) 339 b M2) t.heap) (pA 339 b)) args s 0 0 (pA 339 b)) (F0 m 0 ls []) := by
  have hx := C.1.1
  have hb := C.1.2.1
  unfold b1_movesToCatch_0 at hf
  refine lv_iconst (v := (0 : Int32)) hx hb dX1_movesToCatch_0 (by decide) ?_
  refine lv_istore_n (lv' := [(3, .int (0 : Int32)), (0, .ref (b + 131)), (1, .int a1), (2, .int a2)]) hx hb dX1_movesToCatch_1 rfl hl (by decide) rfl (fun ls hl => ?_)
  exact w1_movesToCatch_2 (n := n)  C hr hk q2 q38 hf hP hS (lv_sub hl [1, 2, 3, 0] rfl)
set_option maxHeartbeats 4000000 in
set_option maxRecDepth 100000 in
theorem l1_movesToCatch {p : Program} {l : Launch} {e : Env} {s : State} {m : MethodId} {args : Array Value} {below : List Frame} {meth : Method} {c : Code} {z : Zt} {b : Nat}  (C : Cx p s m args c cX1_movesToCatch 5 RX1 z 339 b) (hr : meth.sig.returnType = (some .int)) (hk : meth.locks = false) {r : Int32} {M' : Mem} (n : Nat) : (∀ (i1 : Int32) (i2 : Int32) (i3 : Int32) (M : Mem) (H : Heap) (locs : List Loc) (ls : Array Slot), (r1_movesToCatch  n) 2 [i1, i2, i3] [] M = some (r, M') → va_P z.1 vwCl (pw (xd z b) 339 b M) H → va_S (pA 339 b) s.heap H locs → lv_has ls 5 [(0, .ref (b + 131)), (1, .int i1), (2, .int i2), (3, .int i3)] → W p l e rm1_movesToCatch s m args below meth c H locs 0 0 (MQ below (va_Qi (fun (r' : Int32) (M2 : Mem) => r' = r ∧ M2 = M') (fun M2 t => va_P z.1 vwCl (pw (xd z b) 339 b M2) t.heap) (pA 339 b)) args s 0 0 (pA 339 b)) (F0 m 2 ls [])) ∧ (∀ (i1 : Int32) (i2 : Int32) (i3 : Int32) (i4 : Int32) (M : Mem) (H : Heap) (locs : List Loc) (ls : Array Slot), (r1_movesToCatch  n) 38 [i1, i2, i3, i4] [] M = some (r, M') → va_P z.1 vwCl (pw (xd z b) 339 b M) H → va_S (pA 339 b) s.heap H locs → lv_has ls 5 [(0, .ref (b + 131)), (1, .int i1), (2, .int i2), (3, .int i3), (4, .int i4)] → W p l e rm1_movesToCatch s m args below meth c H locs 0 0 (MQ below (va_Qi (fun (r' : Int32) (M2 : Mem) => r' = r ∧ M2 = M') (fun M2 t => va_P z.1 vwCl (pw (xd z b) 339 b M2) t.heap) (pA 339 b)) args s 0 0 (pA 339 b)) (F0 m 38 ls [])) := by
  induction n with
  | zero => exact ⟨fun _ _ _ _ _ _ _ hf => (by cases hf), fun _ _ _ _ _ _ _ _ hf => (by cases hf)⟩
  | succ n ih => exact ⟨fun _ _ _ _ _ _ _ hf hP hS hl => w1_movesToCatch_2 (n := n)  C hr hk ih.1 ih.2 ((e1_movesToCatch_2  n _ _ _ _).symm.trans hf) hP hS hl, fun _ _ _ _ _ _ _ _ hf hP hS hl => w1_movesToCatch_38 (n := n)  C hr hk ih.1 ih.2 ((e1_movesToCatch_38  n _ _ _ _ _).symm.trans hf) hP hS hl⟩
theorem c1_movesToCatch {l : Launch} {z : Zt} {b n : Nat}  {a1 : Int32} {a2 : Int32} {M M' : Mem} {r : Int32} (hf : f1_movesToCatch n  a1 a2 M = some (r, M')) : CI l z (xd z b) 339 b yX1_movesToCatch cX1_movesToCatch 5 (some .int) rm1_movesToCatch [.ref (b + 131), .int a1, .int a2] M M' r :=
  CI.ofW (lv := [(0, .ref (b + 131)), (1, .int a1), (2, .int a2)]) (by decide) (Nat.le_of_ble_eq_true rfl) rfl (fun p e s m args below meth c ls C hr hk hP hS hl => w1_movesToCatch_0 (n := n)  C hr hk (l1_movesToCatch  C hr hk n).1 (l1_movesToCatch  C hr hk n).2 hf hP hS hl)

-- BronzeKing$Law.take(LBronzeKing$LawReader;)V
theorem dX2_take_0 : decode cX2_take 0 = .ok (.aload_n 1, 1) := by decide +kernel
theorem dX2_take_1 : decode cX2_take 1 = .ok (.getfield 31, 3) := by decide +kernel
theorem dX2_take_4 : decode cX2_take 4 = .ok (.iconst 0, 1) := by decide +kernel
theorem dX2_take_5 : decode cX2_take 5 = .ok (.aload_n 0, 1) := by decide +kernel
theorem dX2_take_6 : decode cX2_take 6 = .ok (.getfield 9, 3) := by decide +kernel
theorem dX2_take_9 : decode cX2_take 9 = .ok (.iconst 0, 1) := by decide +kernel
theorem dX2_take_10 : decode cX2_take 10 = .ok (.sipush 240, 3) := by decide +kernel
theorem dX2_take_13 : decode cX2_take 13 = .ok (.invokestatic 34, 3) := by decide +kernel
theorem dX2_take_16 : decode cX2_take 16 = .ok (.aload_n 1, 1) := by decide +kernel
theorem dX2_take_17 : decode cX2_take 17 = .ok (.getfield 40, 3) := by decide +kernel
theorem dX2_take_20 : decode cX2_take 20 = .ok (.iconst 0, 1) := by decide +kernel
theorem dX2_take_21 : decode cX2_take 21 = .ok (.aload_n 0, 1) := by decide +kernel
theorem dX2_take_22 : decode cX2_take 22 = .ok (.getfield 15, 3) := by decide +kernel
theorem dX2_take_25 : decode cX2_take 25 = .ok (.iconst 0, 1) := by decide +kernel
theorem dX2_take_26 : decode cX2_take 26 = .ok (.bipush 33, 2) := by decide +kernel
theorem dX2_take_28 : decode cX2_take 28 = .ok (.invokestatic 34, 3) := by decide +kernel
theorem dX2_take_31 : decode cX2_take 31 = .ok (.aload_n 1, 1) := by decide +kernel
theorem dX2_take_32 : decode cX2_take 32 = .ok (.getfield 41, 3) := by decide +kernel
theorem dX2_take_35 : decode cX2_take 35 = .ok (.iconst 0, 1) := by decide +kernel
theorem dX2_take_36 : decode cX2_take 36 = .ok (.aload_n 0, 1) := by decide +kernel
theorem dX2_take_37 : decode cX2_take 37 = .ok (.getfield 18, 3) := by decide +kernel
theorem dX2_take_40 : decode cX2_take 40 = .ok (.iconst 0, 1) := by decide +kernel
theorem dX2_take_41 : decode cX2_take 41 = .ok (.bipush 16, 2) := by decide +kernel
theorem dX2_take_43 : decode cX2_take 43 = .ok (.invokestatic 34, 3) := by decide +kernel
theorem dX2_take_46 : decode cX2_take 46 = .ok (.aload_n 0, 1) := by decide +kernel
theorem dX2_take_47 : decode cX2_take 47 = .ok (.aload_n 1, 1) := by decide +kernel
theorem dX2_take_48 : decode cX2_take 48 = .ok (.getfield 42, 3) := by decide +kernel
theorem dX2_take_51 : decode cX2_take 51 = .ok (.putfield 21, 3) := by decide +kernel
theorem dX2_take_54 : decode cX2_take 54 = .ok (.return_, 1) := by decide +kernel
def b2_take_0 (rc : Nat → List Int32 → List Int64 → Mem → Option (Unit × Mem)) (n : Nat) (M : Mem) : Option (Unit × Mem) :=
  lt (wR M 12 (va_cpy (M.1 18) (M.1 12) (0 : Int32).toNatClampNeg (0 : Int32).toNatClampNeg (240 : Int32).toNatClampNeg)) fun M1 =>
  lt (wR M1 13 (va_cpy (M1.1 19) (M1.1 13) (0 : Int32).toNatClampNeg (0 : Int32).toNatClampNeg (33 : Int32).toNatClampNeg)) fun M2 =>
  lt (wR M2 14 (va_cpy (M2.1 20) (M2.1 14) (0 : Int32).toNatClampNeg (0 : Int32).toNatClampNeg (16 : Int32).toNatClampNeg)) fun M3 =>
  lt (wI M3 11 3 (M3.1 17 5)) fun M4 =>
  some ((), M4)
def f2_take (n : Nat)  (M : Mem) : Option (Unit × Mem) := b2_take_0 (fun _ _ _ _ => none) n M
abbrev rm2_take : Room := { frames := 1, cells := 0, slots := 0, locals := 60 }
theorem y2_take_w : yV RX2 yX2_take cX2_take 2 none 1 := ⟨g_668, g_669, g_6, g_670, rfl, by decide, by decide, by decide +kernel⟩
set_option maxHeartbeats 4000000 in
set_option maxRecDepth 100000 in
theorem w2_take_0 {p : Program} {l : Launch} {e : Env} {s : State} {m : MethodId} {args : Array Value} {below : List Frame} {meth : Method} {c : Code} {z : Zt} {b : Nat}  (C : Cx p s m args c cX2_take 2 RX2 z 339 b) (hr : meth.sig.returnType = none) (hk : meth.locks = false) {r : Unit} {M' : Mem} {rc : Nat → List Int32 → List Int64 → Mem → Option (Unit × Mem)} {n : Nat}   {M : Mem} {H : Heap} {locs : List Loc} {ls : Array Slot} (hf : b2_take_0  rc n  M = some (r, M')) (hP : va_P z.1 vwCl (pw (xd z b) 339 b M) H) (hS : va_S (pA 339 b) s.heap H locs) (hl : lv_has ls 2 [(0, .ref (b + 11)), (1, .ref (b + 17))]) : W p l e rm2_take s m args below meth c H locs 0 0 (MQ below (va_Qv (fun (M2 : Mem) => M2 = M') (fun M2 t => va_P z.1 vwCl (pw (xd z b) 339 b M2) t.heap) (pA 339 b)) args s 0 0 (pA 339 b)) (F0 m 0 ls []) := by
  have hx := C.1.1
  have hb := C.1.2.1
  unfold b2_take_0 at hf
  refine lv_aload_n hx hb dX2_take_0 rfl (lv_at hl 1 rfl) ?_
  refine pgN C hP (k := 17) (j := 0) (Nat.le_of_ble_eq_true rfl) (xd_17 _ _) rfl iw_3 (Nat.le_of_ble_eq_true rfl) g_152 rfl rfl dX2_take_1 ?_
  refine lv_iconst (v := (0 : Int32)) hx hb dX2_take_4 (by decide) ?_
  refine lv_aload_n hx hb dX2_take_5 rfl (lv_at hl 0 rfl) ?_
  refine pg C hP (k := 11) (j := 0) (Nat.le_of_ble_eq_true rfl) (xd_11 _ _) rfl iw_2 (Nat.le_of_ble_eq_true rfl) g_125 rfl rfl dX2_take_6 ?_
  refine lv_iconst (v := (0 : Int32)) hx hb dX2_take_9 (by decide) ?_
  refine lv_sipush (v := (240 : Int32)) hx hb dX2_take_10 (by decide) ?_
  refine pcopy C hP hS (k0 := 18) (k1 := 12) (by rw [C.1.2.2.1]; exact hl.1.symm) g_671 g_673 g_672 g_21 (Nat.le_of_ble_eq_true rfl) (Nat.le_of_ble_eq_true rfl) (xd_18) (xd_12) (by decide) (by decide) (by decide) (by decide) (by decide) (Nat.le_of_ble_eq_true rfl) (Nat.le_of_ble_eq_true rfl) dX2_take_13 (fun M1 H locs eM1 hP hS => ?_)
  replace hf := lt_c eM1 hf
  refine lv_aload_n hx hb dX2_take_16 rfl (lv_at hl 1 rfl) ?_
  refine pgN C hP (k := 17) (j := 1) (Nat.le_of_ble_eq_true rfl) (xd_17 _ _) rfl iw_3 (Nat.le_of_ble_eq_true rfl) g_154 rfl rfl dX2_take_17 ?_
  refine lv_iconst (v := (0 : Int32)) hx hb dX2_take_20 (by decide) ?_
  refine lv_aload_n hx hb dX2_take_21 rfl (lv_at hl 0 rfl) ?_
  refine pg C hP (k := 11) (j := 1) (Nat.le_of_ble_eq_true rfl) (xd_11 _ _) rfl iw_2 (Nat.le_of_ble_eq_true rfl) g_126 rfl rfl dX2_take_22 ?_
  refine lv_iconst (v := (0 : Int32)) hx hb dX2_take_25 (by decide) ?_
  refine lv_bipush (v := (33 : Int32)) hx hb dX2_take_26 (by decide) ?_
  refine pcopy C hP hS (k0 := 19) (k1 := 13) (by rw [C.1.2.2.1]; exact hl.1.symm) g_671 g_673 g_672 g_21 (Nat.le_of_ble_eq_true rfl) (Nat.le_of_ble_eq_true rfl) (xd_19) (xd_13) (by decide) (by decide) (by decide) (by decide) (by decide) (Nat.le_of_ble_eq_true rfl) (Nat.le_of_ble_eq_true rfl) dX2_take_28 (fun M2 H locs eM2 hP hS => ?_)
  replace hf := lt_c eM2 hf
  refine lv_aload_n hx hb dX2_take_31 rfl (lv_at hl 1 rfl) ?_
  refine pgN C hP (k := 17) (j := 2) (Nat.le_of_ble_eq_true rfl) (xd_17 _ _) rfl iw_3 (Nat.le_of_ble_eq_true rfl) g_156 rfl rfl dX2_take_32 ?_
  refine lv_iconst (v := (0 : Int32)) hx hb dX2_take_35 (by decide) ?_
  refine lv_aload_n hx hb dX2_take_36 rfl (lv_at hl 0 rfl) ?_
  refine pg C hP (k := 11) (j := 2) (Nat.le_of_ble_eq_true rfl) (xd_11 _ _) rfl iw_2 (Nat.le_of_ble_eq_true rfl) g_127 rfl rfl dX2_take_37 ?_
  refine lv_iconst (v := (0 : Int32)) hx hb dX2_take_40 (by decide) ?_
  refine lv_bipush (v := (16 : Int32)) hx hb dX2_take_41 (by decide) ?_
  refine pcopy C hP hS (k0 := 20) (k1 := 14) (by rw [C.1.2.2.1]; exact hl.1.symm) g_671 g_673 g_672 g_21 (Nat.le_of_ble_eq_true rfl) (Nat.le_of_ble_eq_true rfl) (xd_20) (xd_14) (by decide) (by decide) (by decide) (by decide) (by decide) (Nat.le_of_ble_eq_true rfl) (Nat.le_of_ble_eq_true rfl) dX2_take_43 (fun M3 H locs eM3 hP hS => ?_)
  replace hf := lt_c eM3 hf
  refine lv_aload_n hx hb dX2_take_46 rfl (lv_at hl 0 rfl) ?_
  refine lv_aload_n hx hb dX2_take_47 rfl (lv_at hl 1 rfl) ?_
  refine pgN C hP (k := 17) (j := 5) (Nat.le_of_ble_eq_true rfl) (xd_17 _ _) rfl iw_3 (Nat.le_of_ble_eq_true rfl) g_160 rfl rfl dX2_take_48 ?_
  refine ppI C hP hS (k := 11) (j := 3) (ty := .int) (Nat.le_of_ble_eq_true rfl) (xd_11 _ _) rfl iw_2 tyX2 tyX2_ok nmX2 (Nat.le_of_ble_eq_true rfl) g_128 rfl rfl (by decide +kernel) rfl rfl (Nat.le_of_ble_eq_true rfl) (xu_11_3 _ _ _) dX2_take_51 (fun M4 H locs eM4 hP hS => ?_)
  replace hf := lt_c eM4 hf
  exact prV C hr hk hP hS hf dX2_take_54
theorem c2_take {l : Launch} {z : Zt} {b n : Nat}   {M M' : Mem} {r : Unit} (hf : f2_take n   M = some (r, M')) : CV l z (xd z b) 339 b yX2_take cX2_take 2 none rm2_take [.ref (b + 11), .ref (b + 17)] M M' :=
  CV.ofW (lv := [(0, .ref (b + 11)), (1, .ref (b + 17))]) (by decide) (Nat.le_of_ble_eq_true rfl) rfl (fun p e s m args below meth c ls C hr hk hP hS hl => w2_take_0 (n := n)  C hr hk  hf hP hS hl)

-- java/util/Arrays.fill([II)V
theorem dJ7_fill_53178_0 : decode cJ7_fill_53178 0 = .ok (.iconst 0, 1) := by decide +kernel
theorem dJ7_fill_53178_1 : decode cJ7_fill_53178 1 = .ok (.istore_n 2, 1) := by decide +kernel
theorem dJ7_fill_53178_2 : decode cJ7_fill_53178 2 = .ok (.aload_n 0, 1) := by decide +kernel
theorem dJ7_fill_53178_3 : decode cJ7_fill_53178 3 = .ok (.arraylength, 1) := by decide +kernel
theorem dJ7_fill_53178_4 : decode cJ7_fill_53178 4 = .ok (.istore_n 3, 1) := by decide +kernel
theorem dJ7_fill_53178_5 : decode cJ7_fill_53178 5 = .ok (.iload_n 2, 1) := by decide +kernel
theorem dJ7_fill_53178_6 : decode cJ7_fill_53178 6 = .ok (.iload_n 3, 1) := by decide +kernel
theorem dJ7_fill_53178_7 : decode cJ7_fill_53178 7 = .ok (.if_icmp .ge 13, 3) := by decide +kernel
theorem dJ7_fill_53178_10 : decode cJ7_fill_53178 10 = .ok (.aload_n 0, 1) := by decide +kernel
theorem dJ7_fill_53178_11 : decode cJ7_fill_53178 11 = .ok (.iload_n 2, 1) := by decide +kernel
theorem dJ7_fill_53178_12 : decode cJ7_fill_53178 12 = .ok (.iload_n 1, 1) := by decide +kernel
theorem dJ7_fill_53178_13 : decode cJ7_fill_53178 13 = .ok (.iastore, 1) := by decide +kernel
theorem dJ7_fill_53178_14 : decode cJ7_fill_53178 14 = .ok (.iinc 2 1, 3) := by decide +kernel
theorem dJ7_fill_53178_17 : decode cJ7_fill_53178 17 = .ok (.goto (-12), 3) := by decide +kernel
theorem dJ7_fill_53178_20 : decode cJ7_fill_53178 20 = .ok (.return_, 1) := by decide +kernel
def bZJ7_fill_53178_5 (k0 : Nat) (L0 : Nat) (rc : Nat → List Int32 → List Int64 → Mem → Option (Unit × Mem)) (n : Nat) (i1 : Int32) (i2 : Int32) (i3 : Int32) (M : Mem) : Option (Unit × Mem) :=
  (if i3 ≤ i2 then (
   some ((), M))
  else (
   chk (inb i2 L0) <|
   lt (wI M k0 i2.toNatClampNeg i1) fun M4 =>
   lt (i2 + (1 : Int32)) fun v5 =>
   rc 5 [i1, v5, i3] [] M4))
def bZJ7_fill_53178_0 (k0 : Nat) (L0 : Nat) (rc : Nat → List Int32 → List Int64 → Mem → Option (Unit × Mem)) (n : Nat) (a1 : Int32) (M : Mem) : Option (Unit × Mem) :=
  lt (Int32.ofNat L0) fun v1 =>
  bZJ7_fill_53178_5 k0 L0 rc n a1 (0 : Int32) v1 M
def rZJ7_fill_53178 (k0 : Nat) (L0 : Nat) : Nat → Nat → List Int32 → List Int64 → Mem → Option (Unit × Mem)
  | 0 => fun _ _ _ _ => none
  | n + 1 => fun pc li lj M =>
    if pc = 5 then (match li, lj with | [i1, i2, i3], [] => bZJ7_fill_53178_5 k0 L0 (rZJ7_fill_53178 k0 L0 n) n i1 i2 i3 M | _, _ => none) else
    none
theorem eZJ7_fill_53178_5 (k0 : Nat) (L0 : Nat) (n : Nat) (i1 : Int32) (i2 : Int32) (i3 : Int32) (M : Mem) : rZJ7_fill_53178 k0 L0 (n + 1) 5 [i1, i2, i3] [] M = bZJ7_fill_53178_5 k0 L0 (rZJ7_fill_53178 k0 L0 n) n i1 i2 i3 M := by
  rw [rZJ7_fill_53178]
  simp
def fZJ7_fill_53178 (n : Nat) (k0 : Nat) (L0 : Nat) (a1 : Int32) (M : Mem) : Option (Unit × Mem) := bZJ7_fill_53178_0 k0 L0 (rZJ7_fill_53178 k0 L0 n) n a1 M
abbrev rmZJ7_fill_53178 : Room := { frames := 0, cells := 0, slots := 0, locals := 0 }
theorem yZJ7_fill_53178_w : yS yJ7_fill_53178 cJ7_fill_53178 4 none 2 := ⟨g_68, g_5, g_69, by decide, by decide, by decide +kernel⟩
set_option maxHeartbeats 4000000 in
set_option maxRecDepth 100000 in
theorem wZJ7_fill_53178_5 {p : Program} {l : Launch} {e : Env} {s : State} {m : MethodId} {args : Array Value} {below : List Frame} {meth : Method} {c : Code} {z : Zt} {b : Nat} {k0 L0 : Nat} (hk0 : k0 < 339 ∧ ∀ f g, xd z b k0 f g = .inl (z.2.1.1, L0, .inl f)) (C : Cx p s m args c cJ7_fill_53178 4 RJ7 z 339 b) (hr : meth.sig.returnType = none) (hk : meth.locks = false) {r : Unit} {M' : Mem} {rc : Nat → List Int32 → List Int64 → Mem → Option (Unit × Mem)} {n : Nat} (q5 : ∀ (i1 : Int32) (i2 : Int32) (i3 : Int32) (M : Mem) (H : Heap) (locs : List Loc) (ls : Array Slot), rc 5 [i1, i2, i3] [] M = some (r, M') → va_P z.1 vwCl (pw (xd z b) 339 b M) H → va_S (pA 339 b) s.heap H locs → lv_has ls 4 [(0, .ref (b + k0)), (1, .int i1), (2, .int i2), (3, .int i3)] → W p l e rmZJ7_fill_53178 s m args below meth c H locs 0 0 (MQ below (va_Qv (fun (M2 : Mem) => M2 = M') (fun M2 t => va_P z.1 vwCl (pw (xd z b) 339 b M2) t.heap) (pA 339 b)) args s 0 0 (pA 339 b)) (F0 m 5 ls [])) {i1 : Int32} {i2 : Int32} {i3 : Int32} {M : Mem} {H : Heap} {locs : List Loc} {ls : Array Slot} (hf : bZJ7_fill_53178_5 k0 L0 rc n i1 i2 i3 M = some (r, M')) (hP : va_P z.1 vwCl (pw (xd z b) 339 b M) H) (hS : va_S (pA 339 b) s.heap H locs) (hl : lv_has ls 4 [(0, .ref (b + k0)), (1, .int i1), (2, .int i2), (3, .int i3)]) : W p l e rmZJ7_fill_53178 s m args below meth c H locs 0 0 (MQ below (va_Qv (fun (M2 : Mem) => M2 = M') (fun M2 t => va_P z.1 vwCl (pw (xd z b) 339 b M2) t.heap) (pA 339 b)) args s 0 0 (pA 339 b)) (F0 m 5 ls []) := by
  have hx := C.1.1
  have hb := C.1.2.1
  unfold bZJ7_fill_53178_5 at hf
  refine lv_iload_n hx hb dJ7_fill_53178_5 rfl (lv_at hl 2 rfl) ?_
  refine lv_iload_n hx hb dJ7_fill_53178_6 rfl (lv_at hl 3 rfl) ?_
  refine lv_icmp_ge (tgt := 20) hx hb dJ7_fill_53178_7 (by decide) (fun c2 => ?_) (fun c2 => ?_)
  · replace hf := ite_t c2 hf
    exact prV C hr hk hP hS hf dJ7_fill_53178_20
  · replace hf := ite_f c2 hf
    refine lv_aload_n hx hb dJ7_fill_53178_10 rfl (lv_at hl 0 rfl) ?_
    refine lv_iload_n hx hb dJ7_fill_53178_11 rfl (lv_at hl 2 rfl) ?_
    refine lv_iload_n hx hb dJ7_fill_53178_12 rfl (lv_at hl 1 rfl) ?_
    have h3 := chk_1 hf
    replace hf := chk_2 hf
    refine psI C hP hS (k := k0) hk0.1 (hk0.2) h3 dJ7_fill_53178_13 (fun M4 H locs eM4 hP hS => ?_)
    replace hf := lt_c eM4 hf
    obtain ⟨v5, ev5⟩ : ∃ v : Int32, v = i2 + (1 : Int32) := ⟨_, rfl⟩
    replace hf := lt_c ev5 hf
    refine lv_iinc (v := v5) (lv' := [(2, .int v5), (0, .ref (b + k0)), (1, .int i1), (3, .int i3)]) hx hb dJ7_fill_53178_14 hl (k := 2) rfl (by rw [ev5]; rfl) (by decide) rfl (fun ls hl => ?_)
    refine lv_goto (tgt := 5) hx hb dJ7_fill_53178_17 (by decide) ?_
    exact q5 i1 v5 i3 M4 _ _ _ hf hP hS (lv_sub hl [1, 2, 0, 3] rfl)
set_option maxHeartbeats 4000000 in
set_option maxRecDepth 100000 in
theorem wZJ7_fill_53178_0 {p : Program} {l : Launch} {e : Env} {s : State} {m : MethodId} {args : Array Value} {below : List Frame} {meth : Method} {c : Code} {z : Zt} {b : Nat} {k0 L0 : Nat} (hk0 : k0 < 339 ∧ ∀ f g, xd z b k0 f g = .inl (z.2.1.1, L0, .inl f)) (C : Cx p s m args c cJ7_fill_53178 4 RJ7 z 339 b) (hr : meth.sig.returnType = none) (hk : meth.locks = false) {r : Unit} {M' : Mem} {rc : Nat → List Int32 → List Int64 → Mem → Option (Unit × Mem)} {n : Nat} (q5 : ∀ (i1 : Int32) (i2 : Int32) (i3 : Int32) (M : Mem) (H : Heap) (locs : List Loc) (ls : Array Slot), rc 5 [i1, i2, i3] [] M = some (r, M') → va_P z.1 vwCl (pw (xd z b) 339 b M) H → va_S (pA 339 b) s.heap H locs → lv_has ls 4 [(0, .ref (b + k0)), (1, .int i1), (2, .int i2), (3, .int i3)] → W p l e rmZJ7_fill_53178 s m args below meth c H locs 0 0 (MQ below (va_Qv (fun (M2 : Mem) => M2 = M') (fun M2 t => va_P z.1 vwCl (pw (xd z b) 339 b M2) t.heap) (pA 339 b)) args s 0 0 (pA 339 b)) (F0 m 5 ls [])) {a1 : Int32} {M : Mem} {H : Heap} {locs : List Loc} {ls : Array Slot} (hf : bZJ7_fill_53178_0 k0 L0 rc n a1 M = some (r, M')) (hP : va_P z.1 vwCl (pw (xd z b) 339 b M) H) (hS : va_S (pA 339 b) s.heap H locs) (hl : lv_has ls 4 [(0, .ref (b + k0)), (1, .int a1)]) : W p l e rmZJ7_fill_53178 s m args below meth c H locs 0 0 (MQ below (va_Qv (fun (M2 : Mem) => M2 = M') (fun M2 t => va_P z.1 vwCl (pw (xd z b) 339 b M2) t.heap) (pA 339 b)) args s 0 0 (pA 339 b)) (F0 m 0 ls []) := by
  have hx := C.1.1
  have hb := C.1.2.1
  unfold bZJ7_fill_53178_0 at hf
  refine lv_iconst (v := (0 : Int32)) hx hb dJ7_fill_53178_0 (by decide) ?_
  refine lv_istore_n (lv' := [(2, .int (0 : Int32)), (0, .ref (b + k0)), (1, .int a1)]) hx hb dJ7_fill_53178_1 rfl hl (by decide) rfl (fun ls hl => ?_)
  refine lv_aload_n hx hb dJ7_fill_53178_2 rfl (lv_at hl 1 rfl) ?_
  refine paL C hP (k := k0) (t0 := 0) (v := (Int32.ofNat L0)) hk0.1 (hk0.2 _ _) rfl rfl dJ7_fill_53178_3 ?_
  refine lv_topi (fun v1 ev1 => ?_)
  replace hf := lt_c ev1 hf
  refine lv_istore_n (lv' := [(3, .int v1), (2, .int (0 : Int32)), (0, .ref (b + k0)), (1, .int a1)]) hx hb dJ7_fill_53178_4 rfl hl (by decide) rfl (fun ls hl => ?_)
  exact wZJ7_fill_53178_5 (n := n) hk0 C hr hk q5 hf hP hS (lv_sub hl [2, 3, 1, 0] rfl)
set_option maxHeartbeats 4000000 in
set_option maxRecDepth 100000 in
theorem lZJ7_fill_53178 {p : Program} {l : Launch} {e : Env} {s : State} {m : MethodId} {args : Array Value} {below : List Frame} {meth : Method} {c : Code} {z : Zt} {b : Nat} {k0 L0 : Nat} (hk0 : k0 < 339 ∧ ∀ f g, xd z b k0 f g = .inl (z.2.1.1, L0, .inl f)) (C : Cx p s m args c cJ7_fill_53178 4 RJ7 z 339 b) (hr : meth.sig.returnType = none) (hk : meth.locks = false) {r : Unit} {M' : Mem} (n : Nat) : (∀ (i1 : Int32) (i2 : Int32) (i3 : Int32) (M : Mem) (H : Heap) (locs : List Loc) (ls : Array Slot), (rZJ7_fill_53178 k0 L0 n) 5 [i1, i2, i3] [] M = some (r, M') → va_P z.1 vwCl (pw (xd z b) 339 b M) H → va_S (pA 339 b) s.heap H locs → lv_has ls 4 [(0, .ref (b + k0)), (1, .int i1), (2, .int i2), (3, .int i3)] → W p l e rmZJ7_fill_53178 s m args below meth c H locs 0 0 (MQ below (va_Qv (fun (M2 : Mem) => M2 = M') (fun M2 t => va_P z.1 vwCl (pw (xd z b) 339 b M2) t.heap) (pA 339 b)) args s 0 0 (pA 339 b)) (F0 m 5 ls [])) := by
  induction n with
  | zero => exact fun _ _ _ _ _ _ _ hf => (by cases hf)
  | succ n ih => exact fun _ _ _ _ _ _ _ hf hP hS hl => wZJ7_fill_53178_5 (n := n) hk0 C hr hk ih ((eZJ7_fill_53178_5 _ _ n _ _ _ _).symm.trans hf) hP hS hl
theorem cZJ7_fill_53178 {l : Launch} {z : Zt} {b n : Nat} {k0 L0 : Nat} (hk0 : k0 < 339 ∧ ∀ f g, xd z b k0 f g = .inl (z.2.1.1, L0, .inl f)) {a1 : Int32} {M M' : Mem} {r : Unit} (hf : fZJ7_fill_53178 n k0 L0 a1 M = some (r, M')) : CV l z (xd z b) 339 b yJ7_fill_53178 cJ7_fill_53178 4 none rmZJ7_fill_53178 [.ref (b + k0), .int a1] M M' :=
  CV.ofW (lv := [(0, .ref (b + k0)), (1, .int a1)]) (by decide) (Nat.le_of_ble_eq_true rfl) rfl (fun p e s m args below meth c ls C hr hk hP hS hl => wZJ7_fill_53178_0 (n := n) hk0 C hr hk (lZJ7_fill_53178 hk0 C hr hk n) hf hP hS hl)

-- BronzeKing$Law.setHour(II)V
theorem dX2_setHour_0 : decode cX2_setHour 0 = .ok (.aload_n 0, 1) := by decide +kernel
theorem dX2_setHour_1 : decode cX2_setHour 1 = .ok (.getfield 25, 3) := by decide +kernel
theorem dX2_setHour_4 : decode cX2_setHour 4 = .ok (.iconst 0, 1) := by decide +kernel
theorem dX2_setHour_5 : decode cX2_setHour 5 = .ok (.iload_n 1, 1) := by decide +kernel
theorem dX2_setHour_6 : decode cX2_setHour 6 = .ok (.iastore, 1) := by decide +kernel
theorem dX2_setHour_7 : decode cX2_setHour 7 = .ok (.aload_n 0, 1) := by decide +kernel
theorem dX2_setHour_8 : decode cX2_setHour 8 = .ok (.getfield 25, 3) := by decide +kernel
theorem dX2_setHour_11 : decode cX2_setHour 11 = .ok (.iconst 1, 1) := by decide +kernel
theorem dX2_setHour_12 : decode cX2_setHour 12 = .ok (.iload_n 2, 1) := by decide +kernel
theorem dX2_setHour_13 : decode cX2_setHour 13 = .ok (.bipush 7, 2) := by decide +kernel
theorem dX2_setHour_15 : decode cX2_setHour 15 = .ok (.irem, 1) := by decide +kernel
theorem dX2_setHour_16 : decode cX2_setHour 16 = .ok (.iastore, 1) := by decide +kernel
theorem dX2_setHour_17 : decode cX2_setHour 17 = .ok (.return_, 1) := by decide +kernel
def b2_setHour_0 (rc : Nat → List Int32 → List Int64 → Mem → Option (Unit × Mem)) (n : Nat) (a1 : Int32) (a2 : Int32) (M : Mem) : Option (Unit × Mem) :=
  chk (inb (0 : Int32) 9) <|
  lt (wI M 15 (0 : Int32).toNatClampNeg a1) fun M2 =>
  chk (inb (1 : Int32) 9) <|
  lt (wI M2 15 (1 : Int32).toNatClampNeg (a2 - a2 / (7 : Int32) * (7 : Int32))) fun M4 =>
  some ((), M4)
def f2_setHour (n : Nat) (a1 : Int32) (a2 : Int32) (M : Mem) : Option (Unit × Mem) := b2_setHour_0 (fun _ _ _ _ => none) n a1 a2 M
abbrev rm2_setHour : Room := { frames := 0, cells := 0, slots := 0, locals := 0 }
theorem y2_setHour_w : yV RX2 yX2_setHour cX2_setHour 3 none 2 := ⟨g_739, g_740, g_6, g_741, rfl, by decide, by decide, by decide +kernel⟩
set_option maxHeartbeats 4000000 in
set_option maxRecDepth 100000 in
theorem w2_setHour_0 {p : Program} {l : Launch} {e : Env} {s : State} {m : MethodId} {args : Array Value} {below : List Frame} {meth : Method} {c : Code} {z : Zt} {b : Nat}  (C : Cx p s m args c cX2_setHour 3 RX2 z 339 b) (hr : meth.sig.returnType = none) (hk : meth.locks = false) {r : Unit} {M' : Mem} {rc : Nat → List Int32 → List Int64 → Mem → Option (Unit × Mem)} {n : Nat}  {a1 : Int32} {a2 : Int32} {M : Mem} {H : Heap} {locs : List Loc} {ls : Array Slot} (hf : b2_setHour_0  rc n a1 a2 M = some (r, M')) (hP : va_P z.1 vwCl (pw (xd z b) 339 b M) H) (hS : va_S (pA 339 b) s.heap H locs) (hl : lv_has ls 3 [(0, .ref (b + 11)), (1, .int a1), (2, .int a2)]) : W p l e rm2_setHour s m args below meth c H locs 0 0 (MQ below (va_Qv (fun (M2 : Mem) => M2 = M') (fun M2 t => va_P z.1 vwCl (pw (xd z b) 339 b M2) t.heap) (pA 339 b)) args s 0 0 (pA 339 b)) (F0 m 0 ls []) := by
  have hx := C.1.1
  have hb := C.1.2.1
  unfold b2_setHour_0 at hf
  refine lv_aload_n hx hb dX2_setHour_0 rfl (lv_at hl 0 rfl) ?_
  refine pg C hP (k := 11) (j := 4) (Nat.le_of_ble_eq_true rfl) (xd_11 _ _) rfl iw_2 (Nat.le_of_ble_eq_true rfl) g_130 rfl rfl dX2_setHour_1 ?_
  refine lv_iconst (v := (0 : Int32)) hx hb dX2_setHour_4 (by decide) ?_
  refine lv_iload_n hx hb dX2_setHour_5 rfl (lv_at hl 1 rfl) ?_
  have h1 := chk_1 hf
  replace hf := chk_2 hf
  refine psI C hP hS (k := 15) (Nat.le_of_ble_eq_true rfl) (xd_15) h1 dX2_setHour_6 (fun M2 H locs eM2 hP hS => ?_)
  replace hf := lt_c eM2 hf
  refine lv_aload_n hx hb dX2_setHour_7 rfl (lv_at hl 0 rfl) ?_
  refine pg C hP (k := 11) (j := 4) (Nat.le_of_ble_eq_true rfl) (xd_11 _ _) rfl iw_2 (Nat.le_of_ble_eq_true rfl) g_130 rfl rfl dX2_setHour_8 ?_
  refine lv_iconst (v := (1 : Int32)) hx hb dX2_setHour_11 (by decide) ?_
  refine lv_iload_n hx hb dX2_setHour_12 rfl (lv_at hl 2 rfl) ?_
  refine lv_bipush (v := (7 : Int32)) hx hb dX2_setHour_13 (by decide) ?_
  refine lv_irem hx hb dX2_setHour_15 (by decide) ?_
  have h3 := chk_1 hf
  replace hf := chk_2 hf
  refine psI C hP hS (k := 15) (Nat.le_of_ble_eq_true rfl) (xd_15) h3 dX2_setHour_16 (fun M4 H locs eM4 hP hS => ?_)
  replace hf := lt_c eM4 hf
  exact prV C hr hk hP hS hf dX2_setHour_17
theorem c2_setHour {l : Launch} {z : Zt} {b n : Nat}  {a1 : Int32} {a2 : Int32} {M M' : Mem} {r : Unit} (hf : f2_setHour n  a1 a2 M = some (r, M')) : CV l z (xd z b) 339 b yX2_setHour cX2_setHour 3 none rm2_setHour [.ref (b + 11), .int a1, .int a2] M M' :=
  CV.ofW (lv := [(0, .ref (b + 11)), (1, .int a1), (2, .int a2)]) (by decide) (Nat.le_of_ble_eq_true rfl) rfl (fun p e s m args below meth c ls C hr hk hP hS hl => w2_setHour_0 (n := n)  C hr hk  hf hP hS hl)

-- BronzeKing$Law.isDivision(I)Z
theorem dX2_isDivision_0 : decode cX2_isDivision 0 = .ok (.iload_n 0, 1) := by decide +kernel
theorem dX2_isDivision_1 : decode cX2_isDivision 1 = .ok (.iconst 5, 1) := by decide +kernel
theorem dX2_isDivision_2 : decode cX2_isDivision 2 = .ok (.if_icmp .eq 9, 3) := by decide +kernel
theorem dX2_isDivision_5 : decode cX2_isDivision 5 = .ok (.iload_n 0, 1) := by decide +kernel
theorem dX2_isDivision_6 : decode cX2_isDivision 6 = .ok (.bipush 6, 2) := by decide +kernel
theorem dX2_isDivision_8 : decode cX2_isDivision 8 = .ok (.if_icmp .ne 7, 3) := by decide +kernel
theorem dX2_isDivision_11 : decode cX2_isDivision 11 = .ok (.iconst 1, 1) := by decide +kernel
theorem dX2_isDivision_12 : decode cX2_isDivision 12 = .ok (.goto 4, 3) := by decide +kernel
theorem dX2_isDivision_15 : decode cX2_isDivision 15 = .ok (.iconst 0, 1) := by decide +kernel
theorem dX2_isDivision_16 : decode cX2_isDivision 16 = .ok (.ireturn, 1) := by decide +kernel
def b2_isDivision_11 (rc : Nat → List Int32 → List Int64 → Mem → Option (Int32 × Mem)) (n : Nat) (M : Mem) : Option (Int32 × Mem) :=
  some ((1 : Int32), M)
def b2_isDivision_0 (rc : Nat → List Int32 → List Int64 → Mem → Option (Int32 × Mem)) (n : Nat) (a0 : Int32) (M : Mem) : Option (Int32 × Mem) :=
  (if a0 = (5 : Int32) then (
   b2_isDivision_11  rc n  M)
  else (
   (if a0 = (6 : Int32) then (
    b2_isDivision_11  rc n  M)
   else (
    some ((0 : Int32), M)))))
def f2_isDivision (n : Nat) (a0 : Int32) (M : Mem) : Option (Int32 × Mem) := b2_isDivision_0 (fun _ _ _ _ => none) n a0 M
abbrev rm2_isDivision : Room := { frames := 0, cells := 0, slots := 0, locals := 0 }
theorem y2_isDivision_w : yS yX2_isDivision cX2_isDivision 1 (some .boolean) 1 := ⟨g_753, g_6, g_754, by decide, by decide, by decide +kernel⟩
set_option maxHeartbeats 4000000 in
set_option maxRecDepth 100000 in
theorem w2_isDivision_11 {p : Program} {l : Launch} {e : Env} {s : State} {m : MethodId} {args : Array Value} {below : List Frame} {meth : Method} {c : Code} {z : Zt} {b : Nat}  (C : Cx p s m args c cX2_isDivision 1 RX2 z 339 b) (hr : meth.sig.returnType = (some .boolean)) (hk : meth.locks = false) {r : Int32} {M' : Mem} {rc : Nat → List Int32 → List Int64 → Mem → Option (Int32 × Mem)} {n : Nat}   {M : Mem} {H : Heap} {locs : List Loc} {ls : Array Slot} (hf : b2_isDivision_11  rc n  M = some (r, M')) (hP : va_P z.1 vwCl (pw (xd z b) 339 b M) H) (hS : va_S (pA 339 b) s.heap H locs) (hl : lv_has ls 1 []) : W p l e rm2_isDivision s m args below meth c H locs 0 0 (MQ below (va_Qi (fun (r' : Int32) (M2 : Mem) => r' = r ∧ M2 = M') (fun M2 t => va_P z.1 vwCl (pw (xd z b) 339 b M2) t.heap) (pA 339 b)) args s 0 0 (pA 339 b)) (F0 m 11 ls []) := by
  have hx := C.1.1
  have hb := C.1.2.1
  unfold b2_isDivision_11 at hf
  refine lv_iconst (v := (1 : Int32)) hx hb dX2_isDivision_11 (by decide) ?_
  refine lv_goto (tgt := 16) hx hb dX2_isDivision_12 (by decide) ?_
  exact prZ C hr hk hP hS hf rfl dX2_isDivision_16
set_option maxHeartbeats 4000000 in
set_option maxRecDepth 100000 in
theorem w2_isDivision_0 {p : Program} {l : Launch} {e : Env} {s : State} {m : MethodId} {args : Array Value} {below : List Frame} {meth : Method} {c : Code} {z : Zt} {b : Nat}  (C : Cx p s m args c cX2_isDivision 1 RX2 z 339 b) (hr : meth.sig.returnType = (some .boolean)) (hk : meth.locks = false) {r : Int32} {M' : Mem} {rc : Nat → List Int32 → List Int64 → Mem → Option (Int32 × Mem)} {n : Nat}  {a0 : Int32} {M : Mem} {H : Heap} {locs : List Loc} {ls : Array Slot} (hf : b2_isDivision_0  rc n a0 M = some (r, M')) (hP : va_P z.1 vwCl (pw (xd z b) 339 b M) H) (hS : va_S (pA 339 b) s.heap H locs) (hl : lv_has ls 1 [(0, .int a0)]) : W p l e rm2_isDivision s m args below meth c H locs 0 0 (MQ below (va_Qi (fun (r' : Int32) (M2 : Mem) => r' = r ∧ M2 = M') (fun M2 t => va_P z.1 vwCl (pw (xd z b) 339 b M2) t.heap) (pA 339 b)) args s 0 0 (pA 339 b)) (F0 m 0 ls []) := by
  have hx := C.1.1
  have hb := C.1.2.1
  unfold b2_isDivision_0 at hf
  refine lv_iload_n hx hb dX2_isDivision_0 rfl (lv_at hl 0 rfl) ?_
  refine lv_iconst (v := (5 : Int32)) hx hb dX2_isDivision_1 (by decide) ?_
  refine lv_icmp_eq (tgt := 11) hx hb dX2_isDivision_2 (by decide) (fun c1 => ?_) (fun c1 => ?_)
  · replace hf := ite_t c1 hf
    exact w2_isDivision_11 (n := n)  C hr hk  hf hP hS (lv_sub hl [] rfl)
  · replace hf := ite_f c1 hf
    refine lv_iload_n hx hb dX2_isDivision_5 rfl (lv_at hl 0 rfl) ?_
    refine lv_bipush (v := (6 : Int32)) hx hb dX2_isDivision_6 (by decide) ?_
    refine lv_icmp_ne (tgt := 15) hx hb dX2_isDivision_8 (by decide) (fun c2 => ?_) (fun c2 => ?_)
    · replace hf := ite_f c2 hf
      refine lv_iconst (v := (0 : Int32)) hx hb dX2_isDivision_15 (by decide) ?_
      exact prZ C hr hk hP hS hf rfl dX2_isDivision_16
    · replace hf := ite_t c2 hf
      exact w2_isDivision_11 (n := n)  C hr hk  hf hP hS (lv_sub hl [] rfl)
theorem c2_isDivision {l : Launch} {z : Zt} {b n : Nat}  {a0 : Int32} {M M' : Mem} {r : Int32} (hf : f2_isDivision n  a0 M = some (r, M')) : CI l z (xd z b) 339 b yX2_isDivision cX2_isDivision 1 (some .boolean) rm2_isDivision [.int a0] M M' r :=
  CI.ofW (lv := [(0, .int a0)]) (by decide) (Nat.le_of_ble_eq_true rfl) rfl (fun p e s m args below meth c ls C hr hk hP hS hl => w2_isDivision_0 (n := n)  C hr hk  hf hP hS hl)

-- BronzeKing$Law.joined(III)I
theorem dX2_joined_0 : decode cX2_joined 0 = .ok (.iload_n 0, 1) := by decide +kernel
theorem dX2_joined_1 : decode cX2_joined 1 = .ok (.tableswitch 101 2 8 #[43, 47, 51, 55, 67, 79, 90], 43) := by decide +kernel
theorem dX2_joined_44 : decode cX2_joined 44 = .ok (.iload_n 1, 1) := by decide +kernel
theorem dX2_joined_45 : decode cX2_joined 45 = .ok (.iload_n 2, 1) := by decide +kernel
theorem dX2_joined_46 : decode cX2_joined 46 = .ok (.iadd, 1) := by decide +kernel
theorem dX2_joined_47 : decode cX2_joined 47 = .ok (.ireturn, 1) := by decide +kernel
theorem dX2_joined_48 : decode cX2_joined 48 = .ok (.iload_n 1, 1) := by decide +kernel
theorem dX2_joined_49 : decode cX2_joined 49 = .ok (.iload_n 2, 1) := by decide +kernel
theorem dX2_joined_50 : decode cX2_joined 50 = .ok (.isub, 1) := by decide +kernel
theorem dX2_joined_51 : decode cX2_joined 51 = .ok (.ireturn, 1) := by decide +kernel
theorem dX2_joined_52 : decode cX2_joined 52 = .ok (.iload_n 1, 1) := by decide +kernel
theorem dX2_joined_53 : decode cX2_joined 53 = .ok (.iload_n 2, 1) := by decide +kernel
theorem dX2_joined_54 : decode cX2_joined 54 = .ok (.imul, 1) := by decide +kernel
theorem dX2_joined_55 : decode cX2_joined 55 = .ok (.ireturn, 1) := by decide +kernel
theorem dX2_joined_56 : decode cX2_joined 56 = .ok (.iload_n 2, 1) := by decide +kernel
theorem dX2_joined_57 : decode cX2_joined 57 = .ok (.ifCond .ne 7, 3) := by decide +kernel
theorem dX2_joined_60 : decode cX2_joined 60 = .ok (.iconst 0, 1) := by decide +kernel
theorem dX2_joined_61 : decode cX2_joined 61 = .ok (.goto 6, 3) := by decide +kernel
theorem dX2_joined_64 : decode cX2_joined 64 = .ok (.iload_n 1, 1) := by decide +kernel
theorem dX2_joined_65 : decode cX2_joined 65 = .ok (.iload_n 2, 1) := by decide +kernel
theorem dX2_joined_66 : decode cX2_joined 66 = .ok (.idiv, 1) := by decide +kernel
theorem dX2_joined_67 : decode cX2_joined 67 = .ok (.ireturn, 1) := by decide +kernel
theorem dX2_joined_68 : decode cX2_joined 68 = .ok (.iload_n 2, 1) := by decide +kernel
theorem dX2_joined_69 : decode cX2_joined 69 = .ok (.ifCond .ne 7, 3) := by decide +kernel
theorem dX2_joined_72 : decode cX2_joined 72 = .ok (.iconst 0, 1) := by decide +kernel
theorem dX2_joined_73 : decode cX2_joined 73 = .ok (.goto 6, 3) := by decide +kernel
theorem dX2_joined_76 : decode cX2_joined 76 = .ok (.iload_n 1, 1) := by decide +kernel
theorem dX2_joined_77 : decode cX2_joined 77 = .ok (.iload_n 2, 1) := by decide +kernel
theorem dX2_joined_78 : decode cX2_joined 78 = .ok (.irem, 1) := by decide +kernel
theorem dX2_joined_79 : decode cX2_joined 79 = .ok (.ireturn, 1) := by decide +kernel
theorem dX2_joined_80 : decode cX2_joined 80 = .ok (.iload_n 1, 1) := by decide +kernel
theorem dX2_joined_81 : decode cX2_joined 81 = .ok (.iload_n 2, 1) := by decide +kernel
theorem dX2_joined_82 : decode cX2_joined 82 = .ok (.if_icmp .ge 7, 3) := by decide +kernel
theorem dX2_joined_85 : decode cX2_joined 85 = .ok (.iconst 1, 1) := by decide +kernel
theorem dX2_joined_86 : decode cX2_joined 86 = .ok (.goto 4, 3) := by decide +kernel
theorem dX2_joined_89 : decode cX2_joined 89 = .ok (.iconst 0, 1) := by decide +kernel
theorem dX2_joined_90 : decode cX2_joined 90 = .ok (.ireturn, 1) := by decide +kernel
theorem dX2_joined_91 : decode cX2_joined 91 = .ok (.iload_n 1, 1) := by decide +kernel
theorem dX2_joined_92 : decode cX2_joined 92 = .ok (.iload_n 2, 1) := by decide +kernel
theorem dX2_joined_93 : decode cX2_joined 93 = .ok (.if_icmp .le 7, 3) := by decide +kernel
theorem dX2_joined_96 : decode cX2_joined 96 = .ok (.iconst 1, 1) := by decide +kernel
theorem dX2_joined_97 : decode cX2_joined 97 = .ok (.goto 4, 3) := by decide +kernel
theorem dX2_joined_100 : decode cX2_joined 100 = .ok (.iconst 0, 1) := by decide +kernel
theorem dX2_joined_101 : decode cX2_joined 101 = .ok (.ireturn, 1) := by decide +kernel
theorem dX2_joined_102 : decode cX2_joined 102 = .ok (.iload_n 1, 1) := by decide +kernel
theorem dX2_joined_103 : decode cX2_joined 103 = .ok (.iload_n 2, 1) := by decide +kernel
theorem dX2_joined_104 : decode cX2_joined 104 = .ok (.if_icmp .ne 7, 3) := by decide +kernel
theorem dX2_joined_107 : decode cX2_joined 107 = .ok (.iconst 1, 1) := by decide +kernel
theorem dX2_joined_108 : decode cX2_joined 108 = .ok (.goto 4, 3) := by decide +kernel
theorem dX2_joined_111 : decode cX2_joined 111 = .ok (.iconst 0, 1) := by decide +kernel
theorem dX2_joined_112 : decode cX2_joined 112 = .ok (.ireturn, 1) := by decide +kernel
def b2_joined_0 (rc : Nat → List Int32 → List Int64 → Mem → Option (Int32 × Mem)) (n : Nat) (a0 : Int32) (a1 : Int32) (a2 : Int32) (M : Mem) : Option (Int32 × Mem) :=
  (if a0 = (2 : Int32) then (
   some ((a1 + a2), M))
  else (
   (if a0 = (3 : Int32) then (
    some ((a1 - a2), M))
   else (
    (if a0 = (4 : Int32) then (
     some ((a1 * a2), M))
    else (
     (if a0 = (5 : Int32) then (
      (if a2 = 0 then (
       some ((0 : Int32), M))
      else (
       chk (decide (¬ a2 = 0)) <|
       some ((a1 / a2), M))))
     else (
      (if a0 = (6 : Int32) then (
       (if a2 = 0 then (
        some ((0 : Int32), M))
       else (
        chk (decide (¬ a2 = 0)) <|
        some ((a1 - a1 / a2 * a2), M))))
      else (
       (if a0 = (7 : Int32) then (
        (if a2 ≤ a1 then (
         some ((0 : Int32), M))
        else (
         some ((1 : Int32), M))))
       else (
        (if a0 = (8 : Int32) then (
         (if a1 ≤ a2 then (
          some ((0 : Int32), M))
         else (
          some ((1 : Int32), M))))
        else (
         (if a1 = a2 then (
          some ((1 : Int32), M))
         else (
          some ((0 : Int32), M)))))))))))))))))
def f2_joined (n : Nat) (a0 : Int32) (a1 : Int32) (a2 : Int32) (M : Mem) : Option (Int32 × Mem) := b2_joined_0 (fun _ _ _ _ => none) n a0 a1 a2 M
abbrev rm2_joined : Room := { frames := 0, cells := 0, slots := 0, locals := 0 }
theorem y2_joined_w : yS yX2_joined cX2_joined 3 (some .int) 3 := ⟨g_756, g_6, g_757, by decide, by decide, by decide +kernel⟩
set_option maxHeartbeats 4000000 in
set_option maxRecDepth 100000 in
theorem w2_joined_0 {p : Program} {l : Launch} {e : Env} {s : State} {m : MethodId} {args : Array Value} {below : List Frame} {meth : Method} {c : Code} {z : Zt} {b : Nat}  (C : Cx p s m args c cX2_joined 3 RX2 z 339 b) (hr : meth.sig.returnType = (some .int)) (hk : meth.locks = false) {r : Int32} {M' : Mem} {rc : Nat → List Int32 → List Int64 → Mem → Option (Int32 × Mem)} {n : Nat}  {a0 : Int32} {a1 : Int32} {a2 : Int32} {M : Mem} {H : Heap} {locs : List Loc} {ls : Array Slot} (hf : b2_joined_0  rc n a0 a1 a2 M = some (r, M')) (hP : va_P z.1 vwCl (pw (xd z b) 339 b M) H) (hS : va_S (pA 339 b) s.heap H locs) (hl : lv_has ls 3 [(0, .int a0), (1, .int a1), (2, .int a2)]) : W p l e rm2_joined s m args below meth c H locs 0 0 (MQ below (va_Qi (fun (r' : Int32) (M2 : Mem) => r' = r ∧ M2 = M') (fun M2 t => va_P z.1 vwCl (pw (xd z b) 339 b M2) t.heap) (pA 339 b)) args s 0 0 (pA 339 b)) (F0 m 0 ls []) := by
  have hx := C.1.1
  have hb := C.1.2.1
  unfold b2_joined_0 at hf
  refine lv_iload_n hx hb dX2_joined_0 rfl (lv_at hl 0 rfl) ?_
  by_cases c1 : a0 = (2 : Int32)
  · replace hf := ite_t c1 hf
    refine lv_tableIn (off := 43) (tgt := 44) hx hb dX2_joined_1 (by rw [c1]; decide) (by rw [c1]; decide) (by rw [c1]; rfl) (by decide) ?_
    refine lv_iload_n hx hb dX2_joined_44 rfl (lv_at hl 1 rfl) ?_
    refine lv_iload_n hx hb dX2_joined_45 rfl (lv_at hl 2 rfl) ?_
    refine lv_iadd hx hb dX2_joined_46 ?_
    exact prI C hr hk hP hS hf dX2_joined_47
  · replace hf := ite_f c1 hf
    by_cases c2 : a0 = (3 : Int32)
    · replace hf := ite_t c2 hf
      refine lv_tableIn (off := 47) (tgt := 48) hx hb dX2_joined_1 (by rw [c2]; decide) (by rw [c2]; decide) (by rw [c2]; rfl) (by decide) ?_
      refine lv_iload_n hx hb dX2_joined_48 rfl (lv_at hl 1 rfl) ?_
      refine lv_iload_n hx hb dX2_joined_49 rfl (lv_at hl 2 rfl) ?_
      refine lv_isub hx hb dX2_joined_50 ?_
      exact prI C hr hk hP hS hf dX2_joined_51
    · replace hf := ite_f c2 hf
      by_cases c3 : a0 = (4 : Int32)
      · replace hf := ite_t c3 hf
        refine lv_tableIn (off := 51) (tgt := 52) hx hb dX2_joined_1 (by rw [c3]; decide) (by rw [c3]; decide) (by rw [c3]; rfl) (by decide) ?_
        refine lv_iload_n hx hb dX2_joined_52 rfl (lv_at hl 1 rfl) ?_
        refine lv_iload_n hx hb dX2_joined_53 rfl (lv_at hl 2 rfl) ?_
        refine lv_imul hx hb dX2_joined_54 ?_
        exact prI C hr hk hP hS hf dX2_joined_55
      · replace hf := ite_f c3 hf
        by_cases c4 : a0 = (5 : Int32)
        · replace hf := ite_t c4 hf
          refine lv_tableIn (off := 55) (tgt := 56) hx hb dX2_joined_1 (by rw [c4]; decide) (by rw [c4]; decide) (by rw [c4]; rfl) (by decide) ?_
          refine lv_iload_n hx hb dX2_joined_56 rfl (lv_at hl 2 rfl) ?_
          refine lv_if_ne (tgt := 64) hx hb dX2_joined_57 (by decide) (fun c5 => ?_) (fun c5 => ?_)
          · replace hf := ite_f c5 hf
            refine lv_iload_n hx hb dX2_joined_64 rfl (lv_at hl 1 rfl) ?_
            refine lv_iload_n hx hb dX2_joined_65 rfl (lv_at hl 2 rfl) ?_
            have h6 := of_decide_eq_true (chk_1 hf)
            replace hf := chk_2 hf
            refine lv_idiv hx hb dX2_joined_66 h6 ?_
            exact prI C hr hk hP hS hf dX2_joined_67
          · replace hf := ite_t c5 hf
            refine lv_iconst (v := (0 : Int32)) hx hb dX2_joined_60 (by decide) ?_
            refine lv_goto (tgt := 67) hx hb dX2_joined_61 (by decide) ?_
            exact prI C hr hk hP hS hf dX2_joined_67
        · replace hf := ite_f c4 hf
          by_cases c7 : a0 = (6 : Int32)
          · replace hf := ite_t c7 hf
            refine lv_tableIn (off := 67) (tgt := 68) hx hb dX2_joined_1 (by rw [c7]; decide) (by rw [c7]; decide) (by rw [c7]; rfl) (by decide) ?_
            refine lv_iload_n hx hb dX2_joined_68 rfl (lv_at hl 2 rfl) ?_
            refine lv_if_ne (tgt := 76) hx hb dX2_joined_69 (by decide) (fun c8 => ?_) (fun c8 => ?_)
            · replace hf := ite_f c8 hf
              refine lv_iload_n hx hb dX2_joined_76 rfl (lv_at hl 1 rfl) ?_
              refine lv_iload_n hx hb dX2_joined_77 rfl (lv_at hl 2 rfl) ?_
              have h9 := of_decide_eq_true (chk_1 hf)
              replace hf := chk_2 hf
              refine lv_irem hx hb dX2_joined_78 h9 ?_
              exact prI C hr hk hP hS hf dX2_joined_79
            · replace hf := ite_t c8 hf
              refine lv_iconst (v := (0 : Int32)) hx hb dX2_joined_72 (by decide) ?_
              refine lv_goto (tgt := 79) hx hb dX2_joined_73 (by decide) ?_
              exact prI C hr hk hP hS hf dX2_joined_79
          · replace hf := ite_f c7 hf
            by_cases c10 : a0 = (7 : Int32)
            · replace hf := ite_t c10 hf
              refine lv_tableIn (off := 79) (tgt := 80) hx hb dX2_joined_1 (by rw [c10]; decide) (by rw [c10]; decide) (by rw [c10]; rfl) (by decide) ?_
              refine lv_iload_n hx hb dX2_joined_80 rfl (lv_at hl 1 rfl) ?_
              refine lv_iload_n hx hb dX2_joined_81 rfl (lv_at hl 2 rfl) ?_
              refine lv_icmp_ge (tgt := 89) hx hb dX2_joined_82 (by decide) (fun c11 => ?_) (fun c11 => ?_)
              · replace hf := ite_t c11 hf
                refine lv_iconst (v := (0 : Int32)) hx hb dX2_joined_89 (by decide) ?_
                exact prI C hr hk hP hS hf dX2_joined_90
              · replace hf := ite_f c11 hf
                refine lv_iconst (v := (1 : Int32)) hx hb dX2_joined_85 (by decide) ?_
                refine lv_goto (tgt := 90) hx hb dX2_joined_86 (by decide) ?_
                exact prI C hr hk hP hS hf dX2_joined_90
            · replace hf := ite_f c10 hf
              by_cases c12 : a0 = (8 : Int32)
              · replace hf := ite_t c12 hf
                refine lv_tableIn (off := 90) (tgt := 91) hx hb dX2_joined_1 (by rw [c12]; decide) (by rw [c12]; decide) (by rw [c12]; rfl) (by decide) ?_
                refine lv_iload_n hx hb dX2_joined_91 rfl (lv_at hl 1 rfl) ?_
                refine lv_iload_n hx hb dX2_joined_92 rfl (lv_at hl 2 rfl) ?_
                refine lv_icmp_le (tgt := 100) hx hb dX2_joined_93 (by decide) (fun c13 => ?_) (fun c13 => ?_)
                · replace hf := ite_t c13 hf
                  refine lv_iconst (v := (0 : Int32)) hx hb dX2_joined_100 (by decide) ?_
                  exact prI C hr hk hP hS hf dX2_joined_101
                · replace hf := ite_f c13 hf
                  refine lv_iconst (v := (1 : Int32)) hx hb dX2_joined_96 (by decide) ?_
                  refine lv_goto (tgt := 101) hx hb dX2_joined_97 (by decide) ?_
                  exact prI C hr hk hP hS hf dX2_joined_101
              · replace hf := ite_f c12 hf
                refine lv_tableOut (tgt := 102) hx hb dX2_joined_1 (by have z0 : ¬ a0.toInt = 2 := tsn c1; have z1 : ¬ a0.toInt = 3 := tsn c2; have z2 : ¬ a0.toInt = 4 := tsn c3; have z3 : ¬ a0.toInt = 5 := tsn c4; have z4 : ¬ a0.toInt = 6 := tsn c7; have z5 : ¬ a0.toInt = 7 := tsn c10; have z6 : ¬ a0.toInt = 8 := tsn c12; omega) (by decide) ?_
                refine lv_iload_n hx hb dX2_joined_102 rfl (lv_at hl 1 rfl) ?_
                refine lv_iload_n hx hb dX2_joined_103 rfl (lv_at hl 2 rfl) ?_
                refine lv_icmp_ne (tgt := 111) hx hb dX2_joined_104 (by decide) (fun c14 => ?_) (fun c14 => ?_)
                · replace hf := ite_f c14 hf
                  refine lv_iconst (v := (0 : Int32)) hx hb dX2_joined_111 (by decide) ?_
                  exact prI C hr hk hP hS hf dX2_joined_112
                · replace hf := ite_t c14 hf
                  refine lv_iconst (v := (1 : Int32)) hx hb dX2_joined_107 (by decide) ?_
                  refine lv_goto (tgt := 112) hx hb dX2_joined_108 (by decide) ?_
                  exact prI C hr hk hP hS hf dX2_joined_112
theorem c2_joined {l : Launch} {z : Zt} {b n : Nat}  {a0 : Int32} {a1 : Int32} {a2 : Int32} {M M' : Mem} {r : Int32} (hf : f2_joined n  a0 a1 a2 M = some (r, M')) : CI l z (xd z b) 339 b yX2_joined cX2_joined 3 (some .int) rm2_joined [.int a0, .int a1, .int a2] M M' r :=
  CI.ofW (lv := [(0, .int a0), (1, .int a1), (2, .int a2)]) (by decide) (Nat.le_of_ble_eq_true rfl) rfl (fun p e s m args below meth c ls C hr hk hP hS hl => w2_joined_0 (n := n)  C hr hk  hf hP hS hl)

-- BronzeKing$Law.reckon(I)I
theorem dX2_reckon_0 : decode cX2_reckon 0 = .ok (.iconst 0, 1) := by decide +kernel
theorem dX2_reckon_1 : decode cX2_reckon 1 = .ok (.istore_n 2, 1) := by decide +kernel
theorem dX2_reckon_2 : decode cX2_reckon 2 = .ok (.aload_n 0, 1) := by decide +kernel
theorem dX2_reckon_3 : decode cX2_reckon 3 = .ok (.getfield 15, 3) := by decide +kernel
theorem dX2_reckon_6 : decode cX2_reckon 6 = .ok (.iload_n 1, 1) := by decide +kernel
theorem dX2_reckon_7 : decode cX2_reckon 7 = .ok (.iconst 1, 1) := by decide +kernel
theorem dX2_reckon_8 : decode cX2_reckon 8 = .ok (.iadd, 1) := by decide +kernel
theorem dX2_reckon_9 : decode cX2_reckon 9 = .ok (.iaload, 1) := by decide +kernel
theorem dX2_reckon_10 : decode cX2_reckon 10 = .ok (.sipush 240, 3) := by decide +kernel
theorem dX2_reckon_13 : decode cX2_reckon 13 = .ok (.invokestatic 64, 3) := by decide +kernel
theorem dX2_reckon_16 : decode cX2_reckon 16 = .ok (.istore_n 3, 1) := by decide +kernel
theorem dX2_reckon_17 : decode cX2_reckon 17 = .ok (.aload_n 0, 1) := by decide +kernel
theorem dX2_reckon_18 : decode cX2_reckon 18 = .ok (.getfield 15, 3) := by decide +kernel
theorem dX2_reckon_21 : decode cX2_reckon 21 = .ok (.iload_n 1, 1) := by decide +kernel
theorem dX2_reckon_22 : decode cX2_reckon 22 = .ok (.iaload, 1) := by decide +kernel
theorem dX2_reckon_23 : decode cX2_reckon 23 = .ok (.istore 4, 2) := by decide +kernel
theorem dX2_reckon_25 : decode cX2_reckon 25 = .ok (.iload 4, 2) := by decide +kernel
theorem dX2_reckon_27 : decode cX2_reckon 27 = .ok (.iload_n 3, 1) := by decide +kernel
theorem dX2_reckon_28 : decode cX2_reckon 28 = .ok (.if_icmp .ge 276, 3) := by decide +kernel
theorem dX2_reckon_31 : decode cX2_reckon 31 = .ok (.aload_n 0, 1) := by decide +kernel
theorem dX2_reckon_32 : decode cX2_reckon 32 = .ok (.getfield 9, 3) := by decide +kernel
theorem dX2_reckon_35 : decode cX2_reckon 35 = .ok (.iload 4, 2) := by decide +kernel
theorem dX2_reckon_37 : decode cX2_reckon 37 = .ok (.iaload, 1) := by decide +kernel
theorem dX2_reckon_38 : decode cX2_reckon 38 = .ok (.bipush 15, 2) := by decide +kernel
theorem dX2_reckon_40 : decode cX2_reckon 40 = .ok (.iand, 1) := by decide +kernel
theorem dX2_reckon_41 : decode cX2_reckon 41 = .ok (.istore 5, 2) := by decide +kernel
theorem dX2_reckon_43 : decode cX2_reckon 43 = .ok (.aload_n 0, 1) := by decide +kernel
theorem dX2_reckon_44 : decode cX2_reckon 44 = .ok (.getfield 9, 3) := by decide +kernel
theorem dX2_reckon_47 : decode cX2_reckon 47 = .ok (.iload 4, 2) := by decide +kernel
theorem dX2_reckon_49 : decode cX2_reckon 49 = .ok (.iaload, 1) := by decide +kernel
theorem dX2_reckon_50 : decode cX2_reckon 50 = .ok (.iconst 4, 1) := by decide +kernel
theorem dX2_reckon_51 : decode cX2_reckon 51 = .ok (.iushr, 1) := by decide +kernel
theorem dX2_reckon_52 : decode cX2_reckon 52 = .ok (.istore 6, 2) := by decide +kernel
theorem dX2_reckon_54 : decode cX2_reckon 54 = .ok (.iload 5, 2) := by decide +kernel
theorem dX2_reckon_56 : decode cX2_reckon 56 = .ok (.ifCond .eq 9, 3) := by decide +kernel
theorem dX2_reckon_59 : decode cX2_reckon 59 = .ok (.iload 5, 2) := by decide +kernel
theorem dX2_reckon_61 : decode cX2_reckon 61 = .ok (.iconst 1, 1) := by decide +kernel
theorem dX2_reckon_62 : decode cX2_reckon 62 = .ok (.if_icmp .ne 56, 3) := by decide +kernel
theorem dX2_reckon_65 : decode cX2_reckon 65 = .ok (.iload_n 2, 1) := by decide +kernel
theorem dX2_reckon_66 : decode cX2_reckon 66 = .ok (.bipush 64, 2) := by decide +kernel
theorem dX2_reckon_68 : decode cX2_reckon 68 = .ok (.if_icmp .ge 19, 3) := by decide +kernel
theorem dX2_reckon_71 : decode cX2_reckon 71 = .ok (.iload 5, 2) := by decide +kernel
theorem dX2_reckon_73 : decode cX2_reckon 73 = .ok (.iconst 1, 1) := by decide +kernel
theorem dX2_reckon_74 : decode cX2_reckon 74 = .ok (.if_icmp .ne 15, 3) := by decide +kernel
theorem dX2_reckon_77 : decode cX2_reckon 77 = .ok (.iload 6, 2) := by decide +kernel
theorem dX2_reckon_79 : decode cX2_reckon 79 = .ok (.aload_n 0, 1) := by decide +kernel
theorem dX2_reckon_80 : decode cX2_reckon 80 = .ok (.getfield 25, 3) := by decide +kernel
theorem dX2_reckon_83 : decode cX2_reckon 83 = .ok (.arraylength, 1) := by decide +kernel
theorem dX2_reckon_84 : decode cX2_reckon 84 = .ok (.if_icmp .lt 5, 3) := by decide +kernel
theorem dX2_reckon_87 : decode cX2_reckon 87 = .ok (.iconst 0, 1) := by decide +kernel
theorem dX2_reckon_88 : decode cX2_reckon 88 = .ok (.ireturn, 1) := by decide +kernel
theorem dX2_reckon_89 : decode cX2_reckon 89 = .ok (.aload_n 0, 1) := by decide +kernel
theorem dX2_reckon_90 : decode cX2_reckon 90 = .ok (.getfield 28, 3) := by decide +kernel
theorem dX2_reckon_93 : decode cX2_reckon 93 = .ok (.iload_n 2, 1) := by decide +kernel
theorem dX2_reckon_94 : decode cX2_reckon 94 = .ok (.iload 5, 2) := by decide +kernel
theorem dX2_reckon_96 : decode cX2_reckon 96 = .ok (.ifCond .ne 8, 3) := by decide +kernel
theorem dX2_reckon_99 : decode cX2_reckon 99 = .ok (.iload 6, 2) := by decide +kernel
theorem dX2_reckon_101 : decode cX2_reckon 101 = .ok (.goto 10, 3) := by decide +kernel
theorem dX2_reckon_104 : decode cX2_reckon 104 = .ok (.aload_n 0, 1) := by decide +kernel
theorem dX2_reckon_105 : decode cX2_reckon 105 = .ok (.getfield 25, 3) := by decide +kernel
theorem dX2_reckon_108 : decode cX2_reckon 108 = .ok (.iload 6, 2) := by decide +kernel
theorem dX2_reckon_110 : decode cX2_reckon 110 = .ok (.iaload, 1) := by decide +kernel
theorem dX2_reckon_111 : decode cX2_reckon 111 = .ok (.iastore, 1) := by decide +kernel
theorem dX2_reckon_112 : decode cX2_reckon 112 = .ok (.iinc 2 1, 3) := by decide +kernel
theorem dX2_reckon_115 : decode cX2_reckon 115 = .ok (.goto 183, 3) := by decide +kernel
theorem dX2_reckon_118 : decode cX2_reckon 118 = .ok (.iload_n 2, 1) := by decide +kernel
theorem dX2_reckon_119 : decode cX2_reckon 119 = .ok (.iconst 1, 1) := by decide +kernel
theorem dX2_reckon_120 : decode cX2_reckon 120 = .ok (.if_icmp .ge 5, 3) := by decide +kernel
theorem dX2_reckon_123 : decode cX2_reckon 123 = .ok (.iconst 0, 1) := by decide +kernel
theorem dX2_reckon_124 : decode cX2_reckon 124 = .ok (.ireturn, 1) := by decide +kernel
theorem dX2_reckon_125 : decode cX2_reckon 125 = .ok (.iload 5, 2) := by decide +kernel
theorem dX2_reckon_127 : decode cX2_reckon 127 = .ok (.bipush 11, 2) := by decide +kernel
theorem dX2_reckon_129 : decode cX2_reckon 129 = .ok (.if_icmp .eq 10, 3) := by decide +kernel
theorem dX2_reckon_132 : decode cX2_reckon 132 = .ok (.iload 5, 2) := by decide +kernel
theorem dX2_reckon_134 : decode cX2_reckon 134 = .ok (.bipush 12, 2) := by decide +kernel
theorem dX2_reckon_136 : decode cX2_reckon 136 = .ok (.if_icmp .ne 78, 3) := by decide +kernel
theorem dX2_reckon_139 : decode cX2_reckon 139 = .ok (.aload_n 0, 1) := by decide +kernel
theorem dX2_reckon_140 : decode cX2_reckon 140 = .ok (.getfield 28, 3) := by decide +kernel
theorem dX2_reckon_143 : decode cX2_reckon 143 = .ok (.iload_n 2, 1) := by decide +kernel
theorem dX2_reckon_144 : decode cX2_reckon 144 = .ok (.iconst 1, 1) := by decide +kernel
theorem dX2_reckon_145 : decode cX2_reckon 145 = .ok (.isub, 1) := by decide +kernel
theorem dX2_reckon_146 : decode cX2_reckon 146 = .ok (.iaload, 1) := by decide +kernel
theorem dX2_reckon_147 : decode cX2_reckon 147 = .ok (.ifCond .eq 7, 3) := by decide +kernel
theorem dX2_reckon_150 : decode cX2_reckon 150 = .ok (.iconst 1, 1) := by decide +kernel
theorem dX2_reckon_151 : decode cX2_reckon 151 = .ok (.goto 4, 3) := by decide +kernel
theorem dX2_reckon_154 : decode cX2_reckon 154 = .ok (.iconst 0, 1) := by decide +kernel
theorem dX2_reckon_155 : decode cX2_reckon 155 = .ok (.iload 5, 2) := by decide +kernel
theorem dX2_reckon_157 : decode cX2_reckon 157 = .ok (.bipush 12, 2) := by decide +kernel
theorem dX2_reckon_159 : decode cX2_reckon 159 = .ok (.if_icmp .ne 7, 3) := by decide +kernel
theorem dX2_reckon_162 : decode cX2_reckon 162 = .ok (.iconst 1, 1) := by decide +kernel
theorem dX2_reckon_163 : decode cX2_reckon 163 = .ok (.goto 4, 3) := by decide +kernel
theorem dX2_reckon_166 : decode cX2_reckon 166 = .ok (.iconst 0, 1) := by decide +kernel
theorem dX2_reckon_167 : decode cX2_reckon 167 = .ok (.if_icmp .ne 7, 3) := by decide +kernel
theorem dX2_reckon_170 : decode cX2_reckon 170 = .ok (.iconst 1, 1) := by decide +kernel
theorem dX2_reckon_171 : decode cX2_reckon 171 = .ok (.goto 4, 3) := by decide +kernel
theorem dX2_reckon_174 : decode cX2_reckon 174 = .ok (.iconst 0, 1) := by decide +kernel
theorem dX2_reckon_175 : decode cX2_reckon 175 = .ok (.istore 7, 2) := by decide +kernel
theorem dX2_reckon_177 : decode cX2_reckon 177 = .ok (.iload 7, 2) := by decide +kernel
theorem dX2_reckon_179 : decode cX2_reckon 179 = .ok (.ifCond .eq 15, 3) := by decide +kernel
theorem dX2_reckon_182 : decode cX2_reckon 182 = .ok (.iload 4, 2) := by decide +kernel
theorem dX2_reckon_184 : decode cX2_reckon 184 = .ok (.iload 6, 2) := by decide +kernel
theorem dX2_reckon_186 : decode cX2_reckon 186 = .ok (.iconst 1, 1) := by decide +kernel
theorem dX2_reckon_187 : decode cX2_reckon 187 = .ok (.isub, 1) := by decide +kernel
theorem dX2_reckon_188 : decode cX2_reckon 188 = .ok (.invokestatic 69, 3) := by decide +kernel
theorem dX2_reckon_191 : decode cX2_reckon 191 = .ok (.goto 5, 3) := by decide +kernel
theorem dX2_reckon_194 : decode cX2_reckon 194 = .ok (.iload 4, 2) := by decide +kernel
theorem dX2_reckon_196 : decode cX2_reckon 196 = .ok (.istore 4, 2) := by decide +kernel
theorem dX2_reckon_198 : decode cX2_reckon 198 = .ok (.iload 7, 2) := by decide +kernel
theorem dX2_reckon_200 : decode cX2_reckon 200 = .ok (.ifCond .eq 7, 3) := by decide +kernel
theorem dX2_reckon_203 : decode cX2_reckon 203 = .ok (.iload_n 2, 1) := by decide +kernel
theorem dX2_reckon_204 : decode cX2_reckon 204 = .ok (.goto 6, 3) := by decide +kernel
theorem dX2_reckon_207 : decode cX2_reckon 207 = .ok (.iload_n 2, 1) := by decide +kernel
theorem dX2_reckon_208 : decode cX2_reckon 208 = .ok (.iconst 1, 1) := by decide +kernel
theorem dX2_reckon_209 : decode cX2_reckon 209 = .ok (.isub, 1) := by decide +kernel
theorem dX2_reckon_210 : decode cX2_reckon 210 = .ok (.istore_n 2, 1) := by decide +kernel
theorem dX2_reckon_211 : decode cX2_reckon 211 = .ok (.goto 87, 3) := by decide +kernel
theorem dX2_reckon_214 : decode cX2_reckon 214 = .ok (.iload 5, 2) := by decide +kernel
theorem dX2_reckon_216 : decode cX2_reckon 216 = .ok (.bipush 10, 2) := by decide +kernel
theorem dX2_reckon_218 : decode cX2_reckon 218 = .ok (.if_icmp .ne 24, 3) := by decide +kernel
theorem dX2_reckon_221 : decode cX2_reckon 221 = .ok (.aload_n 0, 1) := by decide +kernel
theorem dX2_reckon_222 : decode cX2_reckon 222 = .ok (.getfield 28, 3) := by decide +kernel
theorem dX2_reckon_225 : decode cX2_reckon 225 = .ok (.iload_n 2, 1) := by decide +kernel
theorem dX2_reckon_226 : decode cX2_reckon 226 = .ok (.iconst 1, 1) := by decide +kernel
theorem dX2_reckon_227 : decode cX2_reckon 227 = .ok (.isub, 1) := by decide +kernel
theorem dX2_reckon_228 : decode cX2_reckon 228 = .ok (.iconst 1, 1) := by decide +kernel
theorem dX2_reckon_229 : decode cX2_reckon 229 = .ok (.aload_n 0, 1) := by decide +kernel
theorem dX2_reckon_230 : decode cX2_reckon 230 = .ok (.getfield 28, 3) := by decide +kernel
theorem dX2_reckon_233 : decode cX2_reckon 233 = .ok (.iload_n 2, 1) := by decide +kernel
theorem dX2_reckon_234 : decode cX2_reckon 234 = .ok (.iconst 1, 1) := by decide +kernel
theorem dX2_reckon_235 : decode cX2_reckon 235 = .ok (.isub, 1) := by decide +kernel
theorem dX2_reckon_236 : decode cX2_reckon 236 = .ok (.iaload, 1) := by decide +kernel
theorem dX2_reckon_237 : decode cX2_reckon 237 = .ok (.isub, 1) := by decide +kernel
theorem dX2_reckon_238 : decode cX2_reckon 238 = .ok (.iastore, 1) := by decide +kernel
theorem dX2_reckon_239 : decode cX2_reckon 239 = .ok (.goto 59, 3) := by decide +kernel
theorem dX2_reckon_242 : decode cX2_reckon 242 = .ok (.iload_n 2, 1) := by decide +kernel
theorem dX2_reckon_243 : decode cX2_reckon 243 = .ok (.iconst 2, 1) := by decide +kernel
theorem dX2_reckon_244 : decode cX2_reckon 244 = .ok (.if_icmp .lt 22, 3) := by decide +kernel
theorem dX2_reckon_247 : decode cX2_reckon 247 = .ok (.iload 5, 2) := by decide +kernel
theorem dX2_reckon_249 : decode cX2_reckon 249 = .ok (.invokestatic 72, 3) := by decide +kernel
theorem dX2_reckon_252 : decode cX2_reckon 252 = .ok (.ifCond .eq 16, 3) := by decide +kernel
theorem dX2_reckon_255 : decode cX2_reckon 255 = .ok (.aload_n 0, 1) := by decide +kernel
theorem dX2_reckon_256 : decode cX2_reckon 256 = .ok (.getfield 28, 3) := by decide +kernel
theorem dX2_reckon_259 : decode cX2_reckon 259 = .ok (.iload_n 2, 1) := by decide +kernel
theorem dX2_reckon_260 : decode cX2_reckon 260 = .ok (.iconst 1, 1) := by decide +kernel
theorem dX2_reckon_261 : decode cX2_reckon 261 = .ok (.isub, 1) := by decide +kernel
theorem dX2_reckon_262 : decode cX2_reckon 262 = .ok (.iaload, 1) := by decide +kernel
theorem dX2_reckon_263 : decode cX2_reckon 263 = .ok (.ifCond .ne 5, 3) := by decide +kernel
theorem dX2_reckon_266 : decode cX2_reckon 266 = .ok (.iconst 0, 1) := by decide +kernel
theorem dX2_reckon_267 : decode cX2_reckon 267 = .ok (.ireturn, 1) := by decide +kernel
theorem dX2_reckon_268 : decode cX2_reckon 268 = .ok (.iinc 2 (-1), 3) := by decide +kernel
theorem dX2_reckon_271 : decode cX2_reckon 271 = .ok (.aload_n 0, 1) := by decide +kernel
theorem dX2_reckon_272 : decode cX2_reckon 272 = .ok (.getfield 28, 3) := by decide +kernel
theorem dX2_reckon_275 : decode cX2_reckon 275 = .ok (.iload_n 2, 1) := by decide +kernel
theorem dX2_reckon_276 : decode cX2_reckon 276 = .ok (.iconst 1, 1) := by decide +kernel
theorem dX2_reckon_277 : decode cX2_reckon 277 = .ok (.isub, 1) := by decide +kernel
theorem dX2_reckon_278 : decode cX2_reckon 278 = .ok (.iload 5, 2) := by decide +kernel
theorem dX2_reckon_280 : decode cX2_reckon 280 = .ok (.aload_n 0, 1) := by decide +kernel
theorem dX2_reckon_281 : decode cX2_reckon 281 = .ok (.getfield 28, 3) := by decide +kernel
theorem dX2_reckon_284 : decode cX2_reckon 284 = .ok (.iload_n 2, 1) := by decide +kernel
theorem dX2_reckon_285 : decode cX2_reckon 285 = .ok (.iconst 1, 1) := by decide +kernel
theorem dX2_reckon_286 : decode cX2_reckon 286 = .ok (.isub, 1) := by decide +kernel
theorem dX2_reckon_287 : decode cX2_reckon 287 = .ok (.iaload, 1) := by decide +kernel
theorem dX2_reckon_288 : decode cX2_reckon 288 = .ok (.aload_n 0, 1) := by decide +kernel
theorem dX2_reckon_289 : decode cX2_reckon 289 = .ok (.getfield 28, 3) := by decide +kernel
theorem dX2_reckon_292 : decode cX2_reckon 292 = .ok (.iload_n 2, 1) := by decide +kernel
theorem dX2_reckon_293 : decode cX2_reckon 293 = .ok (.iaload, 1) := by decide +kernel
theorem dX2_reckon_294 : decode cX2_reckon 294 = .ok (.invokestatic 76, 3) := by decide +kernel
theorem dX2_reckon_297 : decode cX2_reckon 297 = .ok (.iastore, 1) := by decide +kernel
theorem dX2_reckon_298 : decode cX2_reckon 298 = .ok (.iinc 4 1, 3) := by decide +kernel
theorem dX2_reckon_301 : decode cX2_reckon 301 = .ok (.goto (-276), 3) := by decide +kernel
theorem dX2_reckon_304 : decode cX2_reckon 304 = .ok (.iload_n 2, 1) := by decide +kernel
theorem dX2_reckon_305 : decode cX2_reckon 305 = .ok (.ifCond .le 12, 3) := by decide +kernel
theorem dX2_reckon_308 : decode cX2_reckon 308 = .ok (.aload_n 0, 1) := by decide +kernel
theorem dX2_reckon_309 : decode cX2_reckon 309 = .ok (.getfield 28, 3) := by decide +kernel
theorem dX2_reckon_312 : decode cX2_reckon 312 = .ok (.iconst 0, 1) := by decide +kernel
theorem dX2_reckon_313 : decode cX2_reckon 313 = .ok (.iaload, 1) := by decide +kernel
theorem dX2_reckon_314 : decode cX2_reckon 314 = .ok (.goto 4, 3) := by decide +kernel
theorem dX2_reckon_317 : decode cX2_reckon 317 = .ok (.iconst 0, 1) := by decide +kernel
theorem dX2_reckon_318 : decode cX2_reckon 318 = .ok (.ireturn, 1) := by decide +kernel
def b2_reckon_87 (rc : Nat → List Int32 → List Int64 → Mem → Option (Int32 × Mem)) (n : Nat) (M : Mem) : Option (Int32 × Mem) :=
  some ((0 : Int32), M)
def b2_reckon_298 (rc : Nat → List Int32 → List Int64 → Mem → Option (Int32 × Mem)) (n : Nat) (i2 : Int32) (i3 : Int32) (i4 : Int32) (M : Mem) : Option (Int32 × Mem) :=
  lt (i4 + (1 : Int32)) fun v28 =>
  rc 25 [i2, i3, v28] [] M
def b2_reckon_111 (rc : Nat → List Int32 → List Int64 → Mem → Option (Int32 × Mem)) (n : Nat) (i2 : Int32) (i3 : Int32) (i4 : Int32) (s1 : Int32) (s2 : Int32) (M : Mem) : Option (Int32 × Mem) :=
  chk (inb s1 64) <|
  lt (wI M 16 s1.toNatClampNeg s2) fun M49 =>
  lt (i2 + (1 : Int32)) fun v50 =>
  b2_reckon_298  rc n v50 i3 i4 M49
def b2_reckon_89 (rc : Nat → List Int32 → List Int64 → Mem → Option (Int32 × Mem)) (n : Nat) (i2 : Int32) (i3 : Int32) (i4 : Int32) (i5 : Int32) (i6 : Int32) (M : Mem) : Option (Int32 × Mem) :=
  (if i5 = 0 then (
   b2_reckon_111  rc n i2 i3 i4 i2 i6 M)
  else (
   chk (inb i6 9) <|
   b2_reckon_111  rc n i2 i3 i4 i2 (M.1 15 i6.toNatClampNeg) M))
def b2_reckon_65 (rc : Nat → List Int32 → List Int64 → Mem → Option (Int32 × Mem)) (n : Nat) (i2 : Int32) (i3 : Int32) (i4 : Int32) (i5 : Int32) (i6 : Int32) (M : Mem) : Option (Int32 × Mem) :=
  (if (64 : Int32) ≤ i2 then (
   b2_reckon_87  rc n  M)
  else (
   (if i5 = (1 : Int32) then (
    (if i6 < (9 : Int32) then (
     b2_reckon_89  rc n i2 i3 i4 i5 i6 M)
    else (
     b2_reckon_87  rc n  M)))
   else (
    b2_reckon_89  rc n i2 i3 i4 i5 i6 M))))
def b2_reckon_210 (rc : Nat → List Int32 → List Int64 → Mem → Option (Int32 × Mem)) (n : Nat) (i3 : Int32) (i4 : Int32) (s0 : Int32) (M : Mem) : Option (Int32 × Mem) :=
  b2_reckon_298  rc n s0 i3 i4 M
def b2_reckon_196 (rc : Nat → List Int32 → List Int64 → Mem → Option (Int32 × Mem)) (n : Nat) (i2 : Int32) (i3 : Int32) (i7 : Int32) (s0 : Int32) (M : Mem) : Option (Int32 × Mem) :=
  (if i7 = 0 then (
   b2_reckon_210  rc n i3 s0 (i2 - (1 : Int32)) M)
  else (
   b2_reckon_210  rc n i3 s0 i2 M))
def b2_reckon_175 (rc : Nat → List Int32 → List Int64 → Mem → Option (Int32 × Mem)) (n : Nat) (i2 : Int32) (i3 : Int32) (i4 : Int32) (i6 : Int32) (s0 : Int32) (M : Mem) : Option (Int32 × Mem) :=
  (if s0 = 0 then (
   b2_reckon_196  rc n i2 i3 s0 i4 M)
  else (
   b2_reckon_196  rc n i2 i3 s0 (if i4 < (i6 - (1 : Int32)) then (i6 - (1 : Int32)) else i4) M))
def b2_reckon_167 (rc : Nat → List Int32 → List Int64 → Mem → Option (Int32 × Mem)) (n : Nat) (i2 : Int32) (i3 : Int32) (i4 : Int32) (i6 : Int32) (s0 : Int32) (s1 : Int32) (M : Mem) : Option (Int32 × Mem) :=
  (if s0 = s1 then (
   b2_reckon_175  rc n i2 i3 i4 i6 (1 : Int32) M)
  else (
   b2_reckon_175  rc n i2 i3 i4 i6 (0 : Int32) M))
def b2_reckon_155 (rc : Nat → List Int32 → List Int64 → Mem → Option (Int32 × Mem)) (n : Nat) (i2 : Int32) (i3 : Int32) (i4 : Int32) (i5 : Int32) (i6 : Int32) (s0 : Int32) (M : Mem) : Option (Int32 × Mem) :=
  (if i5 = (12 : Int32) then (
   b2_reckon_167  rc n i2 i3 i4 i6 s0 (1 : Int32) M)
  else (
   b2_reckon_167  rc n i2 i3 i4 i6 s0 (0 : Int32) M))
def b2_reckon_139 (rc : Nat → List Int32 → List Int64 → Mem → Option (Int32 × Mem)) (n : Nat) (i2 : Int32) (i3 : Int32) (i4 : Int32) (i5 : Int32) (i6 : Int32) (M : Mem) : Option (Int32 × Mem) :=
  chk (inb (i2 - (1 : Int32)) 64) <|
  (if (M.1 16 (i2 - (1 : Int32)).toNatClampNeg) = 0 then (
   b2_reckon_155  rc n i2 i3 i4 i5 i6 (0 : Int32) M)
  else (
   b2_reckon_155  rc n i2 i3 i4 i5 i6 (1 : Int32) M))
def b2_reckon_266 (rc : Nat → List Int32 → List Int64 → Mem → Option (Int32 × Mem)) (n : Nat) (M : Mem) : Option (Int32 × Mem) :=
  some ((0 : Int32), M)
def b2_reckon_268 (rc : Nat → List Int32 → List Int64 → Mem → Option (Int32 × Mem)) (n : Nat) (i2 : Int32) (i3 : Int32) (i4 : Int32) (i5 : Int32) (M : Mem) : Option (Int32 × Mem) :=
  lt (i2 + (-1 : Int32)) fun v29 =>
  chk (inb (v29 - (1 : Int32)) 64) <|
  chk (inb v29 64) <|
  bnd (f2_joined n i5 (M.1 16 (v29 - (1 : Int32)).toNatClampNeg) (M.1 16 v29.toNatClampNeg) M) fun r32 M33 =>
  chk (inb (v29 - (1 : Int32)) 64) <|
  lt (wI M33 16 (v29 - (1 : Int32)).toNatClampNeg r32) fun M36 =>
  b2_reckon_298  rc n v29 i3 i4 M36
def b2_reckon_25 (rc : Nat → List Int32 → List Int64 → Mem → Option (Int32 × Mem)) (n : Nat) (i2 : Int32) (i3 : Int32) (i4 : Int32) (M : Mem) : Option (Int32 × Mem) :=
  (if i3 ≤ i4 then (
   (if i2 ≤ 0 then (
    some ((0 : Int32), M))
   else (
    chk (inb (0 : Int32) 64) <|
    some ((M.1 16 (0 : Int32).toNatClampNeg), M))))
  else (
   chk (inb i4 240) <|
   lt ((M.1 12 i4.toNatClampNeg) &&& (15 : Int32)) fun v9 =>
   chk (inb i4 240) <|
   lt (((M.1 12 i4.toNatClampNeg).toUInt32 >>> ((4 : Int32).toUInt32 &&& Int32.toUInt32 31)).toInt32) fun v11 =>
   (if v9 = 0 then (
    b2_reckon_65  rc n i2 i3 i4 v9 v11 M)
   else (
    (if v9 = (1 : Int32) then (
     b2_reckon_65  rc n i2 i3 i4 v9 v11 M)
    else (
     (if (1 : Int32) ≤ i2 then (
      (if v9 = (11 : Int32) then (
       b2_reckon_139  rc n i2 i3 i4 v9 v11 M)
      else (
       (if v9 = (12 : Int32) then (
        b2_reckon_139  rc n i2 i3 i4 v9 v11 M)
       else (
        (if v9 = (10 : Int32) then (
         chk (inb (i2 - (1 : Int32)) 64) <|
         chk (inb (i2 - (1 : Int32)) 64) <|
         lt (wI M 16 (i2 - (1 : Int32)).toNatClampNeg ((1 : Int32) - (M.1 16 (i2 - (1 : Int32)).toNatClampNeg))) fun M27 =>
         b2_reckon_298  rc n i2 i3 i4 M27)
        else (
         (if i2 < (2 : Int32) then (
          b2_reckon_266  rc n  M)
         else (
          bnd (f2_isDivision n v9 M) fun r19 M20 =>
          (if r19 = 0 then (
           b2_reckon_268  rc n i2 i3 i4 v9 M20)
          else (
           chk (inb (i2 - (1 : Int32)) 64) <|
           (if (M20.1 16 (i2 - (1 : Int32)).toNatClampNeg) = 0 then (
            b2_reckon_266  rc n  M20)
           else (
            b2_reckon_268  rc n i2 i3 i4 v9 M20)))))))))))))
     else (
      some ((0 : Int32), M)))))))))
def b2_reckon_0 (rc : Nat → List Int32 → List Int64 → Mem → Option (Int32 × Mem)) (n : Nat) (a1 : Int32) (M : Mem) : Option (Int32 × Mem) :=
  chk (inb (a1 + (1 : Int32)) 33) <|
  lt (if (240 : Int32) < (M.1 13 (a1 + (1 : Int32)).toNatClampNeg) then (240 : Int32) else (M.1 13 (a1 + (1 : Int32)).toNatClampNeg)) fun v2 =>
  chk (inb a1 33) <|
  lt (M.1 13 a1.toNatClampNeg) fun v4 =>
  b2_reckon_25  rc n (0 : Int32) v2 v4 M
def r2_reckon : Nat → Nat → List Int32 → List Int64 → Mem → Option (Int32 × Mem)
  | 0 => fun _ _ _ _ => none
  | n + 1 => fun pc li lj M =>
    if pc = 25 then (match li, lj with | [i2, i3, i4], [] => b2_reckon_25  (r2_reckon  n) n i2 i3 i4 M | _, _ => none) else
    none
theorem e2_reckon_25  (n : Nat) (i2 : Int32) (i3 : Int32) (i4 : Int32) (M : Mem) : r2_reckon  (n + 1) 25 [i2, i3, i4] [] M = b2_reckon_25  (r2_reckon  n) n i2 i3 i4 M := by
  rw [r2_reckon]
  simp
def f2_reckon (n : Nat) (a1 : Int32) (M : Mem) : Option (Int32 × Mem) := b2_reckon_0 (r2_reckon n) n a1 M
abbrev rm2_reckon : Room := { frames := 1, cells := 0, slots := 0, locals := 22 }
theorem y2_reckon_w : yV RX2 yX2_reckon cX2_reckon 8 (some .int) 1 := ⟨g_748, gp 21 rfl rfl, g_6, g_749, rfl, by decide, by decide, by decide +kernel⟩
set_option maxHeartbeats 4000000 in
set_option maxRecDepth 100000 in
theorem w2_reckon_87 {p : Program} {l : Launch} {e : Env} {s : State} {m : MethodId} {args : Array Value} {below : List Frame} {meth : Method} {c : Code} {z : Zt} {b : Nat}  (C : Cx p s m args c cX2_reckon 8 RX2 z 339 b) (hr : meth.sig.returnType = (some .int)) (hk : meth.locks = false) {r : Int32} {M' : Mem} {rc : Nat → List Int32 → List Int64 → Mem → Option (Int32 × Mem)} {n : Nat} (q25 : ∀ (i2 : Int32) (i3 : Int32) (i4 : Int32) (M : Mem) (H : Heap) (locs : List Loc) (ls : Array Slot), rc 25 [i2, i3, i4] [] M = some (r, M') → va_P z.1 vwCl (pw (xd z b) 339 b M) H → va_S (pA 339 b) s.heap H locs → lv_has ls 8 [(0, .ref (b + 11)), (2, .int i2), (3, .int i3), (4, .int i4)] → W p l e rm2_reckon s m args below meth c H locs 0 0 (MQ below (va_Qi (fun (r' : Int32) (M2 : Mem) => r' = r ∧ M2 = M') (fun M2 t => va_P z.1 vwCl (pw (xd z b) 339 b M2) t.heap) (pA 339 b)) args s 0 0 (pA 339 b)) (F0 m 25 ls []))  {M : Mem} {H : Heap} {locs : List Loc} {ls : Array Slot} (hf : b2_reckon_87  rc n  M = some (r, M')) (hP : va_P z.1 vwCl (pw (xd z b) 339 b M) H) (hS : va_S (pA 339 b) s.heap H locs) (hl : lv_has ls 8 []) : W p l e rm2_reckon s m args below meth c H locs 0 0 (MQ below (va_Qi (fun (r' : Int32) (M2 : Mem) => r' = r ∧ M2 = M') (fun M2 t => va_P z.1 vwCl (pw (xd z b) 339 b M2) t.heap) (pA 339 b)) args s 0 0 (pA 339 b)) (F0 m 87 ls []) := by
  have hx := C.1.1
  have hb := C.1.2.1
  unfold b2_reckon_87 at hf
  refine lv_iconst (v := (0 : Int32)) hx hb dX2_reckon_87 (by decide) ?_
  exact prI C hr hk hP hS hf dX2_reckon_88
set_option maxHeartbeats 4000000 in
set_option maxRecDepth 100000 in
theorem w2_reckon_298 {p : Program} {l : Launch} {e : Env} {s : State} {m : MethodId} {args : Array Value} {below : List Frame} {meth : Method} {c : Code} {z : Zt} {b : Nat}  (C : Cx p s m args c cX2_reckon 8 RX2 z 339 b) (hr : meth.sig.returnType = (some .int)) (hk : meth.locks = false) {r : Int32} {M' : Mem} {rc : Nat → List Int32 → List Int64 → Mem → Option (Int32 × Mem)} {n : Nat} (q25 : ∀ (i2 : Int32) (i3 : Int32) (i4 : Int32) (M : Mem) (H : Heap) (locs : List Loc) (ls : Array Slot), rc 25 [i2, i3, i4] [] M = some (r, M') → va_P z.1 vwCl (pw (xd z b) 339 b M) H → va_S (pA 339 b) s.heap H locs → lv_has ls 8 [(0, .ref (b + 11)), (2, .int i2), (3, .int i3), (4, .int i4)] → W p l e rm2_reckon s m args below meth c H locs 0 0 (MQ below (va_Qi (fun (r' : Int32) (M2 : Mem) => r' = r ∧ M2 = M') (fun M2 t => va_P z.1 vwCl (pw (xd z b) 339 b M2) t.heap) (pA 339 b)) args s 0 0 (pA 339 b)) (F0 m 25 ls [])) {i2 : Int32} {i3 : Int32} {i4 : Int32} {M : Mem} {H : Heap} {locs : List Loc} {ls : Array Slot} (hf : b2_reckon_298  rc n i2 i3 i4 M = some (r, M')) (hP : va_P z.1 vwCl (pw (xd z b) 339 b M) H) (hS : va_S (pA 339 b) s.heap H locs) (hl : lv_has ls 8 [(0, .ref (b + 11)), (2, .int i2), (3, .int i3), (4, .int i4)]) : W p l e rm2_reckon s m args below meth c H locs 0 0 (MQ below (va_Qi (fun (r' : Int32) (M2 : Mem) => r' = r ∧ M2 = M') (fun M2 t => va_P z.1 vwCl (pw (xd z b) 339 b M2) t.heap) (pA 339 b)) args s 0 0 (pA 339 b)) (F0 m 298 ls []) := by
  have hx := C.1.1
  have hb := C.1.2.1
  unfold b2_reckon_298 at hf
  obtain ⟨v28, ev28⟩ : ∃ v : Int32, v = i4 + (1 : Int32) := ⟨_, rfl⟩
  replace hf := lt_c ev28 hf
  refine lv_iinc (v := v28) (lv' := [(4, .int v28), (0, .ref (b + 11)), (2, .int i2), (3, .int i3)]) hx hb dX2_reckon_298 hl (k := 3) rfl (by rw [ev28]; rfl) (by decide) rfl (fun ls hl => ?_)
  refine lv_goto (tgt := 25) hx hb dX2_reckon_301 (by decide) ?_
  exact q25 i2 i3 v28 M _ _ _ hf hP hS (lv_sub hl [1, 2, 3, 0] rfl)
set_option maxHeartbeats 4000000 in
set_option maxRecDepth 100000 in
theorem w2_reckon_111 {p : Program} {l : Launch} {e : Env} {s : State} {m : MethodId} {args : Array Value} {below : List Frame} {meth : Method} {c : Code} {z : Zt} {b : Nat}  (C : Cx p s m args c cX2_reckon 8 RX2 z 339 b) (hr : meth.sig.returnType = (some .int)) (hk : meth.locks = false) {r : Int32} {M' : Mem} {rc : Nat → List Int32 → List Int64 → Mem → Option (Int32 × Mem)} {n : Nat} (q25 : ∀ (i2 : Int32) (i3 : Int32) (i4 : Int32) (M : Mem) (H : Heap) (locs : List Loc) (ls : Array Slot), rc 25 [i2, i3, i4] [] M = some (r, M') → va_P z.1 vwCl (pw (xd z b) 339 b M) H → va_S (pA 339 b) s.heap H locs → lv_has ls 8 [(0, .ref (b + 11)), (2, .int i2), (3, .int i3), (4, .int i4)] → W p l e rm2_reckon s m args below meth c H locs 0 0 (MQ below (va_Qi (fun (r' : Int32) (M2 : Mem) => r' = r ∧ M2 = M') (fun M2 t => va_P z.1 vwCl (pw (xd z b) 339 b M2) t.heap) (pA 339 b)) args s 0 0 (pA 339 b)) (F0 m 25 ls [])) {i2 : Int32} {i3 : Int32} {i4 : Int32} {s1 : Int32} {s2 : Int32} {M : Mem} {H : Heap} {locs : List Loc} {ls : Array Slot} (hf : b2_reckon_111  rc n i2 i3 i4 s1 s2 M = some (r, M')) (hP : va_P z.1 vwCl (pw (xd z b) 339 b M) H) (hS : va_S (pA 339 b) s.heap H locs) (hl : lv_has ls 8 [(0, .ref (b + 11)), (2, .int i2), (3, .int i3), (4, .int i4)]) : W p l e rm2_reckon s m args below meth c H locs 0 0 (MQ below (va_Qi (fun (r' : Int32) (M2 : Mem) => r' = r ∧ M2 = M') (fun M2 t => va_P z.1 vwCl (pw (xd z b) 339 b M2) t.heap) (pA 339 b)) args s 0 0 (pA 339 b)) (F0 m 111 ls [.int s2, .int s1, .ref (b + 16)]) := by
  have hx := C.1.1
  have hb := C.1.2.1
  unfold b2_reckon_111 at hf
  have h48 := chk_1 hf
  replace hf := chk_2 hf
  refine psI C hP hS (k := 16) (Nat.le_of_ble_eq_true rfl) (xd_16) h48 dX2_reckon_111 (fun M49 H locs eM49 hP hS => ?_)
  replace hf := lt_c eM49 hf
  obtain ⟨v50, ev50⟩ : ∃ v : Int32, v = i2 + (1 : Int32) := ⟨_, rfl⟩
  replace hf := lt_c ev50 hf
  refine lv_iinc (v := v50) (lv' := [(2, .int v50), (0, .ref (b + 11)), (3, .int i3), (4, .int i4)]) hx hb dX2_reckon_112 hl (k := 1) rfl (by rw [ev50]; rfl) (by decide) rfl (fun ls hl => ?_)
  refine lv_goto (tgt := 298) hx hb dX2_reckon_115 (by decide) ?_
  exact w2_reckon_298 (n := n)  C hr hk q25 hf hP hS (lv_sub hl [1, 0, 2, 3] rfl)
set_option maxHeartbeats 4000000 in
set_option maxRecDepth 100000 in
theorem w2_reckon_89 {p : Program} {l : Launch} {e : Env} {s : State} {m : MethodId} {args : Array Value} {below : List Frame} {meth : Method} {c : Code} {z : Zt} {b : Nat}  (C : Cx p s m args c cX2_reckon 8 RX2 z 339 b) (hr : meth.sig.returnType = (some .int)) (hk : meth.locks = false) {r : Int32} {M' : Mem} {rc : Nat → List Int32 → List Int64 → Mem → Option (Int32 × Mem)} {n : Nat} (q25 : ∀ (i2 : Int32) (i3 : Int32) (i4 : Int32) (M : Mem) (H : Heap) (locs : List Loc) (ls : Array Slot), rc 25 [i2, i3, i4] [] M = some (r, M') → va_P z.1 vwCl (pw (xd z b) 339 b M) H → va_S (pA 339 b) s.heap H locs → lv_has ls 8 [(0, .ref (b + 11)), (2, .int i2), (3, .int i3), (4, .int i4)] → W p l e rm2_reckon s m args below meth c H locs 0 0 (MQ below (va_Qi (fun (r' : Int32) (M2 : Mem) => r' = r ∧ M2 = M') (fun M2 t => va_P z.1 vwCl (pw (xd z b) 339 b M2) t.heap) (pA 339 b)) args s 0 0 (pA 339 b)) (F0 m 25 ls [])) {i2 : Int32} {i3 : Int32} {i4 : Int32} {i5 : Int32} {i6 : Int32} {M : Mem} {H : Heap} {locs : List Loc} {ls : Array Slot} (hf : b2_reckon_89  rc n i2 i3 i4 i5 i6 M = some (r, M')) (hP : va_P z.1 vwCl (pw (xd z b) 339 b M) H) (hS : va_S (pA 339 b) s.heap H locs) (hl : lv_has ls 8 [(0, .ref (b + 11)), (2, .int i2), (3, .int i3), (4, .int i4), (5, .int i5), (6, .int i6)]) : W p l e rm2_reckon s m args below meth c H locs 0 0 (MQ below (va_Qi (fun (r' : Int32) (M2 : Mem) => r' = r ∧ M2 = M') (fun M2 t => va_P z.1 vwCl (pw (xd z b) 339 b M2) t.heap) (pA 339 b)) args s 0 0 (pA 339 b)) (F0 m 89 ls []) := by
  have hx := C.1.1
  have hb := C.1.2.1
  unfold b2_reckon_89 at hf
  refine lv_aload_n hx hb dX2_reckon_89 rfl (lv_at hl 0 rfl) ?_
  refine pg C hP (k := 11) (j := 5) (Nat.le_of_ble_eq_true rfl) (xd_11 _ _) rfl iw_2 (Nat.le_of_ble_eq_true rfl) g_131 rfl rfl dX2_reckon_90 ?_
  refine lv_iload_n hx hb dX2_reckon_93 rfl (lv_at hl 1 rfl) ?_
  refine lv_iload hx hb dX2_reckon_94 (lv_at hl 4 rfl) ?_
  refine lv_if_ne (tgt := 104) hx hb dX2_reckon_96 (by decide) (fun c46 => ?_) (fun c46 => ?_)
  · replace hf := ite_f c46 hf
    refine lv_aload_n hx hb dX2_reckon_104 rfl (lv_at hl 0 rfl) ?_
    refine pg C hP (k := 11) (j := 4) (Nat.le_of_ble_eq_true rfl) (xd_11 _ _) rfl iw_2 (Nat.le_of_ble_eq_true rfl) g_130 rfl rfl dX2_reckon_105 ?_
    refine lv_iload hx hb dX2_reckon_108 (lv_at hl 5 rfl) ?_
    have h47 := chk_1 hf
    replace hf := chk_2 hf
    refine paI C hP (k := 15) (Nat.le_of_ble_eq_true rfl) (xd_15 _ _) h47 dX2_reckon_110 ?_
    exact w2_reckon_111 (n := n)  C hr hk q25 hf hP hS (lv_sub hl [0, 1, 2, 3] rfl)
  · replace hf := ite_t c46 hf
    refine lv_iload hx hb dX2_reckon_99 (lv_at hl 5 rfl) ?_
    refine lv_goto (tgt := 111) hx hb dX2_reckon_101 (by decide) ?_
    exact w2_reckon_111 (n := n)  C hr hk q25 hf hP hS (lv_sub hl [0, 1, 2, 3] rfl)
set_option maxHeartbeats 4000000 in
set_option maxRecDepth 100000 in
theorem w2_reckon_65 {p : Program} {l : Launch} {e : Env} {s : State} {m : MethodId} {args : Array Value} {below : List Frame} {meth : Method} {c : Code} {z : Zt} {b : Nat}  (C : Cx p s m args c cX2_reckon 8 RX2 z 339 b) (hr : meth.sig.returnType = (some .int)) (hk : meth.locks = false) {r : Int32} {M' : Mem} {rc : Nat → List Int32 → List Int64 → Mem → Option (Int32 × Mem)} {n : Nat} (q25 : ∀ (i2 : Int32) (i3 : Int32) (i4 : Int32) (M : Mem) (H : Heap) (locs : List Loc) (ls : Array Slot), rc 25 [i2, i3, i4] [] M = some (r, M') → va_P z.1 vwCl (pw (xd z b) 339 b M) H → va_S (pA 339 b) s.heap H locs → lv_has ls 8 [(0, .ref (b + 11)), (2, .int i2), (3, .int i3), (4, .int i4)] → W p l e rm2_reckon s m args below meth c H locs 0 0 (MQ below (va_Qi (fun (r' : Int32) (M2 : Mem) => r' = r ∧ M2 = M') (fun M2 t => va_P z.1 vwCl (pw (xd z b) 339 b M2) t.heap) (pA 339 b)) args s 0 0 (pA 339 b)) (F0 m 25 ls [])) {i2 : Int32} {i3 : Int32} {i4 : Int32} {i5 : Int32} {i6 : Int32} {M : Mem} {H : Heap} {locs : List Loc} {ls : Array Slot} (hf : b2_reckon_65  rc n i2 i3 i4 i5 i6 M = some (r, M')) (hP : va_P z.1 vwCl (pw (xd z b) 339 b M) H) (hS : va_S (pA 339 b) s.heap H locs) (hl : lv_has ls 8 [(0, .ref (b + 11)), (2, .int i2), (3, .int i3), (4, .int i4), (5, .int i5), (6, .int i6)]) : W p l e rm2_reckon s m args below meth c H locs 0 0 (MQ below (va_Qi (fun (r' : Int32) (M2 : Mem) => r' = r ∧ M2 = M') (fun M2 t => va_P z.1 vwCl (pw (xd z b) 339 b M2) t.heap) (pA 339 b)) args s 0 0 (pA 339 b)) (F0 m 65 ls []) := by
  have hx := C.1.1
  have hb := C.1.2.1
  unfold b2_reckon_65 at hf
  refine lv_iload_n hx hb dX2_reckon_65 rfl (lv_at hl 1 rfl) ?_
  refine lv_bipush (v := (64 : Int32)) hx hb dX2_reckon_66 (by decide) ?_
  refine lv_icmp_ge (tgt := 87) hx hb dX2_reckon_68 (by decide) (fun c43 => ?_) (fun c43 => ?_)
  · replace hf := ite_t c43 hf
    exact w2_reckon_87 (n := n)  C hr hk q25 hf hP hS (lv_sub hl [] rfl)
  · replace hf := ite_f c43 hf
    refine lv_iload hx hb dX2_reckon_71 (lv_at hl 4 rfl) ?_
    refine lv_iconst (v := (1 : Int32)) hx hb dX2_reckon_73 (by decide) ?_
    refine lv_icmp_ne (tgt := 89) hx hb dX2_reckon_74 (by decide) (fun c44 => ?_) (fun c44 => ?_)
    · replace hf := ite_f c44 hf
      exact w2_reckon_89 (n := n)  C hr hk q25 hf hP hS (lv_sub hl [0, 1, 2, 3, 4, 5] rfl)
    · replace hf := ite_t c44 hf
      refine lv_iload hx hb dX2_reckon_77 (lv_at hl 5 rfl) ?_
      refine lv_aload_n hx hb dX2_reckon_79 rfl (lv_at hl 0 rfl) ?_
      refine pg C hP (k := 11) (j := 4) (Nat.le_of_ble_eq_true rfl) (xd_11 _ _) rfl iw_2 (Nat.le_of_ble_eq_true rfl) g_130 rfl rfl dX2_reckon_80 ?_
      refine paL C hP (k := 15) (t0 := 0) (v := (9 : Int32)) (Nat.le_of_ble_eq_true rfl) (xd_15 _ _) rfl rfl dX2_reckon_83 ?_
      refine lv_icmp_lt (tgt := 89) hx hb dX2_reckon_84 (by decide) (fun c45 => ?_) (fun c45 => ?_)
      · replace hf := ite_t c45 hf
        exact w2_reckon_89 (n := n)  C hr hk q25 hf hP hS (lv_sub hl [0, 1, 2, 3, 4, 5] rfl)
      · replace hf := ite_f c45 hf
        exact w2_reckon_87 (n := n)  C hr hk q25 hf hP hS (lv_sub hl [] rfl)
set_option maxHeartbeats 4000000 in
set_option maxRecDepth 100000 in
theorem w2_reckon_210 {p : Program} {l : Launch} {e : Env} {s : State} {m : MethodId} {args : Array Value} {below : List Frame} {meth : Method} {c : Code} {z : Zt} {b : Nat}  (C : Cx p s m args c cX2_reckon 8 RX2 z 339 b) (hr : meth.sig.returnType = (some .int)) (hk : meth.locks = false) {r : Int32} {M' : Mem} {rc : Nat → List Int32 → List Int64 → Mem → Option (Int32 × Mem)} {n : Nat} (q25 : ∀ (i2 : Int32) (i3 : Int32) (i4 : Int32) (M : Mem) (H : Heap) (locs : List Loc) (ls : Array Slot), rc 25 [i2, i3, i4] [] M = some (r, M') → va_P z.1 vwCl (pw (xd z b) 339 b M) H → va_S (pA 339 b) s.heap H locs → lv_has ls 8 [(0, .ref (b + 11)), (2, .int i2), (3, .int i3), (4, .int i4)] → W p l e rm2_reckon s m args below meth c H locs 0 0 (MQ below (va_Qi (fun (r' : Int32) (M2 : Mem) => r' = r ∧ M2 = M') (fun M2 t => va_P z.1 vwCl (pw (xd z b) 339 b M2) t.heap) (pA 339 b)) args s 0 0 (pA 339 b)) (F0 m 25 ls [])) {i3 : Int32} {i4 : Int32} {s0 : Int32} {M : Mem} {H : Heap} {locs : List Loc} {ls : Array Slot} (hf : b2_reckon_210  rc n i3 i4 s0 M = some (r, M')) (hP : va_P z.1 vwCl (pw (xd z b) 339 b M) H) (hS : va_S (pA 339 b) s.heap H locs) (hl : lv_has ls 8 [(0, .ref (b + 11)), (3, .int i3), (4, .int i4)]) : W p l e rm2_reckon s m args below meth c H locs 0 0 (MQ below (va_Qi (fun (r' : Int32) (M2 : Mem) => r' = r ∧ M2 = M') (fun M2 t => va_P z.1 vwCl (pw (xd z b) 339 b M2) t.heap) (pA 339 b)) args s 0 0 (pA 339 b)) (F0 m 210 ls [.int s0]) := by
  have hx := C.1.1
  have hb := C.1.2.1
  unfold b2_reckon_210 at hf
  refine lv_istore_n (lv' := [(2, .int s0), (0, .ref (b + 11)), (3, .int i3), (4, .int i4)]) hx hb dX2_reckon_210 rfl hl (by decide) rfl (fun ls hl => ?_)
  refine lv_goto (tgt := 298) hx hb dX2_reckon_211 (by decide) ?_
  exact w2_reckon_298 (n := n)  C hr hk q25 hf hP hS (lv_sub hl [1, 0, 2, 3] rfl)
set_option maxHeartbeats 4000000 in
set_option maxRecDepth 100000 in
theorem w2_reckon_196 {p : Program} {l : Launch} {e : Env} {s : State} {m : MethodId} {args : Array Value} {below : List Frame} {meth : Method} {c : Code} {z : Zt} {b : Nat}  (C : Cx p s m args c cX2_reckon 8 RX2 z 339 b) (hr : meth.sig.returnType = (some .int)) (hk : meth.locks = false) {r : Int32} {M' : Mem} {rc : Nat → List Int32 → List Int64 → Mem → Option (Int32 × Mem)} {n : Nat} (q25 : ∀ (i2 : Int32) (i3 : Int32) (i4 : Int32) (M : Mem) (H : Heap) (locs : List Loc) (ls : Array Slot), rc 25 [i2, i3, i4] [] M = some (r, M') → va_P z.1 vwCl (pw (xd z b) 339 b M) H → va_S (pA 339 b) s.heap H locs → lv_has ls 8 [(0, .ref (b + 11)), (2, .int i2), (3, .int i3), (4, .int i4)] → W p l e rm2_reckon s m args below meth c H locs 0 0 (MQ below (va_Qi (fun (r' : Int32) (M2 : Mem) => r' = r ∧ M2 = M') (fun M2 t => va_P z.1 vwCl (pw (xd z b) 339 b M2) t.heap) (pA 339 b)) args s 0 0 (pA 339 b)) (F0 m 25 ls [])) {i2 : Int32} {i3 : Int32} {i7 : Int32} {s0 : Int32} {M : Mem} {H : Heap} {locs : List Loc} {ls : Array Slot} (hf : b2_reckon_196  rc n i2 i3 i7 s0 M = some (r, M')) (hP : va_P z.1 vwCl (pw (xd z b) 339 b M) H) (hS : va_S (pA 339 b) s.heap H locs) (hl : lv_has ls 8 [(0, .ref (b + 11)), (2, .int i2), (3, .int i3), (7, .int i7)]) : W p l e rm2_reckon s m args below meth c H locs 0 0 (MQ below (va_Qi (fun (r' : Int32) (M2 : Mem) => r' = r ∧ M2 = M') (fun M2 t => va_P z.1 vwCl (pw (xd z b) 339 b M2) t.heap) (pA 339 b)) args s 0 0 (pA 339 b)) (F0 m 196 ls [.int s0]) := by
  have hx := C.1.1
  have hb := C.1.2.1
  unfold b2_reckon_196 at hf
  refine lv_istore (lv' := [(4, .int s0), (0, .ref (b + 11)), (2, .int i2), (3, .int i3), (7, .int i7)]) hx hb dX2_reckon_196 hl (by decide) rfl (fun ls hl => ?_)
  refine lv_iload hx hb dX2_reckon_198 (lv_at hl 4 rfl) ?_
  refine lv_if_eq (tgt := 207) hx hb dX2_reckon_200 (by decide) (fun c42 => ?_) (fun c42 => ?_)
  · replace hf := ite_t c42 hf
    refine lv_iload_n hx hb dX2_reckon_207 rfl (lv_at hl 2 rfl) ?_
    refine lv_iconst (v := (1 : Int32)) hx hb dX2_reckon_208 (by decide) ?_
    refine lv_isub hx hb dX2_reckon_209 ?_
    exact w2_reckon_210 (n := n)  C hr hk q25 hf hP hS (lv_sub hl [1, 3, 0] rfl)
  · replace hf := ite_f c42 hf
    refine lv_iload_n hx hb dX2_reckon_203 rfl (lv_at hl 2 rfl) ?_
    refine lv_goto (tgt := 210) hx hb dX2_reckon_204 (by decide) ?_
    exact w2_reckon_210 (n := n)  C hr hk q25 hf hP hS (lv_sub hl [1, 3, 0] rfl)
set_option maxHeartbeats 4000000 in
set_option maxRecDepth 100000 in
theorem w2_reckon_175 {p : Program} {l : Launch} {e : Env} {s : State} {m : MethodId} {args : Array Value} {below : List Frame} {meth : Method} {c : Code} {z : Zt} {b : Nat}  (C : Cx p s m args c cX2_reckon 8 RX2 z 339 b) (hr : meth.sig.returnType = (some .int)) (hk : meth.locks = false) {r : Int32} {M' : Mem} {rc : Nat → List Int32 → List Int64 → Mem → Option (Int32 × Mem)} {n : Nat} (q25 : ∀ (i2 : Int32) (i3 : Int32) (i4 : Int32) (M : Mem) (H : Heap) (locs : List Loc) (ls : Array Slot), rc 25 [i2, i3, i4] [] M = some (r, M') → va_P z.1 vwCl (pw (xd z b) 339 b M) H → va_S (pA 339 b) s.heap H locs → lv_has ls 8 [(0, .ref (b + 11)), (2, .int i2), (3, .int i3), (4, .int i4)] → W p l e rm2_reckon s m args below meth c H locs 0 0 (MQ below (va_Qi (fun (r' : Int32) (M2 : Mem) => r' = r ∧ M2 = M') (fun M2 t => va_P z.1 vwCl (pw (xd z b) 339 b M2) t.heap) (pA 339 b)) args s 0 0 (pA 339 b)) (F0 m 25 ls [])) {i2 : Int32} {i3 : Int32} {i4 : Int32} {i6 : Int32} {s0 : Int32} {M : Mem} {H : Heap} {locs : List Loc} {ls : Array Slot} (hf : b2_reckon_175  rc n i2 i3 i4 i6 s0 M = some (r, M')) (hP : va_P z.1 vwCl (pw (xd z b) 339 b M) H) (hS : va_S (pA 339 b) s.heap H locs) (hl : lv_has ls 8 [(0, .ref (b + 11)), (2, .int i2), (3, .int i3), (4, .int i4), (6, .int i6)]) : W p l e rm2_reckon s m args below meth c H locs 0 0 (MQ below (va_Qi (fun (r' : Int32) (M2 : Mem) => r' = r ∧ M2 = M') (fun M2 t => va_P z.1 vwCl (pw (xd z b) 339 b M2) t.heap) (pA 339 b)) args s 0 0 (pA 339 b)) (F0 m 175 ls [.int s0]) := by
  have hx := C.1.1
  have hb := C.1.2.1
  unfold b2_reckon_175 at hf
  refine lv_istore (lv' := [(7, .int s0), (0, .ref (b + 11)), (2, .int i2), (3, .int i3), (4, .int i4), (6, .int i6)]) hx hb dX2_reckon_175 hl (by decide) rfl (fun ls hl => ?_)
  refine lv_iload hx hb dX2_reckon_177 (lv_at hl 0 rfl) ?_
  refine lv_if_eq (tgt := 194) hx hb dX2_reckon_179 (by decide) (fun c41 => ?_) (fun c41 => ?_)
  · replace hf := ite_t c41 hf
    refine lv_iload hx hb dX2_reckon_194 (lv_at hl 4 rfl) ?_
    exact w2_reckon_196 (n := n)  C hr hk q25 hf hP hS (lv_sub hl [1, 2, 3, 0] rfl)
  · replace hf := ite_f c41 hf
    refine lv_iload hx hb dX2_reckon_182 (lv_at hl 4 rfl) ?_
    refine lv_iload hx hb dX2_reckon_184 (lv_at hl 5 rfl) ?_
    refine lv_iconst (v := (1 : Int32)) hx hb dX2_reckon_186 (by decide) ?_
    refine lv_isub hx hb dX2_reckon_187 ?_
    refine va_mmax hx hb (by rw [C.1.2.2.1]; exact hl.1.symm) C.1.2.2.2.1 (C.1.2.2.2.2 _ g_751) (C.1.2.2.2.2 _ g_564) (C.1.2.2.2.2 _ g_17) (C.1.2.2.2.2 _ g_565) (Nat.le_of_ble_eq_true rfl) (Nat.le_of_ble_eq_true rfl) (Nat.le_of_ble_eq_true rfl) (Nat.le_of_ble_eq_true rfl) dX2_reckon_188 ?_
    refine lv_goto (tgt := 196) hx hb dX2_reckon_191 (by decide) ?_
    exact w2_reckon_196 (n := n)  C hr hk q25 hf hP hS (lv_sub hl [1, 2, 3, 0] rfl)
set_option maxHeartbeats 4000000 in
set_option maxRecDepth 100000 in
theorem w2_reckon_167 {p : Program} {l : Launch} {e : Env} {s : State} {m : MethodId} {args : Array Value} {below : List Frame} {meth : Method} {c : Code} {z : Zt} {b : Nat}  (C : Cx p s m args c cX2_reckon 8 RX2 z 339 b) (hr : meth.sig.returnType = (some .int)) (hk : meth.locks = false) {r : Int32} {M' : Mem} {rc : Nat → List Int32 → List Int64 → Mem → Option (Int32 × Mem)} {n : Nat} (q25 : ∀ (i2 : Int32) (i3 : Int32) (i4 : Int32) (M : Mem) (H : Heap) (locs : List Loc) (ls : Array Slot), rc 25 [i2, i3, i4] [] M = some (r, M') → va_P z.1 vwCl (pw (xd z b) 339 b M) H → va_S (pA 339 b) s.heap H locs → lv_has ls 8 [(0, .ref (b + 11)), (2, .int i2), (3, .int i3), (4, .int i4)] → W p l e rm2_reckon s m args below meth c H locs 0 0 (MQ below (va_Qi (fun (r' : Int32) (M2 : Mem) => r' = r ∧ M2 = M') (fun M2 t => va_P z.1 vwCl (pw (xd z b) 339 b M2) t.heap) (pA 339 b)) args s 0 0 (pA 339 b)) (F0 m 25 ls [])) {i2 : Int32} {i3 : Int32} {i4 : Int32} {i6 : Int32} {s0 : Int32} {s1 : Int32} {M : Mem} {H : Heap} {locs : List Loc} {ls : Array Slot} (hf : b2_reckon_167  rc n i2 i3 i4 i6 s0 s1 M = some (r, M')) (hP : va_P z.1 vwCl (pw (xd z b) 339 b M) H) (hS : va_S (pA 339 b) s.heap H locs) (hl : lv_has ls 8 [(0, .ref (b + 11)), (2, .int i2), (3, .int i3), (4, .int i4), (6, .int i6)]) : W p l e rm2_reckon s m args below meth c H locs 0 0 (MQ below (va_Qi (fun (r' : Int32) (M2 : Mem) => r' = r ∧ M2 = M') (fun M2 t => va_P z.1 vwCl (pw (xd z b) 339 b M2) t.heap) (pA 339 b)) args s 0 0 (pA 339 b)) (F0 m 167 ls [.int s1, .int s0]) := by
  have hx := C.1.1
  have hb := C.1.2.1
  unfold b2_reckon_167 at hf
  refine lv_icmp_ne (tgt := 174) hx hb dX2_reckon_167 (by decide) (fun c40 => ?_) (fun c40 => ?_)
  · replace hf := ite_f c40 hf
    refine lv_iconst (v := (0 : Int32)) hx hb dX2_reckon_174 (by decide) ?_
    exact w2_reckon_175 (n := n)  C hr hk q25 hf hP hS (lv_sub hl [0, 1, 2, 3, 4] rfl)
  · replace hf := ite_t c40 hf
    refine lv_iconst (v := (1 : Int32)) hx hb dX2_reckon_170 (by decide) ?_
    refine lv_goto (tgt := 175) hx hb dX2_reckon_171 (by decide) ?_
    exact w2_reckon_175 (n := n)  C hr hk q25 hf hP hS (lv_sub hl [0, 1, 2, 3, 4] rfl)
set_option maxHeartbeats 4000000 in
set_option maxRecDepth 100000 in
theorem w2_reckon_155 {p : Program} {l : Launch} {e : Env} {s : State} {m : MethodId} {args : Array Value} {below : List Frame} {meth : Method} {c : Code} {z : Zt} {b : Nat}  (C : Cx p s m args c cX2_reckon 8 RX2 z 339 b) (hr : meth.sig.returnType = (some .int)) (hk : meth.locks = false) {r : Int32} {M' : Mem} {rc : Nat → List Int32 → List Int64 → Mem → Option (Int32 × Mem)} {n : Nat} (q25 : ∀ (i2 : Int32) (i3 : Int32) (i4 : Int32) (M : Mem) (H : Heap) (locs : List Loc) (ls : Array Slot), rc 25 [i2, i3, i4] [] M = some (r, M') → va_P z.1 vwCl (pw (xd z b) 339 b M) H → va_S (pA 339 b) s.heap H locs → lv_has ls 8 [(0, .ref (b + 11)), (2, .int i2), (3, .int i3), (4, .int i4)] → W p l e rm2_reckon s m args below meth c H locs 0 0 (MQ below (va_Qi (fun (r' : Int32) (M2 : Mem) => r' = r ∧ M2 = M') (fun M2 t => va_P z.1 vwCl (pw (xd z b) 339 b M2) t.heap) (pA 339 b)) args s 0 0 (pA 339 b)) (F0 m 25 ls [])) {i2 : Int32} {i3 : Int32} {i4 : Int32} {i5 : Int32} {i6 : Int32} {s0 : Int32} {M : Mem} {H : Heap} {locs : List Loc} {ls : Array Slot} (hf : b2_reckon_155  rc n i2 i3 i4 i5 i6 s0 M = some (r, M')) (hP : va_P z.1 vwCl (pw (xd z b) 339 b M) H) (hS : va_S (pA 339 b) s.heap H locs) (hl : lv_has ls 8 [(0, .ref (b + 11)), (2, .int i2), (3, .int i3), (4, .int i4), (5, .int i5), (6, .int i6)]) : W p l e rm2_reckon s m args below meth c H locs 0 0 (MQ below (va_Qi (fun (r' : Int32) (M2 : Mem) => r' = r ∧ M2 = M') (fun M2 t => va_P z.1 vwCl (pw (xd z b) 339 b M2) t.heap) (pA 339 b)) args s 0 0 (pA 339 b)) (F0 m 155 ls [.int s0]) := by
  have hx := C.1.1
  have hb := C.1.2.1
  unfold b2_reckon_155 at hf
  refine lv_iload hx hb dX2_reckon_155 (lv_at hl 4 rfl) ?_
  refine lv_bipush (v := (12 : Int32)) hx hb dX2_reckon_157 (by decide) ?_
  refine lv_icmp_ne (tgt := 166) hx hb dX2_reckon_159 (by decide) (fun c39 => ?_) (fun c39 => ?_)
  · replace hf := ite_f c39 hf
    refine lv_iconst (v := (0 : Int32)) hx hb dX2_reckon_166 (by decide) ?_
    exact w2_reckon_167 (n := n)  C hr hk q25 hf hP hS (lv_sub hl [0, 1, 2, 3, 5] rfl)
  · replace hf := ite_t c39 hf
    refine lv_iconst (v := (1 : Int32)) hx hb dX2_reckon_162 (by decide) ?_
    refine lv_goto (tgt := 167) hx hb dX2_reckon_163 (by decide) ?_
    exact w2_reckon_167 (n := n)  C hr hk q25 hf hP hS (lv_sub hl [0, 1, 2, 3, 5] rfl)
set_option maxHeartbeats 4000000 in
set_option maxRecDepth 100000 in
theorem w2_reckon_139 {p : Program} {l : Launch} {e : Env} {s : State} {m : MethodId} {args : Array Value} {below : List Frame} {meth : Method} {c : Code} {z : Zt} {b : Nat}  (C : Cx p s m args c cX2_reckon 8 RX2 z 339 b) (hr : meth.sig.returnType = (some .int)) (hk : meth.locks = false) {r : Int32} {M' : Mem} {rc : Nat → List Int32 → List Int64 → Mem → Option (Int32 × Mem)} {n : Nat} (q25 : ∀ (i2 : Int32) (i3 : Int32) (i4 : Int32) (M : Mem) (H : Heap) (locs : List Loc) (ls : Array Slot), rc 25 [i2, i3, i4] [] M = some (r, M') → va_P z.1 vwCl (pw (xd z b) 339 b M) H → va_S (pA 339 b) s.heap H locs → lv_has ls 8 [(0, .ref (b + 11)), (2, .int i2), (3, .int i3), (4, .int i4)] → W p l e rm2_reckon s m args below meth c H locs 0 0 (MQ below (va_Qi (fun (r' : Int32) (M2 : Mem) => r' = r ∧ M2 = M') (fun M2 t => va_P z.1 vwCl (pw (xd z b) 339 b M2) t.heap) (pA 339 b)) args s 0 0 (pA 339 b)) (F0 m 25 ls [])) {i2 : Int32} {i3 : Int32} {i4 : Int32} {i5 : Int32} {i6 : Int32} {M : Mem} {H : Heap} {locs : List Loc} {ls : Array Slot} (hf : b2_reckon_139  rc n i2 i3 i4 i5 i6 M = some (r, M')) (hP : va_P z.1 vwCl (pw (xd z b) 339 b M) H) (hS : va_S (pA 339 b) s.heap H locs) (hl : lv_has ls 8 [(0, .ref (b + 11)), (2, .int i2), (3, .int i3), (4, .int i4), (5, .int i5), (6, .int i6)]) : W p l e rm2_reckon s m args below meth c H locs 0 0 (MQ below (va_Qi (fun (r' : Int32) (M2 : Mem) => r' = r ∧ M2 = M') (fun M2 t => va_P z.1 vwCl (pw (xd z b) 339 b M2) t.heap) (pA 339 b)) args s 0 0 (pA 339 b)) (F0 m 139 ls []) := by
  have hx := C.1.1
  have hb := C.1.2.1
  unfold b2_reckon_139 at hf
  refine lv_aload_n hx hb dX2_reckon_139 rfl (lv_at hl 0 rfl) ?_
  refine pg C hP (k := 11) (j := 5) (Nat.le_of_ble_eq_true rfl) (xd_11 _ _) rfl iw_2 (Nat.le_of_ble_eq_true rfl) g_131 rfl rfl dX2_reckon_140 ?_
  refine lv_iload_n hx hb dX2_reckon_143 rfl (lv_at hl 1 rfl) ?_
  refine lv_iconst (v := (1 : Int32)) hx hb dX2_reckon_144 (by decide) ?_
  refine lv_isub hx hb dX2_reckon_145 ?_
  have h37 := chk_1 hf
  replace hf := chk_2 hf
  refine paI C hP (k := 16) (Nat.le_of_ble_eq_true rfl) (xd_16 _ _) h37 dX2_reckon_146 ?_
  refine lv_if_eq (tgt := 154) hx hb dX2_reckon_147 (by decide) (fun c38 => ?_) (fun c38 => ?_)
  · replace hf := ite_t c38 hf
    refine lv_iconst (v := (0 : Int32)) hx hb dX2_reckon_154 (by decide) ?_
    exact w2_reckon_155 (n := n)  C hr hk q25 hf hP hS (lv_sub hl [0, 1, 2, 3, 4, 5] rfl)
  · replace hf := ite_f c38 hf
    refine lv_iconst (v := (1 : Int32)) hx hb dX2_reckon_150 (by decide) ?_
    refine lv_goto (tgt := 155) hx hb dX2_reckon_151 (by decide) ?_
    exact w2_reckon_155 (n := n)  C hr hk q25 hf hP hS (lv_sub hl [0, 1, 2, 3, 4, 5] rfl)
set_option maxHeartbeats 4000000 in
set_option maxRecDepth 100000 in
theorem w2_reckon_266 {p : Program} {l : Launch} {e : Env} {s : State} {m : MethodId} {args : Array Value} {below : List Frame} {meth : Method} {c : Code} {z : Zt} {b : Nat}  (C : Cx p s m args c cX2_reckon 8 RX2 z 339 b) (hr : meth.sig.returnType = (some .int)) (hk : meth.locks = false) {r : Int32} {M' : Mem} {rc : Nat → List Int32 → List Int64 → Mem → Option (Int32 × Mem)} {n : Nat} (q25 : ∀ (i2 : Int32) (i3 : Int32) (i4 : Int32) (M : Mem) (H : Heap) (locs : List Loc) (ls : Array Slot), rc 25 [i2, i3, i4] [] M = some (r, M') → va_P z.1 vwCl (pw (xd z b) 339 b M) H → va_S (pA 339 b) s.heap H locs → lv_has ls 8 [(0, .ref (b + 11)), (2, .int i2), (3, .int i3), (4, .int i4)] → W p l e rm2_reckon s m args below meth c H locs 0 0 (MQ below (va_Qi (fun (r' : Int32) (M2 : Mem) => r' = r ∧ M2 = M') (fun M2 t => va_P z.1 vwCl (pw (xd z b) 339 b M2) t.heap) (pA 339 b)) args s 0 0 (pA 339 b)) (F0 m 25 ls []))  {M : Mem} {H : Heap} {locs : List Loc} {ls : Array Slot} (hf : b2_reckon_266  rc n  M = some (r, M')) (hP : va_P z.1 vwCl (pw (xd z b) 339 b M) H) (hS : va_S (pA 339 b) s.heap H locs) (hl : lv_has ls 8 []) : W p l e rm2_reckon s m args below meth c H locs 0 0 (MQ below (va_Qi (fun (r' : Int32) (M2 : Mem) => r' = r ∧ M2 = M') (fun M2 t => va_P z.1 vwCl (pw (xd z b) 339 b M2) t.heap) (pA 339 b)) args s 0 0 (pA 339 b)) (F0 m 266 ls []) := by
  have hx := C.1.1
  have hb := C.1.2.1
  unfold b2_reckon_266 at hf
  refine lv_iconst (v := (0 : Int32)) hx hb dX2_reckon_266 (by decide) ?_
  exact prI C hr hk hP hS hf dX2_reckon_267
set_option maxHeartbeats 4000000 in
set_option maxRecDepth 100000 in
theorem w2_reckon_268 {p : Program} {l : Launch} {e : Env} {s : State} {m : MethodId} {args : Array Value} {below : List Frame} {meth : Method} {c : Code} {z : Zt} {b : Nat}  (C : Cx p s m args c cX2_reckon 8 RX2 z 339 b) (hr : meth.sig.returnType = (some .int)) (hk : meth.locks = false) {r : Int32} {M' : Mem} {rc : Nat → List Int32 → List Int64 → Mem → Option (Int32 × Mem)} {n : Nat} (q25 : ∀ (i2 : Int32) (i3 : Int32) (i4 : Int32) (M : Mem) (H : Heap) (locs : List Loc) (ls : Array Slot), rc 25 [i2, i3, i4] [] M = some (r, M') → va_P z.1 vwCl (pw (xd z b) 339 b M) H → va_S (pA 339 b) s.heap H locs → lv_has ls 8 [(0, .ref (b + 11)), (2, .int i2), (3, .int i3), (4, .int i4)] → W p l e rm2_reckon s m args below meth c H locs 0 0 (MQ below (va_Qi (fun (r' : Int32) (M2 : Mem) => r' = r ∧ M2 = M') (fun M2 t => va_P z.1 vwCl (pw (xd z b) 339 b M2) t.heap) (pA 339 b)) args s 0 0 (pA 339 b)) (F0 m 25 ls [])) {i2 : Int32} {i3 : Int32} {i4 : Int32} {i5 : Int32} {M : Mem} {H : Heap} {locs : List Loc} {ls : Array Slot} (hf : b2_reckon_268  rc n i2 i3 i4 i5 M = some (r, M')) (hP : va_P z.1 vwCl (pw (xd z b) 339 b M) H) (hS : va_S (pA 339 b) s.heap H locs) (hl : lv_has ls 8 [(0, .ref (b + 11)), (2, .int i2), (3, .int i3), (4, .int i4), (5, .int i5)]) : W p l e rm2_reckon s m args below meth c H locs 0 0 (MQ below (va_Qi (fun (r' : Int32) (M2 : Mem) => r' = r ∧ M2 = M') (fun M2 t => va_P z.1 vwCl (pw (xd z b) 339 b M2) t.heap) (pA 339 b)) args s 0 0 (pA 339 b)) (F0 m 268 ls []) := by
  have hx := C.1.1
  have hb := C.1.2.1
  unfold b2_reckon_268 at hf
  obtain ⟨v29, ev29⟩ : ∃ v : Int32, v = i2 + (-1 : Int32) := ⟨_, rfl⟩
  replace hf := lt_c ev29 hf
  refine lv_iinc (v := v29) (lv' := [(2, .int v29), (0, .ref (b + 11)), (3, .int i3), (4, .int i4), (5, .int i5)]) hx hb dX2_reckon_268 hl (k := 1) rfl (by rw [ev29]; rfl) (by decide) rfl (fun ls hl => ?_)
  refine lv_aload_n hx hb dX2_reckon_271 rfl (lv_at hl 1 rfl) ?_
  refine pg C hP (k := 11) (j := 5) (Nat.le_of_ble_eq_true rfl) (xd_11 _ _) rfl iw_2 (Nat.le_of_ble_eq_true rfl) g_131 rfl rfl dX2_reckon_272 ?_
  refine lv_iload_n hx hb dX2_reckon_275 rfl (lv_at hl 0 rfl) ?_
  refine lv_iconst (v := (1 : Int32)) hx hb dX2_reckon_276 (by decide) ?_
  refine lv_isub hx hb dX2_reckon_277 ?_
  refine lv_iload hx hb dX2_reckon_278 (lv_at hl 4 rfl) ?_
  refine lv_aload_n hx hb dX2_reckon_280 rfl (lv_at hl 1 rfl) ?_
  refine pg C hP (k := 11) (j := 5) (Nat.le_of_ble_eq_true rfl) (xd_11 _ _) rfl iw_2 (Nat.le_of_ble_eq_true rfl) g_131 rfl rfl dX2_reckon_281 ?_
  refine lv_iload_n hx hb dX2_reckon_284 rfl (lv_at hl 0 rfl) ?_
  refine lv_iconst (v := (1 : Int32)) hx hb dX2_reckon_285 (by decide) ?_
  refine lv_isub hx hb dX2_reckon_286 ?_
  have h30 := chk_1 hf
  replace hf := chk_2 hf
  refine paI C hP (k := 16) (Nat.le_of_ble_eq_true rfl) (xd_16 _ _) h30 dX2_reckon_287 ?_
  refine lv_aload_n hx hb dX2_reckon_288 rfl (lv_at hl 1 rfl) ?_
  refine pg C hP (k := 11) (j := 5) (Nat.le_of_ble_eq_true rfl) (xd_11 _ _) rfl iw_2 (Nat.le_of_ble_eq_true rfl) g_131 rfl rfl dX2_reckon_289 ?_
  refine lv_iload_n hx hb dX2_reckon_292 rfl (lv_at hl 0 rfl) ?_
  have h31 := chk_1 hf
  replace hf := chk_2 hf
  refine paI C hP (k := 16) (Nat.le_of_ble_eq_true rfl) (xd_16 _ _) h31 dX2_reckon_293 ?_
  obtain ⟨r32, M33, h34, hf⟩ := bnd_s hf
  refine pcSi (As := [.int i5, .int (M.1 16 (v29 - (1 : Int32)).toNatClampNeg), .int (M.1 16 v29.toNatClampNeg)]) C hP hS (c2_joined  h34) y2_joined_w g_755 rfl rfl rfl ⟨Nat.le_of_ble_eq_true rfl, Nat.le_of_ble_eq_true rfl⟩ hl.1 rfl (Nat.le_of_ble_eq_true rfl) dX2_reckon_294 ⟨Nat.le_of_ble_eq_true rfl, Nat.le_of_ble_eq_true rfl⟩ (fun H locs hP hS => ?_)
  have h35 := chk_1 hf
  replace hf := chk_2 hf
  refine psI C hP hS (k := 16) (Nat.le_of_ble_eq_true rfl) (xd_16) h35 dX2_reckon_297 (fun M36 H locs eM36 hP hS => ?_)
  replace hf := lt_c eM36 hf
  exact w2_reckon_298 (n := n)  C hr hk q25 hf hP hS (lv_sub hl [1, 0, 2, 3] rfl)
set_option maxHeartbeats 4000000 in
set_option maxRecDepth 100000 in
theorem w2_reckon_25 {p : Program} {l : Launch} {e : Env} {s : State} {m : MethodId} {args : Array Value} {below : List Frame} {meth : Method} {c : Code} {z : Zt} {b : Nat}  (C : Cx p s m args c cX2_reckon 8 RX2 z 339 b) (hr : meth.sig.returnType = (some .int)) (hk : meth.locks = false) {r : Int32} {M' : Mem} {rc : Nat → List Int32 → List Int64 → Mem → Option (Int32 × Mem)} {n : Nat} (q25 : ∀ (i2 : Int32) (i3 : Int32) (i4 : Int32) (M : Mem) (H : Heap) (locs : List Loc) (ls : Array Slot), rc 25 [i2, i3, i4] [] M = some (r, M') → va_P z.1 vwCl (pw (xd z b) 339 b M) H → va_S (pA 339 b) s.heap H locs → lv_has ls 8 [(0, .ref (b + 11)), (2, .int i2), (3, .int i3), (4, .int i4)] → W p l e rm2_reckon s m args below meth c H locs 0 0 (MQ below (va_Qi (fun (r' : Int32) (M2 : Mem) => r' = r ∧ M2 = M') (fun M2 t => va_P z.1 vwCl (pw (xd z b) 339 b M2) t.heap) (pA 339 b)) args s 0 0 (pA 339 b)) (F0 m 25 ls [])) {i2 : Int32} {i3 : Int32} {i4 : Int32} {M : Mem} {H : Heap} {locs : List Loc} {ls : Array Slot} (hf : b2_reckon_25  rc n i2 i3 i4 M = some (r, M')) (hP : va_P z.1 vwCl (pw (xd z b) 339 b M) H) (hS : va_S (pA 339 b) s.heap H locs) (hl : lv_has ls 8 [(0, .ref (b + 11)), (2, .int i2), (3, .int i3), (4, .int i4)]) : W p l e rm2_reckon s m args below meth c H locs 0 0 (MQ below (va_Qi (fun (r' : Int32) (M2 : Mem) => r' = r ∧ M2 = M') (fun M2 t => va_P z.1 vwCl (pw (xd z b) 339 b M2) t.heap) (pA 339 b)) args s 0 0 (pA 339 b)) (F0 m 25 ls []) := by
  have hx := C.1.1
  have hb := C.1.2.1
  unfold b2_reckon_25 at hf
  refine lv_iload hx hb dX2_reckon_25 (lv_at hl 3 rfl) ?_
  refine lv_iload_n hx hb dX2_reckon_27 rfl (lv_at hl 2 rfl) ?_
  refine lv_icmp_ge (tgt := 304) hx hb dX2_reckon_28 (by decide) (fun c5 => ?_) (fun c5 => ?_)
  · replace hf := ite_t c5 hf
    refine lv_iload_n hx hb dX2_reckon_304 rfl (lv_at hl 1 rfl) ?_
    refine lv_if_le (tgt := 317) hx hb dX2_reckon_305 (by decide) (fun c6 => ?_) (fun c6 => ?_)
    · replace hf := ite_t c6 hf
      refine lv_iconst (v := (0 : Int32)) hx hb dX2_reckon_317 (by decide) ?_
      exact prI C hr hk hP hS hf dX2_reckon_318
    · replace hf := ite_f c6 hf
      refine lv_aload_n hx hb dX2_reckon_308 rfl (lv_at hl 0 rfl) ?_
      refine pg C hP (k := 11) (j := 5) (Nat.le_of_ble_eq_true rfl) (xd_11 _ _) rfl iw_2 (Nat.le_of_ble_eq_true rfl) g_131 rfl rfl dX2_reckon_309 ?_
      refine lv_iconst (v := (0 : Int32)) hx hb dX2_reckon_312 (by decide) ?_
      have h7 := chk_1 hf
      replace hf := chk_2 hf
      refine paI C hP (k := 16) (Nat.le_of_ble_eq_true rfl) (xd_16 _ _) h7 dX2_reckon_313 ?_
      refine lv_goto (tgt := 318) hx hb dX2_reckon_314 (by decide) ?_
      exact prI C hr hk hP hS hf dX2_reckon_318
  · replace hf := ite_f c5 hf
    refine lv_aload_n hx hb dX2_reckon_31 rfl (lv_at hl 0 rfl) ?_
    refine pg C hP (k := 11) (j := 0) (Nat.le_of_ble_eq_true rfl) (xd_11 _ _) rfl iw_2 (Nat.le_of_ble_eq_true rfl) g_125 rfl rfl dX2_reckon_32 ?_
    refine lv_iload hx hb dX2_reckon_35 (lv_at hl 3 rfl) ?_
    have h8 := chk_1 hf
    replace hf := chk_2 hf
    refine paI C hP (k := 12) (Nat.le_of_ble_eq_true rfl) (xd_12 _ _) h8 dX2_reckon_37 ?_
    refine lv_bipush (v := (15 : Int32)) hx hb dX2_reckon_38 (by decide) ?_
    refine lv_iand hx hb dX2_reckon_40 ?_
    refine lv_topi (fun v9 ev9 => ?_)
    replace hf := lt_c ev9 hf
    refine lv_istore (lv' := [(5, .int v9), (0, .ref (b + 11)), (2, .int i2), (3, .int i3), (4, .int i4)]) hx hb dX2_reckon_41 hl (by decide) rfl (fun ls hl => ?_)
    refine lv_aload_n hx hb dX2_reckon_43 rfl (lv_at hl 1 rfl) ?_
    refine pg C hP (k := 11) (j := 0) (Nat.le_of_ble_eq_true rfl) (xd_11 _ _) rfl iw_2 (Nat.le_of_ble_eq_true rfl) g_125 rfl rfl dX2_reckon_44 ?_
    refine lv_iload hx hb dX2_reckon_47 (lv_at hl 4 rfl) ?_
    have h10 := chk_1 hf
    replace hf := chk_2 hf
    refine paI C hP (k := 12) (Nat.le_of_ble_eq_true rfl) (xd_12 _ _) h10 dX2_reckon_49 ?_
    refine lv_iconst (v := (4 : Int32)) hx hb dX2_reckon_50 (by decide) ?_
    refine lv_iushr hx hb dX2_reckon_51 rfl ?_
    refine lv_topi (fun v11 ev11 => ?_)
    replace hf := lt_c ev11 hf
    refine lv_istore (lv' := [(6, .int v11), (5, .int v9), (0, .ref (b + 11)), (2, .int i2), (3, .int i3), (4, .int i4)]) hx hb dX2_reckon_52 hl (by decide) rfl (fun ls hl => ?_)
    refine lv_iload hx hb dX2_reckon_54 (lv_at hl 1 rfl) ?_
    refine lv_if_eq (tgt := 65) hx hb dX2_reckon_56 (by decide) (fun c12 => ?_) (fun c12 => ?_)
    · replace hf := ite_t c12 hf
      exact w2_reckon_65 (n := n)  C hr hk q25 hf hP hS (lv_sub hl [2, 3, 4, 5, 1, 0] rfl)
    · replace hf := ite_f c12 hf
      refine lv_iload hx hb dX2_reckon_59 (lv_at hl 1 rfl) ?_
      refine lv_iconst (v := (1 : Int32)) hx hb dX2_reckon_61 (by decide) ?_
      refine lv_icmp_ne (tgt := 118) hx hb dX2_reckon_62 (by decide) (fun c13 => ?_) (fun c13 => ?_)
      · replace hf := ite_f c13 hf
        refine lv_iload_n hx hb dX2_reckon_118 rfl (lv_at hl 3 rfl) ?_
        refine lv_iconst (v := (1 : Int32)) hx hb dX2_reckon_119 (by decide) ?_
        refine lv_icmp_ge (tgt := 125) hx hb dX2_reckon_120 (by decide) (fun c14 => ?_) (fun c14 => ?_)
        · replace hf := ite_t c14 hf
          refine lv_iload hx hb dX2_reckon_125 (lv_at hl 1 rfl) ?_
          refine lv_bipush (v := (11 : Int32)) hx hb dX2_reckon_127 (by decide) ?_
          refine lv_icmp_eq (tgt := 139) hx hb dX2_reckon_129 (by decide) (fun c15 => ?_) (fun c15 => ?_)
          · replace hf := ite_t c15 hf
            exact w2_reckon_139 (n := n)  C hr hk q25 hf hP hS (lv_sub hl [2, 3, 4, 5, 1, 0] rfl)
          · replace hf := ite_f c15 hf
            refine lv_iload hx hb dX2_reckon_132 (lv_at hl 1 rfl) ?_
            refine lv_bipush (v := (12 : Int32)) hx hb dX2_reckon_134 (by decide) ?_
            refine lv_icmp_ne (tgt := 214) hx hb dX2_reckon_136 (by decide) (fun c16 => ?_) (fun c16 => ?_)
            · replace hf := ite_f c16 hf
              refine lv_iload hx hb dX2_reckon_214 (lv_at hl 1 rfl) ?_
              refine lv_bipush (v := (10 : Int32)) hx hb dX2_reckon_216 (by decide) ?_
              refine lv_icmp_ne (tgt := 242) hx hb dX2_reckon_218 (by decide) (fun c17 => ?_) (fun c17 => ?_)
              · replace hf := ite_f c17 hf
                refine lv_iload_n hx hb dX2_reckon_242 rfl (lv_at hl 3 rfl) ?_
                refine lv_iconst (v := (2 : Int32)) hx hb dX2_reckon_243 (by decide) ?_
                refine lv_icmp_lt (tgt := 266) hx hb dX2_reckon_244 (by decide) (fun c18 => ?_) (fun c18 => ?_)
                · replace hf := ite_t c18 hf
                  exact w2_reckon_266 (n := n)  C hr hk q25 hf hP hS (lv_sub hl [] rfl)
                · replace hf := ite_f c18 hf
                  refine lv_iload hx hb dX2_reckon_247 (lv_at hl 1 rfl) ?_
                  obtain ⟨r19, M20, h21, hf⟩ := bnd_s hf
                  refine pcSi (As := [.int v9]) C hP hS (c2_isDivision  h21) y2_isDivision_w g_752 rfl rfl rfl ⟨Nat.le_of_ble_eq_true rfl, Nat.le_of_ble_eq_true rfl⟩ hl.1 rfl (Nat.le_of_ble_eq_true rfl) dX2_reckon_249 ⟨Nat.le_of_ble_eq_true rfl, Nat.le_of_ble_eq_true rfl⟩ (fun H locs hP hS => ?_)
                  refine lv_if_eq (tgt := 268) hx hb dX2_reckon_252 (by decide) (fun c22 => ?_) (fun c22 => ?_)
                  · replace hf := ite_t c22 hf
                    exact w2_reckon_268 (n := n)  C hr hk q25 hf hP hS (lv_sub hl [2, 3, 4, 5, 1] rfl)
                  · replace hf := ite_f c22 hf
                    refine lv_aload_n hx hb dX2_reckon_255 rfl (lv_at hl 2 rfl) ?_
                    refine pg C hP (k := 11) (j := 5) (Nat.le_of_ble_eq_true rfl) (xd_11 _ _) rfl iw_2 (Nat.le_of_ble_eq_true rfl) g_131 rfl rfl dX2_reckon_256 ?_
                    refine lv_iload_n hx hb dX2_reckon_259 rfl (lv_at hl 3 rfl) ?_
                    refine lv_iconst (v := (1 : Int32)) hx hb dX2_reckon_260 (by decide) ?_
                    refine lv_isub hx hb dX2_reckon_261 ?_
                    have h23 := chk_1 hf
                    replace hf := chk_2 hf
                    refine paI C hP (k := 16) (Nat.le_of_ble_eq_true rfl) (xd_16 _ _) h23 dX2_reckon_262 ?_
                    refine lv_if_ne (tgt := 268) hx hb dX2_reckon_263 (by decide) (fun c24 => ?_) (fun c24 => ?_)
                    · replace hf := ite_f c24 hf
                      exact w2_reckon_268 (n := n)  C hr hk q25 hf hP hS (lv_sub hl [2, 3, 4, 5, 1] rfl)
                    · replace hf := ite_t c24 hf
                      exact w2_reckon_266 (n := n)  C hr hk q25 hf hP hS (lv_sub hl [] rfl)
              · replace hf := ite_t c17 hf
                refine lv_aload_n hx hb dX2_reckon_221 rfl (lv_at hl 2 rfl) ?_
                refine pg C hP (k := 11) (j := 5) (Nat.le_of_ble_eq_true rfl) (xd_11 _ _) rfl iw_2 (Nat.le_of_ble_eq_true rfl) g_131 rfl rfl dX2_reckon_222 ?_
                refine lv_iload_n hx hb dX2_reckon_225 rfl (lv_at hl 3 rfl) ?_
                refine lv_iconst (v := (1 : Int32)) hx hb dX2_reckon_226 (by decide) ?_
                refine lv_isub hx hb dX2_reckon_227 ?_
                refine lv_iconst (v := (1 : Int32)) hx hb dX2_reckon_228 (by decide) ?_
                refine lv_aload_n hx hb dX2_reckon_229 rfl (lv_at hl 2 rfl) ?_
                refine pg C hP (k := 11) (j := 5) (Nat.le_of_ble_eq_true rfl) (xd_11 _ _) rfl iw_2 (Nat.le_of_ble_eq_true rfl) g_131 rfl rfl dX2_reckon_230 ?_
                refine lv_iload_n hx hb dX2_reckon_233 rfl (lv_at hl 3 rfl) ?_
                refine lv_iconst (v := (1 : Int32)) hx hb dX2_reckon_234 (by decide) ?_
                refine lv_isub hx hb dX2_reckon_235 ?_
                have h25 := chk_1 hf
                replace hf := chk_2 hf
                refine paI C hP (k := 16) (Nat.le_of_ble_eq_true rfl) (xd_16 _ _) h25 dX2_reckon_236 ?_
                refine lv_isub hx hb dX2_reckon_237 ?_
                have h26 := chk_1 hf
                replace hf := chk_2 hf
                refine psI C hP hS (k := 16) (Nat.le_of_ble_eq_true rfl) (xd_16) h26 dX2_reckon_238 (fun M27 H locs eM27 hP hS => ?_)
                replace hf := lt_c eM27 hf
                refine lv_goto (tgt := 298) hx hb dX2_reckon_239 (by decide) ?_
                exact w2_reckon_298 (n := n)  C hr hk q25 hf hP hS (lv_sub hl [2, 3, 4, 5] rfl)
            · replace hf := ite_t c16 hf
              exact w2_reckon_139 (n := n)  C hr hk q25 hf hP hS (lv_sub hl [2, 3, 4, 5, 1, 0] rfl)
        · replace hf := ite_f c14 hf
          refine lv_iconst (v := (0 : Int32)) hx hb dX2_reckon_123 (by decide) ?_
          exact prI C hr hk hP hS hf dX2_reckon_124
      · replace hf := ite_t c13 hf
        exact w2_reckon_65 (n := n)  C hr hk q25 hf hP hS (lv_sub hl [2, 3, 4, 5, 1, 0] rfl)
set_option maxHeartbeats 4000000 in
set_option maxRecDepth 100000 in
theorem w2_reckon_0 {p : Program} {l : Launch} {e : Env} {s : State} {m : MethodId} {args : Array Value} {below : List Frame} {meth : Method} {c : Code} {z : Zt} {b : Nat}  (C : Cx p s m args c cX2_reckon 8 RX2 z 339 b) (hr : meth.sig.returnType = (some .int)) (hk : meth.locks = false) {r : Int32} {M' : Mem} {rc : Nat → List Int32 → List Int64 → Mem → Option (Int32 × Mem)} {n : Nat} (q25 : ∀ (i2 : Int32) (i3 : Int32) (i4 : Int32) (M : Mem) (H : Heap) (locs : List Loc) (ls : Array Slot), rc 25 [i2, i3, i4] [] M = some (r, M') → va_P z.1 vwCl (pw (xd z b) 339 b M) H → va_S (pA 339 b) s.heap H locs → lv_has ls 8 [(0, .ref (b + 11)), (2, .int i2), (3, .int i3), (4, .int i4)] → W p l e rm2_reckon s m args below meth c H locs 0 0 (MQ below (va_Qi (fun (r' : Int32) (M2 : Mem) => r' = r ∧ M2 = M') (fun M2 t => va_P z.1 vwCl (pw (xd z b) 339 b M2) t.heap) (pA 339 b)) args s 0 0 (pA 339 b)) (F0 m 25 ls [])) {a1 : Int32} {M : Mem} {H : Heap} {locs : List Loc} {ls : Array Slot} (hf : b2_reckon_0  rc n a1 M = some (r, M')) (hP : va_P z.1 vwCl (pw (xd z b) 339 b M) H) (hS : va_S (pA 339 b) s.heap H locs) (hl : lv_has ls 8 [(0, .ref (b + 11)), (1, .int a1)]) : W p l e rm2_reckon s m args below meth c H locs 0 0 (MQ below (va_Qi (fun (r' : Int32) (M2 : Mem) => r' = r ∧ M2 = M') (fun M2 t => va_P z.1 vwCl (pw (xd z b) 339 b M2) t.heap) (pA 339 b)) args s 0 0 (pA 339 b)) (F0 m 0 ls []) := by
  have hx := C.1.1
  have hb := C.1.2.1
  unfold b2_reckon_0 at hf
  refine lv_iconst (v := (0 : Int32)) hx hb dX2_reckon_0 (by decide) ?_
  refine lv_istore_n (lv' := [(2, .int (0 : Int32)), (0, .ref (b + 11)), (1, .int a1)]) hx hb dX2_reckon_1 rfl hl (by decide) rfl (fun ls hl => ?_)
  refine lv_aload_n hx hb dX2_reckon_2 rfl (lv_at hl 1 rfl) ?_
  refine pg C hP (k := 11) (j := 1) (Nat.le_of_ble_eq_true rfl) (xd_11 _ _) rfl iw_2 (Nat.le_of_ble_eq_true rfl) g_126 rfl rfl dX2_reckon_3 ?_
  refine lv_iload_n hx hb dX2_reckon_6 rfl (lv_at hl 2 rfl) ?_
  refine lv_iconst (v := (1 : Int32)) hx hb dX2_reckon_7 (by decide) ?_
  refine lv_iadd hx hb dX2_reckon_8 ?_
  have h1 := chk_1 hf
  replace hf := chk_2 hf
  refine paI C hP (k := 13) (Nat.le_of_ble_eq_true rfl) (xd_13 _ _) h1 dX2_reckon_9 ?_
  refine lv_sipush (v := (240 : Int32)) hx hb dX2_reckon_10 (by decide) ?_
  refine va_mmin hx hb (by rw [C.1.2.2.1]; exact hl.1.symm) C.1.2.2.2.1 (C.1.2.2.2.2 _ g_750) (C.1.2.2.2.2 _ g_567) (C.1.2.2.2.2 _ g_17) (C.1.2.2.2.2 _ g_568) (Nat.le_of_ble_eq_true rfl) (Nat.le_of_ble_eq_true rfl) (Nat.le_of_ble_eq_true rfl) (Nat.le_of_ble_eq_true rfl) dX2_reckon_13 ?_
  refine lv_topi (fun v2 ev2 => ?_)
  replace hf := lt_c ev2 hf
  refine lv_istore_n (lv' := [(3, .int v2), (2, .int (0 : Int32)), (0, .ref (b + 11)), (1, .int a1)]) hx hb dX2_reckon_16 rfl hl (by decide) rfl (fun ls hl => ?_)
  refine lv_aload_n hx hb dX2_reckon_17 rfl (lv_at hl 2 rfl) ?_
  refine pg C hP (k := 11) (j := 1) (Nat.le_of_ble_eq_true rfl) (xd_11 _ _) rfl iw_2 (Nat.le_of_ble_eq_true rfl) g_126 rfl rfl dX2_reckon_18 ?_
  refine lv_iload_n hx hb dX2_reckon_21 rfl (lv_at hl 3 rfl) ?_
  have h3 := chk_1 hf
  replace hf := chk_2 hf
  refine paI C hP (k := 13) (Nat.le_of_ble_eq_true rfl) (xd_13 _ _) h3 dX2_reckon_22 ?_
  refine lv_topi (fun v4 ev4 => ?_)
  replace hf := lt_c ev4 hf
  refine lv_istore (lv' := [(4, .int v4), (3, .int v2), (2, .int (0 : Int32)), (0, .ref (b + 11)), (1, .int a1)]) hx hb dX2_reckon_23 hl (by decide) rfl (fun ls hl => ?_)
  exact w2_reckon_25 (n := n)  C hr hk q25 hf hP hS (lv_sub hl [3, 2, 1, 0] rfl)
set_option maxHeartbeats 4000000 in
set_option maxRecDepth 100000 in
theorem l2_reckon {p : Program} {l : Launch} {e : Env} {s : State} {m : MethodId} {args : Array Value} {below : List Frame} {meth : Method} {c : Code} {z : Zt} {b : Nat}  (C : Cx p s m args c cX2_reckon 8 RX2 z 339 b) (hr : meth.sig.returnType = (some .int)) (hk : meth.locks = false) {r : Int32} {M' : Mem} (n : Nat) : (∀ (i2 : Int32) (i3 : Int32) (i4 : Int32) (M : Mem) (H : Heap) (locs : List Loc) (ls : Array Slot), (r2_reckon  n) 25 [i2, i3, i4] [] M = some (r, M') → va_P z.1 vwCl (pw (xd z b) 339 b M) H → va_S (pA 339 b) s.heap H locs → lv_has ls 8 [(0, .ref (b + 11)), (2, .int i2), (3, .int i3), (4, .int i4)] → W p l e rm2_reckon s m args below meth c H locs 0 0 (MQ below (va_Qi (fun (r' : Int32) (M2 : Mem) => r' = r ∧ M2 = M') (fun M2 t => va_P z.1 vwCl (pw (xd z b) 339 b M2) t.heap) (pA 339 b)) args s 0 0 (pA 339 b)) (F0 m 25 ls [])) := by
  induction n with
  | zero => exact fun _ _ _ _ _ _ _ hf => (by cases hf)
  | succ n ih => exact fun _ _ _ _ _ _ _ hf hP hS hl => w2_reckon_25 (n := n)  C hr hk ih ((e2_reckon_25  n _ _ _ _).symm.trans hf) hP hS hl
theorem c2_reckon {l : Launch} {z : Zt} {b n : Nat}  {a1 : Int32} {M M' : Mem} {r : Int32} (hf : f2_reckon n  a1 M = some (r, M')) : CI l z (xd z b) 339 b yX2_reckon cX2_reckon 8 (some .int) rm2_reckon [.ref (b + 11), .int a1] M M' r :=
  CI.ofW (lv := [(0, .ref (b + 11)), (1, .int a1)]) (by decide) (Nat.le_of_ble_eq_true rfl) rfl (fun p e s m args below meth c ls C hr hk hP hS hl => w2_reckon_0 (n := n)  C hr hk (l2_reckon  C hr hk n) hf hP hS hl)

-- BronzeKing$Law.valueOf(II)I
theorem dX2_valueOf_0 : decode cX2_valueOf 0 = .ok (.iconst 0, 1) := by decide +kernel
theorem dX2_valueOf_1 : decode cX2_valueOf 1 = .ok (.istore_n 3, 1) := by decide +kernel
theorem dX2_valueOf_2 : decode cX2_valueOf 2 = .ok (.iload_n 3, 1) := by decide +kernel
theorem dX2_valueOf_3 : decode cX2_valueOf 3 = .ok (.aload_n 0, 1) := by decide +kernel
theorem dX2_valueOf_4 : decode cX2_valueOf 4 = .ok (.getfield 21, 3) := by decide +kernel
theorem dX2_valueOf_7 : decode cX2_valueOf 7 = .ok (.if_icmp .ge 53, 3) := by decide +kernel
theorem dX2_valueOf_10 : decode cX2_valueOf 10 = .ok (.iload_n 3, 1) := by decide +kernel
theorem dX2_valueOf_11 : decode cX2_valueOf 11 = .ok (.bipush 16, 2) := by decide +kernel
theorem dX2_valueOf_13 : decode cX2_valueOf 13 = .ok (.if_icmp .ge 47, 3) := by decide +kernel
theorem dX2_valueOf_16 : decode cX2_valueOf 16 = .ok (.aload_n 0, 1) := by decide +kernel
theorem dX2_valueOf_17 : decode cX2_valueOf 17 = .ok (.getfield 18, 3) := by decide +kernel
theorem dX2_valueOf_20 : decode cX2_valueOf 20 = .ok (.iload_n 3, 1) := by decide +kernel
theorem dX2_valueOf_21 : decode cX2_valueOf 21 = .ok (.iaload, 1) := by decide +kernel
theorem dX2_valueOf_22 : decode cX2_valueOf 22 = .ok (.iload_n 1, 1) := by decide +kernel
theorem dX2_valueOf_23 : decode cX2_valueOf 23 = .ok (.if_icmp .ne 31, 3) := by decide +kernel
theorem dX2_valueOf_26 : decode cX2_valueOf 26 = .ok (.aload_n 0, 1) := by decide +kernel
theorem dX2_valueOf_27 : decode cX2_valueOf 27 = .ok (.iconst 2, 1) := by decide +kernel
theorem dX2_valueOf_28 : decode cX2_valueOf 28 = .ok (.iload_n 3, 1) := by decide +kernel
theorem dX2_valueOf_29 : decode cX2_valueOf 29 = .ok (.imul, 1) := by decide +kernel
theorem dX2_valueOf_30 : decode cX2_valueOf 30 = .ok (.iconst 1, 1) := by decide +kernel
theorem dX2_valueOf_31 : decode cX2_valueOf 31 = .ok (.iadd, 1) := by decide +kernel
theorem dX2_valueOf_32 : decode cX2_valueOf 32 = .ok (.invokevirtual 60, 3) := by decide +kernel
theorem dX2_valueOf_35 : decode cX2_valueOf 35 = .ok (.ifCond .eq 19, 3) := by decide +kernel
theorem dX2_valueOf_38 : decode cX2_valueOf 38 = .ok (.iconst 0, 1) := by decide +kernel
theorem dX2_valueOf_39 : decode cX2_valueOf 39 = .ok (.iload_n 2, 1) := by decide +kernel
theorem dX2_valueOf_40 : decode cX2_valueOf 40 = .ok (.aload_n 0, 1) := by decide +kernel
theorem dX2_valueOf_41 : decode cX2_valueOf 41 = .ok (.iconst 2, 1) := by decide +kernel
theorem dX2_valueOf_42 : decode cX2_valueOf 42 = .ok (.iload_n 3, 1) := by decide +kernel
theorem dX2_valueOf_43 : decode cX2_valueOf 43 = .ok (.imul, 1) := by decide +kernel
theorem dX2_valueOf_44 : decode cX2_valueOf 44 = .ok (.invokevirtual 60, 3) := by decide +kernel
theorem dX2_valueOf_47 : decode cX2_valueOf 47 = .ok (.invokestatic 64, 3) := by decide +kernel
theorem dX2_valueOf_50 : decode cX2_valueOf 50 = .ok (.invokestatic 69, 3) := by decide +kernel
theorem dX2_valueOf_53 : decode cX2_valueOf 53 = .ok (.ireturn, 1) := by decide +kernel
theorem dX2_valueOf_54 : decode cX2_valueOf 54 = .ok (.iinc 3 1, 3) := by decide +kernel
theorem dX2_valueOf_57 : decode cX2_valueOf 57 = .ok (.goto (-55), 3) := by decide +kernel
theorem dX2_valueOf_60 : decode cX2_valueOf 60 = .ok (.iconst 0, 1) := by decide +kernel
theorem dX2_valueOf_61 : decode cX2_valueOf 61 = .ok (.ireturn, 1) := by decide +kernel
def b2_valueOf_60 (rc : Nat → List Int32 → List Int64 → Mem → Option (Int32 × Mem)) (n : Nat) (M : Mem) : Option (Int32 × Mem) :=
  some ((0 : Int32), M)
def b2_valueOf_54 (rc : Nat → List Int32 → List Int64 → Mem → Option (Int32 × Mem)) (n : Nat) (i1 : Int32) (i2 : Int32) (i3 : Int32) (M : Mem) : Option (Int32 × Mem) :=
  lt (i3 + (1 : Int32)) fun v12 =>
  rc 2 [i1, i2, v12] [] M
def b2_valueOf_2 (rc : Nat → List Int32 → List Int64 → Mem → Option (Int32 × Mem)) (n : Nat) (i1 : Int32) (i2 : Int32) (i3 : Int32) (M : Mem) : Option (Int32 × Mem) :=
  (if (M.1 11 3) ≤ i3 then (
   b2_valueOf_60  rc n  M)
  else (
   (if (16 : Int32) ≤ i3 then (
    b2_valueOf_60  rc n  M)
   else (
    chk (inb i3 16) <|
    (if (M.1 14 i3.toNatClampNeg) = i1 then (
     bnd (f2_reckon n (((2 : Int32) * i3) + (1 : Int32)) M) fun r5 M6 =>
     (if r5 = 0 then (
      b2_valueOf_54  rc n i1 i2 i3 M6)
     else (
      bnd (f2_reckon n ((2 : Int32) * i3) M6) fun r9 M10 =>
      some ((if (0 : Int32) < (if r9 < i2 then r9 else i2) then (if r9 < i2 then r9 else i2) else (0 : Int32)), M10))))
    else (
     b2_valueOf_54  rc n i1 i2 i3 M))))))
def b2_valueOf_0 (rc : Nat → List Int32 → List Int64 → Mem → Option (Int32 × Mem)) (n : Nat) (a1 : Int32) (a2 : Int32) (M : Mem) : Option (Int32 × Mem) :=
  b2_valueOf_2  rc n a1 a2 (0 : Int32) M
def r2_valueOf : Nat → Nat → List Int32 → List Int64 → Mem → Option (Int32 × Mem)
  | 0 => fun _ _ _ _ => none
  | n + 1 => fun pc li lj M =>
    if pc = 2 then (match li, lj with | [i1, i2, i3], [] => b2_valueOf_2  (r2_valueOf  n) n i1 i2 i3 M | _, _ => none) else
    none
theorem e2_valueOf_2  (n : Nat) (i1 : Int32) (i2 : Int32) (i3 : Int32) (M : Mem) : r2_valueOf  (n + 1) 2 [i1, i2, i3] [] M = b2_valueOf_2  (r2_valueOf  n) n i1 i2 i3 M := by
  rw [r2_valueOf]
  simp
def f2_valueOf (n : Nat) (a1 : Int32) (a2 : Int32) (M : Mem) : Option (Int32 × Mem) := b2_valueOf_0 (r2_valueOf n) n a1 a2 M
abbrev rm2_valueOf : Room := { frames := 2, cells := 0, slots := 0, locals := 49 }
theorem y2_valueOf_w : yV RX2 yX2_valueOf cX2_valueOf 4 (some .int) 2 := ⟨g_743, g_744, g_6, g_745, rfl, by decide, by decide, by decide +kernel⟩
set_option maxHeartbeats 4000000 in
set_option maxRecDepth 100000 in
theorem w2_valueOf_60 {p : Program} {l : Launch} {e : Env} {s : State} {m : MethodId} {args : Array Value} {below : List Frame} {meth : Method} {c : Code} {z : Zt} {b : Nat}  (C : Cx p s m args c cX2_valueOf 4 RX2 z 339 b) (hr : meth.sig.returnType = (some .int)) (hk : meth.locks = false) {r : Int32} {M' : Mem} {rc : Nat → List Int32 → List Int64 → Mem → Option (Int32 × Mem)} {n : Nat} (q2 : ∀ (i1 : Int32) (i2 : Int32) (i3 : Int32) (M : Mem) (H : Heap) (locs : List Loc) (ls : Array Slot), rc 2 [i1, i2, i3] [] M = some (r, M') → va_P z.1 vwCl (pw (xd z b) 339 b M) H → va_S (pA 339 b) s.heap H locs → lv_has ls 4 [(0, .ref (b + 11)), (1, .int i1), (2, .int i2), (3, .int i3)] → W p l e rm2_valueOf s m args below meth c H locs 0 0 (MQ below (va_Qi (fun (r' : Int32) (M2 : Mem) => r' = r ∧ M2 = M') (fun M2 t => va_P z.1 vwCl (pw (xd z b) 339 b M2) t.heap) (pA 339 b)) args s 0 0 (pA 339 b)) (F0 m 2 ls []))  {M : Mem} {H : Heap} {locs : List Loc} {ls : Array Slot} (hf : b2_valueOf_60  rc n  M = some (r, M')) (hP : va_P z.1 vwCl (pw (xd z b) 339 b M) H) (hS : va_S (pA 339 b) s.heap H locs) (hl : lv_has ls 4 []) : W p l e rm2_valueOf s m args below meth c H locs 0 0 (MQ below (va_Qi (fun (r' : Int32) (M2 : Mem) => r' = r ∧ M2 = M') (fun M2 t => va_P z.1 vwCl (pw (xd z b) 339 b M2) t.heap) (pA 339 b)) args s 0 0 (pA 339 b)) (F0 m 60 ls []) := by
  have hx := C.1.1
  have hb := C.1.2.1
  unfold b2_valueOf_60 at hf
  refine lv_iconst (v := (0 : Int32)) hx hb dX2_valueOf_60 (by decide) ?_
  exact prI C hr hk hP hS hf dX2_valueOf_61
set_option maxHeartbeats 4000000 in
set_option maxRecDepth 100000 in
theorem w2_valueOf_54 {p : Program} {l : Launch} {e : Env} {s : State} {m : MethodId} {args : Array Value} {below : List Frame} {meth : Method} {c : Code} {z : Zt} {b : Nat}  (C : Cx p s m args c cX2_valueOf 4 RX2 z 339 b) (hr : meth.sig.returnType = (some .int)) (hk : meth.locks = false) {r : Int32} {M' : Mem} {rc : Nat → List Int32 → List Int64 → Mem → Option (Int32 × Mem)} {n : Nat} (q2 : ∀ (i1 : Int32) (i2 : Int32) (i3 : Int32) (M : Mem) (H : Heap) (locs : List Loc) (ls : Array Slot), rc 2 [i1, i2, i3] [] M = some (r, M') → va_P z.1 vwCl (pw (xd z b) 339 b M) H → va_S (pA 339 b) s.heap H locs → lv_has ls 4 [(0, .ref (b + 11)), (1, .int i1), (2, .int i2), (3, .int i3)] → W p l e rm2_valueOf s m args below meth c H locs 0 0 (MQ below (va_Qi (fun (r' : Int32) (M2 : Mem) => r' = r ∧ M2 = M') (fun M2 t => va_P z.1 vwCl (pw (xd z b) 339 b M2) t.heap) (pA 339 b)) args s 0 0 (pA 339 b)) (F0 m 2 ls [])) {i1 : Int32} {i2 : Int32} {i3 : Int32} {M : Mem} {H : Heap} {locs : List Loc} {ls : Array Slot} (hf : b2_valueOf_54  rc n i1 i2 i3 M = some (r, M')) (hP : va_P z.1 vwCl (pw (xd z b) 339 b M) H) (hS : va_S (pA 339 b) s.heap H locs) (hl : lv_has ls 4 [(0, .ref (b + 11)), (1, .int i1), (2, .int i2), (3, .int i3)]) : W p l e rm2_valueOf s m args below meth c H locs 0 0 (MQ below (va_Qi (fun (r' : Int32) (M2 : Mem) => r' = r ∧ M2 = M') (fun M2 t => va_P z.1 vwCl (pw (xd z b) 339 b M2) t.heap) (pA 339 b)) args s 0 0 (pA 339 b)) (F0 m 54 ls []) := by
  have hx := C.1.1
  have hb := C.1.2.1
  unfold b2_valueOf_54 at hf
  obtain ⟨v12, ev12⟩ : ∃ v : Int32, v = i3 + (1 : Int32) := ⟨_, rfl⟩
  replace hf := lt_c ev12 hf
  refine lv_iinc (v := v12) (lv' := [(3, .int v12), (0, .ref (b + 11)), (1, .int i1), (2, .int i2)]) hx hb dX2_valueOf_54 hl (k := 3) rfl (by rw [ev12]; rfl) (by decide) rfl (fun ls hl => ?_)
  refine lv_goto (tgt := 2) hx hb dX2_valueOf_57 (by decide) ?_
  exact q2 i1 i2 v12 M _ _ _ hf hP hS (lv_sub hl [1, 2, 3, 0] rfl)
set_option maxHeartbeats 4000000 in
set_option maxRecDepth 100000 in
theorem w2_valueOf_2 {p : Program} {l : Launch} {e : Env} {s : State} {m : MethodId} {args : Array Value} {below : List Frame} {meth : Method} {c : Code} {z : Zt} {b : Nat}  (C : Cx p s m args c cX2_valueOf 4 RX2 z 339 b) (hr : meth.sig.returnType = (some .int)) (hk : meth.locks = false) {r : Int32} {M' : Mem} {rc : Nat → List Int32 → List Int64 → Mem → Option (Int32 × Mem)} {n : Nat} (q2 : ∀ (i1 : Int32) (i2 : Int32) (i3 : Int32) (M : Mem) (H : Heap) (locs : List Loc) (ls : Array Slot), rc 2 [i1, i2, i3] [] M = some (r, M') → va_P z.1 vwCl (pw (xd z b) 339 b M) H → va_S (pA 339 b) s.heap H locs → lv_has ls 4 [(0, .ref (b + 11)), (1, .int i1), (2, .int i2), (3, .int i3)] → W p l e rm2_valueOf s m args below meth c H locs 0 0 (MQ below (va_Qi (fun (r' : Int32) (M2 : Mem) => r' = r ∧ M2 = M') (fun M2 t => va_P z.1 vwCl (pw (xd z b) 339 b M2) t.heap) (pA 339 b)) args s 0 0 (pA 339 b)) (F0 m 2 ls [])) {i1 : Int32} {i2 : Int32} {i3 : Int32} {M : Mem} {H : Heap} {locs : List Loc} {ls : Array Slot} (hf : b2_valueOf_2  rc n i1 i2 i3 M = some (r, M')) (hP : va_P z.1 vwCl (pw (xd z b) 339 b M) H) (hS : va_S (pA 339 b) s.heap H locs) (hl : lv_has ls 4 [(0, .ref (b + 11)), (1, .int i1), (2, .int i2), (3, .int i3)]) : W p l e rm2_valueOf s m args below meth c H locs 0 0 (MQ below (va_Qi (fun (r' : Int32) (M2 : Mem) => r' = r ∧ M2 = M') (fun M2 t => va_P z.1 vwCl (pw (xd z b) 339 b M2) t.heap) (pA 339 b)) args s 0 0 (pA 339 b)) (F0 m 2 ls []) := by
  have hx := C.1.1
  have hb := C.1.2.1
  unfold b2_valueOf_2 at hf
  refine lv_iload_n hx hb dX2_valueOf_2 rfl (lv_at hl 3 rfl) ?_
  refine lv_aload_n hx hb dX2_valueOf_3 rfl (lv_at hl 0 rfl) ?_
  refine pg C hP (k := 11) (j := 3) (Nat.le_of_ble_eq_true rfl) (xd_11 _ _) rfl iw_2 (Nat.le_of_ble_eq_true rfl) g_128 rfl rfl dX2_valueOf_4 ?_
  refine lv_icmp_ge (tgt := 60) hx hb dX2_valueOf_7 (by decide) (fun c1 => ?_) (fun c1 => ?_)
  · replace hf := ite_t c1 hf
    exact w2_valueOf_60 (n := n)  C hr hk q2 hf hP hS (lv_sub hl [] rfl)
  · replace hf := ite_f c1 hf
    refine lv_iload_n hx hb dX2_valueOf_10 rfl (lv_at hl 3 rfl) ?_
    refine lv_bipush (v := (16 : Int32)) hx hb dX2_valueOf_11 (by decide) ?_
    refine lv_icmp_ge (tgt := 60) hx hb dX2_valueOf_13 (by decide) (fun c2 => ?_) (fun c2 => ?_)
    · replace hf := ite_t c2 hf
      exact w2_valueOf_60 (n := n)  C hr hk q2 hf hP hS (lv_sub hl [] rfl)
    · replace hf := ite_f c2 hf
      refine lv_aload_n hx hb dX2_valueOf_16 rfl (lv_at hl 0 rfl) ?_
      refine pg C hP (k := 11) (j := 2) (Nat.le_of_ble_eq_true rfl) (xd_11 _ _) rfl iw_2 (Nat.le_of_ble_eq_true rfl) g_127 rfl rfl dX2_valueOf_17 ?_
      refine lv_iload_n hx hb dX2_valueOf_20 rfl (lv_at hl 3 rfl) ?_
      have h3 := chk_1 hf
      replace hf := chk_2 hf
      refine paI C hP (k := 14) (Nat.le_of_ble_eq_true rfl) (xd_14 _ _) h3 dX2_valueOf_21 ?_
      refine lv_iload_n hx hb dX2_valueOf_22 rfl (lv_at hl 1 rfl) ?_
      refine lv_icmp_ne (tgt := 54) hx hb dX2_valueOf_23 (by decide) (fun c4 => ?_) (fun c4 => ?_)
      · replace hf := ite_f c4 hf
        exact w2_valueOf_54 (n := n)  C hr hk q2 hf hP hS (lv_sub hl [0, 1, 2, 3] rfl)
      · replace hf := ite_t c4 hf
        refine lv_aload_n hx hb dX2_valueOf_26 rfl (lv_at hl 0 rfl) ?_
        refine lv_iconst (v := (2 : Int32)) hx hb dX2_valueOf_27 (by decide) ?_
        refine lv_iload_n hx hb dX2_valueOf_28 rfl (lv_at hl 3 rfl) ?_
        refine lv_imul hx hb dX2_valueOf_29 ?_
        refine lv_iconst (v := (1 : Int32)) hx hb dX2_valueOf_30 (by decide) ?_
        refine lv_iadd hx hb dX2_valueOf_31 ?_
        obtain ⟨r5, M6, h7, hf⟩ := bnd_s hf
        refine pcVi (As := [.int (((2 : Int32) * i3) + (1 : Int32))]) C hP hS (k := 11) (Nat.le_of_ble_eq_true rfl) (xd_11 _ _) rfl (c2_reckon  h7) y2_reckon_w g_746 rfl rfl rfl ⟨Nat.le_of_ble_eq_true rfl, Nat.le_of_ble_eq_true rfl⟩ hl.1 rfl (Nat.le_of_ble_eq_true rfl) dX2_valueOf_32 ⟨Nat.le_of_ble_eq_true rfl, Nat.le_of_ble_eq_true rfl⟩ (fun H locs hP hS => ?_)
        refine lv_if_eq (tgt := 54) hx hb dX2_valueOf_35 (by decide) (fun c8 => ?_) (fun c8 => ?_)
        · replace hf := ite_t c8 hf
          exact w2_valueOf_54 (n := n)  C hr hk q2 hf hP hS (lv_sub hl [0, 1, 2, 3] rfl)
        · replace hf := ite_f c8 hf
          refine lv_iconst (v := (0 : Int32)) hx hb dX2_valueOf_38 (by decide) ?_
          refine lv_iload_n hx hb dX2_valueOf_39 rfl (lv_at hl 2 rfl) ?_
          refine lv_aload_n hx hb dX2_valueOf_40 rfl (lv_at hl 0 rfl) ?_
          refine lv_iconst (v := (2 : Int32)) hx hb dX2_valueOf_41 (by decide) ?_
          refine lv_iload_n hx hb dX2_valueOf_42 rfl (lv_at hl 3 rfl) ?_
          refine lv_imul hx hb dX2_valueOf_43 ?_
          obtain ⟨r9, M10, h11, hf⟩ := bnd_s hf
          refine pcVi (As := [.int ((2 : Int32) * i3)]) C hP hS (k := 11) (Nat.le_of_ble_eq_true rfl) (xd_11 _ _) rfl (c2_reckon  h11) y2_reckon_w g_746 rfl rfl rfl ⟨Nat.le_of_ble_eq_true rfl, Nat.le_of_ble_eq_true rfl⟩ hl.1 rfl (Nat.le_of_ble_eq_true rfl) dX2_valueOf_44 ⟨Nat.le_of_ble_eq_true rfl, Nat.le_of_ble_eq_true rfl⟩ (fun H locs hP hS => ?_)
          refine va_mmin hx hb (by rw [C.1.2.2.1]; exact hl.1.symm) C.1.2.2.2.1 (C.1.2.2.2.2 _ g_750) (C.1.2.2.2.2 _ g_567) (C.1.2.2.2.2 _ g_17) (C.1.2.2.2.2 _ g_568) (Nat.le_of_ble_eq_true rfl) (Nat.le_of_ble_eq_true rfl) (Nat.le_of_ble_eq_true rfl) (Nat.le_of_ble_eq_true rfl) dX2_valueOf_47 ?_
          refine va_mmax hx hb (by rw [C.1.2.2.1]; exact hl.1.symm) C.1.2.2.2.1 (C.1.2.2.2.2 _ g_751) (C.1.2.2.2.2 _ g_564) (C.1.2.2.2.2 _ g_17) (C.1.2.2.2.2 _ g_565) (Nat.le_of_ble_eq_true rfl) (Nat.le_of_ble_eq_true rfl) (Nat.le_of_ble_eq_true rfl) (Nat.le_of_ble_eq_true rfl) dX2_valueOf_50 ?_
          exact prI C hr hk hP hS hf dX2_valueOf_53
set_option maxHeartbeats 4000000 in
set_option maxRecDepth 100000 in
theorem w2_valueOf_0 {p : Program} {l : Launch} {e : Env} {s : State} {m : MethodId} {args : Array Value} {below : List Frame} {meth : Method} {c : Code} {z : Zt} {b : Nat}  (C : Cx p s m args c cX2_valueOf 4 RX2 z 339 b) (hr : meth.sig.returnType = (some .int)) (hk : meth.locks = false) {r : Int32} {M' : Mem} {rc : Nat → List Int32 → List Int64 → Mem → Option (Int32 × Mem)} {n : Nat} (q2 : ∀ (i1 : Int32) (i2 : Int32) (i3 : Int32) (M : Mem) (H : Heap) (locs : List Loc) (ls : Array Slot), rc 2 [i1, i2, i3] [] M = some (r, M') → va_P z.1 vwCl (pw (xd z b) 339 b M) H → va_S (pA 339 b) s.heap H locs → lv_has ls 4 [(0, .ref (b + 11)), (1, .int i1), (2, .int i2), (3, .int i3)] → W p l e rm2_valueOf s m args below meth c H locs 0 0 (MQ below (va_Qi (fun (r' : Int32) (M2 : Mem) => r' = r ∧ M2 = M') (fun M2 t => va_P z.1 vwCl (pw (xd z b) 339 b M2) t.heap) (pA 339 b)) args s 0 0 (pA 339 b)) (F0 m 2 ls [])) {a1 : Int32} {a2 : Int32} {M : Mem} {H : Heap} {locs : List Loc} {ls : Array Slot} (hf : b2_valueOf_0  rc n a1 a2 M = some (r, M')) (hP : va_P z.1 vwCl (pw (xd z b) 339 b M) H) (hS : va_S (pA 339 b) s.heap H locs) (hl : lv_has ls 4 [(0, .ref (b + 11)), (1, .int a1), (2, .int a2)]) : W p l e rm2_valueOf s m args below meth c H locs 0 0 (MQ below (va_Qi (fun (r' : Int32) (M2 : Mem) => r' = r ∧ M2 = M') (fun M2 t => va_P z.1 vwCl (pw (xd z b) 339 b M2) t.heap) (pA 339 b)) args s 0 0 (pA 339 b)) (F0 m 0 ls []) := by
  have hx := C.1.1
  have hb := C.1.2.1
  unfold b2_valueOf_0 at hf
  refine lv_iconst (v := (0 : Int32)) hx hb dX2_valueOf_0 (by decide) ?_
  refine lv_istore_n (lv' := [(3, .int (0 : Int32)), (0, .ref (b + 11)), (1, .int a1), (2, .int a2)]) hx hb dX2_valueOf_1 rfl hl (by decide) rfl (fun ls hl => ?_)
  exact w2_valueOf_2 (n := n)  C hr hk q2 hf hP hS (lv_sub hl [1, 2, 3, 0] rfl)
set_option maxHeartbeats 4000000 in
set_option maxRecDepth 100000 in
theorem l2_valueOf {p : Program} {l : Launch} {e : Env} {s : State} {m : MethodId} {args : Array Value} {below : List Frame} {meth : Method} {c : Code} {z : Zt} {b : Nat}  (C : Cx p s m args c cX2_valueOf 4 RX2 z 339 b) (hr : meth.sig.returnType = (some .int)) (hk : meth.locks = false) {r : Int32} {M' : Mem} (n : Nat) : (∀ (i1 : Int32) (i2 : Int32) (i3 : Int32) (M : Mem) (H : Heap) (locs : List Loc) (ls : Array Slot), (r2_valueOf  n) 2 [i1, i2, i3] [] M = some (r, M') → va_P z.1 vwCl (pw (xd z b) 339 b M) H → va_S (pA 339 b) s.heap H locs → lv_has ls 4 [(0, .ref (b + 11)), (1, .int i1), (2, .int i2), (3, .int i3)] → W p l e rm2_valueOf s m args below meth c H locs 0 0 (MQ below (va_Qi (fun (r' : Int32) (M2 : Mem) => r' = r ∧ M2 = M') (fun M2 t => va_P z.1 vwCl (pw (xd z b) 339 b M2) t.heap) (pA 339 b)) args s 0 0 (pA 339 b)) (F0 m 2 ls [])) := by
  induction n with
  | zero => exact fun _ _ _ _ _ _ _ hf => (by cases hf)
  | succ n ih => exact fun _ _ _ _ _ _ _ hf hP hS hl => w2_valueOf_2 (n := n)  C hr hk ih ((e2_valueOf_2  n _ _ _ _).symm.trans hf) hP hS hl
theorem c2_valueOf {l : Launch} {z : Zt} {b n : Nat}  {a1 : Int32} {a2 : Int32} {M M' : Mem} {r : Int32} (hf : f2_valueOf n  a1 a2 M = some (r, M')) : CI l z (xd z b) 339 b yX2_valueOf cX2_valueOf 4 (some .int) rm2_valueOf [.ref (b + 11), .int a1, .int a2] M M' r :=
  CI.ofW (lv := [(0, .ref (b + 11)), (1, .int a1), (2, .int a2)]) (by decide) (Nat.le_of_ble_eq_true rfl) rfl (fun p e s m args below meth c ls C hr hk hP hS hl => w2_valueOf_0 (n := n)  C hr hk (l2_valueOf  C hr hk n) hf hP hS hl)

-- BronzeKing$Law.weightOf(II)I
theorem dX2_weightOf_0 : decode cX2_weightOf 0 = .ok (.aload_n 0, 1) := by decide +kernel
theorem dX2_weightOf_1 : decode cX2_weightOf 1 = .ok (.getfield 25, 3) := by decide +kernel
theorem dX2_weightOf_4 : decode cX2_weightOf 4 = .ok (.iconst 0, 1) := by decide +kernel
theorem dX2_weightOf_5 : decode cX2_weightOf 5 = .ok (.invokestatic 43, 3) := by decide +kernel
theorem dX2_weightOf_8 : decode cX2_weightOf 8 = .ok (.aload_n 0, 1) := by decide +kernel
theorem dX2_weightOf_9 : decode cX2_weightOf 9 = .ok (.iload_n 1, 1) := by decide +kernel
theorem dX2_weightOf_10 : decode cX2_weightOf 10 = .ok (.iload_n 2, 1) := by decide +kernel
theorem dX2_weightOf_11 : decode cX2_weightOf 11 = .ok (.invokevirtual 49, 3) := by decide +kernel
theorem dX2_weightOf_14 : decode cX2_weightOf 14 = .ok (.aload_n 0, 1) := by decide +kernel
theorem dX2_weightOf_15 : decode cX2_weightOf 15 = .ok (.bipush 99, 2) := by decide +kernel
theorem dX2_weightOf_17 : decode cX2_weightOf 17 = .ok (.bipush 99, 2) := by decide +kernel
theorem dX2_weightOf_19 : decode cX2_weightOf 19 = .ok (.invokevirtual 53, 3) := by decide +kernel
theorem dX2_weightOf_22 : decode cX2_weightOf 22 = .ok (.ireturn, 1) := by decide +kernel
def b2_weightOf_0 (rc : Nat → List Int32 → List Int64 → Mem → Option (Int32 × Mem)) (n : Nat) (a1 : Int32) (a2 : Int32) (M : Mem) : Option (Int32 × Mem) :=
  bnd (fZJ7_fill_53178 n 15 9 (0 : Int32) M) fun r1 M2 =>
  bnd (f2_setHour n a1 a2 M2) fun r4 M5 =>
  bnd (f2_valueOf n (99 : Int32) (99 : Int32) M5) fun r7 M8 =>
  some (r7, M8)
def f2_weightOf (n : Nat) (a1 : Int32) (a2 : Int32) (M : Mem) : Option (Int32 × Mem) := b2_weightOf_0 (fun _ _ _ _ => none) n a1 a2 M
abbrev rm2_weightOf : Room := { frames := 3, cells := 0, slots := 0, locals := 72 }
theorem y2_weightOf_w : yV RX2 yX2_weightOf cX2_weightOf 3 (some .int) 2 := ⟨g_734, g_735, g_6, g_736, rfl, by decide, by decide, by decide +kernel⟩
set_option maxHeartbeats 4000000 in
set_option maxRecDepth 100000 in
theorem w2_weightOf_0 {p : Program} {l : Launch} {e : Env} {s : State} {m : MethodId} {args : Array Value} {below : List Frame} {meth : Method} {c : Code} {z : Zt} {b : Nat}  (C : Cx p s m args c cX2_weightOf 3 RX2 z 339 b) (hr : meth.sig.returnType = (some .int)) (hk : meth.locks = false) {r : Int32} {M' : Mem} {rc : Nat → List Int32 → List Int64 → Mem → Option (Int32 × Mem)} {n : Nat}  {a1 : Int32} {a2 : Int32} {M : Mem} {H : Heap} {locs : List Loc} {ls : Array Slot} (hf : b2_weightOf_0  rc n a1 a2 M = some (r, M')) (hP : va_P z.1 vwCl (pw (xd z b) 339 b M) H) (hS : va_S (pA 339 b) s.heap H locs) (hl : lv_has ls 3 [(0, .ref (b + 11)), (1, .int a1), (2, .int a2)]) : W p l e rm2_weightOf s m args below meth c H locs 0 0 (MQ below (va_Qi (fun (r' : Int32) (M2 : Mem) => r' = r ∧ M2 = M') (fun M2 t => va_P z.1 vwCl (pw (xd z b) 339 b M2) t.heap) (pA 339 b)) args s 0 0 (pA 339 b)) (F0 m 0 ls []) := by
  have hx := C.1.1
  have hb := C.1.2.1
  unfold b2_weightOf_0 at hf
  refine lv_aload_n hx hb dX2_weightOf_0 rfl (lv_at hl 0 rfl) ?_
  refine pg C hP (k := 11) (j := 4) (Nat.le_of_ble_eq_true rfl) (xd_11 _ _) rfl iw_2 (Nat.le_of_ble_eq_true rfl) g_130 rfl rfl dX2_weightOf_1 ?_
  refine lv_iconst (v := (0 : Int32)) hx hb dX2_weightOf_4 (by decide) ?_
  obtain ⟨r1, M2, h3, hf⟩ := bnd_s hf
  refine pcSv (As := [.ref (b + 15), .int (0 : Int32)]) C hP hS (cZJ7_fill_53178 ⟨(Nat.le_of_ble_eq_true rfl), xd_15⟩ h3) yZJ7_fill_53178_w g_737 rfl rfl rfl ⟨Nat.le_of_ble_eq_true rfl, Nat.le_of_ble_eq_true rfl⟩ hl.1 rfl (Nat.le_of_ble_eq_true rfl) dX2_weightOf_5 ⟨Nat.le_of_ble_eq_true rfl, Nat.le_of_ble_eq_true rfl⟩ (fun H locs hP hS => ?_)
  refine lv_aload_n hx hb dX2_weightOf_8 rfl (lv_at hl 0 rfl) ?_
  refine lv_iload_n hx hb dX2_weightOf_9 rfl (lv_at hl 1 rfl) ?_
  refine lv_iload_n hx hb dX2_weightOf_10 rfl (lv_at hl 2 rfl) ?_
  obtain ⟨r4, M5, h6, hf⟩ := bnd_s hf
  refine pcVv (As := [.int a1, .int a2]) C hP hS (k := 11) (Nat.le_of_ble_eq_true rfl) (xd_11 _ _) rfl (c2_setHour  h6) y2_setHour_w g_738 rfl rfl rfl ⟨Nat.le_of_ble_eq_true rfl, Nat.le_of_ble_eq_true rfl⟩ hl.1 rfl (Nat.le_of_ble_eq_true rfl) dX2_weightOf_11 ⟨Nat.le_of_ble_eq_true rfl, Nat.le_of_ble_eq_true rfl⟩ (fun H locs hP hS => ?_)
  refine lv_aload_n hx hb dX2_weightOf_14 rfl (lv_at hl 0 rfl) ?_
  refine lv_bipush (v := (99 : Int32)) hx hb dX2_weightOf_15 (by decide) ?_
  refine lv_bipush (v := (99 : Int32)) hx hb dX2_weightOf_17 (by decide) ?_
  obtain ⟨r7, M8, h9, hf⟩ := bnd_s hf
  refine pcVi (As := [.int (99 : Int32), .int (99 : Int32)]) C hP hS (k := 11) (Nat.le_of_ble_eq_true rfl) (xd_11 _ _) rfl (c2_valueOf  h9) y2_valueOf_w g_742 rfl rfl rfl ⟨Nat.le_of_ble_eq_true rfl, Nat.le_of_ble_eq_true rfl⟩ hl.1 rfl (Nat.le_of_ble_eq_true rfl) dX2_weightOf_19 ⟨Nat.le_of_ble_eq_true rfl, Nat.le_of_ble_eq_true rfl⟩ (fun H locs hP hS => ?_)
  exact prI C hr hk hP hS hf dX2_weightOf_22
theorem c2_weightOf {l : Launch} {z : Zt} {b n : Nat}  {a1 : Int32} {a2 : Int32} {M M' : Mem} {r : Int32} (hf : f2_weightOf n  a1 a2 M = some (r, M')) : CI l z (xd z b) 339 b yX2_weightOf cX2_weightOf 3 (some .int) rm2_weightOf [.ref (b + 11), .int a1, .int a2] M M' r :=
  CI.ofW (lv := [(0, .ref (b + 11)), (1, .int a1), (2, .int a2)]) (by decide) (Nat.le_of_ble_eq_true rfl) rfl (fun p e s m args below meth c ls C hr hk hP hS hl => w2_weightOf_0 (n := n)  C hr hk  hf hP hS hl)

-- BronzeKing$Law.weightOfAll(I)I
theorem dX2_weightOfAll_0 : decode cX2_weightOfAll 0 = .ok (.iconst 0, 1) := by decide +kernel
theorem dX2_weightOfAll_1 : decode cX2_weightOfAll 1 = .ok (.istore_n 2, 1) := by decide +kernel
theorem dX2_weightOfAll_2 : decode cX2_weightOfAll 2 = .ok (.iconst 0, 1) := by decide +kernel
theorem dX2_weightOfAll_3 : decode cX2_weightOfAll 3 = .ok (.istore_n 3, 1) := by decide +kernel
theorem dX2_weightOfAll_4 : decode cX2_weightOfAll 4 = .ok (.iload_n 3, 1) := by decide +kernel
theorem dX2_weightOfAll_5 : decode cX2_weightOfAll 5 = .ok (.bipush 24, 2) := by decide +kernel
theorem dX2_weightOfAll_7 : decode cX2_weightOfAll 7 = .ok (.if_icmp .ge 18, 3) := by decide +kernel
theorem dX2_weightOfAll_10 : decode cX2_weightOfAll 10 = .ok (.iload_n 2, 1) := by decide +kernel
theorem dX2_weightOfAll_11 : decode cX2_weightOfAll 11 = .ok (.aload_n 0, 1) := by decide +kernel
theorem dX2_weightOfAll_12 : decode cX2_weightOfAll 12 = .ok (.iload_n 3, 1) := by decide +kernel
theorem dX2_weightOfAll_13 : decode cX2_weightOfAll 13 = .ok (.iload_n 1, 1) := by decide +kernel
theorem dX2_weightOfAll_14 : decode cX2_weightOfAll 14 = .ok (.invokevirtual 57, 3) := by decide +kernel
theorem dX2_weightOfAll_17 : decode cX2_weightOfAll 17 = .ok (.iadd, 1) := by decide +kernel
theorem dX2_weightOfAll_18 : decode cX2_weightOfAll 18 = .ok (.istore_n 2, 1) := by decide +kernel
theorem dX2_weightOfAll_19 : decode cX2_weightOfAll 19 = .ok (.iinc 3 1, 3) := by decide +kernel
theorem dX2_weightOfAll_22 : decode cX2_weightOfAll 22 = .ok (.goto (-18), 3) := by decide +kernel
theorem dX2_weightOfAll_25 : decode cX2_weightOfAll 25 = .ok (.iload_n 2, 1) := by decide +kernel
theorem dX2_weightOfAll_26 : decode cX2_weightOfAll 26 = .ok (.ireturn, 1) := by decide +kernel
def b2_weightOfAll_4 (rc : Nat → List Int32 → List Int64 → Mem → Option (Int32 × Mem)) (n : Nat) (i1 : Int32) (i2 : Int32) (i3 : Int32) (M : Mem) : Option (Int32 × Mem) :=
  (if (24 : Int32) ≤ i3 then (
   some (i2, M))
  else (
   bnd (f2_weightOf n i3 i1 M) fun r2 M3 =>
   lt (i2 + r2) fun v5 =>
   lt (i3 + (1 : Int32)) fun v6 =>
   rc 4 [i1, v5, v6] [] M3))
def b2_weightOfAll_0 (rc : Nat → List Int32 → List Int64 → Mem → Option (Int32 × Mem)) (n : Nat) (a1 : Int32) (M : Mem) : Option (Int32 × Mem) :=
  b2_weightOfAll_4  rc n a1 (0 : Int32) (0 : Int32) M
def r2_weightOfAll : Nat → Nat → List Int32 → List Int64 → Mem → Option (Int32 × Mem)
  | 0 => fun _ _ _ _ => none
  | n + 1 => fun pc li lj M =>
    if pc = 4 then (match li, lj with | [i1, i2, i3], [] => b2_weightOfAll_4  (r2_weightOfAll  n) n i1 i2 i3 M | _, _ => none) else
    none
theorem e2_weightOfAll_4  (n : Nat) (i1 : Int32) (i2 : Int32) (i3 : Int32) (M : Mem) : r2_weightOfAll  (n + 1) 4 [i1, i2, i3] [] M = b2_weightOfAll_4  (r2_weightOfAll  n) n i1 i2 i3 M := by
  rw [r2_weightOfAll]
  simp
def f2_weightOfAll (n : Nat) (a1 : Int32) (M : Mem) : Option (Int32 × Mem) := b2_weightOfAll_0 (r2_weightOfAll n) n a1 M
abbrev rm2_weightOfAll : Room := { frames := 4, cells := 0, slots := 0, locals := 94 }
theorem y2_weightOfAll_w : yV RX2 yX2_weightOfAll cX2_weightOfAll 4 (some .int) 1 := ⟨g_1125, g_1126, g_6, g_1127, rfl, by decide, by decide, by decide +kernel⟩
set_option maxHeartbeats 4000000 in
set_option maxRecDepth 100000 in
theorem w2_weightOfAll_4 {p : Program} {l : Launch} {e : Env} {s : State} {m : MethodId} {args : Array Value} {below : List Frame} {meth : Method} {c : Code} {z : Zt} {b : Nat}  (C : Cx p s m args c cX2_weightOfAll 4 RX2 z 339 b) (hr : meth.sig.returnType = (some .int)) (hk : meth.locks = false) {r : Int32} {M' : Mem} {rc : Nat → List Int32 → List Int64 → Mem → Option (Int32 × Mem)} {n : Nat} (q4 : ∀ (i1 : Int32) (i2 : Int32) (i3 : Int32) (M : Mem) (H : Heap) (locs : List Loc) (ls : Array Slot), rc 4 [i1, i2, i3] [] M = some (r, M') → va_P z.1 vwCl (pw (xd z b) 339 b M) H → va_S (pA 339 b) s.heap H locs → lv_has ls 4 [(0, .ref (b + 11)), (1, .int i1), (2, .int i2), (3, .int i3)] → W p l e rm2_weightOfAll s m args below meth c H locs 0 0 (MQ below (va_Qi (fun (r' : Int32) (M2 : Mem) => r' = r ∧ M2 = M') (fun M2 t => va_P z.1 vwCl (pw (xd z b) 339 b M2) t.heap) (pA 339 b)) args s 0 0 (pA 339 b)) (F0 m 4 ls [])) {i1 : Int32} {i2 : Int32} {i3 : Int32} {M : Mem} {H : Heap} {locs : List Loc} {ls : Array Slot} (hf : b2_weightOfAll_4  rc n i1 i2 i3 M = some (r, M')) (hP : va_P z.1 vwCl (pw (xd z b) 339 b M) H) (hS : va_S (pA 339 b) s.heap H locs) (hl : lv_has ls 4 [(0, .ref (b + 11)), (1, .int i1), (2, .int i2), (3, .int i3)]) : W p l e rm2_weightOfAll s m args below meth c H locs 0 0 (MQ below (va_Qi (fun (r' : Int32) (M2 : Mem) => r' = r ∧ M2 = M') (fun M2 t => va_P z.1 vwCl (pw (xd z b) 339 b M2) t.heap) (pA 339 b)) args s 0 0 (pA 339 b)) (F0 m 4 ls []) := by
  have hx := C.1.1
  have hb := C.1.2.1
  unfold b2_weightOfAll_4 at hf
  refine lv_iload_n hx hb dX2_weightOfAll_4 rfl (lv_at hl 3 rfl) ?_
  refine lv_bipush (v := (24 : Int32)) hx hb dX2_weightOfAll_5 (by decide) ?_
  refine lv_icmp_ge (tgt := 25) hx hb dX2_weightOfAll_7 (by decide) (fun c1 => ?_) (fun c1 => ?_)
  · replace hf := ite_t c1 hf
    refine lv_iload_n hx hb dX2_weightOfAll_25 rfl (lv_at hl 2 rfl) ?_
    exact prI C hr hk hP hS hf dX2_weightOfAll_26
  · replace hf := ite_f c1 hf
    refine lv_iload_n hx hb dX2_weightOfAll_10 rfl (lv_at hl 2 rfl) ?_
    refine lv_aload_n hx hb dX2_weightOfAll_11 rfl (lv_at hl 0 rfl) ?_
    refine lv_iload_n hx hb dX2_weightOfAll_12 rfl (lv_at hl 3 rfl) ?_
    refine lv_iload_n hx hb dX2_weightOfAll_13 rfl (lv_at hl 1 rfl) ?_
    obtain ⟨r2, M3, h4, hf⟩ := bnd_s hf
    refine pcVi (As := [.int i3, .int i1]) C hP hS (k := 11) (Nat.le_of_ble_eq_true rfl) (xd_11 _ _) rfl (c2_weightOf  h4) y2_weightOf_w g_1128 rfl rfl rfl ⟨Nat.le_of_ble_eq_true rfl, Nat.le_of_ble_eq_true rfl⟩ hl.1 rfl (Nat.le_of_ble_eq_true rfl) dX2_weightOfAll_14 ⟨Nat.le_of_ble_eq_true rfl, Nat.le_of_ble_eq_true rfl⟩ (fun H locs hP hS => ?_)
    refine lv_iadd hx hb dX2_weightOfAll_17 ?_
    refine lv_topi (fun v5 ev5 => ?_)
    replace hf := lt_c ev5 hf
    refine lv_istore_n (lv' := [(2, .int v5), (0, .ref (b + 11)), (1, .int i1), (3, .int i3)]) hx hb dX2_weightOfAll_18 rfl hl (by decide) rfl (fun ls hl => ?_)
    obtain ⟨v6, ev6⟩ : ∃ v : Int32, v = i3 + (1 : Int32) := ⟨_, rfl⟩
    replace hf := lt_c ev6 hf
    refine lv_iinc (v := v6) (lv' := [(3, .int v6), (2, .int v5), (0, .ref (b + 11)), (1, .int i1)]) hx hb dX2_weightOfAll_19 hl (k := 3) rfl (by rw [ev6]; rfl) (by decide) rfl (fun ls hl => ?_)
    refine lv_goto (tgt := 4) hx hb dX2_weightOfAll_22 (by decide) ?_
    exact q4 i1 v5 v6 M3 _ _ _ hf hP hS (lv_sub hl [2, 3, 1, 0] rfl)
set_option maxHeartbeats 4000000 in
set_option maxRecDepth 100000 in
theorem w2_weightOfAll_0 {p : Program} {l : Launch} {e : Env} {s : State} {m : MethodId} {args : Array Value} {below : List Frame} {meth : Method} {c : Code} {z : Zt} {b : Nat}  (C : Cx p s m args c cX2_weightOfAll 4 RX2 z 339 b) (hr : meth.sig.returnType = (some .int)) (hk : meth.locks = false) {r : Int32} {M' : Mem} {rc : Nat → List Int32 → List Int64 → Mem → Option (Int32 × Mem)} {n : Nat} (q4 : ∀ (i1 : Int32) (i2 : Int32) (i3 : Int32) (M : Mem) (H : Heap) (locs : List Loc) (ls : Array Slot), rc 4 [i1, i2, i3] [] M = some (r, M') → va_P z.1 vwCl (pw (xd z b) 339 b M) H → va_S (pA 339 b) s.heap H locs → lv_has ls 4 [(0, .ref (b + 11)), (1, .int i1), (2, .int i2), (3, .int i3)] → W p l e rm2_weightOfAll s m args below meth c H locs 0 0 (MQ below (va_Qi (fun (r' : Int32) (M2 : Mem) => r' = r ∧ M2 = M') (fun M2 t => va_P z.1 vwCl (pw (xd z b) 339 b M2) t.heap) (pA 339 b)) args s 0 0 (pA 339 b)) (F0 m 4 ls [])) {a1 : Int32} {M : Mem} {H : Heap} {locs : List Loc} {ls : Array Slot} (hf : b2_weightOfAll_0  rc n a1 M = some (r, M')) (hP : va_P z.1 vwCl (pw (xd z b) 339 b M) H) (hS : va_S (pA 339 b) s.heap H locs) (hl : lv_has ls 4 [(0, .ref (b + 11)), (1, .int a1)]) : W p l e rm2_weightOfAll s m args below meth c H locs 0 0 (MQ below (va_Qi (fun (r' : Int32) (M2 : Mem) => r' = r ∧ M2 = M') (fun M2 t => va_P z.1 vwCl (pw (xd z b) 339 b M2) t.heap) (pA 339 b)) args s 0 0 (pA 339 b)) (F0 m 0 ls []) := by
  have hx := C.1.1
  have hb := C.1.2.1
  unfold b2_weightOfAll_0 at hf
  refine lv_iconst (v := (0 : Int32)) hx hb dX2_weightOfAll_0 (by decide) ?_
  refine lv_istore_n (lv' := [(2, .int (0 : Int32)), (0, .ref (b + 11)), (1, .int a1)]) hx hb dX2_weightOfAll_1 rfl hl (by decide) rfl (fun ls hl => ?_)
  refine lv_iconst (v := (0 : Int32)) hx hb dX2_weightOfAll_2 (by decide) ?_
  refine lv_istore_n (lv' := [(3, .int (0 : Int32)), (2, .int (0 : Int32)), (0, .ref (b + 11)), (1, .int a1)]) hx hb dX2_weightOfAll_3 rfl hl (by decide) rfl (fun ls hl => ?_)
  exact w2_weightOfAll_4 (n := n)  C hr hk q4 hf hP hS (lv_sub hl [2, 3, 1, 0] rfl)
set_option maxHeartbeats 4000000 in
set_option maxRecDepth 100000 in
theorem l2_weightOfAll {p : Program} {l : Launch} {e : Env} {s : State} {m : MethodId} {args : Array Value} {below : List Frame} {meth : Method} {c : Code} {z : Zt} {b : Nat}  (C : Cx p s m args c cX2_weightOfAll 4 RX2 z 339 b) (hr : meth.sig.returnType = (some .int)) (hk : meth.locks = false) {r : Int32} {M' : Mem} (n : Nat) : (∀ (i1 : Int32) (i2 : Int32) (i3 : Int32) (M : Mem) (H : Heap) (locs : List Loc) (ls : Array Slot), (r2_weightOfAll  n) 4 [i1, i2, i3] [] M = some (r, M') → va_P z.1 vwCl (pw (xd z b) 339 b M) H → va_S (pA 339 b) s.heap H locs → lv_has ls 4 [(0, .ref (b + 11)), (1, .int i1), (2, .int i2), (3, .int i3)] → W p l e rm2_weightOfAll s m args below meth c H locs 0 0 (MQ below (va_Qi (fun (r' : Int32) (M2 : Mem) => r' = r ∧ M2 = M') (fun M2 t => va_P z.1 vwCl (pw (xd z b) 339 b M2) t.heap) (pA 339 b)) args s 0 0 (pA 339 b)) (F0 m 4 ls [])) := by
  induction n with
  | zero => exact fun _ _ _ _ _ _ _ hf => (by cases hf)
  | succ n ih => exact fun _ _ _ _ _ _ _ hf hP hS hl => w2_weightOfAll_4 (n := n)  C hr hk ih ((e2_weightOfAll_4  n _ _ _ _).symm.trans hf) hP hS hl
theorem c2_weightOfAll {l : Launch} {z : Zt} {b n : Nat}  {a1 : Int32} {M M' : Mem} {r : Int32} (hf : f2_weightOfAll n  a1 M = some (r, M')) : CI l z (xd z b) 339 b yX2_weightOfAll cX2_weightOfAll 4 (some .int) rm2_weightOfAll [.ref (b + 11), .int a1] M M' r :=
  CI.ofW (lv := [(0, .ref (b + 11)), (1, .int a1)]) (by decide) (Nat.le_of_ble_eq_true rfl) rfl (fun p e s m args below meth c ls C hr hk hP hS hl => w2_weightOfAll_0 (n := n)  C hr hk (l2_weightOfAll  C hr hk n) hf hP hS hl)

-- BronzeKing$Law.standsStill()Z
theorem dX2_standsStill_0 : decode cX2_standsStill 0 = .ok (.iconst 0, 1) := by decide +kernel
theorem dX2_standsStill_1 : decode cX2_standsStill 1 = .ok (.istore_n 1, 1) := by decide +kernel
theorem dX2_standsStill_2 : decode cX2_standsStill 2 = .ok (.iload_n 1, 1) := by decide +kernel
theorem dX2_standsStill_3 : decode cX2_standsStill 3 = .ok (.aload_n 0, 1) := by decide +kernel
theorem dX2_standsStill_4 : decode cX2_standsStill 4 = .ok (.getfield 21, 3) := by decide +kernel
theorem dX2_standsStill_7 : decode cX2_standsStill 7 = .ok (.if_icmp .ge 40, 3) := by decide +kernel
theorem dX2_standsStill_10 : decode cX2_standsStill 10 = .ok (.iload_n 1, 1) := by decide +kernel
theorem dX2_standsStill_11 : decode cX2_standsStill 11 = .ok (.bipush 16, 2) := by decide +kernel
theorem dX2_standsStill_13 : decode cX2_standsStill 13 = .ok (.if_icmp .ge 34, 3) := by decide +kernel
theorem dX2_standsStill_16 : decode cX2_standsStill 16 = .ok (.aload_n 0, 1) := by decide +kernel
theorem dX2_standsStill_17 : decode cX2_standsStill 17 = .ok (.getfield 18, 3) := by decide +kernel
theorem dX2_standsStill_20 : decode cX2_standsStill 20 = .ok (.iload_n 1, 1) := by decide +kernel
theorem dX2_standsStill_21 : decode cX2_standsStill 21 = .ok (.iaload, 1) := by decide +kernel
theorem dX2_standsStill_22 : decode cX2_standsStill 22 = .ok (.bipush 115, 2) := by decide +kernel
theorem dX2_standsStill_24 : decode cX2_standsStill 24 = .ok (.if_icmp .ne 17, 3) := by decide +kernel
theorem dX2_standsStill_27 : decode cX2_standsStill 27 = .ok (.aload_n 0, 1) := by decide +kernel
theorem dX2_standsStill_28 : decode cX2_standsStill 28 = .ok (.iconst 2, 1) := by decide +kernel
theorem dX2_standsStill_29 : decode cX2_standsStill 29 = .ok (.iload_n 1, 1) := by decide +kernel
theorem dX2_standsStill_30 : decode cX2_standsStill 30 = .ok (.imul, 1) := by decide +kernel
theorem dX2_standsStill_31 : decode cX2_standsStill 31 = .ok (.iconst 1, 1) := by decide +kernel
theorem dX2_standsStill_32 : decode cX2_standsStill 32 = .ok (.iadd, 1) := by decide +kernel
theorem dX2_standsStill_33 : decode cX2_standsStill 33 = .ok (.invokevirtual 60, 3) := by decide +kernel
theorem dX2_standsStill_36 : decode cX2_standsStill 36 = .ok (.ifCond .eq 5, 3) := by decide +kernel
theorem dX2_standsStill_39 : decode cX2_standsStill 39 = .ok (.iconst 1, 1) := by decide +kernel
theorem dX2_standsStill_40 : decode cX2_standsStill 40 = .ok (.ireturn, 1) := by decide +kernel
theorem dX2_standsStill_41 : decode cX2_standsStill 41 = .ok (.iinc 1 1, 3) := by decide +kernel
theorem dX2_standsStill_44 : decode cX2_standsStill 44 = .ok (.goto (-42), 3) := by decide +kernel
theorem dX2_standsStill_47 : decode cX2_standsStill 47 = .ok (.iconst 0, 1) := by decide +kernel
theorem dX2_standsStill_48 : decode cX2_standsStill 48 = .ok (.ireturn, 1) := by decide +kernel
def b2_standsStill_47 (rc : Nat → List Int32 → List Int64 → Mem → Option (Int32 × Mem)) (n : Nat) (M : Mem) : Option (Int32 × Mem) :=
  some ((0 : Int32), M)
def b2_standsStill_41 (rc : Nat → List Int32 → List Int64 → Mem → Option (Int32 × Mem)) (n : Nat) (i1 : Int32) (M : Mem) : Option (Int32 × Mem) :=
  lt (i1 + (1 : Int32)) fun v9 =>
  rc 2 [v9] [] M
def b2_standsStill_2 (rc : Nat → List Int32 → List Int64 → Mem → Option (Int32 × Mem)) (n : Nat) (i1 : Int32) (M : Mem) : Option (Int32 × Mem) :=
  (if (M.1 11 3) ≤ i1 then (
   b2_standsStill_47  rc n  M)
  else (
   (if (16 : Int32) ≤ i1 then (
    b2_standsStill_47  rc n  M)
   else (
    chk (inb i1 16) <|
    (if (M.1 14 i1.toNatClampNeg) = (115 : Int32) then (
     bnd (f2_reckon n (((2 : Int32) * i1) + (1 : Int32)) M) fun r5 M6 =>
     (if r5 = 0 then (
      b2_standsStill_41  rc n i1 M6)
     else (
      some ((1 : Int32), M6))))
    else (
     b2_standsStill_41  rc n i1 M))))))
def b2_standsStill_0 (rc : Nat → List Int32 → List Int64 → Mem → Option (Int32 × Mem)) (n : Nat) (M : Mem) : Option (Int32 × Mem) :=
  b2_standsStill_2  rc n (0 : Int32) M
def r2_standsStill : Nat → Nat → List Int32 → List Int64 → Mem → Option (Int32 × Mem)
  | 0 => fun _ _ _ _ => none
  | n + 1 => fun pc li lj M =>
    if pc = 2 then (match li, lj with | [i1], [] => b2_standsStill_2  (r2_standsStill  n) n i1 M | _, _ => none) else
    none
theorem e2_standsStill_2  (n : Nat) (i1 : Int32) (M : Mem) : r2_standsStill  (n + 1) 2 [i1] [] M = b2_standsStill_2  (r2_standsStill  n) n i1 M := by
  rw [r2_standsStill]
  simp
def f2_standsStill (n : Nat)  (M : Mem) : Option (Int32 × Mem) := b2_standsStill_0 (r2_standsStill n) n M
abbrev rm2_standsStill : Room := { frames := 2, cells := 0, slots := 0, locals := 49 }
theorem y2_standsStill_w : yV RX2 yX2_standsStill cX2_standsStill 2 (some .boolean) 0 := ⟨g_795, g_796, g_6, g_797, rfl, by decide, by decide, by decide +kernel⟩
set_option maxHeartbeats 4000000 in
set_option maxRecDepth 100000 in
theorem w2_standsStill_47 {p : Program} {l : Launch} {e : Env} {s : State} {m : MethodId} {args : Array Value} {below : List Frame} {meth : Method} {c : Code} {z : Zt} {b : Nat}  (C : Cx p s m args c cX2_standsStill 2 RX2 z 339 b) (hr : meth.sig.returnType = (some .boolean)) (hk : meth.locks = false) {r : Int32} {M' : Mem} {rc : Nat → List Int32 → List Int64 → Mem → Option (Int32 × Mem)} {n : Nat} (q2 : ∀ (i1 : Int32) (M : Mem) (H : Heap) (locs : List Loc) (ls : Array Slot), rc 2 [i1] [] M = some (r, M') → va_P z.1 vwCl (pw (xd z b) 339 b M) H → va_S (pA 339 b) s.heap H locs → lv_has ls 2 [(0, .ref (b + 11)), (1, .int i1)] → W p l e rm2_standsStill s m args below meth c H locs 0 0 (MQ below (va_Qi (fun (r' : Int32) (M2 : Mem) => r' = r ∧ M2 = M') (fun M2 t => va_P z.1 vwCl (pw (xd z b) 339 b M2) t.heap) (pA 339 b)) args s 0 0 (pA 339 b)) (F0 m 2 ls []))  {M : Mem} {H : Heap} {locs : List Loc} {ls : Array Slot} (hf : b2_standsStill_47  rc n  M = some (r, M')) (hP : va_P z.1 vwCl (pw (xd z b) 339 b M) H) (hS : va_S (pA 339 b) s.heap H locs) (hl : lv_has ls 2 []) : W p l e rm2_standsStill s m args below meth c H locs 0 0 (MQ below (va_Qi (fun (r' : Int32) (M2 : Mem) => r' = r ∧ M2 = M') (fun M2 t => va_P z.1 vwCl (pw (xd z b) 339 b M2) t.heap) (pA 339 b)) args s 0 0 (pA 339 b)) (F0 m 47 ls []) := by
  have hx := C.1.1
  have hb := C.1.2.1
  unfold b2_standsStill_47 at hf
  refine lv_iconst (v := (0 : Int32)) hx hb dX2_standsStill_47 (by decide) ?_
  exact prZ C hr hk hP hS hf rfl dX2_standsStill_48
set_option maxHeartbeats 4000000 in
set_option maxRecDepth 100000 in
theorem w2_standsStill_41 {p : Program} {l : Launch} {e : Env} {s : State} {m : MethodId} {args : Array Value} {below : List Frame} {meth : Method} {c : Code} {z : Zt} {b : Nat}  (C : Cx p s m args c cX2_standsStill 2 RX2 z 339 b) (hr : meth.sig.returnType = (some .boolean)) (hk : meth.locks = false) {r : Int32} {M' : Mem} {rc : Nat → List Int32 → List Int64 → Mem → Option (Int32 × Mem)} {n : Nat} (q2 : ∀ (i1 : Int32) (M : Mem) (H : Heap) (locs : List Loc) (ls : Array Slot), rc 2 [i1] [] M = some (r, M') → va_P z.1 vwCl (pw (xd z b) 339 b M) H → va_S (pA 339 b) s.heap H locs → lv_has ls 2 [(0, .ref (b + 11)), (1, .int i1)] → W p l e rm2_standsStill s m args below meth c H locs 0 0 (MQ below (va_Qi (fun (r' : Int32) (M2 : Mem) => r' = r ∧ M2 = M') (fun M2 t => va_P z.1 vwCl (pw (xd z b) 339 b M2) t.heap) (pA 339 b)) args s 0 0 (pA 339 b)) (F0 m 2 ls [])) {i1 : Int32} {M : Mem} {H : Heap} {locs : List Loc} {ls : Array Slot} (hf : b2_standsStill_41  rc n i1 M = some (r, M')) (hP : va_P z.1 vwCl (pw (xd z b) 339 b M) H) (hS : va_S (pA 339 b) s.heap H locs) (hl : lv_has ls 2 [(0, .ref (b + 11)), (1, .int i1)]) : W p l e rm2_standsStill s m args below meth c H locs 0 0 (MQ below (va_Qi (fun (r' : Int32) (M2 : Mem) => r' = r ∧ M2 = M') (fun M2 t => va_P z.1 vwCl (pw (xd z b) 339 b M2) t.heap) (pA 339 b)) args s 0 0 (pA 339 b)) (F0 m 41 ls []) := by
  have hx := C.1.1
  have hb := C.1.2.1
  unfold b2_standsStill_41 at hf
  obtain ⟨v9, ev9⟩ : ∃ v : Int32, v = i1 + (1 : Int32) := ⟨_, rfl⟩
  replace hf := lt_c ev9 hf
  refine lv_iinc (v := v9) (lv' := [(1, .int v9), (0, .ref (b + 11))]) hx hb dX2_standsStill_41 hl (k := 1) rfl (by rw [ev9]; rfl) (by decide) rfl (fun ls hl => ?_)
  refine lv_goto (tgt := 2) hx hb dX2_standsStill_44 (by decide) ?_
  exact q2 v9 M _ _ _ hf hP hS (lv_sub hl [1, 0] rfl)
set_option maxHeartbeats 4000000 in
set_option maxRecDepth 100000 in
theorem w2_standsStill_2 {p : Program} {l : Launch} {e : Env} {s : State} {m : MethodId} {args : Array Value} {below : List Frame} {meth : Method} {c : Code} {z : Zt} {b : Nat}  (C : Cx p s m args c cX2_standsStill 2 RX2 z 339 b) (hr : meth.sig.returnType = (some .boolean)) (hk : meth.locks = false) {r : Int32} {M' : Mem} {rc : Nat → List Int32 → List Int64 → Mem → Option (Int32 × Mem)} {n : Nat} (q2 : ∀ (i1 : Int32) (M : Mem) (H : Heap) (locs : List Loc) (ls : Array Slot), rc 2 [i1] [] M = some (r, M') → va_P z.1 vwCl (pw (xd z b) 339 b M) H → va_S (pA 339 b) s.heap H locs → lv_has ls 2 [(0, .ref (b + 11)), (1, .int i1)] → W p l e rm2_standsStill s m args below meth c H locs 0 0 (MQ below (va_Qi (fun (r' : Int32) (M2 : Mem) => r' = r ∧ M2 = M') (fun M2 t => va_P z.1 vwCl (pw (xd z b) 339 b M2) t.heap) (pA 339 b)) args s 0 0 (pA 339 b)) (F0 m 2 ls [])) {i1 : Int32} {M : Mem} {H : Heap} {locs : List Loc} {ls : Array Slot} (hf : b2_standsStill_2  rc n i1 M = some (r, M')) (hP : va_P z.1 vwCl (pw (xd z b) 339 b M) H) (hS : va_S (pA 339 b) s.heap H locs) (hl : lv_has ls 2 [(0, .ref (b + 11)), (1, .int i1)]) : W p l e rm2_standsStill s m args below meth c H locs 0 0 (MQ below (va_Qi (fun (r' : Int32) (M2 : Mem) => r' = r ∧ M2 = M') (fun M2 t => va_P z.1 vwCl (pw (xd z b) 339 b M2) t.heap) (pA 339 b)) args s 0 0 (pA 339 b)) (F0 m 2 ls []) := by
  have hx := C.1.1
  have hb := C.1.2.1
  unfold b2_standsStill_2 at hf
  refine lv_iload_n hx hb dX2_standsStill_2 rfl (lv_at hl 1 rfl) ?_
  refine lv_aload_n hx hb dX2_standsStill_3 rfl (lv_at hl 0 rfl) ?_
  refine pg C hP (k := 11) (j := 3) (Nat.le_of_ble_eq_true rfl) (xd_11 _ _) rfl iw_2 (Nat.le_of_ble_eq_true rfl) g_128 rfl rfl dX2_standsStill_4 ?_
  refine lv_icmp_ge (tgt := 47) hx hb dX2_standsStill_7 (by decide) (fun c1 => ?_) (fun c1 => ?_)
  · replace hf := ite_t c1 hf
    exact w2_standsStill_47 (n := n)  C hr hk q2 hf hP hS (lv_sub hl [] rfl)
  · replace hf := ite_f c1 hf
    refine lv_iload_n hx hb dX2_standsStill_10 rfl (lv_at hl 1 rfl) ?_
    refine lv_bipush (v := (16 : Int32)) hx hb dX2_standsStill_11 (by decide) ?_
    refine lv_icmp_ge (tgt := 47) hx hb dX2_standsStill_13 (by decide) (fun c2 => ?_) (fun c2 => ?_)
    · replace hf := ite_t c2 hf
      exact w2_standsStill_47 (n := n)  C hr hk q2 hf hP hS (lv_sub hl [] rfl)
    · replace hf := ite_f c2 hf
      refine lv_aload_n hx hb dX2_standsStill_16 rfl (lv_at hl 0 rfl) ?_
      refine pg C hP (k := 11) (j := 2) (Nat.le_of_ble_eq_true rfl) (xd_11 _ _) rfl iw_2 (Nat.le_of_ble_eq_true rfl) g_127 rfl rfl dX2_standsStill_17 ?_
      refine lv_iload_n hx hb dX2_standsStill_20 rfl (lv_at hl 1 rfl) ?_
      have h3 := chk_1 hf
      replace hf := chk_2 hf
      refine paI C hP (k := 14) (Nat.le_of_ble_eq_true rfl) (xd_14 _ _) h3 dX2_standsStill_21 ?_
      refine lv_bipush (v := (115 : Int32)) hx hb dX2_standsStill_22 (by decide) ?_
      refine lv_icmp_ne (tgt := 41) hx hb dX2_standsStill_24 (by decide) (fun c4 => ?_) (fun c4 => ?_)
      · replace hf := ite_f c4 hf
        exact w2_standsStill_41 (n := n)  C hr hk q2 hf hP hS (lv_sub hl [0, 1] rfl)
      · replace hf := ite_t c4 hf
        refine lv_aload_n hx hb dX2_standsStill_27 rfl (lv_at hl 0 rfl) ?_
        refine lv_iconst (v := (2 : Int32)) hx hb dX2_standsStill_28 (by decide) ?_
        refine lv_iload_n hx hb dX2_standsStill_29 rfl (lv_at hl 1 rfl) ?_
        refine lv_imul hx hb dX2_standsStill_30 ?_
        refine lv_iconst (v := (1 : Int32)) hx hb dX2_standsStill_31 (by decide) ?_
        refine lv_iadd hx hb dX2_standsStill_32 ?_
        obtain ⟨r5, M6, h7, hf⟩ := bnd_s hf
        refine pcVi (As := [.int (((2 : Int32) * i1) + (1 : Int32))]) C hP hS (k := 11) (Nat.le_of_ble_eq_true rfl) (xd_11 _ _) rfl (c2_reckon  h7) y2_reckon_w g_746 rfl rfl rfl ⟨Nat.le_of_ble_eq_true rfl, Nat.le_of_ble_eq_true rfl⟩ hl.1 rfl (Nat.le_of_ble_eq_true rfl) dX2_standsStill_33 ⟨Nat.le_of_ble_eq_true rfl, Nat.le_of_ble_eq_true rfl⟩ (fun H locs hP hS => ?_)
        refine lv_if_eq (tgt := 41) hx hb dX2_standsStill_36 (by decide) (fun c8 => ?_) (fun c8 => ?_)
        · replace hf := ite_t c8 hf
          exact w2_standsStill_41 (n := n)  C hr hk q2 hf hP hS (lv_sub hl [0, 1] rfl)
        · replace hf := ite_f c8 hf
          refine lv_iconst (v := (1 : Int32)) hx hb dX2_standsStill_39 (by decide) ?_
          exact prZ C hr hk hP hS hf rfl dX2_standsStill_40
set_option maxHeartbeats 4000000 in
set_option maxRecDepth 100000 in
theorem w2_standsStill_0 {p : Program} {l : Launch} {e : Env} {s : State} {m : MethodId} {args : Array Value} {below : List Frame} {meth : Method} {c : Code} {z : Zt} {b : Nat}  (C : Cx p s m args c cX2_standsStill 2 RX2 z 339 b) (hr : meth.sig.returnType = (some .boolean)) (hk : meth.locks = false) {r : Int32} {M' : Mem} {rc : Nat → List Int32 → List Int64 → Mem → Option (Int32 × Mem)} {n : Nat} (q2 : ∀ (i1 : Int32) (M : Mem) (H : Heap) (locs : List Loc) (ls : Array Slot), rc 2 [i1] [] M = some (r, M') → va_P z.1 vwCl (pw (xd z b) 339 b M) H → va_S (pA 339 b) s.heap H locs → lv_has ls 2 [(0, .ref (b + 11)), (1, .int i1)] → W p l e rm2_standsStill s m args below meth c H locs 0 0 (MQ below (va_Qi (fun (r' : Int32) (M2 : Mem) => r' = r ∧ M2 = M') (fun M2 t => va_P z.1 vwCl (pw (xd z b) 339 b M2) t.heap) (pA 339 b)) args s 0 0 (pA 339 b)) (F0 m 2 ls []))  {M : Mem} {H : Heap} {locs : List Loc} {ls : Array Slot} (hf : b2_standsStill_0  rc n  M = some (r, M')) (hP : va_P z.1 vwCl (pw (xd z b) 339 b M) H) (hS : va_S (pA 339 b) s.heap H locs) (hl : lv_has ls 2 [(0, .ref (b + 11))]) : W p l e rm2_standsStill s m args below meth c H locs 0 0 (MQ below (va_Qi (fun (r' : Int32) (M2 : Mem) => r' = r ∧ M2 = M') (fun M2 t => va_P z.1 vwCl (pw (xd z b) 339 b M2) t.heap) (pA 339 b)) args s 0 0 (pA 339 b)) (F0 m 0 ls []) := by
  have hx := C.1.1
  have hb := C.1.2.1
  unfold b2_standsStill_0 at hf
  refine lv_iconst (v := (0 : Int32)) hx hb dX2_standsStill_0 (by decide) ?_
  refine lv_istore_n (lv' := [(1, .int (0 : Int32)), (0, .ref (b + 11))]) hx hb dX2_standsStill_1 rfl hl (by decide) rfl (fun ls hl => ?_)
  exact w2_standsStill_2 (n := n)  C hr hk q2 hf hP hS (lv_sub hl [1, 0] rfl)
set_option maxHeartbeats 4000000 in
set_option maxRecDepth 100000 in
theorem l2_standsStill {p : Program} {l : Launch} {e : Env} {s : State} {m : MethodId} {args : Array Value} {below : List Frame} {meth : Method} {c : Code} {z : Zt} {b : Nat}  (C : Cx p s m args c cX2_standsStill 2 RX2 z 339 b) (hr : meth.sig.returnType = (some .boolean)) (hk : meth.locks = false) {r : Int32} {M' : Mem} (n : Nat) : (∀ (i1 : Int32) (M : Mem) (H : Heap) (locs : List Loc) (ls : Array Slot), (r2_standsStill  n) 2 [i1] [] M = some (r, M') → va_P z.1 vwCl (pw (xd z b) 339 b M) H → va_S (pA 339 b) s.heap H locs → lv_has ls 2 [(0, .ref (b + 11)), (1, .int i1)] → W p l e rm2_standsStill s m args below meth c H locs 0 0 (MQ below (va_Qi (fun (r' : Int32) (M2 : Mem) => r' = r ∧ M2 = M') (fun M2 t => va_P z.1 vwCl (pw (xd z b) 339 b M2) t.heap) (pA 339 b)) args s 0 0 (pA 339 b)) (F0 m 2 ls [])) := by
  induction n with
  | zero => exact fun _ _ _ _ _ hf => (by cases hf)
  | succ n ih => exact fun _ _ _ _ _ hf hP hS hl => w2_standsStill_2 (n := n)  C hr hk ih ((e2_standsStill_2  n _ _).symm.trans hf) hP hS hl
theorem c2_standsStill {l : Launch} {z : Zt} {b n : Nat}   {M M' : Mem} {r : Int32} (hf : f2_standsStill n   M = some (r, M')) : CI l z (xd z b) 339 b yX2_standsStill cX2_standsStill 2 (some .boolean) rm2_standsStill [.ref (b + 11)] M M' r :=
  CI.ofW (lv := [(0, .ref (b + 11))]) (by decide) (Nat.le_of_ble_eq_true rfl) rfl (fun p e s m args below meth c ls C hr hk hP hS hl => w2_standsStill_0 (n := n)  C hr hk (l2_standsStill  C hr hk n) hf hP hS hl)

-- BronzeKing$Law.setMinute(II)V
theorem dX2_setMinute_0 : decode cX2_setMinute 0 = .ok (.aload_n 0, 1) := by decide +kernel
theorem dX2_setMinute_1 : decode cX2_setMinute 1 = .ok (.getfield 25, 3) := by decide +kernel
theorem dX2_setMinute_4 : decode cX2_setMinute 4 = .ok (.iconst 2, 1) := by decide +kernel
theorem dX2_setMinute_5 : decode cX2_setMinute 5 = .ok (.iload_n 1, 1) := by decide +kernel
theorem dX2_setMinute_6 : decode cX2_setMinute 6 = .ok (.iastore, 1) := by decide +kernel
theorem dX2_setMinute_7 : decode cX2_setMinute 7 = .ok (.aload_n 0, 1) := by decide +kernel
theorem dX2_setMinute_8 : decode cX2_setMinute 8 = .ok (.getfield 25, 3) := by decide +kernel
theorem dX2_setMinute_11 : decode cX2_setMinute 11 = .ok (.bipush 8, 2) := by decide +kernel
theorem dX2_setMinute_13 : decode cX2_setMinute 13 = .ok (.iload_n 2, 1) := by decide +kernel
theorem dX2_setMinute_14 : decode cX2_setMinute 14 = .ok (.iastore, 1) := by decide +kernel
theorem dX2_setMinute_15 : decode cX2_setMinute 15 = .ok (.return_, 1) := by decide +kernel
def b2_setMinute_0 (rc : Nat → List Int32 → List Int64 → Mem → Option (Unit × Mem)) (n : Nat) (a1 : Int32) (a2 : Int32) (M : Mem) : Option (Unit × Mem) :=
  chk (inb (2 : Int32) 9) <|
  lt (wI M 15 (2 : Int32).toNatClampNeg a1) fun M2 =>
  chk (inb (8 : Int32) 9) <|
  lt (wI M2 15 (8 : Int32).toNatClampNeg a2) fun M4 =>
  some ((), M4)
def f2_setMinute (n : Nat) (a1 : Int32) (a2 : Int32) (M : Mem) : Option (Unit × Mem) := b2_setMinute_0 (fun _ _ _ _ => none) n a1 a2 M
abbrev rm2_setMinute : Room := { frames := 0, cells := 0, slots := 0, locals := 0 }
theorem y2_setMinute_w : yV RX2 yX2_setMinute cX2_setMinute 3 none 2 := ⟨g_775, g_776, g_6, g_777, rfl, by decide, by decide, by decide +kernel⟩
set_option maxHeartbeats 4000000 in
set_option maxRecDepth 100000 in
theorem w2_setMinute_0 {p : Program} {l : Launch} {e : Env} {s : State} {m : MethodId} {args : Array Value} {below : List Frame} {meth : Method} {c : Code} {z : Zt} {b : Nat}  (C : Cx p s m args c cX2_setMinute 3 RX2 z 339 b) (hr : meth.sig.returnType = none) (hk : meth.locks = false) {r : Unit} {M' : Mem} {rc : Nat → List Int32 → List Int64 → Mem → Option (Unit × Mem)} {n : Nat}  {a1 : Int32} {a2 : Int32} {M : Mem} {H : Heap} {locs : List Loc} {ls : Array Slot} (hf : b2_setMinute_0  rc n a1 a2 M = some (r, M')) (hP : va_P z.1 vwCl (pw (xd z b) 339 b M) H) (hS : va_S (pA 339 b) s.heap H locs) (hl : lv_has ls 3 [(0, .ref (b + 11)), (1, .int a1), (2, .int a2)]) : W p l e rm2_setMinute s m args below meth c H locs 0 0 (MQ below (va_Qv (fun (M2 : Mem) => M2 = M') (fun M2 t => va_P z.1 vwCl (pw (xd z b) 339 b M2) t.heap) (pA 339 b)) args s 0 0 (pA 339 b)) (F0 m 0 ls []) := by
  have hx := C.1.1
  have hb := C.1.2.1
  unfold b2_setMinute_0 at hf
  refine lv_aload_n hx hb dX2_setMinute_0 rfl (lv_at hl 0 rfl) ?_
  refine pg C hP (k := 11) (j := 4) (Nat.le_of_ble_eq_true rfl) (xd_11 _ _) rfl iw_2 (Nat.le_of_ble_eq_true rfl) g_130 rfl rfl dX2_setMinute_1 ?_
  refine lv_iconst (v := (2 : Int32)) hx hb dX2_setMinute_4 (by decide) ?_
  refine lv_iload_n hx hb dX2_setMinute_5 rfl (lv_at hl 1 rfl) ?_
  have h1 := chk_1 hf
  replace hf := chk_2 hf
  refine psI C hP hS (k := 15) (Nat.le_of_ble_eq_true rfl) (xd_15) h1 dX2_setMinute_6 (fun M2 H locs eM2 hP hS => ?_)
  replace hf := lt_c eM2 hf
  refine lv_aload_n hx hb dX2_setMinute_7 rfl (lv_at hl 0 rfl) ?_
  refine pg C hP (k := 11) (j := 4) (Nat.le_of_ble_eq_true rfl) (xd_11 _ _) rfl iw_2 (Nat.le_of_ble_eq_true rfl) g_130 rfl rfl dX2_setMinute_8 ?_
  refine lv_bipush (v := (8 : Int32)) hx hb dX2_setMinute_11 (by decide) ?_
  refine lv_iload_n hx hb dX2_setMinute_13 rfl (lv_at hl 2 rfl) ?_
  have h3 := chk_1 hf
  replace hf := chk_2 hf
  refine psI C hP hS (k := 15) (Nat.le_of_ble_eq_true rfl) (xd_15) h3 dX2_setMinute_14 (fun M4 H locs eM4 hP hS => ?_)
  replace hf := lt_c eM4 hf
  exact prV C hr hk hP hS hf dX2_setMinute_15
theorem c2_setMinute {l : Launch} {z : Zt} {b n : Nat}  {a1 : Int32} {a2 : Int32} {M M' : Mem} {r : Unit} (hf : f2_setMinute n  a1 a2 M = some (r, M')) : CV l z (xd z b) 339 b yX2_setMinute cX2_setMinute 3 none rm2_setMinute [.ref (b + 11), .int a1, .int a2] M M' :=
  CV.ofW (lv := [(0, .ref (b + 11)), (1, .int a1), (2, .int a2)]) (by decide) (Nat.le_of_ble_eq_true rfl) rfl (fun p e s m args below meth c ls C hr hk hP hS hl => w2_setMinute_0 (n := n)  C hr hk  hf hP hS hl)

-- BronzeKing$Law.setPlace(IIII)V
theorem dX2_setPlace_0 : decode cX2_setPlace 0 = .ok (.aload_n 0, 1) := by decide +kernel
theorem dX2_setPlace_1 : decode cX2_setPlace 1 = .ok (.getfield 25, 3) := by decide +kernel
theorem dX2_setPlace_4 : decode cX2_setPlace 4 = .ok (.iconst 3, 1) := by decide +kernel
theorem dX2_setPlace_5 : decode cX2_setPlace 5 = .ok (.iload_n 1, 1) := by decide +kernel
theorem dX2_setPlace_6 : decode cX2_setPlace 6 = .ok (.bipush 12, 2) := by decide +kernel
theorem dX2_setPlace_8 : decode cX2_setPlace 8 = .ok (.irem, 1) := by decide +kernel
theorem dX2_setPlace_9 : decode cX2_setPlace 9 = .ok (.iastore, 1) := by decide +kernel
theorem dX2_setPlace_10 : decode cX2_setPlace 10 = .ok (.aload_n 0, 1) := by decide +kernel
theorem dX2_setPlace_11 : decode cX2_setPlace 11 = .ok (.getfield 25, 3) := by decide +kernel
theorem dX2_setPlace_14 : decode cX2_setPlace 14 = .ok (.iconst 4, 1) := by decide +kernel
theorem dX2_setPlace_15 : decode cX2_setPlace 15 = .ok (.iload_n 1, 1) := by decide +kernel
theorem dX2_setPlace_16 : decode cX2_setPlace 16 = .ok (.bipush 12, 2) := by decide +kernel
theorem dX2_setPlace_18 : decode cX2_setPlace 18 = .ok (.idiv, 1) := by decide +kernel
theorem dX2_setPlace_19 : decode cX2_setPlace 19 = .ok (.iastore, 1) := by decide +kernel
theorem dX2_setPlace_20 : decode cX2_setPlace 20 = .ok (.aload_n 0, 1) := by decide +kernel
theorem dX2_setPlace_21 : decode cX2_setPlace 21 = .ok (.getfield 25, 3) := by decide +kernel
theorem dX2_setPlace_24 : decode cX2_setPlace 24 = .ok (.iconst 5, 1) := by decide +kernel
theorem dX2_setPlace_25 : decode cX2_setPlace 25 = .ok (.iload_n 2, 1) := by decide +kernel
theorem dX2_setPlace_26 : decode cX2_setPlace 26 = .ok (.iastore, 1) := by decide +kernel
theorem dX2_setPlace_27 : decode cX2_setPlace 27 = .ok (.aload_n 0, 1) := by decide +kernel
theorem dX2_setPlace_28 : decode cX2_setPlace 28 = .ok (.getfield 25, 3) := by decide +kernel
theorem dX2_setPlace_31 : decode cX2_setPlace 31 = .ok (.bipush 6, 2) := by decide +kernel
theorem dX2_setPlace_33 : decode cX2_setPlace 33 = .ok (.iload_n 3, 1) := by decide +kernel
theorem dX2_setPlace_34 : decode cX2_setPlace 34 = .ok (.iastore, 1) := by decide +kernel
theorem dX2_setPlace_35 : decode cX2_setPlace 35 = .ok (.aload_n 0, 1) := by decide +kernel
theorem dX2_setPlace_36 : decode cX2_setPlace 36 = .ok (.getfield 25, 3) := by decide +kernel
theorem dX2_setPlace_39 : decode cX2_setPlace 39 = .ok (.bipush 7, 2) := by decide +kernel
theorem dX2_setPlace_41 : decode cX2_setPlace 41 = .ok (.iload 4, 2) := by decide +kernel
theorem dX2_setPlace_43 : decode cX2_setPlace 43 = .ok (.iastore, 1) := by decide +kernel
theorem dX2_setPlace_44 : decode cX2_setPlace 44 = .ok (.return_, 1) := by decide +kernel
def b2_setPlace_0 (rc : Nat → List Int32 → List Int64 → Mem → Option (Unit × Mem)) (n : Nat) (a1 : Int32) (a2 : Int32) (a3 : Int32) (a4 : Int32) (M : Mem) : Option (Unit × Mem) :=
  chk (inb (3 : Int32) 9) <|
  lt (wI M 15 (3 : Int32).toNatClampNeg (a1 - a1 / (12 : Int32) * (12 : Int32))) fun M2 =>
  chk (inb (4 : Int32) 9) <|
  lt (wI M2 15 (4 : Int32).toNatClampNeg (a1 / (12 : Int32))) fun M4 =>
  chk (inb (5 : Int32) 9) <|
  lt (wI M4 15 (5 : Int32).toNatClampNeg a2) fun M6 =>
  chk (inb (6 : Int32) 9) <|
  lt (wI M6 15 (6 : Int32).toNatClampNeg a3) fun M8 =>
  chk (inb (7 : Int32) 9) <|
  lt (wI M8 15 (7 : Int32).toNatClampNeg a4) fun M10 =>
  some ((), M10)
def f2_setPlace (n : Nat) (a1 : Int32) (a2 : Int32) (a3 : Int32) (a4 : Int32) (M : Mem) : Option (Unit × Mem) := b2_setPlace_0 (fun _ _ _ _ => none) n a1 a2 a3 a4 M
abbrev rm2_setPlace : Room := { frames := 0, cells := 0, slots := 0, locals := 0 }
theorem y2_setPlace_w : yV RX2 yX2_setPlace cX2_setPlace 5 none 4 := ⟨g_791, g_792, g_6, g_793, rfl, by decide, by decide, by decide +kernel⟩
set_option maxHeartbeats 4000000 in
set_option maxRecDepth 100000 in
theorem w2_setPlace_0 {p : Program} {l : Launch} {e : Env} {s : State} {m : MethodId} {args : Array Value} {below : List Frame} {meth : Method} {c : Code} {z : Zt} {b : Nat}  (C : Cx p s m args c cX2_setPlace 5 RX2 z 339 b) (hr : meth.sig.returnType = none) (hk : meth.locks = false) {r : Unit} {M' : Mem} {rc : Nat → List Int32 → List Int64 → Mem → Option (Unit × Mem)} {n : Nat}  {a1 : Int32} {a2 : Int32} {a3 : Int32} {a4 : Int32} {M : Mem} {H : Heap} {locs : List Loc} {ls : Array Slot} (hf : b2_setPlace_0  rc n a1 a2 a3 a4 M = some (r, M')) (hP : va_P z.1 vwCl (pw (xd z b) 339 b M) H) (hS : va_S (pA 339 b) s.heap H locs) (hl : lv_has ls 5 [(0, .ref (b + 11)), (1, .int a1), (2, .int a2), (3, .int a3), (4, .int a4)]) : W p l e rm2_setPlace s m args below meth c H locs 0 0 (MQ below (va_Qv (fun (M2 : Mem) => M2 = M') (fun M2 t => va_P z.1 vwCl (pw (xd z b) 339 b M2) t.heap) (pA 339 b)) args s 0 0 (pA 339 b)) (F0 m 0 ls []) := by
  have hx := C.1.1
  have hb := C.1.2.1
  unfold b2_setPlace_0 at hf
  refine lv_aload_n hx hb dX2_setPlace_0 rfl (lv_at hl 0 rfl) ?_
  refine pg C hP (k := 11) (j := 4) (Nat.le_of_ble_eq_true rfl) (xd_11 _ _) rfl iw_2 (Nat.le_of_ble_eq_true rfl) g_130 rfl rfl dX2_setPlace_1 ?_
  refine lv_iconst (v := (3 : Int32)) hx hb dX2_setPlace_4 (by decide) ?_
  refine lv_iload_n hx hb dX2_setPlace_5 rfl (lv_at hl 1 rfl) ?_
  refine lv_bipush (v := (12 : Int32)) hx hb dX2_setPlace_6 (by decide) ?_
  refine lv_irem hx hb dX2_setPlace_8 (by decide) ?_
  have h1 := chk_1 hf
  replace hf := chk_2 hf
  refine psI C hP hS (k := 15) (Nat.le_of_ble_eq_true rfl) (xd_15) h1 dX2_setPlace_9 (fun M2 H locs eM2 hP hS => ?_)
  replace hf := lt_c eM2 hf
  refine lv_aload_n hx hb dX2_setPlace_10 rfl (lv_at hl 0 rfl) ?_
  refine pg C hP (k := 11) (j := 4) (Nat.le_of_ble_eq_true rfl) (xd_11 _ _) rfl iw_2 (Nat.le_of_ble_eq_true rfl) g_130 rfl rfl dX2_setPlace_11 ?_
  refine lv_iconst (v := (4 : Int32)) hx hb dX2_setPlace_14 (by decide) ?_
  refine lv_iload_n hx hb dX2_setPlace_15 rfl (lv_at hl 1 rfl) ?_
  refine lv_bipush (v := (12 : Int32)) hx hb dX2_setPlace_16 (by decide) ?_
  refine lv_idiv hx hb dX2_setPlace_18 (by decide) ?_
  have h3 := chk_1 hf
  replace hf := chk_2 hf
  refine psI C hP hS (k := 15) (Nat.le_of_ble_eq_true rfl) (xd_15) h3 dX2_setPlace_19 (fun M4 H locs eM4 hP hS => ?_)
  replace hf := lt_c eM4 hf
  refine lv_aload_n hx hb dX2_setPlace_20 rfl (lv_at hl 0 rfl) ?_
  refine pg C hP (k := 11) (j := 4) (Nat.le_of_ble_eq_true rfl) (xd_11 _ _) rfl iw_2 (Nat.le_of_ble_eq_true rfl) g_130 rfl rfl dX2_setPlace_21 ?_
  refine lv_iconst (v := (5 : Int32)) hx hb dX2_setPlace_24 (by decide) ?_
  refine lv_iload_n hx hb dX2_setPlace_25 rfl (lv_at hl 2 rfl) ?_
  have h5 := chk_1 hf
  replace hf := chk_2 hf
  refine psI C hP hS (k := 15) (Nat.le_of_ble_eq_true rfl) (xd_15) h5 dX2_setPlace_26 (fun M6 H locs eM6 hP hS => ?_)
  replace hf := lt_c eM6 hf
  refine lv_aload_n hx hb dX2_setPlace_27 rfl (lv_at hl 0 rfl) ?_
  refine pg C hP (k := 11) (j := 4) (Nat.le_of_ble_eq_true rfl) (xd_11 _ _) rfl iw_2 (Nat.le_of_ble_eq_true rfl) g_130 rfl rfl dX2_setPlace_28 ?_
  refine lv_bipush (v := (6 : Int32)) hx hb dX2_setPlace_31 (by decide) ?_
  refine lv_iload_n hx hb dX2_setPlace_33 rfl (lv_at hl 3 rfl) ?_
  have h7 := chk_1 hf
  replace hf := chk_2 hf
  refine psI C hP hS (k := 15) (Nat.le_of_ble_eq_true rfl) (xd_15) h7 dX2_setPlace_34 (fun M8 H locs eM8 hP hS => ?_)
  replace hf := lt_c eM8 hf
  refine lv_aload_n hx hb dX2_setPlace_35 rfl (lv_at hl 0 rfl) ?_
  refine pg C hP (k := 11) (j := 4) (Nat.le_of_ble_eq_true rfl) (xd_11 _ _) rfl iw_2 (Nat.le_of_ble_eq_true rfl) g_130 rfl rfl dX2_setPlace_36 ?_
  refine lv_bipush (v := (7 : Int32)) hx hb dX2_setPlace_39 (by decide) ?_
  refine lv_iload hx hb dX2_setPlace_41 (lv_at hl 4 rfl) ?_
  have h9 := chk_1 hf
  replace hf := chk_2 hf
  refine psI C hP hS (k := 15) (Nat.le_of_ble_eq_true rfl) (xd_15) h9 dX2_setPlace_43 (fun M10 H locs eM10 hP hS => ?_)
  replace hf := lt_c eM10 hf
  exact prV C hr hk hP hS hf dX2_setPlace_44
theorem c2_setPlace {l : Launch} {z : Zt} {b n : Nat}  {a1 : Int32} {a2 : Int32} {a3 : Int32} {a4 : Int32} {M M' : Mem} {r : Unit} (hf : f2_setPlace n  a1 a2 a3 a4 M = some (r, M')) : CV l z (xd z b) 339 b yX2_setPlace cX2_setPlace 5 none rm2_setPlace [.ref (b + 11), .int a1, .int a2, .int a3, .int a4] M M' :=
  CV.ofW (lv := [(0, .ref (b + 11)), (1, .int a1), (2, .int a2), (3, .int a3), (4, .int a4)]) (by decide) (Nat.le_of_ble_eq_true rfl) rfl (fun p e s m args below meth c ls C hr hk hP hS hl => w2_setPlace_0 (n := n)  C hr hk  hf hP hS hl)
